section
/-- a private method of a class that the tables say can be made, by its rows of tables_1 -/
def lw_okq (q : MethodName × Nat) : Prop := (q.1.cls ≠ "java/lang/invoke/MethodHandle" ∧ q.1.cls ≠ "java/lang/invoke/VarHandle") ∧ Cond.instantiable q.1.cls q.2 ∈ tables_1 ∧ Cond.privateMethod q.1 ∈ tables_1 ∧ Cond.instanceMethod q.1 ∈ tables_1
theorem lw_p0 : lw_okq (⟨"SleepMint$Reader", "isGood", "()Z"⟩, 7) := ⟨⟨by decide +kernel, by decide +kernel⟩, List.mem_of_getElem? (i := 154) (by decide +kernel), List.mem_of_getElem? (i := 344) (by decide +kernel), List.mem_of_getElem? (i := 345) (by decide +kernel)⟩
theorem lw_p1 : lw_okq (⟨"SleepMint$Reader", "peek", "()I"⟩, 7) := ⟨⟨by decide +kernel, by decide +kernel⟩, List.mem_of_getElem? (i := 154) (by decide +kernel), List.mem_of_getElem? (i := 348) (by decide +kernel), List.mem_of_getElem? (i := 349) (by decide +kernel)⟩
theorem lw_p2 : lw_okq (⟨"SleepMint$Reader", "readClause", "()V"⟩, 7) := ⟨⟨by decide +kernel, by decide +kernel⟩, List.mem_of_getElem? (i := 154) (by decide +kernel), List.mem_of_getElem? (i := 352) (by decide +kernel), List.mem_of_getElem? (i := 353) (by decide +kernel)⟩
theorem lw_p3 : lw_okq (⟨"SleepMint$Reader", "fail", "(II)V"⟩, 7) := ⟨⟨by decide +kernel, by decide +kernel⟩, List.mem_of_getElem? (i := 154) (by decide +kernel), List.mem_of_getElem? (i := 356) (by decide +kernel), List.mem_of_getElem? (i := 357) (by decide +kernel)⟩
theorem lw_p4 : lw_okq (⟨"SleepMint$Reader", "readBeds", "()V"⟩, 7) := ⟨⟨by decide +kernel, by decide +kernel⟩, List.mem_of_getElem? (i := 154) (by decide +kernel), List.mem_of_getElem? (i := 360) (by decide +kernel), List.mem_of_getElem? (i := 361) (by decide +kernel)⟩
theorem lw_p5 : lw_okq (⟨"SleepMint$Reader", "stepOverWord", "(Z)V"⟩, 7) := ⟨⟨by decide +kernel, by decide +kernel⟩, List.mem_of_getElem? (i := 154) (by decide +kernel), List.mem_of_getElem? (i := 364) (by decide +kernel), List.mem_of_getElem? (i := 365) (by decide +kernel)⟩
theorem lw_p6 : lw_okq (⟨"SleepMint$Reader", "readNumber", "(II)I"⟩, 7) := ⟨⟨by decide +kernel, by decide +kernel⟩, List.mem_of_getElem? (i := 154) (by decide +kernel), List.mem_of_getElem? (i := 368) (by decide +kernel), List.mem_of_getElem? (i := 369) (by decide +kernel)⟩
theorem lw_p7 : lw_okq (⟨"SleepMint$Reader", "readPerson", "()V"⟩, 7) := ⟨⟨by decide +kernel, by decide +kernel⟩, List.mem_of_getElem? (i := 154) (by decide +kernel), List.mem_of_getElem? (i := 376) (by decide +kernel), List.mem_of_getElem? (i := 377) (by decide +kernel)⟩
theorem lw_p8 : lw_okq (⟨"SleepMint$Reader", "readDoing", "()I"⟩, 7) := ⟨⟨by decide +kernel, by decide +kernel⟩, List.mem_of_getElem? (i := 154) (by decide +kernel), List.mem_of_getElem? (i := 380) (by decide +kernel), List.mem_of_getElem? (i := 381) (by decide +kernel)⟩
theorem lw_p9 : lw_okq (⟨"SleepMint$Reader", "readCoin", "()V"⟩, 7) := ⟨⟨by decide +kernel, by decide +kernel⟩, List.mem_of_getElem? (i := 154) (by decide +kernel), List.mem_of_getElem? (i := 384) (by decide +kernel), List.mem_of_getElem? (i := 385) (by decide +kernel)⟩
theorem lw_p10 : lw_okq (⟨"SleepMint$Reader", "readDebt", "()V"⟩, 7) := ⟨⟨by decide +kernel, by decide +kernel⟩, List.mem_of_getElem? (i := 154) (by decide +kernel), List.mem_of_getElem? (i := 392) (by decide +kernel), List.mem_of_getElem? (i := 393) (by decide +kernel)⟩
theorem lw_p11 : lw_okq (⟨"SleepMint$Reader", "readYawn", "()V"⟩, 7) := ⟨⟨by decide +kernel, by decide +kernel⟩, List.mem_of_getElem? (i := 154) (by decide +kernel), List.mem_of_getElem? (i := 396) (by decide +kernel), List.mem_of_getElem? (i := 397) (by decide +kernel)⟩
theorem lw_p12 : lw_okq (⟨"SleepMint$Reader", "expect", "(I)V"⟩, 7) := ⟨⟨by decide +kernel, by decide +kernel⟩, List.mem_of_getElem? (i := 154) (by decide +kernel), List.mem_of_getElem? (i := 403) (by decide +kernel), List.mem_of_getElem? (i := 404) (by decide +kernel)⟩
theorem lw_p13 : lw_okq (⟨"SleepMint", "isPerson", "(I)Z"⟩, 12) := ⟨⟨by decide +kernel, by decide +kernel⟩, List.mem_of_getElem? (i := 12) (by decide +kernel), List.mem_of_getElem? (i := 438) (by decide +kernel), List.mem_of_getElem? (i := 439) (by decide +kernel)⟩
theorem lw_p14 : lw_okq (⟨"SleepMint", "debtState", "(I)I"⟩, 12) := ⟨⟨by decide +kernel, by decide +kernel⟩, List.mem_of_getElem? (i := 12) (by decide +kernel), List.mem_of_getElem? (i := 455) (by decide +kernel), List.mem_of_getElem? (i := 456) (by decide +kernel)⟩
theorem lw_p15 : lw_okq (⟨"SleepMint", "refusalOfHours", "(I)I"⟩, 12) := ⟨⟨by decide +kernel, by decide +kernel⟩, List.mem_of_getElem? (i := 12) (by decide +kernel), List.mem_of_getElem? (i := 464) (by decide +kernel), List.mem_of_getElem? (i := 465) (by decide +kernel)⟩
def lw_privs_1 : List (MethodName × Nat) := [(⟨"SleepMint$Reader", "isGood", "()Z"⟩, 7), (⟨"SleepMint$Reader", "peek", "()I"⟩, 7), (⟨"SleepMint$Reader", "readClause", "()V"⟩, 7), (⟨"SleepMint$Reader", "fail", "(II)V"⟩, 7), (⟨"SleepMint$Reader", "readBeds", "()V"⟩, 7), (⟨"SleepMint$Reader", "stepOverWord", "(Z)V"⟩, 7), (⟨"SleepMint$Reader", "readNumber", "(II)I"⟩, 7), (⟨"SleepMint$Reader", "readPerson", "()V"⟩, 7), (⟨"SleepMint$Reader", "readDoing", "()I"⟩, 7), (⟨"SleepMint$Reader", "readCoin", "()V"⟩, 7), (⟨"SleepMint$Reader", "readDebt", "()V"⟩, 7), (⟨"SleepMint$Reader", "readYawn", "()V"⟩, 7), (⟨"SleepMint$Reader", "expect", "(I)V"⟩, 7), (⟨"SleepMint", "isPerson", "(I)Z"⟩, 12), (⟨"SleepMint", "debtState", "(I)I"⟩, 12), (⟨"SleepMint", "refusalOfHours", "(I)I"⟩, 12)]
theorem lw_r1 : ∀ q ∈ lw_privs_1, lw_okq q := List.forall_mem_cons.mpr ⟨lw_p0, List.forall_mem_cons.mpr ⟨lw_p1, List.forall_mem_cons.mpr ⟨lw_p2, List.forall_mem_cons.mpr ⟨lw_p3, List.forall_mem_cons.mpr ⟨lw_p4, List.forall_mem_cons.mpr ⟨lw_p5, List.forall_mem_cons.mpr ⟨lw_p6, List.forall_mem_cons.mpr ⟨lw_p7, List.forall_mem_cons.mpr ⟨lw_p8, List.forall_mem_cons.mpr ⟨lw_p9, List.forall_mem_cons.mpr ⟨lw_p10, List.forall_mem_cons.mpr ⟨lw_p11, List.forall_mem_cons.mpr ⟨lw_p12, List.forall_mem_cons.mpr ⟨lw_p13, List.forall_mem_cons.mpr ⟨lw_p14, List.forall_mem_cons.mpr ⟨lw_p15, fun _ h => absurd h List.not_mem_nil⟩⟩⟩⟩⟩⟩⟩⟩⟩⟩⟩⟩⟩⟩⟩⟩
theorem lw_p16 : lw_okq (⟨"SleepMint$Moment", "lie", "(ILSleepMint$Town;)V"⟩, 8) := ⟨⟨by decide +kernel, by decide +kernel⟩, List.mem_of_getElem? (i := 26) (by decide +kernel), List.mem_of_getElem? (i := 478) (by decide +kernel), List.mem_of_getElem? (i := 479) (by decide +kernel)⟩
theorem lw_p17 : lw_okq (⟨"SleepMint$Moment", "tire", "(II)V"⟩, 8) := ⟨⟨by decide +kernel, by decide +kernel⟩, List.mem_of_getElem? (i := 26) (by decide +kernel), List.mem_of_getElem? (i := 488) (by decide +kernel), List.mem_of_getElem? (i := 489) (by decide +kernel)⟩
theorem lw_p18 : lw_okq (⟨"SleepMint$Moment", "callDebts", "(LSleepMint$Town;)V"⟩, 8) := ⟨⟨by decide +kernel, by decide +kernel⟩, List.mem_of_getElem? (i := 26) (by decide +kernel), List.mem_of_getElem? (i := 492) (by decide +kernel), List.mem_of_getElem? (i := 493) (by decide +kernel)⟩
theorem lw_p19 : lw_okq (⟨"SleepMint$Moment", "draw", "(I)I"⟩, 8) := ⟨⟨by decide +kernel, by decide +kernel⟩, List.mem_of_getElem? (i := 26) (by decide +kernel), List.mem_of_getElem? (i := 504) (by decide +kernel), List.mem_of_getElem? (i := 505) (by decide +kernel)⟩
theorem lw_p20 : lw_okq (⟨"SleepMint$LifePlan", "isMade", "(LSleepMint$Moment;II)Z"⟩, 16) := ⟨⟨by decide +kernel, by decide +kernel⟩, List.mem_of_getElem? (i := 190) (by decide +kernel), List.mem_of_getElem? (i := 541) (by decide +kernel), List.mem_of_getElem? (i := 542) (by decide +kernel)⟩
theorem lw_p21 : lw_okq (⟨"SleepMint$LifePlan", "prepareTables", "(LSleepMint$Town;)V"⟩, 16) := ⟨⟨by decide +kernel, by decide +kernel⟩, List.mem_of_getElem? (i := 190) (by decide +kernel), List.mem_of_getElem? (i := 545) (by decide +kernel), List.mem_of_getElem? (i := 546) (by decide +kernel)⟩
theorem lw_p22 : lw_okq (⟨"SleepMint$LifePlan", "clearLastEarnings", "()V"⟩, 16) := ⟨⟨by decide +kernel, by decide +kernel⟩, List.mem_of_getElem? (i := 190) (by decide +kernel), List.mem_of_getElem? (i := 550) (by decide +kernel), List.mem_of_getElem? (i := 551) (by decide +kernel)⟩
theorem lw_p23 : lw_okq (⟨"SleepMint$LifePlan", "learnEarnings", "(I)V"⟩, 16) := ⟨⟨by decide +kernel, by decide +kernel⟩, List.mem_of_getElem? (i := 190) (by decide +kernel), List.mem_of_getElem? (i := 554) (by decide +kernel), List.mem_of_getElem? (i := 555) (by decide +kernel)⟩
theorem lw_p24 : lw_okq (⟨"SleepMint$LifePlan", "placeAtWork", "(II)I"⟩, 16) := ⟨⟨by decide +kernel, by decide +kernel⟩, List.mem_of_getElem? (i := 190) (by decide +kernel), List.mem_of_getElem? (i := 558) (by decide +kernel), List.mem_of_getElem? (i := 559) (by decide +kernel)⟩
theorem lw_p25 : lw_okq (⟨"SleepMint$LifePlan", "place", "(III)I"⟩, 16) := ⟨⟨by decide +kernel, by decide +kernel⟩, List.mem_of_getElem? (i := 190) (by decide +kernel), List.mem_of_getElem? (i := 566) (by decide +kernel), List.mem_of_getElem? (i := 567) (by decide +kernel)⟩
theorem lw_p26 : lw_okq (⟨"SleepMint$LifePlan", "earned", "(I)I"⟩, 16) := ⟨⟨by decide +kernel, by decide +kernel⟩, List.mem_of_getElem? (i := 190) (by decide +kernel), List.mem_of_getElem? (i := 570) (by decide +kernel), List.mem_of_getElem? (i := 571) (by decide +kernel)⟩
theorem lw_p27 : lw_okq (⟨"SleepMint$LifePlan", "placeAsleep", "(III)I"⟩, 16) := ⟨⟨by decide +kernel, by decide +kernel⟩, List.mem_of_getElem? (i := 190) (by decide +kernel), List.mem_of_getElem? (i := 574) (by decide +kernel), List.mem_of_getElem? (i := 575) (by decide +kernel)⟩
theorem lw_p28 : lw_okq (⟨"SleepMint$LifePlan", "longerSleep", "(I)I"⟩, 16) := ⟨⟨by decide +kernel, by decide +kernel⟩, List.mem_of_getElem? (i := 190) (by decide +kernel), List.mem_of_getElem? (i := 582) (by decide +kernel), List.mem_of_getElem? (i := 583) (by decide +kernel)⟩
theorem lw_p29 : lw_okq (⟨"SleepMint$LifePlan", "countOwed", "(LSleepMint$Town;)V"⟩, 16) := ⟨⟨by decide +kernel, by decide +kernel⟩, List.mem_of_getElem? (i := 190) (by decide +kernel), List.mem_of_getElem? (i := 586) (by decide +kernel), List.mem_of_getElem? (i := 587) (by decide +kernel)⟩
theorem lw_p30 : lw_okq (⟨"SleepMint$LifePlan", "spread", "()V"⟩, 16) := ⟨⟨by decide +kernel, by decide +kernel⟩, List.mem_of_getElem? (i := 190) (by decide +kernel), List.mem_of_getElem? (i := 592) (by decide +kernel), List.mem_of_getElem? (i := 593) (by decide +kernel)⟩
theorem lw_p31 : lw_okq (⟨"SleepMint$LifePlan", "clearHour", "(I)V"⟩, 16) := ⟨⟨by decide +kernel, by decide +kernel⟩, List.mem_of_getElem? (i := 190) (by decide +kernel), List.mem_of_getElem? (i := 596) (by decide +kernel), List.mem_of_getElem? (i := 597) (by decide +kernel)⟩
def lw_privs_2 : List (MethodName × Nat) := [(⟨"SleepMint$Moment", "lie", "(ILSleepMint$Town;)V"⟩, 8), (⟨"SleepMint$Moment", "tire", "(II)V"⟩, 8), (⟨"SleepMint$Moment", "callDebts", "(LSleepMint$Town;)V"⟩, 8), (⟨"SleepMint$Moment", "draw", "(I)I"⟩, 8), (⟨"SleepMint$LifePlan", "isMade", "(LSleepMint$Moment;II)Z"⟩, 16), (⟨"SleepMint$LifePlan", "prepareTables", "(LSleepMint$Town;)V"⟩, 16), (⟨"SleepMint$LifePlan", "clearLastEarnings", "()V"⟩, 16), (⟨"SleepMint$LifePlan", "learnEarnings", "(I)V"⟩, 16), (⟨"SleepMint$LifePlan", "placeAtWork", "(II)I"⟩, 16), (⟨"SleepMint$LifePlan", "place", "(III)I"⟩, 16), (⟨"SleepMint$LifePlan", "earned", "(I)I"⟩, 16), (⟨"SleepMint$LifePlan", "placeAsleep", "(III)I"⟩, 16), (⟨"SleepMint$LifePlan", "longerSleep", "(I)I"⟩, 16), (⟨"SleepMint$LifePlan", "countOwed", "(LSleepMint$Town;)V"⟩, 16), (⟨"SleepMint$LifePlan", "spread", "()V"⟩, 16), (⟨"SleepMint$LifePlan", "clearHour", "(I)V"⟩, 16)]
theorem lw_r2 : ∀ q ∈ lw_privs_2, lw_okq q := List.forall_mem_cons.mpr ⟨lw_p16, List.forall_mem_cons.mpr ⟨lw_p17, List.forall_mem_cons.mpr ⟨lw_p18, List.forall_mem_cons.mpr ⟨lw_p19, List.forall_mem_cons.mpr ⟨lw_p20, List.forall_mem_cons.mpr ⟨lw_p21, List.forall_mem_cons.mpr ⟨lw_p22, List.forall_mem_cons.mpr ⟨lw_p23, List.forall_mem_cons.mpr ⟨lw_p24, List.forall_mem_cons.mpr ⟨lw_p25, List.forall_mem_cons.mpr ⟨lw_p26, List.forall_mem_cons.mpr ⟨lw_p27, List.forall_mem_cons.mpr ⟨lw_p28, List.forall_mem_cons.mpr ⟨lw_p29, List.forall_mem_cons.mpr ⟨lw_p30, List.forall_mem_cons.mpr ⟨lw_p31, fun _ h => absurd h List.not_mem_nil⟩⟩⟩⟩⟩⟩⟩⟩⟩⟩⟩⟩⟩⟩⟩⟩
theorem lw_p32 : lw_okq (⟨"SleepMint$LifePlan", "mostTired", "(I)I"⟩, 16) := ⟨⟨by decide +kernel, by decide +kernel⟩, List.mem_of_getElem? (i := 190) (by decide +kernel), List.mem_of_getElem? (i := 600) (by decide +kernel), List.mem_of_getElem? (i := 601) (by decide +kernel)⟩
theorem lw_p33 : lw_okq (⟨"SleepMint$LifePlan", "leastTired", "(I)I"⟩, 16) := ⟨⟨by decide +kernel, by decide +kernel⟩, List.mem_of_getElem? (i := 190) (by decide +kernel), List.mem_of_getElem? (i := 604) (by decide +kernel), List.mem_of_getElem? (i := 605) (by decide +kernel)⟩
theorem lw_p34 : lw_okq (⟨"SleepMint$LifePlan", "spreadHour", "(II)V"⟩, 16) := ⟨⟨by decide +kernel, by decide +kernel⟩, List.mem_of_getElem? (i := 190) (by decide +kernel), List.mem_of_getElem? (i := 608) (by decide +kernel), List.mem_of_getElem? (i := 609) (by decide +kernel)⟩
theorem lw_p35 : lw_okq (⟨"SleepMint$LifePlan", "purseAsleep", "(III)I"⟩, 16) := ⟨⟨by decide +kernel, by decide +kernel⟩, List.mem_of_getElem? (i := 190) (by decide +kernel), List.mem_of_getElem? (i := 612) (by decide +kernel), List.mem_of_getElem? (i := 613) (by decide +kernel)⟩
theorem lw_p36 : lw_okq (⟨"SleepMint$LifePlan", "offer", "(II)V"⟩, 16) := ⟨⟨by decide +kernel, by decide +kernel⟩, List.mem_of_getElem? (i := 190) (by decide +kernel), List.mem_of_getElem? (i := 616) (by decide +kernel), List.mem_of_getElem? (i := 617) (by decide +kernel)⟩
theorem lw_p37 : lw_okq (⟨"SleepMint$LifePlan", "mostAtEnd", "()I"⟩, 16) := ⟨⟨by decide +kernel, by decide +kernel⟩, List.mem_of_getElem? (i := 190) (by decide +kernel), List.mem_of_getElem? (i := 620) (by decide +kernel), List.mem_of_getElem? (i := 621) (by decide +kernel)⟩
theorem lw_p38 : lw_okq (⟨"SleepMint$LifePlan", "turnToNeeds", "()V"⟩, 16) := ⟨⟨by decide +kernel, by decide +kernel⟩, List.mem_of_getElem? (i := 190) (by decide +kernel), List.mem_of_getElem? (i := 624) (by decide +kernel), List.mem_of_getElem? (i := 625) (by decide +kernel)⟩
theorem lw_p39 : lw_okq (⟨"SleepMint$LifePlan", "turnHourToNeeds", "(II)V"⟩, 16) := ⟨⟨by decide +kernel, by decide +kernel⟩, List.mem_of_getElem? (i := 190) (by decide +kernel), List.mem_of_getElem? (i := 628) (by decide +kernel), List.mem_of_getElem? (i := 629) (by decide +kernel)⟩
theorem lw_p40 : lw_okq (⟨"SleepMint$LifePlan", "needOf", "(III)I"⟩, 16) := ⟨⟨by decide +kernel, by decide +kernel⟩, List.mem_of_getElem? (i := 190) (by decide +kernel), List.mem_of_getElem? (i := 632) (by decide +kernel), List.mem_of_getElem? (i := 633) (by decide +kernel)⟩
theorem lw_p41 : lw_okq (⟨"SleepMint$LifePlan", "needAt", "(III)I"⟩, 16) := ⟨⟨by decide +kernel, by decide +kernel⟩, List.mem_of_getElem? (i := 190) (by decide +kernel), List.mem_of_getElem? (i := 636) (by decide +kernel), List.mem_of_getElem? (i := 637) (by decide +kernel)⟩
theorem lw_p42 : lw_okq (⟨"SleepMint$LifePlan", "needBefore", "(III)I"⟩, 16) := ⟨⟨by decide +kernel, by decide +kernel⟩, List.mem_of_getElem? (i := 190) (by decide +kernel), List.mem_of_getElem? (i := 640) (by decide +kernel), List.mem_of_getElem? (i := 641) (by decide +kernel)⟩
theorem lw_p43 : lw_okq (⟨"SleepMint$LifePlan", "walk", "()V"⟩, 16) := ⟨⟨by decide +kernel, by decide +kernel⟩, List.mem_of_getElem? (i := 190) (by decide +kernel), List.mem_of_getElem? (i := 644) (by decide +kernel), List.mem_of_getElem? (i := 645) (by decide +kernel)⟩
theorem lw_p44 : lw_okq (⟨"SleepMint$CoinTable", "addCoin", "(I)V"⟩, 7) := ⟨⟨by decide +kernel, by decide +kernel⟩, List.mem_of_getElem? (i := 247) (by decide +kernel), List.mem_of_getElem? (i := 661) (by decide +kernel), List.mem_of_getElem? (i := 662) (by decide +kernel)⟩
theorem lw_p45 : lw_okq (⟨"SleepMint$CoinTable", "countTaken", "(II)I"⟩, 7) := ⟨⟨by decide +kernel, by decide +kernel⟩, List.mem_of_getElem? (i := 247) (by decide +kernel), List.mem_of_getElem? (i := 670) (by decide +kernel), List.mem_of_getElem? (i := 671) (by decide +kernel)⟩
theorem lw_p46 : lw_okq (⟨"SleepMint$CoinTable", "totalWith", "(I)I"⟩, 7) := ⟨⟨by decide +kernel, by decide +kernel⟩, List.mem_of_getElem? (i := 247) (by decide +kernel), List.mem_of_getElem? (i := 682) (by decide +kernel), List.mem_of_getElem? (i := 683) (by decide +kernel)⟩
theorem lw_p47 : lw_okq (⟨"SleepMint", "nextToRun", "(II)I"⟩, 12) := ⟨⟨by decide +kernel, by decide +kernel⟩, List.mem_of_getElem? (i := 12) (by decide +kernel), List.mem_of_getElem? (i := 714) (by decide +kernel), List.mem_of_getElem? (i := 715) (by decide +kernel)⟩
def lw_privs_3 : List (MethodName × Nat) := [(⟨"SleepMint$LifePlan", "mostTired", "(I)I"⟩, 16), (⟨"SleepMint$LifePlan", "leastTired", "(I)I"⟩, 16), (⟨"SleepMint$LifePlan", "spreadHour", "(II)V"⟩, 16), (⟨"SleepMint$LifePlan", "purseAsleep", "(III)I"⟩, 16), (⟨"SleepMint$LifePlan", "offer", "(II)V"⟩, 16), (⟨"SleepMint$LifePlan", "mostAtEnd", "()I"⟩, 16), (⟨"SleepMint$LifePlan", "turnToNeeds", "()V"⟩, 16), (⟨"SleepMint$LifePlan", "turnHourToNeeds", "(II)V"⟩, 16), (⟨"SleepMint$LifePlan", "needOf", "(III)I"⟩, 16), (⟨"SleepMint$LifePlan", "needAt", "(III)I"⟩, 16), (⟨"SleepMint$LifePlan", "needBefore", "(III)I"⟩, 16), (⟨"SleepMint$LifePlan", "walk", "()V"⟩, 16), (⟨"SleepMint$CoinTable", "addCoin", "(I)V"⟩, 7), (⟨"SleepMint$CoinTable", "countTaken", "(II)I"⟩, 7), (⟨"SleepMint$CoinTable", "totalWith", "(I)I"⟩, 7), (⟨"SleepMint", "nextToRun", "(II)I"⟩, 12)]
theorem lw_r3 : ∀ q ∈ lw_privs_3, lw_okq q := List.forall_mem_cons.mpr ⟨lw_p32, List.forall_mem_cons.mpr ⟨lw_p33, List.forall_mem_cons.mpr ⟨lw_p34, List.forall_mem_cons.mpr ⟨lw_p35, List.forall_mem_cons.mpr ⟨lw_p36, List.forall_mem_cons.mpr ⟨lw_p37, List.forall_mem_cons.mpr ⟨lw_p38, List.forall_mem_cons.mpr ⟨lw_p39, List.forall_mem_cons.mpr ⟨lw_p40, List.forall_mem_cons.mpr ⟨lw_p41, List.forall_mem_cons.mpr ⟨lw_p42, List.forall_mem_cons.mpr ⟨lw_p43, List.forall_mem_cons.mpr ⟨lw_p44, List.forall_mem_cons.mpr ⟨lw_p45, List.forall_mem_cons.mpr ⟨lw_p46, List.forall_mem_cons.mpr ⟨lw_p47, fun _ h => absurd h List.not_mem_nil⟩⟩⟩⟩⟩⟩⟩⟩⟩⟩⟩⟩⟩⟩⟩⟩
theorem lw_p48 : lw_okq (⟨"SleepMint", "imageOf", "(I)LSleepMint$Moment;"⟩, 12) := ⟨⟨by decide +kernel, by decide +kernel⟩, List.mem_of_getElem? (i := 12) (by decide +kernel), List.mem_of_getElem? (i := 738) (by decide +kernel), List.mem_of_getElem? (i := 739) (by decide +kernel)⟩
theorem lw_p49 : lw_okq (⟨"SleepMintModel", "here", "()I"⟩, 44) := ⟨⟨by decide +kernel, by decide +kernel⟩, List.mem_of_getElem? (i := 746) (by decide +kernel), List.mem_of_getElem? (i := 899) (by decide +kernel), List.mem_of_getElem? (i := 900) (by decide +kernel)⟩
theorem lw_p50 : lw_okq (⟨"SleepMintModel", "takeClause", "()I"⟩, 44) := ⟨⟨by decide +kernel, by decide +kernel⟩, List.mem_of_getElem? (i := 746) (by decide +kernel), List.mem_of_getElem? (i := 903) (by decide +kernel), List.mem_of_getElem? (i := 904) (by decide +kernel)⟩
theorem lw_p51 : lw_okq (⟨"SleepMintModel", "fails", "(II)I"⟩, 44) := ⟨⟨by decide +kernel, by decide +kernel⟩, List.mem_of_getElem? (i := 746) (by decide +kernel), List.mem_of_getElem? (i := 907) (by decide +kernel), List.mem_of_getElem? (i := 908) (by decide +kernel)⟩
theorem lw_p52 : lw_okq (⟨"SleepMintModel", "takeMint", "()I"⟩, 44) := ⟨⟨by decide +kernel, by decide +kernel⟩, List.mem_of_getElem? (i := 746) (by decide +kernel), List.mem_of_getElem? (i := 911) (by decide +kernel), List.mem_of_getElem? (i := 912) (by decide +kernel)⟩
theorem lw_p53 : lw_okq (⟨"SleepMintModel", "into", "([IIII)I"⟩, 44) := ⟨⟨by decide +kernel, by decide +kernel⟩, List.mem_of_getElem? (i := 746) (by decide +kernel), List.mem_of_getElem? (i := 915) (by decide +kernel), List.mem_of_getElem? (i := 916) (by decide +kernel)⟩
theorem lw_p54 : lw_okq (⟨"SleepMintModel", "takeNumber", "(II)I"⟩, 44) := ⟨⟨by decide +kernel, by decide +kernel⟩, List.mem_of_getElem? (i := 746) (by decide +kernel), List.mem_of_getElem? (i := 919) (by decide +kernel), List.mem_of_getElem? (i := 920) (by decide +kernel)⟩
theorem lw_p55 : lw_okq (⟨"SleepMintModel", "takePerson", "()I"⟩, 44) := ⟨⟨by decide +kernel, by decide +kernel⟩, List.mem_of_getElem? (i := 746) (by decide +kernel), List.mem_of_getElem? (i := 925) (by decide +kernel), List.mem_of_getElem? (i := 926) (by decide +kernel)⟩
theorem lw_p56 : lw_okq (⟨"SleepMintModel", "takeRow", "(I)I"⟩, 44) := ⟨⟨by decide +kernel, by decide +kernel⟩, List.mem_of_getElem? (i := 746) (by decide +kernel), List.mem_of_getElem? (i := 929) (by decide +kernel), List.mem_of_getElem? (i := 930) (by decide +kernel)⟩
theorem lw_p57 : lw_okq (⟨"SleepMintModel", "takeCoin", "()I"⟩, 44) := ⟨⟨by decide +kernel, by decide +kernel⟩, List.mem_of_getElem? (i := 746) (by decide +kernel), List.mem_of_getElem? (i := 933) (by decide +kernel), List.mem_of_getElem? (i := 934) (by decide +kernel)⟩
theorem lw_p58 : lw_okq (⟨"SleepMintModel", "takeDebt", "()I"⟩, 44) := ⟨⟨by decide +kernel, by decide +kernel⟩, List.mem_of_getElem? (i := 746) (by decide +kernel), List.mem_of_getElem? (i := 937) (by decide +kernel), List.mem_of_getElem? (i := 938) (by decide +kernel)⟩
theorem lw_p59 : lw_okq (⟨"SleepMintModel", "takeYawn", "()I"⟩, 44) := ⟨⟨by decide +kernel, by decide +kernel⟩, List.mem_of_getElem? (i := 746) (by decide +kernel), List.mem_of_getElem? (i := 941) (by decide +kernel), List.mem_of_getElem? (i := 942) (by decide +kernel)⟩
theorem lw_p60 : lw_okq (⟨"SleepMintModel", "takeRead", "()V"⟩, 44) := ⟨⟨by decide +kernel, by decide +kernel⟩, List.mem_of_getElem? (i := 746) (by decide +kernel), List.mem_of_getElem? (i := 948) (by decide +kernel), List.mem_of_getElem? (i := 949) (by decide +kernel)⟩
theorem lw_p61 : lw_okq (⟨"SleepMintModel", "asleep", "()I"⟩, 44) := ⟨⟨by decide +kernel, by decide +kernel⟩, List.mem_of_getElem? (i := 746) (by decide +kernel), List.mem_of_getElem? (i := 960) (by decide +kernel), List.mem_of_getElem? (i := 961) (by decide +kernel)⟩
theorem lw_p62 : lw_okq (⟨"SleepMintModel", "isPerson", "(I)Z"⟩, 44) := ⟨⟨by decide +kernel, by decide +kernel⟩, List.mem_of_getElem? (i := 746) (by decide +kernel), List.mem_of_getElem? (i := 968) (by decide +kernel), List.mem_of_getElem? (i := 969) (by decide +kernel)⟩
theorem lw_p63 : lw_okq (⟨"SleepMintModel", "hoursRefused", "(I)I"⟩, 44) := ⟨⟨by decide +kernel, by decide +kernel⟩, List.mem_of_getElem? (i := 746) (by decide +kernel), List.mem_of_getElem? (i := 990) (by decide +kernel), List.mem_of_getElem? (i := 991) (by decide +kernel)⟩
def lw_privs_4 : List (MethodName × Nat) := [(⟨"SleepMint", "imageOf", "(I)LSleepMint$Moment;"⟩, 12), (⟨"SleepMintModel", "here", "()I"⟩, 44), (⟨"SleepMintModel", "takeClause", "()I"⟩, 44), (⟨"SleepMintModel", "fails", "(II)I"⟩, 44), (⟨"SleepMintModel", "takeMint", "()I"⟩, 44), (⟨"SleepMintModel", "into", "([IIII)I"⟩, 44), (⟨"SleepMintModel", "takeNumber", "(II)I"⟩, 44), (⟨"SleepMintModel", "takePerson", "()I"⟩, 44), (⟨"SleepMintModel", "takeRow", "(I)I"⟩, 44), (⟨"SleepMintModel", "takeCoin", "()I"⟩, 44), (⟨"SleepMintModel", "takeDebt", "()I"⟩, 44), (⟨"SleepMintModel", "takeYawn", "()I"⟩, 44), (⟨"SleepMintModel", "takeRead", "()V"⟩, 44), (⟨"SleepMintModel", "asleep", "()I"⟩, 44), (⟨"SleepMintModel", "isPerson", "(I)Z"⟩, 44), (⟨"SleepMintModel", "hoursRefused", "(I)I"⟩, 44)]
theorem lw_r4 : ∀ q ∈ lw_privs_4, lw_okq q := List.forall_mem_cons.mpr ⟨lw_p48, List.forall_mem_cons.mpr ⟨lw_p49, List.forall_mem_cons.mpr ⟨lw_p50, List.forall_mem_cons.mpr ⟨lw_p51, List.forall_mem_cons.mpr ⟨lw_p52, List.forall_mem_cons.mpr ⟨lw_p53, List.forall_mem_cons.mpr ⟨lw_p54, List.forall_mem_cons.mpr ⟨lw_p55, List.forall_mem_cons.mpr ⟨lw_p56, List.forall_mem_cons.mpr ⟨lw_p57, List.forall_mem_cons.mpr ⟨lw_p58, List.forall_mem_cons.mpr ⟨lw_p59, List.forall_mem_cons.mpr ⟨lw_p60, List.forall_mem_cons.mpr ⟨lw_p61, List.forall_mem_cons.mpr ⟨lw_p62, List.forall_mem_cons.mpr ⟨lw_p63, fun _ h => absurd h List.not_mem_nil⟩⟩⟩⟩⟩⟩⟩⟩⟩⟩⟩⟩⟩⟩⟩⟩
theorem lw_p64 : lw_okq (⟨"SleepMintModel", "pass", "()V"⟩, 44) := ⟨⟨by decide +kernel, by decide +kernel⟩, List.mem_of_getElem? (i := 746) (by decide +kernel), List.mem_of_getElem? (i := 997) (by decide +kernel), List.mem_of_getElem? (i := 998) (by decide +kernel)⟩
theorem lw_p65 : lw_okq (⟨"SleepMintModel", "doHour", "(IIZ)V"⟩, 44) := ⟨⟨by decide +kernel, by decide +kernel⟩, List.mem_of_getElem? (i := 746) (by decide +kernel), List.mem_of_getElem? (i := 1001) (by decide +kernel), List.mem_of_getElem? (i := 1002) (by decide +kernel)⟩
theorem lw_p66 : lw_okq (⟨"SleepMintModel", "minted", "(I)I"⟩, 44) := ⟨⟨by decide +kernel, by decide +kernel⟩, List.mem_of_getElem? (i := 746) (by decide +kernel), List.mem_of_getElem? (i := 1005) (by decide +kernel), List.mem_of_getElem? (i := 1006) (by decide +kernel)⟩
theorem lw_p67 : lw_okq (⟨"SleepMintModel", "draw", "(I)I"⟩, 44) := ⟨⟨by decide +kernel, by decide +kernel⟩, List.mem_of_getElem? (i := 746) (by decide +kernel), List.mem_of_getElem? (i := 1016) (by decide +kernel), List.mem_of_getElem? (i := 1017) (by decide +kernel)⟩
theorem lw_p68 : lw_okq (⟨"SleepMintModel", "save", "()V"⟩, 44) := ⟨⟨by decide +kernel, by decide +kernel⟩, List.mem_of_getElem? (i := 746) (by decide +kernel), List.mem_of_getElem? (i := 1038) (by decide +kernel), List.mem_of_getElem? (i := 1039) (by decide +kernel)⟩
theorem lw_p69 : lw_okq (⟨"SleepMintModel", "putBack", "()V"⟩, 44) := ⟨⟨by decide +kernel, by decide +kernel⟩, List.mem_of_getElem? (i := 746) (by decide +kernel), List.mem_of_getElem? (i := 1042) (by decide +kernel), List.mem_of_getElem? (i := 1043) (by decide +kernel)⟩
theorem lw_p70 : lw_okq (⟨"SleepMintModel", "mostFrom", "(IIII)I"⟩, 44) := ⟨⟨by decide +kernel, by decide +kernel⟩, List.mem_of_getElem? (i := 746) (by decide +kernel), List.mem_of_getElem? (i := 1055) (by decide +kernel), List.mem_of_getElem? (i := 1056) (by decide +kernel)⟩
theorem lw_p71 : lw_okq (⟨"SleepMintModel", "liveOn", "(I)V"⟩, 44) := ⟨⟨by decide +kernel, by decide +kernel⟩, List.mem_of_getElem? (i := 746) (by decide +kernel), List.mem_of_getElem? (i := 1059) (by decide +kernel), List.mem_of_getElem? (i := 1060) (by decide +kernel)⟩
theorem lw_p72 : lw_okq (⟨"SleepMintModel", "purseBy", "(IIII)I"⟩, 44) := ⟨⟨by decide +kernel, by decide +kernel⟩, List.mem_of_getElem? (i := 746) (by decide +kernel), List.mem_of_getElem? (i := 1069) (by decide +kernel), List.mem_of_getElem? (i := 1070) (by decide +kernel)⟩
theorem lw_p73 : lw_okq (⟨"SleepMintModel", "behindDebts", "(II)I"⟩, 44) := ⟨⟨by decide +kernel, by decide +kernel⟩, List.mem_of_getElem? (i := 746) (by decide +kernel), List.mem_of_getElem? (i := 1073) (by decide +kernel), List.mem_of_getElem? (i := 1074) (by decide +kernel)⟩
theorem lw_p74 : lw_okq (⟨"SleepMintModel", "lived", "(IIIII)I"⟩, 44) := ⟨⟨by decide +kernel, by decide +kernel⟩, List.mem_of_getElem? (i := 746) (by decide +kernel), List.mem_of_getElem? (i := 1077) (by decide +kernel), List.mem_of_getElem? (i := 1078) (by decide +kernel)⟩
theorem lw_p75 : lw_okq (⟨"SleepMintModel", "canLie", "(II)Z"⟩, 44) := ⟨⟨by decide +kernel, by decide +kernel⟩, List.mem_of_getElem? (i := 746) (by decide +kernel), List.mem_of_getElem? (i := 1086) (by decide +kernel), List.mem_of_getElem? (i := 1087) (by decide +kernel)⟩
theorem lw_p76 : lw_okq (⟨"SleepMintModel", "findFewest", "(I)V"⟩, 44) := ⟨⟨by decide +kernel, by decide +kernel⟩, List.mem_of_getElem? (i := 746) (by decide +kernel), List.mem_of_getElem? (i := 1095) (by decide +kernel), List.mem_of_getElem? (i := 1096) (by decide +kernel)⟩
theorem lw_p77 : lw_okq (⟨"SleepMintModel", "isCoin", "(I)Z"⟩, 44) := ⟨⟨by decide +kernel, by decide +kernel⟩, List.mem_of_getElem? (i := 746) (by decide +kernel), List.mem_of_getElem? (i := 1099) (by decide +kernel), List.mem_of_getElem? (i := 1100) (by decide +kernel)⟩
def lw_privs_5 : List (MethodName × Nat) := [(⟨"SleepMintModel", "pass", "()V"⟩, 44), (⟨"SleepMintModel", "doHour", "(IIZ)V"⟩, 44), (⟨"SleepMintModel", "minted", "(I)I"⟩, 44), (⟨"SleepMintModel", "draw", "(I)I"⟩, 44), (⟨"SleepMintModel", "save", "()V"⟩, 44), (⟨"SleepMintModel", "putBack", "()V"⟩, 44), (⟨"SleepMintModel", "mostFrom", "(IIII)I"⟩, 44), (⟨"SleepMintModel", "liveOn", "(I)V"⟩, 44), (⟨"SleepMintModel", "purseBy", "(IIII)I"⟩, 44), (⟨"SleepMintModel", "behindDebts", "(II)I"⟩, 44), (⟨"SleepMintModel", "lived", "(IIIII)I"⟩, 44), (⟨"SleepMintModel", "canLie", "(II)Z"⟩, 44), (⟨"SleepMintModel", "findFewest", "(I)V"⟩, 44), (⟨"SleepMintModel", "isCoin", "(I)Z"⟩, 44)]
theorem lw_r5 : ∀ q ∈ lw_privs_5, lw_okq q := List.forall_mem_cons.mpr ⟨lw_p64, List.forall_mem_cons.mpr ⟨lw_p65, List.forall_mem_cons.mpr ⟨lw_p66, List.forall_mem_cons.mpr ⟨lw_p67, List.forall_mem_cons.mpr ⟨lw_p68, List.forall_mem_cons.mpr ⟨lw_p69, List.forall_mem_cons.mpr ⟨lw_p70, List.forall_mem_cons.mpr ⟨lw_p71, List.forall_mem_cons.mpr ⟨lw_p72, List.forall_mem_cons.mpr ⟨lw_p73, List.forall_mem_cons.mpr ⟨lw_p74, List.forall_mem_cons.mpr ⟨lw_p75, List.forall_mem_cons.mpr ⟨lw_p76, List.forall_mem_cons.mpr ⟨lw_p77, fun _ h => absurd h List.not_mem_nil⟩⟩⟩⟩⟩⟩⟩⟩⟩⟩⟩⟩⟩⟩
def lw_privs : List (MethodName × Nat) := lw_privs_1 ++ (lw_privs_2 ++ (lw_privs_3 ++ (lw_privs_4 ++ (lw_privs_5))))
def lw_tbl : List Cond := k2_sels lw_privs ++ tables_1
theorem lw_privs_ok : ∀ q ∈ lw_privs, lw_okq q := by
  show ∀ q ∈ lw_privs_1 ++ (lw_privs_2 ++ (lw_privs_3 ++ (lw_privs_4 ++ (lw_privs_5)))), lw_okq q
  exact List.forall_mem_append.mpr ⟨lw_r1, List.forall_mem_append.mpr ⟨lw_r2, List.forall_mem_append.mpr ⟨lw_r3, List.forall_mem_append.mpr ⟨lw_r4, lw_r5⟩⟩⟩⟩

def RX0 : String := "SleepMint$CoinTable"
def TX0 : u_T := fun k => match k with
  | 0 => ("SleepMint$CoinTable", "isStruck", "[Z", true)
  | 1 => ("SleepMint$CoinTable", "fewest", "[I", true)
  | 2 => ("SleepMint$CoinTable", "withOneMore", "[I", true)
  | 3 => ("SleepMint$CoinTable", "isPrepared", "Z", false)
  | 4 => ("SleepMint$CoinTable", "isStrikeFound", "Z", false)
  | 5 => ("SleepMint$CoinTable", "strikeWorth", "I", false)
  | _ => ("SleepMint$CoinTable", "strikeTotal", "I", false)
def tyX0 : Nat → FieldType := fun k => match k with
  | 0 => .array .boolean
  | 1 => .array .int
  | 2 => .array .int
  | 3 => .boolean
  | 4 => .boolean
  | 5 => .int
  | _ => .int
abbrev wsX00 : List Cond := u_ws RX0 TX0 7
theorem nmX0 : ∀ a, a < 7 → ∀ b, b < 7 → a ≠ b → (TX0 a).2.1 ≠ (TX0 b).2.1 := by decide +kernel
theorem tyX0_ok : ∀ k, k < 7 → parseFieldDescriptor (TX0 k).2.2.1 = some (tyX0 k) := by decide +kernel
abbrev cX0_init : ByteArray := prog_2_method_1_code
def yX0_init : MethodName := ⟨RX0, "<init>", "()V"⟩
abbrev cX0_forget : ByteArray := prog_2_method_2_code
def yX0_forget : MethodName := ⟨RX0, "forget", "()V"⟩
abbrev cX0_prepare : ByteArray := prog_2_method_3_code
def yX0_prepare : MethodName := ⟨RX0, "prepare", "(LSleepMint$Town;)V"⟩
abbrev cX0_addCoin : ByteArray := prog_2_method_4_code
def yX0_addCoin : MethodName := ⟨RX0, "addCoin", "(I)V"⟩
abbrev cX0_countOf : ByteArray := prog_2_method_5_code
def yX0_countOf : MethodName := ⟨RX0, "countOf", "(II)I"⟩
abbrev cX0_countTaken : ByteArray := prog_2_method_6_code
def yX0_countTaken : MethodName := ⟨RX0, "countTaken", "(II)I"⟩
abbrev cX0_findStrike : ByteArray := prog_2_method_7_code
def yX0_findStrike : MethodName := ⟨RX0, "findStrike", "()V"⟩
abbrev cX0_totalWith : ByteArray := prog_2_method_8_code
def yX0_totalWith : MethodName := ⟨RX0, "totalWith", "(I)I"⟩
def RX1 : String := "SleepMint$LifePlan"
def TX1 : u_T := fun k => match k with
  | 0 => ("SleepMint$LifePlan", "purses", "[I", false)
  | 1 => ("SleepMint$LifePlan", "earnings", "[I", false)
  | 2 => ("SleepMint$LifePlan", "earningsKnown", "I", false)
  | 3 => ("SleepMint$LifePlan", "owed", "[I", true)
  | 4 => ("SleepMint$LifePlan", "acts", "[I", true)
  | 5 => ("SleepMint$LifePlan", "most", "I", false)
  | 6 => ("SleepMint$LifePlan", "person", "I", false)
  | 7 => ("SleepMint$LifePlan", "length", "I", false)
  | 8 => ("SleepMint$LifePlan", "hours", "I", false)
  | 9 => ("SleepMint$LifePlan", "tired", "I", false)
  | 10 => ("SleepMint$LifePlan", "sleep", "I", false)
  | 11 => ("SleepMint$LifePlan", "purse", "I", false)
  | 12 => ("SleepMint$LifePlan", "deep", "I", false)
  | 13 => ("SleepMint$LifePlan", "gain", "I", false)
  | 14 => ("SleepMint$LifePlan", "width", "I", false)
  | _ => ("SleepMint$LifePlan", "hoursWithDebts", "I", false)
def tyX1 : Nat → FieldType := fun k => match k with
  | 0 => .array .int
  | 1 => .array .int
  | 2 => .int
  | 3 => .array .int
  | 4 => .array .int
  | 5 => .int
  | 6 => .int
  | 7 => .int
  | 8 => .int
  | 9 => .int
  | 10 => .int
  | 11 => .int
  | 12 => .int
  | 13 => .int
  | 14 => .int
  | _ => .int
abbrev wsX10 : List Cond := u_ws RX1 TX1 16
theorem nmX1 : ∀ a, a < 16 → ∀ b, b < 16 → a ≠ b → (TX1 a).2.1 ≠ (TX1 b).2.1 := by decide +kernel
theorem tyX1_ok : ∀ k, k < 16 → parseFieldDescriptor (TX1 k).2.2.1 = some (tyX1 k) := by decide +kernel
abbrev cX1_init : ByteArray := prog_3_method_1_code
def yX1_init : MethodName := ⟨RX1, "<init>", "()V"⟩
abbrev cX1_forget : ByteArray := prog_3_method_2_code
def yX1_forget : MethodName := ⟨RX1, "forget", "()V"⟩
abbrev cX1_make : ByteArray := prog_3_method_3_code
def yX1_make : MethodName := ⟨RX1, "make", "(LSleepMint$Town;LSleepMint$Moment;II)V"⟩
abbrev cX1_isMade : ByteArray := prog_3_method_4_code
def yX1_isMade : MethodName := ⟨RX1, "isMade", "(LSleepMint$Moment;II)Z"⟩
abbrev cX1_prepareTables : ByteArray := prog_3_method_5_code
def yX1_prepareTables : MethodName := ⟨RX1, "prepareTables", "(LSleepMint$Town;)V"⟩
abbrev cX1_clearLastEarnings : ByteArray := prog_3_method_6_code
def yX1_clearLastEarnings : MethodName := ⟨RX1, "clearLastEarnings", "()V"⟩
abbrev cX1_learnEarnings : ByteArray := prog_3_method_7_code
def yX1_learnEarnings : MethodName := ⟨RX1, "learnEarnings", "(I)V"⟩
abbrev cX1_countOwed : ByteArray := prog_3_method_8_code
def yX1_countOwed : MethodName := ⟨RX1, "countOwed", "(LSleepMint$Town;)V"⟩
abbrev cX1_place : ByteArray := prog_3_method_9_code
def yX1_place : MethodName := ⟨RX1, "place", "(III)I"⟩
abbrev cX1_placeAsleep : ByteArray := prog_3_method_10_code
def yX1_placeAsleep : MethodName := ⟨RX1, "placeAsleep", "(III)I"⟩
abbrev cX1_placeAtWork : ByteArray := prog_3_method_11_code
def yX1_placeAtWork : MethodName := ⟨RX1, "placeAtWork", "(II)I"⟩
abbrev cX1_easedBySleep : ByteArray := prog_3_method_12_code
def yX1_easedBySleep : MethodName := ⟨RX1, "easedBySleep", "(I)I"⟩
abbrev cX1_tiredByWork : ByteArray := prog_3_method_13_code
def yX1_tiredByWork : MethodName := ⟨RX1, "tiredByWork", "(I)I"⟩
abbrev cX1_longerSleep : ByteArray := prog_3_method_14_code
def yX1_longerSleep : MethodName := ⟨RX1, "longerSleep", "(I)I"⟩
abbrev cX1_earned : ByteArray := prog_3_method_15_code
def yX1_earned : MethodName := ⟨RX1, "earned", "(I)I"⟩
abbrev cX1_purseAsleep : ByteArray := prog_3_method_16_code
def yX1_purseAsleep : MethodName := ⟨RX1, "purseAsleep", "(III)I"⟩
abbrev cX1_leastTired : ByteArray := prog_3_method_17_code
def yX1_leastTired : MethodName := ⟨RX1, "leastTired", "(I)I"⟩
abbrev cX1_mostTired : ByteArray := prog_3_method_18_code
def yX1_mostTired : MethodName := ⟨RX1, "mostTired", "(I)I"⟩
abbrev cX1_spread : ByteArray := prog_3_method_19_code
def yX1_spread : MethodName := ⟨RX1, "spread", "()V"⟩
abbrev cX1_clearHour : ByteArray := prog_3_method_20_code
def yX1_clearHour : MethodName := ⟨RX1, "clearHour", "(I)V"⟩
abbrev cX1_spreadHour : ByteArray := prog_3_method_21_code
def yX1_spreadHour : MethodName := ⟨RX1, "spreadHour", "(II)V"⟩
abbrev cX1_offer : ByteArray := prog_3_method_22_code
def yX1_offer : MethodName := ⟨RX1, "offer", "(II)V"⟩
abbrev cX1_mostAtEnd : ByteArray := prog_3_method_23_code
def yX1_mostAtEnd : MethodName := ⟨RX1, "mostAtEnd", "()I"⟩
abbrev cX1_turnToNeeds : ByteArray := prog_3_method_24_code
def yX1_turnToNeeds : MethodName := ⟨RX1, "turnToNeeds", "()V"⟩
abbrev cX1_turnHourToNeeds : ByteArray := prog_3_method_25_code
def yX1_turnHourToNeeds : MethodName := ⟨RX1, "turnHourToNeeds", "(II)V"⟩
abbrev cX1_needOf : ByteArray := prog_3_method_26_code
def yX1_needOf : MethodName := ⟨RX1, "needOf", "(III)I"⟩
abbrev cX1_needAt : ByteArray := prog_3_method_27_code
def yX1_needAt : MethodName := ⟨RX1, "needAt", "(III)I"⟩
abbrev cX1_needBefore : ByteArray := prog_3_method_28_code
def yX1_needBefore : MethodName := ⟨RX1, "needBefore", "(III)I"⟩
abbrev cX1_walk : ByteArray := prog_3_method_29_code
def yX1_walk : MethodName := ⟨RX1, "walk", "()V"⟩
def RX2 : String := "SleepMint$Moment"
def TX2 : u_T := fun k => match k with
  | 0 => ("SleepMint$Moment", "tired", "[I", true)
  | 1 => ("SleepMint$Moment", "sleep", "[I", true)
  | 2 => ("SleepMint$Moment", "purse", "[I", true)
  | 3 => ("SleepMint$Moment", "rows", "[I", true)
  | 4 => ("SleepMint$Moment", "paid", "I", false)
  | 5 => ("SleepMint$Moment", "missed", "I", false)
  | 6 => ("SleepMint$Moment", "hours", "I", false)
  | _ => ("SleepMint$Moment", "seedValue", "I", false)
def tyX2 : Nat → FieldType := fun k => match k with
  | 0 => .array .int
  | 1 => .array .int
  | 2 => .array .int
  | 3 => .array .int
  | 4 => .int
  | 5 => .int
  | 6 => .int
  | _ => .int
abbrev wsX20 : List Cond := u_ws RX2 TX2 8
theorem nmX2 : ∀ a, a < 8 → ∀ b, b < 8 → a ≠ b → (TX2 a).2.1 ≠ (TX2 b).2.1 := by decide +kernel
theorem tyX2_ok : ∀ k, k < 8 → parseFieldDescriptor (TX2 k).2.2.1 = some (tyX2 k) := by decide +kernel
abbrev cX2_init : ByteArray := prog_4_method_1_code
def yX2_init : MethodName := ⟨RX2, "<init>", "()V"⟩
abbrev cX2_copyFrom : ByteArray := prog_4_method_2_code
def yX2_copyFrom : MethodName := ⟨RX2, "copyFrom", "(LSleepMint$Moment;)V"⟩
abbrev cX2_sleepers : ByteArray := prog_4_method_3_code
def yX2_sleepers : MethodName := ⟨RX2, "sleepers", "(I)I"⟩
abbrev cX2_passHours : ByteArray := prog_4_method_4_code
def yX2_passHours : MethodName := ⟨RX2, "passHours", "(LSleepMint$Town;I)V"⟩
abbrev cX2_passHour : ByteArray := prog_4_method_5_code
def yX2_passHour : MethodName := ⟨RX2, "passHour", "(LSleepMint$Town;)V"⟩
abbrev cX2_lie : ByteArray := prog_4_method_6_code
def yX2_lie : MethodName := ⟨RX2, "lie", "(ILSleepMint$Town;)V"⟩
abbrev cX2_tire : ByteArray := prog_4_method_7_code
def yX2_tire : MethodName := ⟨RX2, "tire", "(II)V"⟩
abbrev cX2_callDebts : ByteArray := prog_4_method_8_code
def yX2_callDebts : MethodName := ⟨RX2, "callDebts", "(LSleepMint$Town;)V"⟩
abbrev cX2_wakeByDraw : ByteArray := prog_4_method_9_code
def yX2_wakeByDraw : MethodName := ⟨RX2, "wakeByDraw", "(I)V"⟩
abbrev cX2_draw : ByteArray := prog_4_method_10_code
def yX2_draw : MethodName := ⟨RX2, "draw", "(I)I"⟩
def RX3 : String := "SleepMint$Reader"
def TX3 : u_T := fun k => match k with
  | 0 => ("SleepMint$Reader", "letters", "[I", true)
  | 1 => ("SleepMint$Reader", "at", "I", false)
  | 2 => ("SleepMint$Reader", "numberAt", "I", false)
  | 3 => ("SleepMint$Reader", "into", "LSleepMint$Town;", false)
  | 4 => ("SleepMint$Reader", "size", "I", false)
  | 5 => ("SleepMint$Reader", "faultKind", "I", false)
  | _ => ("SleepMint$Reader", "faultPlace", "I", false)
def tyX3 : Nat → FieldType := fun k => match k with
  | 0 => .array .int
  | 1 => .int
  | 2 => .int
  | 3 => .object "SleepMint$Town"
  | 4 => .int
  | 5 => .int
  | _ => .int
abbrev wsX30 : List Cond := u_ws RX3 TX3 7
theorem nmX3 : ∀ a, a < 7 → ∀ b, b < 7 → a ≠ b → (TX3 a).2.1 ≠ (TX3 b).2.1 := by decide +kernel
theorem tyX3_ok : ∀ k, k < 7 → parseFieldDescriptor (TX3 k).2.2.1 = some (tyX3 k) := by decide +kernel
abbrev cX3_init : ByteArray := prog_5_method_1_code
def yX3_init : MethodName := ⟨RX3, "<init>", "()V"⟩
abbrev cX3_add : ByteArray := prog_5_method_2_code
def yX3_add : MethodName := ⟨RX3, "add", "(I)I"⟩
abbrev cX3_read : ByteArray := prog_5_method_3_code
def yX3_read : MethodName := ⟨RX3, "read", "()Z"⟩
abbrev cX3_isGood : ByteArray := prog_5_method_4_code
def yX3_isGood : MethodName := ⟨RX3, "isGood", "()Z"⟩
abbrev cX3_fail : ByteArray := prog_5_method_5_code
def yX3_fail : MethodName := ⟨RX3, "fail", "(II)V"⟩
abbrev cX3_peek : ByteArray := prog_5_method_6_code
def yX3_peek : MethodName := ⟨RX3, "peek", "()I"⟩
abbrev cX3_readClause : ByteArray := prog_5_method_7_code
def yX3_readClause : MethodName := ⟨RX3, "readClause", "()V"⟩
abbrev cX3_expect : ByteArray := prog_5_method_8_code
def yX3_expect : MethodName := ⟨RX3, "expect", "(I)V"⟩
abbrev cX3_stepOverWord : ByteArray := prog_5_method_9_code
def yX3_stepOverWord : MethodName := ⟨RX3, "stepOverWord", "(Z)V"⟩
abbrev cX3_readBeds : ByteArray := prog_5_method_10_code
def yX3_readBeds : MethodName := ⟨RX3, "readBeds", "()V"⟩
abbrev cX3_readPerson : ByteArray := prog_5_method_11_code
def yX3_readPerson : MethodName := ⟨RX3, "readPerson", "()V"⟩
abbrev cX3_readDoing : ByteArray := prog_5_method_12_code
def yX3_readDoing : MethodName := ⟨RX3, "readDoing", "()I"⟩
abbrev cX3_readCoin : ByteArray := prog_5_method_13_code
def yX3_readCoin : MethodName := ⟨RX3, "readCoin", "()V"⟩
abbrev cX3_readDebt : ByteArray := prog_5_method_14_code
def yX3_readDebt : MethodName := ⟨RX3, "readDebt", "()V"⟩
abbrev cX3_readYawn : ByteArray := prog_5_method_15_code
def yX3_readYawn : MethodName := ⟨RX3, "readYawn", "()V"⟩
abbrev cX3_readNumber : ByteArray := prog_5_method_16_code
def yX3_readNumber : MethodName := ⟨RX3, "readNumber", "(II)I"⟩
abbrev cX3_isFigure : ByteArray := prog_5_method_17_code
def yX3_isFigure : MethodName := ⟨RX3, "isFigure", "(I)Z"⟩
def RX4 : String := "SleepMint$Town"
def TX4 : u_T := fun k => match k with
  | 0 => ("SleepMint$Town", "beds", "I", false)
  | 1 => ("SleepMint$Town", "deep", "I", false)
  | 2 => ("SleepMint$Town", "gain", "I", false)
  | 3 => ("SleepMint$Town", "people", "I", false)
  | 4 => ("SleepMint$Town", "coinCount", "I", false)
  | 5 => ("SleepMint$Town", "debtCount", "I", false)
  | 6 => ("SleepMint$Town", "yawnsTold", "I", false)
  | 7 => ("SleepMint$Town", "worth", "[I", true)
  | 8 => ("SleepMint$Town", "debtor", "[I", true)
  | 9 => ("SleepMint$Town", "debtHour", "[I", true)
  | 10 => ("SleepMint$Town", "debtValue", "[I", true)
  | 11 => ("SleepMint$Town", "yawn", "[I", true)
  | _ => ("SleepMint$Town", "start", "LSleepMint$Moment;", true)
def tyX4 : Nat → FieldType := fun k => match k with
  | 0 => .int
  | 1 => .int
  | 2 => .int
  | 3 => .int
  | 4 => .int
  | 5 => .int
  | 6 => .int
  | 7 => .array .int
  | 8 => .array .int
  | 9 => .array .int
  | 10 => .array .int
  | 11 => .array .int
  | _ => .object "SleepMint$Moment"
abbrev wsX40 : List Cond := u_ws RX4 TX4 13
theorem nmX4 : ∀ a, a < 13 → ∀ b, b < 13 → a ≠ b → (TX4 a).2.1 ≠ (TX4 b).2.1 := by decide +kernel
theorem tyX4_ok : ∀ k, k < 13 → parseFieldDescriptor (TX4 k).2.2.1 = some (tyX4 k) := by decide +kernel
abbrev cX4_init : ByteArray := prog_6_method_1_code
def yX4_init : MethodName := ⟨RX4, "<init>", "()V"⟩
abbrev cX4_clear : ByteArray := prog_6_method_2_code
def yX4_clear : MethodName := ⟨RX4, "clear", "()V"⟩
abbrev cX4_hasCoin : ByteArray := prog_6_method_3_code
def yX4_hasCoin : MethodName := ⟨RX4, "hasCoin", "(I)Z"⟩
abbrev cX4_yawnsOf : ByteArray := prog_6_method_4_code
def yX4_yawnsOf : MethodName := ⟨RX4, "yawnsOf", "(I)I"⟩
def RX5 : String := "SleepMint"
def TX5 : u_T := fun k => match k with
  | 0 => ("SleepMint", "town", "LSleepMint$Town;", false)
  | 1 => ("SleepMint", "reader", "LSleepMint$Reader;", true)
  | 2 => ("SleepMint", "now", "LSleepMint$Moment;", true)
  | 3 => ("SleepMint", "trial", "LSleepMint$Moment;", true)
  | 4 => ("SleepMint", "imageZero", "LSleepMint$Moment;", true)
  | 5 => ("SleepMint", "imageOne", "LSleepMint$Moment;", true)
  | 6 => ("SleepMint", "kept", "I", false)
  | 7 => ("SleepMint", "plan", "LSleepMint$LifePlan;", true)
  | 8 => ("SleepMint", "table", "LSleepMint$CoinTable;", true)
  | 9 => ("SleepMint", "entryOf", "[I", true)
  | 10 => ("SleepMint", "entryPurse", "[I", true)
  | _ => ("SleepMint", "entries", "I", false)
def tyX5 : Nat → FieldType := fun k => match k with
  | 0 => .object "SleepMint$Town"
  | 1 => .object "SleepMint$Reader"
  | 2 => .object "SleepMint$Moment"
  | 3 => .object "SleepMint$Moment"
  | 4 => .object "SleepMint$Moment"
  | 5 => .object "SleepMint$Moment"
  | 6 => .int
  | 7 => .object "SleepMint$LifePlan"
  | 8 => .object "SleepMint$CoinTable"
  | 9 => .array .int
  | 10 => .array .int
  | _ => .int
abbrev wsX50 : List Cond := u_ws RX5 TX5 12
theorem nmX5 : ∀ a, a < 12 → ∀ b, b < 12 → a ≠ b → (TX5 a).2.1 ≠ (TX5 b).2.1 := by decide +kernel
theorem tyX5_ok : ∀ k, k < 12 → parseFieldDescriptor (TX5 k).2.2.1 = some (tyX5 k) := by decide +kernel
abbrev cX5_init : ByteArray := prog_1_method_1_code
def yX5_init : MethodName := ⟨RX5, "<init>", "()V"⟩
abbrev cX5_feed : ByteArray := prog_1_method_2_code
def yX5_feed : MethodName := ⟨RX5, "feed", "(I)I"⟩
abbrev cX5_capital : ByteArray := prog_1_method_3_code
def yX5_capital : MethodName := ⟨RX5, "capital", "()I"⟩
abbrev cX5_fault : ByteArray := prog_1_method_4_code
def yX5_fault : MethodName := ⟨RX5, "fault", "()I"⟩
abbrev cX5_told : ByteArray := prog_1_method_5_code
def yX5_told : MethodName := ⟨RX5, "told", "(I)I"⟩
abbrev cX5_person : ByteArray := prog_1_method_6_code
def yX5_person : MethodName := ⟨RX5, "person", "(II)I"⟩
abbrev cX5_row : ByteArray := prog_1_method_7_code
def yX5_row : MethodName := ⟨RX5, "row", "(II)I"⟩
abbrev cX5_coin : ByteArray := prog_1_method_8_code
def yX5_coin : MethodName := ⟨RX5, "coin", "(I)I"⟩
abbrev cX5_debt : ByteArray := prog_1_method_9_code
def yX5_debt : MethodName := ⟨RX5, "debt", "(II)I"⟩
abbrev cX5_debtState : ByteArray := prog_1_method_10_code
def yX5_debtState : MethodName := ⟨RX5, "debtState", "(I)I"⟩
abbrev cX5_hour : ByteArray := prog_1_method_11_code
def yX5_hour : MethodName := ⟨RX5, "hour", "(I)I"⟩
abbrev cX5_drift : ByteArray := prog_1_method_12_code
def yX5_drift : MethodName := ⟨RX5, "drift", "(I)I"⟩
abbrev cX5_refusalOfHours : ByteArray := prog_1_method_13_code
def yX5_refusalOfHours : MethodName := ⟨RX5, "refusalOfHours", "(I)I"⟩
abbrev cX5_give : ByteArray := prog_1_method_14_code
def yX5_give : MethodName := ⟨RX5, "give", "(III)I"⟩
abbrev cX5_change : ByteArray := prog_1_method_15_code
def yX5_change : MethodName := ⟨RX5, "change", "(III)I"⟩
abbrev cX5_firstShort : ByteArray := prog_1_method_16_code
def yX5_firstShort : MethodName := ⟨RX5, "firstShort", "(I)I"⟩
abbrev cX5_richest : ByteArray := prog_1_method_17_code
def yX5_richest : MethodName := ⟨RX5, "richest", "(II)I"⟩
abbrev cX5_life : ByteArray := prog_1_method_18_code
def yX5_life : MethodName := ⟨RX5, "life", "(III)I"⟩
abbrev cX5_shift : ByteArray := prog_1_method_19_code
def yX5_shift : MethodName := ⟨RX5, "shift", "(II)I"⟩
abbrev cX5_coins : ByteArray := prog_1_method_20_code
def yX5_coins : MethodName := ⟨RX5, "coins", "(II)I"⟩
abbrev cX5_strike : ByteArray := prog_1_method_21_code
def yX5_strike : MethodName := ⟨RX5, "strike", "(I)I"⟩
abbrev cX5_isFalse : ByteArray := prog_1_method_22_code
def yX5_isFalse : MethodName := ⟨RX5, "isFalse", "(IIIII)I"⟩
abbrev cX5_partsOfBillion : ByteArray := prog_1_method_23_code
def yX5_partsOfBillion : MethodName := ⟨RX5, "partsOfBillion", "(IIII)J"⟩
abbrev cX5_prices : ByteArray := prog_1_method_24_code
def yX5_prices : MethodName := ⟨RX5, "prices", "(IIII)I"⟩
abbrev cX5_robbed : ByteArray := prog_1_method_25_code
def yX5_robbed : MethodName := ⟨RX5, "robbed", "(III)I"⟩
abbrev cX5_run : ByteArray := prog_1_method_26_code
def yX5_run : MethodName := ⟨RX5, "run", "(II)I"⟩
abbrev cX5_nextToRun : ByteArray := prog_1_method_27_code
def yX5_nextToRun : MethodName := ⟨RX5, "nextToRun", "(II)I"⟩
abbrev cX5_write : ByteArray := prog_1_method_28_code
def yX5_write : MethodName := ⟨RX5, "write", "(II)I"⟩
abbrev cX5_tear : ByteArray := prog_1_method_29_code
def yX5_tear : MethodName := ⟨RX5, "tear", "()I"⟩
abbrev cX5_judge : ByteArray := prog_1_method_30_code
def yX5_judge : MethodName := ⟨RX5, "judge", "()I"⟩
abbrev cX5_seed : ByteArray := prog_1_method_31_code
def yX5_seed : MethodName := ⟨RX5, "seed", "(I)I"⟩
abbrev cX5_keep : ByteArray := prog_1_method_32_code
def yX5_keep : MethodName := ⟨RX5, "keep", "(I)I"⟩
abbrev cX5_goBack : ByteArray := prog_1_method_33_code
def yX5_goBack : MethodName := ⟨RX5, "goBack", "(I)I"⟩
abbrev cX5_imageOf : ByteArray := prog_1_method_34_code
def yX5_imageOf : MethodName := ⟨RX5, "imageOf", "(I)LSleepMint$Moment;"⟩
abbrev cX5_isPerson : ByteArray := prog_1_method_35_code
def yX5_isPerson : MethodName := ⟨RX5, "isPerson", "(I)Z"⟩
abbrev cX5_isWithin : ByteArray := prog_1_method_36_code
def yX5_isWithin : MethodName := ⟨RX5, "isWithin", "(III)Z"⟩
abbrev cX5_isIn : ByteArray := prog_1_method_37_code
def yX5_isIn : MethodName := ⟨RX5, "isIn", "(II)Z"⟩
abbrev cX5_leastOf : ByteArray := prog_1_method_38_code
def yX5_leastOf : MethodName := ⟨RX5, "leastOf", "(I)I"⟩
def RX6 : String := "SleepMintModel"
def TX6 : u_T := fun k => match k with
  | 0 => ("SleepMintModel", "beds", "I", false)
  | 1 => ("SleepMintModel", "deep", "I", false)
  | 2 => ("SleepMintModel", "gets", "I", false)
  | 3 => ("SleepMintModel", "people", "I", false)
  | 4 => ("SleepMintModel", "yawns", "[I", true)
  | 5 => ("SleepMintModel", "coins", "I", false)
  | 6 => ("SleepMintModel", "coin", "[I", true)
  | 7 => ("SleepMintModel", "debts", "I", false)
  | 8 => ("SleepMintModel", "debtWho", "[I", true)
  | 9 => ("SleepMintModel", "debtHour", "[I", true)
  | 10 => ("SleepMintModel", "debtMuch", "[I", true)
  | 11 => ("SleepMintModel", "now", "[I", true)
  | 12 => ("SleepMintModel", "seed", "I", false)
  | 13 => ("SleepMintModel", "text", "[I", true)
  | 14 => ("SleepMintModel", "texted", "I", false)
  | 15 => ("SleepMintModel", "faultPlace", "I", false)
  | 16 => ("SleepMintModel", "at0", "I", false)
  | 17 => ("SleepMintModel", "number", "I", false)
  | 18 => ("SleepMintModel", "numberAt", "I", false)
  | 19 => ("SleepMintModel", "readMint", "[I", true)
  | 20 => ("SleepMintModel", "readPeople", "I", false)
  | 21 => ("SleepMintModel", "readTired", "[I", true)
  | 22 => ("SleepMintModel", "readPurse", "[I", true)
  | 23 => ("SleepMintModel", "readRows", "[I", true)
  | 24 => ("SleepMintModel", "readYawns", "[I", true)
  | 25 => ("SleepMintModel", "toldYawns", "I", false)
  | 26 => ("SleepMintModel", "readCoins", "I", false)
  | 27 => ("SleepMintModel", "readCoin", "[I", true)
  | 28 => ("SleepMintModel", "readDebts", "I", false)
  | 29 => ("SleepMintModel", "readWho", "[I", true)
  | 30 => ("SleepMintModel", "readHour", "[I", true)
  | 31 => ("SleepMintModel", "readMuch", "[I", true)
  | 32 => ("SleepMintModel", "was", "[I", true)
  | 33 => ("SleepMintModel", "rich", "[I", true)
  | 34 => ("SleepMintModel", "richThen", "[I", true)
  | 35 => ("SleepMintModel", "owner", "I", false)
  | 36 => ("SleepMintModel", "lie", "[I", true)
  | 37 => ("SleepMintModel", "begins", "[I", true)
  | 38 => ("SleepMintModel", "fewest", "[I", true)
  | 39 => ("SleepMintModel", "booked", "I", false)
  | 40 => ("SleepMintModel", "bookWho", "[I", true)
  | 41 => ("SleepMintModel", "bookPurse", "[I", true)
  | 42 => ("SleepMintModel", "images", "[I", true)
  | _ => ("SleepMintModel", "isKept", "[Z", true)
def tyX6 : Nat → FieldType := fun k => match k with
  | 0 => .int
  | 1 => .int
  | 2 => .int
  | 3 => .int
  | 4 => .array .int
  | 5 => .int
  | 6 => .array .int
  | 7 => .int
  | 8 => .array .int
  | 9 => .array .int
  | 10 => .array .int
  | 11 => .array .int
  | 12 => .int
  | 13 => .array .int
  | 14 => .int
  | 15 => .int
  | 16 => .int
  | 17 => .int
  | 18 => .int
  | 19 => .array .int
  | 20 => .int
  | 21 => .array .int
  | 22 => .array .int
  | 23 => .array .int
  | 24 => .array .int
  | 25 => .int
  | 26 => .int
  | 27 => .array .int
  | 28 => .int
  | 29 => .array .int
  | 30 => .array .int
  | 31 => .array .int
  | 32 => .array .int
  | 33 => .array .int
  | 34 => .array .int
  | 35 => .int
  | 36 => .array .int
  | 37 => .array .int
  | 38 => .array .int
  | 39 => .int
  | 40 => .array .int
  | 41 => .array .int
  | 42 => .array .int
  | _ => .array .boolean
abbrev wsX60 : List Cond := u_ws RX6 TX6 44
theorem nmX6 : ∀ a, a < 44 → ∀ b, b < 44 → a ≠ b → (TX6 a).2.1 ≠ (TX6 b).2.1 := by decide +kernel
theorem tyX6_ok : ∀ k, k < 44 → parseFieldDescriptor (TX6 k).2.2.1 = some (tyX6 k) := by decide +kernel
abbrev cX6_init : ByteArray := prog_8_method_1_code
def yX6_init : MethodName := ⟨RX6, "<init>", "()V"⟩
abbrev cX6_in : ByteArray := prog_8_method_3_code
def yX6_in : MethodName := ⟨RX6, "in", "(JJJ)Z"⟩
abbrev cX6_has : ByteArray := prog_8_method_4_code
def yX6_has : MethodName := ⟨RX6, "has", "(II)Z"⟩
abbrev cX6_isPerson : ByteArray := prog_8_method_5_code
def yX6_isPerson : MethodName := ⟨RX6, "isPerson", "(I)Z"⟩
abbrev cX6_feed : ByteArray := prog_8_method_6_code
def yX6_feed : MethodName := ⟨RX6, "feed", "(I)I"⟩
abbrev cX6_here : ByteArray := prog_8_method_7_code
def yX6_here : MethodName := ⟨RX6, "here", "()I"⟩
abbrev cX6_fails : ByteArray := prog_8_method_8_code
def yX6_fails : MethodName := ⟨RX6, "fails", "(II)I"⟩
abbrev cX6_takeNumber : ByteArray := prog_8_method_9_code
def yX6_takeNumber : MethodName := ⟨RX6, "takeNumber", "(II)I"⟩
abbrev cX6_into : ByteArray := prog_8_method_10_code
def yX6_into : MethodName := ⟨RX6, "into", "([IIII)I"⟩
abbrev cX6_takeMint : ByteArray := prog_8_method_11_code
def yX6_takeMint : MethodName := ⟨RX6, "takeMint", "()I"⟩
abbrev cX6_takeRow : ByteArray := prog_8_method_12_code
def yX6_takeRow : MethodName := ⟨RX6, "takeRow", "(I)I"⟩
abbrev cX6_takePerson : ByteArray := prog_8_method_13_code
def yX6_takePerson : MethodName := ⟨RX6, "takePerson", "()I"⟩
abbrev cX6_takeCoin : ByteArray := prog_8_method_14_code
def yX6_takeCoin : MethodName := ⟨RX6, "takeCoin", "()I"⟩
abbrev cX6_takeDebt : ByteArray := prog_8_method_15_code
def yX6_takeDebt : MethodName := ⟨RX6, "takeDebt", "()I"⟩
abbrev cX6_takeYawn : ByteArray := prog_8_method_16_code
def yX6_takeYawn : MethodName := ⟨RX6, "takeYawn", "()I"⟩
abbrev cX6_takeClause : ByteArray := prog_8_method_17_code
def yX6_takeClause : MethodName := ⟨RX6, "takeClause", "()I"⟩
abbrev cX6_takeRead : ByteArray := prog_8_method_18_code
def yX6_takeRead : MethodName := ⟨RX6, "takeRead", "()V"⟩
abbrev cX6_capital : ByteArray := prog_8_method_19_code
def yX6_capital : MethodName := ⟨RX6, "capital", "()I"⟩
abbrev cX6_fault : ByteArray := prog_8_method_20_code
def yX6_fault : MethodName := ⟨RX6, "fault", "()I"⟩
abbrev cX6_asleep : ByteArray := prog_8_method_21_code
def yX6_asleep : MethodName := ⟨RX6, "asleep", "()I"⟩
abbrev cX6_told : ByteArray := prog_8_method_22_code
def yX6_told : MethodName := ⟨RX6, "told", "(I)I"⟩
abbrev cX6_person : ByteArray := prog_8_method_23_code
def yX6_person : MethodName := ⟨RX6, "person", "(II)I"⟩
abbrev cX6_row : ByteArray := prog_8_method_24_code
def yX6_row : MethodName := ⟨RX6, "row", "(II)I"⟩
abbrev cX6_coin : ByteArray := prog_8_method_25_code
def yX6_coin : MethodName := ⟨RX6, "coin", "(I)I"⟩
abbrev cX6_debt : ByteArray := prog_8_method_26_code
def yX6_debt : MethodName := ⟨RX6, "debt", "(II)I"⟩
abbrev cX6_atMost : ByteArray := prog_8_method_27_code
def yX6_atMost : MethodName := ⟨RX6, "atMost", "(II)I"⟩
abbrev cX6_minted : ByteArray := prog_8_method_28_code
def yX6_minted : MethodName := ⟨RX6, "minted", "(I)I"⟩
abbrev cX6_doHour : ByteArray := prog_8_method_29_code
def yX6_doHour : MethodName := ⟨RX6, "doHour", "(IIZ)V"⟩
abbrev cX6_pass : ByteArray := prog_8_method_30_code
def yX6_pass : MethodName := ⟨RX6, "pass", "()V"⟩
abbrev cX6_hoursRefused : ByteArray := prog_8_method_31_code
def yX6_hoursRefused : MethodName := ⟨RX6, "hoursRefused", "(I)I"⟩
abbrev cX6_hour : ByteArray := prog_8_method_32_code
def yX6_hour : MethodName := ⟨RX6, "hour", "(I)I"⟩
abbrev cX6_draw : ByteArray := prog_8_method_33_code
def yX6_draw : MethodName := ⟨RX6, "draw", "(I)I"⟩
abbrev cX6_drift : ByteArray := prog_8_method_34_code
def yX6_drift : MethodName := ⟨RX6, "drift", "(I)I"⟩
abbrev cX6_give : ByteArray := prog_8_method_35_code
def yX6_give : MethodName := ⟨RX6, "give", "(III)I"⟩
abbrev cX6_change : ByteArray := prog_8_method_36_code
def yX6_change : MethodName := ⟨RX6, "change", "(III)I"⟩
abbrev cX6_save : ByteArray := prog_8_method_37_code
def yX6_save : MethodName := ⟨RX6, "save", "()V"⟩
abbrev cX6_putBack : ByteArray := prog_8_method_38_code
def yX6_putBack : MethodName := ⟨RX6, "putBack", "()V"⟩
abbrev cX6_firstShort : ByteArray := prog_8_method_39_code
def yX6_firstShort : MethodName := ⟨RX6, "firstShort", "(I)I"⟩
abbrev cX6_richest : ByteArray := prog_8_method_40_code
def yX6_richest : MethodName := ⟨RX6, "richest", "(II)I"⟩
abbrev cX6_behindDebts : ByteArray := prog_8_method_41_code
def yX6_behindDebts : MethodName := ⟨RX6, "behindDebts", "(II)I"⟩
abbrev cX6_tiredBy : ByteArray := prog_8_method_42_code
def yX6_tiredBy : MethodName := ⟨RX6, "tiredBy", "(II)I"⟩
abbrev cX6_stateBy : ByteArray := prog_8_method_43_code
def yX6_stateBy : MethodName := ⟨RX6, "stateBy", "(III)I"⟩
abbrev cX6_purseBy : ByteArray := prog_8_method_44_code
def yX6_purseBy : MethodName := ⟨RX6, "purseBy", "(IIII)I"⟩
abbrev cX6_liveOn : ByteArray := prog_8_method_45_code
def yX6_liveOn : MethodName := ⟨RX6, "liveOn", "(I)V"⟩
abbrev cX6_mostFrom : ByteArray := prog_8_method_46_code
def yX6_mostFrom : MethodName := ⟨RX6, "mostFrom", "(IIII)I"⟩
abbrev cX6_lived : ByteArray := prog_8_method_47_code
def yX6_lived : MethodName := ⟨RX6, "lived", "(IIIII)I"⟩
abbrev cX6_life : ByteArray := prog_8_method_48_code
def yX6_life : MethodName := ⟨RX6, "life", "(III)I"⟩
abbrev cX6_canLie : ByteArray := prog_8_method_49_code
def yX6_canLie : MethodName := ⟨RX6, "canLie", "(II)Z"⟩
abbrev cX6_shift : ByteArray := prog_8_method_50_code
def yX6_shift : MethodName := ⟨RX6, "shift", "(II)I"⟩
abbrev cX6_findFewest : ByteArray := prog_8_method_51_code
def yX6_findFewest : MethodName := ⟨RX6, "findFewest", "(I)V"⟩
abbrev cX6_isCoin : ByteArray := prog_8_method_52_code
def yX6_isCoin : MethodName := ⟨RX6, "isCoin", "(I)Z"⟩
abbrev cX6_coins : ByteArray := prog_8_method_53_code
def yX6_coins : MethodName := ⟨RX6, "coins", "(II)I"⟩
abbrev cX6_strike : ByteArray := prog_8_method_54_code
def yX6_strike : MethodName := ⟨RX6, "strike", "(I)I"⟩
abbrev cX6_tested : ByteArray := prog_8_method_55_code
def yX6_tested : MethodName := ⟨RX6, "tested", "(IIII)J"⟩
abbrev cX6_isFalse : ByteArray := prog_8_method_56_code
def yX6_isFalse : MethodName := ⟨RX6, "isFalse", "(IIIII)I"⟩
abbrev cX6_prices : ByteArray := prog_8_method_57_code
def yX6_prices : MethodName := ⟨RX6, "prices", "(IIII)I"⟩
abbrev cX6_robbed : ByteArray := prog_8_method_58_code
def yX6_robbed : MethodName := ⟨RX6, "robbed", "(III)I"⟩
abbrev cX6_run : ByteArray := prog_8_method_59_code
def yX6_run : MethodName := ⟨RX6, "run", "(II)I"⟩
abbrev cX6_write : ByteArray := prog_8_method_60_code
def yX6_write : MethodName := ⟨RX6, "write", "(II)I"⟩
abbrev cX6_tear : ByteArray := prog_8_method_61_code
def yX6_tear : MethodName := ⟨RX6, "tear", "()I"⟩
abbrev cX6_judge : ByteArray := prog_8_method_62_code
def yX6_judge : MethodName := ⟨RX6, "judge", "()I"⟩
abbrev cX6_seed : ByteArray := prog_8_method_63_code
def yX6_seed : MethodName := ⟨RX6, "seed", "(I)I"⟩
abbrev cX6_keep : ByteArray := prog_8_method_64_code
def yX6_keep : MethodName := ⟨RX6, "keep", "(I)I"⟩
abbrev cX6_goBack : ByteArray := prog_8_method_65_code
def yX6_goBack : MethodName := ⟨RX6, "goBack", "(I)I"⟩
end
section
/-! the abstract heap: places, their kinds, references, numbers -/
abbrev am_M : Type := Nat → Nat → Int32
abbrev am_R : Type := Nat → Nat → Option Nat
abbrev am_S : Type := List (Nat × Nat)
abbrev am_H : Type := am_S × am_R × am_M
abbrev am_G : Type := va_G × (Nat → ClassId)
abbrev am_D : Type := MethodName × ByteArray × Nat × Option FieldType × Room
def am_cn (c : Nat) : String := match c with
  | 0 => RX0
  | 1 => RX1
  | 2 => RX2
  | 3 => RX3
  | 4 => RX4
  | 5 => RX5
  | _ => RX6
def am_ct (c : Nat) : u_T := match c with
  | 0 => TX0
  | 1 => TX1
  | 2 => TX2
  | 3 => TX3
  | 4 => TX4
  | 5 => TX5
  | _ => TX6
def am_cy (c : Nat) : Nat → FieldType := match c with
  | 0 => tyX0
  | 1 => tyX1
  | 2 => tyX2
  | 3 => tyX3
  | 4 => tyX4
  | 5 => tyX5
  | _ => tyX6
def am_nf (c : Nat) : Nat := match c with
  | 0 => 7
  | 1 => 16
  | 2 => 8
  | 3 => 7
  | 4 => 13
  | 5 => 12
  | _ => 44
abbrev am_cl : List vw_C := [(RX0, TX0, 7), (RX1, TX1, 16), (RX2, TX2, 8), (RX3, TX3, 7), (RX4, TX4, 13), (RX5, TX5, 12), (RX6, TX6, 44)]
theorem am_cases7 {P : Nat → Prop} (h0 : P 0) (h1 : P 1) (h2 : P 2) (h3 : P 3) (h4 : P 4) (h5 : P 5) (h6 : P 6) : ∀ c, c < 7 → P c := by
  intro c hc
  match c, hc with
  | 0, _ => exact h0
  | 1, _ => exact h1
  | 2, _ => exact h2
  | 3, _ => exact h3
  | 4, _ => exact h4
  | 5, _ => exact h5
  | 6, _ => exact h6
  | c + 7, hc => omega
theorem am_cl_at : ∀ c, c < 7 → am_cl[c]? = some (am_cn c, am_ct c, am_nf c) := am_cases7 rfl rfl rfl rfl rfl rfl rfl
theorem am_cty : ∀ c, c < 7 → ∀ k, k < am_nf c → parseFieldDescriptor (am_ct c k).2.2.1 = some (am_cy c k) := am_cases7 tyX0_ok tyX1_ok tyX2_ok tyX3_ok tyX4_ok tyX5_ok tyX6_ok
theorem am_cnm : ∀ c, c < 7 → ∀ a, a < am_nf c → ∀ b, b < am_nf c → a ≠ b → (am_ct c a).2.1 ≠ (am_ct c b).2.1 := am_cases7 nmX0 nmX1 nmX2 nmX3 nmX4 nmX5 nmX6
def am_TB : List Cond := lw_tbl.filter goodWord
theorem am_tb {w : Cond} (i : Nat) (h : lw_tbl[i]? = some w) (g : goodWord w = true) : w ∈ am_TB := List.mem_filter.mpr ⟨List.mem_of_getElem? h, g⟩
theorem am_good : ∀ w ∈ am_TB, w ∈ am_TB ∧ ((w.onTables && w.keeps) = true ∨ ∃ ty, w = .arrayClass ty) := fun w h => ⟨h, good_of_word (List.mem_filter.mp h).2⟩
def am_sub? (ws : List Cond) : Bool := ws.all (fun w => decide (w ∈ lw_tbl) && goodWord w)
theorem am_sub {ws : List Cond} (h : am_sub? ws = true) : ∀ w ∈ ws, w ∈ am_TB := by
  intro w hw
  have h1 := List.all_eq_true.mp h w hw
  simp only [Bool.and_eq_true, decide_eq_true_eq] at h1
  exact List.mem_filter.mpr h1
theorem am_cin0 : ∀ w ∈ u_ws RX0 TX0 7, w ∈ am_TB := am_sub (by decide +kernel)
theorem am_cin1 : ∀ w ∈ u_ws RX1 TX1 16, w ∈ am_TB := am_sub (by decide +kernel)
theorem am_cin2 : ∀ w ∈ u_ws RX2 TX2 8, w ∈ am_TB := am_sub (by decide +kernel)
theorem am_cin3 : ∀ w ∈ u_ws RX3 TX3 7, w ∈ am_TB := am_sub (by decide +kernel)
theorem am_cin4 : ∀ w ∈ u_ws RX4 TX4 13, w ∈ am_TB := am_sub (by decide +kernel)
theorem am_cin5 : ∀ w ∈ u_ws RX5 TX5 12, w ∈ am_TB := am_sub (by decide +kernel)
theorem am_cin6 : ∀ w ∈ u_ws RX6 TX6 44, w ∈ am_TB := am_sub (by decide +kernel)
theorem am_cin : ∀ c, c < 7 → ∀ w ∈ u_ws (am_cn c) (am_ct c) (am_nf c), w ∈ am_TB := am_cases7 am_cin0 am_cin1 am_cin2 am_cin3 am_cin4 am_cin5 am_cin6
def am_isr (ty : FieldType) : Bool := match ty with
  | .array _ => true
  | .object _ => true
  | _ => false
/-- a value of the abstract heap, with the places' addresses -/
def am_fv (α : Nat → Nat) (v : Value) : Value := match v with
  | .ref k => .ref (α k)
  | v => v
def am_fld (c a j : Nat) (R : am_R) (D : am_M) : Value := if am_isr (am_cy c j) = true then va_rf (R a j) else .int (D a j)
def am_cell (g : am_G) (α : Nat → Nat) (h : am_H) (a : Nat) (k : Nat × Nat) : va_E := match k with
  | (0, n) => .inl (g.2 0, n, .inl (h.2.2 a))
  | (1, n) => .inl (g.2 1, n, .inl (h.2.2 a))
  | (c + 2, _) => .inr (c, (List.range (am_nf c)).map (fun j => am_fv α (am_fld c a j h.2.1 h.2.2)))
def am_w (g : am_G) (α : Nat → Nat) (h : am_H) : va_W := h.1.mapIdx (fun a k => (α a, am_cell g α h a k))
theorem am_at {g : am_G} {α : Nat → Nat} {h : am_H} {a : Nat} {k : Nat × Nat} (hs : h.1[a]? = some k) : (am_w g α h)[a]? = some (α a, am_cell g α h a k) := by
  simp [am_w, hs]
/-- new contents of a place; a number of a place; a reference of a place -/
def am_row (D : am_M) (a : Nat) (f : Nat → Int32) : am_M := fun b => if b = a then f else D b
def am_up (D : am_M) (a j : Nat) (x : Int32) : am_M := fun b => if b = a then upd (D a) j x else D b
def am_upR (R : am_R) (a j : Nat) (v : Option Nat) : am_R := fun b k => if b = a ∧ k = j then v else R b k
theorem am_up_row (D : am_M) (a j : Nat) (x : Int32) : am_up D a j x = am_row D a (upd (D a) j x) := rfl
theorem am_fv_cat (α : Nat → Nat) (v : Value) : (am_fv α v).category = v.category := by cases v <;> rfl
theorem am_w_ext {g : am_G} {α : Nat → Nat} {h h' : am_H} {a : Nat} {e : Nat × va_E} {k : Nat × Nat} (hsh : h'.1 = h.1) (hs : h.1[a]? = some k) (he : (α a, am_cell g α h' a k) = e) (ho : ∀ b k', b ≠ a → am_cell g α h' b k' = am_cell g α h b k') : am_w g α h' = (am_w g α h).set a e := by
  apply List.ext_getElem?
  intro i
  have hl : a < (am_w g α h).length := by
    have := (List.getElem?_eq_some_iff.mp (am_at (g := g) (α := α) hs)).1
    exact this
  by_cases hi : i = a
  · subst hi
    rw [List.getElem?_set_self hl, ← he]
    exact am_at (by rw [hsh]; exact hs)
  · rw [List.getElem?_set_ne (Ne.symm hi)]
    simp only [am_w, hsh, List.getElem?_mapIdx]
    cases h.1[i]? with
    | none => rfl
    | some q => simp [ho i q hi]
theorem am_w_arr {g : am_G} {α : Nat → Nat} {sh : am_S} {R : am_R} {D : am_M} {a n t : Nat} {f : Nat → Int32} (ht : t = 0 ∨ t = 1) (hs : sh[a]? = some (t, n)) : am_w g α (sh, R, am_row D a f) = (am_w g α (sh, R, D)).set a (α a, .inl (g.2 t, n, .inl f)) := by
  refine am_w_ext (h := (sh, R, D)) (h' := (sh, R, am_row D a f)) rfl hs ?_ ?_
  · rcases ht with rfl | rfl <;> simp [am_cell, am_row]
  · intro b k' hb
    obtain ⟨t', n'⟩ := k'
    match t' with
    | 0 => simp [am_cell, am_row, hb]
    | 1 => simp [am_cell, am_row, hb]
    | c + 2 => simp [am_cell, am_fld, am_row, hb]
theorem am_map_set {n j : Nat} {F F' : Nat → Value} {v : Value} (hj : j < n) (h1 : F' j = v) (h2 : ∀ i, i ≠ j → F' i = F i) : (List.range n).map F' = ((List.range n).map F).set j v := by
  apply List.ext_getElem?
  intro i
  by_cases hi : i = j
  · subst hi
    rw [List.getElem?_set_self (by simpa using hj)]
    simp [hj, h1]
  · rw [List.getElem?_set_ne (Ne.symm hi)]
    simp only [List.getElem?_map]
    by_cases hn : i < n
    · simp [hn, h2 i hi]
    · simp [hn]
theorem am_w_int {g : am_G} {α : Nat → Nat} {sh : am_S} {R : am_R} {D : am_M} {a c z k : Nat} {x : Int32} (hs : sh[a]? = some (c + 2, z)) (hk : k < am_nf c) (ht : am_isr (am_cy c k) = false) : am_w g α (sh, R, am_up D a k x) = (am_w g α (sh, R, D)).set a (α a, .inr (c, ((List.range (am_nf c)).map (fun j => am_fv α (am_fld c a j R D))).set k (.int x))) := by
  refine am_w_ext (h := (sh, R, D)) (h' := (sh, R, am_up D a k x)) rfl hs ?_ ?_
  · refine congrArg (Prod.mk (α a)) (congrArg Sum.inr (congrArg (Prod.mk c) (am_map_set hk ?_ ?_)))
    · simp [am_fld, ht, am_up, upd, am_fv]
    · intro i hi
      simp [am_fld, am_up, upd, hi]
  · intro b k' hb
    obtain ⟨t', n'⟩ := k'
    match t' with
    | 0 => simp [am_cell, am_up, hb]
    | 1 => simp [am_cell, am_up, hb]
    | c + 2 => simp [am_cell, am_fld, am_up, hb]
theorem am_w_ref {g : am_G} {α : Nat → Nat} {sh : am_S} {R : am_R} {D : am_M} {a c z k : Nat} {v : Option Nat} (hs : sh[a]? = some (c + 2, z)) (hk : k < am_nf c) (ht : am_isr (am_cy c k) = true) : am_w g α (sh, am_upR R a k v, D) = (am_w g α (sh, R, D)).set a (α a, .inr (c, ((List.range (am_nf c)).map (fun j => am_fv α (am_fld c a j R D))).set k (am_fv α (va_rf v)))) := by
  refine am_w_ext (h := (sh, R, D)) (h' := (sh, am_upR R a k v, D)) rfl hs ?_ ?_
  · refine congrArg (Prod.mk (α a)) (congrArg Sum.inr (congrArg (Prod.mk c) (am_map_set hk ?_ ?_)))
    · simp [am_fld, ht, am_upR]
    · intro i hi
      simp [am_fld, am_upR, hi]
  · intro b k' hb
    obtain ⟨t', n'⟩ := k'
    match t' with
    | 0 => simp [am_cell]
    | 1 => simp [am_cell]
    | c + 2 => simp [am_cell, am_fld, am_upR, hb]
end
section
def am_nest : List (String × Nat × MethodName × String) := [("SleepMint", 9, ⟨"SleepMint$Town", "<init>", "()V"⟩, "SleepMint"), ("SleepMint$Town", 29, ⟨"SleepMint$Moment", "<init>", "()V"⟩, "SleepMint"), ("SleepMint", 18, ⟨"SleepMint$Reader", "<init>", "()V"⟩, "SleepMint"), ("SleepMint$Reader", 24, ⟨"SleepMint$Town", "<init>", "()V"⟩, "SleepMint"), ("SleepMint", 25, ⟨"SleepMint$Moment", "<init>", "()V"⟩, "SleepMint"), ("SleepMint", 45, ⟨"SleepMint$LifePlan", "<init>", "()V"⟩, "SleepMint"), ("SleepMint", 52, ⟨"SleepMint$CoinTable", "<init>", "()V"⟩, "SleepMint"), ("SleepMint$Reader", 148, ⟨"SleepMint", "isWithin", "(III)Z"⟩, "SleepMint"), ("SleepMint$Reader", 138, ⟨"SleepMint", "isIn", "(II)Z"⟩, "SleepMint"), ("SleepMint$LifePlan", 141, ⟨"SleepMint", "isWithin", "(III)Z"⟩, "SleepMint"), ("SleepMint$CoinTable", 44, ⟨"SleepMint", "isWithin", "(III)Z"⟩, "SleepMint"), ("SleepMint$Town", 62, ⟨"SleepMint", "isIn", "(II)Z"⟩, "SleepMint")]
def am_T (g : am_G) (U : State) : Prop := va_K g.1 am_cl [(g.2 0, .int), (g.2 1, .boolean)] U ∧ ∀ q ∈ am_nest, va_Nw (.methodLinkNest q.1 q.2.1 q.2.2.1 q.2.2.2) U
theorem am_T.warm {g : am_G} {s U : State} (hW : s.WarmedH U.vm) (h : am_T g s) : am_T g U := ⟨va_K.moved hW.alike h.1, fun q hq => va_Nw.warmM hW (h.2 q hq)⟩
theorem am_T.call {g : am_G} {U : State} {f : JFrame} {mk : MethodId} {a : Array Value} (h : am_T g U) : am_T g (U.calling f mk a) := ⟨va_K.moved (Vm.Alike.refl U.vm) h.1, fun q hq => va_Nw.same rfl rfl (h.2 q hq)⟩
/-- references point to places that there are -/
def am_wf (h : am_H) : Prop := ∀ a j k, a < h.1.length → h.2.1 a j = some k → k < h.1.length
def am_rel (al : Bool) (n : Nat) (α α' : Nat → Nat) : Prop := (∀ k, k < n ∨ 1000000 ≤ k → α' k = α k) ∧ (al = false → α' = α)
abbrev am_Tg : Type := am_G → (Nat → Nat) → Nat → State → Array Value → List Frame → (State → Prop)
abbrev am_Cx : Type := am_G → (Nat → Nat) → Nat → State → Array Value → Method → Prop
/-- launch, locals, owner, room, heap at the entry, whether it makes cells, where it goes, what is known -/
abbrev am_EV : Type := Launch × Nat × String × Room × am_H × Bool × am_Tg × am_Cx
abbrev am_el (E : am_EV) : Launch := E.1
abbrev am_en (E : am_EV) : Nat := E.2.1
abbrev am_eo (E : am_EV) : String := E.2.2.1
abbrev am_er (E : am_EV) : Room := E.2.2.2.1
abbrev am_eh (E : am_EV) : am_H := E.2.2.2.2.1
abbrev am_ea (E : am_EV) : Bool := E.2.2.2.2.2.1
abbrev am_eT (E : am_EV) : am_Tg := E.2.2.2.2.2.2.1
abbrev am_eC (E : am_EV) : am_Cx := E.2.2.2.2.2.2.2
def am_A (E : am_EV) (g : am_G) (α0 : Nat → Nat) (sz : Nat) : Nat → Prop := va_A (am_w g α0 (am_eh E)) sz
def am_C (E : am_EV) (cc : ByteArray) (g : am_G) (α0 : Nat → Nat) (sz : Nat) (α : Nat → Nat) (p : Program) (s : State) (m : MethodId) (args : Array Value) (meth : Method) (c : Code) : Prop :=
  p.tables.exec = Jvm.exec ∧ c.code = cc ∧ c.maxLocals = am_en E ∧ s.vm.findClass (am_eo E) = some m.cls ∧ (∀ w ∈ am_TB, w.before args s = true) ∧ am_T g s ∧ s.heap.size = sz ∧ am_eC E g α0 sz s args meth ∧ am_rel (am_ea E) (am_eh E).1.length α0 α
def am_X (E : am_EV) (g : am_G) (α0 : Nat → Nat) (sz : Nat) (α : Nat → Nat) (h : am_H) (s : State) (H : Heap) (locs : List Loc) : Prop :=
  am_wf h ∧ va_P g.1 am_cl (am_w g α h) H ∧ va_D (am_A E g α0 sz) (am_w g α h) ∧ va_S (am_A E g α0 sz) s.heap H locs
def am_L (α : Nat → Nat) (L : List (Nat × Value)) : List (Nat × Value) := L.map (fun q => (q.1, am_fv α q.2))
/-- the machine at pc, over the abstract heap h, comes to its end as told -/
def am_Ex (E : am_EV) (cc : ByteArray) (cs : Nat × Nat) (pc : Nat) (L : List (Nat × Value)) (st : List Value) (h : am_H) : Prop :=
  ∀ (g : am_G) (α0 : Nat → Nat) (sz : Nat) (α : Nat → Nat) (p : Program) (e : Env) (s : State) (m : MethodId) (args : Array Value) (below : List Frame) (meth : Method) (c : Code) (H : Heap) (locs : List Loc) (ls : Array Slot),
    am_C E cc g α0 sz α p s m args meth c → am_X E g α0 sz α h s H locs → lv_has ls (am_en E) (am_L α L) →
    W p (am_el E) e (am_er E) s m args below meth c H locs cs.1 cs.2 (am_eT E g α0 sz s args below) (F0 m pc ls (st.map (am_fv α)))
theorem am_L_at {α : Nat → Nat} {L : List (Nat × Value)} {k i : Nat} {v : Value} (hk : L[k]? = some (i, v)) : (am_L α L)[k]? = some (i, am_fv α v) := by simp [am_L, hk]
theorem am_L_f1 (α : Nat → Nat) (L : List (Nat × Value)) (i : Nat) : (am_L α L).filter (fun q => !(q.1 == i) && !(q.1 + 1 == i && q.2.category == 2)) = am_L α (L.filter (fun q => !(q.1 == i) && !(q.1 + 1 == i && q.2.category == 2))) := by
  simp only [am_L, List.filter_map]
  congr 1
  apply List.filter_congr
  intro q _
  simp [Function.comp, am_fv_cat]
theorem am_L_f2 (α : Nat → Nat) (L : List (Nat × Value)) (i : Nat) : (am_L α L).filter (fun q => !(q.1 == i) && (!(q.1 == i + 1) && !(q.1 + 1 == i && q.2.category == 2))) = am_L α (L.filter (fun q => !(q.1 == i) && (!(q.1 == i + 1) && !(q.1 + 1 == i && q.2.category == 2)))) := by
  simp only [am_L, List.filter_map]
  congr 1
  apply List.filter_congr
  intro q _
  simp [Function.comp, am_fv_cat]
section AMR
variable {E : am_EV} {cc : ByteArray} {cs : Nat × Nat} {pc : Nat} {L : List (Nat × Value)} {st : List Value} {h : am_H}
theorem am_ls {L' : List (Nat × Value)} (ks : List Nat) (hl' : lv_pick L ks = L') (kk : am_Ex E cc cs pc L' st h) : am_Ex E cc cs pc L st h := by
  intro g α0 sz α p e s m args below meth c H locs ls C X hl
  refine kk _ _ _ _ _ _ _ _ _ _ _ _ _ _ _ C X (lv_sub hl ks ?_)
  rw [← hl']
  simp only [lv_pick, am_L, List.getElem?_map, List.map_filterMap]
theorem am_h {h' : am_H} (e : h = h') (kk : am_Ex E cc cs pc L st h') : am_Ex E cc cs pc L st h := e ▸ kk
theorem am_st {st' : List Value} (e : st = st') (kk : am_Ex E cc cs pc L st' h) : am_Ex E cc cs pc L st h := e ▸ kk
theorem am_iconst {n : Int} {v : Int32} (hd : decode cc pc = .ok (.iconst n, 1)) (hv : Int32.ofInt n = v) (kk : am_Ex E cc cs (pc + 1) L (.int v :: st) h) : am_Ex E cc cs pc L (st) h := by
  intro g α0 sz α p e s m args below meth c H locs ls C X hl
  exact lv_iconst C.1 C.2.1 hd hv (kk _ _ _ _ _ _ _ _ _ _ _ _ _ _ _ C X hl)
theorem am_bipush {n : Int} {v : Int32} (hd : decode cc pc = .ok (.bipush n, 2)) (hv : (Int8.ofInt n).toInt32 = v) (kk : am_Ex E cc cs (pc + 2) L (.int v :: st) h) : am_Ex E cc cs pc L (st) h := by
  intro g α0 sz α p e s m args below meth c H locs ls C X hl
  exact lv_bipush C.1 C.2.1 hd hv (kk _ _ _ _ _ _ _ _ _ _ _ _ _ _ _ C X hl)
theorem am_sipush {n : Int} {v : Int32} (hd : decode cc pc = .ok (.sipush n, 3)) (hv : (Int16.ofInt n).toInt32 = v) (kk : am_Ex E cc cs (pc + 3) L (.int v :: st) h) : am_Ex E cc cs pc L (st) h := by
  intro g α0 sz α p e s m args below meth c H locs ls C X hl
  exact lv_sipush C.1 C.2.1 hd hv (kk _ _ _ _ _ _ _ _ _ _ _ _ _ _ _ C X hl)
theorem am_lconst {n : Fin 2} {v : Int64} (hd : decode cc pc = .ok (.lconst n, 1)) (hv : Int64.ofNat (n : Nat) = v) (kk : am_Ex E cc cs (pc + 1) L (.long v :: st) h) : am_Ex E cc cs pc L (st) h := by
  intro g α0 sz α p e s m args below meth c H locs ls C X hl
  exact lv_lconst C.1 C.2.1 hd hv (kk _ _ _ _ _ _ _ _ _ _ _ _ _ _ _ C X hl)
theorem am_ldc {i : Nat} {v : Int32} (hw : Cond.constant (am_eo E) i v ∈ am_TB) (hd : decode cc pc = .ok (.ldc i, 2)) (kk : am_Ex E cc cs (pc + 2) L (.int v :: st) h) : am_Ex E cc cs pc L (st) h := by
  intro g α0 sz α p e s m args below meth c H locs ls C X hl
  exact lv_ldc C.1 C.2.1 C.2.2.2.1 (C.2.2.2.2.1 _ hw) hd (kk _ _ _ _ _ _ _ _ _ _ _ _ _ _ _ C X hl)
theorem am_ldcw {i : Nat} {v : Int32} (hw : Cond.constant (am_eo E) i v ∈ am_TB) (hd : decode cc pc = .ok (.ldc_w i, 3)) (kk : am_Ex E cc cs (pc + 3) L (.int v :: st) h) : am_Ex E cc cs pc L (st) h := by
  intro g α0 sz α p e s m args below meth c H locs ls C X hl
  exact lv_ldcw C.1 C.2.1 C.2.2.2.1 (C.2.2.2.2.1 _ hw) hd (kk _ _ _ _ _ _ _ _ _ _ _ _ _ _ _ C X hl)
theorem am_ldc2 {i : Nat} {v : Int64} (hw : Cond.constantLong (am_eo E) i v ∈ am_TB) (hd : decode cc pc = .ok (.ldc2_w i, 3)) (kk : am_Ex E cc cs (pc + 3) L (.long v :: st) h) : am_Ex E cc cs pc L (st) h := by
  intro g α0 sz α p e s m args below meth c H locs ls C X hl
  exact lv_ldc2 C.1 C.2.1 C.2.2.2.1 (C.2.2.2.2.1 _ hw) hd (kk _ _ _ _ _ _ _ _ _ _ _ _ _ _ _ C X hl)
theorem am_iload_n {k : Fin 4} {i j : Nat} {x : Int32} (hd : decode cc pc = .ok (.iload_n k, 1)) (hi : (k : Nat) = i) (hk : L[j]? = some (i, .int x)) (kk : am_Ex E cc cs (pc + 1) L (.int x :: st) h) : am_Ex E cc cs pc L (st) h := by
  intro g α0 sz α p e s m args below meth c H locs ls C X hl
  exact lv_iload_n C.1 C.2.1 hd hi (lv_at hl j (am_L_at hk)) (kk _ _ _ _ _ _ _ _ _ _ _ _ _ _ _ C X hl)
theorem am_iload {i j : Nat} {x : Int32} (hd : decode cc pc = .ok (.iload i, 2)) (hk : L[j]? = some (i, .int x)) (kk : am_Ex E cc cs (pc + 2) L (.int x :: st) h) : am_Ex E cc cs pc L (st) h := by
  intro g α0 sz α p e s m args below meth c H locs ls C X hl
  exact lv_iload C.1 C.2.1 hd (lv_at hl j (am_L_at hk)) (kk _ _ _ _ _ _ _ _ _ _ _ _ _ _ _ C X hl)
theorem am_lload_n {k : Fin 4} {i j : Nat} {x : Int64} (hd : decode cc pc = .ok (.lload_n k, 1)) (hi : (k : Nat) = i) (hk : L[j]? = some (i, .long x)) (kk : am_Ex E cc cs (pc + 1) L (.long x :: st) h) : am_Ex E cc cs pc L (st) h := by
  intro g α0 sz α p e s m args below meth c H locs ls C X hl
  exact lv_lload_n C.1 C.2.1 hd hi (lv_at hl j (am_L_at hk)) (kk _ _ _ _ _ _ _ _ _ _ _ _ _ _ _ C X hl)
theorem am_lload {i j : Nat} {x : Int64} (hd : decode cc pc = .ok (.lload i, 2)) (hk : L[j]? = some (i, .long x)) (kk : am_Ex E cc cs (pc + 2) L (.long x :: st) h) : am_Ex E cc cs pc L (st) h := by
  intro g α0 sz α p e s m args below meth c H locs ls C X hl
  exact lv_lload C.1 C.2.1 hd (lv_at hl j (am_L_at hk)) (kk _ _ _ _ _ _ _ _ _ _ _ _ _ _ _ C X hl)
theorem am_aload_n {k : Fin 4} {i j : Nat} {x : Nat} (hd : decode cc pc = .ok (.aload_n k, 1)) (hi : (k : Nat) = i) (hk : L[j]? = some (i, .ref x)) (kk : am_Ex E cc cs (pc + 1) L (.ref x :: st) h) : am_Ex E cc cs pc L (st) h := by
  intro g α0 sz α p e s m args below meth c H locs ls C X hl
  exact lv_aload_n C.1 C.2.1 hd hi (lv_at hl j (am_L_at hk)) (kk _ _ _ _ _ _ _ _ _ _ _ _ _ _ _ C X hl)
theorem am_aload {i j : Nat} {x : Nat} (hd : decode cc pc = .ok (.aload i, 2)) (hk : L[j]? = some (i, .ref x)) (kk : am_Ex E cc cs (pc + 2) L (.ref x :: st) h) : am_Ex E cc cs pc L (st) h := by
  intro g α0 sz α p e s m args below meth c H locs ls C X hl
  exact lv_aload C.1 C.2.1 hd (lv_at hl j (am_L_at hk)) (kk _ _ _ _ _ _ _ _ _ _ _ _ _ _ _ C X hl)
theorem am_istore_n {k : Fin 4} {i : Nat} {x : Int32} {L' : List (Nat × Value)} (hd : decode cc pc = .ok (.istore_n k, 1)) (hi : (k : Nat) = i) (hn : i < am_en E) (hL : (i, Value.int x) :: L.filter (fun q => !(q.1 == i) && !(q.1 + 1 == i && q.2.category == 2)) = L') (kk : am_Ex E cc cs (pc + 1) L' st h) : am_Ex E cc cs pc L (.int x :: st) h := by
  intro g α0 sz α p e s m args below meth c H locs ls C X hl
  exact lv_istore_n C.1 C.2.1 hd hi hl hn (by rw [am_L_f1]) (fun ls' hl' => kk _ _ _ _ _ _ _ _ _ _ _ _ _ _ _ C X (by rw [← hL]; exact hl'))
theorem am_istore {i : Nat} {x : Int32} {L' : List (Nat × Value)} (hd : decode cc pc = .ok (.istore i, 2)) (hn : i < am_en E) (hL : (i, Value.int x) :: L.filter (fun q => !(q.1 == i) && !(q.1 + 1 == i && q.2.category == 2)) = L') (kk : am_Ex E cc cs (pc + 2) L' st h) : am_Ex E cc cs pc L (.int x :: st) h := by
  intro g α0 sz α p e s m args below meth c H locs ls C X hl
  exact lv_istore C.1 C.2.1 hd hl hn (by rw [am_L_f1]) (fun ls' hl' => kk _ _ _ _ _ _ _ _ _ _ _ _ _ _ _ C X (by rw [← hL]; exact hl'))
theorem am_astore_n {k : Fin 4} {i : Nat} {x : Nat} {L' : List (Nat × Value)} (hd : decode cc pc = .ok (.astore_n k, 1)) (hi : (k : Nat) = i) (hn : i < am_en E) (hL : (i, Value.ref x) :: L.filter (fun q => !(q.1 == i) && !(q.1 + 1 == i && q.2.category == 2)) = L') (kk : am_Ex E cc cs (pc + 1) L' st h) : am_Ex E cc cs pc L (.ref x :: st) h := by
  intro g α0 sz α p e s m args below meth c H locs ls C X hl
  exact lv_astore_n C.1 C.2.1 hd hi hl hn (by rw [am_L_f1]) (fun ls' hl' => kk _ _ _ _ _ _ _ _ _ _ _ _ _ _ _ C X (by rw [← hL]; exact hl'))
theorem am_astore {i : Nat} {x : Nat} {L' : List (Nat × Value)} (hd : decode cc pc = .ok (.astore i, 2)) (hn : i < am_en E) (hL : (i, Value.ref x) :: L.filter (fun q => !(q.1 == i) && !(q.1 + 1 == i && q.2.category == 2)) = L') (kk : am_Ex E cc cs (pc + 2) L' st h) : am_Ex E cc cs pc L (.ref x :: st) h := by
  intro g α0 sz α p e s m args below meth c H locs ls C X hl
  exact lv_astore C.1 C.2.1 hd hl hn (by rw [am_L_f1]) (fun ls' hl' => kk _ _ _ _ _ _ _ _ _ _ _ _ _ _ _ C X (by rw [← hL]; exact hl'))
theorem am_lstore_n {k : Fin 4} {i : Nat} {x : Int64} {L' : List (Nat × Value)} (hd : decode cc pc = .ok (.lstore_n k, 1)) (hi : (k : Nat) = i) (hn : i + 1 < am_en E) (hL : (i, Value.long x) :: L.filter (fun q => !(q.1 == i) && (!(q.1 == i + 1) && !(q.1 + 1 == i && q.2.category == 2))) = L') (kk : am_Ex E cc cs (pc + 1) L' st h) : am_Ex E cc cs pc L (.long x :: st) h := by
  intro g α0 sz α p e s m args below meth c H locs ls C X hl
  exact lv_lstore_n C.1 C.2.1 hd hi hl hn (by rw [am_L_f2]) (fun ls' hl' => kk _ _ _ _ _ _ _ _ _ _ _ _ _ _ _ C X (by rw [← hL]; exact hl'))
theorem am_lstore {i : Nat} {x : Int64} {L' : List (Nat × Value)} (hd : decode cc pc = .ok (.lstore i, 2)) (hn : i + 1 < am_en E) (hL : (i, Value.long x) :: L.filter (fun q => !(q.1 == i) && (!(q.1 == i + 1) && !(q.1 + 1 == i && q.2.category == 2))) = L') (kk : am_Ex E cc cs (pc + 2) L' st h) : am_Ex E cc cs pc L (.long x :: st) h := by
  intro g α0 sz α p e s m args below meth c H locs ls C X hl
  exact lv_lstore C.1 C.2.1 hd hl hn (by rw [am_L_f2]) (fun ls' hl' => kk _ _ _ _ _ _ _ _ _ _ _ _ _ _ _ C X (by rw [← hL]; exact hl'))
theorem am_iinc {i j : Nat} {n : Int} {x v : Int32} {L' : List (Nat × Value)} (hd : decode cc pc = .ok (.iinc i n, 3)) (hk : L[j]? = some (i, .int x)) (hv : x + Int32.ofInt n = v) (hn : i < am_en E) (hL : (i, Value.int v) :: L.filter (fun q => !(q.1 == i) && !(q.1 + 1 == i && q.2.category == 2)) = L') (kk : am_Ex E cc cs (pc + 3) L' st h) : am_Ex E cc cs pc L st h := by
  intro g α0 sz α p e s m args below meth c H locs ls C X hl
  exact lv_iinc C.1 C.2.1 hd hl (am_L_at hk) hv hn (by rw [am_L_f1]) (fun ls' hl' => kk _ _ _ _ _ _ _ _ _ _ _ _ _ _ _ C X (by rw [← hL]; exact hl'))
theorem am_iadd {x y : Int32} (hd : decode cc pc = .ok (.iadd, 1)) (kk : am_Ex E cc cs (pc + 1) L (.int (x + y) :: st) h) : am_Ex E cc cs pc L (.int y :: .int x :: st) h := by
  intro g α0 sz α p e s m args below meth c H locs ls C X hl
  exact lv_iadd C.1 C.2.1 hd (kk _ _ _ _ _ _ _ _ _ _ _ _ _ _ _ C X hl)
theorem am_isub {x y : Int32} (hd : decode cc pc = .ok (.isub, 1)) (kk : am_Ex E cc cs (pc + 1) L (.int (x - y) :: st) h) : am_Ex E cc cs pc L (.int y :: .int x :: st) h := by
  intro g α0 sz α p e s m args below meth c H locs ls C X hl
  exact lv_isub C.1 C.2.1 hd (kk _ _ _ _ _ _ _ _ _ _ _ _ _ _ _ C X hl)
theorem am_imul {x y : Int32} (hd : decode cc pc = .ok (.imul, 1)) (kk : am_Ex E cc cs (pc + 1) L (.int (x * y) :: st) h) : am_Ex E cc cs pc L (.int y :: .int x :: st) h := by
  intro g α0 sz α p e s m args below meth c H locs ls C X hl
  exact lv_imul C.1 C.2.1 hd (kk _ _ _ _ _ _ _ _ _ _ _ _ _ _ _ C X hl)
theorem am_iand {x y : Int32} (hd : decode cc pc = .ok (.iand, 1)) (kk : am_Ex E cc cs (pc + 1) L (.int (x &&& y) :: st) h) : am_Ex E cc cs pc L (.int y :: .int x :: st) h := by
  intro g α0 sz α p e s m args below meth c H locs ls C X hl
  exact lv_iand C.1 C.2.1 hd (kk _ _ _ _ _ _ _ _ _ _ _ _ _ _ _ C X hl)
theorem am_ior {x y : Int32} (hd : decode cc pc = .ok (.ior, 1)) (kk : am_Ex E cc cs (pc + 1) L (.int (x ||| y) :: st) h) : am_Ex E cc cs pc L (.int y :: .int x :: st) h := by
  intro g α0 sz α p e s m args below meth c H locs ls C X hl
  exact lv_ior C.1 C.2.1 hd (kk _ _ _ _ _ _ _ _ _ _ _ _ _ _ _ C X hl)
theorem am_ixor {x y : Int32} (hd : decode cc pc = .ok (.ixor, 1)) (kk : am_Ex E cc cs (pc + 1) L (.int (x ^^^ y) :: st) h) : am_Ex E cc cs pc L (.int y :: .int x :: st) h := by
  intro g α0 sz α p e s m args below meth c H locs ls C X hl
  exact lv_ixor C.1 C.2.1 hd (kk _ _ _ _ _ _ _ _ _ _ _ _ _ _ _ C X hl)
theorem am_ishl {x y : Int32} (hd : decode cc pc = .ok (.ishl, 1)) (kk : am_Ex E cc cs (pc + 1) L (.int (x <<< (y &&& 31)) :: st) h) : am_Ex E cc cs pc L (.int y :: .int x :: st) h := by
  intro g α0 sz α p e s m args below meth c H locs ls C X hl
  exact lv_ishl C.1 C.2.1 hd (kk _ _ _ _ _ _ _ _ _ _ _ _ _ _ _ C X hl)
theorem am_ishr {x y : Int32} (hd : decode cc pc = .ok (.ishr, 1)) (kk : am_Ex E cc cs (pc + 1) L (.int (x >>> (y &&& 31)) :: st) h) : am_Ex E cc cs pc L (.int y :: .int x :: st) h := by
  intro g α0 sz α p e s m args below meth c H locs ls C X hl
  exact lv_ishr C.1 C.2.1 hd (kk _ _ _ _ _ _ _ _ _ _ _ _ _ _ _ C X hl)
theorem am_idiv {x y : Int32} (hd : decode cc pc = .ok (.idiv, 1)) (hne : ¬ y = 0) (kk : am_Ex E cc cs (pc + 1) L (.int (x / y) :: st) h) : am_Ex E cc cs pc L (.int y :: .int x :: st) h := by
  intro g α0 sz α p e s m args below meth c H locs ls C X hl
  exact lv_idiv C.1 C.2.1 hd hne (kk _ _ _ _ _ _ _ _ _ _ _ _ _ _ _ C X hl)
theorem am_irem {x y : Int32} (hd : decode cc pc = .ok (.irem, 1)) (hne : ¬ y = 0) (kk : am_Ex E cc cs (pc + 1) L (.int (x - x / y * y) :: st) h) : am_Ex E cc cs pc L (.int y :: .int x :: st) h := by
  intro g α0 sz α p e s m args below meth c H locs ls C X hl
  exact lv_irem C.1 C.2.1 hd hne (kk _ _ _ _ _ _ _ _ _ _ _ _ _ _ _ C X hl)
theorem am_ladd {x y : Int64} (hd : decode cc pc = .ok (.ladd, 1)) (kk : am_Ex E cc cs (pc + 1) L (.long (x + y) :: st) h) : am_Ex E cc cs pc L (.long y :: .long x :: st) h := by
  intro g α0 sz α p e s m args below meth c H locs ls C X hl
  exact lv_ladd C.1 C.2.1 hd (kk _ _ _ _ _ _ _ _ _ _ _ _ _ _ _ C X hl)
theorem am_lsub {x y : Int64} (hd : decode cc pc = .ok (.lsub, 1)) (kk : am_Ex E cc cs (pc + 1) L (.long (x - y) :: st) h) : am_Ex E cc cs pc L (.long y :: .long x :: st) h := by
  intro g α0 sz α p e s m args below meth c H locs ls C X hl
  exact lv_lsub C.1 C.2.1 hd (kk _ _ _ _ _ _ _ _ _ _ _ _ _ _ _ C X hl)
theorem am_lmul {x y : Int64} (hd : decode cc pc = .ok (.lmul, 1)) (kk : am_Ex E cc cs (pc + 1) L (.long (x * y) :: st) h) : am_Ex E cc cs pc L (.long y :: .long x :: st) h := by
  intro g α0 sz α p e s m args below meth c H locs ls C X hl
  exact lv_lmul C.1 C.2.1 hd (kk _ _ _ _ _ _ _ _ _ _ _ _ _ _ _ C X hl)
theorem am_land {x y : Int64} (hd : decode cc pc = .ok (.land, 1)) (kk : am_Ex E cc cs (pc + 1) L (.long (x &&& y) :: st) h) : am_Ex E cc cs pc L (.long y :: .long x :: st) h := by
  intro g α0 sz α p e s m args below meth c H locs ls C X hl
  exact lv_land C.1 C.2.1 hd (kk _ _ _ _ _ _ _ _ _ _ _ _ _ _ _ C X hl)
theorem am_ldiv {x y : Int64} (hd : decode cc pc = .ok (.ldiv, 1)) (hne : ¬ y = 0) (kk : am_Ex E cc cs (pc + 1) L (.long (x / y) :: st) h) : am_Ex E cc cs pc L (.long y :: .long x :: st) h := by
  intro g α0 sz α p e s m args below meth c H locs ls C X hl
  exact lv_ldiv C.1 C.2.1 hd hne (kk _ _ _ _ _ _ _ _ _ _ _ _ _ _ _ C X hl)
theorem am_lrem {x y : Int64} (hd : decode cc pc = .ok (.lrem, 1)) (hne : ¬ y = 0) (kk : am_Ex E cc cs (pc + 1) L (.long (x - x / y * y) :: st) h) : am_Ex E cc cs pc L (.long y :: .long x :: st) h := by
  intro g α0 sz α p e s m args below meth c H locs ls C X hl
  exact lv_lrem C.1 C.2.1 hd hne (kk _ _ _ _ _ _ _ _ _ _ _ _ _ _ _ C X hl)
theorem am_lcmp {x y : Int64} (hd : decode cc pc = .ok (.lcmp, 1)) (kk : am_Ex E cc cs (pc + 1) L (.int (lg_cmp x y) :: st) h) : am_Ex E cc cs pc L (.long y :: .long x :: st) h := by
  intro g α0 sz α p e s m args below meth c H locs ls C X hl
  exact W.lcmp C.1 C.2.1 hd (kk _ _ _ _ _ _ _ _ _ _ _ _ _ _ _ C X hl)
theorem am_i2l {x : Int32} (hd : decode cc pc = .ok (.i2l, 1)) (kk : am_Ex E cc cs (pc + 1) L (.long x.toInt64 :: st) h) : am_Ex E cc cs pc L (.int x :: st) h := by
  intro g α0 sz α p e s m args below meth c H locs ls C X hl
  exact lv_i2l C.1 C.2.1 hd rfl (kk _ _ _ _ _ _ _ _ _ _ _ _ _ _ _ C X hl)
theorem am_l2i {x : Int64} (hd : decode cc pc = .ok (.l2i, 1)) (kk : am_Ex E cc cs (pc + 1) L (.int x.toInt32 :: st) h) : am_Ex E cc cs pc L (.long x :: st) h := by
  intro g α0 sz α p e s m args below meth c H locs ls C X hl
  exact lv_l2i C.1 C.2.1 hd rfl (kk _ _ _ _ _ _ _ _ _ _ _ _ _ _ _ C X hl)
theorem am_dup {v : Value} (hd : decode cc pc = .ok (.dup, 1)) (hv : v.category = 1) (kk : am_Ex E cc cs (pc + 1) L (v :: v :: st) h) : am_Ex E cc cs pc L (v :: st) h := by
  intro g α0 sz α p e s m args below meth c H locs ls C X hl
  exact lv_dup C.1 C.2.1 hd (by rw [am_fv_cat]; exact hv) (kk _ _ _ _ _ _ _ _ _ _ _ _ _ _ _ C X hl)
theorem am_pop {v : Value} (hd : decode cc pc = .ok (.pop, 1)) (hv : v.category = 1) (kk : am_Ex E cc cs (pc + 1) L (st) h) : am_Ex E cc cs pc L (v :: st) h := by
  intro g α0 sz α p e s m args below meth c H locs ls C X hl
  exact lv_pop C.1 C.2.1 hd (by rw [am_fv_cat]; exact hv) (kk _ _ _ _ _ _ _ _ _ _ _ _ _ _ _ C X hl)
theorem am_dup2 {v w : Value} (hd : decode cc pc = .ok (.dup2, 1)) (hv : v.category = 1) (hw : w.category = 1) (kk : am_Ex E cc cs (pc + 1) L (v :: w :: v :: w :: st) h) : am_Ex E cc cs pc L (v :: w :: st) h := by
  intro g α0 sz α p e s m args below meth c H locs ls C X hl
  exact lv_dup2_11 C.1 C.2.1 hd (by rw [am_fv_cat]; exact hv) (by rw [am_fv_cat]; exact hw) (kk _ _ _ _ _ _ _ _ _ _ _ _ _ _ _ C X hl)
theorem am_dup_x1 {v w : Value} (hd : decode cc pc = .ok (.dup_x1, 1)) (hv : v.category = 1) (hw : w.category = 1) (kk : am_Ex E cc cs (pc + 1) L (v :: w :: v :: st) h) : am_Ex E cc cs pc L (v :: w :: st) h := by
  intro g α0 sz α p e s m args below meth c H locs ls C X hl
  exact lv_dup_x1 C.1 C.2.1 hd (by rw [am_fv_cat]; exact hv) (by rw [am_fv_cat]; exact hw) (kk _ _ _ _ _ _ _ _ _ _ _ _ _ _ _ C X hl)
theorem am_if_eq {x : Int32} {off : Int} {tgt : Nat} (hd : decode cc pc = .ok (.ifCond .eq off, 3)) (ht : (pc : Int) + off = (tgt : Int)) (kt : x = 0 → am_Ex E cc cs tgt L st h) (kf : ¬ (x = 0) → am_Ex E cc cs (pc + 3) L st h) : am_Ex E cc cs pc L (.int x :: st) h := by
  intro g α0 sz α p e s m args below meth c H locs ls C X hl
  exact lv_if_eq C.1 C.2.1 hd ht (fun z => kt z _ _ _ _ _ _ _ _ _ _ _ _ _ _ _ C X hl) (fun z => kf z _ _ _ _ _ _ _ _ _ _ _ _ _ _ _ C X hl)
theorem am_icmp_eq {x y : Int32} {off : Int} {tgt : Nat} (hd : decode cc pc = .ok (.if_icmp .eq off, 3)) (ht : (pc : Int) + off = (tgt : Int)) (kt : x = y → am_Ex E cc cs tgt L st h) (kf : ¬ (x = y) → am_Ex E cc cs (pc + 3) L st h) : am_Ex E cc cs pc L (.int y :: .int x :: st) h := by
  intro g α0 sz α p e s m args below meth c H locs ls C X hl
  exact lv_icmp_eq C.1 C.2.1 hd ht (fun z => kt z _ _ _ _ _ _ _ _ _ _ _ _ _ _ _ C X hl) (fun z => kf z _ _ _ _ _ _ _ _ _ _ _ _ _ _ _ C X hl)
theorem am_if_ne {x : Int32} {off : Int} {tgt : Nat} (hd : decode cc pc = .ok (.ifCond .ne off, 3)) (ht : (pc : Int) + off = (tgt : Int)) (kt : ¬ x = 0 → am_Ex E cc cs tgt L st h) (kf : x = 0 → am_Ex E cc cs (pc + 3) L st h) : am_Ex E cc cs pc L (.int x :: st) h := by
  intro g α0 sz α p e s m args below meth c H locs ls C X hl
  exact lv_if_ne C.1 C.2.1 hd ht (fun z => kt z _ _ _ _ _ _ _ _ _ _ _ _ _ _ _ C X hl) (fun z => kf z _ _ _ _ _ _ _ _ _ _ _ _ _ _ _ C X hl)
theorem am_icmp_ne {x y : Int32} {off : Int} {tgt : Nat} (hd : decode cc pc = .ok (.if_icmp .ne off, 3)) (ht : (pc : Int) + off = (tgt : Int)) (kt : ¬ x = y → am_Ex E cc cs tgt L st h) (kf : x = y → am_Ex E cc cs (pc + 3) L st h) : am_Ex E cc cs pc L (.int y :: .int x :: st) h := by
  intro g α0 sz α p e s m args below meth c H locs ls C X hl
  exact lv_icmp_ne C.1 C.2.1 hd ht (fun z => kt z _ _ _ _ _ _ _ _ _ _ _ _ _ _ _ C X hl) (fun z => kf z _ _ _ _ _ _ _ _ _ _ _ _ _ _ _ C X hl)
theorem am_if_lt {x : Int32} {off : Int} {tgt : Nat} (hd : decode cc pc = .ok (.ifCond .lt off, 3)) (ht : (pc : Int) + off = (tgt : Int)) (kt : x < 0 → am_Ex E cc cs tgt L st h) (kf : ¬ (x < 0) → am_Ex E cc cs (pc + 3) L st h) : am_Ex E cc cs pc L (.int x :: st) h := by
  intro g α0 sz α p e s m args below meth c H locs ls C X hl
  exact lv_if_lt C.1 C.2.1 hd ht (fun z => kt z _ _ _ _ _ _ _ _ _ _ _ _ _ _ _ C X hl) (fun z => kf z _ _ _ _ _ _ _ _ _ _ _ _ _ _ _ C X hl)
theorem am_icmp_lt {x y : Int32} {off : Int} {tgt : Nat} (hd : decode cc pc = .ok (.if_icmp .lt off, 3)) (ht : (pc : Int) + off = (tgt : Int)) (kt : x < y → am_Ex E cc cs tgt L st h) (kf : ¬ (x < y) → am_Ex E cc cs (pc + 3) L st h) : am_Ex E cc cs pc L (.int y :: .int x :: st) h := by
  intro g α0 sz α p e s m args below meth c H locs ls C X hl
  exact lv_icmp_lt C.1 C.2.1 hd ht (fun z => kt z _ _ _ _ _ _ _ _ _ _ _ _ _ _ _ C X hl) (fun z => kf z _ _ _ _ _ _ _ _ _ _ _ _ _ _ _ C X hl)
theorem am_if_ge {x : Int32} {off : Int} {tgt : Nat} (hd : decode cc pc = .ok (.ifCond .ge off, 3)) (ht : (pc : Int) + off = (tgt : Int)) (kt : 0 ≤ x → am_Ex E cc cs tgt L st h) (kf : ¬ (0 ≤ x) → am_Ex E cc cs (pc + 3) L st h) : am_Ex E cc cs pc L (.int x :: st) h := by
  intro g α0 sz α p e s m args below meth c H locs ls C X hl
  exact lv_if_ge C.1 C.2.1 hd ht (fun z => kt z _ _ _ _ _ _ _ _ _ _ _ _ _ _ _ C X hl) (fun z => kf z _ _ _ _ _ _ _ _ _ _ _ _ _ _ _ C X hl)
theorem am_icmp_ge {x y : Int32} {off : Int} {tgt : Nat} (hd : decode cc pc = .ok (.if_icmp .ge off, 3)) (ht : (pc : Int) + off = (tgt : Int)) (kt : y ≤ x → am_Ex E cc cs tgt L st h) (kf : ¬ (y ≤ x) → am_Ex E cc cs (pc + 3) L st h) : am_Ex E cc cs pc L (.int y :: .int x :: st) h := by
  intro g α0 sz α p e s m args below meth c H locs ls C X hl
  exact lv_icmp_ge C.1 C.2.1 hd ht (fun z => kt z _ _ _ _ _ _ _ _ _ _ _ _ _ _ _ C X hl) (fun z => kf z _ _ _ _ _ _ _ _ _ _ _ _ _ _ _ C X hl)
theorem am_if_gt {x : Int32} {off : Int} {tgt : Nat} (hd : decode cc pc = .ok (.ifCond .gt off, 3)) (ht : (pc : Int) + off = (tgt : Int)) (kt : 0 < x → am_Ex E cc cs tgt L st h) (kf : ¬ (0 < x) → am_Ex E cc cs (pc + 3) L st h) : am_Ex E cc cs pc L (.int x :: st) h := by
  intro g α0 sz α p e s m args below meth c H locs ls C X hl
  exact lv_if_gt C.1 C.2.1 hd ht (fun z => kt z _ _ _ _ _ _ _ _ _ _ _ _ _ _ _ C X hl) (fun z => kf z _ _ _ _ _ _ _ _ _ _ _ _ _ _ _ C X hl)
theorem am_icmp_gt {x y : Int32} {off : Int} {tgt : Nat} (hd : decode cc pc = .ok (.if_icmp .gt off, 3)) (ht : (pc : Int) + off = (tgt : Int)) (kt : y < x → am_Ex E cc cs tgt L st h) (kf : ¬ (y < x) → am_Ex E cc cs (pc + 3) L st h) : am_Ex E cc cs pc L (.int y :: .int x :: st) h := by
  intro g α0 sz α p e s m args below meth c H locs ls C X hl
  exact lv_icmp_gt C.1 C.2.1 hd ht (fun z => kt z _ _ _ _ _ _ _ _ _ _ _ _ _ _ _ C X hl) (fun z => kf z _ _ _ _ _ _ _ _ _ _ _ _ _ _ _ C X hl)
theorem am_if_le {x : Int32} {off : Int} {tgt : Nat} (hd : decode cc pc = .ok (.ifCond .le off, 3)) (ht : (pc : Int) + off = (tgt : Int)) (kt : x ≤ 0 → am_Ex E cc cs tgt L st h) (kf : ¬ (x ≤ 0) → am_Ex E cc cs (pc + 3) L st h) : am_Ex E cc cs pc L (.int x :: st) h := by
  intro g α0 sz α p e s m args below meth c H locs ls C X hl
  exact lv_if_le C.1 C.2.1 hd ht (fun z => kt z _ _ _ _ _ _ _ _ _ _ _ _ _ _ _ C X hl) (fun z => kf z _ _ _ _ _ _ _ _ _ _ _ _ _ _ _ C X hl)
theorem am_icmp_le {x y : Int32} {off : Int} {tgt : Nat} (hd : decode cc pc = .ok (.if_icmp .le off, 3)) (ht : (pc : Int) + off = (tgt : Int)) (kt : x ≤ y → am_Ex E cc cs tgt L st h) (kf : ¬ (x ≤ y) → am_Ex E cc cs (pc + 3) L st h) : am_Ex E cc cs pc L (.int y :: .int x :: st) h := by
  intro g α0 sz α p e s m args below meth c H locs ls C X hl
  exact lv_icmp_le C.1 C.2.1 hd ht (fun z => kt z _ _ _ _ _ _ _ _ _ _ _ _ _ _ _ C X hl) (fun z => kf z _ _ _ _ _ _ _ _ _ _ _ _ _ _ _ C X hl)
theorem am_goto {off : Int} {tgt : Nat} (hd : decode cc pc = .ok (.goto off, 3)) (ht : (pc : Int) + off = (tgt : Int)) (kk : am_Ex E cc cs tgt L st h) : am_Ex E cc cs pc L st h := by
  intro g α0 sz α p e s m args below meth c H locs ls C X hl
  exact lv_goto C.1 C.2.1 hd ht (kk _ _ _ _ _ _ _ _ _ _ _ _ _ _ _ C X hl)
theorem am_tableOut {dflt lo hi : Int} {offs : Array Int} {len : Nat} {x : Int32} {tgt : Nat} (hd : decode cc pc = .ok (.tableswitch dflt lo hi offs, len)) (hx : x.toInt < lo ∨ hi < x.toInt) (ht : (pc : Int) + dflt = (tgt : Int)) (kk : am_Ex E cc cs tgt L st h) : am_Ex E cc cs pc L (.int x :: st) h := by
  intro g α0 sz α p e s m args below meth c H locs ls C X hl
  exact lv_tableOut C.1 C.2.1 hd hx ht (kk _ _ _ _ _ _ _ _ _ _ _ _ _ _ _ C X hl)
theorem am_tableIn {dflt lo hi : Int} {offs : Array Int} {len : Nat} {x : Int32} {off : Int} {tgt : Nat} (hd : decode cc pc = .ok (.tableswitch dflt lo hi offs, len)) (h1 : ¬ x.toInt < lo) (h2 : ¬ hi < x.toInt) (ho : offs[(x.toInt - lo).toNat]? = some off) (ht : (pc : Int) + off = (tgt : Int)) (kk : am_Ex E cc cs tgt L st h) : am_Ex E cc cs pc L (.int x :: st) h := by
  intro g α0 sz α p e s m args below meth c H locs ls C X hl
  exact lv_tableIn C.1 C.2.1 hd h1 h2 ho ht (kk _ _ _ _ _ _ _ _ _ _ _ _ _ _ _ C X hl)
theorem am_lookup {dflt : Int} {ps : Array (Int × Int)} {len : Nat} {x : Int32} {off : Int} {tgt : Nat} (hd : decode cc pc = .ok (.lookupswitch dflt ps, len)) (hp : (ps.toList.zip (ps.toList.drop 1)).all (fun (a, next) => a.1 < next.1) = true) (ho : Op.lookupswitch.offset ps.toList dflt x.toInt = off) (ht : (pc : Int) + off = (tgt : Int)) (kk : am_Ex E cc cs tgt L st h) : am_Ex E cc cs pc L (.int x :: st) h := by
  intro g α0 sz α p e s m args below meth c H locs ls C X hl
  exact lv_lookup C.1 C.2.1 hd hp ho ht (kk _ _ _ _ _ _ _ _ _ _ _ _ _ _ _ C X hl)
end AMR
end
section
def am_FL (own : String) (idx c k : Nat) : Prop := c < 7 ∧ k < am_nf c ∧ Cond.fieldLink own idx (am_ct c k).1 (am_ct c k).2.1 (am_ct c k).2.2.1 ∈ am_TB
theorem am_fs {g : am_G} {α : Nat → Nat} {h : am_H} {a c z : Nat} (hs : h.1[a]? = some (c + 2, z)) : (am_w g α h)[a]? = some (α a, .inr (c, (List.range (am_nf c)).map (fun j => am_fv α (am_fld c a j h.2.1 h.2.2)))) := am_at hs
theorem am_fk {n k : Nat} {F : Nat → Value} (hk : k < n) : ((List.range n).map F)[k]? = some (F k) := by simp [hk]
theorem am_fits_i (x : Int32) : fits .int (.int x) = true := rfl
section AMH
variable {E : am_EV} {cc : ByteArray} {cs : Nat × Nat} {pc : Nat} {L : List (Nat × Value)} {st : List Value} {h : am_H}
theorem am_geti {a c z k idx : Nat} (hs : h.1[a]? = some (c + 2, z)) (hf : am_FL (am_eo E) idx c k) (ht : am_isr (am_cy c k) = false) (hd : decode cc pc = .ok (.getfield idx, 3)) (kk : am_Ex E cc cs (pc + 3) L (.int (h.2.2 a k) :: st) h) : am_Ex E cc cs pc L (.ref a :: st) h := by
  intro g α0 sz α p e s m args below meth c' H locs ls C X hl
  obtain ⟨hc, hk, hw⟩ := hf
  have C' := C
  obtain ⟨hx, hb, -, hown, hts, hT, -⟩ := C'
  refine va_get hx hb hts (am_cin c hc) hown hT.1 X.2.1 a (am_fs hs) (am_cl_at c hc) k hk (hts _ hw) (fun x q => q) (am_fk hk) hd ?_
  have e1 : am_fv α (am_fld c a k h.2.1 h.2.2) = .int (h.2.2 a k) := by simp [am_fld, ht, am_fv]
  rw [e1]
  exact kk _ _ _ _ _ _ _ _ _ _ _ _ _ _ _ C X hl
theorem am_getr {a c z k idx b : Nat} (hs : h.1[a]? = some (c + 2, z)) (hf : am_FL (am_eo E) idx c k) (ht : am_isr (am_cy c k) = true) (hr : h.2.1 a k = some b) (hd : decode cc pc = .ok (.getfield idx, 3)) (kk : am_Ex E cc cs (pc + 3) L (.ref b :: st) h) : am_Ex E cc cs pc L (.ref a :: st) h := by
  intro g α0 sz α p e s m args below meth c' H locs ls C X hl
  obtain ⟨hc, hk, hw⟩ := hf
  have C' := C
  obtain ⟨hx, hb, -, hown, hts, hT, -⟩ := C'
  refine va_get hx hb hts (am_cin c hc) hown hT.1 X.2.1 a (am_fs hs) (am_cl_at c hc) k hk (hts _ hw) (fun x q => q) (am_fk hk) hd ?_
  have e1 : am_fv α (am_fld c a k h.2.1 h.2.2) = am_fv α (.ref b) := by simp [am_fld, ht, hr, va_rf]
  rw [e1]
  exact kk _ _ _ _ _ _ _ _ _ _ _ _ _ _ _ C X hl
theorem am_puti {a c z k idx : Nat} {x : Int32} (hs : h.1[a]? = some (c + 2, z)) (hf : am_FL (am_eo E) idx c k) (ht : am_cy c k = .int) (hfin : (am_ct c k).2.2.2 = false) (hd : decode cc pc = .ok (.putfield idx, 3)) (kk : am_Ex E cc cs (pc + 3) L st (h.1, h.2.1, am_up h.2.2 a k x)) : am_Ex E cc cs pc L (.int x :: .ref a :: st) h := by
  intro g α0 sz α p e s m args below meth c' H locs ls C X hl
  obtain ⟨hc, hk, hw⟩ := hf
  have C' := C
  obtain ⟨hx, hb, -, hown, hts, hT, -⟩ := C'
  obtain ⟨hwf, hP, hD, hS⟩ := X
  have ew : am_w g α (h.1, h.2.1, am_up h.2.2 a k x) = _ := am_w_int (g := g) (α := α) (R := h.2.1) (D := h.2.2) (x := x) hs hk (by rw [ht]; rfl)
  refine va_put hx hb hts (am_cin c hc) (am_cy c) (am_cty c hc) (am_cnm c hc) hown hT.1 hP hD hS a (am_fs hs) (am_cl_at c hc) k hk (hts _ hw) (fun x q => q) hfin (ty := .int) (v := .int x) (by rw [am_cty c hc k hk, ht]) rfl rfl (by simpa using hk) hd (fun H1 locs1 hP1 hD1 hS1 => ?_)
  exact kk _ _ _ _ _ _ _ _ _ _ _ _ _ _ _ C ⟨hwf, by rw [ew]; exact hP1, by rw [ew]; exact hD1, hS1⟩ hl
theorem am_putz {a c z k idx : Nat} {x : Int32} (hx01 : x = 0 ∨ x = 1) (hs : h.1[a]? = some (c + 2, z)) (hf : am_FL (am_eo E) idx c k) (ht : am_cy c k = .boolean) (hfin : (am_ct c k).2.2.2 = false) (hd : decode cc pc = .ok (.putfield idx, 3)) (kk : am_Ex E cc cs (pc + 3) L st (h.1, h.2.1, am_up h.2.2 a k x)) : am_Ex E cc cs pc L (.int x :: .ref a :: st) h := by
  intro g α0 sz α p e s m args below meth c' H locs ls C X hl
  obtain ⟨hc, hk, hw⟩ := hf
  have C' := C
  obtain ⟨hx, hb, -, hown, hts, hT, -⟩ := C'
  obtain ⟨hwf, hP, hD, hS⟩ := X
  have ew : am_w g α (h.1, h.2.1, am_up h.2.2 a k x) = _ := am_w_int (g := g) (α := α) (R := h.2.1) (D := h.2.2) (x := x) hs hk (by rw [ht]; rfl)
  refine va_put hx hb hts (am_cin c hc) (am_cy c) (am_cty c hc) (am_cnm c hc) hown hT.1 hP hD hS a (am_fs hs) (am_cl_at c hc) k hk (hts _ hw) (fun x q => q) hfin (ty := .boolean) (v := .int x) (by rw [am_cty c hc k hk, ht]) (by rcases hx01 with rfl | rfl <;> decide) (by rcases hx01 with rfl | rfl <;> decide) (by simpa using hk) hd (fun H1 locs1 hP1 hD1 hS1 => ?_)
  exact kk _ _ _ _ _ _ _ _ _ _ _ _ _ _ _ C ⟨hwf, by rw [ew]; exact hP1, by rw [ew]; exact hD1, hS1⟩ hl
theorem am_wf_put {h : am_H} {a k b : Nat} (hwf : am_wf h) (hb : b < h.1.length) : am_wf (h.1, am_upR h.2.1 a k (some b), h.2.2) := by
  intro a' j k' ha hk
  simp only [am_upR] at hk
  split at hk
  · cases hk; exact hb
  · exact hwf a' j k' ha hk
theorem am_putr {a c z k idx b : Nat} (hbl : b < h.1.length) (hs : h.1[a]? = some (c + 2, z)) (hf : am_FL (am_eo E) idx c k) {ty : FieldType} (ht : am_cy c k = ty) (hr : am_isr ty = true) (hfin : (am_ct c k).2.2.2 = false) (hd : decode cc pc = .ok (.putfield idx, 3)) (kk : am_Ex E cc cs (pc + 3) L st (h.1, am_upR h.2.1 a k (some b), h.2.2)) : am_Ex E cc cs pc L (.ref b :: .ref a :: st) h := by
  intro g α0 sz α p e s m args below meth c' H locs ls C X hl
  obtain ⟨hc, hk, hw⟩ := hf
  have C' := C
  obtain ⟨hx, hb, -, hown, hts, hT, -⟩ := C'
  obtain ⟨hwf, hP, hD, hS⟩ := X
  have ew : am_w g α (h.1, am_upR h.2.1 a k (some b), h.2.2) = _ := am_w_ref (g := g) (α := α) (R := h.2.1) (D := h.2.2) (v := some b) hs hk (by rw [ht]; exact hr)
  have hn : narrow ty (.ref (α b)) = .ref (α b) := by cases ty <;> first | rfl | cases hr
  have hft : fits ty (.ref (α b)) = true := by cases ty <;> first | rfl | cases hr
  refine va_put hx hb hts (am_cin c hc) (am_cy c) (am_cty c hc) (am_cnm c hc) hown hT.1 hP hD hS a (am_fs hs) (am_cl_at c hc) k hk (hts _ hw) (fun x q => q) hfin (ty := ty) (v := .ref (α b)) (by rw [am_cty c hc k hk, ht]) hn hft (by simpa using hk) hd (fun H1 locs1 hP1 hD1 hS1 => ?_)
  exact kk _ _ _ _ _ _ _ _ _ _ _ _ _ _ _ C ⟨am_wf_put hwf hbl, by rw [ew]; exact hP1, by rw [ew]; exact hD1, hS1⟩ hl
theorem am_putF {a c z k idx b : Nat} (hin : ∀ g α0 sz s args meth, am_eC E g α0 sz s args meth → meth.name = "<init>") (hbl : b < h.1.length) (hs : h.1[a]? = some (c + 2, z)) (hf : am_FL (am_eo E) idx c k) {ty : FieldType} (ht : am_cy c k = ty) (hr : am_isr ty = true) (hfin : (am_ct c k).2.2.2 = true) (hdecl : (am_ct c k).1 = am_eo E) (hd : decode cc pc = .ok (.putfield idx, 3)) (kk : am_Ex E cc cs (pc + 3) L st (h.1, am_upR h.2.1 a k (some b), h.2.2)) : am_Ex E cc cs pc L (.ref b :: .ref a :: st) h := by
  intro g α0 sz α p e s m args below meth c' H locs ls C X hl
  obtain ⟨hc, hk, hw⟩ := hf
  have C' := C
  obtain ⟨hx, hb, -, hown, hts, hT, -, hcx, -⟩ := C'
  obtain ⟨hwf, hP, hD, hS⟩ := X
  have ew : am_w g α (h.1, am_upR h.2.1 a k (some b), h.2.2) = _ := am_w_ref (g := g) (α := α) (R := h.2.1) (D := h.2.2) (v := some b) hs hk (by rw [ht]; exact hr)
  have hn : narrow ty (.ref (α b)) = .ref (α b) := by cases ty <;> first | rfl | cases hr
  have hft : fits ty (.ref (α b)) = true := by cases ty <;> first | rfl | cases hr
  refine va_putF hx hb hts (am_cin c hc) (am_cy c) (am_cty c hc) (am_cnm c hc) hown hT.1 hP hD hS a (am_fs hs) (am_cl_at c hc) k hk (hts _ hw) (fun x q => q) hfin (hin _ _ _ _ _ _ hcx) hdecl (ty := ty) (v := .ref (α b)) (by rw [am_cty c hc k hk, ht]) hn hft (by simpa using hk) hd (fun H1 locs1 hP1 hD1 hS1 => ?_)
  exact kk _ _ _ _ _ _ _ _ _ _ _ _ _ _ _ C ⟨am_wf_put hwf hbl, by rw [ew]; exact hP1, by rw [ew]; exact hD1, hS1⟩ hl
theorem am_iald {a n : Nat} {i : Int32} (hs : h.1[a]? = some (0, n)) (hi : vp_in i n) (hd : decode cc pc = .ok (.iaload, 1)) (kk : am_Ex E cc cs (pc + 1) L (.int (h.2.2 a i.toNatClampNeg) :: st) h) : am_Ex E cc cs pc L (.int i :: .ref a :: st) h := by
  intro g α0 sz α p e s m args below meth c' H locs ls C X hl
  exact va_iald C.1 C.2.1 C.2.2.2.2.2.1.1 X.2.1 a 0 (am_at hs) rfl hi hd (kk _ _ _ _ _ _ _ _ _ _ _ _ _ _ _ C X hl)
theorem am_bald {a n : Nat} {i : Int32} (hs : h.1[a]? = some (1, n)) (hi : vp_in i n) (hd : decode cc pc = .ok (.baload, 1)) (kk : am_Ex E cc cs (pc + 1) L (.int (h.2.2 a i.toNatClampNeg) :: st) h) : am_Ex E cc cs pc L (.int i :: .ref a :: st) h := by
  intro g α0 sz α p e s m args below meth c' H locs ls C X hl
  exact va_zald C.1 C.2.1 C.2.2.2.2.2.1.1 X.2.1 a 1 (am_at hs) rfl hi hd (kk _ _ _ _ _ _ _ _ _ _ _ _ _ _ _ C X hl)
theorem am_iast {a n : Nat} {i x : Int32} (hs : h.1[a]? = some (0, n)) (hi : vp_in i n) (hd : decode cc pc = .ok (.iastore, 1)) (kk : am_Ex E cc cs (pc + 1) L st (h.1, h.2.1, am_up h.2.2 a i.toNatClampNeg x)) : am_Ex E cc cs pc L (.int x :: .int i :: .ref a :: st) h := by
  intro g α0 sz α p e s m args below meth c' H locs ls C X hl
  obtain ⟨hwf, hP, hD, hS⟩ := X
  have ew : am_w g α (h.1, h.2.1, am_up h.2.2 a i.toNatClampNeg x) = _ := am_w_arr (g := g) (α := α) (R := h.2.1) (D := h.2.2) (Or.inl rfl) hs
  refine va_iast C.1 C.2.1 C.2.2.2.2.2.1.1 hP hD hS a 0 (am_at hs) rfl hi hd (fun H1 locs1 hP1 hD1 hS1 => ?_)
  exact kk _ _ _ _ _ _ _ _ _ _ _ _ _ _ _ C ⟨hwf, by rw [ew]; exact hP1, by rw [ew]; exact hD1, hS1⟩ hl
theorem am_bast {a n : Nat} {i x : Int32} (hs : h.1[a]? = some (1, n)) (hi : vp_in i n) (hd : decode cc pc = .ok (.bastore, 1)) (kk : am_Ex E cc cs (pc + 1) L st (h.1, h.2.1, am_up h.2.2 a i.toNatClampNeg (vp_nar .boolean x))) : am_Ex E cc cs pc L (.int x :: .int i :: .ref a :: st) h := by
  intro g α0 sz α p e s m args below meth c' H locs ls C X hl
  obtain ⟨hwf, hP, hD, hS⟩ := X
  have ew : am_w g α (h.1, h.2.1, am_up h.2.2 a i.toNatClampNeg (vp_nar .boolean x)) = _ := am_w_arr (g := g) (α := α) (R := h.2.1) (D := h.2.2) (Or.inr rfl) hs
  refine va_zast C.1 C.2.1 C.2.2.2.2.2.1.1 hP hD hS a 1 (am_at hs) rfl hi hd (fun H1 locs1 hP1 hD1 hS1 => ?_)
  exact kk _ _ _ _ _ _ _ _ _ _ _ _ _ _ _ C ⟨hwf, by rw [ew]; exact hP1, by rw [ew]; exact hD1, hS1⟩ hl
theorem am_alen {a n : Nat} (hs : h.1[a]? = some (0, n)) (hd : decode cc pc = .ok (.arraylength, 1)) (kk : am_Ex E cc cs (pc + 1) L (.int (Int32.ofNat n) :: st) h) : am_Ex E cc cs pc L (.ref a :: st) h := by
  intro g α0 sz α p e s m args below meth c' H locs ls C X hl
  exact va_alen C.1 C.2.1 C.2.2.2.2.2.1.1 X.2.1 a 0 (am_at hs) rfl rfl hd (kk _ _ _ _ _ _ _ _ _ _ _ _ _ _ _ C X hl)
/-- Math.max, Math.min, as the machine has them -/
def am_max (x y : Int32) : Int32 := if x < y then y else x
def am_min (x y : Int32) : Int32 := if y < x then y else x
def am_LM (own : String) (idx : Nat) (y : MethodName) (code : ByteArray) : Prop := Cond.methodLink own idx y ∈ am_TB ∧ Cond.static y ∈ am_TB ∧ Cond.initialized "java/lang/Math" ∈ am_TB ∧ Cond.code y code 2 (some .int) ∈ am_TB
theorem am_catsum (α : Nat → Nat) (st : List Value) : ((st.map (am_fv α)).map fun v => v.category).sum = (st.map fun v => v.category).sum := by
  rw [List.map_map]
  congr 1
  apply List.map_congr_left
  intro v _
  exact am_fv_cat α v
theorem am_mmax {idx : Nat} {x y : Int32} (hl' : am_LM (am_eo E) idx Lib.Math.max.name Lib.Math.max.code) (hf : 1 ≤ (am_er E).frames) (hlo : (st.map fun v => v.category).sum + 13 ≤ (am_er E).locals) (hcs : cs.1 ≤ (am_er E).cells ∧ cs.2 ≤ (am_er E).slots) (hd : decode cc pc = .ok (.invokestatic idx, 3)) (kk : am_Ex E cc cs (pc + 3) L (.int (am_max x y) :: st) h) : am_Ex E cc cs pc L (.int y :: .int x :: st) h := by
  intro g α0 sz α p e s m args below meth c' H locs ls C X hl
  have C' := C
  obtain ⟨hx, hb, hml, hown, hts, hT, -⟩ := C'
  exact va_mmax hx hb (by rw [hml]; exact hl.1.symm) hown (hts _ hl'.1) (hts _ hl'.2.1) (hts _ hl'.2.2.1) (hts _ hl'.2.2.2) hf (by rw [am_catsum]; exact hlo) hcs.1 hcs.2 hd (kk _ _ _ _ _ _ _ _ _ _ _ _ _ _ _ C X hl)
theorem am_mmin {idx : Nat} {x y : Int32} (hl' : am_LM (am_eo E) idx Lib.Math.min.name Lib.Math.min.code) (hf : 1 ≤ (am_er E).frames) (hlo : (st.map fun v => v.category).sum + 13 ≤ (am_er E).locals) (hcs : cs.1 ≤ (am_er E).cells ∧ cs.2 ≤ (am_er E).slots) (hd : decode cc pc = .ok (.invokestatic idx, 3)) (kk : am_Ex E cc cs (pc + 3) L (.int (am_min x y) :: st) h) : am_Ex E cc cs pc L (.int y :: .int x :: st) h := by
  intro g α0 sz α p e s m args below meth c' H locs ls C X hl
  have C' := C
  obtain ⟨hx, hb, hml, hown, hts, hT, -⟩ := C'
  exact va_mmin hx hb (by rw [hml]; exact hl.1.symm) hown (hts _ hl'.1) (hts _ hl'.2.1) (hts _ hl'.2.2.1) (hts _ hl'.2.2.2) hf (by rw [am_catsum]; exact hlo) hcs.1 hcs.2 hd (kk _ _ _ _ _ _ _ _ _ _ _ _ _ _ _ C X hl)
def am_LC (own : String) (idx : Nat) : Prop := Cond.methodLink own idx arraycopyName ∈ am_TB ∧ Cond.native arraycopyName ∈ am_TB ∧ Cond.static arraycopyName ∈ am_TB ∧ Cond.initialized "java/lang/System" ∈ am_TB
theorem am_copy {idx a b n n1 : Nat} {x : Int32} (hl' : am_LC (am_eo E) idx) (h0 : h.1[b]? = some (0, n)) (h1 : h.1[a]? = some (0, n1)) (hx0 : ¬ x < 0) (hx1 : x.toNatClampNeg ≤ n) (hx2 : x.toNatClampNeg ≤ n1) (hf : 1 ≤ (am_er E).frames) (hlo : (st.map fun v => v.category).sum + (nativeFrameWords "java/lang/System" "arraycopy" 5 + 11) ≤ (am_er E).locals) (hd : decode cc pc = .ok (.invokestatic idx, 3)) (kk : am_Ex E cc cs (pc + 3) L st (h.1, h.2.1, am_row h.2.2 a (va_cpy (h.2.2 b) (h.2.2 a) 0 0 x.toNatClampNeg))) : am_Ex E cc cs pc L (.int x :: .int 0 :: .ref a :: .int 0 :: .ref b :: st) h := by
  intro g α0 sz α p e s m args below meth c' H locs ls C X hl
  have C' := C
  obtain ⟨hx, hb, hml, hown, hts, hT, -⟩ := C'
  obtain ⟨hwf, hP, hD, hS⟩ := X
  have ew : am_w g α (h.1, h.2.1, am_row h.2.2 a (va_cpy (h.2.2 b) (h.2.2 a) 0 0 x.toNatClampNeg)) = _ := am_w_arr (g := g) (α := α) (R := h.2.1) (D := h.2.2) (Or.inl rfl) h1
  refine va_copyi (ty := .int) hx hb (by rw [hml]; exact hl.1.symm) hown (hts _ hl'.1) (hts _ hl'.2.1) (hts _ hl'.2.2.1) (hts _ hl'.2.2.2) hT.1 hP hD hS b a 0 0 (am_at h0) (am_at h1) rfl rfl rfl (by decide) (by decide) hx0 (by rw [show (0 : Int32).toNatClampNeg = 0 from rfl]; omega) (by rw [show (0 : Int32).toNatClampNeg = 0 from rfl]; omega) (fun _ _ => rfl) hf (by rw [am_catsum]; exact hlo) hd (fun H1 locs1 hP1 hD1 hS1 => ?_)
  exact kk _ _ _ _ _ _ _ _ _ _ _ _ _ _ _ C ⟨hwf, by rw [ew]; exact hP1, by rw [ew]; exact hD1, hS1⟩ hl
end AMH
end
section
abbrev am_Ph : Type := Option Value → am_H → Prop
def am_ws (M : am_D) : List Cond := .code M.1 M.2.1 M.2.2.1 M.2.2.2.1 :: am_TB
abbrev am_rm (M : am_D) : Room := M.2.2.2.2
def am_Q (g : am_G) (α0 : Nat → Nat) (h0 : am_H) (sz : Nat) (al : Bool) (Φ : am_Ph) : Array Value → State → Outcome → State → Prop := fun _ s0 oc t =>
  (∃ (v : Option Value) (h' : am_H) (α : Nat → Nat), oc = .returned (v.map (am_fv α)) ∧ Φ v h' ∧ am_rel al h0.1.length α0 α ∧ am_wf h' ∧ va_P g.1 am_cl (am_w g α h') t.heap ∧ va_D (va_A (am_w g α0 h0) sz) (am_w g α h') ∧ am_T g t) ∧ va_F (va_A (am_w g α0 h0) sz) s0 t
def am_Pre (g : am_G) (α : Nat → Nat) (h : am_H) (sz : Nat) : State → Prop := fun U => U.heap.size = sz ∧ am_wf h ∧ va_P g.1 am_cl (am_w g α h) U.heap ∧ va_D (fun _ => True) (am_w g α h) ∧ am_T g U
/-- the contract of a method over the abstract heap -/
def am_CT (l : Launch) (M : am_D) (al : Bool) (av : List Value) (h : am_H) (Φ : am_Ph) : Prop :=
  ∀ (g : am_G) (α : Nat → Nat) (sz : Nat), Met l M.1 (am_ws M) (am_rm M) (va_Pc (av.map (am_fv α)) (am_Pre g α h sz)) (am_Q g α h sz al Φ) (am_rm M).cells (am_rm M).slots (va_A (am_w g α h) sz)
def am_E (l : Launch) (M : am_D) (al : Bool) (h0 : am_H) (Φ : am_Ph) : am_EV :=
  (l, M.2.2.1, M.1.cls, am_rm M, h0, al, fun g α0 sz s args below => MQ below (am_Q g α0 h0 sz al Φ) args s (am_rm M).cells (am_rm M).slots (va_A (am_w g α0 h0) sz), fun _ _ _ _ _ meth => meth.sig.returnType = M.2.2.2.1 ∧ meth.locks = false ∧ meth.name = M.1.name)
theorem am_args (α : Nat → Nat) : ∀ (av : List Value) (n : Nat), lv_args n (av.map (am_fv α)) = am_L α (lv_args n av)
  | [], n => rfl
  | v :: av, n => by
    simp only [List.map_cons, lv_args, am_fv_cat]
    rw [am_args α av]
    rfl
theorem am_sl (α : Nat → Nat) (av : List Value) : (lg_sl (av.map (am_fv α))).length = (lg_sl av).length := by
  induction av with
  | nil => rfl
  | cons v av ih =>
    simp only [lg_sl, List.map_cons, List.flatMap_cons, List.length_append, am_fv_cat] at ih ⊢
    rw [ih]
    split <;> rfl
theorem am_rel.rf {al : Bool} {n : Nat} {α : Nat → Nat} : am_rel al n α α := ⟨fun _ _ => rfl, fun _ => rfl⟩
theorem am_CT.of {l : Launch} {M : am_D} {al : Bool} {av : List Value} {h : am_H} {Φ : am_Ph} (hy : plainName M.1.cls = true) (hn : (lg_sl av).length ≤ M.2.2.1) (k : am_Ex (am_E l M al h Φ) M.2.1 (0, 0) 0 (lv_args 0 av) [] h) : am_CT l M al av h Φ := by
  intro g α sz
  refine Met.ofW (cc := M.2.1) (maxL := M.2.2.1) (ret := M.2.2.2.1) hy rfl ?_
  intro p e s m args below meth c s₁ B hml hv
  obtain ⟨rfl, hsz, hwf, hP, hD0, hT⟩ := hv
  have hts := atoms_spec (ws := am_ws M) B.pre
  subst hsz
  have hD := hD0.self (sz := s.heap.size)
  have hl := lv_entry (av.map (am_fv α)) (n := M.2.2.1) (by rw [am_sl]; exact hn)
  rw [lg_entry_eq]
  rw [am_args] at hl
  generalize ((lg_sl (av.map (am_fv α))) ++ List.replicate (M.2.2.1 - (lg_sl (av.map (am_fv α))).length) Slot.unset).toArray = ls at hl ⊢
  refine k g α s.heap.size α p e s m _ below meth c s.heap [] ls ⟨B.exec, B.bytes, hml, findClass_of_methodNamed B.named, fun w hw => hts w (List.mem_cons_of_mem _ hw), hT, rfl, ⟨B.returns, B.notSynchronized, (name_of_methodNamed B.named B.method).1⟩, am_rel.rf⟩ ⟨hwf, hP, hD, va_S.rf⟩ hl
theorem am_blind {av : List Value} {g : am_G} {α : Nat → Nat} {h : am_H} {sz : Nat} : FrameBlind (va_Pc av (am_Pre g α h sz)) := fun a U f mk q => ⟨q.1, q.2.1, q.2.2.1, q.2.2.2.1, q.2.2.2.2.1, q.2.2.2.2.2.call⟩
section AMC
variable {E : am_EV} {cc : ByteArray} {cs : Nat × Nat} {pc : Nat} {L : List (Nat × Value)} {st : List Value} {h : am_H}
/-- behind a call: what the callee may have changed is the caller's to change -/
theorem am_Afree {g : am_G} {α0 α : Nat → Nat} {sz : Nat} {s : State} {H : Heap} {locs : List Loc} (hsz : s.heap.size = sz) (X : am_X E g α0 sz α h s H locs) : ∀ q, va_A (am_w g α h) H.size q → am_A E g α0 sz q := by
  intro q hq
  rcases hq with ⟨k, e, hk⟩ | hq
  · exact X.2.2.1.2 k (q, e) hk
  · exact Or.inr (Nat.le_trans (by rw [← hsz]; exact X.2.2.2.1) hq)
theorem am_cont {M : am_D} {Φ : am_Ph} {g : am_G} {α0 α : Nat → Nat} {sz : Nat} {p : Program} {e : Env} {s : State} {m : MethodId} {args a : Array Value} {below : List Frame} {meth : Method} {c : Code} {H : Heap} {locs : List Loc} {ls : Array Slot} {st0 : List Value}
    (C : am_C E cc g α0 sz α p s m args meth c) (X : am_X E g α0 sz α h s H locs) (hl : lv_has ls (am_en E) (am_L α L))
    (hr : va_Run p (am_el E) e (am_er E) s m args below meth c H locs cs.1 cs.2 (am_rm M).cells (am_rm M).slots (F0 m pc ls st0) (st.map (am_fv α)) (am_Q g α h H.size false Φ a) (va_A (am_w g α h) H.size))
    (kk : ∀ v h', Φ v h' → am_Ex E cc (cs.1 + (am_rm M).cells, cs.2 + (am_rm M).slots) (pc + 3) L (v.toList ++ st) h') : W p (am_el E) e (am_er E) s m args below meth c H locs cs.1 cs.2 (am_eT E g α0 sz s args below) (F0 m pc ls st0) := by
  have hF := am_Afree C.2.2.2.2.2.2.1 X
  obtain ⟨hwf, hP, hD, hS⟩ := X
  intro T hT X0
  obtain ⟨v, st₀, t, T', LL, h0, X', hL, e1, e2, ⟨⟨w, h', α', ho, hp, hrel, hwf', hP', hD', hT'⟩, hz, hk⟩, go⟩ := hr T hT X0
  have hα : α' = α := hrel.2 rfl
  subst hα
  rw [h0] at hz hk
  have hv : v = w.map (am_fv α') := by cases ho; rfl
  have kw := kk w h' hp g α0 sz α' p e s m args below meth c T'.heap (locs ++ LL) ls C ⟨hwf', by rw [e1]; exact hP', hD'.weaken (fun _ _ _ h => hF _ h), ⟨Nat.le_trans hS.1 (by rw [e1]; exact hz), fun q g1 g2 => by
      rw [e1, hk q (Nat.lt_of_lt_of_le g1 hS.1) (fun z => g2 (hF q z))]
      exact hS.2.1 q g1 g2, fun q hq => by
      rcases List.mem_append.mp hq with h | h
      · exact hS.2.2 q h
      · exact hF _ (hL q h)⟩⟩ hl
  obtain ⟨t2, a1, b1⟩ := kw T' rfl X'
  refine ⟨t2, go t2 ?_, b1⟩
  have e3 : v.toList ++ st.map (am_fv α') = (w.toList ++ st).map (am_fv α') := by
    rw [hv, List.map_append]
    cases w <;> rfl
  rw [e3]
  exact a1
/-- words of a call -/
def am_LD (M : am_D) (n : Nat) : Prop := Cond.initialized M.1.cls ∈ am_TB ∧ Cond.code M.1 M.2.1 M.2.2.1 M.2.2.2.1 ∈ am_TB ∧ M.1.cls ≠ "java/lang/invoke/MethodHandle" ∧ M.1.cls ≠ "java/lang/invoke/VarHandle" ∧ (parseMethodDescriptor M.1.desc).map (fun d => d.parameters.length) = some n
theorem am_goodws {M : am_D} {n : Nat} (h : am_LD M n) : GoodIn am_TB (am_ws M) := by
  intro w hw
  rcases List.mem_cons.mp hw with rfl | hw
  · exact am_good _ h.2.1
  · exact am_good _ hw
abbrev am_fit (E : am_EV) (M : am_D) : Prop := (am_rm M).frames + 1 ≤ (am_er E).frames ∧ 8 + (M.2.2.1 + 11) + (am_rm M).locals ≤ (am_er E).locals
abbrev am_fcs (E : am_EV) (M : am_D) (cs : Nat × Nat) : Prop := cs.1 + (am_rm M).cells ≤ (am_er E).cells ∧ cs.2 + (am_rm M).slots ≤ (am_er E).slots
theorem am_preU {g : am_G} {α0 α : Nat → Nat} {sz : Nat} {p : Program} {s : State} {m : MethodId} {args : Array Value} {meth : Method} {c : Code} {H : Heap} {locs : List Loc} (C : am_C E cc g α0 sz α p s m args meth c) (X : am_X E g α0 sz α h s H locs) : ∀ U : State, U.heap = H → s.WarmedH U.vm → am_Pre g α h H.size U := by
  intro U hU hW
  exact ⟨by rw [hU], X.1, by rw [hU]; exact X.2.1, X.2.2.1.weaken (fun _ _ _ _ => trivial), C.2.2.2.2.2.1.warm hW⟩
theorem am_callV {M : am_D} {Φ : am_Ph} {As : List Value} {b c z n idx : Nat} (hM : am_CT (am_el E) M false (.ref b :: As) h Φ) (hs : h.1[b]? = some (c + 2, z)) (hc : c < 7) (hcn : am_cn c = M.1.cls) (hw : Cond.methodLink (am_eo E) idx M.1 ∈ am_TB ∧ Cond.instanceMethod M.1 ∈ am_TB ∧ Cond.selects M.1.cls M.1 M.1 ∈ am_TB) (hld : am_LD M n) (hn : As.length = n) (hR : am_fit E M) (hst : (st.map fun v => v.category).sum ≤ 8) (hcs : am_fcs E M cs) (hd : decode cc pc = .ok (.invokevirtual idx, 3))
    (kk : ∀ v h', Φ v h' → am_Ex E cc (cs.1 + (am_rm M).cells, cs.2 + (am_rm M).slots) (pc + 3) L (v.toList ++ st) h') : am_Ex E cc cs pc L (As.reverse ++ .ref b :: st) h := by
  intro g α0 sz α p e s m args below meth c' H locs ls C X hl
  have C' := C
  obtain ⟨hx, hb, hml, hown, hts, hT, -⟩ := C'
  have hcb : CallB (am_er E) s args (am_eo E) idx M.1 M.2.1 M.2.2.1 M.2.2.2.1 (am_ws M) (am_rm M) (am_rm M).cells (am_rm M).slots n := callB_of n hts (am_goodws hld) rfl rfl rfl (hts _ hld.1) (hts _ hw.1) hld.2.2 hR
  have hrecv := va_recv (q0 := b) hT.1 X.2.1 (am_cl_at c hc) (am_fs hs)
  have hrun := va_runV (e := e) (below := below) (meth := meth) (locs := locs) (cells := cs.1) (slots := cs.2) (b := α b) (C := M.1.cls) (As := As.map (am_fv α)) (rest := st.map (am_fv α)) (g := F0 m pc ls ((As.reverse ++ .ref b :: st).map (am_fv α))) ⟨hx, hb, hml, hown, hts⟩ (hM g α H.size) ⟨hcb, hts _ hw.2.1, hts _ hw.2.2⟩ ⟨am_blind, by rw [← hcn]; exact hrecv, fun U hU hW => ⟨rfl, am_preU C X U hU hW⟩⟩ rfl (by simpa using hn) (by exact hl.1) (by simp [List.map_reverse, am_fv]) (by show 2 * 0 + _ ≤ 8; rw [am_catsum]; omega) hd hcs
  exact am_cont C X hl hrun kk
theorem am_callS {M : am_D} {Φ : am_Ph} {As : List Value} {n idx : Nat} (hM : am_CT (am_el E) M false As h Φ) (hw : Cond.methodLink (am_eo E) idx M.1 ∈ am_TB ∧ Cond.static M.1 ∈ am_TB) (hld : am_LD M n) (hn : As.length = n) (hR : am_fit E M) (hst : (st.map fun v => v.category).sum ≤ 8) (hcs : am_fcs E M cs) (hd : decode cc pc = .ok (.invokestatic idx, 3))
    (kk : ∀ v h', Φ v h' → am_Ex E cc (cs.1 + (am_rm M).cells, cs.2 + (am_rm M).slots) (pc + 3) L (v.toList ++ st) h') : am_Ex E cc cs pc L (As.reverse ++ st) h := by
  intro g α0 sz α p e s m args below meth c' H locs ls C X hl
  have C' := C
  obtain ⟨hx, hb, hml, hown, hts, hT, -⟩ := C'
  have hcb : CallB (am_er E) s args (am_eo E) idx M.1 M.2.1 M.2.2.1 M.2.2.2.1 (am_ws M) (am_rm M) (am_rm M).cells (am_rm M).slots n := callB_of n hts (am_goodws hld) rfl rfl rfl (hts _ hld.1) (hts _ hw.1) hld.2.2 hR
  have hrun := va_runS (e := e) (below := below) (meth := meth) (locs := locs) (cells := cs.1) (slots := cs.2) (As := As.map (am_fv α)) (rest := st.map (am_fv α)) (g := F0 m pc ls ((As.reverse ++ st).map (am_fv α))) ⟨hx, hb, hml, hown, hts⟩ (hM g α H.size) ⟨hcb, hts _ hw.2⟩ ⟨am_blind, fun U hU hW => ⟨rfl, am_preU C X U hU hW⟩⟩ rfl (by simpa using hn) (by exact hl.1) (by simp [List.map_reverse]) (by show 2 * 0 + _ ≤ 8; rw [am_catsum]; omega) hd hcs
  exact am_cont C X hl hrun kk
theorem am_callSN {M : am_D} {Φ : am_Ph} {As : List Value} {n idx : Nat} {host : String} (hM : am_CT (am_el E) M false As h Φ) (hw : (am_eo E, idx, M.1, host) ∈ am_nest ∧ Cond.static M.1 ∈ am_TB) (hld : am_LD M n) (hn : As.length = n) (hR : am_fit E M) (hst : (st.map fun v => v.category).sum ≤ 8) (hcs : am_fcs E M cs) (hd : decode cc pc = .ok (.invokestatic idx, 3))
    (kk : ∀ v h', Φ v h' → am_Ex E cc (cs.1 + (am_rm M).cells, cs.2 + (am_rm M).slots) (pc + 3) L (v.toList ++ st) h') : am_Ex E cc cs pc L (As.reverse ++ st) h := by
  intro g α0 sz α p e s m args below meth c' H locs ls C X hl
  have C' := C
  obtain ⟨hx, hb, hml, hown, hts, hT, -⟩ := C'
  have hcb : va_CN (am_er E) s args (am_eo E) idx M.1 host M.2.1 M.2.2.1 M.2.2.2.1 (am_ws M) (am_rm M) (am_rm M).cells (am_rm M).slots n := va_cnB n hts (am_goodws hld) rfl rfl rfl (hT.2 _ hw.1) (hts _ hld.1) hld.2.2 hR
  have hrun := va_runSN (e := e) (below := below) (meth := meth) (locs := locs) (cells := cs.1) (slots := cs.2) (As := As.map (am_fv α)) (rest := st.map (am_fv α)) (g := F0 m pc ls ((As.reverse ++ st).map (am_fv α))) ⟨hx, hb, hml, hown, hts⟩ (hM g α H.size) ⟨hcb, hts _ hw.2, trivial⟩ ⟨am_blind, fun U hU hW => ⟨rfl, am_preU C X U hU hW⟩⟩ rfl (by simpa using hn) (by exact hl.1) (by simp [List.map_reverse]) (by show 2 * 0 + _ ≤ 8; rw [am_catsum]; omega) hd hcs
  exact am_cont C X hl hrun kk
end AMC
/-- an end that is told: this answer, this heap -/
def am_is (v : Option Value) (h : am_H) : am_Ph := fun v' h' => v' = v ∧ h' = h
section AMK
variable {E : am_EV} {cc : ByteArray} {cs : Nat × Nat} {pc : Nat} {L : List (Nat × Value)} {st : List Value} {h h1 : am_H}
theorem am_kk {v : Option Value} {cs' : Nat × Nat} {pc' : Nat} (k : am_Ex E cc cs' pc' L (v.toList ++ st) h1) : ∀ v' h', am_is v h1 v' h' → am_Ex E cc cs' pc' L (v'.toList ++ st) h' := by
  rintro v' h' ⟨rfl, rfl⟩
  exact k
end AMK
section AMX
variable {l : Launch} {M : am_D} {al : Bool} {h0 h : am_H} {Φ : am_Ph} {cc : ByteArray} {cs : Nat × Nat} {pc : Nat} {L : List (Nat × Value)}
theorem am_iret {v : Int32} (hret : M.2.2.2.1 = some .int) (hΦ : Φ (some (.int v)) h) (hcs : cs.1 ≤ (am_rm M).cells ∧ cs.2 ≤ (am_rm M).slots) (hd : decode cc pc = .ok (.ireturn, 1)) : am_Ex (am_E l M al h0 Φ) cc cs pc L [.int v] h := by
  intro g α0 sz α p e s m args below meth c' H locs ls C X hl
  obtain ⟨hwf, hP, hD, hS⟩ := X
  obtain ⟨hx, hb, -, -, -, hT, -, hcx, hrel⟩ := C
  refine W.widen hcs.1 hcs.2 ?_
  exact W.iret (hlocks := hcx.2.1) hx hb (hcx.1.trans hret) (fun t ht hW => ⟨⟨some (.int v), h, α, rfl, hΦ, hrel, hwf, by rw [ht]; exact hP, hD, hT.warm hW⟩, hS.F ht⟩) (fun q hq => hS.2.2 q hq) hd
theorem am_zret {v : Int32} (hv : v = 0 ∨ v = 1) (hret : M.2.2.2.1 = some .boolean) (hΦ : Φ (some (.int v)) h) (hcs : cs.1 ≤ (am_rm M).cells ∧ cs.2 ≤ (am_rm M).slots) (hd : decode cc pc = .ok (.ireturn, 1)) : am_Ex (am_E l M al h0 Φ) cc cs pc L [.int v] h := by
  intro g α0 sz α p e s m args below meth c' H locs ls C X hl
  obtain ⟨hwf, hP, hD, hS⟩ := X
  obtain ⟨hx, hb, -, -, -, hT, -, hcx, hrel⟩ := C
  refine W.widen hcs.1 hcs.2 ?_
  exact W.zret (hlocks := hcx.2.1) hx hb (hcx.1.trans hret) (by rcases hv with rfl | rfl <;> decide) (fun t ht hW => ⟨⟨some (.int v), h, α, rfl, hΦ, hrel, hwf, by rw [ht]; exact hP, hD, hT.warm hW⟩, hS.F ht⟩) (fun q hq => hS.2.2 q hq) hd
theorem am_lret {v : Int64} (hret : M.2.2.2.1 = some .long) (hΦ : Φ (some (.long v)) h) (hcs : cs.1 ≤ (am_rm M).cells ∧ cs.2 ≤ (am_rm M).slots) (hd : decode cc pc = .ok (.lreturn, 1)) : am_Ex (am_E l M al h0 Φ) cc cs pc L [.long v] h := by
  intro g α0 sz α p e s m args below meth c' H locs ls C X hl
  obtain ⟨hwf, hP, hD, hS⟩ := X
  obtain ⟨hx, hb, -, -, -, hT, -, hcx, hrel⟩ := C
  refine W.widen hcs.1 hcs.2 ?_
  exact W.lret (hlocks := hcx.2.1) hx hb (hcx.1.trans hret) (fun t ht hW => ⟨⟨some (.long v), h, α, rfl, hΦ, hrel, hwf, by rw [ht]; exact hP, hD, hT.warm hW⟩, hS.F ht⟩) (fun q hq => hS.2.2 q hq) hd
theorem am_aret {b : Nat} {rt : FieldType} (hret : M.2.2.2.1 = some rt) (hrt : (∃ n, rt = .object n) ∨ ∃ t, rt = .array t) (hΦ : Φ (some (.ref b)) h) (hcs : cs.1 ≤ (am_rm M).cells ∧ cs.2 ≤ (am_rm M).slots) (hd : decode cc pc = .ok (.areturn, 1)) : am_Ex (am_E l M al h0 Φ) cc cs pc L [.ref b] h := by
  intro g α0 sz α p e s m args below meth c' H locs ls C X hl
  obtain ⟨hwf, hP, hD, hS⟩ := X
  obtain ⟨hx, hb, -, -, -, hT, -, hcx, hrel⟩ := C
  refine W.widen hcs.1 hcs.2 ?_
  exact W.aret (hlocks := hcx.2.1) hx hb (hcx.1.trans hret) hrt (Or.inr ⟨_, rfl⟩) (fun t ht hW => ⟨⟨some (.ref b), h, α, rfl, hΦ, hrel, hwf, by rw [ht]; exact hP, hD, hT.warm hW⟩, hS.F ht⟩) (fun q hq => hS.2.2 q hq) hd
theorem am_vret (hret : M.2.2.2.1 = none) (hΦ : Φ none h) (hcs : cs.1 ≤ (am_rm M).cells ∧ cs.2 ≤ (am_rm M).slots) (hd : decode cc pc = .ok (.return_, 1)) : am_Ex (am_E l M al h0 Φ) cc cs pc L [] h := by
  intro g α0 sz α p e s m args below meth c' H locs ls C X hl
  obtain ⟨hwf, hP, hD, hS⟩ := X
  obtain ⟨hx, hb, -, -, -, hT, -, hcx, hrel⟩ := C
  refine W.widen hcs.1 hcs.2 ?_
  exact W.vret (hlocks := hcx.2.1) hx hb (hcx.1.trans hret) (fun t ht hW => ⟨⟨none, h, α, rfl, hΦ, hrel, hwf, by rw [ht]; exact hP, hD, hT.warm hW⟩, hS.F ht⟩) (fun q hq => hS.2.2 q hq) hd
end AMX
end
section
/-! what makes cells: the places' addresses grow -/
def am_ok (n : Nat) (v : Value) : Bool := match v with
  | .ref k => decide (k < n) || decide (1000000 ≤ k)
  | _ => true
theorem am_fv_rel {n : Nat} {α α' : Nat → Nat} (h : ∀ k, k < n ∨ 1000000 ≤ k → α' k = α k) {v : Value} (hv : am_ok n v = true) : am_fv α' v = am_fv α v := by
  cases v with
  | ref k =>
    simp only [am_ok, Bool.or_eq_true, decide_eq_true_eq] at hv
    simp [am_fv, h k hv]
  | _ => rfl
theorem am_st_rel {n : Nat} {α α' : Nat → Nat} (h : ∀ k, k < n ∨ 1000000 ≤ k → α' k = α k) {st : List Value} (hv : st.all (am_ok n) = true) : st.map (am_fv α') = st.map (am_fv α) := by
  apply List.map_congr_left
  intro v hm
  exact am_fv_rel h (List.all_eq_true.mp hv v hm)
theorem am_L_rel {n : Nat} {α α' : Nat → Nat} (h : ∀ k, k < n ∨ 1000000 ≤ k → α' k = α k) {L : List (Nat × Value)} (hv : L.all (fun q => am_ok n q.2) = true) : am_L α' L = am_L α L := by
  apply List.map_congr_left
  intro q hm
  rw [am_fv_rel h (List.all_eq_true.mp hv q hm)]
/-- the heap with one place more -/
def am_add (h : am_H) (k : Nat × Nat) : am_H := (h.1 ++ [k], (fun a j => if a = h.1.length then none else h.2.1 a j), am_row h.2.2 h.1.length (fun _ => 0))
theorem am_add_wf {h : am_H} {k : Nat × Nat} (hwf : am_wf h) : am_wf (am_add h k) := by
  intro a j b ha hb
  simp only [am_add] at ha hb ⊢
  split at hb
  · cases hb
  · rename_i hne
    simp only [List.length_append, List.length_singleton] at ha ⊢
    exact Nat.lt_succ_of_lt (hwf a j b (by omega) hb)
theorem am_cell_add {g : am_G} {α : Nat → Nat} {h : am_H} {k k' : Nat × Nat} {q a : Nat} (hwf : am_wf h) (ha : a < h.1.length) : am_cell g (va_up α h.1.length q) (am_add h k) a k' = am_cell g α h a k' := by
  have hne : a ≠ h.1.length := Nat.ne_of_lt ha
  obtain ⟨t, n⟩ := k'
  match t with
  | 0 => simp [am_cell, am_add, am_row, hne]
  | 1 => simp [am_cell, am_add, am_row, hne]
  | c + 2 =>
    simp only [am_cell]
    congr 2
    apply List.map_congr_left
    intro j _
    simp only [am_fld, am_add, am_row, if_neg hne]
    split
    · cases hr : h.2.1 a j with
      | none => rfl
      | some b =>
        have := hwf a j b ha hr
        simp [va_rf, am_fv, va_up, Nat.ne_of_lt this]
    · rfl
theorem am_w_add {g : am_G} {α : Nat → Nat} {h : am_H} {k : Nat × Nat} {q : Nat} (hwf : am_wf h) : am_w g (va_up α h.1.length q) (am_add h k) = am_w g α h ++ [(q, am_cell g (va_up α h.1.length q) (am_add h k) h.1.length k)] := by
  have hl : (am_w g α h).length = h.1.length := by simp [am_w]
  apply List.ext_getElem?
  intro i
  rcases Nat.lt_trichotomy i h.1.length with hi | hi | hi
  · rw [List.getElem?_append_left (by rw [hl]; exact hi)]
    have hs : h.1[i]? = some h.1[i] := List.getElem?_eq_getElem hi
    rw [am_at hs, am_at (h := am_add h k) (show (h.1 ++ [k])[i]? = some h.1[i] by rw [List.getElem?_append_left hi]; exact hs)]
    rw [am_cell_add hwf hi]
    simp [va_up, Nat.ne_of_lt hi]
  · subst hi
    rw [List.getElem?_append_right (by rw [hl]; exact Nat.le_refl _), hl]
    rw [am_at (h := am_add h k) (show (h.1 ++ [k])[h.1.length]? = some k by simp)]
    simp [va_up]
  · rw [List.getElem?_eq_none (by simp [am_w, am_add]; omega), List.getElem?_eq_none (by simp [hl]; omega)]
section AMN
variable {E : am_EV} {cc : ByteArray} {cs : Nat × Nat} {pc : Nat} {L : List (Nat × Value)} {st : List Value} {h : am_H}
theorem am_rel_add {n0 n q : Nat} {α0 α : Nat → Nat} (hn : n0 ≤ n) (hm : n < 1000000) (hr : am_rel true n0 α0 α) : am_rel true n0 α0 (va_up α n q) := by
  refine ⟨fun k hk => ?_, fun h => by cases h⟩
  rw [← hr.1 k hk]
  have : k ≠ n := by omega
  simp [va_up, this]
theorem am_va_up {n : Nat} {α : Nat → Nat} {q : Nat} (hm : n < 1000000) : ∀ k, k < n ∨ 1000000 ≤ k → va_up α n q k = α k := by
  intro k hk
  have : k ≠ n := by omega
  simp [va_up, this]
theorem am_newa {t N : Nat} {n : Int32} {atype : ArrayType} {ty : FieldType} (hty : newarray.typeOf atype = ty) (htt : (t = 0 ∧ ty = .int) ∨ (t = 1 ∧ ty = .boolean)) (hal : am_ea E = true) (hle : (am_eh E).1.length ≤ h.1.length) (hm : h.1.length < 1000000) (hL : L.all (fun q => am_ok h.1.length q.2) = true) (hst : st.all (am_ok h.1.length) = true) (hw : Cond.arrayClass ty ∈ am_TB) (hn : ¬ n < 0) (hN : n.toNatClampNeg = N) (hby : N ≤ 100000) (hcs : cs.1 + 1 ≤ (am_er E).cells ∧ cs.2 + N ≤ (am_er E).slots) (hd : decode cc pc = .ok (.newarray atype, 2)) (kk : am_Ex E cc (cs.1 + 1, cs.2 + N) (pc + 2) L (.ref h.1.length :: st) (am_add h (t, N))) : am_Ex E cc cs pc L (.int n :: st) h := by
  intro g α0 sz α p e s m args below meth c' H locs ls C X hl
  have C' := C
  obtain ⟨hx, hb, hml, hown, hts, hT, hsz, hcx, hrel⟩ := C'
  obtain ⟨hwf, hP, hD, hS⟩ := X
  have hA : ∀ q, s.heap.size ≤ q → am_A E g α0 sz q := fun q hq => Or.inr (by rw [← hsz]; exact hq)
  have hdef : defaultValue ty = .int 0 := by rcases htt with ⟨-, rfl⟩ | ⟨-, rfl⟩ <;> rfl
  refine va_newa hx hb (by rw [hty]; exact hts _ hw) hty hT.1 hP hD hS hA (a0 := (N, .inl (fun _ => 0))) (fun cA => by rw [hdef]; rfl) hn hN (by rcases htt with ⟨-, rfl⟩ | ⟨-, rfl⟩ <;> simp [componentBytes] <;> omega) hcs.1 hcs.2 hd (fun q cA H1 hK1 hP1 hD1 hS1 => ?_)
  have hcA : cA = g.2 t := by
    have h1 := (hK1.2 2 (cA, ty) rfl).2
    rcases htt with ⟨rfl, rfl⟩ | ⟨rfl, rfl⟩
    · have h2 := (hT.1.2 0 (g.2 0, .int) rfl).2
      exact Option.some.inj (h1.symm.trans h2)
    · have h2 := (hT.1.2 1 (g.2 1, .boolean) rfl).2
      exact Option.some.inj (h1.symm.trans h2)
  subst hcA
  have hu := am_va_up (α := α) (q := q) hm
  have ecell : am_cell g (va_up α h.1.length q) (am_add h (t, N)) h.1.length (t, N) = .inl (g.2 t, N, .inl (fun _ => 0)) := by
    rcases htt with ⟨rfl, -⟩ | ⟨rfl, -⟩ <;> simp [am_cell, am_add, am_row]
  have ew : am_w g (va_up α h.1.length q) (am_add h (t, N)) = am_w g α h ++ [(q, .inl (g.2 t, N, .inl (fun _ => 0)))] := by rw [am_w_add hwf, ecell]
  have k2 := kk g α0 sz (va_up α h.1.length q) p e s m args below meth c' H1 locs ls ⟨hx, hb, hml, hown, hts, hT, hsz, hcx, by rw [hal] at hrel ⊢; exact am_rel_add hle hm hrel⟩ ⟨am_add_wf hwf, by rw [ew]; exact hP1, by rw [ew]; exact hD1, hS1⟩ (by rw [am_L_rel hu hL]; exact hl)
  have e2 : (Value.ref h.1.length :: st).map (am_fv (va_up α h.1.length q)) = .ref q :: st.map (am_fv α) := by
    rw [List.map_cons, am_st_rel hu hst]
    simp [am_fv, va_up]
  rw [e2] at k2
  exact k2
theorem am_new {c idx : Nat} (hc : c < 7) (hal : am_ea E = true) (hle : (am_eh E).1.length ≤ h.1.length) (hm : h.1.length < 1000000) (hL : L.all (fun q => am_ok h.1.length q.2) = true) (hst : st.all (am_ok h.1.length) = true) (hw : Cond.classLink (am_eo E) idx (am_cn c) ∈ am_TB ∧ Cond.instantiable (am_cn c) (am_nf c) ∈ am_TB ∧ Cond.initialized (am_cn c) ∈ am_TB) (hcs : cs.1 + 1 ≤ (am_er E).cells ∧ cs.2 + am_nf c ≤ (am_er E).slots) (hdv : ∀ j, j < am_nf c → defaultValue (am_cy c j) = if am_isr (am_cy c j) = true then .null else .int 0) (hd : decode cc pc = .ok (.new idx, 3)) (kk : am_Ex E cc (cs.1 + 1, cs.2 + am_nf c) (pc + 3) L (.ref h.1.length :: st) (am_add h (c + 2, 0))) : am_Ex E cc cs pc L st h := by
  intro g α0 sz α p e s m args below meth c' H locs ls C X hl
  have C' := C
  obtain ⟨hx, hb, hml, hown, hts, hT, hsz, hcx, hrel⟩ := C'
  obtain ⟨hwf, hP, hD, hS⟩ := X
  have hA : ∀ q, s.heap.size ≤ q → am_A E g α0 sz q := fun q hq => Or.inr (by rw [← hsz]; exact hq)
  refine va_new hx hb hts (am_cin c hc) (am_cy c) (am_cty c hc) hown (hts _ hw.1) (hts _ hw.2.1) (hts _ hw.2.2) hT.1 hP hD hS hA (am_cl_at c hc) (fs := (List.range (am_nf c)).map (fun j => if am_isr (am_cy c j) = true then .null else .int 0)) (fun j hj => ?_) hcs.1 hcs.2 hd (fun q H1 hP1 hD1 hS1 => ?_)
  · rw [hdv j hj]
    simp [vp_V, hj]
  have hu := am_va_up (α := α) (q := q) hm
  have ecell : am_cell g (va_up α h.1.length q) (am_add h (c + 2, 0)) h.1.length (c + 2, 0) = .inr (c, (List.range (am_nf c)).map (fun j => if am_isr (am_cy c j) = true then .null else .int 0)) := by
    simp only [am_cell]
    congr 2
    apply List.map_congr_left
    intro j _
    simp only [am_fld, am_add, am_row, if_true]
    split <;> rfl
  have ew : am_w g (va_up α h.1.length q) (am_add h (c + 2, 0)) = am_w g α h ++ [(q, .inr (c, (List.range (am_nf c)).map (fun j => if am_isr (am_cy c j) = true then .null else .int 0)))] := by rw [am_w_add hwf, ecell]
  have k2 := kk g α0 sz (va_up α h.1.length q) p e s m args below meth c' H1 locs ls ⟨hx, hb, hml, hown, hts, hT, hsz, hcx, by rw [hal] at hrel ⊢; exact am_rel_add hle hm hrel⟩ ⟨am_add_wf hwf, by rw [ew]; exact hP1, by rw [ew]; exact hD1, hS1⟩ (by rw [am_L_rel hu hL]; exact hl)
  have e2 : (Value.ref h.1.length :: st).map (am_fv (va_up α h.1.length q)) = .ref q :: st.map (am_fv α) := by
    rw [List.map_cons, am_st_rel hu hst]
    simp [am_fv, va_up]
  rw [e2] at k2
  exact k2
theorem am_obj {a idx : Nat} (hw : Cond.methodLink (am_eo E) idx Lib.objectInit ∈ am_TB ∧ Cond.instanceMethod Lib.objectInit ∈ am_TB ∧ Cond.code Lib.objectInit ⟨#[0xb1]⟩ 1 none ∈ am_TB) (hf : 1 ≤ (am_er E).frames) (hlo : (st.map fun v => v.category).sum + 12 ≤ (am_er E).locals) (hd : decode cc pc = .ok (.invokespecial idx, 3)) (kk : am_Ex E cc cs (pc + 3) L st h) : am_Ex E cc cs pc L (.ref a :: st) h := by
  intro g α0 sz α p e s m args below meth c' H locs ls C X hl
  have C' := C
  obtain ⟨hx, hb, hml, hown, hts, hT, -⟩ := C'
  exact W.objInit hx hb hown (hts _ hw.1) (hts _ hw.2.1) (hts _ hw.2.2) rfl (by rw [hml]; exact hl.1) rfl hd hf (by show 2 * 0 + _ + 12 ≤ _; rw [am_catsum]; omega) (kk _ _ _ _ _ _ _ _ _ _ _ _ _ _ _ C X hl)
theorem am_contA {M : am_D} {Φ : am_Ph} {g : am_G} {α0 α : Nat → Nat} {sz : Nat} {p : Program} {e : Env} {s : State} {m : MethodId} {args a : Array Value} {below : List Frame} {meth : Method} {c : Code} {H : Heap} {locs : List Loc} {ls : Array Slot} {st0 : List Value}
    (hal : am_ea E = true) (hle : (am_eh E).1.length ≤ h.1.length) (hLv : L.all (fun q => am_ok h.1.length q.2) = true) (hsv : st.all (am_ok h.1.length) = true)
    (C : am_C E cc g α0 sz α p s m args meth c) (X : am_X E g α0 sz α h s H locs) (hl : lv_has ls (am_en E) (am_L α L))
    (hr : va_Run p (am_el E) e (am_er E) s m args below meth c H locs cs.1 cs.2 (am_rm M).cells (am_rm M).slots (F0 m pc ls st0) (st.map (am_fv α)) (am_Q g α h H.size true Φ a) (va_A (am_w g α h) H.size))
    (kk : ∀ v h', Φ v h' → am_Ex E cc (cs.1 + (am_rm M).cells, cs.2 + (am_rm M).slots) (pc + 3) L (v.toList ++ st) h') : W p (am_el E) e (am_er E) s m args below meth c H locs cs.1 cs.2 (am_eT E g α0 sz s args below) (F0 m pc ls st0) := by
  have hF := am_Afree C.2.2.2.2.2.2.1 X
  obtain ⟨hwf, hP, hD, hS⟩ := X
  obtain ⟨hx, hb, hml, hown, hts, hTT, hsz, hcx, hrel0⟩ := C
  intro T hT X0
  obtain ⟨v, st₀, t, T', LL, h0, X', hL, e1, e2, ⟨⟨w, h', α', ho, hp, hrel, hwf', hP', hD', hT'⟩, hz, hk⟩, go⟩ := hr T hT X0
  have hu := hrel.1
  rw [h0] at hz hk
  have hv : v = w.map (am_fv α') := by cases ho; rfl
  have hrel1 : am_rel (am_ea E) (am_eh E).1.length α0 α' := by
    rw [hal] at hrel0 ⊢
    refine ⟨fun k hk => ?_, fun h => by cases h⟩
    rw [hu k (by omega), hrel0.1 k hk]
  have kw := kk w h' hp g α0 sz α' p e s m args below meth c T'.heap (locs ++ LL) ls ⟨hx, hb, hml, hown, hts, hTT, hsz, hcx, hrel1⟩ ⟨hwf', by rw [e1]; exact hP', hD'.weaken (fun _ _ _ h => hF _ h), ⟨Nat.le_trans hS.1 (by rw [e1]; exact hz), fun q g1 g2 => by
      rw [e1, hk q (Nat.lt_of_lt_of_le g1 hS.1) (fun z => g2 (hF q z))]
      exact hS.2.1 q g1 g2, fun q hq => by
      rcases List.mem_append.mp hq with h | h
      · exact hS.2.2 q h
      · exact hF _ (hL q h)⟩⟩ (by rw [am_L_rel hu hLv]; exact hl)
  obtain ⟨t2, a1, b1⟩ := kw T' rfl X'
  refine ⟨t2, go t2 ?_, b1⟩
  have e3 : v.toList ++ st.map (am_fv α) = (w.toList ++ st).map (am_fv α') := by
    rw [hv, List.map_append, am_st_rel hu hsv]
    cases w <;> rfl
  rw [e3]
  exact a1
theorem am_callVA {M : am_D} {Φ : am_Ph} {As : List Value} {b c z n idx : Nat} (hal : am_ea E = true) (hle : (am_eh E).1.length ≤ h.1.length) (hLv : L.all (fun q => am_ok h.1.length q.2) = true) (hsv : st.all (am_ok h.1.length) = true) (hM : am_CT (am_el E) M true (.ref b :: As) h Φ) (hs : h.1[b]? = some (c + 2, z)) (hc : c < 7) (hcn : am_cn c = M.1.cls) (hw : Cond.methodLink (am_eo E) idx M.1 ∈ am_TB ∧ Cond.instanceMethod M.1 ∈ am_TB ∧ Cond.selects M.1.cls M.1 M.1 ∈ am_TB) (hld : am_LD M n) (hn : As.length = n) (hR : am_fit E M) (hst : (st.map fun v => v.category).sum ≤ 8) (hcs : am_fcs E M cs) (hd : decode cc pc = .ok (.invokevirtual idx, 3))
    (kk : ∀ v h', Φ v h' → am_Ex E cc (cs.1 + (am_rm M).cells, cs.2 + (am_rm M).slots) (pc + 3) L (v.toList ++ st) h') : am_Ex E cc cs pc L (As.reverse ++ .ref b :: st) h := by
  intro g α0 sz α p e s m args below meth c' H locs ls C X hl
  have C' := C
  obtain ⟨hx, hb, hml, hown, hts, hT, -⟩ := C'
  have hcb : CallB (am_er E) s args (am_eo E) idx M.1 M.2.1 M.2.2.1 M.2.2.2.1 (am_ws M) (am_rm M) (am_rm M).cells (am_rm M).slots n := callB_of n hts (am_goodws hld) rfl rfl rfl (hts _ hld.1) (hts _ hw.1) hld.2.2 hR
  have hrecv := va_recv (q0 := b) hT.1 X.2.1 (am_cl_at c hc) (am_fs hs)
  have hrun := va_runV (e := e) (below := below) (meth := meth) (locs := locs) (cells := cs.1) (slots := cs.2) (b := α b) (C := M.1.cls) (As := As.map (am_fv α)) (rest := st.map (am_fv α)) (g := F0 m pc ls ((As.reverse ++ .ref b :: st).map (am_fv α))) ⟨hx, hb, hml, hown, hts⟩ (hM g α H.size) ⟨hcb, hts _ hw.2.1, hts _ hw.2.2⟩ ⟨am_blind, by rw [← hcn]; exact hrecv, fun U hU hW => ⟨rfl, am_preU C X U hU hW⟩⟩ rfl (by simpa using hn) (by exact hl.1) (by simp [List.map_reverse, am_fv]) (by show 2 * 0 + _ ≤ 8; rw [am_catsum]; omega) hd hcs
  exact am_contA hal hle hLv hsv C X hl hrun kk
theorem am_callI {M : am_D} {Φ : am_Ph} {b n idx : Nat} {ws0 : List Value} (hal : am_ea E = true) (hle : (am_eh E).1.length ≤ h.1.length) (hLv : L.all (fun q => am_ok h.1.length q.2) = true) (hsv : st.all (am_ok h.1.length) = true) (hret : M.2.2.2.1 = none) (hy1 : M.1.name = "<init>") (hM : am_CT (am_el E) M true [.ref b] h Φ) (hw : Cond.methodLink (am_eo E) idx M.1 ∈ am_TB ∧ Cond.instanceMethod M.1 ∈ am_TB) (hld : am_LD M 0) (hR : am_fit E M) (hst : (st.map fun v => v.category).sum ≤ 8) (hcs : am_fcs E M cs) (hd : decode cc pc = .ok (.invokespecial idx, 3))
    (kk : ∀ v h', Φ v h' → am_Ex E cc (cs.1 + (am_rm M).cells, cs.2 + (am_rm M).slots) (pc + 3) L (v.toList ++ st) h') : am_Ex E cc cs pc L (.ref b :: st) h := by
  intro g α0 sz α p e s m args below meth c' H locs ls C X hl
  have C' := C
  obtain ⟨hx, hb, hml, hown, hts, hT, -⟩ := C'
  obtain ⟨y, code, maxL, ret, rm⟩ := M
  dsimp only at hret hy1
  subst hret
  have hcb : CallB (am_er E) s args (am_eo E) idx y code maxL none (am_ws (y, code, maxL, none, rm)) rm rm.cells rm.slots 0 := callB_of 0 hts (am_goodws hld) rfl rfl rfl (hts _ hld.1) (hts _ hw.1) hld.2.2 hR
  have hrun := va_runI (e := e) (below := below) (meth := meth) (locs := locs) (cells := cs.1) (slots := cs.2) (b := α b) (As := []) (rest := st.map (am_fv α)) (g := F0 m pc ls ((.ref b :: st).map (am_fv α))) ⟨hx, hb, hml, hown, hts⟩ (hM g α H.size) ⟨hcb, hy1, hts _ hw.2⟩ ⟨am_blind, fun U hU hW => ⟨rfl, am_preU C X U hU hW⟩⟩ rfl rfl (by exact hl.1) rfl (by show 2 * 0 + _ ≤ 8; rw [am_catsum]; omega) hd hcs
  exact am_contA (M := (y, code, maxL, none, rm)) hal hle hLv hsv C X hl hrun kk
theorem am_callIN {M : am_D} {Φ : am_Ph} {b n idx : Nat} {host : String} (hal : am_ea E = true) (hle : (am_eh E).1.length ≤ h.1.length) (hLv : L.all (fun q => am_ok h.1.length q.2) = true) (hsv : st.all (am_ok h.1.length) = true) (hret : M.2.2.2.1 = none) (hy1 : M.1.name = "<init>") (hM : am_CT (am_el E) M true [.ref b] h Φ) (hw : (am_eo E, idx, M.1, host) ∈ am_nest ∧ Cond.instanceMethod M.1 ∈ am_TB) (hld : am_LD M 0) (hR : am_fit E M) (hst : (st.map fun v => v.category).sum ≤ 8) (hcs : am_fcs E M cs) (hd : decode cc pc = .ok (.invokespecial idx, 3))
    (kk : ∀ v h', Φ v h' → am_Ex E cc (cs.1 + (am_rm M).cells, cs.2 + (am_rm M).slots) (pc + 3) L (v.toList ++ st) h') : am_Ex E cc cs pc L (.ref b :: st) h := by
  intro g α0 sz α p e s m args below meth c' H locs ls C X hl
  have C' := C
  obtain ⟨hx, hb, hml, hown, hts, hT, -⟩ := C'
  obtain ⟨y, code, maxL, ret, rm⟩ := M
  dsimp only at hret hy1
  subst hret
  have hcb : va_CN (am_er E) s args (am_eo E) idx y host code maxL none (am_ws (y, code, maxL, none, rm)) rm rm.cells rm.slots 0 := va_cnB 0 hts (am_goodws hld) rfl rfl rfl (hT.2 _ hw.1) (hts _ hld.1) hld.2.2 hR
  have hrun := va_runIN (e := e) (below := below) (meth := meth) (locs := locs) (cells := cs.1) (slots := cs.2) (b := α b) (As := []) (rest := st.map (am_fv α)) (g := F0 m pc ls ((.ref b :: st).map (am_fv α))) ⟨hx, hb, hml, hown, hts⟩ (hM g α H.size) ⟨hcb, hy1, hts _ hw.2⟩ ⟨am_blind, fun U hU hW => ⟨rfl, am_preU C X U hU hW⟩⟩ rfl rfl (by exact hl.1) rfl (by show 2 * 0 + _ ≤ 8; rw [am_catsum]; omega) hd hcs
  exact am_contA (M := (y, code, maxL, none, rm)) hal hle hLv hsv C X hl hrun kk
end AMN
end
section
theorem fl_X5_10 : am_FL RX5 10 5 0 := ⟨by decide, by decide, (am_tb 356 (by decide +kernel) (by decide +kernel))⟩
theorem fl_X5_19 : am_FL RX5 19 5 1 := ⟨by decide, by decide, (am_tb 357 (by decide +kernel) (by decide +kernel))⟩
theorem fl_X5_26 : am_FL RX5 26 5 2 := ⟨by decide, by decide, (am_tb 358 (by decide +kernel) (by decide +kernel))⟩
theorem fl_X5_30 : am_FL RX5 30 5 3 := ⟨by decide, by decide, (am_tb 359 (by decide +kernel) (by decide +kernel))⟩
theorem fl_X5_33 : am_FL RX5 33 5 4 := ⟨by decide, by decide, (am_tb 360 (by decide +kernel) (by decide +kernel))⟩
theorem fl_X5_36 : am_FL RX5 36 5 5 := ⟨by decide, by decide, (am_tb 361 (by decide +kernel) (by decide +kernel))⟩
theorem fl_X5_39 : am_FL RX5 39 5 6 := ⟨by decide, by decide, (am_tb 362 (by decide +kernel) (by decide +kernel))⟩
theorem fl_X5_46 : am_FL RX5 46 5 7 := ⟨by decide, by decide, (am_tb 363 (by decide +kernel) (by decide +kernel))⟩
theorem fl_X5_53 : am_FL RX5 53 5 8 := ⟨by decide, by decide, (am_tb 364 (by decide +kernel) (by decide +kernel))⟩
theorem fl_X5_57 : am_FL RX5 57 5 9 := ⟨by decide, by decide, (am_tb 365 (by decide +kernel) (by decide +kernel))⟩
theorem fl_X5_61 : am_FL RX5 61 5 10 := ⟨by decide, by decide, (am_tb 366 (by decide +kernel) (by decide +kernel))⟩
theorem fl_X5_64 : am_FL RX5 64 5 11 := ⟨by decide, by decide, (am_tb 367 (by decide +kernel) (by decide +kernel))⟩
theorem fl_X5_72 : am_FL RX5 72 3 4 := ⟨by decide, by decide, (am_tb 245 (by decide +kernel) (by decide +kernel))⟩
theorem fl_X5_84 : am_FL RX5 84 3 5 := ⟨by decide, by decide, (am_tb 247 (by decide +kernel) (by decide +kernel))⟩
theorem fl_X5_87 : am_FL RX5 87 3 3 := ⟨by decide, by decide, (am_tb 243 (by decide +kernel) (by decide +kernel))⟩
theorem fl_X5_90 : am_FL RX5 90 2 7 := ⟨by decide, by decide, (am_tb 131 (by decide +kernel) (by decide +kernel))⟩
theorem fl_X5_93 : am_FL RX5 93 4 12 := ⟨by decide, by decide, (am_tb 202 (by decide +kernel) (by decide +kernel))⟩
theorem fl_X5_104 : am_FL RX5 104 4 3 := ⟨by decide, by decide, (am_tb 165 (by decide +kernel) (by decide +kernel))⟩
theorem fl_X5_107 : am_FL RX5 107 3 6 := ⟨by decide, by decide, (am_tb 249 (by decide +kernel) (by decide +kernel))⟩
theorem fl_X5_110 : am_FL RX5 110 4 0 := ⟨by decide, by decide, (am_tb 152 (by decide +kernel) (by decide +kernel))⟩
theorem fl_X5_113 : am_FL RX5 113 4 1 := ⟨by decide, by decide, (am_tb 156 (by decide +kernel) (by decide +kernel))⟩
theorem fl_X5_116 : am_FL RX5 116 4 2 := ⟨by decide, by decide, (am_tb 161 (by decide +kernel) (by decide +kernel))⟩
theorem fl_X5_119 : am_FL RX5 119 4 4 := ⟨by decide, by decide, (am_tb 170 (by decide +kernel) (by decide +kernel))⟩
theorem fl_X5_122 : am_FL RX5 122 4 5 := ⟨by decide, by decide, (am_tb 173 (by decide +kernel) (by decide +kernel))⟩
theorem fl_X5_125 : am_FL RX5 125 2 6 := ⟨by decide, by decide, (am_tb 129 (by decide +kernel) (by decide +kernel))⟩
theorem fl_X5_128 : am_FL RX5 128 2 4 := ⟨by decide, by decide, (am_tb 124 (by decide +kernel) (by decide +kernel))⟩
theorem fl_X5_131 : am_FL RX5 131 2 5 := ⟨by decide, by decide, (am_tb 126 (by decide +kernel) (by decide +kernel))⟩
theorem fl_X5_142 : am_FL RX5 142 2 0 := ⟨by decide, by decide, (am_tb 111 (by decide +kernel) (by decide +kernel))⟩
theorem fl_X5_145 : am_FL RX5 145 2 2 := ⟨by decide, by decide, (am_tb 118 (by decide +kernel) (by decide +kernel))⟩
theorem fl_X5_148 : am_FL RX5 148 2 1 := ⟨by decide, by decide, (am_tb 115 (by decide +kernel) (by decide +kernel))⟩
theorem fl_X5_151 : am_FL RX5 151 4 11 := ⟨by decide, by decide, (am_tb 199 (by decide +kernel) (by decide +kernel))⟩
theorem fl_X5_154 : am_FL RX5 154 2 3 := ⟨by decide, by decide, (am_tb 121 (by decide +kernel) (by decide +kernel))⟩
theorem fl_X5_157 : am_FL RX5 157 4 7 := ⟨by decide, by decide, (am_tb 181 (by decide +kernel) (by decide +kernel))⟩
theorem fl_X5_160 : am_FL RX5 160 4 8 := ⟨by decide, by decide, (am_tb 186 (by decide +kernel) (by decide +kernel))⟩
theorem fl_X5_163 : am_FL RX5 163 4 9 := ⟨by decide, by decide, (am_tb 191 (by decide +kernel) (by decide +kernel))⟩
theorem fl_X5_166 : am_FL RX5 166 4 10 := ⟨by decide, by decide, (am_tb 196 (by decide +kernel) (by decide +kernel))⟩
theorem fl_X5_206 : am_FL RX5 206 1 5 := ⟨by decide, by decide, (am_tb 280 (by decide +kernel) (by decide +kernel))⟩
theorem fl_X5_209 : am_FL RX5 209 1 4 := ⟨by decide, by decide, (am_tb 278 (by decide +kernel) (by decide +kernel))⟩
theorem fl_X5_215 : am_FL RX5 215 0 1 := ⟨by decide, by decide, (am_tb 332 (by decide +kernel) (by decide +kernel))⟩
theorem fl_X5_224 : am_FL RX5 224 0 5 := ⟨by decide, by decide, (am_tb 337 (by decide +kernel) (by decide +kernel))⟩
theorem fl_X5_227 : am_FL RX5 227 0 6 := ⟨by decide, by decide, (am_tb 339 (by decide +kernel) (by decide +kernel))⟩
theorem fl_X0_9 : am_FL RX0 9 0 0 := ⟨by decide, by decide, (am_tb 330 (by decide +kernel) (by decide +kernel))⟩
theorem fl_X0_15 : am_FL RX0 15 0 1 := ⟨by decide, by decide, (am_tb 331 (by decide +kernel) (by decide +kernel))⟩
theorem fl_X0_19 : am_FL RX0 19 0 2 := ⟨by decide, by decide, (am_tb 333 (by decide +kernel) (by decide +kernel))⟩
theorem fl_X0_22 : am_FL RX0 22 0 3 := ⟨by decide, by decide, (am_tb 334 (by decide +kernel) (by decide +kernel))⟩
theorem fl_X0_26 : am_FL RX0 26 0 4 := ⟨by decide, by decide, (am_tb 335 (by decide +kernel) (by decide +kernel))⟩
theorem fl_X0_29 : am_FL RX0 29 0 5 := ⟨by decide, by decide, (am_tb 336 (by decide +kernel) (by decide +kernel))⟩
theorem fl_X0_33 : am_FL RX0 33 0 6 := ⟨by decide, by decide, (am_tb 338 (by decide +kernel) (by decide +kernel))⟩
theorem fl_X0_36 : am_FL RX0 36 4 4 := ⟨by decide, by decide, (am_tb 169 (by decide +kernel) (by decide +kernel))⟩
theorem fl_X0_41 : am_FL RX0 41 4 7 := ⟨by decide, by decide, (am_tb 180 (by decide +kernel) (by decide +kernel))⟩
theorem fl_X1_9 : am_FL RX1 9 1 0 := ⟨by decide, by decide, (am_tb 273 (by decide +kernel) (by decide +kernel))⟩
theorem fl_X1_15 : am_FL RX1 15 1 1 := ⟨by decide, by decide, (am_tb 274 (by decide +kernel) (by decide +kernel))⟩
theorem fl_X1_18 : am_FL RX1 18 1 2 := ⟨by decide, by decide, (am_tb 275 (by decide +kernel) (by decide +kernel))⟩
theorem fl_X1_22 : am_FL RX1 22 1 3 := ⟨by decide, by decide, (am_tb 276 (by decide +kernel) (by decide +kernel))⟩
theorem fl_X1_25 : am_FL RX1 25 1 4 := ⟨by decide, by decide, (am_tb 277 (by decide +kernel) (by decide +kernel))⟩
theorem fl_X1_28 : am_FL RX1 28 1 5 := ⟨by decide, by decide, (am_tb 279 (by decide +kernel) (by decide +kernel))⟩
theorem fl_X1_31 : am_FL RX1 31 1 6 := ⟨by decide, by decide, (am_tb 281 (by decide +kernel) (by decide +kernel))⟩
theorem fl_X1_38 : am_FL RX1 38 1 7 := ⟨by decide, by decide, (am_tb 282 (by decide +kernel) (by decide +kernel))⟩
theorem fl_X1_41 : am_FL RX1 41 2 6 := ⟨by decide, by decide, (am_tb 128 (by decide +kernel) (by decide +kernel))⟩
theorem fl_X1_46 : am_FL RX1 46 1 8 := ⟨by decide, by decide, (am_tb 283 (by decide +kernel) (by decide +kernel))⟩
theorem fl_X1_47 : am_FL RX1 47 2 0 := ⟨by decide, by decide, (am_tb 110 (by decide +kernel) (by decide +kernel))⟩
theorem fl_X1_50 : am_FL RX1 50 1 9 := ⟨by decide, by decide, (am_tb 284 (by decide +kernel) (by decide +kernel))⟩
theorem fl_X1_52 : am_FL RX1 52 2 1 := ⟨by decide, by decide, (am_tb 114 (by decide +kernel) (by decide +kernel))⟩
theorem fl_X1_55 : am_FL RX1 55 1 10 := ⟨by decide, by decide, (am_tb 285 (by decide +kernel) (by decide +kernel))⟩
theorem fl_X1_57 : am_FL RX1 57 2 2 := ⟨by decide, by decide, (am_tb 117 (by decide +kernel) (by decide +kernel))⟩
theorem fl_X1_60 : am_FL RX1 60 1 11 := ⟨by decide, by decide, (am_tb 286 (by decide +kernel) (by decide +kernel))⟩
theorem fl_X1_82 : am_FL RX1 82 4 1 := ⟨by decide, by decide, (am_tb 155 (by decide +kernel) (by decide +kernel))⟩
theorem fl_X1_87 : am_FL RX1 87 1 12 := ⟨by decide, by decide, (am_tb 287 (by decide +kernel) (by decide +kernel))⟩
theorem fl_X1_88 : am_FL RX1 88 4 2 := ⟨by decide, by decide, (am_tb 160 (by decide +kernel) (by decide +kernel))⟩
theorem fl_X1_91 : am_FL RX1 91 1 13 := ⟨by decide, by decide, (am_tb 288 (by decide +kernel) (by decide +kernel))⟩
theorem fl_X1_92 : am_FL RX1 92 1 14 := ⟨by decide, by decide, (am_tb 289 (by decide +kernel) (by decide +kernel))⟩
theorem fl_X1_129 : am_FL RX1 129 1 15 := ⟨by decide, by decide, (am_tb 290 (by decide +kernel) (by decide +kernel))⟩
theorem fl_X1_132 : am_FL RX1 132 4 5 := ⟨by decide, by decide, (am_tb 175 (by decide +kernel) (by decide +kernel))⟩
theorem fl_X1_135 : am_FL RX1 135 4 9 := ⟨by decide, by decide, (am_tb 190 (by decide +kernel) (by decide +kernel))⟩
theorem fl_X1_138 : am_FL RX1 138 4 8 := ⟨by decide, by decide, (am_tb 185 (by decide +kernel) (by decide +kernel))⟩
theorem fl_X1_145 : am_FL RX1 145 4 10 := ⟨by decide, by decide, (am_tb 195 (by decide +kernel) (by decide +kernel))⟩
theorem fl_X2_9 : am_FL RX2 9 2 0 := ⟨by decide, by decide, (am_tb 109 (by decide +kernel) (by decide +kernel))⟩
theorem fl_X2_15 : am_FL RX2 15 2 1 := ⟨by decide, by decide, (am_tb 113 (by decide +kernel) (by decide +kernel))⟩
theorem fl_X2_18 : am_FL RX2 18 2 2 := ⟨by decide, by decide, (am_tb 116 (by decide +kernel) (by decide +kernel))⟩
theorem fl_X2_21 : am_FL RX2 21 2 3 := ⟨by decide, by decide, (am_tb 120 (by decide +kernel) (by decide +kernel))⟩
theorem fl_X2_30 : am_FL RX2 30 2 4 := ⟨by decide, by decide, (am_tb 123 (by decide +kernel) (by decide +kernel))⟩
theorem fl_X2_34 : am_FL RX2 34 2 5 := ⟨by decide, by decide, (am_tb 125 (by decide +kernel) (by decide +kernel))⟩
theorem fl_X2_37 : am_FL RX2 37 2 6 := ⟨by decide, by decide, (am_tb 127 (by decide +kernel) (by decide +kernel))⟩
theorem fl_X2_40 : am_FL RX2 40 2 7 := ⟨by decide, by decide, (am_tb 130 (by decide +kernel) (by decide +kernel))⟩
theorem fl_X2_47 : am_FL RX2 47 4 0 := ⟨by decide, by decide, (am_tb 151 (by decide +kernel) (by decide +kernel))⟩
theorem fl_X2_52 : am_FL RX2 52 4 3 := ⟨by decide, by decide, (am_tb 166 (by decide +kernel) (by decide +kernel))⟩
theorem fl_X2_72 : am_FL RX2 72 4 1 := ⟨by decide, by decide, (am_tb 157 (by decide +kernel) (by decide +kernel))⟩
theorem fl_X2_75 : am_FL RX2 75 4 2 := ⟨by decide, by decide, (am_tb 162 (by decide +kernel) (by decide +kernel))⟩
theorem fl_X2_81 : am_FL RX2 81 4 5 := ⟨by decide, by decide, (am_tb 174 (by decide +kernel) (by decide +kernel))⟩
theorem fl_X2_84 : am_FL RX2 84 4 9 := ⟨by decide, by decide, (am_tb 189 (by decide +kernel) (by decide +kernel))⟩
theorem fl_X2_87 : am_FL RX2 87 4 8 := ⟨by decide, by decide, (am_tb 184 (by decide +kernel) (by decide +kernel))⟩
theorem fl_X2_90 : am_FL RX2 90 4 10 := ⟨by decide, by decide, (am_tb 194 (by decide +kernel) (by decide +kernel))⟩
theorem fl_X3_9 : am_FL RX3 9 3 0 := ⟨by decide, by decide, (am_tb 239 (by decide +kernel) (by decide +kernel))⟩
theorem fl_X3_15 : am_FL RX3 15 3 1 := ⟨by decide, by decide, (am_tb 240 (by decide +kernel) (by decide +kernel))⟩
theorem fl_X3_19 : am_FL RX3 19 3 2 := ⟨by decide, by decide, (am_tb 241 (by decide +kernel) (by decide +kernel))⟩
theorem fl_X3_25 : am_FL RX3 25 3 3 := ⟨by decide, by decide, (am_tb 242 (by decide +kernel) (by decide +kernel))⟩
theorem fl_X3_29 : am_FL RX3 29 3 4 := ⟨by decide, by decide, (am_tb 244 (by decide +kernel) (by decide +kernel))⟩
theorem fl_X3_32 : am_FL RX3 32 3 5 := ⟨by decide, by decide, (am_tb 246 (by decide +kernel) (by decide +kernel))⟩
theorem fl_X3_35 : am_FL RX3 35 3 6 := ⟨by decide, by decide, (am_tb 248 (by decide +kernel) (by decide +kernel))⟩
theorem fl_X3_52 : am_FL RX3 52 4 0 := ⟨by decide, by decide, (am_tb 153 (by decide +kernel) (by decide +kernel))⟩
theorem fl_X3_86 : am_FL RX3 86 4 1 := ⟨by decide, by decide, (am_tb 158 (by decide +kernel) (by decide +kernel))⟩
theorem fl_X3_89 : am_FL RX3 89 4 2 := ⟨by decide, by decide, (am_tb 163 (by decide +kernel) (by decide +kernel))⟩
theorem fl_X3_92 : am_FL RX3 92 4 3 := ⟨by decide, by decide, (am_tb 167 (by decide +kernel) (by decide +kernel))⟩
theorem fl_X3_95 : am_FL RX3 95 4 12 := ⟨by decide, by decide, (am_tb 203 (by decide +kernel) (by decide +kernel))⟩
theorem fl_X3_99 : am_FL RX3 99 2 0 := ⟨by decide, by decide, (am_tb 112 (by decide +kernel) (by decide +kernel))⟩
theorem fl_X3_104 : am_FL RX3 104 2 2 := ⟨by decide, by decide, (am_tb 119 (by decide +kernel) (by decide +kernel))⟩
theorem fl_X3_107 : am_FL RX3 107 2 3 := ⟨by decide, by decide, (am_tb 122 (by decide +kernel) (by decide +kernel))⟩
theorem fl_X3_113 : am_FL RX3 113 4 4 := ⟨by decide, by decide, (am_tb 171 (by decide +kernel) (by decide +kernel))⟩
theorem fl_X3_120 : am_FL RX3 120 4 7 := ⟨by decide, by decide, (am_tb 182 (by decide +kernel) (by decide +kernel))⟩
theorem fl_X3_123 : am_FL RX3 123 4 5 := ⟨by decide, by decide, (am_tb 176 (by decide +kernel) (by decide +kernel))⟩
theorem fl_X3_126 : am_FL RX3 126 4 8 := ⟨by decide, by decide, (am_tb 187 (by decide +kernel) (by decide +kernel))⟩
theorem fl_X3_129 : am_FL RX3 129 4 9 := ⟨by decide, by decide, (am_tb 192 (by decide +kernel) (by decide +kernel))⟩
theorem fl_X3_132 : am_FL RX3 132 4 10 := ⟨by decide, by decide, (am_tb 197 (by decide +kernel) (by decide +kernel))⟩
theorem fl_X3_135 : am_FL RX3 135 4 6 := ⟨by decide, by decide, (am_tb 178 (by decide +kernel) (by decide +kernel))⟩
theorem fl_X3_142 : am_FL RX3 142 4 11 := ⟨by decide, by decide, (am_tb 200 (by decide +kernel) (by decide +kernel))⟩
theorem fl_X4_9 : am_FL RX4 9 4 7 := ⟨by decide, by decide, (am_tb 179 (by decide +kernel) (by decide +kernel))⟩
theorem fl_X4_15 : am_FL RX4 15 4 8 := ⟨by decide, by decide, (am_tb 183 (by decide +kernel) (by decide +kernel))⟩
theorem fl_X4_18 : am_FL RX4 18 4 9 := ⟨by decide, by decide, (am_tb 188 (by decide +kernel) (by decide +kernel))⟩
theorem fl_X4_21 : am_FL RX4 21 4 10 := ⟨by decide, by decide, (am_tb 193 (by decide +kernel) (by decide +kernel))⟩
theorem fl_X4_24 : am_FL RX4 24 4 11 := ⟨by decide, by decide, (am_tb 198 (by decide +kernel) (by decide +kernel))⟩
theorem fl_X4_30 : am_FL RX4 30 4 12 := ⟨by decide, by decide, (am_tb 201 (by decide +kernel) (by decide +kernel))⟩
theorem fl_X4_34 : am_FL RX4 34 4 0 := ⟨by decide, by decide, (am_tb 150 (by decide +kernel) (by decide +kernel))⟩
theorem fl_X4_38 : am_FL RX4 38 4 1 := ⟨by decide, by decide, (am_tb 154 (by decide +kernel) (by decide +kernel))⟩
theorem fl_X4_41 : am_FL RX4 41 4 2 := ⟨by decide, by decide, (am_tb 159 (by decide +kernel) (by decide +kernel))⟩
theorem fl_X4_44 : am_FL RX4 44 4 3 := ⟨by decide, by decide, (am_tb 164 (by decide +kernel) (by decide +kernel))⟩
theorem fl_X4_47 : am_FL RX4 47 4 4 := ⟨by decide, by decide, (am_tb 168 (by decide +kernel) (by decide +kernel))⟩
theorem fl_X4_50 : am_FL RX4 50 4 5 := ⟨by decide, by decide, (am_tb 172 (by decide +kernel) (by decide +kernel))⟩
theorem fl_X4_53 : am_FL RX4 53 4 6 := ⟨by decide, by decide, (am_tb 177 (by decide +kernel) (by decide +kernel))⟩
theorem fl_X6_7 : am_FL RX6 7 6 4 := ⟨by decide, by decide, (am_tb 833 (by decide +kernel) (by decide +kernel))⟩
theorem fl_X6_13 : am_FL RX6 13 6 6 := ⟨by decide, by decide, (am_tb 835 (by decide +kernel) (by decide +kernel))⟩
theorem fl_X6_16 : am_FL RX6 16 6 8 := ⟨by decide, by decide, (am_tb 837 (by decide +kernel) (by decide +kernel))⟩
theorem fl_X6_19 : am_FL RX6 19 6 9 := ⟨by decide, by decide, (am_tb 838 (by decide +kernel) (by decide +kernel))⟩
theorem fl_X6_22 : am_FL RX6 22 6 10 := ⟨by decide, by decide, (am_tb 839 (by decide +kernel) (by decide +kernel))⟩
theorem fl_X6_25 : am_FL RX6 25 6 11 := ⟨by decide, by decide, (am_tb 840 (by decide +kernel) (by decide +kernel))⟩
theorem fl_X6_28 : am_FL RX6 28 6 13 := ⟨by decide, by decide, (am_tb 842 (by decide +kernel) (by decide +kernel))⟩
theorem fl_X6_31 : am_FL RX6 31 6 15 := ⟨by decide, by decide, (am_tb 844 (by decide +kernel) (by decide +kernel))⟩
theorem fl_X6_35 : am_FL RX6 35 6 19 := ⟨by decide, by decide, (am_tb 848 (by decide +kernel) (by decide +kernel))⟩
theorem fl_X6_38 : am_FL RX6 38 6 21 := ⟨by decide, by decide, (am_tb 850 (by decide +kernel) (by decide +kernel))⟩
theorem fl_X6_41 : am_FL RX6 41 6 22 := ⟨by decide, by decide, (am_tb 851 (by decide +kernel) (by decide +kernel))⟩
theorem fl_X6_44 : am_FL RX6 44 6 23 := ⟨by decide, by decide, (am_tb 852 (by decide +kernel) (by decide +kernel))⟩
theorem fl_X6_47 : am_FL RX6 47 6 24 := ⟨by decide, by decide, (am_tb 853 (by decide +kernel) (by decide +kernel))⟩
theorem fl_X6_50 : am_FL RX6 50 6 27 := ⟨by decide, by decide, (am_tb 856 (by decide +kernel) (by decide +kernel))⟩
theorem fl_X6_53 : am_FL RX6 53 6 29 := ⟨by decide, by decide, (am_tb 858 (by decide +kernel) (by decide +kernel))⟩
theorem fl_X6_56 : am_FL RX6 56 6 30 := ⟨by decide, by decide, (am_tb 859 (by decide +kernel) (by decide +kernel))⟩
theorem fl_X6_59 : am_FL RX6 59 6 31 := ⟨by decide, by decide, (am_tb 860 (by decide +kernel) (by decide +kernel))⟩
theorem fl_X6_62 : am_FL RX6 62 6 32 := ⟨by decide, by decide, (am_tb 861 (by decide +kernel) (by decide +kernel))⟩
theorem fl_X6_65 : am_FL RX6 65 6 33 := ⟨by decide, by decide, (am_tb 862 (by decide +kernel) (by decide +kernel))⟩
theorem fl_X6_68 : am_FL RX6 68 6 34 := ⟨by decide, by decide, (am_tb 863 (by decide +kernel) (by decide +kernel))⟩
theorem fl_X6_71 : am_FL RX6 71 6 36 := ⟨by decide, by decide, (am_tb 865 (by decide +kernel) (by decide +kernel))⟩
theorem fl_X6_74 : am_FL RX6 74 6 37 := ⟨by decide, by decide, (am_tb 866 (by decide +kernel) (by decide +kernel))⟩
theorem fl_X6_77 : am_FL RX6 77 6 38 := ⟨by decide, by decide, (am_tb 867 (by decide +kernel) (by decide +kernel))⟩
theorem fl_X6_80 : am_FL RX6 80 6 40 := ⟨by decide, by decide, (am_tb 869 (by decide +kernel) (by decide +kernel))⟩
theorem fl_X6_83 : am_FL RX6 83 6 41 := ⟨by decide, by decide, (am_tb 870 (by decide +kernel) (by decide +kernel))⟩
theorem fl_X6_86 : am_FL RX6 86 6 42 := ⟨by decide, by decide, (am_tb 871 (by decide +kernel) (by decide +kernel))⟩
theorem fl_X6_89 : am_FL RX6 89 6 43 := ⟨by decide, by decide, (am_tb 872 (by decide +kernel) (by decide +kernel))⟩
theorem fl_X6_93 : am_FL RX6 93 6 0 := ⟨by decide, by decide, (am_tb 829 (by decide +kernel) (by decide +kernel))⟩
theorem fl_X6_96 : am_FL RX6 96 6 3 := ⟨by decide, by decide, (am_tb 832 (by decide +kernel) (by decide +kernel))⟩
theorem fl_X6_106 : am_FL RX6 106 6 14 := ⟨by decide, by decide, (am_tb 843 (by decide +kernel) (by decide +kernel))⟩
theorem fl_X6_110 : am_FL RX6 110 6 16 := ⟨by decide, by decide, (am_tb 845 (by decide +kernel) (by decide +kernel))⟩
theorem fl_X6_125 : am_FL RX6 125 6 18 := ⟨by decide, by decide, (am_tb 847 (by decide +kernel) (by decide +kernel))⟩
theorem fl_X6_128 : am_FL RX6 128 6 17 := ⟨by decide, by decide, (am_tb 846 (by decide +kernel) (by decide +kernel))⟩
theorem fl_X6_138 : am_FL RX6 138 6 20 := ⟨by decide, by decide, (am_tb 849 (by decide +kernel) (by decide +kernel))⟩
theorem fl_X6_145 : am_FL RX6 145 6 26 := ⟨by decide, by decide, (am_tb 855 (by decide +kernel) (by decide +kernel))⟩
theorem fl_X6_148 : am_FL RX6 148 6 28 := ⟨by decide, by decide, (am_tb 857 (by decide +kernel) (by decide +kernel))⟩
theorem fl_X6_151 : am_FL RX6 151 6 25 := ⟨by decide, by decide, (am_tb 854 (by decide +kernel) (by decide +kernel))⟩
theorem fl_X6_173 : am_FL RX6 173 6 1 := ⟨by decide, by decide, (am_tb 830 (by decide +kernel) (by decide +kernel))⟩
theorem fl_X6_176 : am_FL RX6 176 6 2 := ⟨by decide, by decide, (am_tb 831 (by decide +kernel) (by decide +kernel))⟩
theorem fl_X6_179 : am_FL RX6 179 6 5 := ⟨by decide, by decide, (am_tb 834 (by decide +kernel) (by decide +kernel))⟩
theorem fl_X6_182 : am_FL RX6 182 6 7 := ⟨by decide, by decide, (am_tb 836 (by decide +kernel) (by decide +kernel))⟩
theorem fl_X6_191 : am_FL RX6 191 6 39 := ⟨by decide, by decide, (am_tb 868 (by decide +kernel) (by decide +kernel))⟩
theorem fl_X6_224 : am_FL RX6 224 6 12 := ⟨by decide, by decide, (am_tb 841 (by decide +kernel) (by decide +kernel))⟩
theorem fl_X6_249 : am_FL RX6 249 6 35 := ⟨by decide, by decide, (am_tb 864 (by decide +kernel) (by decide +kernel))⟩
theorem kc_X5_71 : Cond.constant RX5 71 (-1000000002) ∈ am_TB := (am_tb 400 (by decide +kernel) (by decide +kernel))
theorem kc_X5_75 : Cond.constant RX5 75 (-1000000004) ∈ am_TB := (am_tb 401 (by decide +kernel) (by decide +kernel))
theorem kc_X5_141 : Cond.constant RX5 141 (-1000000001) ∈ am_TB := (am_tb 519 (by decide +kernel) (by decide +kernel))
theorem kc_X5_191 : Cond.constant RX5 191 (-1000000003) ∈ am_TB := (am_tb 545 (by decide +kernel) (by decide +kernel))
theorem kc_X5_192 : Cond.constant RX5 192 90000 ∈ am_TB := (am_tb 546 (by decide +kernel) (by decide +kernel))
theorem kc_X5_240 : Cond.constant RX5 240 99999 ∈ am_TB := (am_tb 777 (by decide +kernel) (by decide +kernel))
theorem kc_X1_95 : Cond.constant RX1 95 44100 ∈ am_TB := (am_tb 626 (by decide +kernel) (by decide +kernel))
theorem kc_X2_103 : Cond.constant RX2 103 65536 ∈ am_TB := (am_tb 588 (by decide +kernel) (by decide +kernel))
theorem kc_X6_105 : Cond.constant RX6 105 (-1000000002) ∈ am_TB := (am_tb 970 (by decide +kernel) (by decide +kernel))
theorem kc_X6_109 : Cond.constant RX6 109 (-1000000004) ∈ am_TB := (am_tb 971 (by decide +kernel) (by decide +kernel))
theorem kc_X6_201 : Cond.constant RX6 201 (-1000000001) ∈ am_TB := (am_tb 1049 (by decide +kernel) (by decide +kernel))
theorem kc_X6_216 : Cond.constant RX6 216 (-1000000003) ∈ am_TB := (am_tb 1072 (by decide +kernel) (by decide +kernel))
theorem kc_X6_217 : Cond.constant RX6 217 90000 ∈ am_TB := (am_tb 1073 (by decide +kernel) (by decide +kernel))
theorem kc_X6_233 : Cond.constant RX6 233 65536 ∈ am_TB := (am_tb 1100 (by decide +kernel) (by decide +kernel))
theorem kc_X6_290 : Cond.constant RX6 290 1000000 ∈ am_TB := (am_tb 1184 (by decide +kernel) (by decide +kernel))
theorem kc_X6_309 : Cond.constant RX6 309 99999 ∈ am_TB := (am_tb 1203 (by decide +kernel) (by decide +kernel))
theorem kl_X5_234 : Cond.constantLong RX5 234 1000000 ∈ am_TB := (am_tb 772 (by decide +kernel) (by decide +kernel))
theorem kl_X5_236 : Cond.constantLong RX5 236 1000000000 ∈ am_TB := (am_tb 770 (by decide +kernel) (by decide +kernel))
theorem kl_X5_238 : Cond.constantLong RX5 238 100 ∈ am_TB := (am_tb 771 (by decide +kernel) (by decide +kernel))
theorem kl_X2_97 : Cond.constantLong RX2 97 1103515245 ∈ am_TB := (am_tb 585 (by decide +kernel) (by decide +kernel))
theorem kl_X2_99 : Cond.constantLong RX2 99 12345 ∈ am_TB := (am_tb 586 (by decide +kernel) (by decide +kernel))
theorem kl_X2_101 : Cond.constantLong RX2 101 2147483647 ∈ am_TB := (am_tb 587 (by decide +kernel) (by decide +kernel))
theorem kl_X6_103 : Cond.constantLong RX6 103 255 ∈ am_TB := (am_tb 966 (by decide +kernel) (by decide +kernel))
theorem kl_X6_117 : Cond.constantLong RX6 117 48 ∈ am_TB := (am_tb 1000 (by decide +kernel) (by decide +kernel))
theorem kl_X6_119 : Cond.constantLong RX6 119 57 ∈ am_TB := (am_tb 1001 (by decide +kernel) (by decide +kernel))
theorem kl_X6_202 : Cond.constantLong RX6 202 23 ∈ am_TB := (am_tb 1054 (by decide +kernel) (by decide +kernel))
theorem kl_X6_214 : Cond.constantLong RX6 214 96 ∈ am_TB := (am_tb 1071 (by decide +kernel) (by decide +kernel))
theorem kl_X6_227 : Cond.constantLong RX6 227 1103515245 ∈ am_TB := (am_tb 1097 (by decide +kernel) (by decide +kernel))
theorem kl_X6_229 : Cond.constantLong RX6 229 12345 ∈ am_TB := (am_tb 1098 (by decide +kernel) (by decide +kernel))
theorem kl_X6_231 : Cond.constantLong RX6 231 2147483648 ∈ am_TB := (am_tb 1099 (by decide +kernel) (by decide +kernel))
theorem kl_X6_237 : Cond.constantLong RX6 237 999 ∈ am_TB := (am_tb 1105 (by decide +kernel) (by decide +kernel))
theorem kl_X6_239 : Cond.constantLong RX6 239 2 ∈ am_TB := (am_tb 1110 (by decide +kernel) (by decide +kernel))
theorem kl_X6_247 : Cond.constantLong RX6 247 200 ∈ am_TB := (am_tb 1127 (by decide +kernel) (by decide +kernel))
theorem kl_X6_277 : Cond.constantLong RX6 277 12 ∈ am_TB := (am_tb 1162 (by decide +kernel) (by decide +kernel))
theorem kl_X6_282 : Cond.constantLong RX6 282 60 ∈ am_TB := (am_tb 1171 (by decide +kernel) (by decide +kernel))
theorem kl_X6_291 : Cond.constantLong RX6 291 1000000000 ∈ am_TB := (am_tb 1194 (by decide +kernel) (by decide +kernel))
theorem kl_X6_293 : Cond.constantLong RX6 293 100 ∈ am_TB := (am_tb 1189 (by decide +kernel) (by decide +kernel))
theorem kl_X6_295 : Cond.constantLong RX6 295 9 ∈ am_TB := (am_tb 1190 (by decide +kernel) (by decide +kernel))
theorem kl_X6_301 : Cond.constantLong RX6 301 1000000 ∈ am_TB := (am_tb 1195 (by decide +kernel) (by decide +kernel))
theorem kl_X6_303 : Cond.constantLong RX6 303 9999 ∈ am_TB := (am_tb 1200 (by decide +kernel) (by decide +kernel))
theorem kl_X6_305 : Cond.constantLong RX6 305 300 ∈ am_TB := (am_tb 1201 (by decide +kernel) (by decide +kernel))
theorem kl_X6_307 : Cond.constantLong RX6 307 99 ∈ am_TB := (am_tb 1202 (by decide +kernel) (by decide +kernel))
theorem lo_X5_1 : Cond.methodLink RX5 1 Lib.objectInit ∈ am_TB ∧ Cond.instanceMethod Lib.objectInit ∈ am_TB ∧ Cond.code Lib.objectInit ⟨#[0xb1]⟩ 1 none ∈ am_TB := ⟨(am_tb 94 (by decide +kernel) (by decide +kernel)), (am_tb 95 (by decide +kernel) (by decide +kernel)), (am_tb 96 (by decide +kernel) (by decide +kernel))⟩
theorem ml_X5_67 : Cond.methodLink RX5 67 yX5_isWithin ∈ am_TB ∧ Cond.static yX5_isWithin ∈ am_TB := ⟨(am_tb 397 (by decide +kernel) (by decide +kernel)), (am_tb 398 (by decide +kernel) (by decide +kernel))⟩
theorem ml_X5_76 : Cond.methodLink RX5 76 yX3_add ∈ am_TB ∧ Cond.instanceMethod yX3_add ∈ am_TB ∧ Cond.selects RX3 yX3_add yX3_add ∈ am_TB := ⟨(am_tb 402 (by decide +kernel) (by decide +kernel)), (am_tb 403 (by decide +kernel) (by decide +kernel)), (am_tb 404 (by decide +kernel) (by decide +kernel))⟩
theorem ml_X5_80 : Cond.methodLink RX5 80 yX3_read ∈ am_TB ∧ Cond.instanceMethod yX3_read ∈ am_TB ∧ Cond.selects RX3 yX3_read yX3_read ∈ am_TB := ⟨(am_tb 410 (by decide +kernel) (by decide +kernel)), (am_tb 411 (by decide +kernel) (by decide +kernel)), (am_tb 412 (by decide +kernel) (by decide +kernel))⟩
theorem ml_X5_96 : Cond.methodLink RX5 96 yX2_copyFrom ∈ am_TB ∧ Cond.instanceMethod yX2_copyFrom ∈ am_TB ∧ Cond.selects RX2 yX2_copyFrom yX2_copyFrom ∈ am_TB := ⟨(am_tb 484 (by decide +kernel) (by decide +kernel)), (am_tb 485 (by decide +kernel) (by decide +kernel)), (am_tb 486 (by decide +kernel) (by decide +kernel))⟩
theorem ml_X5_100 : Cond.methodLink RX5 100 yX1_forget ∈ am_TB ∧ Cond.instanceMethod yX1_forget ∈ am_TB ∧ Cond.selects RX1 yX1_forget yX1_forget ∈ am_TB := ⟨(am_tb 491 (by decide +kernel) (by decide +kernel)), (am_tb 492 (by decide +kernel) (by decide +kernel)), (am_tb 493 (by decide +kernel) (by decide +kernel))⟩
theorem ml_X5_103 : Cond.methodLink RX5 103 yX0_forget ∈ am_TB ∧ Cond.instanceMethod yX0_forget ∈ am_TB ∧ Cond.selects RX0 yX0_forget yX0_forget ∈ am_TB := ⟨(am_tb 495 (by decide +kernel) (by decide +kernel)), (am_tb 496 (by decide +kernel) (by decide +kernel)), (am_tb 497 (by decide +kernel) (by decide +kernel))⟩
theorem ml_X5_134 : Cond.methodLink RX5 134 yX2_sleepers ∈ am_TB ∧ Cond.instanceMethod yX2_sleepers ∈ am_TB ∧ Cond.selects RX2 yX2_sleepers yX2_sleepers ∈ am_TB := ⟨(am_tb 507 (by decide +kernel) (by decide +kernel)), (am_tb 508 (by decide +kernel) (by decide +kernel)), (am_tb 509 (by decide +kernel) (by decide +kernel))⟩
theorem ml_X5_137 : Cond.methodLink RX5 137 yX5_isPerson ∈ am_TB ∧ Cond.instanceMethod yX5_isPerson ∈ am_TB ∧ Cond.selects RX5 yX5_isPerson yX5_isPerson ∈ am_TB := ⟨(am_tb 515 (by decide +kernel) (by decide +kernel)), (am_tb 517 (by decide +kernel) (by decide +kernel)), (am_tb 13 (by decide +kernel) (by decide +kernel))⟩
theorem ml_X5_169 : Cond.methodLink RX5 169 yX5_debtState ∈ am_TB ∧ Cond.instanceMethod yX5_debtState ∈ am_TB ∧ Cond.selects RX5 yX5_debtState yX5_debtState ∈ am_TB := ⟨(am_tb 532 (by decide +kernel) (by decide +kernel)), (am_tb 534 (by decide +kernel) (by decide +kernel)), (am_tb 14 (by decide +kernel) (by decide +kernel))⟩
theorem ml_X5_172 : Cond.methodLink RX5 172 yX5_isIn ∈ am_TB ∧ Cond.static yX5_isIn ∈ am_TB := ⟨(am_tb 536 (by decide +kernel) (by decide +kernel)), (am_tb 478 (by decide +kernel) (by decide +kernel))⟩
theorem ml_X5_176 : Cond.methodLink RX5 176 yX5_refusalOfHours ∈ am_TB ∧ Cond.instanceMethod yX5_refusalOfHours ∈ am_TB ∧ Cond.selects RX5 yX5_refusalOfHours yX5_refusalOfHours ∈ am_TB := ⟨(am_tb 541 (by decide +kernel) (by decide +kernel)), (am_tb 543 (by decide +kernel) (by decide +kernel)), (am_tb 15 (by decide +kernel) (by decide +kernel))⟩
theorem ml_X5_179 : Cond.methodLink RX5 179 yX2_passHours ∈ am_TB ∧ Cond.instanceMethod yX2_passHours ∈ am_TB ∧ Cond.selects RX2 yX2_passHours yX2_passHours ∈ am_TB := ⟨(am_tb 547 (by decide +kernel) (by decide +kernel)), (am_tb 548 (by decide +kernel) (by decide +kernel)), (am_tb 549 (by decide +kernel) (by decide +kernel))⟩
theorem ml_X5_183 : Cond.methodLink RX5 183 yX2_wakeByDraw ∈ am_TB ∧ Cond.instanceMethod yX2_wakeByDraw ∈ am_TB ∧ Cond.selects RX2 yX2_wakeByDraw yX2_wakeByDraw ∈ am_TB := ⟨(am_tb 577 (by decide +kernel) (by decide +kernel)), (am_tb 578 (by decide +kernel) (by decide +kernel)), (am_tb 579 (by decide +kernel) (by decide +kernel))⟩
theorem ml_X5_187 : Cond.methodLink RX5 187 yX2_passHour ∈ am_TB ∧ Cond.instanceMethod yX2_passHour ∈ am_TB ∧ Cond.selects RX2 yX2_passHour yX2_passHour ∈ am_TB := ⟨(am_tb 589 (by decide +kernel) (by decide +kernel)), (am_tb 552 (by decide +kernel) (by decide +kernel)), (am_tb 553 (by decide +kernel) (by decide +kernel))⟩
theorem lm_X5_193 : am_LM RX5 193 Lib.Math.min.name Lib.Math.min.code := ⟨(am_tb 594 (by decide +kernel) (by decide +kernel)), (am_tb 563 (by decide +kernel) (by decide +kernel)), (am_tb 88 (by decide +kernel) (by decide +kernel)), (am_tb 564 (by decide +kernel) (by decide +kernel))⟩
theorem ml_X5_199 : Cond.methodLink RX5 199 yX5_leastOf ∈ am_TB ∧ Cond.static yX5_leastOf ∈ am_TB := ⟨(am_tb 603 (by decide +kernel) (by decide +kernel)), (am_tb 604 (by decide +kernel) (by decide +kernel))⟩
theorem ml_X5_202 : Cond.methodLink RX5 202 yX1_make ∈ am_TB ∧ Cond.instanceMethod yX1_make ∈ am_TB ∧ Cond.selects RX1 yX1_make yX1_make ∈ am_TB := ⟨(am_tb 614 (by decide +kernel) (by decide +kernel)), (am_tb 615 (by decide +kernel) (by decide +kernel)), (am_tb 616 (by decide +kernel) (by decide +kernel))⟩
theorem ml_X5_212 : Cond.methodLink RX5 212 yX0_prepare ∈ am_TB ∧ Cond.instanceMethod yX0_prepare ∈ am_TB ∧ Cond.selects RX0 yX0_prepare yX0_prepare ∈ am_TB := ⟨(am_tb 733 (by decide +kernel) (by decide +kernel)), (am_tb 734 (by decide +kernel) (by decide +kernel)), (am_tb 735 (by decide +kernel) (by decide +kernel))⟩
theorem ml_X5_218 : Cond.methodLink RX5 218 yX0_countOf ∈ am_TB ∧ Cond.instanceMethod yX0_countOf ∈ am_TB ∧ Cond.selects RX0 yX0_countOf yX0_countOf ∈ am_TB := ⟨(am_tb 743 (by decide +kernel) (by decide +kernel)), (am_tb 744 (by decide +kernel) (by decide +kernel)), (am_tb 745 (by decide +kernel) (by decide +kernel))⟩
theorem ml_X5_221 : Cond.methodLink RX5 221 yX0_findStrike ∈ am_TB ∧ Cond.instanceMethod yX0_findStrike ∈ am_TB ∧ Cond.selects RX0 yX0_findStrike yX0_findStrike ∈ am_TB := ⟨(am_tb 755 (by decide +kernel) (by decide +kernel)), (am_tb 756 (by decide +kernel) (by decide +kernel)), (am_tb 757 (by decide +kernel) (by decide +kernel))⟩
theorem ml_X5_230 : Cond.methodLink RX5 230 yX5_partsOfBillion ∈ am_TB ∧ Cond.static yX5_partsOfBillion ∈ am_TB := ⟨(am_tb 767 (by decide +kernel) (by decide +kernel)), (am_tb 768 (by decide +kernel) (by decide +kernel))⟩
theorem ml_X5_241 : Cond.methodLink RX5 241 yX4_yawnsOf ∈ am_TB ∧ Cond.instanceMethod yX4_yawnsOf ∈ am_TB ∧ Cond.selects RX4 yX4_yawnsOf yX4_yawnsOf ∈ am_TB := ⟨(am_tb 782 (by decide +kernel) (by decide +kernel)), (am_tb 783 (by decide +kernel) (by decide +kernel)), (am_tb 784 (by decide +kernel) (by decide +kernel))⟩
theorem ml_X5_244 : Cond.methodLink RX5 244 yX5_nextToRun ∈ am_TB ∧ Cond.instanceMethod yX5_nextToRun ∈ am_TB ∧ Cond.selects RX5 yX5_nextToRun yX5_nextToRun ∈ am_TB := ⟨(am_tb 791 (by decide +kernel) (by decide +kernel)), (am_tb 793 (by decide +kernel) (by decide +kernel)), (am_tb 47 (by decide +kernel) (by decide +kernel))⟩
theorem ml_X5_247 : Cond.methodLink RX5 247 yX5_imageOf ∈ am_TB ∧ Cond.instanceMethod yX5_imageOf ∈ am_TB ∧ Cond.selects RX5 yX5_imageOf yX5_imageOf ∈ am_TB := ⟨(am_tb 815 (by decide +kernel) (by decide +kernel)), (am_tb 817 (by decide +kernel) (by decide +kernel)), (am_tb 48 (by decide +kernel) (by decide +kernel))⟩
theorem lo_X0_3 : Cond.methodLink RX0 3 Lib.objectInit ∈ am_TB ∧ Cond.instanceMethod Lib.objectInit ∈ am_TB ∧ Cond.code Lib.objectInit ⟨#[0xb1]⟩ 1 none ∈ am_TB := ⟨(am_tb 329 (by decide +kernel) (by decide +kernel)), (am_tb 95 (by decide +kernel) (by decide +kernel)), (am_tb 96 (by decide +kernel) (by decide +kernel))⟩
theorem ml_X0_48 : Cond.methodLink RX0 48 yX0_addCoin ∈ am_TB ∧ Cond.instanceMethod yX0_addCoin ∈ am_TB ∧ Cond.selects RX0 yX0_addCoin yX0_addCoin ∈ am_TB := ⟨(am_tb 738 (by decide +kernel) (by decide +kernel)), (am_tb 740 (by decide +kernel) (by decide +kernel)), (am_tb 44 (by decide +kernel) (by decide +kernel))⟩
theorem lm_X0_52 : am_LM RX0 52 Lib.Math.min.name Lib.Math.min.code := ⟨(am_tb 742 (by decide +kernel) (by decide +kernel)), (am_tb 563 (by decide +kernel) (by decide +kernel)), (am_tb 88 (by decide +kernel) (by decide +kernel)), (am_tb 564 (by decide +kernel) (by decide +kernel))⟩
theorem ml_X0_58 : Cond.methodLink RX0 58 yX0_countTaken ∈ am_TB ∧ Cond.instanceMethod yX0_countTaken ∈ am_TB ∧ Cond.selects RX0 yX0_countTaken yX0_countTaken ∈ am_TB := ⟨(am_tb 747 (by decide +kernel) (by decide +kernel)), (am_tb 749 (by decide +kernel) (by decide +kernel)), (am_tb 45 (by decide +kernel) (by decide +kernel))⟩
theorem ml_X0_61 : Cond.methodLink RX0 61 yX0_totalWith ∈ am_TB ∧ Cond.instanceMethod yX0_totalWith ∈ am_TB ∧ Cond.selects RX0 yX0_totalWith yX0_totalWith ∈ am_TB := ⟨(am_tb 759 (by decide +kernel) (by decide +kernel)), (am_tb 761 (by decide +kernel) (by decide +kernel)), (am_tb 46 (by decide +kernel) (by decide +kernel))⟩
theorem lo_X1_3 : Cond.methodLink RX1 3 Lib.objectInit ∈ am_TB ∧ Cond.instanceMethod Lib.objectInit ∈ am_TB ∧ Cond.code Lib.objectInit ⟨#[0xb1]⟩ 1 none ∈ am_TB := ⟨(am_tb 272 (by decide +kernel) (by decide +kernel)), (am_tb 95 (by decide +kernel) (by decide +kernel)), (am_tb 96 (by decide +kernel) (by decide +kernel))⟩
theorem ml_X1_34 : Cond.methodLink RX1 34 yX1_isMade ∈ am_TB ∧ Cond.instanceMethod yX1_isMade ∈ am_TB ∧ Cond.selects RX1 yX1_isMade yX1_isMade ∈ am_TB := ⟨(am_tb 618 (by decide +kernel) (by decide +kernel)), (am_tb 620 (by decide +kernel) (by decide +kernel)), (am_tb 20 (by decide +kernel) (by decide +kernel))⟩
theorem ml_X1_62 : Cond.methodLink RX1 62 yX1_prepareTables ∈ am_TB ∧ Cond.instanceMethod yX1_prepareTables ∈ am_TB ∧ Cond.selects RX1 yX1_prepareTables yX1_prepareTables ∈ am_TB := ⟨(am_tb 622 (by decide +kernel) (by decide +kernel)), (am_tb 624 (by decide +kernel) (by decide +kernel)), (am_tb 21 (by decide +kernel) (by decide +kernel))⟩
theorem ml_X1_66 : Cond.methodLink RX1 66 yX1_countOwed ∈ am_TB ∧ Cond.instanceMethod yX1_countOwed ∈ am_TB ∧ Cond.selects RX1 yX1_countOwed yX1_countOwed ∈ am_TB := ⟨(am_tb 663 (by decide +kernel) (by decide +kernel)), (am_tb 665 (by decide +kernel) (by decide +kernel)), (am_tb 29 (by decide +kernel) (by decide +kernel))⟩
theorem ml_X1_69 : Cond.methodLink RX1 69 yX1_spread ∈ am_TB ∧ Cond.instanceMethod yX1_spread ∈ am_TB ∧ Cond.selects RX1 yX1_spread yX1_spread ∈ am_TB := ⟨(am_tb 669 (by decide +kernel) (by decide +kernel)), (am_tb 671 (by decide +kernel) (by decide +kernel)), (am_tb 30 (by decide +kernel) (by decide +kernel))⟩
theorem ml_X1_72 : Cond.methodLink RX1 72 yX1_mostAtEnd ∈ am_TB ∧ Cond.instanceMethod yX1_mostAtEnd ∈ am_TB ∧ Cond.selects RX1 yX1_mostAtEnd yX1_mostAtEnd ∈ am_TB := ⟨(am_tb 697 (by decide +kernel) (by decide +kernel)), (am_tb 699 (by decide +kernel) (by decide +kernel)), (am_tb 37 (by decide +kernel) (by decide +kernel))⟩
theorem ml_X1_76 : Cond.methodLink RX1 76 yX1_turnToNeeds ∈ am_TB ∧ Cond.instanceMethod yX1_turnToNeeds ∈ am_TB ∧ Cond.selects RX1 yX1_turnToNeeds yX1_turnToNeeds ∈ am_TB := ⟨(am_tb 701 (by decide +kernel) (by decide +kernel)), (am_tb 703 (by decide +kernel) (by decide +kernel)), (am_tb 38 (by decide +kernel) (by decide +kernel))⟩
theorem ml_X1_79 : Cond.methodLink RX1 79 yX1_walk ∈ am_TB ∧ Cond.instanceMethod yX1_walk ∈ am_TB ∧ Cond.selects RX1 yX1_walk yX1_walk ∈ am_TB := ⟨(am_tb 721 (by decide +kernel) (by decide +kernel)), (am_tb 723 (by decide +kernel) (by decide +kernel)), (am_tb 43 (by decide +kernel) (by decide +kernel))⟩
theorem ml_X1_96 : Cond.methodLink RX1 96 yX1_clearLastEarnings ∈ am_TB ∧ Cond.instanceMethod yX1_clearLastEarnings ∈ am_TB ∧ Cond.selects RX1 yX1_clearLastEarnings yX1_clearLastEarnings ∈ am_TB := ⟨(am_tb 627 (by decide +kernel) (by decide +kernel)), (am_tb 629 (by decide +kernel) (by decide +kernel)), (am_tb 22 (by decide +kernel) (by decide +kernel))⟩
theorem ml_X1_99 : Cond.methodLink RX1 99 yX1_learnEarnings ∈ am_TB ∧ Cond.instanceMethod yX1_learnEarnings ∈ am_TB ∧ Cond.selects RX1 yX1_learnEarnings yX1_learnEarnings ∈ am_TB := ⟨(am_tb 631 (by decide +kernel) (by decide +kernel)), (am_tb 633 (by decide +kernel) (by decide +kernel)), (am_tb 23 (by decide +kernel) (by decide +kernel))⟩
theorem ml_X1_103 : Cond.methodLink RX1 103 yX1_placeAtWork ∈ am_TB ∧ Cond.instanceMethod yX1_placeAtWork ∈ am_TB ∧ Cond.selects RX1 yX1_placeAtWork yX1_placeAtWork ∈ am_TB := ⟨(am_tb 635 (by decide +kernel) (by decide +kernel)), (am_tb 637 (by decide +kernel) (by decide +kernel)), (am_tb 24 (by decide +kernel) (by decide +kernel))⟩
theorem ml_X1_107 : Cond.methodLink RX1 107 yX1_earned ∈ am_TB ∧ Cond.instanceMethod yX1_earned ∈ am_TB ∧ Cond.selects RX1 yX1_earned yX1_earned ∈ am_TB := ⟨(am_tb 647 (by decide +kernel) (by decide +kernel)), (am_tb 649 (by decide +kernel) (by decide +kernel)), (am_tb 26 (by decide +kernel) (by decide +kernel))⟩
theorem ml_X1_111 : Cond.methodLink RX1 111 yX1_placeAsleep ∈ am_TB ∧ Cond.instanceMethod yX1_placeAsleep ∈ am_TB ∧ Cond.selects RX1 yX1_placeAsleep yX1_placeAsleep ∈ am_TB := ⟨(am_tb 651 (by decide +kernel) (by decide +kernel)), (am_tb 653 (by decide +kernel) (by decide +kernel)), (am_tb 27 (by decide +kernel) (by decide +kernel))⟩
theorem ml_X1_115 : Cond.methodLink RX1 115 yX1_place ∈ am_TB ∧ Cond.instanceMethod yX1_place ∈ am_TB ∧ Cond.selects RX1 yX1_place yX1_place ∈ am_TB := ⟨(am_tb 643 (by decide +kernel) (by decide +kernel)), (am_tb 645 (by decide +kernel) (by decide +kernel)), (am_tb 25 (by decide +kernel) (by decide +kernel))⟩
theorem lm_X1_118 : am_LM RX1 118 Lib.Math.max.name Lib.Math.max.code := ⟨(am_tb 658 (by decide +kernel) (by decide +kernel)), (am_tb 560 (by decide +kernel) (by decide +kernel)), (am_tb 88 (by decide +kernel) (by decide +kernel)), (am_tb 561 (by decide +kernel) (by decide +kernel))⟩
theorem ml_X1_123 : Cond.methodLink RX1 123 ⟨"java/util/Arrays", "fill", "([II)V"⟩ ∈ am_TB ∧ Cond.static ⟨"java/util/Arrays", "fill", "([II)V"⟩ ∈ am_TB := ⟨(am_tb 667 (by decide +kernel) (by decide +kernel)), (am_tb 419 (by decide +kernel) (by decide +kernel))⟩
theorem ml_X1_148 : Cond.methodLink RX1 148 yX1_easedBySleep ∈ am_TB ∧ Cond.static yX1_easedBySleep ∈ am_TB := ⟨(am_tb 655 (by decide +kernel) (by decide +kernel)), (am_tb 656 (by decide +kernel) (by decide +kernel))⟩
theorem ml_X1_151 : Cond.methodLink RX1 151 yX1_longerSleep ∈ am_TB ∧ Cond.instanceMethod yX1_longerSleep ∈ am_TB ∧ Cond.selects RX1 yX1_longerSleep yX1_longerSleep ∈ am_TB := ⟨(am_tb 659 (by decide +kernel) (by decide +kernel)), (am_tb 661 (by decide +kernel) (by decide +kernel)), (am_tb 28 (by decide +kernel) (by decide +kernel))⟩
theorem ml_X1_154 : Cond.methodLink RX1 154 yX1_tiredByWork ∈ am_TB ∧ Cond.static yX1_tiredByWork ∈ am_TB := ⟨(am_tb 639 (by decide +kernel) (by decide +kernel)), (am_tb 640 (by decide +kernel) (by decide +kernel))⟩
theorem lm_X1_157 : am_LM RX1 157 Lib.Math.min.name Lib.Math.min.code := ⟨(am_tb 642 (by decide +kernel) (by decide +kernel)), (am_tb 563 (by decide +kernel) (by decide +kernel)), (am_tb 88 (by decide +kernel) (by decide +kernel)), (am_tb 564 (by decide +kernel) (by decide +kernel))⟩
theorem ml_X1_160 : Cond.methodLink RX1 160 yX1_clearHour ∈ am_TB ∧ Cond.instanceMethod yX1_clearHour ∈ am_TB ∧ Cond.selects RX1 yX1_clearHour yX1_clearHour ∈ am_TB := ⟨(am_tb 673 (by decide +kernel) (by decide +kernel)), (am_tb 675 (by decide +kernel) (by decide +kernel)), (am_tb 31 (by decide +kernel) (by decide +kernel))⟩
theorem ml_X1_163 : Cond.methodLink RX1 163 yX1_mostTired ∈ am_TB ∧ Cond.instanceMethod yX1_mostTired ∈ am_TB ∧ Cond.selects RX1 yX1_mostTired yX1_mostTired ∈ am_TB := ⟨(am_tb 677 (by decide +kernel) (by decide +kernel)), (am_tb 679 (by decide +kernel) (by decide +kernel)), (am_tb 32 (by decide +kernel) (by decide +kernel))⟩
theorem ml_X1_166 : Cond.methodLink RX1 166 yX1_spreadHour ∈ am_TB ∧ Cond.instanceMethod yX1_spreadHour ∈ am_TB ∧ Cond.selects RX1 yX1_spreadHour yX1_spreadHour ∈ am_TB := ⟨(am_tb 685 (by decide +kernel) (by decide +kernel)), (am_tb 687 (by decide +kernel) (by decide +kernel)), (am_tb 34 (by decide +kernel) (by decide +kernel))⟩
theorem ml_X1_170 : Cond.methodLink RX1 170 yX1_leastTired ∈ am_TB ∧ Cond.instanceMethod yX1_leastTired ∈ am_TB ∧ Cond.selects RX1 yX1_leastTired yX1_leastTired ∈ am_TB := ⟨(am_tb 681 (by decide +kernel) (by decide +kernel)), (am_tb 683 (by decide +kernel) (by decide +kernel)), (am_tb 33 (by decide +kernel) (by decide +kernel))⟩
theorem ml_X1_173 : Cond.methodLink RX1 173 yX1_purseAsleep ∈ am_TB ∧ Cond.instanceMethod yX1_purseAsleep ∈ am_TB ∧ Cond.selects RX1 yX1_purseAsleep yX1_purseAsleep ∈ am_TB := ⟨(am_tb 689 (by decide +kernel) (by decide +kernel)), (am_tb 691 (by decide +kernel) (by decide +kernel)), (am_tb 35 (by decide +kernel) (by decide +kernel))⟩
theorem ml_X1_176 : Cond.methodLink RX1 176 yX1_offer ∈ am_TB ∧ Cond.instanceMethod yX1_offer ∈ am_TB ∧ Cond.selects RX1 yX1_offer yX1_offer ∈ am_TB := ⟨(am_tb 693 (by decide +kernel) (by decide +kernel)), (am_tb 695 (by decide +kernel) (by decide +kernel)), (am_tb 36 (by decide +kernel) (by decide +kernel))⟩
theorem ml_X1_179 : Cond.methodLink RX1 179 yX1_turnHourToNeeds ∈ am_TB ∧ Cond.instanceMethod yX1_turnHourToNeeds ∈ am_TB ∧ Cond.selects RX1 yX1_turnHourToNeeds yX1_turnHourToNeeds ∈ am_TB := ⟨(am_tb 705 (by decide +kernel) (by decide +kernel)), (am_tb 707 (by decide +kernel) (by decide +kernel)), (am_tb 39 (by decide +kernel) (by decide +kernel))⟩
theorem ml_X1_182 : Cond.methodLink RX1 182 yX1_needOf ∈ am_TB ∧ Cond.instanceMethod yX1_needOf ∈ am_TB ∧ Cond.selects RX1 yX1_needOf yX1_needOf ∈ am_TB := ⟨(am_tb 709 (by decide +kernel) (by decide +kernel)), (am_tb 711 (by decide +kernel) (by decide +kernel)), (am_tb 40 (by decide +kernel) (by decide +kernel))⟩
theorem ml_X1_185 : Cond.methodLink RX1 185 yX1_needAt ∈ am_TB ∧ Cond.instanceMethod yX1_needAt ∈ am_TB ∧ Cond.selects RX1 yX1_needAt yX1_needAt ∈ am_TB := ⟨(am_tb 713 (by decide +kernel) (by decide +kernel)), (am_tb 715 (by decide +kernel) (by decide +kernel)), (am_tb 41 (by decide +kernel) (by decide +kernel))⟩
theorem ml_X1_188 : Cond.methodLink RX1 188 yX1_needBefore ∈ am_TB ∧ Cond.instanceMethod yX1_needBefore ∈ am_TB ∧ Cond.selects RX1 yX1_needBefore yX1_needBefore ∈ am_TB := ⟨(am_tb 717 (by decide +kernel) (by decide +kernel)), (am_tb 719 (by decide +kernel) (by decide +kernel)), (am_tb 42 (by decide +kernel) (by decide +kernel))⟩
theorem lo_X2_3 : Cond.methodLink RX2 3 Lib.objectInit ∈ am_TB ∧ Cond.instanceMethod Lib.objectInit ∈ am_TB ∧ Cond.code Lib.objectInit ⟨#[0xb1]⟩ 1 none ∈ am_TB := ⟨(am_tb 108 (by decide +kernel) (by decide +kernel)), (am_tb 95 (by decide +kernel) (by decide +kernel)), (am_tb 96 (by decide +kernel) (by decide +kernel))⟩
theorem lc_X2_24 : am_LC RX2 24 := ⟨(am_tb 488 (by decide +kernel) (by decide +kernel)), (am_tb 490 (by decide +kernel) (by decide +kernel)), (am_tb 489 (by decide +kernel) (by decide +kernel)), (am_tb 87 (by decide +kernel) (by decide +kernel))⟩
theorem ml_X2_43 : Cond.methodLink RX2 43 yX2_passHour ∈ am_TB ∧ Cond.instanceMethod yX2_passHour ∈ am_TB ∧ Cond.selects RX2 yX2_passHour yX2_passHour ∈ am_TB := ⟨(am_tb 551 (by decide +kernel) (by decide +kernel)), (am_tb 552 (by decide +kernel) (by decide +kernel)), (am_tb 553 (by decide +kernel) (by decide +kernel))⟩
theorem ml_X2_55 : Cond.methodLink RX2 55 yX2_lie ∈ am_TB ∧ Cond.instanceMethod yX2_lie ∈ am_TB ∧ Cond.selects RX2 yX2_lie yX2_lie ∈ am_TB := ⟨(am_tb 555 (by decide +kernel) (by decide +kernel)), (am_tb 557 (by decide +kernel) (by decide +kernel)), (am_tb 16 (by decide +kernel) (by decide +kernel))⟩
theorem ml_X2_59 : Cond.methodLink RX2 59 yX2_tire ∈ am_TB ∧ Cond.instanceMethod yX2_tire ∈ am_TB ∧ Cond.selects RX2 yX2_tire yX2_tire ∈ am_TB := ⟨(am_tb 565 (by decide +kernel) (by decide +kernel)), (am_tb 567 (by decide +kernel) (by decide +kernel)), (am_tb 17 (by decide +kernel) (by decide +kernel))⟩
theorem ml_X2_63 : Cond.methodLink RX2 63 yX2_callDebts ∈ am_TB ∧ Cond.instanceMethod yX2_callDebts ∈ am_TB ∧ Cond.selects RX2 yX2_callDebts yX2_callDebts ∈ am_TB := ⟨(am_tb 569 (by decide +kernel) (by decide +kernel)), (am_tb 571 (by decide +kernel) (by decide +kernel)), (am_tb 18 (by decide +kernel) (by decide +kernel))⟩
theorem lm_X2_66 : am_LM RX2 66 Lib.Math.max.name Lib.Math.max.code := ⟨(am_tb 559 (by decide +kernel) (by decide +kernel)), (am_tb 560 (by decide +kernel) (by decide +kernel)), (am_tb 88 (by decide +kernel) (by decide +kernel)), (am_tb 561 (by decide +kernel) (by decide +kernel))⟩
theorem lm_X2_78 : am_LM RX2 78 Lib.Math.min.name Lib.Math.min.code := ⟨(am_tb 562 (by decide +kernel) (by decide +kernel)), (am_tb 563 (by decide +kernel) (by decide +kernel)), (am_tb 88 (by decide +kernel) (by decide +kernel)), (am_tb 564 (by decide +kernel) (by decide +kernel))⟩
theorem ml_X2_93 : Cond.methodLink RX2 93 yX2_draw ∈ am_TB ∧ Cond.instanceMethod yX2_draw ∈ am_TB ∧ Cond.selects RX2 yX2_draw yX2_draw ∈ am_TB := ⟨(am_tb 581 (by decide +kernel) (by decide +kernel)), (am_tb 583 (by decide +kernel) (by decide +kernel)), (am_tb 19 (by decide +kernel) (by decide +kernel))⟩
theorem lo_X3_3 : Cond.methodLink RX3 3 Lib.objectInit ∈ am_TB ∧ Cond.instanceMethod Lib.objectInit ∈ am_TB ∧ Cond.code Lib.objectInit ⟨#[0xb1]⟩ 1 none ∈ am_TB := ⟨(am_tb 236 (by decide +kernel) (by decide +kernel)), (am_tb 95 (by decide +kernel) (by decide +kernel)), (am_tb 96 (by decide +kernel) (by decide +kernel))⟩
theorem ml_X3_38 : Cond.methodLink RX3 38 yX4_clear ∈ am_TB ∧ Cond.instanceMethod yX4_clear ∈ am_TB ∧ Cond.selects RX4 yX4_clear yX4_clear ∈ am_TB := ⟨(am_tb 414 (by decide +kernel) (by decide +kernel)), (am_tb 415 (by decide +kernel) (by decide +kernel)), (am_tb 416 (by decide +kernel) (by decide +kernel))⟩
theorem ml_X3_41 : Cond.methodLink RX3 41 yX3_isGood ∈ am_TB ∧ Cond.instanceMethod yX3_isGood ∈ am_TB ∧ Cond.selects RX3 yX3_isGood yX3_isGood ∈ am_TB := ⟨(am_tb 421 (by decide +kernel) (by decide +kernel)), (am_tb 423 (by decide +kernel) (by decide +kernel)), (am_tb 0 (by decide +kernel) (by decide +kernel))⟩
theorem ml_X3_45 : Cond.methodLink RX3 45 yX3_peek ∈ am_TB ∧ Cond.instanceMethod yX3_peek ∈ am_TB ∧ Cond.selects RX3 yX3_peek yX3_peek ∈ am_TB := ⟨(am_tb 425 (by decide +kernel) (by decide +kernel)), (am_tb 427 (by decide +kernel) (by decide +kernel)), (am_tb 1 (by decide +kernel) (by decide +kernel))⟩
theorem ml_X3_49 : Cond.methodLink RX3 49 yX3_readClause ∈ am_TB ∧ Cond.instanceMethod yX3_readClause ∈ am_TB ∧ Cond.selects RX3 yX3_readClause yX3_readClause ∈ am_TB := ⟨(am_tb 429 (by decide +kernel) (by decide +kernel)), (am_tb 431 (by decide +kernel) (by decide +kernel)), (am_tb 2 (by decide +kernel) (by decide +kernel))⟩
theorem ml_X3_55 : Cond.methodLink RX3 55 yX3_fail ∈ am_TB ∧ Cond.instanceMethod yX3_fail ∈ am_TB ∧ Cond.selects RX3 yX3_fail yX3_fail ∈ am_TB := ⟨(am_tb 433 (by decide +kernel) (by decide +kernel)), (am_tb 435 (by decide +kernel) (by decide +kernel)), (am_tb 3 (by decide +kernel) (by decide +kernel))⟩
theorem ml_X3_59 : Cond.methodLink RX3 59 yX3_readBeds ∈ am_TB ∧ Cond.instanceMethod yX3_readBeds ∈ am_TB ∧ Cond.selects RX3 yX3_readBeds yX3_readBeds ∈ am_TB := ⟨(am_tb 437 (by decide +kernel) (by decide +kernel)), (am_tb 439 (by decide +kernel) (by decide +kernel)), (am_tb 4 (by decide +kernel) (by decide +kernel))⟩
theorem ml_X3_62 : Cond.methodLink RX3 62 yX3_readPerson ∈ am_TB ∧ Cond.instanceMethod yX3_readPerson ∈ am_TB ∧ Cond.selects RX3 yX3_readPerson yX3_readPerson ∈ am_TB := ⟨(am_tb 453 (by decide +kernel) (by decide +kernel)), (am_tb 455 (by decide +kernel) (by decide +kernel)), (am_tb 7 (by decide +kernel) (by decide +kernel))⟩
theorem ml_X3_65 : Cond.methodLink RX3 65 yX3_readCoin ∈ am_TB ∧ Cond.instanceMethod yX3_readCoin ∈ am_TB ∧ Cond.selects RX3 yX3_readCoin yX3_readCoin ∈ am_TB := ⟨(am_tb 461 (by decide +kernel) (by decide +kernel)), (am_tb 463 (by decide +kernel) (by decide +kernel)), (am_tb 9 (by decide +kernel) (by decide +kernel))⟩
theorem ml_X3_68 : Cond.methodLink RX3 68 yX3_readDebt ∈ am_TB ∧ Cond.instanceMethod yX3_readDebt ∈ am_TB ∧ Cond.selects RX3 yX3_readDebt yX3_readDebt ∈ am_TB := ⟨(am_tb 469 (by decide +kernel) (by decide +kernel)), (am_tb 471 (by decide +kernel) (by decide +kernel)), (am_tb 10 (by decide +kernel) (by decide +kernel))⟩
theorem ml_X3_71 : Cond.methodLink RX3 71 yX3_readYawn ∈ am_TB ∧ Cond.instanceMethod yX3_readYawn ∈ am_TB ∧ Cond.selects RX3 yX3_readYawn yX3_readYawn ∈ am_TB := ⟨(am_tb 473 (by decide +kernel) (by decide +kernel)), (am_tb 475 (by decide +kernel) (by decide +kernel)), (am_tb 11 (by decide +kernel) (by decide +kernel))⟩
theorem ml_X3_74 : Cond.methodLink RX3 74 yX3_expect ∈ am_TB ∧ Cond.instanceMethod yX3_expect ∈ am_TB ∧ Cond.selects RX3 yX3_expect yX3_expect ∈ am_TB := ⟨(am_tb 480 (by decide +kernel) (by decide +kernel)), (am_tb 482 (by decide +kernel) (by decide +kernel)), (am_tb 12 (by decide +kernel) (by decide +kernel))⟩
theorem ml_X3_78 : Cond.methodLink RX3 78 yX3_stepOverWord ∈ am_TB ∧ Cond.instanceMethod yX3_stepOverWord ∈ am_TB ∧ Cond.selects RX3 yX3_stepOverWord yX3_stepOverWord ∈ am_TB := ⟨(am_tb 441 (by decide +kernel) (by decide +kernel)), (am_tb 443 (by decide +kernel) (by decide +kernel)), (am_tb 5 (by decide +kernel) (by decide +kernel))⟩
theorem ml_X3_82 : Cond.methodLink RX3 82 yX3_readNumber ∈ am_TB ∧ Cond.instanceMethod yX3_readNumber ∈ am_TB ∧ Cond.selects RX3 yX3_readNumber yX3_readNumber ∈ am_TB := ⟨(am_tb 445 (by decide +kernel) (by decide +kernel)), (am_tb 447 (by decide +kernel) (by decide +kernel)), (am_tb 6 (by decide +kernel) (by decide +kernel))⟩
theorem ml_X3_110 : Cond.methodLink RX3 110 yX3_readDoing ∈ am_TB ∧ Cond.instanceMethod yX3_readDoing ∈ am_TB ∧ Cond.selects RX3 yX3_readDoing yX3_readDoing ∈ am_TB := ⟨(am_tb 457 (by decide +kernel) (by decide +kernel)), (am_tb 459 (by decide +kernel) (by decide +kernel)), (am_tb 8 (by decide +kernel) (by decide +kernel))⟩
theorem ml_X3_116 : Cond.methodLink RX3 116 yX4_hasCoin ∈ am_TB ∧ Cond.instanceMethod yX4_hasCoin ∈ am_TB ∧ Cond.selects RX4 yX4_hasCoin yX4_hasCoin ∈ am_TB := ⟨(am_tb 465 (by decide +kernel) (by decide +kernel)), (am_tb 466 (by decide +kernel) (by decide +kernel)), (am_tb 467 (by decide +kernel) (by decide +kernel))⟩
theorem ml_X3_145 : Cond.methodLink RX3 145 yX3_isFigure ∈ am_TB ∧ Cond.static yX3_isFigure ∈ am_TB := ⟨(am_tb 449 (by decide +kernel) (by decide +kernel)), (am_tb 450 (by decide +kernel) (by decide +kernel))⟩
theorem lo_X4_3 : Cond.methodLink RX4 3 Lib.objectInit ∈ am_TB ∧ Cond.instanceMethod Lib.objectInit ∈ am_TB ∧ Cond.code Lib.objectInit ⟨#[0xb1]⟩ 1 none ∈ am_TB := ⟨(am_tb 102 (by decide +kernel) (by decide +kernel)), (am_tb 95 (by decide +kernel) (by decide +kernel)), (am_tb 96 (by decide +kernel) (by decide +kernel))⟩
theorem ml_X4_56 : Cond.methodLink RX4 56 ⟨"java/util/Arrays", "fill", "([II)V"⟩ ∈ am_TB ∧ Cond.static ⟨"java/util/Arrays", "fill", "([II)V"⟩ ∈ am_TB := ⟨(am_tb 418 (by decide +kernel) (by decide +kernel)), (am_tb 419 (by decide +kernel) (by decide +kernel))⟩
theorem lo_X6_1 : Cond.methodLink RX6 1 Lib.objectInit ∈ am_TB ∧ Cond.instanceMethod Lib.objectInit ∈ am_TB ∧ Cond.code Lib.objectInit ⟨#[0xb1]⟩ 1 none ∈ am_TB := ⟨(am_tb 828 (by decide +kernel) (by decide +kernel)), (am_tb 95 (by decide +kernel) (by decide +kernel)), (am_tb 96 (by decide +kernel) (by decide +kernel))⟩
theorem ml_X6_99 : Cond.methodLink RX6 99 yX6_in ∈ am_TB ∧ Cond.static yX6_in ∈ am_TB := ⟨(am_tb 967 (by decide +kernel) (by decide +kernel)), (am_tb 968 (by decide +kernel) (by decide +kernel))⟩
theorem ml_X6_113 : Cond.methodLink RX6 113 yX6_here ∈ am_TB ∧ Cond.instanceMethod yX6_here ∈ am_TB ∧ Cond.selects RX6 yX6_here yX6_here ∈ am_TB := ⟨(am_tb 976 (by decide +kernel) (by decide +kernel)), (am_tb 978 (by decide +kernel) (by decide +kernel)), (am_tb 49 (by decide +kernel) (by decide +kernel))⟩
theorem ml_X6_121 : Cond.methodLink RX6 121 yX6_fails ∈ am_TB ∧ Cond.instanceMethod yX6_fails ∈ am_TB ∧ Cond.selects RX6 yX6_fails yX6_fails ∈ am_TB := ⟨(am_tb 984 (by decide +kernel) (by decide +kernel)), (am_tb 986 (by decide +kernel) (by decide +kernel)), (am_tb 51 (by decide +kernel) (by decide +kernel))⟩
theorem ml_X6_131 : Cond.methodLink RX6 131 yX6_takeNumber ∈ am_TB ∧ Cond.instanceMethod yX6_takeNumber ∈ am_TB ∧ Cond.selects RX6 yX6_takeNumber yX6_takeNumber ∈ am_TB := ⟨(am_tb 996 (by decide +kernel) (by decide +kernel)), (am_tb 998 (by decide +kernel) (by decide +kernel)), (am_tb 54 (by decide +kernel) (by decide +kernel))⟩
theorem ml_X6_134 : Cond.methodLink RX6 134 yX6_into ∈ am_TB ∧ Cond.instanceMethod yX6_into ∈ am_TB ∧ Cond.selects RX6 yX6_into yX6_into ∈ am_TB := ⟨(am_tb 992 (by decide +kernel) (by decide +kernel)), (am_tb 994 (by decide +kernel) (by decide +kernel)), (am_tb 53 (by decide +kernel) (by decide +kernel))⟩
theorem ml_X6_141 : Cond.methodLink RX6 141 yX6_takeRow ∈ am_TB ∧ Cond.instanceMethod yX6_takeRow ∈ am_TB ∧ Cond.selects RX6 yX6_takeRow yX6_takeRow ∈ am_TB := ⟨(am_tb 1006 (by decide +kernel) (by decide +kernel)), (am_tb 1008 (by decide +kernel) (by decide +kernel)), (am_tb 56 (by decide +kernel) (by decide +kernel))⟩
theorem ml_X6_154 : Cond.methodLink RX6 154 yX6_has ∈ am_TB ∧ Cond.static yX6_has ∈ am_TB := ⟨(am_tb 1022 (by decide +kernel) (by decide +kernel)), (am_tb 1023 (by decide +kernel) (by decide +kernel))⟩
theorem ml_X6_158 : Cond.methodLink RX6 158 yX6_takeMint ∈ am_TB ∧ Cond.instanceMethod yX6_takeMint ∈ am_TB ∧ Cond.selects RX6 yX6_takeMint yX6_takeMint ∈ am_TB := ⟨(am_tb 988 (by decide +kernel) (by decide +kernel)), (am_tb 990 (by decide +kernel) (by decide +kernel)), (am_tb 52 (by decide +kernel) (by decide +kernel))⟩
theorem ml_X6_161 : Cond.methodLink RX6 161 yX6_takePerson ∈ am_TB ∧ Cond.instanceMethod yX6_takePerson ∈ am_TB ∧ Cond.selects RX6 yX6_takePerson yX6_takePerson ∈ am_TB := ⟨(am_tb 1002 (by decide +kernel) (by decide +kernel)), (am_tb 1004 (by decide +kernel) (by decide +kernel)), (am_tb 55 (by decide +kernel) (by decide +kernel))⟩
theorem ml_X6_164 : Cond.methodLink RX6 164 yX6_takeCoin ∈ am_TB ∧ Cond.instanceMethod yX6_takeCoin ∈ am_TB ∧ Cond.selects RX6 yX6_takeCoin yX6_takeCoin ∈ am_TB := ⟨(am_tb 1010 (by decide +kernel) (by decide +kernel)), (am_tb 1012 (by decide +kernel) (by decide +kernel)), (am_tb 57 (by decide +kernel) (by decide +kernel))⟩
theorem ml_X6_167 : Cond.methodLink RX6 167 yX6_takeDebt ∈ am_TB ∧ Cond.instanceMethod yX6_takeDebt ∈ am_TB ∧ Cond.selects RX6 yX6_takeDebt yX6_takeDebt ∈ am_TB := ⟨(am_tb 1014 (by decide +kernel) (by decide +kernel)), (am_tb 1016 (by decide +kernel) (by decide +kernel)), (am_tb 58 (by decide +kernel) (by decide +kernel))⟩
theorem ml_X6_170 : Cond.methodLink RX6 170 yX6_takeYawn ∈ am_TB ∧ Cond.instanceMethod yX6_takeYawn ∈ am_TB ∧ Cond.selects RX6 yX6_takeYawn yX6_takeYawn ∈ am_TB := ⟨(am_tb 1018 (by decide +kernel) (by decide +kernel)), (am_tb 1020 (by decide +kernel) (by decide +kernel)), (am_tb 59 (by decide +kernel) (by decide +kernel))⟩
theorem ml_X6_185 : Cond.methodLink RX6 185 yX6_takeClause ∈ am_TB ∧ Cond.instanceMethod yX6_takeClause ∈ am_TB ∧ Cond.selects RX6 yX6_takeClause yX6_takeClause ∈ am_TB := ⟨(am_tb 980 (by decide +kernel) (by decide +kernel)), (am_tb 982 (by decide +kernel) (by decide +kernel)), (am_tb 50 (by decide +kernel) (by decide +kernel))⟩
theorem ml_X6_188 : Cond.methodLink RX6 188 yX6_takeRead ∈ am_TB ∧ Cond.instanceMethod yX6_takeRead ∈ am_TB ∧ Cond.selects RX6 yX6_takeRead yX6_takeRead ∈ am_TB := ⟨(am_tb 1025 (by decide +kernel) (by decide +kernel)), (am_tb 1027 (by decide +kernel) (by decide +kernel)), (am_tb 60 (by decide +kernel) (by decide +kernel))⟩
theorem ml_X6_194 : Cond.methodLink RX6 194 yX6_asleep ∈ am_TB ∧ Cond.instanceMethod yX6_asleep ∈ am_TB ∧ Cond.selects RX6 yX6_asleep yX6_asleep ∈ am_TB := ⟨(am_tb 1037 (by decide +kernel) (by decide +kernel)), (am_tb 1039 (by decide +kernel) (by decide +kernel)), (am_tb 61 (by decide +kernel) (by decide +kernel))⟩
theorem ml_X6_197 : Cond.methodLink RX6 197 yX6_isPerson ∈ am_TB ∧ Cond.instanceMethod yX6_isPerson ∈ am_TB ∧ Cond.selects RX6 yX6_isPerson yX6_isPerson ∈ am_TB := ⟨(am_tb 1045 (by decide +kernel) (by decide +kernel)), (am_tb 1047 (by decide +kernel) (by decide +kernel)), (am_tb 62 (by decide +kernel) (by decide +kernel))⟩
theorem ml_X6_204 : Cond.methodLink RX6 204 yX6_minted ∈ am_TB ∧ Cond.instanceMethod yX6_minted ∈ am_TB ∧ Cond.selects RX6 yX6_minted yX6_minted ∈ am_TB := ⟨(am_tb 1082 (by decide +kernel) (by decide +kernel)), (am_tb 1084 (by decide +kernel) (by decide +kernel)), (am_tb 66 (by decide +kernel) (by decide +kernel))⟩
theorem ml_X6_207 : Cond.methodLink RX6 207 yX6_atMost ∈ am_TB ∧ Cond.static yX6_atMost ∈ am_TB := ⟨(am_tb 1086 (by decide +kernel) (by decide +kernel)), (am_tb 1087 (by decide +kernel) (by decide +kernel))⟩
theorem ml_X6_210 : Cond.methodLink RX6 210 yX6_doHour ∈ am_TB ∧ Cond.instanceMethod yX6_doHour ∈ am_TB ∧ Cond.selects RX6 yX6_doHour yX6_doHour ∈ am_TB := ⟨(am_tb 1078 (by decide +kernel) (by decide +kernel)), (am_tb 1080 (by decide +kernel) (by decide +kernel)), (am_tb 65 (by decide +kernel) (by decide +kernel))⟩
theorem ml_X6_218 : Cond.methodLink RX6 218 yX6_hoursRefused ∈ am_TB ∧ Cond.instanceMethod yX6_hoursRefused ∈ am_TB ∧ Cond.selects RX6 yX6_hoursRefused yX6_hoursRefused ∈ am_TB := ⟨(am_tb 1067 (by decide +kernel) (by decide +kernel)), (am_tb 1069 (by decide +kernel) (by decide +kernel)), (am_tb 63 (by decide +kernel) (by decide +kernel))⟩
theorem ml_X6_221 : Cond.methodLink RX6 221 yX6_pass ∈ am_TB ∧ Cond.instanceMethod yX6_pass ∈ am_TB ∧ Cond.selects RX6 yX6_pass yX6_pass ∈ am_TB := ⟨(am_tb 1074 (by decide +kernel) (by decide +kernel)), (am_tb 1076 (by decide +kernel) (by decide +kernel)), (am_tb 64 (by decide +kernel) (by decide +kernel))⟩
theorem ml_X6_234 : Cond.methodLink RX6 234 yX6_draw ∈ am_TB ∧ Cond.instanceMethod yX6_draw ∈ am_TB ∧ Cond.selects RX6 yX6_draw yX6_draw ∈ am_TB := ⟨(am_tb 1093 (by decide +kernel) (by decide +kernel)), (am_tb 1095 (by decide +kernel) (by decide +kernel)), (am_tb 67 (by decide +kernel) (by decide +kernel))⟩
theorem ml_X6_241 : Cond.methodLink RX6 241 yX6_save ∈ am_TB ∧ Cond.instanceMethod yX6_save ∈ am_TB ∧ Cond.selects RX6 yX6_save yX6_save ∈ am_TB := ⟨(am_tb 1115 (by decide +kernel) (by decide +kernel)), (am_tb 1117 (by decide +kernel) (by decide +kernel)), (am_tb 68 (by decide +kernel) (by decide +kernel))⟩
theorem ml_X6_244 : Cond.methodLink RX6 244 yX6_putBack ∈ am_TB ∧ Cond.instanceMethod yX6_putBack ∈ am_TB ∧ Cond.selects RX6 yX6_putBack yX6_putBack ∈ am_TB := ⟨(am_tb 1119 (by decide +kernel) (by decide +kernel)), (am_tb 1121 (by decide +kernel) (by decide +kernel)), (am_tb 69 (by decide +kernel) (by decide +kernel))⟩
theorem ml_X6_252 : Cond.methodLink RX6 252 yX6_tiredBy ∈ am_TB ∧ Cond.static yX6_tiredBy ∈ am_TB := ⟨(am_tb 1143 (by decide +kernel) (by decide +kernel)), (am_tb 1144 (by decide +kernel) (by decide +kernel))⟩
theorem ml_X6_255 : Cond.methodLink RX6 255 yX6_behindDebts ∈ am_TB ∧ Cond.instanceMethod yX6_behindDebts ∈ am_TB ∧ Cond.selects RX6 yX6_behindDebts yX6_behindDebts ∈ am_TB := ⟨(am_tb 1150 (by decide +kernel) (by decide +kernel)), (am_tb 1152 (by decide +kernel) (by decide +kernel)), (am_tb 73 (by decide +kernel) (by decide +kernel))⟩
theorem ml_X6_258 : Cond.methodLink RX6 258 yX6_stateBy ∈ am_TB ∧ Cond.static yX6_stateBy ∈ am_TB := ⟨(am_tb 1140 (by decide +kernel) (by decide +kernel)), (am_tb 1141 (by decide +kernel) (by decide +kernel))⟩
theorem ml_X6_262 : Cond.methodLink RX6 262 yX6_purseBy ∈ am_TB ∧ Cond.instanceMethod yX6_purseBy ∈ am_TB ∧ Cond.selects RX6 yX6_purseBy yX6_purseBy ∈ am_TB := ⟨(am_tb 1146 (by decide +kernel) (by decide +kernel)), (am_tb 1148 (by decide +kernel) (by decide +kernel)), (am_tb 72 (by decide +kernel) (by decide +kernel))⟩
theorem ml_X6_266 : Cond.methodLink RX6 266 yX6_liveOn ∈ am_TB ∧ Cond.instanceMethod yX6_liveOn ∈ am_TB ∧ Cond.selects RX6 yX6_liveOn yX6_liveOn ∈ am_TB := ⟨(am_tb 1136 (by decide +kernel) (by decide +kernel)), (am_tb 1138 (by decide +kernel) (by decide +kernel)), (am_tb 71 (by decide +kernel) (by decide +kernel))⟩
theorem ml_X6_270 : Cond.methodLink RX6 270 yX6_mostFrom ∈ am_TB ∧ Cond.instanceMethod yX6_mostFrom ∈ am_TB ∧ Cond.selects RX6 yX6_mostFrom yX6_mostFrom ∈ am_TB := ⟨(am_tb 1132 (by decide +kernel) (by decide +kernel)), (am_tb 1134 (by decide +kernel) (by decide +kernel)), (am_tb 70 (by decide +kernel) (by decide +kernel))⟩
theorem ml_X6_273 : Cond.methodLink RX6 273 yX6_lived ∈ am_TB ∧ Cond.instanceMethod yX6_lived ∈ am_TB ∧ Cond.selects RX6 yX6_lived yX6_lived ∈ am_TB := ⟨(am_tb 1154 (by decide +kernel) (by decide +kernel)), (am_tb 1156 (by decide +kernel) (by decide +kernel)), (am_tb 74 (by decide +kernel) (by decide +kernel))⟩
theorem ml_X6_279 : Cond.methodLink RX6 279 yX6_canLie ∈ am_TB ∧ Cond.instanceMethod yX6_canLie ∈ am_TB ∧ Cond.selects RX6 yX6_canLie yX6_canLie ∈ am_TB := ⟨(am_tb 1163 (by decide +kernel) (by decide +kernel)), (am_tb 1165 (by decide +kernel) (by decide +kernel)), (am_tb 75 (by decide +kernel) (by decide +kernel))⟩
theorem ml_X6_284 : Cond.methodLink RX6 284 yX6_findFewest ∈ am_TB ∧ Cond.instanceMethod yX6_findFewest ∈ am_TB ∧ Cond.selects RX6 yX6_findFewest yX6_findFewest ∈ am_TB := ⟨(am_tb 1172 (by decide +kernel) (by decide +kernel)), (am_tb 1174 (by decide +kernel) (by decide +kernel)), (am_tb 76 (by decide +kernel) (by decide +kernel))⟩
theorem ml_X6_287 : Cond.methodLink RX6 287 yX6_isCoin ∈ am_TB ∧ Cond.instanceMethod yX6_isCoin ∈ am_TB ∧ Cond.selects RX6 yX6_isCoin yX6_isCoin ∈ am_TB := ⟨(am_tb 1176 (by decide +kernel) (by decide +kernel)), (am_tb 1178 (by decide +kernel) (by decide +kernel)), (am_tb 77 (by decide +kernel) (by decide +kernel))⟩
theorem ml_X6_297 : Cond.methodLink RX6 297 yX6_tested ∈ am_TB ∧ Cond.static yX6_tested ∈ am_TB := ⟨(am_tb 1191 (by decide +kernel) (by decide +kernel)), (am_tb 1192 (by decide +kernel) (by decide +kernel))⟩
theorem ml_X5_9 : (RX5, 9, yX4_init, "SleepMint") ∈ am_nest ∧ Cond.instanceMethod yX4_init ∈ am_TB := ⟨by decide +kernel, (am_tb 100 (by decide +kernel) (by decide +kernel))⟩
theorem ml_X5_18 : (RX5, 18, yX3_init, "SleepMint") ∈ am_nest ∧ Cond.instanceMethod yX3_init ∈ am_TB := ⟨by decide +kernel, (am_tb 234 (by decide +kernel) (by decide +kernel))⟩
theorem ml_X5_25 : (RX5, 25, yX2_init, "SleepMint") ∈ am_nest ∧ Cond.instanceMethod yX2_init ∈ am_TB := ⟨by decide +kernel, (am_tb 106 (by decide +kernel) (by decide +kernel))⟩
theorem ml_X5_45 : (RX5, 45, yX1_init, "SleepMint") ∈ am_nest ∧ Cond.instanceMethod yX1_init ∈ am_TB := ⟨by decide +kernel, (am_tb 270 (by decide +kernel) (by decide +kernel))⟩
theorem ml_X5_52 : (RX5, 52, yX0_init, "SleepMint") ∈ am_nest ∧ Cond.instanceMethod yX0_init ∈ am_TB := ⟨by decide +kernel, (am_tb 327 (by decide +kernel) (by decide +kernel))⟩
theorem ml_X0_44 : (RX0, 44, yX5_isWithin, "SleepMint") ∈ am_nest ∧ Cond.static yX5_isWithin ∈ am_TB := ⟨by decide +kernel, (am_tb 398 (by decide +kernel) (by decide +kernel))⟩
theorem ml_X1_141 : (RX1, 141, yX5_isWithin, "SleepMint") ∈ am_nest ∧ Cond.static yX5_isWithin ∈ am_TB := ⟨by decide +kernel, (am_tb 398 (by decide +kernel) (by decide +kernel))⟩
theorem ml_X3_24 : (RX3, 24, yX4_init, "SleepMint") ∈ am_nest ∧ Cond.instanceMethod yX4_init ∈ am_TB := ⟨by decide +kernel, (am_tb 100 (by decide +kernel) (by decide +kernel))⟩
theorem ml_X3_138 : (RX3, 138, yX5_isIn, "SleepMint") ∈ am_nest ∧ Cond.static yX5_isIn ∈ am_TB := ⟨by decide +kernel, (am_tb 478 (by decide +kernel) (by decide +kernel))⟩
theorem ml_X3_148 : (RX3, 148, yX5_isWithin, "SleepMint") ∈ am_nest ∧ Cond.static yX5_isWithin ∈ am_TB := ⟨by decide +kernel, (am_tb 398 (by decide +kernel) (by decide +kernel))⟩
theorem ml_X4_29 : (RX4, 29, yX2_init, "SleepMint") ∈ am_nest ∧ Cond.instanceMethod yX2_init ∈ am_TB := ⟨by decide +kernel, (am_tb 106 (by decide +kernel) (by decide +kernel))⟩
theorem ml_X4_62 : (RX4, 62, yX5_isIn, "SleepMint") ∈ am_nest ∧ Cond.static yX5_isIn ∈ am_TB := ⟨by decide +kernel, (am_tb 478 (by decide +kernel) (by decide +kernel))⟩
end
section
def lyS0 : am_S := [(7, 0), (6, 0), (0, 4), (0, 8), (0, 8), (0, 8), (0, 5), (4, 0), (0, 5), (0, 5), (0, 5), (0, 120), (5, 0), (0, 250), (6, 0), (0, 4), (0, 8), (0, 8), (0, 8), (0, 5), (4, 0), (0, 5), (0, 5), (0, 5), (0, 120), (4, 0), (0, 5), (0, 5), (0, 5), (0, 120), (4, 0), (0, 5), (0, 5), (0, 5), (0, 120), (4, 0), (0, 5), (0, 5), (0, 5), (0, 120), (4, 0), (0, 5), (0, 5), (0, 5), (0, 120), (3, 0), (0, 0), (0, 0), (0, 48), (0, 48), (2, 0), (1, 61), (0, 201), (0, 61), (0, 15), (0, 15), (8, 0), (0, 5), (0, 4), (0, 8), (0, 8), (0, 8), (0, 138), (0, 250), (0, 3), (0, 5), (0, 5), (0, 120), (0, 5), (0, 4), (0, 8), (0, 8), (0, 8), (0, 138), (0, 1000), (0, 1000), (0, 24), (0, 5), (0, 201), (0, 15), (0, 15), (0, 278), (1, 2)]
def lyS (tp : Bool) : am_S := lyS0 ++ (if tp = true then [(0, 44100), (0, 44100)] else [])
def lyR0 (a j : Nat) : Option Nat := match a, j with
  | 0, 1 => some 12
  | 0, 2 => some 25
  | 0, 3 => some 30
  | 0, 4 => some 35
  | 0, 5 => some 40
  | 0, 7 => some 45
  | 0, 8 => some 50
  | 0, 9 => some 54
  | 0, 10 => some 55
  | 1, 7 => some 2
  | 1, 8 => some 3
  | 1, 9 => some 4
  | 1, 10 => some 5
  | 1, 11 => some 6
  | 1, 12 => some 7
  | 14, 7 => some 15
  | 14, 8 => some 16
  | 14, 9 => some 17
  | 14, 10 => some 18
  | 14, 11 => some 19
  | 14, 12 => some 20
  | 7, 0 => some 8
  | 7, 1 => some 9
  | 7, 2 => some 10
  | 7, 3 => some 11
  | 20, 0 => some 21
  | 20, 1 => some 22
  | 20, 2 => some 23
  | 20, 3 => some 24
  | 25, 0 => some 26
  | 25, 1 => some 27
  | 25, 2 => some 28
  | 25, 3 => some 29
  | 30, 0 => some 31
  | 30, 1 => some 32
  | 30, 2 => some 33
  | 30, 3 => some 34
  | 35, 0 => some 36
  | 35, 1 => some 37
  | 35, 2 => some 38
  | 35, 3 => some 39
  | 40, 0 => some 41
  | 40, 1 => some 42
  | 40, 2 => some 43
  | 40, 3 => some 44
  | 12, 0 => some 13
  | 45, 3 => some 48
  | 45, 4 => some 49
  | 50, 0 => some 51
  | 50, 1 => some 52
  | 50, 2 => some 53
  | 56, 4 => some 57
  | 56, 6 => some 58
  | 56, 8 => some 59
  | 56, 9 => some 60
  | 56, 10 => some 61
  | 56, 11 => some 62
  | 56, 13 => some 63
  | 56, 19 => some 64
  | 56, 21 => some 65
  | 56, 22 => some 66
  | 56, 23 => some 67
  | 56, 24 => some 68
  | 56, 27 => some 69
  | 56, 29 => some 70
  | 56, 30 => some 71
  | 56, 31 => some 72
  | 56, 32 => some 73
  | 56, 33 => some 74
  | 56, 34 => some 75
  | 56, 36 => some 76
  | 56, 37 => some 77
  | 56, 38 => some 78
  | 56, 40 => some 79
  | 56, 41 => some 80
  | 56, 42 => some 81
  | 56, 43 => some 82
  | _, _ => none
def lyR (tw : Nat) (tp : Bool) : am_R := fun a j => if a = 0 ∧ j = 0 then some tw else if a = 12 ∧ j = 3 then some (15 - tw) else if a = 45 ∧ j = 0 then some (if tp = true then 83 else 46) else if a = 45 ∧ j = 1 then some (if tp = true then 84 else 47) else lyR0 a j
abbrev ly (tw : Nat) (tp : Bool) (D : am_M) : am_H := (lyS tp, lyR tw tp, D)
def lyM (M : Nat) : Prop := M = 7 ∨ M = 20 ∨ M = 25 ∨ M = 30 ∨ M = 35 ∨ M = 40
def lyT (T : Nat) : Prop := T = 1 ∨ T = 14
theorem lyM_7 : lyM 7 := by unfold lyM; omega
theorem lyM_20 : lyM 20 := by unfold lyM; omega
theorem lyM_25 : lyM 25 := by unfold lyM; omega
theorem lyM_30 : lyM 30 := by unfold lyM; omega
theorem lyM_35 : lyM 35 := by unfold lyM; omega
theorem lyM_40 : lyM 40 := by unfold lyM; omega
theorem lyT_o {T : Nat} (h : lyT T) : lyT (15 - T) := by unfold lyT at *; omega
theorem lyT_m {T : Nat} (h : lyT T) : lyM (T + 6) := by unfold lyT at h; unfold lyM; omega
theorem lyM_s {tp : Bool} {M : Nat} (h : lyM M) : (lyS tp)[M]? = some (4, 0) := by rcases h with rfl | rfl | rfl | rfl | rfl | rfl <;> rfl
theorem lyM_a0 {tp : Bool} {M : Nat} (h : lyM M) : (lyS tp)[M + 1]? = some (0, 5) := by rcases h with rfl | rfl | rfl | rfl | rfl | rfl <;> rfl
theorem lyM_r0 {tw : Nat} {tp : Bool} {M : Nat} (h : lyM M) : lyR tw tp M 0 = some (M + 1) := by rcases h with rfl | rfl | rfl | rfl | rfl | rfl <;> rfl
theorem lyM_a1 {tp : Bool} {M : Nat} (h : lyM M) : (lyS tp)[M + 2]? = some (0, 5) := by rcases h with rfl | rfl | rfl | rfl | rfl | rfl <;> rfl
theorem lyM_r1 {tw : Nat} {tp : Bool} {M : Nat} (h : lyM M) : lyR tw tp M 1 = some (M + 2) := by rcases h with rfl | rfl | rfl | rfl | rfl | rfl <;> rfl
theorem lyM_a2 {tp : Bool} {M : Nat} (h : lyM M) : (lyS tp)[M + 3]? = some (0, 5) := by rcases h with rfl | rfl | rfl | rfl | rfl | rfl <;> rfl
theorem lyM_r2 {tw : Nat} {tp : Bool} {M : Nat} (h : lyM M) : lyR tw tp M 2 = some (M + 3) := by rcases h with rfl | rfl | rfl | rfl | rfl | rfl <;> rfl
theorem lyM_a3 {tp : Bool} {M : Nat} (h : lyM M) : (lyS tp)[M + 4]? = some (0, 120) := by rcases h with rfl | rfl | rfl | rfl | rfl | rfl <;> rfl
theorem lyM_r3 {tw : Nat} {tp : Bool} {M : Nat} (h : lyM M) : lyR tw tp M 3 = some (M + 4) := by rcases h with rfl | rfl | rfl | rfl | rfl | rfl <;> rfl
theorem lyT_s {tp : Bool} {T : Nat} (h : lyT T) : (lyS tp)[T]? = some (6, 0) := by rcases h with rfl | rfl <;> rfl
theorem lyT_a7 {tp : Bool} {T : Nat} (h : lyT T) : (lyS tp)[T + 1]? = some (0, 4) := by rcases h with rfl | rfl <;> rfl
theorem lyT_r7 {tw : Nat} {tp : Bool} {T : Nat} (h : lyT T) : lyR tw tp T 7 = some (T + 1) := by rcases h with rfl | rfl <;> rfl
theorem lyT_a8 {tp : Bool} {T : Nat} (h : lyT T) : (lyS tp)[T + 2]? = some (0, 8) := by rcases h with rfl | rfl <;> rfl
theorem lyT_r8 {tw : Nat} {tp : Bool} {T : Nat} (h : lyT T) : lyR tw tp T 8 = some (T + 2) := by rcases h with rfl | rfl <;> rfl
theorem lyT_a9 {tp : Bool} {T : Nat} (h : lyT T) : (lyS tp)[T + 3]? = some (0, 8) := by rcases h with rfl | rfl <;> rfl
theorem lyT_r9 {tw : Nat} {tp : Bool} {T : Nat} (h : lyT T) : lyR tw tp T 9 = some (T + 3) := by rcases h with rfl | rfl <;> rfl
theorem lyT_a10 {tp : Bool} {T : Nat} (h : lyT T) : (lyS tp)[T + 4]? = some (0, 8) := by rcases h with rfl | rfl <;> rfl
theorem lyT_r10 {tw : Nat} {tp : Bool} {T : Nat} (h : lyT T) : lyR tw tp T 10 = some (T + 4) := by rcases h with rfl | rfl <;> rfl
theorem lyT_a11 {tp : Bool} {T : Nat} (h : lyT T) : (lyS tp)[T + 5]? = some (0, 5) := by rcases h with rfl | rfl <;> rfl
theorem lyT_r11 {tw : Nat} {tp : Bool} {T : Nat} (h : lyT T) : lyR tw tp T 11 = some (T + 5) := by rcases h with rfl | rfl <;> rfl
theorem lyT_r12 {tw : Nat} {tp : Bool} {T : Nat} (h : lyT T) : lyR tw tp T 12 = some (T + 6) := by rcases h with rfl | rfl <;> rfl
def am_tbl (c : ByteArray) (t : List (Nat × Instr × Nat)) : Bool := t.all (fun q => decide (decode c q.1 = .ok q.2))
theorem am_dk {c : ByteArray} {t : List (Nat × Instr × Nat)} (h : am_tbl c t = true) (k : Nat) {pc n : Nat} {i : Instr} (hk : t[k]? = some (pc, i, n)) : decode c pc = .ok (i, n) := by
  have h1 := List.all_eq_true.mp h (pc, i, n) (List.mem_of_getElem? hk)
  simp only [decide_eq_true_eq] at h1
  exact h1
def am_N : Nat := 100000
def am_in (i : Int32) (n : Nat) : Bool := decide (0 ≤ i) && decide (i.toNatClampNeg < n)
theorem am_in_vp {i : Int32} {n : Nat} (h : am_in i n = true) : vp_in i n := by
  simp only [am_in, Bool.and_eq_true, decide_eq_true_eq] at h
  intro q
  rcases q with q | q
  · exact absurd h.1 (Int32.not_le.mpr q)
  · omega
theorem am_chk {α : Type} {c : Prop} [Decidable c] {a : Option α} {x : α} (h : (if c then a else none) = some x) : c ∧ a = some x := by
  by_cases hc : c
  · rw [if_pos hc] at h; exact ⟨hc, h⟩
  · rw [if_neg hc] at h; cases h
theorem am_chn {α : Type} {c : Prop} [Decidable c] {a : Option α} {x : α} (h : (if c then none else a) = some x) : ¬ c ∧ a = some x := by
  by_cases hc : c
  · rw [if_pos hc] at h; cases h
  · rw [if_neg hc] at h; exact ⟨hc, h⟩
theorem am_bind {α β : Type} {o : Option α} {f : α → Option β} {x : β} (h : o.bind f = some x) : ∃ a, o = some a ∧ f a = some x := Option.bind_eq_some_iff.mp h
theorem am_r2 {Φ : am_Ph} {tw : Nat} {tp : Bool} {v r : Int32} {m D' : am_M} (h : some (v, m) = some (r, D')) (hΦ : Φ (some (.int r)) (ly tw tp D')) : Φ (some (.int v)) (ly tw tp m) := by
  cases h; exact hΦ
theorem am_r2l {Φ : am_Ph} {tw : Nat} {tp : Bool} {v r : Int64} {m D' : am_M} (h : some (v, m) = some (r, D')) (hΦ : Φ (some (.long r)) (ly tw tp D')) : Φ (some (.long v)) (ly tw tp m) := by
  cases h; exact hΦ
theorem am_r0 {Φ : am_Ph} {tw : Nat} {tp : Bool} {m D' : am_M} (h : some m = some D') (hΦ : Φ none (ly tw tp D')) : Φ none (ly tw tp m) := by
  cases h; exact hΦ
theorem am_rm0 {Φ : am_Ph} {tw : Nat} {t : Bool} {m : am_M} {q : Bool × am_M} (h : some (t, m) = some q) (hΦ : Φ none (ly tw q.1 q.2)) : Φ none (ly tw t m) := by
  cases h; exact hΦ
theorem am_rm2 {Φ : am_Ph} {tw : Nat} {t : Bool} {v : Int32} {m : am_M} {q : Int32 × Bool × am_M} (h : some (v, t, m) = some q) (hΦ : Φ (some (.int q.1)) (ly tw q.2.1 q.2.2)) : Φ (some (.int v)) (ly tw t m) := by
  cases h; exact hΦ
theorem am_rm3 {Φ : am_Ph} {t : Nat} {tp : Bool} {v : Int32} {m : am_M} {q : Int32 × Nat × am_M} (h : some (v, t, m) = some q) (hΦ : Φ (some (.int q.1)) (ly q.2.1 tp q.2.2)) : Φ (some (.int v)) (ly t tp m) := by
  cases h; exact hΦ
theorem lyT_lt {tp : Bool} {T : Nat} (h : lyT T) : T < (lyS tp).length := by
  rcases h with rfl | rfl <;> cases tp <;> decide
theorem lyM_ite {c : Prop} [Decidable c] : lyM (if c then 35 else 40) := by
  split
  · exact lyM_35
  · exact lyM_40
section LYR
variable {E : am_EV} {cc : ByteArray} {cs : Nat × Nat} {pc : Nat} {L : List (Nat × Value)} {st : List Value} {tw : Nat} {tp : Bool} {D : am_M} {h : am_H} {h1 : am_H}
theorem am_kki {r : Int32} {cs' : Nat × Nat} {pc' : Nat} (k : am_Ex E cc cs' pc' L (.int r :: st) h1) : ∀ v' h', am_is (some (.int r)) h1 v' h' → am_Ex E cc cs' pc' L (v'.toList ++ st) h' := by
  rintro v' h' ⟨rfl, rfl⟩
  exact k
theorem am_kkl {r : Int64} {cs' : Nat × Nat} {pc' : Nat} (k : am_Ex E cc cs' pc' L (.long r :: st) h1) : ∀ v' h', am_is (some (.long r)) h1 v' h' → am_Ex E cc cs' pc' L (v'.toList ++ st) h' := by
  rintro v' h' ⟨rfl, rfl⟩
  exact k
theorem am_kkr {r : Nat} {cs' : Nat × Nat} {pc' : Nat} (k : am_Ex E cc cs' pc' L (.ref r :: st) h1) : ∀ v' h', am_is (some (.ref r)) h1 v' h' → am_Ex E cc cs' pc' L (v'.toList ++ st) h' := by
  rintro v' h' ⟨rfl, rfl⟩
  exact k
theorem am_kkv {cs' : Nat × Nat} {pc' : Nat} (k : am_Ex E cc cs' pc' L st h1) : ∀ v' h', am_is none h1 v' h' → am_Ex E cc cs' pc' L (v'.toList ++ st) h' := by
  rintro v' h' ⟨rfl, rfl⟩
  exact k
theorem ly_geti {a c z k idx : Nat} (hs : (lyS tp)[a]? = some (c + 2, z)) (hf : am_FL (am_eo E) idx c k) (ht : am_isr (am_cy c k) = false) (hd : decode cc pc = .ok (.getfield idx, 3)) (kk : am_Ex E cc cs (pc + 3) L (.int (D a k) :: st) (ly tw tp D)) : am_Ex E cc cs pc L (.ref a :: st) (ly tw tp D) := am_geti hs hf ht hd kk
theorem ly_getr {a c z k idx b : Nat} (hs : (lyS tp)[a]? = some (c + 2, z)) (hf : am_FL (am_eo E) idx c k) (ht : am_isr (am_cy c k) = true) (hr : lyR tw tp a k = some b) (hd : decode cc pc = .ok (.getfield idx, 3)) (kk : am_Ex E cc cs (pc + 3) L (.ref b :: st) (ly tw tp D)) : am_Ex E cc cs pc L (.ref a :: st) (ly tw tp D) := am_getr hs hf ht hr hd kk
theorem ly_puti {a c z k idx : Nat} {x : Int32} (hs : (lyS tp)[a]? = some (c + 2, z)) (hf : am_FL (am_eo E) idx c k) (ht : am_cy c k = .int) (hfin : (am_ct c k).2.2.2 = false) (hd : decode cc pc = .ok (.putfield idx, 3)) (kk : am_Ex E cc cs (pc + 3) L st (ly tw tp (am_up D a k x))) : am_Ex E cc cs pc L (.int x :: .ref a :: st) (ly tw tp D) := am_puti hs hf ht hfin hd kk
theorem ly_putz {a c z k idx : Nat} {x : Int32} (hx : x = 0 ∨ x = 1) (hs : (lyS tp)[a]? = some (c + 2, z)) (hf : am_FL (am_eo E) idx c k) (ht : am_cy c k = .boolean) (hfin : (am_ct c k).2.2.2 = false) (hd : decode cc pc = .ok (.putfield idx, 3)) (kk : am_Ex E cc cs (pc + 3) L st (ly tw tp (am_up D a k x))) : am_Ex E cc cs pc L (.int x :: .ref a :: st) (ly tw tp D) := am_putz hx hs hf ht hfin hd kk
theorem ly_iald {a n k : Nat} {i : Int32} (hs : (lyS tp)[a]? = some (0, n)) (hi : vp_in i n) (hk : i.toNatClampNeg = k) (hd : decode cc pc = .ok (.iaload, 1)) (kk : am_Ex E cc cs (pc + 1) L (.int (D a k) :: st) (ly tw tp D)) : am_Ex E cc cs pc L (.int i :: .ref a :: st) (ly tw tp D) := am_iald hs hi hd (by rw [hk]; exact kk)
theorem ly_bald {a n k : Nat} {i : Int32} (hs : (lyS tp)[a]? = some (1, n)) (hi : vp_in i n) (hk : i.toNatClampNeg = k) (hd : decode cc pc = .ok (.baload, 1)) (kk : am_Ex E cc cs (pc + 1) L (.int (D a k) :: st) (ly tw tp D)) : am_Ex E cc cs pc L (.int i :: .ref a :: st) (ly tw tp D) := am_bald hs hi hd (by rw [hk]; exact kk)
theorem ly_iast {a n k : Nat} {i x : Int32} (hs : (lyS tp)[a]? = some (0, n)) (hi : vp_in i n) (hk : i.toNatClampNeg = k) (hd : decode cc pc = .ok (.iastore, 1)) (kk : am_Ex E cc cs (pc + 1) L st (ly tw tp (am_up D a k x))) : am_Ex E cc cs pc L (.int x :: .int i :: .ref a :: st) (ly tw tp D) := am_iast hs hi hd (by rw [hk]; exact kk)
theorem ly_bast {a n k : Nat} {i x : Int32} (hs : (lyS tp)[a]? = some (1, n)) (hi : vp_in i n) (hk : i.toNatClampNeg = k) (hd : decode cc pc = .ok (.bastore, 1)) (kk : am_Ex E cc cs (pc + 1) L st (ly tw tp (am_up D a k (vp_nar .boolean x)))) : am_Ex E cc cs pc L (.int x :: .int i :: .ref a :: st) (ly tw tp D) := am_bast hs hi hd (by rw [hk]; exact kk)
theorem ly_alen {a n : Nat} (hs : (lyS tp)[a]? = some (0, n)) (hd : decode cc pc = .ok (.arraylength, 1)) (kk : am_Ex E cc cs (pc + 1) L (.int (Int32.ofNat n) :: st) (ly tw tp D)) : am_Ex E cc cs pc L (.ref a :: st) (ly tw tp D) := am_alen hs hd kk
theorem ly_copy {idx a b n n1 k : Nat} {x : Int32} (hl' : am_LC (am_eo E) idx) (h0 : (lyS tp)[b]? = some (0, n)) (h1 : (lyS tp)[a]? = some (0, n1)) (hx0 : ¬ x < 0) (hx1 : x.toNatClampNeg ≤ n) (hx2 : x.toNatClampNeg ≤ n1) (hf : 1 ≤ (am_er E).frames) (hlo : (st.map fun v => v.category).sum + (nativeFrameWords "java/lang/System" "arraycopy" 5 + 11) ≤ (am_er E).locals) (hk : x.toNatClampNeg = k) (hd : decode cc pc = .ok (.invokestatic idx, 3)) (kk : am_Ex E cc cs (pc + 3) L st (ly tw tp (am_row D a (va_cpy (D b) (D a) 0 0 k)))) : am_Ex E cc cs pc L (.int x :: .int 0 :: .ref a :: .int 0 :: .ref b :: st) (ly tw tp D) := am_copy hl' h0 h1 hx0 hx1 hx2 hf hlo hd (by rw [hk]; exact kk)
theorem am_cs0 {cs : Nat × Nat} {M : am_D} (hz : (am_rm M).cells = 0 ∧ (am_rm M).slots = 0) : (cs.1 + (am_rm M).cells, cs.2 + (am_rm M).slots) = cs := by
  rw [hz.1, hz.2]; rfl
theorem ly_cV {M : am_D} {Φ : am_Ph} {As : List Value} {b c z n idx : Nat} (hM : am_CT (am_el E) M false (.ref b :: As) (ly tw tp D) Φ) (hs : (lyS tp)[b]? = some (c + 2, z)) (hc : c < 7) (hcn : am_cn c = M.1.cls) (hw : Cond.methodLink (am_eo E) idx M.1 ∈ am_TB ∧ Cond.instanceMethod M.1 ∈ am_TB ∧ Cond.selects M.1.cls M.1 M.1 ∈ am_TB) (hld : am_LD M n) (hn : As.length = n) (hR : am_fit E M) (hst : (st.map fun v => v.category).sum ≤ 8) (hz : (am_rm M).cells = 0 ∧ (am_rm M).slots = 0) (hcs : am_fcs E M cs) (hd : decode cc pc = .ok (.invokevirtual idx, 3))
    (kk : ∀ v h', Φ v h' → am_Ex E cc cs (pc + 3) L (v.toList ++ st) h') : am_Ex E cc cs pc L (As.reverse ++ .ref b :: st) (ly tw tp D) := am_callV hM hs hc hcn hw hld hn hR hst hcs hd (by rw [am_cs0 hz]; exact kk)
theorem am_cS {M : am_D} {Φ : am_Ph} {As : List Value} {n idx : Nat} (hM : am_CT (am_el E) M false As h Φ) (hw : Cond.methodLink (am_eo E) idx M.1 ∈ am_TB ∧ Cond.static M.1 ∈ am_TB) (hld : am_LD M n) (hn : As.length = n) (hR : am_fit E M) (hst : (st.map fun v => v.category).sum ≤ 8) (hz : (am_rm M).cells = 0 ∧ (am_rm M).slots = 0) (hcs : am_fcs E M cs) (hd : decode cc pc = .ok (.invokestatic idx, 3))
    (kk : ∀ v h', Φ v h' → am_Ex E cc cs (pc + 3) L (v.toList ++ st) h') : am_Ex E cc cs pc L (As.reverse ++ st) h := am_callS hM hw hld hn hR hst hcs hd (by rw [am_cs0 hz]; exact kk)
theorem am_cSN {M : am_D} {Φ : am_Ph} {As : List Value} {n idx : Nat} {host : String} (hM : am_CT (am_el E) M false As h Φ) (hw : (am_eo E, idx, M.1, host) ∈ am_nest ∧ Cond.static M.1 ∈ am_TB) (hld : am_LD M n) (hn : As.length = n) (hR : am_fit E M) (hst : (st.map fun v => v.category).sum ≤ 8) (hz : (am_rm M).cells = 0 ∧ (am_rm M).slots = 0) (hcs : am_fcs E M cs) (hd : decode cc pc = .ok (.invokestatic idx, 3))
    (kk : ∀ v h', Φ v h' → am_Ex E cc cs (pc + 3) L (v.toList ++ st) h') : am_Ex E cc cs pc L (As.reverse ++ st) h := am_callSN hM hw hld hn hR hst hcs hd (by rw [am_cs0 hz]; exact kk)
end LYR
end
section
abbrev m_X5_isWithin : am_D := (yX5_isWithin, prog_1_method_36_code, 3, (some .boolean), { frames := 0, cells := 0, slots := 0, locals := 0 })
theorem ld_X5_isWithin : am_LD m_X5_isWithin 3 := ⟨(am_tb 79 (by decide +kernel) (by decide +kernel)), (am_tb 399 (by decide +kernel) (by decide +kernel)), by decide, by decide, by decide +kernel⟩
def tb_X5_isWithin : List (Nat × Instr × Nat) := [(0, .iload_n 0, 1), (1, .iload_n 1, 1), (2, .if_icmp .lt 12, 3), (5, .iload_n 0, 1), (6, .iload_n 2, 1), (7, .if_icmp .gt 7, 3), (10, .iconst 1, 1), (11, .goto 4, 3), (14, .iconst 0, 1), (15, .ireturn, 1)]
theorem tk_X5_isWithin : am_tbl prog_1_method_36_code tb_X5_isWithin = true := by decide +kernel
def f_X5_isWithin (x0 : Int32) (x1 : Int32) (x2 : Int32) : Int32 := if x0 < x1 then 0 else if x2 < x0 then 0 else 1
theorem zb_X5_isWithin (x0 : Int32) (x1 : Int32) (x2 : Int32) : f_X5_isWithin x0 x1 x2 = 0 ∨ f_X5_isWithin x0 x1 x2 = 1 := by
  unfold f_X5_isWithin
  repeat' split
  all_goals first | exact Or.inl rfl | exact Or.inr rfl
theorem ct_X5_isWithin {l : Launch} (x0 : Int32) (x1 : Int32) (x2 : Int32) (h : am_H) : am_CT l m_X5_isWithin false [.int x0, .int x1, .int x2] h (am_is (some (.int (f_X5_isWithin x0 x1 x2))) h) := by
  refine am_CT.of (by decide) (Nat.le_of_ble_eq_true rfl) ?_
  show am_Ex _ _ _ 0 [(0, .int x0), (1, .int x1), (2, .int x2)] [] _
  refine am_iload_n (j := 0) (am_dk tk_X5_isWithin 0 rfl) rfl rfl ?_
  refine am_iload_n (j := 1) (am_dk tk_X5_isWithin 1 rfl) rfl rfl ?_
  refine am_icmp_lt (tgt := 14) (am_dk tk_X5_isWithin 2 rfl) (by decide) (fun hc2 => ?_) (fun hc2 => ?_)
  · skip
    refine am_iconst (v := 0) (am_dk tk_X5_isWithin 8 rfl) (by decide) ?_
    exact am_zret (Or.inl rfl) rfl ⟨by simp only [f_X5_isWithin, if_pos hc2], rfl⟩ ⟨Nat.le_of_ble_eq_true rfl, Nat.le_of_ble_eq_true rfl⟩ (am_dk tk_X5_isWithin 9 rfl)
  · skip
    refine am_iload_n (j := 0) (am_dk tk_X5_isWithin 3 rfl) rfl rfl ?_
    refine am_iload_n (j := 2) (am_dk tk_X5_isWithin 4 rfl) rfl rfl ?_
    refine am_icmp_gt (tgt := 14) (am_dk tk_X5_isWithin 5 rfl) (by decide) (fun hc7 => ?_) (fun hc7 => ?_)
    · skip
      refine am_iconst (v := 0) (am_dk tk_X5_isWithin 8 rfl) (by decide) ?_
      exact am_zret (Or.inl rfl) rfl ⟨by simp only [f_X5_isWithin, if_neg hc2, if_pos hc7], rfl⟩ ⟨Nat.le_of_ble_eq_true rfl, Nat.le_of_ble_eq_true rfl⟩ (am_dk tk_X5_isWithin 9 rfl)
    · skip
      refine am_iconst (v := 1) (am_dk tk_X5_isWithin 6 rfl) (by decide) ?_
      refine am_goto (tgt := 15) (am_dk tk_X5_isWithin 7 rfl) (by decide) ?_
      exact am_zret (Or.inr rfl) rfl ⟨by simp only [f_X5_isWithin, if_neg hc2, if_neg hc7], rfl⟩ ⟨Nat.le_of_ble_eq_true rfl, Nat.le_of_ble_eq_true rfl⟩ (am_dk tk_X5_isWithin 9 rfl)
abbrev m_X5_isIn : am_D := (yX5_isIn, prog_1_method_37_code, 2, (some .boolean), { frames := 0, cells := 0, slots := 0, locals := 0 })
theorem ld_X5_isIn : am_LD m_X5_isIn 2 := ⟨(am_tb 79 (by decide +kernel) (by decide +kernel)), (am_tb 479 (by decide +kernel) (by decide +kernel)), by decide, by decide, by decide +kernel⟩
def tb_X5_isIn : List (Nat × Instr × Nat) := [(0, .iload_n 0, 1), (1, .iload_n 1, 1), (2, .ishr, 1), (3, .iconst 1, 1), (4, .iand, 1), (5, .iconst 1, 1), (6, .if_icmp .ne 7, 3), (9, .iconst 1, 1), (10, .goto 4, 3), (13, .iconst 0, 1), (14, .ireturn, 1)]
theorem tk_X5_isIn : am_tbl prog_1_method_37_code tb_X5_isIn = true := by decide +kernel
def f_X5_isIn (x0 : Int32) (x1 : Int32) : Int32 := if ((x0 >>> (x1 &&& 31)) &&& 1) = 1 then 1 else 0
theorem zb_X5_isIn (x0 : Int32) (x1 : Int32) : f_X5_isIn x0 x1 = 0 ∨ f_X5_isIn x0 x1 = 1 := by
  unfold f_X5_isIn
  repeat' split
  all_goals first | exact Or.inl rfl | exact Or.inr rfl
theorem ct_X5_isIn {l : Launch} (x0 : Int32) (x1 : Int32) (h : am_H) : am_CT l m_X5_isIn false [.int x0, .int x1] h (am_is (some (.int (f_X5_isIn x0 x1))) h) := by
  refine am_CT.of (by decide) (Nat.le_of_ble_eq_true rfl) ?_
  show am_Ex _ _ _ 0 [(0, .int x0), (1, .int x1)] [] _
  refine am_iload_n (j := 0) (am_dk tk_X5_isIn 0 rfl) rfl rfl ?_
  refine am_iload_n (j := 1) (am_dk tk_X5_isIn 1 rfl) rfl rfl ?_
  refine am_ishr (am_dk tk_X5_isIn 2 rfl) ?_
  refine am_iconst (v := 1) (am_dk tk_X5_isIn 3 rfl) (by decide) ?_
  refine am_iand (am_dk tk_X5_isIn 4 rfl) ?_
  refine am_iconst (v := 1) (am_dk tk_X5_isIn 5 rfl) (by decide) ?_
  refine am_icmp_ne (tgt := 13) (am_dk tk_X5_isIn 6 rfl) (by decide) (fun hc6 => ?_) (fun hc6 => ?_)
  · skip
    refine am_iconst (v := 0) (am_dk tk_X5_isIn 9 rfl) (by decide) ?_
    exact am_zret (Or.inl rfl) rfl ⟨by simp only [f_X5_isIn, if_neg hc6], rfl⟩ ⟨Nat.le_of_ble_eq_true rfl, Nat.le_of_ble_eq_true rfl⟩ (am_dk tk_X5_isIn 10 rfl)
  · skip
    refine am_iconst (v := 1) (am_dk tk_X5_isIn 7 rfl) (by decide) ?_
    refine am_goto (tgt := 14) (am_dk tk_X5_isIn 8 rfl) (by decide) ?_
    exact am_zret (Or.inr rfl) rfl ⟨by simp only [f_X5_isIn, if_pos hc6], rfl⟩ ⟨Nat.le_of_ble_eq_true rfl, Nat.le_of_ble_eq_true rfl⟩ (am_dk tk_X5_isIn 10 rfl)
abbrev m_X5_leastOf : am_D := (yX5_leastOf, prog_1_method_38_code, 2, (some .int), { frames := 1, cells := 0, slots := 0, locals := 21 })
theorem ld_X5_leastOf : am_LD m_X5_leastOf 1 := ⟨(am_tb 79 (by decide +kernel) (by decide +kernel)), (am_tb 605 (by decide +kernel) (by decide +kernel)), by decide, by decide, by decide +kernel⟩
def tb_X5_leastOf : List (Nat × Instr × Nat) := [(0, .iconst 0, 1), (1, .istore_n 1, 1), (2, .iload_n 1, 1), (3, .bipush 31, 2), (5, .if_icmp .ge 19, 3), (8, .iload_n 0, 1), (9, .iload_n 1, 1), (10, .invokestatic 172, 3), (13, .ifCond .eq 5, 3), (16, .iload_n 1, 1), (17, .ireturn, 1), (18, .iinc 1 1, 3), (21, .goto (-19), 3), (24, .iconst (-1), 1), (25, .ireturn, 1)]
theorem tk_X5_leastOf : am_tbl prog_1_method_38_code tb_X5_leastOf = true := by decide +kernel
def b_X5_leastOf_2 : Nat → Int32 → Int32 → am_M → Option (Int32 × am_M)
  | 0, _, _, _ => none
  | n + 1, x0, x1, D => if 31 ≤ x1 then some ((-1), D) else if (f_X5_isIn x0 x1) = 0 then b_X5_leastOf_2 n x0 (x1 + 1) D else some (x1, D)
def f_X5_leastOf (x0 : Int32) (D : am_M) : Option (Int32 × am_M) := b_X5_leastOf_2 am_N x0 0 D
theorem bx_X5_leastOf_2 {l : Launch} {h0 : am_H} {Φ : am_Ph} {tw : Nat} {tp : Bool}  {r : Int32} {D' : am_M} (hΦ : Φ (some (.int r)) (ly tw tp D')) : ∀ (n : Nat) (x0 : Int32) (x1 : Int32) (D : am_M), b_X5_leastOf_2 n x0 x1 D = some (r, D') → am_Ex (am_E l m_X5_leastOf false h0 Φ) prog_1_method_38_code (0, 0) 2 [(0, .int x0), (1, .int x1)] [] (ly tw tp D) := by
  intro n
  induction n with
  | zero =>
    intro x0 x1 D h
    exact absurd h (by simp [b_X5_leastOf_2])
  | succ n ih =>
    intro x0 x1 D h
    rw [b_X5_leastOf_2] at h
    refine am_iload_n (j := 1) (am_dk tk_X5_leastOf 2 rfl) rfl rfl ?_
    refine am_bipush (v := 31) (am_dk tk_X5_leastOf 3 rfl) (by decide) ?_
    refine am_icmp_ge (tgt := 24) (am_dk tk_X5_leastOf 4 rfl) (by decide) (fun hc5 => ?_) (fun hc5 => ?_)
    · rw [if_pos hc5] at h
      refine am_iconst (v := (-1)) (am_dk tk_X5_leastOf 13 rfl) (by decide) ?_
      exact am_iret rfl (am_r2 h hΦ) ⟨Nat.le_of_ble_eq_true rfl, Nat.le_of_ble_eq_true rfl⟩ (am_dk tk_X5_leastOf 14 rfl)
    · rw [if_neg hc5] at h
      refine am_iload_n (j := 0) (am_dk tk_X5_leastOf 5 rfl) rfl rfl ?_
      refine am_iload_n (j := 1) (am_dk tk_X5_leastOf 6 rfl) rfl rfl ?_
      refine am_cS (M := m_X5_isIn) (As := [.int x0, .int x1]) (st := []) (ct_X5_isIn _ _ _) ml_X5_172 ld_X5_isIn rfl ⟨Nat.le_of_ble_eq_true rfl, Nat.le_of_ble_eq_true rfl⟩ (Nat.le_of_ble_eq_true rfl) ⟨rfl, rfl⟩ ⟨Nat.le_of_ble_eq_true rfl, Nat.le_of_ble_eq_true rfl⟩ (am_dk tk_X5_leastOf 7 rfl) (am_kki ?_)
      refine am_if_eq (tgt := 18) (am_dk tk_X5_leastOf 8 rfl) (by decide) (fun hc13 => ?_) (fun hc13 => ?_)
      · rw [if_pos hc13] at h
        refine am_iinc (j := 1) (v := x1 + 1) (L' := [(1, .int (x1 + 1)), (0, .int x0)]) (am_dk tk_X5_leastOf 11 rfl) rfl rfl (Nat.le_of_ble_eq_true rfl) rfl ?_
        refine am_goto (tgt := 2) (am_dk tk_X5_leastOf 12 rfl) (by decide) ?_
        refine am_ls [1, 0] rfl ?_
        exact ih _ _ _ h
      · rw [if_neg hc13] at h
        refine am_iload_n (j := 1) (am_dk tk_X5_leastOf 9 rfl) rfl rfl ?_
        exact am_iret rfl (am_r2 h hΦ) ⟨Nat.le_of_ble_eq_true rfl, Nat.le_of_ble_eq_true rfl⟩ (am_dk tk_X5_leastOf 10 rfl)
theorem ct_X5_leastOf {l : Launch} {tw : Nat} {tp : Bool}  {x0 : Int32} {r : Int32} {D D' : am_M} (h : f_X5_leastOf x0 D = some (r, D')) : am_CT l m_X5_leastOf false [.int x0] (ly tw tp D) (am_is (some (.int r)) (ly tw tp D')) := by
  have hΦ : am_is (some (.int r)) (ly tw tp D') (some (.int r)) (ly tw tp D') := ⟨rfl, rfl⟩
  refine am_CT.of (by decide) (Nat.le_of_ble_eq_true rfl) ?_
  show am_Ex _ _ _ 0 [(0, .int x0)] [] _
  rw [f_X5_leastOf] at h
  refine am_iconst (v := 0) (am_dk tk_X5_leastOf 0 rfl) (by decide) ?_
  refine am_istore_n (L' := [(1, .int 0), (0, .int x0)]) (am_dk tk_X5_leastOf 1 rfl) rfl (Nat.le_of_ble_eq_true rfl) rfl ?_
  refine am_ls [1, 0] rfl ?_
  exact bx_X5_leastOf_2  hΦ am_N _ _ _ h
abbrev m_J7_fill : am_D := ((⟨"java/util/Arrays", "fill", "([II)V"⟩ : MethodName), prog_11_method_103_code, 4, none, { frames := 0, cells := 0, slots := 0, locals := 0 })
theorem ld_J7_fill : am_LD m_J7_fill 2 := ⟨(am_tb 86 (by decide +kernel) (by decide +kernel)), (am_tb 420 (by decide +kernel) (by decide +kernel)), by decide, by decide, by decide +kernel⟩
def tb_J7_fill : List (Nat × Instr × Nat) := [(0, .iconst 0, 1), (1, .istore_n 2, 1), (2, .aload_n 0, 1), (3, .arraylength, 1), (4, .istore_n 3, 1), (5, .iload_n 2, 1), (6, .iload_n 3, 1), (7, .if_icmp .ge 13, 3), (10, .aload_n 0, 1), (11, .iload_n 2, 1), (12, .iload_n 1, 1), (13, .iastore, 1), (14, .iinc 2 1, 3), (17, .goto (-12), 3), (20, .return_, 1)]
theorem tk_J7_fill : am_tbl prog_11_method_103_code tb_J7_fill = true := by decide +kernel
def b_J7_fill_5 (A nA : Nat) : Nat → Int32 → Int32 → Int32 → am_M → Option am_M
  | 0, _, _, _, _ => none
  | n + 1, x1, x2, x3, D => if x3 ≤ x2 then some D else if am_in x2 nA = true then b_J7_fill_5 A nA n x1 (x2 + 1) x3 (am_up D A x2.toNatClampNeg x1) else none
def f_J7_fill (A nA : Nat) (x1 : Int32) (D : am_M) : Option am_M := b_J7_fill_5 A nA am_N x1 0 (Int32.ofNat nA) D
theorem bx_J7_fill_5 {l : Launch} {h0 : am_H} {Φ : am_Ph} {tw : Nat} {tp : Bool} {A nA : Nat} (hA : (lyS tp)[A]? = some (0, nA)) {D' : am_M} (hΦ : Φ none (ly tw tp D')) : ∀ (n : Nat) (x1 : Int32) (x2 : Int32) (x3 : Int32) (D : am_M), b_J7_fill_5 A nA n x1 x2 x3 D = some D' → am_Ex (am_E l m_J7_fill false h0 Φ) prog_11_method_103_code (0, 0) 5 [(0, .ref A), (1, .int x1), (2, .int x2), (3, .int x3)] [] (ly tw tp D) := by
  intro n
  induction n with
  | zero =>
    intro x1 x2 x3 D h
    exact absurd h (by simp [b_J7_fill_5])
  | succ n ih =>
    intro x1 x2 x3 D h
    rw [b_J7_fill_5] at h
    refine am_iload_n (j := 2) (am_dk tk_J7_fill 5 rfl) rfl rfl ?_
    refine am_iload_n (j := 3) (am_dk tk_J7_fill 6 rfl) rfl rfl ?_
    refine am_icmp_ge (tgt := 20) (am_dk tk_J7_fill 7 rfl) (by decide) (fun hc7 => ?_) (fun hc7 => ?_)
    · rw [if_pos hc7] at h
      exact am_vret rfl (am_r0 h hΦ) ⟨Nat.le_of_ble_eq_true rfl, Nat.le_of_ble_eq_true rfl⟩ (am_dk tk_J7_fill 14 rfl)
    · rw [if_neg hc7] at h
      refine am_aload_n (j := 0) (am_dk tk_J7_fill 8 rfl) rfl rfl ?_
      refine am_iload_n (j := 2) (am_dk tk_J7_fill 9 rfl) rfl rfl ?_
      refine am_iload_n (j := 1) (am_dk tk_J7_fill 10 rfl) rfl rfl ?_
      obtain ⟨hi13, h⟩ := am_chk h
      refine ly_iast (k := x2.toNatClampNeg) hA (am_in_vp hi13) rfl (am_dk tk_J7_fill 11 rfl) ?_
      refine am_iinc (j := 2) (v := x2 + 1) (L' := [(2, .int (x2 + 1)), (0, .ref A), (1, .int x1), (3, .int x3)]) (am_dk tk_J7_fill 12 rfl) rfl rfl (Nat.le_of_ble_eq_true rfl) rfl ?_
      refine am_goto (tgt := 5) (am_dk tk_J7_fill 13 rfl) (by decide) ?_
      refine am_ls [1, 2, 0, 3] rfl ?_
      exact ih _ _ _ _ h
theorem ct_J7_fill {l : Launch} {tw : Nat} {tp : Bool} {A nA : Nat} (hA : (lyS tp)[A]? = some (0, nA)) {x1 : Int32} {D D' : am_M} (h : f_J7_fill A nA x1 D = some D') : am_CT l m_J7_fill false [.ref A, .int x1] (ly tw tp D) (am_is none (ly tw tp D')) := by
  have hΦ : am_is none (ly tw tp D') none (ly tw tp D') := ⟨rfl, rfl⟩
  refine am_CT.of (by decide) (Nat.le_of_ble_eq_true rfl) ?_
  show am_Ex _ _ _ 0 [(0, .ref A), (1, .int x1)] [] _
  rw [f_J7_fill] at h
  refine am_iconst (v := 0) (am_dk tk_J7_fill 0 rfl) (by decide) ?_
  refine am_istore_n (L' := [(2, .int 0), (0, .ref A), (1, .int x1)]) (am_dk tk_J7_fill 1 rfl) rfl (Nat.le_of_ble_eq_true rfl) rfl ?_
  refine am_aload_n (j := 1) (am_dk tk_J7_fill 2 rfl) rfl rfl ?_
  refine ly_alen hA (am_dk tk_J7_fill 3 rfl) ?_
  refine am_istore_n (L' := [(3, .int (Int32.ofNat nA)), (2, .int 0), (0, .ref A), (1, .int x1)]) (am_dk tk_J7_fill 4 rfl) rfl (Nat.le_of_ble_eq_true rfl) rfl ?_
  refine am_ls [2, 3, 1, 0] rfl ?_
  exact bx_J7_fill_5 hA hΦ am_N _ _ _ _ h
end
section
abbrev m_X4_clear : am_D := (yX4_clear, prog_6_method_2_code, 1, none, { frames := 1, cells := 0, slots := 0, locals := 23 })
theorem ld_X4_clear : am_LD m_X4_clear 0 := ⟨(am_tb 80 (by decide +kernel) (by decide +kernel)), (am_tb 417 (by decide +kernel) (by decide +kernel)), by decide, by decide, by decide +kernel⟩
def tb_X4_clear : List (Nat × Instr × Nat) := [(0, .aload_n 0, 1), (1, .iconst 0, 1), (2, .putfield 34, 3), (5, .aload_n 0, 1), (6, .iconst 0, 1), (7, .putfield 38, 3), (10, .aload_n 0, 1), (11, .iconst 0, 1), (12, .putfield 41, 3), (15, .aload_n 0, 1), (16, .iconst 0, 1), (17, .putfield 44, 3), (20, .aload_n 0, 1), (21, .iconst 0, 1), (22, .putfield 47, 3), (25, .aload_n 0, 1), (26, .iconst 0, 1), (27, .putfield 50, 3), (30, .aload_n 0, 1), (31, .iconst 0, 1), (32, .putfield 53, 3), (35, .aload_n 0, 1), (36, .getfield 24, 3), (39, .iconst 1, 1), (40, .invokestatic 56, 3), (43, .return_, 1)]
theorem tk_X4_clear : am_tbl prog_6_method_2_code tb_X4_clear = true := by decide +kernel
def f_X4_clear (T : Nat) (D : am_M) : Option am_M := (f_J7_fill (T + 5) 5 1 (am_up (am_up (am_up (am_up (am_up (am_up (am_up D T 0 0) T 1 0) T 2 0) T 3 0) T 4 0) T 5 0) T 6 0)).bind fun q40 => some q40
theorem ct_X4_clear {l : Launch} {tw : Nat} {tp : Bool} {T : Nat} (hT : lyT T) {D D' : am_M} (h : f_X4_clear T D = some D') : am_CT l m_X4_clear false [.ref T] (ly tw tp D) (am_is none (ly tw tp D')) := by
  have hΦ : am_is none (ly tw tp D') none (ly tw tp D') := ⟨rfl, rfl⟩
  refine am_CT.of (by decide) (Nat.le_of_ble_eq_true rfl) ?_
  show am_Ex _ _ _ 0 [(0, .ref T)] [] _
  rw [f_X4_clear] at h
  refine am_aload_n (j := 0) (am_dk tk_X4_clear 0 rfl) rfl rfl ?_
  refine am_iconst (v := 0) (am_dk tk_X4_clear 1 rfl) (by decide) ?_
  refine ly_puti (lyT_s hT) fl_X4_34 rfl rfl (am_dk tk_X4_clear 2 rfl) ?_
  refine am_aload_n (j := 0) (am_dk tk_X4_clear 3 rfl) rfl rfl ?_
  refine am_iconst (v := 0) (am_dk tk_X4_clear 4 rfl) (by decide) ?_
  refine ly_puti (lyT_s hT) fl_X4_38 rfl rfl (am_dk tk_X4_clear 5 rfl) ?_
  refine am_aload_n (j := 0) (am_dk tk_X4_clear 6 rfl) rfl rfl ?_
  refine am_iconst (v := 0) (am_dk tk_X4_clear 7 rfl) (by decide) ?_
  refine ly_puti (lyT_s hT) fl_X4_41 rfl rfl (am_dk tk_X4_clear 8 rfl) ?_
  refine am_aload_n (j := 0) (am_dk tk_X4_clear 9 rfl) rfl rfl ?_
  refine am_iconst (v := 0) (am_dk tk_X4_clear 10 rfl) (by decide) ?_
  refine ly_puti (lyT_s hT) fl_X4_44 rfl rfl (am_dk tk_X4_clear 11 rfl) ?_
  refine am_aload_n (j := 0) (am_dk tk_X4_clear 12 rfl) rfl rfl ?_
  refine am_iconst (v := 0) (am_dk tk_X4_clear 13 rfl) (by decide) ?_
  refine ly_puti (lyT_s hT) fl_X4_47 rfl rfl (am_dk tk_X4_clear 14 rfl) ?_
  refine am_aload_n (j := 0) (am_dk tk_X4_clear 15 rfl) rfl rfl ?_
  refine am_iconst (v := 0) (am_dk tk_X4_clear 16 rfl) (by decide) ?_
  refine ly_puti (lyT_s hT) fl_X4_50 rfl rfl (am_dk tk_X4_clear 17 rfl) ?_
  refine am_aload_n (j := 0) (am_dk tk_X4_clear 18 rfl) rfl rfl ?_
  refine am_iconst (v := 0) (am_dk tk_X4_clear 19 rfl) (by decide) ?_
  refine ly_puti (lyT_s hT) fl_X4_53 rfl rfl (am_dk tk_X4_clear 20 rfl) ?_
  refine am_aload_n (j := 0) (am_dk tk_X4_clear 21 rfl) rfl rfl ?_
  refine ly_getr (b := (T + 5)) (lyT_s hT) fl_X4_24 rfl (lyT_r11 hT) (am_dk tk_X4_clear 22 rfl) ?_
  refine am_iconst (v := 1) (am_dk tk_X4_clear 23 rfl) (by decide) ?_
  obtain ⟨q40, hq40, h⟩ := am_bind h
  refine am_cS (M := m_J7_fill) (As := [.ref (T + 5), .int 1]) (st := []) (ct_J7_fill (lyT_a11 hT) hq40) ml_X4_56 ld_J7_fill rfl ⟨Nat.le_of_ble_eq_true rfl, Nat.le_of_ble_eq_true rfl⟩ (Nat.le_of_ble_eq_true rfl) ⟨rfl, rfl⟩ ⟨Nat.le_of_ble_eq_true rfl, Nat.le_of_ble_eq_true rfl⟩ (am_dk tk_X4_clear 24 rfl) (am_kkv ?_)
  exact am_vret rfl (am_r0 h hΦ) ⟨Nat.le_of_ble_eq_true rfl, Nat.le_of_ble_eq_true rfl⟩ (am_dk tk_X4_clear 25 rfl)
abbrev m_X4_hasCoin : am_D := (yX4_hasCoin, prog_6_method_3_code, 3, (some .boolean), { frames := 0, cells := 0, slots := 0, locals := 0 })
theorem ld_X4_hasCoin : am_LD m_X4_hasCoin 1 := ⟨(am_tb 80 (by decide +kernel) (by decide +kernel)), (am_tb 468 (by decide +kernel) (by decide +kernel)), by decide, by decide, by decide +kernel⟩
def tb_X4_hasCoin : List (Nat × Instr × Nat) := [(0, .iconst 0, 1), (1, .istore_n 2, 1), (2, .iload_n 2, 1), (3, .aload_n 0, 1), (4, .getfield 47, 3), (7, .if_icmp .ge 21, 3), (10, .aload_n 0, 1), (11, .getfield 9, 3), (14, .iload_n 2, 1), (15, .iaload, 1), (16, .iload_n 1, 1), (17, .if_icmp .ne 5, 3), (20, .iconst 1, 1), (21, .ireturn, 1), (22, .iinc 2 1, 3), (25, .goto (-23), 3), (28, .iconst 0, 1), (29, .ireturn, 1)]
theorem tk_X4_hasCoin : am_tbl prog_6_method_3_code tb_X4_hasCoin = true := by decide +kernel
def b_X4_hasCoin_2 (T : Nat) : Nat → Int32 → Int32 → am_M → Option (Int32 × am_M)
  | 0, _, _, _ => none
  | n + 1, x1, x2, D => if (D T 4) ≤ x2 then some (0, D) else if am_in x2 4 = true then if (D (T + 1) x2.toNatClampNeg) = x1 then some (1, D) else b_X4_hasCoin_2 T n x1 (x2 + 1) D else none
def f_X4_hasCoin (T : Nat) (x1 : Int32) (D : am_M) : Option (Int32 × am_M) := b_X4_hasCoin_2 T am_N x1 0 D
theorem bx_X4_hasCoin_2 {l : Launch} {h0 : am_H} {Φ : am_Ph} {tw : Nat} {tp : Bool} {T : Nat} (hT : lyT T) {r : Int32} {D' : am_M} (hΦ : Φ (some (.int r)) (ly tw tp D')) : ∀ (n : Nat) (x1 : Int32) (x2 : Int32) (D : am_M), b_X4_hasCoin_2 T n x1 x2 D = some (r, D') → am_Ex (am_E l m_X4_hasCoin false h0 Φ) prog_6_method_3_code (0, 0) 2 [(0, .ref T), (1, .int x1), (2, .int x2)] [] (ly tw tp D) := by
  intro n
  induction n with
  | zero =>
    intro x1 x2 D h
    exact absurd h (by simp [b_X4_hasCoin_2])
  | succ n ih =>
    intro x1 x2 D h
    rw [b_X4_hasCoin_2] at h
    refine am_iload_n (j := 2) (am_dk tk_X4_hasCoin 2 rfl) rfl rfl ?_
    refine am_aload_n (j := 0) (am_dk tk_X4_hasCoin 3 rfl) rfl rfl ?_
    refine ly_geti (lyT_s hT) fl_X4_47 rfl (am_dk tk_X4_hasCoin 4 rfl) ?_
    refine am_icmp_ge (tgt := 28) (am_dk tk_X4_hasCoin 5 rfl) (by decide) (fun hc7 => ?_) (fun hc7 => ?_)
    · rw [if_pos hc7] at h
      refine am_iconst (v := 0) (am_dk tk_X4_hasCoin 16 rfl) (by decide) ?_
      exact am_zret (Or.inl rfl) rfl (am_r2 h hΦ) ⟨Nat.le_of_ble_eq_true rfl, Nat.le_of_ble_eq_true rfl⟩ (am_dk tk_X4_hasCoin 17 rfl)
    · rw [if_neg hc7] at h
      refine am_aload_n (j := 0) (am_dk tk_X4_hasCoin 6 rfl) rfl rfl ?_
      refine ly_getr (b := (T + 1)) (lyT_s hT) fl_X4_9 rfl (lyT_r7 hT) (am_dk tk_X4_hasCoin 7 rfl) ?_
      refine am_iload_n (j := 2) (am_dk tk_X4_hasCoin 8 rfl) rfl rfl ?_
      obtain ⟨hi15, h⟩ := am_chk h
      refine ly_iald (k := x2.toNatClampNeg) (lyT_a7 hT) (am_in_vp hi15) rfl (am_dk tk_X4_hasCoin 9 rfl) ?_
      refine am_iload_n (j := 1) (am_dk tk_X4_hasCoin 10 rfl) rfl rfl ?_
      refine am_icmp_ne (tgt := 22) (am_dk tk_X4_hasCoin 11 rfl) (by decide) (fun hc17 => ?_) (fun hc17 => ?_)
      · rw [if_neg hc17] at h
        refine am_iinc (j := 2) (v := x2 + 1) (L' := [(2, .int (x2 + 1)), (0, .ref T), (1, .int x1)]) (am_dk tk_X4_hasCoin 14 rfl) rfl rfl (Nat.le_of_ble_eq_true rfl) rfl ?_
        refine am_goto (tgt := 2) (am_dk tk_X4_hasCoin 15 rfl) (by decide) ?_
        refine am_ls [1, 2, 0] rfl ?_
        exact ih _ _ _ h
      · rw [if_pos hc17] at h
        refine am_iconst (v := 1) (am_dk tk_X4_hasCoin 12 rfl) (by decide) ?_
        exact am_zret (Or.inr rfl) rfl (am_r2 h hΦ) ⟨Nat.le_of_ble_eq_true rfl, Nat.le_of_ble_eq_true rfl⟩ (am_dk tk_X4_hasCoin 13 rfl)
theorem ct_X4_hasCoin {l : Launch} {tw : Nat} {tp : Bool} {T : Nat} (hT : lyT T) {x1 : Int32} {r : Int32} {D D' : am_M} (h : f_X4_hasCoin T x1 D = some (r, D')) : am_CT l m_X4_hasCoin false [.ref T, .int x1] (ly tw tp D) (am_is (some (.int r)) (ly tw tp D')) := by
  have hΦ : am_is (some (.int r)) (ly tw tp D') (some (.int r)) (ly tw tp D') := ⟨rfl, rfl⟩
  refine am_CT.of (by decide) (Nat.le_of_ble_eq_true rfl) ?_
  show am_Ex _ _ _ 0 [(0, .ref T), (1, .int x1)] [] _
  rw [f_X4_hasCoin] at h
  refine am_iconst (v := 0) (am_dk tk_X4_hasCoin 0 rfl) (by decide) ?_
  refine am_istore_n (L' := [(2, .int 0), (0, .ref T), (1, .int x1)]) (am_dk tk_X4_hasCoin 1 rfl) rfl (Nat.le_of_ble_eq_true rfl) rfl ?_
  refine am_ls [1, 2, 0] rfl ?_
  exact bx_X4_hasCoin_2 hT hΦ am_N _ _ _ h
abbrev m_X4_yawnsOf : am_D := (yX4_yawnsOf, prog_6_method_4_code, 4, (some .int), { frames := 1, cells := 0, slots := 0, locals := 21 })
theorem ld_X4_yawnsOf : am_LD m_X4_yawnsOf 1 := ⟨(am_tb 80 (by decide +kernel) (by decide +kernel)), (am_tb 785 (by decide +kernel) (by decide +kernel)), by decide, by decide, by decide +kernel⟩
def tb_X4_yawnsOf : List (Nat × Instr × Nat) := [(0, .iconst 0, 1), (1, .istore_n 2, 1), (2, .iconst 0, 1), (3, .istore_n 3, 1), (4, .iload_n 3, 1), (5, .aload_n 0, 1), (6, .getfield 44, 3), (9, .if_icmp .ge 26, 3), (12, .iload_n 1, 1), (13, .iload_n 3, 1), (14, .invokestatic 62, 3), (17, .ifCond .eq 12, 3), (20, .iload_n 2, 1), (21, .aload_n 0, 1), (22, .getfield 24, 3), (25, .iload_n 3, 1), (26, .iaload, 1), (27, .iadd, 1), (28, .istore_n 2, 1), (29, .iinc 3 1, 3), (32, .goto (-28), 3), (35, .iload_n 2, 1), (36, .ireturn, 1)]
theorem tk_X4_yawnsOf : am_tbl prog_6_method_4_code tb_X4_yawnsOf = true := by decide +kernel
def b_X4_yawnsOf_4 (T : Nat) : Nat → Int32 → Int32 → Int32 → am_M → Option (Int32 × am_M)
  | 0, _, _, _, _ => none
  | n + 1, x1, x2, x3, D => if (D T 3) ≤ x3 then some (x2, D) else if (f_X5_isIn x1 x3) = 0 then b_X4_yawnsOf_4 T n x1 x2 (x3 + 1) D else if am_in x3 5 = true then b_X4_yawnsOf_4 T n x1 (x2 + (D (T + 5) x3.toNatClampNeg)) (x3 + 1) D else none
def f_X4_yawnsOf (T : Nat) (x1 : Int32) (D : am_M) : Option (Int32 × am_M) := b_X4_yawnsOf_4 T am_N x1 0 0 D
theorem bx_X4_yawnsOf_4 {l : Launch} {h0 : am_H} {Φ : am_Ph} {tw : Nat} {tp : Bool} {T : Nat} (hT : lyT T) {r : Int32} {D' : am_M} (hΦ : Φ (some (.int r)) (ly tw tp D')) : ∀ (n : Nat) (x1 : Int32) (x2 : Int32) (x3 : Int32) (D : am_M), b_X4_yawnsOf_4 T n x1 x2 x3 D = some (r, D') → am_Ex (am_E l m_X4_yawnsOf false h0 Φ) prog_6_method_4_code (0, 0) 4 [(0, .ref T), (1, .int x1), (2, .int x2), (3, .int x3)] [] (ly tw tp D) := by
  intro n
  induction n with
  | zero =>
    intro x1 x2 x3 D h
    exact absurd h (by simp [b_X4_yawnsOf_4])
  | succ n ih =>
    intro x1 x2 x3 D h
    rw [b_X4_yawnsOf_4] at h
    refine am_iload_n (j := 3) (am_dk tk_X4_yawnsOf 4 rfl) rfl rfl ?_
    refine am_aload_n (j := 0) (am_dk tk_X4_yawnsOf 5 rfl) rfl rfl ?_
    refine ly_geti (lyT_s hT) fl_X4_44 rfl (am_dk tk_X4_yawnsOf 6 rfl) ?_
    refine am_icmp_ge (tgt := 35) (am_dk tk_X4_yawnsOf 7 rfl) (by decide) (fun hc9 => ?_) (fun hc9 => ?_)
    · rw [if_pos hc9] at h
      refine am_iload_n (j := 2) (am_dk tk_X4_yawnsOf 21 rfl) rfl rfl ?_
      exact am_iret rfl (am_r2 h hΦ) ⟨Nat.le_of_ble_eq_true rfl, Nat.le_of_ble_eq_true rfl⟩ (am_dk tk_X4_yawnsOf 22 rfl)
    · rw [if_neg hc9] at h
      refine am_iload_n (j := 1) (am_dk tk_X4_yawnsOf 8 rfl) rfl rfl ?_
      refine am_iload_n (j := 3) (am_dk tk_X4_yawnsOf 9 rfl) rfl rfl ?_
      refine am_cSN (M := m_X5_isIn) (As := [.int x1, .int x3]) (st := []) (ct_X5_isIn _ _ _) ml_X4_62 ld_X5_isIn rfl ⟨Nat.le_of_ble_eq_true rfl, Nat.le_of_ble_eq_true rfl⟩ (Nat.le_of_ble_eq_true rfl) ⟨rfl, rfl⟩ ⟨Nat.le_of_ble_eq_true rfl, Nat.le_of_ble_eq_true rfl⟩ (am_dk tk_X4_yawnsOf 10 rfl) (am_kki ?_)
      refine am_if_eq (tgt := 29) (am_dk tk_X4_yawnsOf 11 rfl) (by decide) (fun hc17 => ?_) (fun hc17 => ?_)
      · rw [if_pos hc17] at h
        refine am_iinc (j := 3) (v := x3 + 1) (L' := [(3, .int (x3 + 1)), (0, .ref T), (1, .int x1), (2, .int x2)]) (am_dk tk_X4_yawnsOf 19 rfl) rfl rfl (Nat.le_of_ble_eq_true rfl) rfl ?_
        refine am_goto (tgt := 4) (am_dk tk_X4_yawnsOf 20 rfl) (by decide) ?_
        refine am_ls [1, 2, 3, 0] rfl ?_
        exact ih _ _ _ _ h
      · rw [if_neg hc17] at h
        refine am_iload_n (j := 2) (am_dk tk_X4_yawnsOf 12 rfl) rfl rfl ?_
        refine am_aload_n (j := 0) (am_dk tk_X4_yawnsOf 13 rfl) rfl rfl ?_
        refine ly_getr (b := (T + 5)) (lyT_s hT) fl_X4_24 rfl (lyT_r11 hT) (am_dk tk_X4_yawnsOf 14 rfl) ?_
        refine am_iload_n (j := 3) (am_dk tk_X4_yawnsOf 15 rfl) rfl rfl ?_
        obtain ⟨hi26, h⟩ := am_chk h
        refine ly_iald (k := x3.toNatClampNeg) (lyT_a11 hT) (am_in_vp hi26) rfl (am_dk tk_X4_yawnsOf 16 rfl) ?_
        refine am_iadd (am_dk tk_X4_yawnsOf 17 rfl) ?_
        refine am_istore_n (L' := [(2, .int (x2 + (D (T + 5) x3.toNatClampNeg))), (0, .ref T), (1, .int x1), (3, .int x3)]) (am_dk tk_X4_yawnsOf 18 rfl) rfl (Nat.le_of_ble_eq_true rfl) rfl ?_
        refine am_iinc (j := 3) (v := x3 + 1) (L' := [(3, .int (x3 + 1)), (2, .int (x2 + (D (T + 5) x3.toNatClampNeg))), (0, .ref T), (1, .int x1)]) (am_dk tk_X4_yawnsOf 19 rfl) rfl rfl (Nat.le_of_ble_eq_true rfl) rfl ?_
        refine am_goto (tgt := 4) (am_dk tk_X4_yawnsOf 20 rfl) (by decide) ?_
        refine am_ls [2, 3, 1, 0] rfl ?_
        exact ih _ _ _ _ h
theorem ct_X4_yawnsOf {l : Launch} {tw : Nat} {tp : Bool} {T : Nat} (hT : lyT T) {x1 : Int32} {r : Int32} {D D' : am_M} (h : f_X4_yawnsOf T x1 D = some (r, D')) : am_CT l m_X4_yawnsOf false [.ref T, .int x1] (ly tw tp D) (am_is (some (.int r)) (ly tw tp D')) := by
  have hΦ : am_is (some (.int r)) (ly tw tp D') (some (.int r)) (ly tw tp D') := ⟨rfl, rfl⟩
  refine am_CT.of (by decide) (Nat.le_of_ble_eq_true rfl) ?_
  show am_Ex _ _ _ 0 [(0, .ref T), (1, .int x1)] [] _
  rw [f_X4_yawnsOf] at h
  refine am_iconst (v := 0) (am_dk tk_X4_yawnsOf 0 rfl) (by decide) ?_
  refine am_istore_n (L' := [(2, .int 0), (0, .ref T), (1, .int x1)]) (am_dk tk_X4_yawnsOf 1 rfl) rfl (Nat.le_of_ble_eq_true rfl) rfl ?_
  refine am_iconst (v := 0) (am_dk tk_X4_yawnsOf 2 rfl) (by decide) ?_
  refine am_istore_n (L' := [(3, .int 0), (2, .int 0), (0, .ref T), (1, .int x1)]) (am_dk tk_X4_yawnsOf 3 rfl) rfl (Nat.le_of_ble_eq_true rfl) rfl ?_
  refine am_ls [2, 3, 1, 0] rfl ?_
  exact bx_X4_yawnsOf_4 hT hΦ am_N _ _ _ _ h
end
section
abbrev m_X2_copyFrom : am_D := (yX2_copyFrom, prog_4_method_2_code, 2, none, { frames := 1, cells := 0, slots := 0, locals := 30 })
theorem ld_X2_copyFrom : am_LD m_X2_copyFrom 1 := ⟨(am_tb 81 (by decide +kernel) (by decide +kernel)), (am_tb 487 (by decide +kernel) (by decide +kernel)), by decide, by decide, by decide +kernel⟩
def tb_X2_copyFrom : List (Nat × Instr × Nat) := [(0, .aload_n 1, 1), (1, .getfield 9, 3), (4, .iconst 0, 1), (5, .aload_n 0, 1), (6, .getfield 9, 3), (9, .iconst 0, 1), (10, .iconst 5, 1), (11, .invokestatic 24, 3), (14, .aload_n 1, 1), (15, .getfield 15, 3), (18, .iconst 0, 1), (19, .aload_n 0, 1), (20, .getfield 15, 3), (23, .iconst 0, 1), (24, .iconst 5, 1), (25, .invokestatic 24, 3), (28, .aload_n 1, 1), (29, .getfield 18, 3), (32, .iconst 0, 1), (33, .aload_n 0, 1), (34, .getfield 18, 3), (37, .iconst 0, 1), (38, .iconst 5, 1), (39, .invokestatic 24, 3), (42, .aload_n 1, 1), (43, .getfield 21, 3), (46, .iconst 0, 1), (47, .aload_n 0, 1), (48, .getfield 21, 3), (51, .iconst 0, 1), (52, .bipush 120, 2), (54, .invokestatic 24, 3), (57, .aload_n 0, 1), (58, .aload_n 1, 1), (59, .getfield 30, 3), (62, .putfield 30, 3), (65, .aload_n 0, 1), (66, .aload_n 1, 1), (67, .getfield 34, 3), (70, .putfield 34, 3), (73, .aload_n 0, 1), (74, .aload_n 1, 1), (75, .getfield 37, 3), (78, .putfield 37, 3), (81, .aload_n 0, 1), (82, .aload_n 1, 1), (83, .getfield 40, 3), (86, .putfield 40, 3), (89, .return_, 1)]
theorem tk_X2_copyFrom : am_tbl prog_4_method_2_code tb_X2_copyFrom = true := by decide +kernel
def b_X2_copyFrom_73 (M N : Nat) (D : am_M) : Option am_M := some (am_up (am_up D M 6 (D N 6)) M 7 ((am_up D M 6 (D N 6)) N 7))
def b_X2_copyFrom_42 (M N : Nat) (D : am_M) : Option am_M := b_X2_copyFrom_73 M N (am_up (am_up (am_row D (M + 4) (va_cpy (D (N + 4)) (D (M + 4)) 0 0 120)) M 4 ((am_row D (M + 4) (va_cpy (D (N + 4)) (D (M + 4)) 0 0 120)) N 4)) M 5 ((am_up (am_row D (M + 4) (va_cpy (D (N + 4)) (D (M + 4)) 0 0 120)) M 4 ((am_row D (M + 4) (va_cpy (D (N + 4)) (D (M + 4)) 0 0 120)) N 4)) N 5))
def f_X2_copyFrom (M N : Nat) (D : am_M) : Option am_M := b_X2_copyFrom_42 M N (am_row (am_row (am_row D (M + 1) (va_cpy (D (N + 1)) (D (M + 1)) 0 0 5)) (M + 2) (va_cpy ((am_row D (M + 1) (va_cpy (D (N + 1)) (D (M + 1)) 0 0 5)) (N + 2)) ((am_row D (M + 1) (va_cpy (D (N + 1)) (D (M + 1)) 0 0 5)) (M + 2)) 0 0 5)) (M + 3) (va_cpy ((am_row (am_row D (M + 1) (va_cpy (D (N + 1)) (D (M + 1)) 0 0 5)) (M + 2) (va_cpy ((am_row D (M + 1) (va_cpy (D (N + 1)) (D (M + 1)) 0 0 5)) (N + 2)) ((am_row D (M + 1) (va_cpy (D (N + 1)) (D (M + 1)) 0 0 5)) (M + 2)) 0 0 5)) (N + 3)) ((am_row (am_row D (M + 1) (va_cpy (D (N + 1)) (D (M + 1)) 0 0 5)) (M + 2) (va_cpy ((am_row D (M + 1) (va_cpy (D (N + 1)) (D (M + 1)) 0 0 5)) (N + 2)) ((am_row D (M + 1) (va_cpy (D (N + 1)) (D (M + 1)) 0 0 5)) (M + 2)) 0 0 5)) (M + 3)) 0 0 5))
theorem bx_X2_copyFrom_73 {l : Launch} {h0 : am_H} {Φ : am_Ph} {tw : Nat} {tp : Bool} {M : Nat} (hM : lyM M) {N : Nat} (hN : lyM N) {D' : am_M} (hΦ : Φ none (ly tw tp D')) : ∀ (D : am_M), b_X2_copyFrom_73 M N D = some D' → am_Ex (am_E l m_X2_copyFrom false h0 Φ) prog_4_method_2_code (0, 0) 73 [(0, .ref M), (1, .ref N)] [] (ly tw tp D) := by
  intro  D h
  rw [b_X2_copyFrom_73] at h
  refine am_aload_n (j := 0) (am_dk tk_X2_copyFrom 40 rfl) rfl rfl ?_
  refine am_aload_n (j := 1) (am_dk tk_X2_copyFrom 41 rfl) rfl rfl ?_
  refine ly_geti (lyM_s hN) fl_X2_37 rfl (am_dk tk_X2_copyFrom 42 rfl) ?_
  refine ly_puti (lyM_s hM) fl_X2_37 rfl rfl (am_dk tk_X2_copyFrom 43 rfl) ?_
  refine am_aload_n (j := 0) (am_dk tk_X2_copyFrom 44 rfl) rfl rfl ?_
  refine am_aload_n (j := 1) (am_dk tk_X2_copyFrom 45 rfl) rfl rfl ?_
  refine ly_geti (lyM_s hN) fl_X2_40 rfl (am_dk tk_X2_copyFrom 46 rfl) ?_
  refine ly_puti (lyM_s hM) fl_X2_40 rfl rfl (am_dk tk_X2_copyFrom 47 rfl) ?_
  exact am_vret rfl (am_r0 h hΦ) ⟨Nat.le_of_ble_eq_true rfl, Nat.le_of_ble_eq_true rfl⟩ (am_dk tk_X2_copyFrom 48 rfl)
theorem bx_X2_copyFrom_42 {l : Launch} {h0 : am_H} {Φ : am_Ph} {tw : Nat} {tp : Bool} {M : Nat} (hM : lyM M) {N : Nat} (hN : lyM N) {D' : am_M} (hΦ : Φ none (ly tw tp D')) : ∀ (D : am_M), b_X2_copyFrom_42 M N D = some D' → am_Ex (am_E l m_X2_copyFrom false h0 Φ) prog_4_method_2_code (0, 0) 42 [(0, .ref M), (1, .ref N)] [] (ly tw tp D) := by
  intro  D h
  rw [b_X2_copyFrom_42] at h
  refine am_aload_n (j := 1) (am_dk tk_X2_copyFrom 24 rfl) rfl rfl ?_
  refine ly_getr (b := (N + 4)) (lyM_s hN) fl_X2_21 rfl (lyM_r3 hN) (am_dk tk_X2_copyFrom 25 rfl) ?_
  refine am_iconst (v := 0) (am_dk tk_X2_copyFrom 26 rfl) (by decide) ?_
  refine am_aload_n (j := 0) (am_dk tk_X2_copyFrom 27 rfl) rfl rfl ?_
  refine ly_getr (b := (M + 4)) (lyM_s hM) fl_X2_21 rfl (lyM_r3 hM) (am_dk tk_X2_copyFrom 28 rfl) ?_
  refine am_iconst (v := 0) (am_dk tk_X2_copyFrom 29 rfl) (by decide) ?_
  refine am_bipush (v := 120) (am_dk tk_X2_copyFrom 30 rfl) (by decide) ?_
  refine ly_copy lc_X2_24 (lyM_a3 hN) (lyM_a3 hM) (by decide) (by decide) (by decide) (Nat.le_of_ble_eq_true rfl) (Nat.le_of_ble_eq_true rfl) rfl (am_dk tk_X2_copyFrom 31 rfl) ?_
  refine am_aload_n (j := 0) (am_dk tk_X2_copyFrom 32 rfl) rfl rfl ?_
  refine am_aload_n (j := 1) (am_dk tk_X2_copyFrom 33 rfl) rfl rfl ?_
  refine ly_geti (lyM_s hN) fl_X2_30 rfl (am_dk tk_X2_copyFrom 34 rfl) ?_
  refine ly_puti (lyM_s hM) fl_X2_30 rfl rfl (am_dk tk_X2_copyFrom 35 rfl) ?_
  refine am_aload_n (j := 0) (am_dk tk_X2_copyFrom 36 rfl) rfl rfl ?_
  refine am_aload_n (j := 1) (am_dk tk_X2_copyFrom 37 rfl) rfl rfl ?_
  refine ly_geti (lyM_s hN) fl_X2_34 rfl (am_dk tk_X2_copyFrom 38 rfl) ?_
  refine ly_puti (lyM_s hM) fl_X2_34 rfl rfl (am_dk tk_X2_copyFrom 39 rfl) ?_
  exact bx_X2_copyFrom_73 hM hN hΦ _ h
theorem ct_X2_copyFrom {l : Launch} {tw : Nat} {tp : Bool} {M : Nat} (hM : lyM M) {N : Nat} (hN : lyM N) {D D' : am_M} (h : f_X2_copyFrom M N D = some D') : am_CT l m_X2_copyFrom false [.ref M, .ref N] (ly tw tp D) (am_is none (ly tw tp D')) := by
  have hΦ : am_is none (ly tw tp D') none (ly tw tp D') := ⟨rfl, rfl⟩
  refine am_CT.of (by decide) (Nat.le_of_ble_eq_true rfl) ?_
  show am_Ex _ _ _ 0 [(0, .ref M), (1, .ref N)] [] _
  rw [f_X2_copyFrom] at h
  refine am_aload_n (j := 1) (am_dk tk_X2_copyFrom 0 rfl) rfl rfl ?_
  refine ly_getr (b := (N + 1)) (lyM_s hN) fl_X2_9 rfl (lyM_r0 hN) (am_dk tk_X2_copyFrom 1 rfl) ?_
  refine am_iconst (v := 0) (am_dk tk_X2_copyFrom 2 rfl) (by decide) ?_
  refine am_aload_n (j := 0) (am_dk tk_X2_copyFrom 3 rfl) rfl rfl ?_
  refine ly_getr (b := (M + 1)) (lyM_s hM) fl_X2_9 rfl (lyM_r0 hM) (am_dk tk_X2_copyFrom 4 rfl) ?_
  refine am_iconst (v := 0) (am_dk tk_X2_copyFrom 5 rfl) (by decide) ?_
  refine am_iconst (v := 5) (am_dk tk_X2_copyFrom 6 rfl) (by decide) ?_
  refine ly_copy lc_X2_24 (lyM_a0 hN) (lyM_a0 hM) (by decide) (by decide) (by decide) (Nat.le_of_ble_eq_true rfl) (Nat.le_of_ble_eq_true rfl) rfl (am_dk tk_X2_copyFrom 7 rfl) ?_
  refine am_aload_n (j := 1) (am_dk tk_X2_copyFrom 8 rfl) rfl rfl ?_
  refine ly_getr (b := (N + 2)) (lyM_s hN) fl_X2_15 rfl (lyM_r1 hN) (am_dk tk_X2_copyFrom 9 rfl) ?_
  refine am_iconst (v := 0) (am_dk tk_X2_copyFrom 10 rfl) (by decide) ?_
  refine am_aload_n (j := 0) (am_dk tk_X2_copyFrom 11 rfl) rfl rfl ?_
  refine ly_getr (b := (M + 2)) (lyM_s hM) fl_X2_15 rfl (lyM_r1 hM) (am_dk tk_X2_copyFrom 12 rfl) ?_
  refine am_iconst (v := 0) (am_dk tk_X2_copyFrom 13 rfl) (by decide) ?_
  refine am_iconst (v := 5) (am_dk tk_X2_copyFrom 14 rfl) (by decide) ?_
  refine ly_copy lc_X2_24 (lyM_a1 hN) (lyM_a1 hM) (by decide) (by decide) (by decide) (Nat.le_of_ble_eq_true rfl) (Nat.le_of_ble_eq_true rfl) rfl (am_dk tk_X2_copyFrom 15 rfl) ?_
  refine am_aload_n (j := 1) (am_dk tk_X2_copyFrom 16 rfl) rfl rfl ?_
  refine ly_getr (b := (N + 3)) (lyM_s hN) fl_X2_18 rfl (lyM_r2 hN) (am_dk tk_X2_copyFrom 17 rfl) ?_
  refine am_iconst (v := 0) (am_dk tk_X2_copyFrom 18 rfl) (by decide) ?_
  refine am_aload_n (j := 0) (am_dk tk_X2_copyFrom 19 rfl) rfl rfl ?_
  refine ly_getr (b := (M + 3)) (lyM_s hM) fl_X2_18 rfl (lyM_r2 hM) (am_dk tk_X2_copyFrom 20 rfl) ?_
  refine am_iconst (v := 0) (am_dk tk_X2_copyFrom 21 rfl) (by decide) ?_
  refine am_iconst (v := 5) (am_dk tk_X2_copyFrom 22 rfl) (by decide) ?_
  refine ly_copy lc_X2_24 (lyM_a2 hN) (lyM_a2 hM) (by decide) (by decide) (by decide) (Nat.le_of_ble_eq_true rfl) (Nat.le_of_ble_eq_true rfl) rfl (am_dk tk_X2_copyFrom 23 rfl) ?_
  exact bx_X2_copyFrom_42 hM hN hΦ _ h
abbrev m_X2_sleepers : am_D := (yX2_sleepers, prog_4_method_3_code, 4, (some .int), { frames := 0, cells := 0, slots := 0, locals := 0 })
theorem ld_X2_sleepers : am_LD m_X2_sleepers 1 := ⟨(am_tb 81 (by decide +kernel) (by decide +kernel)), (am_tb 510 (by decide +kernel) (by decide +kernel)), by decide, by decide, by decide +kernel⟩
def tb_X2_sleepers : List (Nat × Instr × Nat) := [(0, .iconst 0, 1), (1, .istore_n 2, 1), (2, .iconst 0, 1), (3, .istore_n 3, 1), (4, .iload_n 3, 1), (5, .iload_n 1, 1), (6, .if_icmp .ge 24, 3), (9, .aload_n 0, 1), (10, .getfield 15, 3), (13, .iload_n 3, 1), (14, .iaload, 1), (15, .ifCond .le 9, 3), (18, .iload_n 2, 1), (19, .iconst 1, 1), (20, .iload_n 3, 1), (21, .ishl, 1), (22, .ior, 1), (23, .istore_n 2, 1), (24, .iinc 3 1, 3), (27, .goto (-23), 3), (30, .iload_n 2, 1), (31, .ireturn, 1)]
theorem tk_X2_sleepers : am_tbl prog_4_method_3_code tb_X2_sleepers = true := by decide +kernel
def b_X2_sleepers_4 (M : Nat) : Nat → Int32 → Int32 → Int32 → am_M → Option (Int32 × am_M)
  | 0, _, _, _, _ => none
  | n + 1, x1, x2, x3, D => if x1 ≤ x3 then some (x2, D) else if am_in x3 5 = true then b_X2_sleepers_4 M n x1 (if (D (M + 2) x3.toNatClampNeg) ≤ 0 then x2 else x2 ||| (1 <<< (x3 &&& 31))) (x3 + 1) D else none
def f_X2_sleepers (M : Nat) (x1 : Int32) (D : am_M) : Option (Int32 × am_M) := b_X2_sleepers_4 M am_N x1 0 0 D
theorem bx_X2_sleepers_4 {l : Launch} {h0 : am_H} {Φ : am_Ph} {tw : Nat} {tp : Bool} {M : Nat} (hM : lyM M) {r : Int32} {D' : am_M} (hΦ : Φ (some (.int r)) (ly tw tp D')) : ∀ (n : Nat) (x1 : Int32) (x2 : Int32) (x3 : Int32) (D : am_M), b_X2_sleepers_4 M n x1 x2 x3 D = some (r, D') → am_Ex (am_E l m_X2_sleepers false h0 Φ) prog_4_method_3_code (0, 0) 4 [(0, .ref M), (1, .int x1), (2, .int x2), (3, .int x3)] [] (ly tw tp D) := by
  intro n
  induction n with
  | zero =>
    intro x1 x2 x3 D h
    exact absurd h (by simp [b_X2_sleepers_4])
  | succ n ih =>
    intro x1 x2 x3 D h
    rw [b_X2_sleepers_4] at h
    refine am_iload_n (j := 3) (am_dk tk_X2_sleepers 4 rfl) rfl rfl ?_
    refine am_iload_n (j := 1) (am_dk tk_X2_sleepers 5 rfl) rfl rfl ?_
    refine am_icmp_ge (tgt := 30) (am_dk tk_X2_sleepers 6 rfl) (by decide) (fun hc6 => ?_) (fun hc6 => ?_)
    · rw [if_pos hc6] at h
      refine am_iload_n (j := 2) (am_dk tk_X2_sleepers 20 rfl) rfl rfl ?_
      exact am_iret rfl (am_r2 h hΦ) ⟨Nat.le_of_ble_eq_true rfl, Nat.le_of_ble_eq_true rfl⟩ (am_dk tk_X2_sleepers 21 rfl)
    · rw [if_neg hc6] at h
      refine am_aload_n (j := 0) (am_dk tk_X2_sleepers 7 rfl) rfl rfl ?_
      refine ly_getr (b := (M + 2)) (lyM_s hM) fl_X2_15 rfl (lyM_r1 hM) (am_dk tk_X2_sleepers 8 rfl) ?_
      refine am_iload_n (j := 3) (am_dk tk_X2_sleepers 9 rfl) rfl rfl ?_
      obtain ⟨hi14, h⟩ := am_chk h
      refine ly_iald (k := x3.toNatClampNeg) (lyM_a1 hM) (am_in_vp hi14) rfl (am_dk tk_X2_sleepers 10 rfl) ?_
      refine am_if_le (tgt := 24) (am_dk tk_X2_sleepers 11 rfl) (by decide) (fun hc15 => ?_) (fun hc15 => ?_)
      · simp only [if_pos hc15] at h
        refine am_iinc (j := 3) (v := x3 + 1) (L' := [(3, .int (x3 + 1)), (0, .ref M), (1, .int x1), (2, .int x2)]) (am_dk tk_X2_sleepers 18 rfl) rfl rfl (Nat.le_of_ble_eq_true rfl) rfl ?_
        refine am_goto (tgt := 4) (am_dk tk_X2_sleepers 19 rfl) (by decide) ?_
        refine am_ls [1, 2, 3, 0] rfl ?_
        exact ih _ _ _ _ h
      · simp only [if_neg hc15] at h
        refine am_iload_n (j := 2) (am_dk tk_X2_sleepers 12 rfl) rfl rfl ?_
        refine am_iconst (v := 1) (am_dk tk_X2_sleepers 13 rfl) (by decide) ?_
        refine am_iload_n (j := 3) (am_dk tk_X2_sleepers 14 rfl) rfl rfl ?_
        refine am_ishl (am_dk tk_X2_sleepers 15 rfl) ?_
        refine am_ior (am_dk tk_X2_sleepers 16 rfl) ?_
        refine am_istore_n (L' := [(2, .int (x2 ||| (1 <<< (x3 &&& 31)))), (0, .ref M), (1, .int x1), (3, .int x3)]) (am_dk tk_X2_sleepers 17 rfl) rfl (Nat.le_of_ble_eq_true rfl) rfl ?_
        refine am_iinc (j := 3) (v := x3 + 1) (L' := [(3, .int (x3 + 1)), (2, .int (x2 ||| (1 <<< (x3 &&& 31)))), (0, .ref M), (1, .int x1)]) (am_dk tk_X2_sleepers 18 rfl) rfl rfl (Nat.le_of_ble_eq_true rfl) rfl ?_
        refine am_goto (tgt := 4) (am_dk tk_X2_sleepers 19 rfl) (by decide) ?_
        refine am_ls [2, 3, 1, 0] rfl ?_
        exact ih _ _ _ _ h
theorem ct_X2_sleepers {l : Launch} {tw : Nat} {tp : Bool} {M : Nat} (hM : lyM M) {x1 : Int32} {r : Int32} {D D' : am_M} (h : f_X2_sleepers M x1 D = some (r, D')) : am_CT l m_X2_sleepers false [.ref M, .int x1] (ly tw tp D) (am_is (some (.int r)) (ly tw tp D')) := by
  have hΦ : am_is (some (.int r)) (ly tw tp D') (some (.int r)) (ly tw tp D') := ⟨rfl, rfl⟩
  refine am_CT.of (by decide) (Nat.le_of_ble_eq_true rfl) ?_
  show am_Ex _ _ _ 0 [(0, .ref M), (1, .int x1)] [] _
  rw [f_X2_sleepers] at h
  refine am_iconst (v := 0) (am_dk tk_X2_sleepers 0 rfl) (by decide) ?_
  refine am_istore_n (L' := [(2, .int 0), (0, .ref M), (1, .int x1)]) (am_dk tk_X2_sleepers 1 rfl) rfl (Nat.le_of_ble_eq_true rfl) rfl ?_
  refine am_iconst (v := 0) (am_dk tk_X2_sleepers 2 rfl) (by decide) ?_
  refine am_istore_n (L' := [(3, .int 0), (2, .int 0), (0, .ref M), (1, .int x1)]) (am_dk tk_X2_sleepers 3 rfl) rfl (Nat.le_of_ble_eq_true rfl) rfl ?_
  refine am_ls [2, 3, 1, 0] rfl ?_
  exact bx_X2_sleepers_4 hM hΦ am_N _ _ _ _ h
abbrev m_X2_lie : am_D := (yX2_lie, prog_4_method_6_code, 4, none, { frames := 1, cells := 0, slots := 0, locals := 15 })
theorem ld_X2_lie : am_LD m_X2_lie 2 := ⟨(am_tb 81 (by decide +kernel) (by decide +kernel)), (am_tb 558 (by decide +kernel) (by decide +kernel)), by decide, by decide, by decide +kernel⟩
def tb_X2_lie : List (Nat × Instr × Nat) := [(0, .aload_n 0, 1), (1, .getfield 15, 3), (4, .iload_n 1, 1), (5, .dup2, 1), (6, .iaload, 1), (7, .iconst 1, 1), (8, .iadd, 1), (9, .iastore, 1), (10, .aload_n 0, 1), (11, .getfield 9, 3), (14, .iload_n 1, 1), (15, .aload_n 0, 1), (16, .getfield 9, 3), (19, .iload_n 1, 1), (20, .iaload, 1), (21, .iconst 4, 1), (22, .isub, 1), (23, .iconst 0, 1), (24, .invokestatic 66, 3), (27, .iastore, 1), (28, .aload_n 0, 1), (29, .getfield 15, 3), (32, .iload_n 1, 1), (33, .iaload, 1), (34, .aload_n 2, 1), (35, .getfield 72, 3), (38, .if_icmp .lt 10, 3), (41, .aload_n 2, 1), (42, .getfield 75, 3), (45, .goto 4, 3), (48, .iconst 1, 1), (49, .istore_n 3, 1), (50, .aload_n 0, 1), (51, .getfield 18, 3), (54, .iload_n 1, 1), (55, .aload_n 0, 1), (56, .getfield 18, 3), (59, .iload_n 1, 1), (60, .iaload, 1), (61, .iload_n 3, 1), (62, .iadd, 1), (63, .sipush 9999, 3), (66, .invokestatic 78, 3), (69, .iastore, 1), (70, .return_, 1)]
theorem tk_X2_lie : am_tbl prog_4_method_6_code tb_X2_lie = true := by decide +kernel
def b_X2_lie_49 (M T : Nat) (x1 : Int32) (s0 : Int32) (D : am_M) : Option am_M := if am_in x1 5 = true then some (am_up D (M + 3) x1.toNatClampNeg (am_min ((D (M + 3) x1.toNatClampNeg) + s0) 9999)) else none
def f_X2_lie (M T : Nat) (x1 : Int32) (D : am_M) : Option am_M := if am_in x1 5 = true then b_X2_lie_49 M T x1 (if ((am_up (am_up D (M + 2) x1.toNatClampNeg ((D (M + 2) x1.toNatClampNeg) + 1)) (M + 1) x1.toNatClampNeg (am_max (((am_up D (M + 2) x1.toNatClampNeg ((D (M + 2) x1.toNatClampNeg) + 1)) (M + 1) x1.toNatClampNeg) - 4) 0)) (M + 2) x1.toNatClampNeg) < ((am_up (am_up D (M + 2) x1.toNatClampNeg ((D (M + 2) x1.toNatClampNeg) + 1)) (M + 1) x1.toNatClampNeg (am_max (((am_up D (M + 2) x1.toNatClampNeg ((D (M + 2) x1.toNatClampNeg) + 1)) (M + 1) x1.toNatClampNeg) - 4) 0)) T 1) then 1 else (am_up (am_up D (M + 2) x1.toNatClampNeg ((D (M + 2) x1.toNatClampNeg) + 1)) (M + 1) x1.toNatClampNeg (am_max (((am_up D (M + 2) x1.toNatClampNeg ((D (M + 2) x1.toNatClampNeg) + 1)) (M + 1) x1.toNatClampNeg) - 4) 0)) T 2) (am_up (am_up D (M + 2) x1.toNatClampNeg ((D (M + 2) x1.toNatClampNeg) + 1)) (M + 1) x1.toNatClampNeg (am_max (((am_up D (M + 2) x1.toNatClampNeg ((D (M + 2) x1.toNatClampNeg) + 1)) (M + 1) x1.toNatClampNeg) - 4) 0)) else none
theorem bx_X2_lie_49 {l : Launch} {h0 : am_H} {Φ : am_Ph} {tw : Nat} {tp : Bool} {M : Nat} (hM : lyM M) {T : Nat} (hT : lyT T) {D' : am_M} (hΦ : Φ none (ly tw tp D')) : ∀ (x1 : Int32) (s0 : Int32) (D : am_M), b_X2_lie_49 M T x1 s0 D = some D' → am_Ex (am_E l m_X2_lie false h0 Φ) prog_4_method_6_code (0, 0) 49 [(0, .ref M), (1, .int x1)] [.int s0] (ly tw tp D) := by
  intro x1 s0 D h
  rw [b_X2_lie_49] at h
  refine am_istore_n (L' := [(3, .int s0), (0, .ref M), (1, .int x1)]) (am_dk tk_X2_lie 31 rfl) rfl (Nat.le_of_ble_eq_true rfl) rfl ?_
  refine am_aload_n (j := 1) (am_dk tk_X2_lie 32 rfl) rfl rfl ?_
  refine ly_getr (b := (M + 3)) (lyM_s hM) fl_X2_18 rfl (lyM_r2 hM) (am_dk tk_X2_lie 33 rfl) ?_
  refine am_iload_n (j := 2) (am_dk tk_X2_lie 34 rfl) rfl rfl ?_
  refine am_aload_n (j := 1) (am_dk tk_X2_lie 35 rfl) rfl rfl ?_
  refine ly_getr (b := (M + 3)) (lyM_s hM) fl_X2_18 rfl (lyM_r2 hM) (am_dk tk_X2_lie 36 rfl) ?_
  refine am_iload_n (j := 2) (am_dk tk_X2_lie 37 rfl) rfl rfl ?_
  obtain ⟨hi60, h⟩ := am_chk h
  refine ly_iald (k := x1.toNatClampNeg) (lyM_a2 hM) (am_in_vp hi60) rfl (am_dk tk_X2_lie 38 rfl) ?_
  refine am_iload_n (j := 0) (am_dk tk_X2_lie 39 rfl) rfl rfl ?_
  refine am_iadd (am_dk tk_X2_lie 40 rfl) ?_
  refine am_sipush (v := 9999) (am_dk tk_X2_lie 41 rfl) (by decide) ?_
  refine am_mmin lm_X2_78 (Nat.le_of_ble_eq_true rfl) (Nat.le_of_ble_eq_true rfl) ⟨Nat.le_of_ble_eq_true rfl, Nat.le_of_ble_eq_true rfl⟩ (am_dk tk_X2_lie 42 rfl) ?_
  refine ly_iast (k := x1.toNatClampNeg) (lyM_a2 hM) (am_in_vp hi60) rfl (am_dk tk_X2_lie 43 rfl) ?_
  exact am_vret rfl (am_r0 h hΦ) ⟨Nat.le_of_ble_eq_true rfl, Nat.le_of_ble_eq_true rfl⟩ (am_dk tk_X2_lie 44 rfl)
theorem ct_X2_lie {l : Launch} {tw : Nat} {tp : Bool} {M : Nat} (hM : lyM M) {T : Nat} (hT : lyT T) {x1 : Int32} {D D' : am_M} (h : f_X2_lie M T x1 D = some D') : am_CT l m_X2_lie false [.ref M, .int x1, .ref T] (ly tw tp D) (am_is none (ly tw tp D')) := by
  have hΦ : am_is none (ly tw tp D') none (ly tw tp D') := ⟨rfl, rfl⟩
  refine am_CT.of (by decide) (Nat.le_of_ble_eq_true rfl) ?_
  show am_Ex _ _ _ 0 [(0, .ref M), (1, .int x1), (2, .ref T)] [] _
  rw [f_X2_lie] at h
  refine am_aload_n (j := 0) (am_dk tk_X2_lie 0 rfl) rfl rfl ?_
  refine ly_getr (b := (M + 2)) (lyM_s hM) fl_X2_15 rfl (lyM_r1 hM) (am_dk tk_X2_lie 1 rfl) ?_
  refine am_iload_n (j := 1) (am_dk tk_X2_lie 2 rfl) rfl rfl ?_
  refine am_dup2 (am_dk tk_X2_lie 3 rfl) rfl rfl ?_
  obtain ⟨hi6, h⟩ := am_chk h
  refine ly_iald (k := x1.toNatClampNeg) (lyM_a1 hM) (am_in_vp hi6) rfl (am_dk tk_X2_lie 4 rfl) ?_
  refine am_iconst (v := 1) (am_dk tk_X2_lie 5 rfl) (by decide) ?_
  refine am_iadd (am_dk tk_X2_lie 6 rfl) ?_
  refine ly_iast (k := x1.toNatClampNeg) (lyM_a1 hM) (am_in_vp hi6) rfl (am_dk tk_X2_lie 7 rfl) ?_
  refine am_aload_n (j := 0) (am_dk tk_X2_lie 8 rfl) rfl rfl ?_
  refine ly_getr (b := (M + 1)) (lyM_s hM) fl_X2_9 rfl (lyM_r0 hM) (am_dk tk_X2_lie 9 rfl) ?_
  refine am_iload_n (j := 1) (am_dk tk_X2_lie 10 rfl) rfl rfl ?_
  refine am_aload_n (j := 0) (am_dk tk_X2_lie 11 rfl) rfl rfl ?_
  refine ly_getr (b := (M + 1)) (lyM_s hM) fl_X2_9 rfl (lyM_r0 hM) (am_dk tk_X2_lie 12 rfl) ?_
  refine am_iload_n (j := 1) (am_dk tk_X2_lie 13 rfl) rfl rfl ?_
  refine ly_iald (k := x1.toNatClampNeg) (lyM_a0 hM) (am_in_vp hi6) rfl (am_dk tk_X2_lie 14 rfl) ?_
  refine am_iconst (v := 4) (am_dk tk_X2_lie 15 rfl) (by decide) ?_
  refine am_isub (am_dk tk_X2_lie 16 rfl) ?_
  refine am_iconst (v := 0) (am_dk tk_X2_lie 17 rfl) (by decide) ?_
  refine am_mmax lm_X2_66 (Nat.le_of_ble_eq_true rfl) (Nat.le_of_ble_eq_true rfl) ⟨Nat.le_of_ble_eq_true rfl, Nat.le_of_ble_eq_true rfl⟩ (am_dk tk_X2_lie 18 rfl) ?_
  refine ly_iast (k := x1.toNatClampNeg) (lyM_a0 hM) (am_in_vp hi6) rfl (am_dk tk_X2_lie 19 rfl) ?_
  refine am_aload_n (j := 0) (am_dk tk_X2_lie 20 rfl) rfl rfl ?_
  refine ly_getr (b := (M + 2)) (lyM_s hM) fl_X2_15 rfl (lyM_r1 hM) (am_dk tk_X2_lie 21 rfl) ?_
  refine am_iload_n (j := 1) (am_dk tk_X2_lie 22 rfl) rfl rfl ?_
  refine ly_iald (k := x1.toNatClampNeg) (lyM_a1 hM) (am_in_vp hi6) rfl (am_dk tk_X2_lie 23 rfl) ?_
  refine am_aload_n (j := 2) (am_dk tk_X2_lie 24 rfl) rfl rfl ?_
  refine ly_geti (lyT_s hT) fl_X2_72 rfl (am_dk tk_X2_lie 25 rfl) ?_
  refine am_icmp_lt (tgt := 48) (am_dk tk_X2_lie 26 rfl) (by decide) (fun hc38 => ?_) (fun hc38 => ?_)
  · simp only [if_pos hc38] at h
    refine am_iconst (v := 1) (am_dk tk_X2_lie 30 rfl) (by decide) ?_
    refine am_ls [0, 1] rfl ?_
    exact bx_X2_lie_49 hM hT hΦ _ _ _ h
  · simp only [if_neg hc38] at h
    refine am_aload_n (j := 2) (am_dk tk_X2_lie 27 rfl) rfl rfl ?_
    refine ly_geti (lyT_s hT) fl_X2_75 rfl (am_dk tk_X2_lie 28 rfl) ?_
    refine am_goto (tgt := 49) (am_dk tk_X2_lie 29 rfl) (by decide) ?_
    refine am_ls [0, 1] rfl ?_
    exact bx_X2_lie_49 hM hT hΦ _ _ _ h
abbrev m_X2_tire : am_D := (yX2_tire, prog_4_method_7_code, 3, none, { frames := 1, cells := 0, slots := 0, locals := 15 })
theorem ld_X2_tire : am_LD m_X2_tire 2 := ⟨(am_tb 81 (by decide +kernel) (by decide +kernel)), (am_tb 568 (by decide +kernel) (by decide +kernel)), by decide, by decide, by decide +kernel⟩
def tb_X2_tire : List (Nat × Instr × Nat) := [(0, .aload_n 0, 1), (1, .getfield 9, 3), (4, .iload_n 1, 1), (5, .aload_n 0, 1), (6, .getfield 9, 3), (9, .iload_n 1, 1), (10, .iaload, 1), (11, .iload_n 2, 1), (12, .iadd, 1), (13, .bipush 99, 2), (15, .invokestatic 78, 3), (18, .iastore, 1), (19, .return_, 1)]
theorem tk_X2_tire : am_tbl prog_4_method_7_code tb_X2_tire = true := by decide +kernel
def f_X2_tire (M : Nat) (x1 : Int32) (x2 : Int32) (D : am_M) : Option am_M := if am_in x1 5 = true then some (am_up D (M + 1) x1.toNatClampNeg (am_min ((D (M + 1) x1.toNatClampNeg) + x2) 99)) else none
theorem ct_X2_tire {l : Launch} {tw : Nat} {tp : Bool} {M : Nat} (hM : lyM M) {x1 : Int32} {x2 : Int32} {D D' : am_M} (h : f_X2_tire M x1 x2 D = some D') : am_CT l m_X2_tire false [.ref M, .int x1, .int x2] (ly tw tp D) (am_is none (ly tw tp D')) := by
  have hΦ : am_is none (ly tw tp D') none (ly tw tp D') := ⟨rfl, rfl⟩
  refine am_CT.of (by decide) (Nat.le_of_ble_eq_true rfl) ?_
  show am_Ex _ _ _ 0 [(0, .ref M), (1, .int x1), (2, .int x2)] [] _
  rw [f_X2_tire] at h
  refine am_aload_n (j := 0) (am_dk tk_X2_tire 0 rfl) rfl rfl ?_
  refine ly_getr (b := (M + 1)) (lyM_s hM) fl_X2_9 rfl (lyM_r0 hM) (am_dk tk_X2_tire 1 rfl) ?_
  refine am_iload_n (j := 1) (am_dk tk_X2_tire 2 rfl) rfl rfl ?_
  refine am_aload_n (j := 0) (am_dk tk_X2_tire 3 rfl) rfl rfl ?_
  refine ly_getr (b := (M + 1)) (lyM_s hM) fl_X2_9 rfl (lyM_r0 hM) (am_dk tk_X2_tire 4 rfl) ?_
  refine am_iload_n (j := 1) (am_dk tk_X2_tire 5 rfl) rfl rfl ?_
  obtain ⟨hi10, h⟩ := am_chk h
  refine ly_iald (k := x1.toNatClampNeg) (lyM_a0 hM) (am_in_vp hi10) rfl (am_dk tk_X2_tire 6 rfl) ?_
  refine am_iload_n (j := 2) (am_dk tk_X2_tire 7 rfl) rfl rfl ?_
  refine am_iadd (am_dk tk_X2_tire 8 rfl) ?_
  refine am_bipush (v := 99) (am_dk tk_X2_tire 9 rfl) (by decide) ?_
  refine am_mmin lm_X2_78 (Nat.le_of_ble_eq_true rfl) (Nat.le_of_ble_eq_true rfl) ⟨Nat.le_of_ble_eq_true rfl, Nat.le_of_ble_eq_true rfl⟩ (am_dk tk_X2_tire 10 rfl) ?_
  refine ly_iast (k := x1.toNatClampNeg) (lyM_a0 hM) (am_in_vp hi10) rfl (am_dk tk_X2_tire 11 rfl) ?_
  exact am_vret rfl (am_r0 h hΦ) ⟨Nat.le_of_ble_eq_true rfl, Nat.le_of_ble_eq_true rfl⟩ (am_dk tk_X2_tire 12 rfl)
abbrev m_X2_callDebts : am_D := (yX2_callDebts, prog_4_method_8_code, 4, none, { frames := 0, cells := 0, slots := 0, locals := 0 })
theorem ld_X2_callDebts : am_LD m_X2_callDebts 1 := ⟨(am_tb 81 (by decide +kernel) (by decide +kernel)), (am_tb 572 (by decide +kernel) (by decide +kernel)), by decide, by decide, by decide +kernel⟩
def tb_X2_callDebts : List (Nat × Instr × Nat) := [(0, .iconst 0, 1), (1, .istore_n 2, 1), (2, .iload_n 2, 1), (3, .aload_n 1, 1), (4, .getfield 81, 3), (7, .if_icmp .ge 89, 3), (10, .aload_n 1, 1), (11, .getfield 84, 3), (14, .iload_n 2, 1), (15, .iaload, 1), (16, .aload_n 0, 1), (17, .getfield 37, 3), (20, .if_icmp .eq 6, 3), (23, .goto 67, 3), (26, .aload_n 1, 1), (27, .getfield 87, 3), (30, .iload_n 2, 1), (31, .iaload, 1), (32, .istore_n 3, 1), (33, .aload_n 0, 1), (34, .getfield 18, 3), (37, .iload_n 3, 1), (38, .iaload, 1), (39, .aload_n 1, 1), (40, .getfield 90, 3), (43, .iload_n 2, 1), (44, .iaload, 1), (45, .if_icmp .lt 33, 3), (48, .aload_n 0, 1), (49, .getfield 18, 3), (52, .iload_n 3, 1), (53, .dup2, 1), (54, .iaload, 1), (55, .aload_n 1, 1), (56, .getfield 90, 3), (59, .iload_n 2, 1), (60, .iaload, 1), (61, .isub, 1), (62, .iastore, 1), (63, .aload_n 0, 1), (64, .dup, 1), (65, .getfield 30, 3), (68, .iconst 1, 1), (69, .iload_n 2, 1), (70, .ishl, 1), (71, .ior, 1), (72, .putfield 30, 3), (75, .goto 15, 3), (78, .aload_n 0, 1), (79, .dup, 1), (80, .getfield 34, 3), (83, .iconst 1, 1), (84, .iload_n 2, 1), (85, .ishl, 1), (86, .ior, 1), (87, .putfield 34, 3), (90, .iinc 2 1, 3), (93, .goto (-91), 3), (96, .return_, 1)]
theorem tk_X2_callDebts : am_tbl prog_4_method_8_code tb_X2_callDebts = true := by decide +kernel
def b_X2_callDebts_75 (M T : Nat) (k2 : Int32 → am_M → Option am_M) (x2 : Int32) (D : am_M) : Option am_M := k2 (x2 + 1) D
def b_X2_callDebts_2 (M T : Nat) : Nat → Int32 → am_M → Option am_M
  | 0, _, _ => none
  | n + 1, x2, D => if (D T 5) ≤ x2 then some D else if am_in x2 8 = true then if (D (T + 3) x2.toNatClampNeg) = (D M 6) then if am_in (D (T + 2) x2.toNatClampNeg) 5 = true then if (D (M + 3) (D (T + 2) x2.toNatClampNeg).toNatClampNeg) < (D (T + 4) x2.toNatClampNeg) then b_X2_callDebts_2 M T n (x2 + 1) (am_up D M 5 ((D M 5) ||| (1 <<< (x2 &&& 31)))) else b_X2_callDebts_75 M T (b_X2_callDebts_2 M T n) x2 (am_up (am_up D (M + 3) (D (T + 2) x2.toNatClampNeg).toNatClampNeg ((D (M + 3) (D (T + 2) x2.toNatClampNeg).toNatClampNeg) - (D (T + 4) x2.toNatClampNeg))) M 4 (((am_up D (M + 3) (D (T + 2) x2.toNatClampNeg).toNatClampNeg ((D (M + 3) (D (T + 2) x2.toNatClampNeg).toNatClampNeg) - (D (T + 4) x2.toNatClampNeg))) M 4) ||| (1 <<< (x2 &&& 31)))) else none else b_X2_callDebts_2 M T n (x2 + 1) D else none
def f_X2_callDebts (M T : Nat) (D : am_M) : Option am_M := b_X2_callDebts_2 M T am_N 0 D
theorem bx_X2_callDebts_75 {l : Launch} {h0 : am_H} {Φ : am_Ph} {tw : Nat} {tp : Bool} {M : Nat} (hM : lyM M) {T : Nat} (hT : lyT T) {D' : am_M} (hΦ : Φ none (ly tw tp D')) {k2 : Int32 → am_M → Option am_M} (hk2 : ∀ (x2 : Int32) (D : am_M), k2 x2 D = some D' → am_Ex (am_E l m_X2_callDebts false h0 Φ) prog_4_method_8_code (0, 0) 2 [(0, .ref M), (1, .ref T), (2, .int x2)] [] (ly tw tp D)) : ∀ (x2 : Int32) (D : am_M), b_X2_callDebts_75 M T k2 x2 D = some D' → am_Ex (am_E l m_X2_callDebts false h0 Φ) prog_4_method_8_code (0, 0) 75 [(0, .ref M), (1, .ref T), (2, .int x2)] [] (ly tw tp D) := by
  intro x2 D h
  rw [b_X2_callDebts_75] at h
  refine am_goto (tgt := 90) (am_dk tk_X2_callDebts 47 rfl) (by decide) ?_
  refine am_iinc (j := 2) (v := x2 + 1) (L' := [(2, .int (x2 + 1)), (0, .ref M), (1, .ref T)]) (am_dk tk_X2_callDebts 56 rfl) rfl rfl (Nat.le_of_ble_eq_true rfl) rfl ?_
  refine am_goto (tgt := 2) (am_dk tk_X2_callDebts 57 rfl) (by decide) ?_
  refine am_ls [1, 2, 0] rfl ?_
  exact hk2 _ _ h
theorem bx_X2_callDebts_2 {l : Launch} {h0 : am_H} {Φ : am_Ph} {tw : Nat} {tp : Bool} {M : Nat} (hM : lyM M) {T : Nat} (hT : lyT T) {D' : am_M} (hΦ : Φ none (ly tw tp D')) : ∀ (n : Nat) (x2 : Int32) (D : am_M), b_X2_callDebts_2 M T n x2 D = some D' → am_Ex (am_E l m_X2_callDebts false h0 Φ) prog_4_method_8_code (0, 0) 2 [(0, .ref M), (1, .ref T), (2, .int x2)] [] (ly tw tp D) := by
  intro n
  induction n with
  | zero =>
    intro x2 D h
    exact absurd h (by simp [b_X2_callDebts_2])
  | succ n ih =>
    intro x2 D h
    rw [b_X2_callDebts_2] at h
    refine am_iload_n (j := 2) (am_dk tk_X2_callDebts 2 rfl) rfl rfl ?_
    refine am_aload_n (j := 1) (am_dk tk_X2_callDebts 3 rfl) rfl rfl ?_
    refine ly_geti (lyT_s hT) fl_X2_81 rfl (am_dk tk_X2_callDebts 4 rfl) ?_
    refine am_icmp_ge (tgt := 96) (am_dk tk_X2_callDebts 5 rfl) (by decide) (fun hc7 => ?_) (fun hc7 => ?_)
    · rw [if_pos hc7] at h
      exact am_vret rfl (am_r0 h hΦ) ⟨Nat.le_of_ble_eq_true rfl, Nat.le_of_ble_eq_true rfl⟩ (am_dk tk_X2_callDebts 58 rfl)
    · rw [if_neg hc7] at h
      refine am_aload_n (j := 1) (am_dk tk_X2_callDebts 6 rfl) rfl rfl ?_
      refine ly_getr (b := (T + 3)) (lyT_s hT) fl_X2_84 rfl (lyT_r9 hT) (am_dk tk_X2_callDebts 7 rfl) ?_
      refine am_iload_n (j := 2) (am_dk tk_X2_callDebts 8 rfl) rfl rfl ?_
      obtain ⟨hi15, h⟩ := am_chk h
      refine ly_iald (k := x2.toNatClampNeg) (lyT_a9 hT) (am_in_vp hi15) rfl (am_dk tk_X2_callDebts 9 rfl) ?_
      refine am_aload_n (j := 0) (am_dk tk_X2_callDebts 10 rfl) rfl rfl ?_
      refine ly_geti (lyM_s hM) fl_X2_37 rfl (am_dk tk_X2_callDebts 11 rfl) ?_
      refine am_icmp_eq (tgt := 26) (am_dk tk_X2_callDebts 12 rfl) (by decide) (fun hc20 => ?_) (fun hc20 => ?_)
      · rw [if_pos hc20] at h
        refine am_aload_n (j := 1) (am_dk tk_X2_callDebts 14 rfl) rfl rfl ?_
        refine ly_getr (b := (T + 2)) (lyT_s hT) fl_X2_87 rfl (lyT_r8 hT) (am_dk tk_X2_callDebts 15 rfl) ?_
        refine am_iload_n (j := 2) (am_dk tk_X2_callDebts 16 rfl) rfl rfl ?_
        refine ly_iald (k := x2.toNatClampNeg) (lyT_a8 hT) (am_in_vp hi15) rfl (am_dk tk_X2_callDebts 17 rfl) ?_
        refine am_istore_n (L' := [(3, .int (D (T + 2) x2.toNatClampNeg)), (0, .ref M), (1, .ref T), (2, .int x2)]) (am_dk tk_X2_callDebts 18 rfl) rfl (Nat.le_of_ble_eq_true rfl) rfl ?_
        refine am_aload_n (j := 1) (am_dk tk_X2_callDebts 19 rfl) rfl rfl ?_
        refine ly_getr (b := (M + 3)) (lyM_s hM) fl_X2_18 rfl (lyM_r2 hM) (am_dk tk_X2_callDebts 20 rfl) ?_
        refine am_iload_n (j := 0) (am_dk tk_X2_callDebts 21 rfl) rfl rfl ?_
        obtain ⟨hi38, h⟩ := am_chk h
        refine ly_iald (k := (D (T + 2) x2.toNatClampNeg).toNatClampNeg) (lyM_a2 hM) (am_in_vp hi38) rfl (am_dk tk_X2_callDebts 22 rfl) ?_
        refine am_aload_n (j := 2) (am_dk tk_X2_callDebts 23 rfl) rfl rfl ?_
        refine ly_getr (b := (T + 4)) (lyT_s hT) fl_X2_90 rfl (lyT_r10 hT) (am_dk tk_X2_callDebts 24 rfl) ?_
        refine am_iload_n (j := 3) (am_dk tk_X2_callDebts 25 rfl) rfl rfl ?_
        refine ly_iald (k := x2.toNatClampNeg) (lyT_a10 hT) (am_in_vp hi15) rfl (am_dk tk_X2_callDebts 26 rfl) ?_
        refine am_icmp_lt (tgt := 78) (am_dk tk_X2_callDebts 27 rfl) (by decide) (fun hc45 => ?_) (fun hc45 => ?_)
        · rw [if_pos hc45] at h
          refine am_aload_n (j := 1) (am_dk tk_X2_callDebts 48 rfl) rfl rfl ?_
          refine am_dup (am_dk tk_X2_callDebts 49 rfl) rfl ?_
          refine ly_geti (lyM_s hM) fl_X2_34 rfl (am_dk tk_X2_callDebts 50 rfl) ?_
          refine am_iconst (v := 1) (am_dk tk_X2_callDebts 51 rfl) (by decide) ?_
          refine am_iload_n (j := 3) (am_dk tk_X2_callDebts 52 rfl) rfl rfl ?_
          refine am_ishl (am_dk tk_X2_callDebts 53 rfl) ?_
          refine am_ior (am_dk tk_X2_callDebts 54 rfl) ?_
          refine ly_puti (lyM_s hM) fl_X2_34 rfl rfl (am_dk tk_X2_callDebts 55 rfl) ?_
          refine am_iinc (j := 3) (v := x2 + 1) (L' := [(2, .int (x2 + 1)), (3, .int (D (T + 2) x2.toNatClampNeg)), (0, .ref M), (1, .ref T)]) (am_dk tk_X2_callDebts 56 rfl) rfl rfl (Nat.le_of_ble_eq_true rfl) rfl ?_
          refine am_goto (tgt := 2) (am_dk tk_X2_callDebts 57 rfl) (by decide) ?_
          refine am_ls [2, 3, 0] rfl ?_
          exact ih _ _ h
        · rw [if_neg hc45] at h
          refine am_aload_n (j := 1) (am_dk tk_X2_callDebts 28 rfl) rfl rfl ?_
          refine ly_getr (b := (M + 3)) (lyM_s hM) fl_X2_18 rfl (lyM_r2 hM) (am_dk tk_X2_callDebts 29 rfl) ?_
          refine am_iload_n (j := 0) (am_dk tk_X2_callDebts 30 rfl) rfl rfl ?_
          refine am_dup2 (am_dk tk_X2_callDebts 31 rfl) rfl rfl ?_
          refine ly_iald (k := (D (T + 2) x2.toNatClampNeg).toNatClampNeg) (lyM_a2 hM) (am_in_vp hi38) rfl (am_dk tk_X2_callDebts 32 rfl) ?_
          refine am_aload_n (j := 2) (am_dk tk_X2_callDebts 33 rfl) rfl rfl ?_
          refine ly_getr (b := (T + 4)) (lyT_s hT) fl_X2_90 rfl (lyT_r10 hT) (am_dk tk_X2_callDebts 34 rfl) ?_
          refine am_iload_n (j := 3) (am_dk tk_X2_callDebts 35 rfl) rfl rfl ?_
          refine ly_iald (k := x2.toNatClampNeg) (lyT_a10 hT) (am_in_vp hi15) rfl (am_dk tk_X2_callDebts 36 rfl) ?_
          refine am_isub (am_dk tk_X2_callDebts 37 rfl) ?_
          refine ly_iast (k := (D (T + 2) x2.toNatClampNeg).toNatClampNeg) (lyM_a2 hM) (am_in_vp hi38) rfl (am_dk tk_X2_callDebts 38 rfl) ?_
          refine am_aload_n (j := 1) (am_dk tk_X2_callDebts 39 rfl) rfl rfl ?_
          refine am_dup (am_dk tk_X2_callDebts 40 rfl) rfl ?_
          refine ly_geti (lyM_s hM) fl_X2_30 rfl (am_dk tk_X2_callDebts 41 rfl) ?_
          refine am_iconst (v := 1) (am_dk tk_X2_callDebts 42 rfl) (by decide) ?_
          refine am_iload_n (j := 3) (am_dk tk_X2_callDebts 43 rfl) rfl rfl ?_
          refine am_ishl (am_dk tk_X2_callDebts 44 rfl) ?_
          refine am_ior (am_dk tk_X2_callDebts 45 rfl) ?_
          refine ly_puti (lyM_s hM) fl_X2_30 rfl rfl (am_dk tk_X2_callDebts 46 rfl) ?_
          refine am_ls [1, 2, 3] rfl ?_
          exact bx_X2_callDebts_75 hM hT hΦ (ih) _ _ h
      · rw [if_neg hc20] at h
        refine am_goto (tgt := 90) (am_dk tk_X2_callDebts 13 rfl) (by decide) ?_
        refine am_iinc (j := 2) (v := x2 + 1) (L' := [(2, .int (x2 + 1)), (0, .ref M), (1, .ref T)]) (am_dk tk_X2_callDebts 56 rfl) rfl rfl (Nat.le_of_ble_eq_true rfl) rfl ?_
        refine am_goto (tgt := 2) (am_dk tk_X2_callDebts 57 rfl) (by decide) ?_
        refine am_ls [1, 2, 0] rfl ?_
        exact ih _ _ h
theorem ct_X2_callDebts {l : Launch} {tw : Nat} {tp : Bool} {M : Nat} (hM : lyM M) {T : Nat} (hT : lyT T) {D D' : am_M} (h : f_X2_callDebts M T D = some D') : am_CT l m_X2_callDebts false [.ref M, .ref T] (ly tw tp D) (am_is none (ly tw tp D')) := by
  have hΦ : am_is none (ly tw tp D') none (ly tw tp D') := ⟨rfl, rfl⟩
  refine am_CT.of (by decide) (Nat.le_of_ble_eq_true rfl) ?_
  show am_Ex _ _ _ 0 [(0, .ref M), (1, .ref T)] [] _
  rw [f_X2_callDebts] at h
  refine am_iconst (v := 0) (am_dk tk_X2_callDebts 0 rfl) (by decide) ?_
  refine am_istore_n (L' := [(2, .int 0), (0, .ref M), (1, .ref T)]) (am_dk tk_X2_callDebts 1 rfl) rfl (Nat.le_of_ble_eq_true rfl) rfl ?_
  refine am_ls [1, 2, 0] rfl ?_
  exact bx_X2_callDebts_2 hM hT hΦ am_N _ _ h
abbrev m_X2_passHour : am_D := (yX2_passHour, prog_4_method_5_code, 6, none, { frames := 2, cells := 0, slots := 0, locals := 38 })
theorem ld_X2_passHour : am_LD m_X2_passHour 1 := ⟨(am_tb 81 (by decide +kernel) (by decide +kernel)), (am_tb 554 (by decide +kernel) (by decide +kernel)), by decide, by decide, by decide +kernel⟩
def tb_X2_passHour : List (Nat × Instr × Nat) := [(0, .aload_n 0, 1), (1, .getfield 37, 3), (4, .bipush 24, 2), (6, .irem, 1), (7, .istore_n 2, 1), (8, .aload_n 1, 1), (9, .getfield 47, 3), (12, .istore_n 3, 1), (13, .iconst 0, 1), (14, .istore 4, 2), (16, .iload 4, 2), (18, .aload_n 1, 1), (19, .getfield 52, 3), (22, .if_icmp .ge 80, 3), (25, .aload_n 0, 1), (26, .getfield 21, 3), (29, .iload 4, 2), (31, .bipush 24, 2), (33, .imul, 1), (34, .iload_n 2, 1), (35, .iadd, 1), (36, .iaload, 1), (37, .istore 5, 2), (39, .iload 5, 2), (41, .ifCond .ne 30, 3), (44, .aload_n 0, 1), (45, .getfield 9, 3), (48, .iload 4, 2), (50, .iaload, 1), (51, .ifCond .le 20, 3), (54, .iload_n 3, 1), (55, .ifCond .le 16, 3), (58, .iinc 3 (-1), 3), (61, .aload_n 0, 1), (62, .iload 4, 2), (64, .aload_n 1, 1), (65, .invokevirtual 55, 3), (68, .goto 28, 3), (71, .aload_n 0, 1), (72, .getfield 15, 3), (75, .iload 4, 2), (77, .iconst 0, 1), (78, .iastore, 1), (79, .aload_n 0, 1), (80, .iload 4, 2), (82, .iload 5, 2), (84, .iconst 1, 1), (85, .if_icmp .ne 7, 3), (88, .iconst 3, 1), (89, .goto 4, 3), (92, .iconst 1, 1), (93, .invokevirtual 59, 3), (96, .iinc 4 1, 3), (99, .goto (-83), 3), (102, .aload_n 0, 1), (103, .getfield 37, 3), (106, .bipush 71, 2), (108, .if_icmp .gt 8, 3), (111, .aload_n 0, 1), (112, .aload_n 1, 1)]
theorem tk_X2_passHour : am_tbl prog_4_method_5_code tb_X2_passHour = true := by decide +kernel
def tb_X2_passHour_1 : List (Nat × Instr × Nat) := [(113, .invokevirtual 63, 3), (116, .aload_n 0, 1), (117, .dup, 1), (118, .getfield 37, 3), (121, .iconst 1, 1), (122, .iadd, 1), (123, .putfield 37, 3), (126, .return_, 1)]
theorem tk_X2_passHour_1 : am_tbl prog_4_method_5_code tb_X2_passHour_1 = true := by decide +kernel
def b_X2_passHour_116 (M T : Nat) (D : am_M) : Option am_M := some (am_up D M 6 ((D M 6) + 1))
def b_X2_passHour_93 (M T : Nat) (k16 : Int32 → Int32 → Int32 → am_M → Option am_M) (x2 : Int32) (x3 : Int32) (x4 : Int32) (s0 : Int32) (s1 : Int32) (D : am_M) : Option am_M := (f_X2_tire M s1 s0 D).bind fun q93 => k16 x2 x3 (x4 + 1) q93
def b_X2_passHour_71 (M T : Nat) (k16 : Int32 → Int32 → Int32 → am_M → Option am_M) (x2 : Int32) (x3 : Int32) (x4 : Int32) (x5 : Int32) (D : am_M) : Option am_M := if am_in x4 5 = true then b_X2_passHour_93 M T k16 x2 x3 x4 (if x5 = 1 then 3 else 1) x4 (am_up D (M + 2) x4.toNatClampNeg 0) else none
def b_X2_passHour_16 (M T : Nat) : Nat → Int32 → Int32 → Int32 → am_M → Option am_M
  | 0, _, _, _, _ => none
  | n + 1, x2, x3, x4, D => if (D T 3) ≤ x4 then if 71 < (D M 6) then b_X2_passHour_116 M T D else (f_X2_callDebts M T D).bind fun q113 => b_X2_passHour_116 M T q113 else if am_in ((x4 * 24) + x2) 120 = true then if (D (M + 4) ((x4 * 24) + x2).toNatClampNeg) = 0 then if am_in x4 5 = true then if (D (M + 1) x4.toNatClampNeg) ≤ 0 then b_X2_passHour_71 M T (b_X2_passHour_16 M T n) x2 x3 x4 (D (M + 4) ((x4 * 24) + x2).toNatClampNeg) D else if x3 ≤ 0 then b_X2_passHour_71 M T (b_X2_passHour_16 M T n) x2 x3 x4 (D (M + 4) ((x4 * 24) + x2).toNatClampNeg) D else (f_X2_lie M T x4 D).bind fun q65 => b_X2_passHour_16 M T n x2 (x3 + (-1)) (x4 + 1) q65 else none else b_X2_passHour_71 M T (b_X2_passHour_16 M T n) x2 x3 x4 (D (M + 4) ((x4 * 24) + x2).toNatClampNeg) D else none
def f_X2_passHour (M T : Nat) (D : am_M) : Option am_M := b_X2_passHour_16 M T am_N ((D M 6) - (D M 6) / 24 * 24) (D T 0) 0 D
theorem bx_X2_passHour_116 {l : Launch} {h0 : am_H} {Φ : am_Ph} {tw : Nat} {tp : Bool} {M : Nat} (hM : lyM M) {T : Nat} (hT : lyT T) {D' : am_M} (hΦ : Φ none (ly tw tp D')) : ∀ (D : am_M), b_X2_passHour_116 M T D = some D' → am_Ex (am_E l m_X2_passHour false h0 Φ) prog_4_method_5_code (0, 0) 116 [(0, .ref M)] [] (ly tw tp D) := by
  intro  D h
  rw [b_X2_passHour_116] at h
  refine am_aload_n (j := 0) (am_dk tk_X2_passHour_1 1 rfl) rfl rfl ?_
  refine am_dup (am_dk tk_X2_passHour_1 2 rfl) rfl ?_
  refine ly_geti (lyM_s hM) fl_X2_37 rfl (am_dk tk_X2_passHour_1 3 rfl) ?_
  refine am_iconst (v := 1) (am_dk tk_X2_passHour_1 4 rfl) (by decide) ?_
  refine am_iadd (am_dk tk_X2_passHour_1 5 rfl) ?_
  refine ly_puti (lyM_s hM) fl_X2_37 rfl rfl (am_dk tk_X2_passHour_1 6 rfl) ?_
  exact am_vret rfl (am_r0 h hΦ) ⟨Nat.le_of_ble_eq_true rfl, Nat.le_of_ble_eq_true rfl⟩ (am_dk tk_X2_passHour_1 7 rfl)
theorem bx_X2_passHour_93 {l : Launch} {h0 : am_H} {Φ : am_Ph} {tw : Nat} {tp : Bool} {M : Nat} (hM : lyM M) {T : Nat} (hT : lyT T) {D' : am_M} (hΦ : Φ none (ly tw tp D')) {k16 : Int32 → Int32 → Int32 → am_M → Option am_M} (hk16 : ∀ (x2 : Int32) (x3 : Int32) (x4 : Int32) (D : am_M), k16 x2 x3 x4 D = some D' → am_Ex (am_E l m_X2_passHour false h0 Φ) prog_4_method_5_code (0, 0) 16 [(0, .ref M), (1, .ref T), (2, .int x2), (3, .int x3), (4, .int x4)] [] (ly tw tp D)) : ∀ (x2 : Int32) (x3 : Int32) (x4 : Int32) (s0 : Int32) (s1 : Int32) (D : am_M), b_X2_passHour_93 M T k16 x2 x3 x4 s0 s1 D = some D' → am_Ex (am_E l m_X2_passHour false h0 Φ) prog_4_method_5_code (0, 0) 93 [(0, .ref M), (1, .ref T), (2, .int x2), (3, .int x3), (4, .int x4)] [.int s0, .int s1, .ref M] (ly tw tp D) := by
  intro x2 x3 x4 s0 s1 D h
  rw [b_X2_passHour_93] at h
  obtain ⟨q93, hq93, h⟩ := am_bind h
  refine ly_cV (M := m_X2_tire) (As := [.int s1, .int s0]) (b := M) (st := []) (ct_X2_tire hM hq93) (lyM_s hM) (by decide) rfl ml_X2_59 ld_X2_tire rfl ⟨Nat.le_of_ble_eq_true rfl, Nat.le_of_ble_eq_true rfl⟩ (Nat.le_of_ble_eq_true rfl) ⟨rfl, rfl⟩ ⟨Nat.le_of_ble_eq_true rfl, Nat.le_of_ble_eq_true rfl⟩ (am_dk tk_X2_passHour 51 rfl) (am_kkv ?_)
  refine am_iinc (j := 4) (v := x4 + 1) (L' := [(4, .int (x4 + 1)), (0, .ref M), (1, .ref T), (2, .int x2), (3, .int x3)]) (am_dk tk_X2_passHour 52 rfl) rfl rfl (Nat.le_of_ble_eq_true rfl) rfl ?_
  refine am_goto (tgt := 16) (am_dk tk_X2_passHour 53 rfl) (by decide) ?_
  refine am_ls [1, 2, 3, 4, 0] rfl ?_
  exact hk16 _ _ _ _ h
theorem bx_X2_passHour_71 {l : Launch} {h0 : am_H} {Φ : am_Ph} {tw : Nat} {tp : Bool} {M : Nat} (hM : lyM M) {T : Nat} (hT : lyT T) {D' : am_M} (hΦ : Φ none (ly tw tp D')) {k16 : Int32 → Int32 → Int32 → am_M → Option am_M} (hk16 : ∀ (x2 : Int32) (x3 : Int32) (x4 : Int32) (D : am_M), k16 x2 x3 x4 D = some D' → am_Ex (am_E l m_X2_passHour false h0 Φ) prog_4_method_5_code (0, 0) 16 [(0, .ref M), (1, .ref T), (2, .int x2), (3, .int x3), (4, .int x4)] [] (ly tw tp D)) : ∀ (x2 : Int32) (x3 : Int32) (x4 : Int32) (x5 : Int32) (D : am_M), b_X2_passHour_71 M T k16 x2 x3 x4 x5 D = some D' → am_Ex (am_E l m_X2_passHour false h0 Φ) prog_4_method_5_code (0, 0) 71 [(0, .ref M), (1, .ref T), (2, .int x2), (3, .int x3), (4, .int x4), (5, .int x5)] [] (ly tw tp D) := by
  intro x2 x3 x4 x5 D h
  rw [b_X2_passHour_71] at h
  refine am_aload_n (j := 0) (am_dk tk_X2_passHour 38 rfl) rfl rfl ?_
  refine ly_getr (b := (M + 2)) (lyM_s hM) fl_X2_15 rfl (lyM_r1 hM) (am_dk tk_X2_passHour 39 rfl) ?_
  refine am_iload (j := 4) (am_dk tk_X2_passHour 40 rfl) rfl ?_
  refine am_iconst (v := 0) (am_dk tk_X2_passHour 41 rfl) (by decide) ?_
  obtain ⟨hi78, h⟩ := am_chk h
  refine ly_iast (k := x4.toNatClampNeg) (lyM_a1 hM) (am_in_vp hi78) rfl (am_dk tk_X2_passHour 42 rfl) ?_
  refine am_aload_n (j := 0) (am_dk tk_X2_passHour 43 rfl) rfl rfl ?_
  refine am_iload (j := 4) (am_dk tk_X2_passHour 44 rfl) rfl ?_
  refine am_iload (j := 5) (am_dk tk_X2_passHour 45 rfl) rfl ?_
  refine am_iconst (v := 1) (am_dk tk_X2_passHour 46 rfl) (by decide) ?_
  refine am_icmp_ne (tgt := 92) (am_dk tk_X2_passHour 47 rfl) (by decide) (fun hc85 => ?_) (fun hc85 => ?_)
  · simp only [if_neg hc85] at h
    refine am_iconst (v := 1) (am_dk tk_X2_passHour 50 rfl) (by decide) ?_
    refine am_ls [0, 1, 2, 3, 4] rfl ?_
    exact bx_X2_passHour_93 hM hT hΦ hk16 _ _ _ _ _ _ h
  · simp only [if_pos hc85] at h
    refine am_iconst (v := 3) (am_dk tk_X2_passHour 48 rfl) (by decide) ?_
    refine am_goto (tgt := 93) (am_dk tk_X2_passHour 49 rfl) (by decide) ?_
    refine am_ls [0, 1, 2, 3, 4] rfl ?_
    exact bx_X2_passHour_93 hM hT hΦ hk16 _ _ _ _ _ _ h
theorem bx_X2_passHour_16 {l : Launch} {h0 : am_H} {Φ : am_Ph} {tw : Nat} {tp : Bool} {M : Nat} (hM : lyM M) {T : Nat} (hT : lyT T) {D' : am_M} (hΦ : Φ none (ly tw tp D')) : ∀ (n : Nat) (x2 : Int32) (x3 : Int32) (x4 : Int32) (D : am_M), b_X2_passHour_16 M T n x2 x3 x4 D = some D' → am_Ex (am_E l m_X2_passHour false h0 Φ) prog_4_method_5_code (0, 0) 16 [(0, .ref M), (1, .ref T), (2, .int x2), (3, .int x3), (4, .int x4)] [] (ly tw tp D) := by
  intro n
  induction n with
  | zero =>
    intro x2 x3 x4 D h
    exact absurd h (by simp [b_X2_passHour_16])
  | succ n ih =>
    intro x2 x3 x4 D h
    rw [b_X2_passHour_16] at h
    refine am_iload (j := 4) (am_dk tk_X2_passHour 10 rfl) rfl ?_
    refine am_aload_n (j := 1) (am_dk tk_X2_passHour 11 rfl) rfl rfl ?_
    refine ly_geti (lyT_s hT) fl_X2_52 rfl (am_dk tk_X2_passHour 12 rfl) ?_
    refine am_icmp_ge (tgt := 102) (am_dk tk_X2_passHour 13 rfl) (by decide) (fun hc22 => ?_) (fun hc22 => ?_)
    · rw [if_pos hc22] at h
      refine am_aload_n (j := 0) (am_dk tk_X2_passHour 54 rfl) rfl rfl ?_
      refine ly_geti (lyM_s hM) fl_X2_37 rfl (am_dk tk_X2_passHour 55 rfl) ?_
      refine am_bipush (v := 71) (am_dk tk_X2_passHour 56 rfl) (by decide) ?_
      refine am_icmp_gt (tgt := 116) (am_dk tk_X2_passHour 57 rfl) (by decide) (fun hc108 => ?_) (fun hc108 => ?_)
      · rw [if_pos hc108] at h
        refine am_ls [0] rfl ?_
        exact bx_X2_passHour_116 hM hT hΦ _ h
      · rw [if_neg hc108] at h
        refine am_aload_n (j := 0) (am_dk tk_X2_passHour 58 rfl) rfl rfl ?_
        refine am_aload_n (j := 1) (am_dk tk_X2_passHour 59 rfl) rfl rfl ?_
        obtain ⟨q113, hq113, h⟩ := am_bind h
        refine ly_cV (M := m_X2_callDebts) (As := [.ref T]) (b := M) (st := []) (ct_X2_callDebts hM hT hq113) (lyM_s hM) (by decide) rfl ml_X2_63 ld_X2_callDebts rfl ⟨Nat.le_of_ble_eq_true rfl, Nat.le_of_ble_eq_true rfl⟩ (Nat.le_of_ble_eq_true rfl) ⟨rfl, rfl⟩ ⟨Nat.le_of_ble_eq_true rfl, Nat.le_of_ble_eq_true rfl⟩ (am_dk tk_X2_passHour_1 0 rfl) (am_kkv ?_)
        refine am_ls [0] rfl ?_
        exact bx_X2_passHour_116 hM hT hΦ _ h
    · rw [if_neg hc22] at h
      refine am_aload_n (j := 0) (am_dk tk_X2_passHour 14 rfl) rfl rfl ?_
      refine ly_getr (b := (M + 4)) (lyM_s hM) fl_X2_21 rfl (lyM_r3 hM) (am_dk tk_X2_passHour 15 rfl) ?_
      refine am_iload (j := 4) (am_dk tk_X2_passHour 16 rfl) rfl ?_
      refine am_bipush (v := 24) (am_dk tk_X2_passHour 17 rfl) (by decide) ?_
      refine am_imul (am_dk tk_X2_passHour 18 rfl) ?_
      refine am_iload_n (j := 2) (am_dk tk_X2_passHour 19 rfl) rfl rfl ?_
      refine am_iadd (am_dk tk_X2_passHour 20 rfl) ?_
      obtain ⟨hi36, h⟩ := am_chk h
      refine ly_iald (k := ((x4 * 24) + x2).toNatClampNeg) (lyM_a3 hM) (am_in_vp hi36) rfl (am_dk tk_X2_passHour 21 rfl) ?_
      refine am_istore (L' := [(5, .int (D (M + 4) ((x4 * 24) + x2).toNatClampNeg)), (0, .ref M), (1, .ref T), (2, .int x2), (3, .int x3), (4, .int x4)]) (am_dk tk_X2_passHour 22 rfl) (Nat.le_of_ble_eq_true rfl) rfl ?_
      refine am_iload (j := 0) (am_dk tk_X2_passHour 23 rfl) rfl ?_
      refine am_if_ne (tgt := 71) (am_dk tk_X2_passHour 24 rfl) (by decide) (fun hc41 => ?_) (fun hc41 => ?_)
      · rw [if_neg hc41] at h
        refine am_ls [1, 2, 3, 4, 5, 0] rfl ?_
        exact bx_X2_passHour_71 hM hT hΦ (ih) _ _ _ _ _ h
      · rw [if_pos hc41] at h
        refine am_aload_n (j := 1) (am_dk tk_X2_passHour 25 rfl) rfl rfl ?_
        refine ly_getr (b := (M + 1)) (lyM_s hM) fl_X2_9 rfl (lyM_r0 hM) (am_dk tk_X2_passHour 26 rfl) ?_
        refine am_iload (j := 5) (am_dk tk_X2_passHour 27 rfl) rfl ?_
        obtain ⟨hi50, h⟩ := am_chk h
        refine ly_iald (k := x4.toNatClampNeg) (lyM_a0 hM) (am_in_vp hi50) rfl (am_dk tk_X2_passHour 28 rfl) ?_
        refine am_if_le (tgt := 71) (am_dk tk_X2_passHour 29 rfl) (by decide) (fun hc51 => ?_) (fun hc51 => ?_)
        · rw [if_pos hc51] at h
          refine am_ls [1, 2, 3, 4, 5, 0] rfl ?_
          exact bx_X2_passHour_71 hM hT hΦ (ih) _ _ _ _ _ h
        · rw [if_neg hc51] at h
          refine am_iload_n (j := 4) (am_dk tk_X2_passHour 30 rfl) rfl rfl ?_
          refine am_if_le (tgt := 71) (am_dk tk_X2_passHour 31 rfl) (by decide) (fun hc55 => ?_) (fun hc55 => ?_)
          · rw [if_pos hc55] at h
            refine am_ls [1, 2, 3, 4, 5, 0] rfl ?_
            exact bx_X2_passHour_71 hM hT hΦ (ih) _ _ _ _ _ h
          · rw [if_neg hc55] at h
            refine am_iinc (j := 4) (v := x3 + (-1)) (L' := [(3, .int (x3 + (-1))), (5, .int (D (M + 4) ((x4 * 24) + x2).toNatClampNeg)), (0, .ref M), (1, .ref T), (2, .int x2), (4, .int x4)]) (am_dk tk_X2_passHour 32 rfl) rfl rfl (Nat.le_of_ble_eq_true rfl) rfl ?_
            refine am_aload_n (j := 2) (am_dk tk_X2_passHour 33 rfl) rfl rfl ?_
            refine am_iload (j := 5) (am_dk tk_X2_passHour 34 rfl) rfl ?_
            refine am_aload_n (j := 3) (am_dk tk_X2_passHour 35 rfl) rfl rfl ?_
            obtain ⟨q65, hq65, h⟩ := am_bind h
            refine ly_cV (M := m_X2_lie) (As := [.int x4, .ref T]) (b := M) (st := []) (ct_X2_lie hM hT hq65) (lyM_s hM) (by decide) rfl ml_X2_55 ld_X2_lie rfl ⟨Nat.le_of_ble_eq_true rfl, Nat.le_of_ble_eq_true rfl⟩ (Nat.le_of_ble_eq_true rfl) ⟨rfl, rfl⟩ ⟨Nat.le_of_ble_eq_true rfl, Nat.le_of_ble_eq_true rfl⟩ (am_dk tk_X2_passHour 36 rfl) (am_kkv ?_)
            refine am_goto (tgt := 96) (am_dk tk_X2_passHour 37 rfl) (by decide) ?_
            refine am_iinc (j := 5) (v := x4 + 1) (L' := [(4, .int (x4 + 1)), (3, .int (x3 + (-1))), (5, .int (D (M + 4) ((x4 * 24) + x2).toNatClampNeg)), (0, .ref M), (1, .ref T), (2, .int x2)]) (am_dk tk_X2_passHour 52 rfl) rfl rfl (Nat.le_of_ble_eq_true rfl) rfl ?_
            refine am_goto (tgt := 16) (am_dk tk_X2_passHour 53 rfl) (by decide) ?_
            refine am_ls [3, 4, 5, 1, 0] rfl ?_
            exact ih _ _ _ _ h
theorem ct_X2_passHour {l : Launch} {tw : Nat} {tp : Bool} {M : Nat} (hM : lyM M) {T : Nat} (hT : lyT T) {D D' : am_M} (h : f_X2_passHour M T D = some D') : am_CT l m_X2_passHour false [.ref M, .ref T] (ly tw tp D) (am_is none (ly tw tp D')) := by
  have hΦ : am_is none (ly tw tp D') none (ly tw tp D') := ⟨rfl, rfl⟩
  refine am_CT.of (by decide) (Nat.le_of_ble_eq_true rfl) ?_
  show am_Ex _ _ _ 0 [(0, .ref M), (1, .ref T)] [] _
  rw [f_X2_passHour] at h
  refine am_aload_n (j := 0) (am_dk tk_X2_passHour 0 rfl) rfl rfl ?_
  refine ly_geti (lyM_s hM) fl_X2_37 rfl (am_dk tk_X2_passHour 1 rfl) ?_
  refine am_bipush (v := 24) (am_dk tk_X2_passHour 2 rfl) (by decide) ?_
  refine am_irem (am_dk tk_X2_passHour 3 rfl) (by decide) ?_
  refine am_istore_n (L' := [(2, .int ((D M 6) - (D M 6) / 24 * 24)), (0, .ref M), (1, .ref T)]) (am_dk tk_X2_passHour 4 rfl) rfl (Nat.le_of_ble_eq_true rfl) rfl ?_
  refine am_aload_n (j := 2) (am_dk tk_X2_passHour 5 rfl) rfl rfl ?_
  refine ly_geti (lyT_s hT) fl_X2_47 rfl (am_dk tk_X2_passHour 6 rfl) ?_
  refine am_istore_n (L' := [(3, .int (D T 0)), (2, .int ((D M 6) - (D M 6) / 24 * 24)), (0, .ref M), (1, .ref T)]) (am_dk tk_X2_passHour 7 rfl) rfl (Nat.le_of_ble_eq_true rfl) rfl ?_
  refine am_iconst (v := 0) (am_dk tk_X2_passHour 8 rfl) (by decide) ?_
  refine am_istore (L' := [(4, .int 0), (3, .int (D T 0)), (2, .int ((D M 6) - (D M 6) / 24 * 24)), (0, .ref M), (1, .ref T)]) (am_dk tk_X2_passHour 9 rfl) (Nat.le_of_ble_eq_true rfl) rfl ?_
  refine am_ls [3, 4, 2, 1, 0] rfl ?_
  exact bx_X2_passHour_16 hM hT hΦ am_N _ _ _ _ h
abbrev m_X2_passHours : am_D := (yX2_passHours, prog_4_method_4_code, 4, none, { frames := 3, cells := 0, slots := 0, locals := 63 })
theorem ld_X2_passHours : am_LD m_X2_passHours 2 := ⟨(am_tb 81 (by decide +kernel) (by decide +kernel)), (am_tb 550 (by decide +kernel) (by decide +kernel)), by decide, by decide, by decide +kernel⟩
def tb_X2_passHours : List (Nat × Instr × Nat) := [(0, .iconst 0, 1), (1, .istore_n 3, 1), (2, .iload_n 3, 1), (3, .iload_n 2, 1), (4, .if_icmp .ge 14, 3), (7, .aload_n 0, 1), (8, .aload_n 1, 1), (9, .invokevirtual 43, 3), (12, .iinc 3 1, 3), (15, .goto (-13), 3), (18, .return_, 1)]
theorem tk_X2_passHours : am_tbl prog_4_method_4_code tb_X2_passHours = true := by decide +kernel
def b_X2_passHours_2 (M T : Nat) : Nat → Int32 → Int32 → am_M → Option am_M
  | 0, _, _, _ => none
  | n + 1, x2, x3, D => if x2 ≤ x3 then some D else (f_X2_passHour M T D).bind fun q9 => b_X2_passHours_2 M T n x2 (x3 + 1) q9
def f_X2_passHours (M T : Nat) (x2 : Int32) (D : am_M) : Option am_M := b_X2_passHours_2 M T am_N x2 0 D
theorem bx_X2_passHours_2 {l : Launch} {h0 : am_H} {Φ : am_Ph} {tw : Nat} {tp : Bool} {M : Nat} (hM : lyM M) {T : Nat} (hT : lyT T) {D' : am_M} (hΦ : Φ none (ly tw tp D')) : ∀ (n : Nat) (x2 : Int32) (x3 : Int32) (D : am_M), b_X2_passHours_2 M T n x2 x3 D = some D' → am_Ex (am_E l m_X2_passHours false h0 Φ) prog_4_method_4_code (0, 0) 2 [(0, .ref M), (1, .ref T), (2, .int x2), (3, .int x3)] [] (ly tw tp D) := by
  intro n
  induction n with
  | zero =>
    intro x2 x3 D h
    exact absurd h (by simp [b_X2_passHours_2])
  | succ n ih =>
    intro x2 x3 D h
    rw [b_X2_passHours_2] at h
    refine am_iload_n (j := 3) (am_dk tk_X2_passHours 2 rfl) rfl rfl ?_
    refine am_iload_n (j := 2) (am_dk tk_X2_passHours 3 rfl) rfl rfl ?_
    refine am_icmp_ge (tgt := 18) (am_dk tk_X2_passHours 4 rfl) (by decide) (fun hc4 => ?_) (fun hc4 => ?_)
    · rw [if_pos hc4] at h
      exact am_vret rfl (am_r0 h hΦ) ⟨Nat.le_of_ble_eq_true rfl, Nat.le_of_ble_eq_true rfl⟩ (am_dk tk_X2_passHours 10 rfl)
    · rw [if_neg hc4] at h
      refine am_aload_n (j := 0) (am_dk tk_X2_passHours 5 rfl) rfl rfl ?_
      refine am_aload_n (j := 1) (am_dk tk_X2_passHours 6 rfl) rfl rfl ?_
      obtain ⟨q9, hq9, h⟩ := am_bind h
      refine ly_cV (M := m_X2_passHour) (As := [.ref T]) (b := M) (st := []) (ct_X2_passHour hM hT hq9) (lyM_s hM) (by decide) rfl ml_X2_43 ld_X2_passHour rfl ⟨Nat.le_of_ble_eq_true rfl, Nat.le_of_ble_eq_true rfl⟩ (Nat.le_of_ble_eq_true rfl) ⟨rfl, rfl⟩ ⟨Nat.le_of_ble_eq_true rfl, Nat.le_of_ble_eq_true rfl⟩ (am_dk tk_X2_passHours 7 rfl) (am_kkv ?_)
      refine am_iinc (j := 3) (v := x3 + 1) (L' := [(3, .int (x3 + 1)), (0, .ref M), (1, .ref T), (2, .int x2)]) (am_dk tk_X2_passHours 8 rfl) rfl rfl (Nat.le_of_ble_eq_true rfl) rfl ?_
      refine am_goto (tgt := 2) (am_dk tk_X2_passHours 9 rfl) (by decide) ?_
      refine am_ls [1, 2, 3, 0] rfl ?_
      exact ih _ _ _ h
theorem ct_X2_passHours {l : Launch} {tw : Nat} {tp : Bool} {M : Nat} (hM : lyM M) {T : Nat} (hT : lyT T) {x2 : Int32} {D D' : am_M} (h : f_X2_passHours M T x2 D = some D') : am_CT l m_X2_passHours false [.ref M, .ref T, .int x2] (ly tw tp D) (am_is none (ly tw tp D')) := by
  have hΦ : am_is none (ly tw tp D') none (ly tw tp D') := ⟨rfl, rfl⟩
  refine am_CT.of (by decide) (Nat.le_of_ble_eq_true rfl) ?_
  show am_Ex _ _ _ 0 [(0, .ref M), (1, .ref T), (2, .int x2)] [] _
  rw [f_X2_passHours] at h
  refine am_iconst (v := 0) (am_dk tk_X2_passHours 0 rfl) (by decide) ?_
  refine am_istore_n (L' := [(3, .int 0), (0, .ref M), (1, .ref T), (2, .int x2)]) (am_dk tk_X2_passHours 1 rfl) rfl (Nat.le_of_ble_eq_true rfl) rfl ?_
  refine am_ls [1, 2, 3, 0] rfl ?_
  exact bx_X2_passHours_2 hM hT hΦ am_N _ _ _ h
abbrev m_X2_draw : am_D := (yX2_draw, prog_4_method_10_code, 2, (some .int), { frames := 0, cells := 0, slots := 0, locals := 0 })
theorem ld_X2_draw : am_LD m_X2_draw 1 := ⟨(am_tb 81 (by decide +kernel) (by decide +kernel)), (am_tb 584 (by decide +kernel) (by decide +kernel)), by decide, by decide, by decide +kernel⟩
def tb_X2_draw : List (Nat × Instr × Nat) := [(0, .aload_n 0, 1), (1, .aload_n 0, 1), (2, .getfield 40, 3), (5, .i2l, 1), (6, .ldc2_w 97, 3), (9, .lmul, 1), (10, .ldc2_w 99, 3), (13, .ladd, 1), (14, .ldc2_w 101, 3), (17, .land, 1), (18, .l2i, 1), (19, .putfield 40, 3), (22, .iload_n 1, 1), (23, .iconst 1, 1), (24, .if_icmp .ge 7, 3), (27, .iconst 0, 1), (28, .goto 12, 3), (31, .aload_n 0, 1), (32, .getfield 40, 3), (35, .ldc 103, 2), (37, .idiv, 1), (38, .iload_n 1, 1), (39, .irem, 1), (40, .ireturn, 1)]
theorem tk_X2_draw : am_tbl prog_4_method_10_code tb_X2_draw = true := by decide +kernel
def f_X2_draw (M : Nat) (x1 : Int32) (D : am_M) : Option (Int32 × am_M) := if 1 ≤ x1 then if x1 = 0 then none else some ((((am_up D M 7 ((((((D M 7).toInt64) * 1103515245) + 12345) &&& 2147483647).toInt32)) M 7) / 65536) - (((am_up D M 7 ((((((D M 7).toInt64) * 1103515245) + 12345) &&& 2147483647).toInt32)) M 7) / 65536) / x1 * x1, am_up D M 7 ((((((D M 7).toInt64) * 1103515245) + 12345) &&& 2147483647).toInt32)) else some (0, am_up D M 7 ((((((D M 7).toInt64) * 1103515245) + 12345) &&& 2147483647).toInt32))
theorem ct_X2_draw {l : Launch} {tw : Nat} {tp : Bool} {M : Nat} (hM : lyM M) {x1 : Int32} {r : Int32} {D D' : am_M} (h : f_X2_draw M x1 D = some (r, D')) : am_CT l m_X2_draw false [.ref M, .int x1] (ly tw tp D) (am_is (some (.int r)) (ly tw tp D')) := by
  have hΦ : am_is (some (.int r)) (ly tw tp D') (some (.int r)) (ly tw tp D') := ⟨rfl, rfl⟩
  refine am_CT.of (by decide) (Nat.le_of_ble_eq_true rfl) ?_
  show am_Ex _ _ _ 0 [(0, .ref M), (1, .int x1)] [] _
  rw [f_X2_draw] at h
  refine am_aload_n (j := 0) (am_dk tk_X2_draw 0 rfl) rfl rfl ?_
  refine am_aload_n (j := 0) (am_dk tk_X2_draw 1 rfl) rfl rfl ?_
  refine ly_geti (lyM_s hM) fl_X2_40 rfl (am_dk tk_X2_draw 2 rfl) ?_
  refine am_i2l (am_dk tk_X2_draw 3 rfl) ?_
  refine am_ldc2 kl_X2_97 (am_dk tk_X2_draw 4 rfl) ?_
  refine am_lmul (am_dk tk_X2_draw 5 rfl) ?_
  refine am_ldc2 kl_X2_99 (am_dk tk_X2_draw 6 rfl) ?_
  refine am_ladd (am_dk tk_X2_draw 7 rfl) ?_
  refine am_ldc2 kl_X2_101 (am_dk tk_X2_draw 8 rfl) ?_
  refine am_land (am_dk tk_X2_draw 9 rfl) ?_
  refine am_l2i (am_dk tk_X2_draw 10 rfl) ?_
  refine ly_puti (lyM_s hM) fl_X2_40 rfl rfl (am_dk tk_X2_draw 11 rfl) ?_
  refine am_iload_n (j := 1) (am_dk tk_X2_draw 12 rfl) rfl rfl ?_
  refine am_iconst (v := 1) (am_dk tk_X2_draw 13 rfl) (by decide) ?_
  refine am_icmp_ge (tgt := 31) (am_dk tk_X2_draw 14 rfl) (by decide) (fun hc24 => ?_) (fun hc24 => ?_)
  · rw [if_pos hc24] at h
    refine am_aload_n (j := 0) (am_dk tk_X2_draw 17 rfl) rfl rfl ?_
    refine ly_geti (lyM_s hM) fl_X2_40 rfl (am_dk tk_X2_draw 18 rfl) ?_
    refine am_ldc kc_X2_103 (am_dk tk_X2_draw 19 rfl) ?_
    refine am_idiv (am_dk tk_X2_draw 20 rfl) (by decide) ?_
    refine am_iload_n (j := 1) (am_dk tk_X2_draw 21 rfl) rfl rfl ?_
    obtain ⟨hz39, h⟩ := am_chn h
    refine am_irem (am_dk tk_X2_draw 22 rfl) hz39 ?_
    exact am_iret rfl (am_r2 h hΦ) ⟨Nat.le_of_ble_eq_true rfl, Nat.le_of_ble_eq_true rfl⟩ (am_dk tk_X2_draw 23 rfl)
  · rw [if_neg hc24] at h
    refine am_iconst (v := 0) (am_dk tk_X2_draw 15 rfl) (by decide) ?_
    refine am_goto (tgt := 40) (am_dk tk_X2_draw 16 rfl) (by decide) ?_
    exact am_iret rfl (am_r2 h hΦ) ⟨Nat.le_of_ble_eq_true rfl, Nat.le_of_ble_eq_true rfl⟩ (am_dk tk_X2_draw 23 rfl)
abbrev m_X2_wakeByDraw : am_D := (yX2_wakeByDraw, prog_4_method_9_code, 3, none, { frames := 2, cells := 0, slots := 0, locals := 37 })
theorem ld_X2_wakeByDraw : am_LD m_X2_wakeByDraw 1 := ⟨(am_tb 81 (by decide +kernel) (by decide +kernel)), (am_tb 580 (by decide +kernel) (by decide +kernel)), by decide, by decide, by decide +kernel⟩
def tb_X2_wakeByDraw : List (Nat × Instr × Nat) := [(0, .aload_n 0, 1), (1, .bipush 6, 2), (3, .invokevirtual 93, 3), (6, .ifCond .ne 7, 3), (9, .iload_n 1, 1), (10, .ifCond .ne 4, 3), (13, .return_, 1), (14, .aload_n 0, 1), (15, .iload_n 1, 1), (16, .invokevirtual 93, 3), (19, .istore_n 2, 1), (20, .aload_n 0, 1), (21, .getfield 15, 3), (24, .iload_n 2, 1), (25, .iconst 0, 1), (26, .iastore, 1), (27, .aload_n 0, 1), (28, .iload_n 2, 1), (29, .iconst 5, 1), (30, .invokevirtual 59, 3), (33, .return_, 1)]
theorem tk_X2_wakeByDraw : am_tbl prog_4_method_9_code tb_X2_wakeByDraw = true := by decide +kernel
def f_X2_wakeByDraw (M : Nat) (x1 : Int32) (D : am_M) : Option am_M := (f_X2_draw M 6 D).bind fun q3 => if q3.1 = 0 then if x1 = 0 then some q3.2 else (f_X2_draw M x1 q3.2).bind fun q16 => if am_in q16.1 5 = true then (f_X2_tire M q16.1 5 (am_up q16.2 (M + 2) q16.1.toNatClampNeg 0)).bind fun q30 => some q30 else none else some q3.2
theorem ct_X2_wakeByDraw {l : Launch} {tw : Nat} {tp : Bool} {M : Nat} (hM : lyM M) {x1 : Int32} {D D' : am_M} (h : f_X2_wakeByDraw M x1 D = some D') : am_CT l m_X2_wakeByDraw false [.ref M, .int x1] (ly tw tp D) (am_is none (ly tw tp D')) := by
  have hΦ : am_is none (ly tw tp D') none (ly tw tp D') := ⟨rfl, rfl⟩
  refine am_CT.of (by decide) (Nat.le_of_ble_eq_true rfl) ?_
  show am_Ex _ _ _ 0 [(0, .ref M), (1, .int x1)] [] _
  rw [f_X2_wakeByDraw] at h
  refine am_aload_n (j := 0) (am_dk tk_X2_wakeByDraw 0 rfl) rfl rfl ?_
  refine am_bipush (v := 6) (am_dk tk_X2_wakeByDraw 1 rfl) (by decide) ?_
  obtain ⟨q3, hq3, h⟩ := am_bind h
  refine ly_cV (M := m_X2_draw) (As := [.int 6]) (b := M) (st := []) (ct_X2_draw hM hq3) (lyM_s hM) (by decide) rfl ml_X2_93 ld_X2_draw rfl ⟨Nat.le_of_ble_eq_true rfl, Nat.le_of_ble_eq_true rfl⟩ (Nat.le_of_ble_eq_true rfl) ⟨rfl, rfl⟩ ⟨Nat.le_of_ble_eq_true rfl, Nat.le_of_ble_eq_true rfl⟩ (am_dk tk_X2_wakeByDraw 2 rfl) (am_kki ?_)
  refine am_if_ne (tgt := 13) (am_dk tk_X2_wakeByDraw 3 rfl) (by decide) (fun hc6 => ?_) (fun hc6 => ?_)
  · rw [if_neg hc6] at h
    exact am_vret rfl (am_r0 h hΦ) ⟨Nat.le_of_ble_eq_true rfl, Nat.le_of_ble_eq_true rfl⟩ (am_dk tk_X2_wakeByDraw 6 rfl)
  · rw [if_pos hc6] at h
    refine am_iload_n (j := 1) (am_dk tk_X2_wakeByDraw 4 rfl) rfl rfl ?_
    refine am_if_ne (tgt := 14) (am_dk tk_X2_wakeByDraw 5 rfl) (by decide) (fun hc10 => ?_) (fun hc10 => ?_)
    · rw [if_neg hc10] at h
      refine am_aload_n (j := 0) (am_dk tk_X2_wakeByDraw 7 rfl) rfl rfl ?_
      refine am_iload_n (j := 1) (am_dk tk_X2_wakeByDraw 8 rfl) rfl rfl ?_
      obtain ⟨q16, hq16, h⟩ := am_bind h
      refine ly_cV (M := m_X2_draw) (As := [.int x1]) (b := M) (st := []) (ct_X2_draw hM hq16) (lyM_s hM) (by decide) rfl ml_X2_93 ld_X2_draw rfl ⟨Nat.le_of_ble_eq_true rfl, Nat.le_of_ble_eq_true rfl⟩ (Nat.le_of_ble_eq_true rfl) ⟨rfl, rfl⟩ ⟨Nat.le_of_ble_eq_true rfl, Nat.le_of_ble_eq_true rfl⟩ (am_dk tk_X2_wakeByDraw 9 rfl) (am_kki ?_)
      refine am_istore_n (L' := [(2, .int q16.1), (0, .ref M), (1, .int x1)]) (am_dk tk_X2_wakeByDraw 10 rfl) rfl (Nat.le_of_ble_eq_true rfl) rfl ?_
      refine am_aload_n (j := 1) (am_dk tk_X2_wakeByDraw 11 rfl) rfl rfl ?_
      refine ly_getr (b := (M + 2)) (lyM_s hM) fl_X2_15 rfl (lyM_r1 hM) (am_dk tk_X2_wakeByDraw 12 rfl) ?_
      refine am_iload_n (j := 0) (am_dk tk_X2_wakeByDraw 13 rfl) rfl rfl ?_
      refine am_iconst (v := 0) (am_dk tk_X2_wakeByDraw 14 rfl) (by decide) ?_
      obtain ⟨hi26, h⟩ := am_chk h
      refine ly_iast (k := q16.1.toNatClampNeg) (lyM_a1 hM) (am_in_vp hi26) rfl (am_dk tk_X2_wakeByDraw 15 rfl) ?_
      refine am_aload_n (j := 1) (am_dk tk_X2_wakeByDraw 16 rfl) rfl rfl ?_
      refine am_iload_n (j := 0) (am_dk tk_X2_wakeByDraw 17 rfl) rfl rfl ?_
      refine am_iconst (v := 5) (am_dk tk_X2_wakeByDraw 18 rfl) (by decide) ?_
      obtain ⟨q30, hq30, h⟩ := am_bind h
      refine ly_cV (M := m_X2_tire) (As := [.int q16.1, .int 5]) (b := M) (st := []) (ct_X2_tire hM hq30) (lyM_s hM) (by decide) rfl ml_X2_59 ld_X2_tire rfl ⟨Nat.le_of_ble_eq_true rfl, Nat.le_of_ble_eq_true rfl⟩ (Nat.le_of_ble_eq_true rfl) ⟨rfl, rfl⟩ ⟨Nat.le_of_ble_eq_true rfl, Nat.le_of_ble_eq_true rfl⟩ (am_dk tk_X2_wakeByDraw 19 rfl) (am_kkv ?_)
      exact am_vret rfl (am_r0 h hΦ) ⟨Nat.le_of_ble_eq_true rfl, Nat.le_of_ble_eq_true rfl⟩ (am_dk tk_X2_wakeByDraw 20 rfl)
    · rw [if_pos hc10] at h
      exact am_vret rfl (am_r0 h hΦ) ⟨Nat.le_of_ble_eq_true rfl, Nat.le_of_ble_eq_true rfl⟩ (am_dk tk_X2_wakeByDraw 6 rfl)
end
section
abbrev m_X0_forget : am_D := (yX0_forget, prog_2_method_2_code, 1, none, { frames := 0, cells := 0, slots := 0, locals := 0 })
theorem ld_X0_forget : am_LD m_X0_forget 0 := ⟨(am_tb 84 (by decide +kernel) (by decide +kernel)), (am_tb 498 (by decide +kernel) (by decide +kernel)), by decide, by decide, by decide +kernel⟩
def tb_X0_forget : List (Nat × Instr × Nat) := [(0, .aload_n 0, 1), (1, .iconst 0, 1), (2, .putfield 22, 3), (5, .aload_n 0, 1), (6, .iconst 0, 1), (7, .putfield 26, 3), (10, .return_, 1)]
theorem tk_X0_forget : am_tbl prog_2_method_2_code tb_X0_forget = true := by decide +kernel
def f_X0_forget (D : am_M) : Option am_M := some (am_up (am_up D 50 3 0) 50 4 0)
theorem ct_X0_forget {l : Launch} {tw : Nat} {tp : Bool}  {D D' : am_M} (h : f_X0_forget D = some D') : am_CT l m_X0_forget false [.ref 50] (ly tw tp D) (am_is none (ly tw tp D')) := by
  have hΦ : am_is none (ly tw tp D') none (ly tw tp D') := ⟨rfl, rfl⟩
  refine am_CT.of (by decide) (Nat.le_of_ble_eq_true rfl) ?_
  show am_Ex _ _ _ 0 [(0, .ref 50)] [] _
  rw [f_X0_forget] at h
  refine am_aload_n (j := 0) (am_dk tk_X0_forget 0 rfl) rfl rfl ?_
  refine am_iconst (v := 0) (am_dk tk_X0_forget 1 rfl) (by decide) ?_
  refine ly_putz (Or.inl rfl) rfl fl_X0_22 rfl rfl (am_dk tk_X0_forget 2 rfl) ?_
  refine am_aload_n (j := 0) (am_dk tk_X0_forget 3 rfl) rfl rfl ?_
  refine am_iconst (v := 0) (am_dk tk_X0_forget 4 rfl) (by decide) ?_
  refine ly_putz (Or.inl rfl) rfl fl_X0_26 rfl rfl (am_dk tk_X0_forget 5 rfl) ?_
  exact am_vret rfl (am_r0 h hΦ) ⟨Nat.le_of_ble_eq_true rfl, Nat.le_of_ble_eq_true rfl⟩ (am_dk tk_X0_forget 6 rfl)
abbrev m_X0_addCoin : am_D := (yX0_addCoin, prog_2_method_4_code, 3, none, { frames := 1, cells := 0, slots := 0, locals := 15 })
theorem ld_X0_addCoin : am_LD m_X0_addCoin 1 := ⟨(am_tb 84 (by decide +kernel) (by decide +kernel)), (am_tb 741 (by decide +kernel) (by decide +kernel)), by decide, by decide, by decide +kernel⟩
def tb_X0_addCoin : List (Nat × Instr × Nat) := [(0, .aload_n 0, 1), (1, .getfield 9, 3), (4, .iload_n 1, 1), (5, .iconst 1, 1), (6, .bastore, 1), (7, .iload_n 1, 1), (8, .istore_n 2, 1), (9, .iload_n 2, 1), (10, .sipush 200, 3), (13, .if_icmp .gt 34, 3), (16, .aload_n 0, 1), (17, .getfield 15, 3), (20, .iload_n 2, 1), (21, .aload_n 0, 1), (22, .getfield 15, 3), (25, .iload_n 2, 1), (26, .iaload, 1), (27, .aload_n 0, 1), (28, .getfield 15, 3), (31, .iload_n 2, 1), (32, .iload_n 1, 1), (33, .isub, 1), (34, .iaload, 1), (35, .iconst 1, 1), (36, .iadd, 1), (37, .invokestatic 52, 3), (40, .iastore, 1), (41, .iinc 2 1, 3), (44, .goto (-35), 3), (47, .return_, 1)]
theorem tk_X0_addCoin : am_tbl prog_2_method_4_code tb_X0_addCoin = true := by decide +kernel
def b_X0_addCoin_9 : Nat → Int32 → Int32 → am_M → Option am_M
  | 0, _, _, _ => none
  | n + 1, x1, x2, D => if 200 < x2 then some D else if am_in x2 201 = true then if am_in (x2 - x1) 201 = true then b_X0_addCoin_9 n x1 (x2 + 1) (am_up D 52 x2.toNatClampNeg (am_min (D 52 x2.toNatClampNeg) ((D 52 (x2 - x1).toNatClampNeg) + 1))) else none else none
def f_X0_addCoin (x1 : Int32) (D : am_M) : Option am_M := if am_in x1 61 = true then b_X0_addCoin_9 am_N x1 x1 (am_up D 51 x1.toNatClampNeg (vp_nar .boolean 1)) else none
theorem bx_X0_addCoin_9 {l : Launch} {h0 : am_H} {Φ : am_Ph} {tw : Nat} {tp : Bool}  {D' : am_M} (hΦ : Φ none (ly tw tp D')) : ∀ (n : Nat) (x1 : Int32) (x2 : Int32) (D : am_M), b_X0_addCoin_9 n x1 x2 D = some D' → am_Ex (am_E l m_X0_addCoin false h0 Φ) prog_2_method_4_code (0, 0) 9 [(0, .ref 50), (1, .int x1), (2, .int x2)] [] (ly tw tp D) := by
  intro n
  induction n with
  | zero =>
    intro x1 x2 D h
    exact absurd h (by simp [b_X0_addCoin_9])
  | succ n ih =>
    intro x1 x2 D h
    rw [b_X0_addCoin_9] at h
    refine am_iload_n (j := 2) (am_dk tk_X0_addCoin 7 rfl) rfl rfl ?_
    refine am_sipush (v := 200) (am_dk tk_X0_addCoin 8 rfl) (by decide) ?_
    refine am_icmp_gt (tgt := 47) (am_dk tk_X0_addCoin 9 rfl) (by decide) (fun hc13 => ?_) (fun hc13 => ?_)
    · rw [if_pos hc13] at h
      exact am_vret rfl (am_r0 h hΦ) ⟨Nat.le_of_ble_eq_true rfl, Nat.le_of_ble_eq_true rfl⟩ (am_dk tk_X0_addCoin 29 rfl)
    · rw [if_neg hc13] at h
      refine am_aload_n (j := 0) (am_dk tk_X0_addCoin 10 rfl) rfl rfl ?_
      refine ly_getr (b := 52) rfl fl_X0_15 rfl rfl (am_dk tk_X0_addCoin 11 rfl) ?_
      refine am_iload_n (j := 2) (am_dk tk_X0_addCoin 12 rfl) rfl rfl ?_
      refine am_aload_n (j := 0) (am_dk tk_X0_addCoin 13 rfl) rfl rfl ?_
      refine ly_getr (b := 52) rfl fl_X0_15 rfl rfl (am_dk tk_X0_addCoin 14 rfl) ?_
      refine am_iload_n (j := 2) (am_dk tk_X0_addCoin 15 rfl) rfl rfl ?_
      obtain ⟨hi26, h⟩ := am_chk h
      refine ly_iald (k := x2.toNatClampNeg) rfl (am_in_vp hi26) rfl (am_dk tk_X0_addCoin 16 rfl) ?_
      refine am_aload_n (j := 0) (am_dk tk_X0_addCoin 17 rfl) rfl rfl ?_
      refine ly_getr (b := 52) rfl fl_X0_15 rfl rfl (am_dk tk_X0_addCoin 18 rfl) ?_
      refine am_iload_n (j := 2) (am_dk tk_X0_addCoin 19 rfl) rfl rfl ?_
      refine am_iload_n (j := 1) (am_dk tk_X0_addCoin 20 rfl) rfl rfl ?_
      refine am_isub (am_dk tk_X0_addCoin 21 rfl) ?_
      obtain ⟨hi34, h⟩ := am_chk h
      refine ly_iald (k := (x2 - x1).toNatClampNeg) rfl (am_in_vp hi34) rfl (am_dk tk_X0_addCoin 22 rfl) ?_
      refine am_iconst (v := 1) (am_dk tk_X0_addCoin 23 rfl) (by decide) ?_
      refine am_iadd (am_dk tk_X0_addCoin 24 rfl) ?_
      refine am_mmin lm_X0_52 (Nat.le_of_ble_eq_true rfl) (Nat.le_of_ble_eq_true rfl) ⟨Nat.le_of_ble_eq_true rfl, Nat.le_of_ble_eq_true rfl⟩ (am_dk tk_X0_addCoin 25 rfl) ?_
      refine ly_iast (k := x2.toNatClampNeg) rfl (am_in_vp hi26) rfl (am_dk tk_X0_addCoin 26 rfl) ?_
      refine am_iinc (j := 2) (v := x2 + 1) (L' := [(2, .int (x2 + 1)), (0, .ref 50), (1, .int x1)]) (am_dk tk_X0_addCoin 27 rfl) rfl rfl (Nat.le_of_ble_eq_true rfl) rfl ?_
      refine am_goto (tgt := 9) (am_dk tk_X0_addCoin 28 rfl) (by decide) ?_
      refine am_ls [1, 2, 0] rfl ?_
      exact ih _ _ _ h
theorem ct_X0_addCoin {l : Launch} {tw : Nat} {tp : Bool}  {x1 : Int32} {D D' : am_M} (h : f_X0_addCoin x1 D = some D') : am_CT l m_X0_addCoin false [.ref 50, .int x1] (ly tw tp D) (am_is none (ly tw tp D')) := by
  have hΦ : am_is none (ly tw tp D') none (ly tw tp D') := ⟨rfl, rfl⟩
  refine am_CT.of (by decide) (Nat.le_of_ble_eq_true rfl) ?_
  show am_Ex _ _ _ 0 [(0, .ref 50), (1, .int x1)] [] _
  rw [f_X0_addCoin] at h
  refine am_aload_n (j := 0) (am_dk tk_X0_addCoin 0 rfl) rfl rfl ?_
  refine ly_getr (b := 51) rfl fl_X0_9 rfl rfl (am_dk tk_X0_addCoin 1 rfl) ?_
  refine am_iload_n (j := 1) (am_dk tk_X0_addCoin 2 rfl) rfl rfl ?_
  refine am_iconst (v := 1) (am_dk tk_X0_addCoin 3 rfl) (by decide) ?_
  obtain ⟨hi6, h⟩ := am_chk h
  refine ly_bast (k := x1.toNatClampNeg) rfl (am_in_vp hi6) rfl (am_dk tk_X0_addCoin 4 rfl) ?_
  refine am_iload_n (j := 1) (am_dk tk_X0_addCoin 5 rfl) rfl rfl ?_
  refine am_istore_n (L' := [(2, .int x1), (0, .ref 50), (1, .int x1)]) (am_dk tk_X0_addCoin 6 rfl) rfl (Nat.le_of_ble_eq_true rfl) rfl ?_
  refine am_ls [1, 2, 0] rfl ?_
  exact bx_X0_addCoin_9  hΦ am_N _ _ _ h
abbrev m_X0_prepare : am_D := (yX0_prepare, prog_2_method_3_code, 4, none, { frames := 2, cells := 0, slots := 0, locals := 37 })
theorem ld_X0_prepare : am_LD m_X0_prepare 1 := ⟨(am_tb 84 (by decide +kernel) (by decide +kernel)), (am_tb 736 (by decide +kernel) (by decide +kernel)), by decide, by decide, by decide +kernel⟩
def tb_X0_prepare : List (Nat × Instr × Nat) := [(0, .aload_n 0, 1), (1, .getfield 22, 3), (4, .ifCond .eq 4, 3), (7, .return_, 1), (8, .aload_n 0, 1), (9, .iconst 1, 1), (10, .putfield 22, 3), (13, .iconst 1, 1), (14, .istore_n 2, 1), (15, .iload_n 2, 1), (16, .bipush 60, 2), (18, .if_icmp .gt 25, 3), (21, .aload_n 0, 1), (22, .getfield 9, 3), (25, .iload_n 2, 1), (26, .iload_n 2, 1), (27, .iconst 1, 1), (28, .if_icmp .ne 7, 3), (31, .iconst 1, 1), (32, .goto 4, 3), (35, .iconst 0, 1), (36, .bastore, 1), (37, .iinc 2 1, 3), (40, .goto (-25), 3), (43, .iconst 0, 1), (44, .istore_n 2, 1), (45, .iload_n 2, 1), (46, .sipush 200, 3), (49, .if_icmp .gt 16, 3), (52, .aload_n 0, 1), (53, .getfield 15, 3), (56, .iload_n 2, 1), (57, .iload_n 2, 1), (58, .iastore, 1), (59, .iinc 2 1, 3), (62, .goto (-17), 3), (65, .iconst 0, 1), (66, .istore_n 2, 1), (67, .iload_n 2, 1), (68, .aload_n 1, 1), (69, .getfield 36, 3), (72, .if_icmp .ge 31, 3), (75, .aload_n 1, 1), (76, .getfield 41, 3), (79, .iload_n 2, 1), (80, .iaload, 1), (81, .istore_n 3, 1), (82, .iload_n 3, 1), (83, .iconst 1, 1), (84, .bipush 60, 2), (86, .invokestatic 44, 3), (89, .ifCond .eq 8, 3), (92, .aload_n 0, 1), (93, .iload_n 3, 1), (94, .invokevirtual 48, 3), (97, .iinc 2 1, 3), (100, .goto (-33), 3), (103, .return_, 1)]
theorem tk_X0_prepare : am_tbl prog_2_method_3_code tb_X0_prepare = true := by decide +kernel
def b_X0_prepare_67 (T : Nat) : Nat → Int32 → am_M → Option am_M
  | 0, _, _ => none
  | n + 1, x2, D => if (D T 4) ≤ x2 then some D else if am_in x2 4 = true then if (f_X5_isWithin (D (T + 1) x2.toNatClampNeg) 1 60) = 0 then b_X0_prepare_67 T n (x2 + 1) D else (f_X0_addCoin (D (T + 1) x2.toNatClampNeg) D).bind fun q94 => b_X0_prepare_67 T n (x2 + 1) q94 else none
def b_X0_prepare_45 (T : Nat) : Nat → Int32 → am_M → Option am_M
  | 0, _, _ => none
  | n + 1, x2, D => if 200 < x2 then b_X0_prepare_67 T am_N 0 D else if am_in x2 201 = true then b_X0_prepare_45 T n (x2 + 1) (am_up D 52 x2.toNatClampNeg x2) else none
def b_X0_prepare_36 (T : Nat) (k15 : Int32 → am_M → Option am_M) (x2 : Int32) (s0 : Int32) (s1 : Int32) (D : am_M) : Option am_M := if am_in s1 61 = true then k15 (x2 + 1) (am_up D 51 s1.toNatClampNeg (vp_nar .boolean s0)) else none
def b_X0_prepare_15 (T : Nat) : Nat → Int32 → am_M → Option am_M
  | 0, _, _ => none
  | n + 1, x2, D => if 60 < x2 then b_X0_prepare_45 T am_N 0 D else b_X0_prepare_36 T (b_X0_prepare_15 T n) x2 (if x2 = 1 then 1 else 0) x2 D
def f_X0_prepare (T : Nat) (D : am_M) : Option am_M := if (D 50 3) = 0 then b_X0_prepare_15 T am_N 1 (am_up D 50 3 1) else some D
theorem bx_X0_prepare_67 {l : Launch} {h0 : am_H} {Φ : am_Ph} {tw : Nat} {tp : Bool} {T : Nat} (hT : lyT T) {D' : am_M} (hΦ : Φ none (ly tw tp D')) : ∀ (n : Nat) (x2 : Int32) (D : am_M), b_X0_prepare_67 T n x2 D = some D' → am_Ex (am_E l m_X0_prepare false h0 Φ) prog_2_method_3_code (0, 0) 67 [(0, .ref 50), (1, .ref T), (2, .int x2)] [] (ly tw tp D) := by
  intro n
  induction n with
  | zero =>
    intro x2 D h
    exact absurd h (by simp [b_X0_prepare_67])
  | succ n ih =>
    intro x2 D h
    rw [b_X0_prepare_67] at h
    refine am_iload_n (j := 2) (am_dk tk_X0_prepare 38 rfl) rfl rfl ?_
    refine am_aload_n (j := 1) (am_dk tk_X0_prepare 39 rfl) rfl rfl ?_
    refine ly_geti (lyT_s hT) fl_X0_36 rfl (am_dk tk_X0_prepare 40 rfl) ?_
    refine am_icmp_ge (tgt := 103) (am_dk tk_X0_prepare 41 rfl) (by decide) (fun hc72 => ?_) (fun hc72 => ?_)
    · rw [if_pos hc72] at h
      exact am_vret rfl (am_r0 h hΦ) ⟨Nat.le_of_ble_eq_true rfl, Nat.le_of_ble_eq_true rfl⟩ (am_dk tk_X0_prepare 57 rfl)
    · rw [if_neg hc72] at h
      refine am_aload_n (j := 1) (am_dk tk_X0_prepare 42 rfl) rfl rfl ?_
      refine ly_getr (b := (T + 1)) (lyT_s hT) fl_X0_41 rfl (lyT_r7 hT) (am_dk tk_X0_prepare 43 rfl) ?_
      refine am_iload_n (j := 2) (am_dk tk_X0_prepare 44 rfl) rfl rfl ?_
      obtain ⟨hi80, h⟩ := am_chk h
      refine ly_iald (k := x2.toNatClampNeg) (lyT_a7 hT) (am_in_vp hi80) rfl (am_dk tk_X0_prepare 45 rfl) ?_
      refine am_istore_n (L' := [(3, .int (D (T + 1) x2.toNatClampNeg)), (0, .ref 50), (1, .ref T), (2, .int x2)]) (am_dk tk_X0_prepare 46 rfl) rfl (Nat.le_of_ble_eq_true rfl) rfl ?_
      refine am_iload_n (j := 0) (am_dk tk_X0_prepare 47 rfl) rfl rfl ?_
      refine am_iconst (v := 1) (am_dk tk_X0_prepare 48 rfl) (by decide) ?_
      refine am_bipush (v := 60) (am_dk tk_X0_prepare 49 rfl) (by decide) ?_
      refine am_cSN (M := m_X5_isWithin) (As := [.int (D (T + 1) x2.toNatClampNeg), .int 1, .int 60]) (st := []) (ct_X5_isWithin _ _ _ _) ml_X0_44 ld_X5_isWithin rfl ⟨Nat.le_of_ble_eq_true rfl, Nat.le_of_ble_eq_true rfl⟩ (Nat.le_of_ble_eq_true rfl) ⟨rfl, rfl⟩ ⟨Nat.le_of_ble_eq_true rfl, Nat.le_of_ble_eq_true rfl⟩ (am_dk tk_X0_prepare 50 rfl) (am_kki ?_)
      refine am_if_eq (tgt := 97) (am_dk tk_X0_prepare 51 rfl) (by decide) (fun hc89 => ?_) (fun hc89 => ?_)
      · rw [if_pos hc89] at h
        refine am_iinc (j := 3) (v := x2 + 1) (L' := [(2, .int (x2 + 1)), (3, .int (D (T + 1) x2.toNatClampNeg)), (0, .ref 50), (1, .ref T)]) (am_dk tk_X0_prepare 55 rfl) rfl rfl (Nat.le_of_ble_eq_true rfl) rfl ?_
        refine am_goto (tgt := 67) (am_dk tk_X0_prepare 56 rfl) (by decide) ?_
        refine am_ls [2, 3, 0] rfl ?_
        exact ih _ _ h
      · rw [if_neg hc89] at h
        refine am_aload_n (j := 1) (am_dk tk_X0_prepare 52 rfl) rfl rfl ?_
        refine am_iload_n (j := 0) (am_dk tk_X0_prepare 53 rfl) rfl rfl ?_
        obtain ⟨q94, hq94, h⟩ := am_bind h
        refine ly_cV (M := m_X0_addCoin) (As := [.int (D (T + 1) x2.toNatClampNeg)]) (b := 50) (st := []) (ct_X0_addCoin hq94) rfl (by decide) rfl ml_X0_48 ld_X0_addCoin rfl ⟨Nat.le_of_ble_eq_true rfl, Nat.le_of_ble_eq_true rfl⟩ (Nat.le_of_ble_eq_true rfl) ⟨rfl, rfl⟩ ⟨Nat.le_of_ble_eq_true rfl, Nat.le_of_ble_eq_true rfl⟩ (am_dk tk_X0_prepare 54 rfl) (am_kkv ?_)
        refine am_iinc (j := 3) (v := x2 + 1) (L' := [(2, .int (x2 + 1)), (3, .int (D (T + 1) x2.toNatClampNeg)), (0, .ref 50), (1, .ref T)]) (am_dk tk_X0_prepare 55 rfl) rfl rfl (Nat.le_of_ble_eq_true rfl) rfl ?_
        refine am_goto (tgt := 67) (am_dk tk_X0_prepare 56 rfl) (by decide) ?_
        refine am_ls [2, 3, 0] rfl ?_
        exact ih _ _ h
theorem bx_X0_prepare_45 {l : Launch} {h0 : am_H} {Φ : am_Ph} {tw : Nat} {tp : Bool} {T : Nat} (hT : lyT T) {D' : am_M} (hΦ : Φ none (ly tw tp D')) : ∀ (n : Nat) (x2 : Int32) (D : am_M), b_X0_prepare_45 T n x2 D = some D' → am_Ex (am_E l m_X0_prepare false h0 Φ) prog_2_method_3_code (0, 0) 45 [(0, .ref 50), (1, .ref T), (2, .int x2)] [] (ly tw tp D) := by
  intro n
  induction n with
  | zero =>
    intro x2 D h
    exact absurd h (by simp [b_X0_prepare_45])
  | succ n ih =>
    intro x2 D h
    rw [b_X0_prepare_45] at h
    refine am_iload_n (j := 2) (am_dk tk_X0_prepare 26 rfl) rfl rfl ?_
    refine am_sipush (v := 200) (am_dk tk_X0_prepare 27 rfl) (by decide) ?_
    refine am_icmp_gt (tgt := 65) (am_dk tk_X0_prepare 28 rfl) (by decide) (fun hc49 => ?_) (fun hc49 => ?_)
    · rw [if_pos hc49] at h
      refine am_iconst (v := 0) (am_dk tk_X0_prepare 36 rfl) (by decide) ?_
      refine am_istore_n (L' := [(2, .int 0), (0, .ref 50), (1, .ref T)]) (am_dk tk_X0_prepare 37 rfl) rfl (Nat.le_of_ble_eq_true rfl) rfl ?_
      refine am_ls [1, 2, 0] rfl ?_
      exact bx_X0_prepare_67 hT hΦ am_N _ _ h
    · rw [if_neg hc49] at h
      refine am_aload_n (j := 0) (am_dk tk_X0_prepare 29 rfl) rfl rfl ?_
      refine ly_getr (b := 52) rfl fl_X0_15 rfl rfl (am_dk tk_X0_prepare 30 rfl) ?_
      refine am_iload_n (j := 2) (am_dk tk_X0_prepare 31 rfl) rfl rfl ?_
      refine am_iload_n (j := 2) (am_dk tk_X0_prepare 32 rfl) rfl rfl ?_
      obtain ⟨hi58, h⟩ := am_chk h
      refine ly_iast (k := x2.toNatClampNeg) rfl (am_in_vp hi58) rfl (am_dk tk_X0_prepare 33 rfl) ?_
      refine am_iinc (j := 2) (v := x2 + 1) (L' := [(2, .int (x2 + 1)), (0, .ref 50), (1, .ref T)]) (am_dk tk_X0_prepare 34 rfl) rfl rfl (Nat.le_of_ble_eq_true rfl) rfl ?_
      refine am_goto (tgt := 45) (am_dk tk_X0_prepare 35 rfl) (by decide) ?_
      refine am_ls [1, 2, 0] rfl ?_
      exact ih _ _ h
theorem bx_X0_prepare_36 {l : Launch} {h0 : am_H} {Φ : am_Ph} {tw : Nat} {tp : Bool} {T : Nat} (hT : lyT T) {D' : am_M} (hΦ : Φ none (ly tw tp D')) {k15 : Int32 → am_M → Option am_M} (hk15 : ∀ (x2 : Int32) (D : am_M), k15 x2 D = some D' → am_Ex (am_E l m_X0_prepare false h0 Φ) prog_2_method_3_code (0, 0) 15 [(0, .ref 50), (1, .ref T), (2, .int x2)] [] (ly tw tp D)) : ∀ (x2 : Int32) (s0 : Int32) (s1 : Int32) (D : am_M), b_X0_prepare_36 T k15 x2 s0 s1 D = some D' → am_Ex (am_E l m_X0_prepare false h0 Φ) prog_2_method_3_code (0, 0) 36 [(0, .ref 50), (1, .ref T), (2, .int x2)] [.int s0, .int s1, .ref 51] (ly tw tp D) := by
  intro x2 s0 s1 D h
  rw [b_X0_prepare_36] at h
  obtain ⟨hi36, h⟩ := am_chk h
  refine ly_bast (k := s1.toNatClampNeg) rfl (am_in_vp hi36) rfl (am_dk tk_X0_prepare 21 rfl) ?_
  refine am_iinc (j := 2) (v := x2 + 1) (L' := [(2, .int (x2 + 1)), (0, .ref 50), (1, .ref T)]) (am_dk tk_X0_prepare 22 rfl) rfl rfl (Nat.le_of_ble_eq_true rfl) rfl ?_
  refine am_goto (tgt := 15) (am_dk tk_X0_prepare 23 rfl) (by decide) ?_
  refine am_ls [1, 2, 0] rfl ?_
  exact hk15 _ _ h
theorem bx_X0_prepare_15 {l : Launch} {h0 : am_H} {Φ : am_Ph} {tw : Nat} {tp : Bool} {T : Nat} (hT : lyT T) {D' : am_M} (hΦ : Φ none (ly tw tp D')) : ∀ (n : Nat) (x2 : Int32) (D : am_M), b_X0_prepare_15 T n x2 D = some D' → am_Ex (am_E l m_X0_prepare false h0 Φ) prog_2_method_3_code (0, 0) 15 [(0, .ref 50), (1, .ref T), (2, .int x2)] [] (ly tw tp D) := by
  intro n
  induction n with
  | zero =>
    intro x2 D h
    exact absurd h (by simp [b_X0_prepare_15])
  | succ n ih =>
    intro x2 D h
    rw [b_X0_prepare_15] at h
    refine am_iload_n (j := 2) (am_dk tk_X0_prepare 9 rfl) rfl rfl ?_
    refine am_bipush (v := 60) (am_dk tk_X0_prepare 10 rfl) (by decide) ?_
    refine am_icmp_gt (tgt := 43) (am_dk tk_X0_prepare 11 rfl) (by decide) (fun hc18 => ?_) (fun hc18 => ?_)
    · rw [if_pos hc18] at h
      refine am_iconst (v := 0) (am_dk tk_X0_prepare 24 rfl) (by decide) ?_
      refine am_istore_n (L' := [(2, .int 0), (0, .ref 50), (1, .ref T)]) (am_dk tk_X0_prepare 25 rfl) rfl (Nat.le_of_ble_eq_true rfl) rfl ?_
      refine am_ls [1, 2, 0] rfl ?_
      exact bx_X0_prepare_45 hT hΦ am_N _ _ h
    · rw [if_neg hc18] at h
      refine am_aload_n (j := 0) (am_dk tk_X0_prepare 12 rfl) rfl rfl ?_
      refine ly_getr (b := 51) rfl fl_X0_9 rfl rfl (am_dk tk_X0_prepare 13 rfl) ?_
      refine am_iload_n (j := 2) (am_dk tk_X0_prepare 14 rfl) rfl rfl ?_
      refine am_iload_n (j := 2) (am_dk tk_X0_prepare 15 rfl) rfl rfl ?_
      refine am_iconst (v := 1) (am_dk tk_X0_prepare 16 rfl) (by decide) ?_
      refine am_icmp_ne (tgt := 35) (am_dk tk_X0_prepare 17 rfl) (by decide) (fun hc28 => ?_) (fun hc28 => ?_)
      · simp only [if_neg hc28] at h
        refine am_iconst (v := 0) (am_dk tk_X0_prepare 20 rfl) (by decide) ?_
        exact bx_X0_prepare_36 hT hΦ (ih) _ _ _ _ h
      · simp only [if_pos hc28] at h
        refine am_iconst (v := 1) (am_dk tk_X0_prepare 18 rfl) (by decide) ?_
        refine am_goto (tgt := 36) (am_dk tk_X0_prepare 19 rfl) (by decide) ?_
        exact bx_X0_prepare_36 hT hΦ (ih) _ _ _ _ h
theorem ct_X0_prepare {l : Launch} {tw : Nat} {tp : Bool} {T : Nat} (hT : lyT T) {D D' : am_M} (h : f_X0_prepare T D = some D') : am_CT l m_X0_prepare false [.ref 50, .ref T] (ly tw tp D) (am_is none (ly tw tp D')) := by
  have hΦ : am_is none (ly tw tp D') none (ly tw tp D') := ⟨rfl, rfl⟩
  refine am_CT.of (by decide) (Nat.le_of_ble_eq_true rfl) ?_
  show am_Ex _ _ _ 0 [(0, .ref 50), (1, .ref T)] [] _
  rw [f_X0_prepare] at h
  refine am_aload_n (j := 0) (am_dk tk_X0_prepare 0 rfl) rfl rfl ?_
  refine ly_geti rfl fl_X0_22 rfl (am_dk tk_X0_prepare 1 rfl) ?_
  refine am_if_eq (tgt := 8) (am_dk tk_X0_prepare 2 rfl) (by decide) (fun hc4 => ?_) (fun hc4 => ?_)
  · rw [if_pos hc4] at h
    refine am_aload_n (j := 0) (am_dk tk_X0_prepare 4 rfl) rfl rfl ?_
    refine am_iconst (v := 1) (am_dk tk_X0_prepare 5 rfl) (by decide) ?_
    refine ly_putz (Or.inr rfl) rfl fl_X0_22 rfl rfl (am_dk tk_X0_prepare 6 rfl) ?_
    refine am_iconst (v := 1) (am_dk tk_X0_prepare 7 rfl) (by decide) ?_
    refine am_istore_n (L' := [(2, .int 1), (0, .ref 50), (1, .ref T)]) (am_dk tk_X0_prepare 8 rfl) rfl (Nat.le_of_ble_eq_true rfl) rfl ?_
    refine am_ls [1, 2, 0] rfl ?_
    exact bx_X0_prepare_15 hT hΦ am_N _ _ h
  · rw [if_neg hc4] at h
    exact am_vret rfl (am_r0 h hΦ) ⟨Nat.le_of_ble_eq_true rfl, Nat.le_of_ble_eq_true rfl⟩ (am_dk tk_X0_prepare 3 rfl)
abbrev m_X0_countTaken : am_D := (yX0_countTaken, prog_2_method_6_code, 5, (some .int), { frames := 0, cells := 0, slots := 0, locals := 0 })
theorem ld_X0_countTaken : am_LD m_X0_countTaken 2 := ⟨(am_tb 84 (by decide +kernel) (by decide +kernel)), (am_tb 750 (by decide +kernel) (by decide +kernel)), by decide, by decide, by decide +kernel⟩
def tb_X0_countTaken : List (Nat × Instr × Nat) := [(0, .iload_n 2, 1), (1, .istore_n 3, 1), (2, .iconst 0, 1), (3, .istore 4, 2), (5, .iload_n 3, 1), (6, .iload_n 1, 1), (7, .if_icmp .lt 32, 3), (10, .aload_n 0, 1), (11, .getfield 15, 3), (14, .iload_n 3, 1), (15, .iload_n 1, 1), (16, .isub, 1), (17, .iaload, 1), (18, .iconst 1, 1), (19, .iadd, 1), (20, .aload_n 0, 1), (21, .getfield 15, 3), (24, .iload_n 3, 1), (25, .iaload, 1), (26, .if_icmp .ne 13, 3), (29, .iload_n 3, 1), (30, .iload_n 1, 1), (31, .isub, 1), (32, .istore_n 3, 1), (33, .iinc 4 1, 3), (36, .goto (-31), 3), (39, .iload 4, 2), (41, .ireturn, 1)]
theorem tk_X0_countTaken : am_tbl prog_2_method_6_code tb_X0_countTaken = true := by decide +kernel
def b_X0_countTaken_5 : Nat → Int32 → Int32 → Int32 → am_M → Option (Int32 × am_M)
  | 0, _, _, _, _ => none
  | n + 1, x1, x3, x4, D => if x3 < x1 then some (x4, D) else if am_in (x3 - x1) 201 = true then if am_in x3 201 = true then if ((D 52 (x3 - x1).toNatClampNeg) + 1) = (D 52 x3.toNatClampNeg) then b_X0_countTaken_5 n x1 (x3 - x1) (x4 + 1) D else some (x4, D) else none else none
def f_X0_countTaken (x1 : Int32) (x2 : Int32) (D : am_M) : Option (Int32 × am_M) := b_X0_countTaken_5 am_N x1 x2 0 D
theorem bx_X0_countTaken_5 {l : Launch} {h0 : am_H} {Φ : am_Ph} {tw : Nat} {tp : Bool}  {r : Int32} {D' : am_M} (hΦ : Φ (some (.int r)) (ly tw tp D')) : ∀ (n : Nat) (x1 : Int32) (x3 : Int32) (x4 : Int32) (D : am_M), b_X0_countTaken_5 n x1 x3 x4 D = some (r, D') → am_Ex (am_E l m_X0_countTaken false h0 Φ) prog_2_method_6_code (0, 0) 5 [(0, .ref 50), (1, .int x1), (3, .int x3), (4, .int x4)] [] (ly tw tp D) := by
  intro n
  induction n with
  | zero =>
    intro x1 x3 x4 D h
    exact absurd h (by simp [b_X0_countTaken_5])
  | succ n ih =>
    intro x1 x3 x4 D h
    rw [b_X0_countTaken_5] at h
    refine am_iload_n (j := 2) (am_dk tk_X0_countTaken 4 rfl) rfl rfl ?_
    refine am_iload_n (j := 1) (am_dk tk_X0_countTaken 5 rfl) rfl rfl ?_
    refine am_icmp_lt (tgt := 39) (am_dk tk_X0_countTaken 6 rfl) (by decide) (fun hc7 => ?_) (fun hc7 => ?_)
    · rw [if_pos hc7] at h
      refine am_iload (j := 3) (am_dk tk_X0_countTaken 26 rfl) rfl ?_
      exact am_iret rfl (am_r2 h hΦ) ⟨Nat.le_of_ble_eq_true rfl, Nat.le_of_ble_eq_true rfl⟩ (am_dk tk_X0_countTaken 27 rfl)
    · rw [if_neg hc7] at h
      refine am_aload_n (j := 0) (am_dk tk_X0_countTaken 7 rfl) rfl rfl ?_
      refine ly_getr (b := 52) rfl fl_X0_15 rfl rfl (am_dk tk_X0_countTaken 8 rfl) ?_
      refine am_iload_n (j := 2) (am_dk tk_X0_countTaken 9 rfl) rfl rfl ?_
      refine am_iload_n (j := 1) (am_dk tk_X0_countTaken 10 rfl) rfl rfl ?_
      refine am_isub (am_dk tk_X0_countTaken 11 rfl) ?_
      obtain ⟨hi17, h⟩ := am_chk h
      refine ly_iald (k := (x3 - x1).toNatClampNeg) rfl (am_in_vp hi17) rfl (am_dk tk_X0_countTaken 12 rfl) ?_
      refine am_iconst (v := 1) (am_dk tk_X0_countTaken 13 rfl) (by decide) ?_
      refine am_iadd (am_dk tk_X0_countTaken 14 rfl) ?_
      refine am_aload_n (j := 0) (am_dk tk_X0_countTaken 15 rfl) rfl rfl ?_
      refine ly_getr (b := 52) rfl fl_X0_15 rfl rfl (am_dk tk_X0_countTaken 16 rfl) ?_
      refine am_iload_n (j := 2) (am_dk tk_X0_countTaken 17 rfl) rfl rfl ?_
      obtain ⟨hi25, h⟩ := am_chk h
      refine ly_iald (k := x3.toNatClampNeg) rfl (am_in_vp hi25) rfl (am_dk tk_X0_countTaken 18 rfl) ?_
      refine am_icmp_ne (tgt := 39) (am_dk tk_X0_countTaken 19 rfl) (by decide) (fun hc26 => ?_) (fun hc26 => ?_)
      · rw [if_neg hc26] at h
        refine am_iload (j := 3) (am_dk tk_X0_countTaken 26 rfl) rfl ?_
        exact am_iret rfl (am_r2 h hΦ) ⟨Nat.le_of_ble_eq_true rfl, Nat.le_of_ble_eq_true rfl⟩ (am_dk tk_X0_countTaken 27 rfl)
      · rw [if_pos hc26] at h
        refine am_iload_n (j := 2) (am_dk tk_X0_countTaken 20 rfl) rfl rfl ?_
        refine am_iload_n (j := 1) (am_dk tk_X0_countTaken 21 rfl) rfl rfl ?_
        refine am_isub (am_dk tk_X0_countTaken 22 rfl) ?_
        refine am_istore_n (L' := [(3, .int (x3 - x1)), (0, .ref 50), (1, .int x1), (4, .int x4)]) (am_dk tk_X0_countTaken 23 rfl) rfl (Nat.le_of_ble_eq_true rfl) rfl ?_
        refine am_iinc (j := 3) (v := x4 + 1) (L' := [(4, .int (x4 + 1)), (3, .int (x3 - x1)), (0, .ref 50), (1, .int x1)]) (am_dk tk_X0_countTaken 24 rfl) rfl rfl (Nat.le_of_ble_eq_true rfl) rfl ?_
        refine am_goto (tgt := 5) (am_dk tk_X0_countTaken 25 rfl) (by decide) ?_
        refine am_ls [2, 3, 1, 0] rfl ?_
        exact ih _ _ _ _ h
theorem ct_X0_countTaken {l : Launch} {tw : Nat} {tp : Bool}  {x1 : Int32} {x2 : Int32} {r : Int32} {D D' : am_M} (h : f_X0_countTaken x1 x2 D = some (r, D')) : am_CT l m_X0_countTaken false [.ref 50, .int x1, .int x2] (ly tw tp D) (am_is (some (.int r)) (ly tw tp D')) := by
  have hΦ : am_is (some (.int r)) (ly tw tp D') (some (.int r)) (ly tw tp D') := ⟨rfl, rfl⟩
  refine am_CT.of (by decide) (Nat.le_of_ble_eq_true rfl) ?_
  show am_Ex _ _ _ 0 [(0, .ref 50), (1, .int x1), (2, .int x2)] [] _
  rw [f_X0_countTaken] at h
  refine am_iload_n (j := 2) (am_dk tk_X0_countTaken 0 rfl) rfl rfl ?_
  refine am_istore_n (L' := [(3, .int x2), (0, .ref 50), (1, .int x1), (2, .int x2)]) (am_dk tk_X0_countTaken 1 rfl) rfl (Nat.le_of_ble_eq_true rfl) rfl ?_
  refine am_iconst (v := 0) (am_dk tk_X0_countTaken 2 rfl) (by decide) ?_
  refine am_istore (L' := [(4, .int 0), (3, .int x2), (0, .ref 50), (1, .int x1), (2, .int x2)]) (am_dk tk_X0_countTaken 3 rfl) (Nat.le_of_ble_eq_true rfl) rfl ?_
  refine am_ls [2, 3, 1, 0] rfl ?_
  exact bx_X0_countTaken_5  hΦ am_N _ _ _ _ h
abbrev m_X0_countOf : am_D := (yX0_countOf, prog_2_method_5_code, 6, (some .int), { frames := 1, cells := 0, slots := 0, locals := 24 })
theorem ld_X0_countOf : am_LD m_X0_countOf 2 := ⟨(am_tb 84 (by decide +kernel) (by decide +kernel)), (am_tb 746 (by decide +kernel) (by decide +kernel)), by decide, by decide, by decide +kernel⟩
def tb_X0_countOf : List (Nat × Instr × Nat) := [(0, .iload_n 1, 1), (1, .iconst 1, 1), (2, .bipush 60, 2), (4, .invokestatic 44, 3), (7, .ifCond .eq 12, 3), (10, .aload_n 0, 1), (11, .getfield 9, 3), (14, .iload_n 1, 1), (15, .baload, 1), (16, .ifCond .ne 5, 3), (19, .iconst 0, 1), (20, .ireturn, 1), (21, .iload_n 2, 1), (22, .istore_n 3, 1), (23, .iconst 0, 1), (24, .istore 4, 2), (26, .bipush 60, 2), (28, .istore 5, 2), (30, .iload 5, 2), (32, .iload_n 1, 1), (33, .if_icmp .lt 40, 3), (36, .aload_n 0, 1), (37, .getfield 9, 3), (40, .iload 5, 2), (42, .baload, 1), (43, .ifCond .eq 13, 3), (46, .aload_n 0, 1), (47, .iload 5, 2), (49, .iload_n 3, 1), (50, .invokevirtual 58, 3), (53, .goto 4, 3), (56, .iconst 0, 1), (57, .istore 4, 2), (59, .iload_n 3, 1), (60, .iload 4, 2), (62, .iload 5, 2), (64, .imul, 1), (65, .isub, 1), (66, .istore_n 3, 1), (67, .iinc 5 (-1), 3), (70, .goto (-40), 3), (73, .iload 4, 2), (75, .ireturn, 1)]
theorem tk_X0_countOf : am_tbl prog_2_method_5_code tb_X0_countOf = true := by decide +kernel
def b_X0_countOf_57 (k30 : Int32 → Int32 → Int32 → Int32 → am_M → Option (Int32 × am_M)) (x1 : Int32) (x3 : Int32) (x5 : Int32) (s0 : Int32) (D : am_M) : Option (Int32 × am_M) := k30 x1 (x3 - (s0 * x5)) s0 (x5 + (-1)) D
def b_X0_countOf_30 : Nat → Int32 → Int32 → Int32 → Int32 → am_M → Option (Int32 × am_M)
  | 0, _, _, _, _, _ => none
  | n + 1, x1, x3, x4, x5, D => if x5 < x1 then some (x4, D) else if am_in x5 61 = true then if (D 51 x5.toNatClampNeg) = 0 then b_X0_countOf_57 (b_X0_countOf_30 n) x1 x3 x5 0 D else (f_X0_countTaken x5 x3 D).bind fun q50 => b_X0_countOf_57 (b_X0_countOf_30 n) x1 x3 x5 q50.1 q50.2 else none
def f_X0_countOf (x1 : Int32) (x2 : Int32) (D : am_M) : Option (Int32 × am_M) := if (f_X5_isWithin x1 1 60) = 0 then some (0, D) else if am_in x1 61 = true then if (D 51 x1.toNatClampNeg) = 0 then some (0, D) else b_X0_countOf_30 am_N x1 x2 0 60 D else none
theorem bx_X0_countOf_57 {l : Launch} {h0 : am_H} {Φ : am_Ph} {tw : Nat} {tp : Bool}  {r : Int32} {D' : am_M} (hΦ : Φ (some (.int r)) (ly tw tp D')) {k30 : Int32 → Int32 → Int32 → Int32 → am_M → Option (Int32 × am_M)} (hk30 : ∀ (x1 : Int32) (x3 : Int32) (x4 : Int32) (x5 : Int32) (D : am_M), k30 x1 x3 x4 x5 D = some (r, D') → am_Ex (am_E l m_X0_countOf false h0 Φ) prog_2_method_5_code (0, 0) 30 [(0, .ref 50), (1, .int x1), (3, .int x3), (4, .int x4), (5, .int x5)] [] (ly tw tp D)) : ∀ (x1 : Int32) (x3 : Int32) (x5 : Int32) (s0 : Int32) (D : am_M), b_X0_countOf_57 k30 x1 x3 x5 s0 D = some (r, D') → am_Ex (am_E l m_X0_countOf false h0 Φ) prog_2_method_5_code (0, 0) 57 [(0, .ref 50), (1, .int x1), (3, .int x3), (5, .int x5)] [.int s0] (ly tw tp D) := by
  intro x1 x3 x5 s0 D h
  rw [b_X0_countOf_57] at h
  refine am_istore (L' := [(4, .int s0), (0, .ref 50), (1, .int x1), (3, .int x3), (5, .int x5)]) (am_dk tk_X0_countOf 32 rfl) (Nat.le_of_ble_eq_true rfl) rfl ?_
  refine am_iload_n (j := 3) (am_dk tk_X0_countOf 33 rfl) rfl rfl ?_
  refine am_iload (j := 0) (am_dk tk_X0_countOf 34 rfl) rfl ?_
  refine am_iload (j := 4) (am_dk tk_X0_countOf 35 rfl) rfl ?_
  refine am_imul (am_dk tk_X0_countOf 36 rfl) ?_
  refine am_isub (am_dk tk_X0_countOf 37 rfl) ?_
  refine am_istore_n (L' := [(3, .int (x3 - (s0 * x5))), (4, .int s0), (0, .ref 50), (1, .int x1), (5, .int x5)]) (am_dk tk_X0_countOf 38 rfl) rfl (Nat.le_of_ble_eq_true rfl) rfl ?_
  refine am_iinc (j := 4) (v := x5 + (-1)) (L' := [(5, .int (x5 + (-1))), (3, .int (x3 - (s0 * x5))), (4, .int s0), (0, .ref 50), (1, .int x1)]) (am_dk tk_X0_countOf 39 rfl) rfl rfl (Nat.le_of_ble_eq_true rfl) rfl ?_
  refine am_goto (tgt := 30) (am_dk tk_X0_countOf 40 rfl) (by decide) ?_
  refine am_ls [3, 4, 1, 2, 0] rfl ?_
  exact hk30 _ _ _ _ _ h
theorem bx_X0_countOf_30 {l : Launch} {h0 : am_H} {Φ : am_Ph} {tw : Nat} {tp : Bool}  {r : Int32} {D' : am_M} (hΦ : Φ (some (.int r)) (ly tw tp D')) : ∀ (n : Nat) (x1 : Int32) (x3 : Int32) (x4 : Int32) (x5 : Int32) (D : am_M), b_X0_countOf_30 n x1 x3 x4 x5 D = some (r, D') → am_Ex (am_E l m_X0_countOf false h0 Φ) prog_2_method_5_code (0, 0) 30 [(0, .ref 50), (1, .int x1), (3, .int x3), (4, .int x4), (5, .int x5)] [] (ly tw tp D) := by
  intro n
  induction n with
  | zero =>
    intro x1 x3 x4 x5 D h
    exact absurd h (by simp [b_X0_countOf_30])
  | succ n ih =>
    intro x1 x3 x4 x5 D h
    rw [b_X0_countOf_30] at h
    refine am_iload (j := 4) (am_dk tk_X0_countOf 18 rfl) rfl ?_
    refine am_iload_n (j := 1) (am_dk tk_X0_countOf 19 rfl) rfl rfl ?_
    refine am_icmp_lt (tgt := 73) (am_dk tk_X0_countOf 20 rfl) (by decide) (fun hc33 => ?_) (fun hc33 => ?_)
    · rw [if_pos hc33] at h
      refine am_iload (j := 3) (am_dk tk_X0_countOf 41 rfl) rfl ?_
      exact am_iret rfl (am_r2 h hΦ) ⟨Nat.le_of_ble_eq_true rfl, Nat.le_of_ble_eq_true rfl⟩ (am_dk tk_X0_countOf 42 rfl)
    · rw [if_neg hc33] at h
      refine am_aload_n (j := 0) (am_dk tk_X0_countOf 21 rfl) rfl rfl ?_
      refine ly_getr (b := 51) rfl fl_X0_9 rfl rfl (am_dk tk_X0_countOf 22 rfl) ?_
      refine am_iload (j := 4) (am_dk tk_X0_countOf 23 rfl) rfl ?_
      obtain ⟨hi42, h⟩ := am_chk h
      refine ly_bald (k := x5.toNatClampNeg) rfl (am_in_vp hi42) rfl (am_dk tk_X0_countOf 24 rfl) ?_
      refine am_if_eq (tgt := 56) (am_dk tk_X0_countOf 25 rfl) (by decide) (fun hc43 => ?_) (fun hc43 => ?_)
      · rw [if_pos hc43] at h
        refine am_iconst (v := 0) (am_dk tk_X0_countOf 31 rfl) (by decide) ?_
        refine am_ls [0, 1, 2, 4] rfl ?_
        exact bx_X0_countOf_57  hΦ (ih) _ _ _ _ _ h
      · rw [if_neg hc43] at h
        refine am_aload_n (j := 0) (am_dk tk_X0_countOf 26 rfl) rfl rfl ?_
        refine am_iload (j := 4) (am_dk tk_X0_countOf 27 rfl) rfl ?_
        refine am_iload_n (j := 2) (am_dk tk_X0_countOf 28 rfl) rfl rfl ?_
        obtain ⟨q50, hq50, h⟩ := am_bind h
        refine ly_cV (M := m_X0_countTaken) (As := [.int x5, .int x3]) (b := 50) (st := []) (ct_X0_countTaken hq50) rfl (by decide) rfl ml_X0_58 ld_X0_countTaken rfl ⟨Nat.le_of_ble_eq_true rfl, Nat.le_of_ble_eq_true rfl⟩ (Nat.le_of_ble_eq_true rfl) ⟨rfl, rfl⟩ ⟨Nat.le_of_ble_eq_true rfl, Nat.le_of_ble_eq_true rfl⟩ (am_dk tk_X0_countOf 29 rfl) (am_kki ?_)
        refine am_goto (tgt := 57) (am_dk tk_X0_countOf 30 rfl) (by decide) ?_
        refine am_ls [0, 1, 2, 4] rfl ?_
        exact bx_X0_countOf_57  hΦ (ih) _ _ _ _ _ h
theorem ct_X0_countOf {l : Launch} {tw : Nat} {tp : Bool}  {x1 : Int32} {x2 : Int32} {r : Int32} {D D' : am_M} (h : f_X0_countOf x1 x2 D = some (r, D')) : am_CT l m_X0_countOf false [.ref 50, .int x1, .int x2] (ly tw tp D) (am_is (some (.int r)) (ly tw tp D')) := by
  have hΦ : am_is (some (.int r)) (ly tw tp D') (some (.int r)) (ly tw tp D') := ⟨rfl, rfl⟩
  refine am_CT.of (by decide) (Nat.le_of_ble_eq_true rfl) ?_
  show am_Ex _ _ _ 0 [(0, .ref 50), (1, .int x1), (2, .int x2)] [] _
  rw [f_X0_countOf] at h
  refine am_iload_n (j := 1) (am_dk tk_X0_countOf 0 rfl) rfl rfl ?_
  refine am_iconst (v := 1) (am_dk tk_X0_countOf 1 rfl) (by decide) ?_
  refine am_bipush (v := 60) (am_dk tk_X0_countOf 2 rfl) (by decide) ?_
  refine am_cSN (M := m_X5_isWithin) (As := [.int x1, .int 1, .int 60]) (st := []) (ct_X5_isWithin _ _ _ _) ml_X0_44 ld_X5_isWithin rfl ⟨Nat.le_of_ble_eq_true rfl, Nat.le_of_ble_eq_true rfl⟩ (Nat.le_of_ble_eq_true rfl) ⟨rfl, rfl⟩ ⟨Nat.le_of_ble_eq_true rfl, Nat.le_of_ble_eq_true rfl⟩ (am_dk tk_X0_countOf 3 rfl) (am_kki ?_)
  refine am_if_eq (tgt := 19) (am_dk tk_X0_countOf 4 rfl) (by decide) (fun hc7 => ?_) (fun hc7 => ?_)
  · rw [if_pos hc7] at h
    refine am_iconst (v := 0) (am_dk tk_X0_countOf 10 rfl) (by decide) ?_
    exact am_iret rfl (am_r2 h hΦ) ⟨Nat.le_of_ble_eq_true rfl, Nat.le_of_ble_eq_true rfl⟩ (am_dk tk_X0_countOf 11 rfl)
  · rw [if_neg hc7] at h
    refine am_aload_n (j := 0) (am_dk tk_X0_countOf 5 rfl) rfl rfl ?_
    refine ly_getr (b := 51) rfl fl_X0_9 rfl rfl (am_dk tk_X0_countOf 6 rfl) ?_
    refine am_iload_n (j := 1) (am_dk tk_X0_countOf 7 rfl) rfl rfl ?_
    obtain ⟨hi15, h⟩ := am_chk h
    refine ly_bald (k := x1.toNatClampNeg) rfl (am_in_vp hi15) rfl (am_dk tk_X0_countOf 8 rfl) ?_
    refine am_if_ne (tgt := 21) (am_dk tk_X0_countOf 9 rfl) (by decide) (fun hc16 => ?_) (fun hc16 => ?_)
    · rw [if_neg hc16] at h
      refine am_iload_n (j := 2) (am_dk tk_X0_countOf 12 rfl) rfl rfl ?_
      refine am_istore_n (L' := [(3, .int x2), (0, .ref 50), (1, .int x1), (2, .int x2)]) (am_dk tk_X0_countOf 13 rfl) rfl (Nat.le_of_ble_eq_true rfl) rfl ?_
      refine am_iconst (v := 0) (am_dk tk_X0_countOf 14 rfl) (by decide) ?_
      refine am_istore (L' := [(4, .int 0), (3, .int x2), (0, .ref 50), (1, .int x1), (2, .int x2)]) (am_dk tk_X0_countOf 15 rfl) (Nat.le_of_ble_eq_true rfl) rfl ?_
      refine am_bipush (v := 60) (am_dk tk_X0_countOf 16 rfl) (by decide) ?_
      refine am_istore (L' := [(5, .int 60), (4, .int 0), (3, .int x2), (0, .ref 50), (1, .int x1), (2, .int x2)]) (am_dk tk_X0_countOf 17 rfl) (Nat.le_of_ble_eq_true rfl) rfl ?_
      refine am_ls [3, 4, 2, 1, 0] rfl ?_
      exact bx_X0_countOf_30  hΦ am_N _ _ _ _ _ h
    · rw [if_pos hc16] at h
      refine am_iconst (v := 0) (am_dk tk_X0_countOf 10 rfl) (by decide) ?_
      exact am_iret rfl (am_r2 h hΦ) ⟨Nat.le_of_ble_eq_true rfl, Nat.le_of_ble_eq_true rfl⟩ (am_dk tk_X0_countOf 11 rfl)
abbrev m_X0_totalWith : am_D := (yX0_totalWith, prog_2_method_8_code, 5, (some .int), { frames := 1, cells := 0, slots := 0, locals := 13 })
theorem ld_X0_totalWith : am_LD m_X0_totalWith 1 := ⟨(am_tb 84 (by decide +kernel) (by decide +kernel)), (am_tb 762 (by decide +kernel) (by decide +kernel)), by decide, by decide, by decide +kernel⟩
def tb_X0_totalWith : List (Nat × Instr × Nat) := [(0, .iconst 0, 1), (1, .istore_n 2, 1), (2, .iconst 1, 1), (3, .istore_n 3, 1), (4, .iload_n 3, 1), (5, .bipush 60, 2), (7, .if_icmp .gt 52, 3), (10, .aload_n 0, 1), (11, .getfield 15, 3), (14, .iload_n 3, 1), (15, .iaload, 1), (16, .istore 4, 2), (18, .iload_n 3, 1), (19, .iload_n 1, 1), (20, .if_icmp .lt 20, 3), (23, .iload 4, 2), (25, .aload_n 0, 1), (26, .getfield 19, 3), (29, .iload_n 3, 1), (30, .iload_n 1, 1), (31, .isub, 1), (32, .iaload, 1), (33, .iconst 1, 1), (34, .iadd, 1), (35, .invokestatic 52, 3), (38, .istore 4, 2), (40, .aload_n 0, 1), (41, .getfield 19, 3), (44, .iload_n 3, 1), (45, .iload 4, 2), (47, .iastore, 1), (48, .iload_n 2, 1), (49, .iload 4, 2), (51, .iadd, 1), (52, .istore_n 2, 1), (53, .iinc 3 1, 3), (56, .goto (-52), 3), (59, .iload_n 2, 1), (60, .ireturn, 1)]
theorem tk_X0_totalWith : am_tbl prog_2_method_8_code tb_X0_totalWith = true := by decide +kernel
def b_X0_totalWith_40 (k4 : Int32 → Int32 → Int32 → am_M → Option (Int32 × am_M)) (x1 : Int32) (x2 : Int32) (x3 : Int32) (x4 : Int32) (D : am_M) : Option (Int32 × am_M) := if am_in x3 61 = true then k4 x1 (x2 + x4) (x3 + 1) (am_up D 53 x3.toNatClampNeg x4) else none
def b_X0_totalWith_4 : Nat → Int32 → Int32 → Int32 → am_M → Option (Int32 × am_M)
  | 0, _, _, _, _ => none
  | n + 1, x1, x2, x3, D => if 60 < x3 then some (x2, D) else if am_in x3 201 = true then if x3 < x1 then b_X0_totalWith_40 (b_X0_totalWith_4 n) x1 x2 x3 (D 52 x3.toNatClampNeg) D else if am_in (x3 - x1) 61 = true then b_X0_totalWith_40 (b_X0_totalWith_4 n) x1 x2 x3 (am_min (D 52 x3.toNatClampNeg) ((D 53 (x3 - x1).toNatClampNeg) + 1)) D else none else none
def f_X0_totalWith (x1 : Int32) (D : am_M) : Option (Int32 × am_M) := b_X0_totalWith_4 am_N x1 0 1 D
theorem bx_X0_totalWith_40 {l : Launch} {h0 : am_H} {Φ : am_Ph} {tw : Nat} {tp : Bool}  {r : Int32} {D' : am_M} (hΦ : Φ (some (.int r)) (ly tw tp D')) {k4 : Int32 → Int32 → Int32 → am_M → Option (Int32 × am_M)} (hk4 : ∀ (x1 : Int32) (x2 : Int32) (x3 : Int32) (D : am_M), k4 x1 x2 x3 D = some (r, D') → am_Ex (am_E l m_X0_totalWith false h0 Φ) prog_2_method_8_code (0, 0) 4 [(0, .ref 50), (1, .int x1), (2, .int x2), (3, .int x3)] [] (ly tw tp D)) : ∀ (x1 : Int32) (x2 : Int32) (x3 : Int32) (x4 : Int32) (D : am_M), b_X0_totalWith_40 k4 x1 x2 x3 x4 D = some (r, D') → am_Ex (am_E l m_X0_totalWith false h0 Φ) prog_2_method_8_code (0, 0) 40 [(0, .ref 50), (1, .int x1), (2, .int x2), (3, .int x3), (4, .int x4)] [] (ly tw tp D) := by
  intro x1 x2 x3 x4 D h
  rw [b_X0_totalWith_40] at h
  refine am_aload_n (j := 0) (am_dk tk_X0_totalWith 26 rfl) rfl rfl ?_
  refine ly_getr (b := 53) rfl fl_X0_19 rfl rfl (am_dk tk_X0_totalWith 27 rfl) ?_
  refine am_iload_n (j := 3) (am_dk tk_X0_totalWith 28 rfl) rfl rfl ?_
  refine am_iload (j := 4) (am_dk tk_X0_totalWith 29 rfl) rfl ?_
  obtain ⟨hi47, h⟩ := am_chk h
  refine ly_iast (k := x3.toNatClampNeg) rfl (am_in_vp hi47) rfl (am_dk tk_X0_totalWith 30 rfl) ?_
  refine am_iload_n (j := 2) (am_dk tk_X0_totalWith 31 rfl) rfl rfl ?_
  refine am_iload (j := 4) (am_dk tk_X0_totalWith 32 rfl) rfl ?_
  refine am_iadd (am_dk tk_X0_totalWith 33 rfl) ?_
  refine am_istore_n (L' := [(2, .int (x2 + x4)), (0, .ref 50), (1, .int x1), (3, .int x3), (4, .int x4)]) (am_dk tk_X0_totalWith 34 rfl) rfl (Nat.le_of_ble_eq_true rfl) rfl ?_
  refine am_iinc (j := 3) (v := x3 + 1) (L' := [(3, .int (x3 + 1)), (2, .int (x2 + x4)), (0, .ref 50), (1, .int x1), (4, .int x4)]) (am_dk tk_X0_totalWith 35 rfl) rfl rfl (Nat.le_of_ble_eq_true rfl) rfl ?_
  refine am_goto (tgt := 4) (am_dk tk_X0_totalWith 36 rfl) (by decide) ?_
  refine am_ls [2, 3, 1, 0] rfl ?_
  exact hk4 _ _ _ _ h
theorem bx_X0_totalWith_4 {l : Launch} {h0 : am_H} {Φ : am_Ph} {tw : Nat} {tp : Bool}  {r : Int32} {D' : am_M} (hΦ : Φ (some (.int r)) (ly tw tp D')) : ∀ (n : Nat) (x1 : Int32) (x2 : Int32) (x3 : Int32) (D : am_M), b_X0_totalWith_4 n x1 x2 x3 D = some (r, D') → am_Ex (am_E l m_X0_totalWith false h0 Φ) prog_2_method_8_code (0, 0) 4 [(0, .ref 50), (1, .int x1), (2, .int x2), (3, .int x3)] [] (ly tw tp D) := by
  intro n
  induction n with
  | zero =>
    intro x1 x2 x3 D h
    exact absurd h (by simp [b_X0_totalWith_4])
  | succ n ih =>
    intro x1 x2 x3 D h
    rw [b_X0_totalWith_4] at h
    refine am_iload_n (j := 3) (am_dk tk_X0_totalWith 4 rfl) rfl rfl ?_
    refine am_bipush (v := 60) (am_dk tk_X0_totalWith 5 rfl) (by decide) ?_
    refine am_icmp_gt (tgt := 59) (am_dk tk_X0_totalWith 6 rfl) (by decide) (fun hc7 => ?_) (fun hc7 => ?_)
    · rw [if_pos hc7] at h
      refine am_iload_n (j := 2) (am_dk tk_X0_totalWith 37 rfl) rfl rfl ?_
      exact am_iret rfl (am_r2 h hΦ) ⟨Nat.le_of_ble_eq_true rfl, Nat.le_of_ble_eq_true rfl⟩ (am_dk tk_X0_totalWith 38 rfl)
    · rw [if_neg hc7] at h
      refine am_aload_n (j := 0) (am_dk tk_X0_totalWith 7 rfl) rfl rfl ?_
      refine ly_getr (b := 52) rfl fl_X0_15 rfl rfl (am_dk tk_X0_totalWith 8 rfl) ?_
      refine am_iload_n (j := 3) (am_dk tk_X0_totalWith 9 rfl) rfl rfl ?_
      obtain ⟨hi15, h⟩ := am_chk h
      refine ly_iald (k := x3.toNatClampNeg) rfl (am_in_vp hi15) rfl (am_dk tk_X0_totalWith 10 rfl) ?_
      refine am_istore (L' := [(4, .int (D 52 x3.toNatClampNeg)), (0, .ref 50), (1, .int x1), (2, .int x2), (3, .int x3)]) (am_dk tk_X0_totalWith 11 rfl) (Nat.le_of_ble_eq_true rfl) rfl ?_
      refine am_iload_n (j := 4) (am_dk tk_X0_totalWith 12 rfl) rfl rfl ?_
      refine am_iload_n (j := 2) (am_dk tk_X0_totalWith 13 rfl) rfl rfl ?_
      refine am_icmp_lt (tgt := 40) (am_dk tk_X0_totalWith 14 rfl) (by decide) (fun hc20 => ?_) (fun hc20 => ?_)
      · rw [if_pos hc20] at h
        refine am_ls [1, 2, 3, 4, 0] rfl ?_
        exact bx_X0_totalWith_40  hΦ (ih) _ _ _ _ _ h
      · rw [if_neg hc20] at h
        refine am_iload (j := 0) (am_dk tk_X0_totalWith 15 rfl) rfl ?_
        refine am_aload_n (j := 1) (am_dk tk_X0_totalWith 16 rfl) rfl rfl ?_
        refine ly_getr (b := 53) rfl fl_X0_19 rfl rfl (am_dk tk_X0_totalWith 17 rfl) ?_
        refine am_iload_n (j := 4) (am_dk tk_X0_totalWith 18 rfl) rfl rfl ?_
        refine am_iload_n (j := 2) (am_dk tk_X0_totalWith 19 rfl) rfl rfl ?_
        refine am_isub (am_dk tk_X0_totalWith 20 rfl) ?_
        obtain ⟨hi32, h⟩ := am_chk h
        refine ly_iald (k := (x3 - x1).toNatClampNeg) rfl (am_in_vp hi32) rfl (am_dk tk_X0_totalWith 21 rfl) ?_
        refine am_iconst (v := 1) (am_dk tk_X0_totalWith 22 rfl) (by decide) ?_
        refine am_iadd (am_dk tk_X0_totalWith 23 rfl) ?_
        refine am_mmin lm_X0_52 (Nat.le_of_ble_eq_true rfl) (Nat.le_of_ble_eq_true rfl) ⟨Nat.le_of_ble_eq_true rfl, Nat.le_of_ble_eq_true rfl⟩ (am_dk tk_X0_totalWith 24 rfl) ?_
        refine am_istore (L' := [(4, .int (am_min (D 52 x3.toNatClampNeg) ((D 53 (x3 - x1).toNatClampNeg) + 1))), (0, .ref 50), (1, .int x1), (2, .int x2), (3, .int x3)]) (am_dk tk_X0_totalWith 25 rfl) (Nat.le_of_ble_eq_true rfl) rfl ?_
        refine am_ls [1, 2, 3, 4, 0] rfl ?_
        exact bx_X0_totalWith_40  hΦ (ih) _ _ _ _ _ h
theorem ct_X0_totalWith {l : Launch} {tw : Nat} {tp : Bool}  {x1 : Int32} {r : Int32} {D D' : am_M} (h : f_X0_totalWith x1 D = some (r, D')) : am_CT l m_X0_totalWith false [.ref 50, .int x1] (ly tw tp D) (am_is (some (.int r)) (ly tw tp D')) := by
  have hΦ : am_is (some (.int r)) (ly tw tp D') (some (.int r)) (ly tw tp D') := ⟨rfl, rfl⟩
  refine am_CT.of (by decide) (Nat.le_of_ble_eq_true rfl) ?_
  show am_Ex _ _ _ 0 [(0, .ref 50), (1, .int x1)] [] _
  rw [f_X0_totalWith] at h
  refine am_iconst (v := 0) (am_dk tk_X0_totalWith 0 rfl) (by decide) ?_
  refine am_istore_n (L' := [(2, .int 0), (0, .ref 50), (1, .int x1)]) (am_dk tk_X0_totalWith 1 rfl) rfl (Nat.le_of_ble_eq_true rfl) rfl ?_
  refine am_iconst (v := 1) (am_dk tk_X0_totalWith 2 rfl) (by decide) ?_
  refine am_istore_n (L' := [(3, .int 1), (2, .int 0), (0, .ref 50), (1, .int x1)]) (am_dk tk_X0_totalWith 3 rfl) rfl (Nat.le_of_ble_eq_true rfl) rfl ?_
  refine am_ls [2, 3, 1, 0] rfl ?_
  exact bx_X0_totalWith_4  hΦ am_N _ _ _ _ h
abbrev m_X0_findStrike : am_D := (yX0_findStrike, prog_2_method_7_code, 3, none, { frames := 2, cells := 0, slots := 0, locals := 37 })
theorem ld_X0_findStrike : am_LD m_X0_findStrike 0 := ⟨(am_tb 84 (by decide +kernel) (by decide +kernel)), (am_tb 758 (by decide +kernel) (by decide +kernel)), by decide, by decide, by decide +kernel⟩
def tb_X0_findStrike : List (Nat × Instr × Nat) := [(0, .aload_n 0, 1), (1, .getfield 26, 3), (4, .ifCond .eq 4, 3), (7, .return_, 1), (8, .aload_n 0, 1), (9, .iconst 1, 1), (10, .putfield 26, 3), (13, .aload_n 0, 1), (14, .iconst (-1), 1), (15, .putfield 29, 3), (18, .iconst 2, 1), (19, .istore_n 1, 1), (20, .iload_n 1, 1), (21, .bipush 60, 2), (23, .if_icmp .gt 56, 3), (26, .aload_n 0, 1), (27, .getfield 9, 3), (30, .iload_n 1, 1), (31, .baload, 1), (32, .ifCond .eq 6, 3), (35, .goto 38, 3), (38, .aload_n 0, 1), (39, .iload_n 1, 1), (40, .invokevirtual 61, 3), (43, .istore_n 2, 1), (44, .aload_n 0, 1), (45, .getfield 29, 3), (48, .iconst (-1), 1), (49, .if_icmp .eq 14, 3), (52, .iload_n 2, 1), (53, .aload_n 0, 1), (54, .getfield 33, 3), (57, .if_icmp .lt 6, 3), (60, .goto 13, 3), (63, .aload_n 0, 1), (64, .iload_n 1, 1), (65, .putfield 29, 3), (68, .aload_n 0, 1), (69, .iload_n 2, 1), (70, .putfield 33, 3), (73, .iinc 1 1, 3), (76, .goto (-56), 3), (79, .return_, 1)]
theorem tk_X0_findStrike : am_tbl prog_2_method_7_code tb_X0_findStrike = true := by decide +kernel
def b_X0_findStrike_63 (k20 : Int32 → am_M → Option am_M) (x1 : Int32) (x2 : Int32) (D : am_M) : Option am_M := k20 (x1 + 1) (am_up (am_up D 50 5 x1) 50 6 x2)
def b_X0_findStrike_20 : Nat → Int32 → am_M → Option am_M
  | 0, _, _ => none
  | n + 1, x1, D => if 60 < x1 then some D else if am_in x1 61 = true then if (D 51 x1.toNatClampNeg) = 0 then (f_X0_totalWith x1 D).bind fun q40 => if (q40.2 50 5) = (-1) then b_X0_findStrike_63 (b_X0_findStrike_20 n) x1 q40.1 q40.2 else if q40.1 < (q40.2 50 6) then b_X0_findStrike_63 (b_X0_findStrike_20 n) x1 q40.1 q40.2 else b_X0_findStrike_20 n (x1 + 1) q40.2 else b_X0_findStrike_20 n (x1 + 1) D else none
def f_X0_findStrike (D : am_M) : Option am_M := if (D 50 4) = 0 then b_X0_findStrike_20 am_N 2 (am_up (am_up D 50 4 1) 50 5 (-1)) else some D
theorem bx_X0_findStrike_63 {l : Launch} {h0 : am_H} {Φ : am_Ph} {tw : Nat} {tp : Bool}  {D' : am_M} (hΦ : Φ none (ly tw tp D')) {k20 : Int32 → am_M → Option am_M} (hk20 : ∀ (x1 : Int32) (D : am_M), k20 x1 D = some D' → am_Ex (am_E l m_X0_findStrike false h0 Φ) prog_2_method_7_code (0, 0) 20 [(0, .ref 50), (1, .int x1)] [] (ly tw tp D)) : ∀ (x1 : Int32) (x2 : Int32) (D : am_M), b_X0_findStrike_63 k20 x1 x2 D = some D' → am_Ex (am_E l m_X0_findStrike false h0 Φ) prog_2_method_7_code (0, 0) 63 [(0, .ref 50), (1, .int x1), (2, .int x2)] [] (ly tw tp D) := by
  intro x1 x2 D h
  rw [b_X0_findStrike_63] at h
  refine am_aload_n (j := 0) (am_dk tk_X0_findStrike 34 rfl) rfl rfl ?_
  refine am_iload_n (j := 1) (am_dk tk_X0_findStrike 35 rfl) rfl rfl ?_
  refine ly_puti rfl fl_X0_29 rfl rfl (am_dk tk_X0_findStrike 36 rfl) ?_
  refine am_aload_n (j := 0) (am_dk tk_X0_findStrike 37 rfl) rfl rfl ?_
  refine am_iload_n (j := 2) (am_dk tk_X0_findStrike 38 rfl) rfl rfl ?_
  refine ly_puti rfl fl_X0_33 rfl rfl (am_dk tk_X0_findStrike 39 rfl) ?_
  refine am_iinc (j := 1) (v := x1 + 1) (L' := [(1, .int (x1 + 1)), (0, .ref 50), (2, .int x2)]) (am_dk tk_X0_findStrike 40 rfl) rfl rfl (Nat.le_of_ble_eq_true rfl) rfl ?_
  refine am_goto (tgt := 20) (am_dk tk_X0_findStrike 41 rfl) (by decide) ?_
  refine am_ls [1, 0] rfl ?_
  exact hk20 _ _ h
theorem bx_X0_findStrike_20 {l : Launch} {h0 : am_H} {Φ : am_Ph} {tw : Nat} {tp : Bool}  {D' : am_M} (hΦ : Φ none (ly tw tp D')) : ∀ (n : Nat) (x1 : Int32) (D : am_M), b_X0_findStrike_20 n x1 D = some D' → am_Ex (am_E l m_X0_findStrike false h0 Φ) prog_2_method_7_code (0, 0) 20 [(0, .ref 50), (1, .int x1)] [] (ly tw tp D) := by
  intro n
  induction n with
  | zero =>
    intro x1 D h
    exact absurd h (by simp [b_X0_findStrike_20])
  | succ n ih =>
    intro x1 D h
    rw [b_X0_findStrike_20] at h
    refine am_iload_n (j := 1) (am_dk tk_X0_findStrike 12 rfl) rfl rfl ?_
    refine am_bipush (v := 60) (am_dk tk_X0_findStrike 13 rfl) (by decide) ?_
    refine am_icmp_gt (tgt := 79) (am_dk tk_X0_findStrike 14 rfl) (by decide) (fun hc23 => ?_) (fun hc23 => ?_)
    · rw [if_pos hc23] at h
      exact am_vret rfl (am_r0 h hΦ) ⟨Nat.le_of_ble_eq_true rfl, Nat.le_of_ble_eq_true rfl⟩ (am_dk tk_X0_findStrike 42 rfl)
    · rw [if_neg hc23] at h
      refine am_aload_n (j := 0) (am_dk tk_X0_findStrike 15 rfl) rfl rfl ?_
      refine ly_getr (b := 51) rfl fl_X0_9 rfl rfl (am_dk tk_X0_findStrike 16 rfl) ?_
      refine am_iload_n (j := 1) (am_dk tk_X0_findStrike 17 rfl) rfl rfl ?_
      obtain ⟨hi31, h⟩ := am_chk h
      refine ly_bald (k := x1.toNatClampNeg) rfl (am_in_vp hi31) rfl (am_dk tk_X0_findStrike 18 rfl) ?_
      refine am_if_eq (tgt := 38) (am_dk tk_X0_findStrike 19 rfl) (by decide) (fun hc32 => ?_) (fun hc32 => ?_)
      · rw [if_pos hc32] at h
        refine am_aload_n (j := 0) (am_dk tk_X0_findStrike 21 rfl) rfl rfl ?_
        refine am_iload_n (j := 1) (am_dk tk_X0_findStrike 22 rfl) rfl rfl ?_
        obtain ⟨q40, hq40, h⟩ := am_bind h
        refine ly_cV (M := m_X0_totalWith) (As := [.int x1]) (b := 50) (st := []) (ct_X0_totalWith hq40) rfl (by decide) rfl ml_X0_61 ld_X0_totalWith rfl ⟨Nat.le_of_ble_eq_true rfl, Nat.le_of_ble_eq_true rfl⟩ (Nat.le_of_ble_eq_true rfl) ⟨rfl, rfl⟩ ⟨Nat.le_of_ble_eq_true rfl, Nat.le_of_ble_eq_true rfl⟩ (am_dk tk_X0_findStrike 23 rfl) (am_kki ?_)
        refine am_istore_n (L' := [(2, .int q40.1), (0, .ref 50), (1, .int x1)]) (am_dk tk_X0_findStrike 24 rfl) rfl (Nat.le_of_ble_eq_true rfl) rfl ?_
        refine am_aload_n (j := 1) (am_dk tk_X0_findStrike 25 rfl) rfl rfl ?_
        refine ly_geti rfl fl_X0_29 rfl (am_dk tk_X0_findStrike 26 rfl) ?_
        refine am_iconst (v := (-1)) (am_dk tk_X0_findStrike 27 rfl) (by decide) ?_
        refine am_icmp_eq (tgt := 63) (am_dk tk_X0_findStrike 28 rfl) (by decide) (fun hc49 => ?_) (fun hc49 => ?_)
        · rw [if_pos hc49] at h
          refine am_ls [1, 2, 0] rfl ?_
          exact bx_X0_findStrike_63  hΦ (ih) _ _ _ h
        · rw [if_neg hc49] at h
          refine am_iload_n (j := 0) (am_dk tk_X0_findStrike 29 rfl) rfl rfl ?_
          refine am_aload_n (j := 1) (am_dk tk_X0_findStrike 30 rfl) rfl rfl ?_
          refine ly_geti rfl fl_X0_33 rfl (am_dk tk_X0_findStrike 31 rfl) ?_
          refine am_icmp_lt (tgt := 63) (am_dk tk_X0_findStrike 32 rfl) (by decide) (fun hc57 => ?_) (fun hc57 => ?_)
          · rw [if_pos hc57] at h
            refine am_ls [1, 2, 0] rfl ?_
            exact bx_X0_findStrike_63  hΦ (ih) _ _ _ h
          · rw [if_neg hc57] at h
            refine am_goto (tgt := 73) (am_dk tk_X0_findStrike 33 rfl) (by decide) ?_
            refine am_iinc (j := 2) (v := x1 + 1) (L' := [(1, .int (x1 + 1)), (2, .int q40.1), (0, .ref 50)]) (am_dk tk_X0_findStrike 40 rfl) rfl rfl (Nat.le_of_ble_eq_true rfl) rfl ?_
            refine am_goto (tgt := 20) (am_dk tk_X0_findStrike 41 rfl) (by decide) ?_
            refine am_ls [2, 0] rfl ?_
            exact ih _ _ h
      · rw [if_neg hc32] at h
        refine am_goto (tgt := 73) (am_dk tk_X0_findStrike 20 rfl) (by decide) ?_
        refine am_iinc (j := 1) (v := x1 + 1) (L' := [(1, .int (x1 + 1)), (0, .ref 50)]) (am_dk tk_X0_findStrike 40 rfl) rfl rfl (Nat.le_of_ble_eq_true rfl) rfl ?_
        refine am_goto (tgt := 20) (am_dk tk_X0_findStrike 41 rfl) (by decide) ?_
        refine am_ls [1, 0] rfl ?_
        exact ih _ _ h
theorem ct_X0_findStrike {l : Launch} {tw : Nat} {tp : Bool}  {D D' : am_M} (h : f_X0_findStrike D = some D') : am_CT l m_X0_findStrike false [.ref 50] (ly tw tp D) (am_is none (ly tw tp D')) := by
  have hΦ : am_is none (ly tw tp D') none (ly tw tp D') := ⟨rfl, rfl⟩
  refine am_CT.of (by decide) (Nat.le_of_ble_eq_true rfl) ?_
  show am_Ex _ _ _ 0 [(0, .ref 50)] [] _
  rw [f_X0_findStrike] at h
  refine am_aload_n (j := 0) (am_dk tk_X0_findStrike 0 rfl) rfl rfl ?_
  refine ly_geti rfl fl_X0_26 rfl (am_dk tk_X0_findStrike 1 rfl) ?_
  refine am_if_eq (tgt := 8) (am_dk tk_X0_findStrike 2 rfl) (by decide) (fun hc4 => ?_) (fun hc4 => ?_)
  · rw [if_pos hc4] at h
    refine am_aload_n (j := 0) (am_dk tk_X0_findStrike 4 rfl) rfl rfl ?_
    refine am_iconst (v := 1) (am_dk tk_X0_findStrike 5 rfl) (by decide) ?_
    refine ly_putz (Or.inr rfl) rfl fl_X0_26 rfl rfl (am_dk tk_X0_findStrike 6 rfl) ?_
    refine am_aload_n (j := 0) (am_dk tk_X0_findStrike 7 rfl) rfl rfl ?_
    refine am_iconst (v := (-1)) (am_dk tk_X0_findStrike 8 rfl) (by decide) ?_
    refine ly_puti rfl fl_X0_29 rfl rfl (am_dk tk_X0_findStrike 9 rfl) ?_
    refine am_iconst (v := 2) (am_dk tk_X0_findStrike 10 rfl) (by decide) ?_
    refine am_istore_n (L' := [(1, .int 2), (0, .ref 50)]) (am_dk tk_X0_findStrike 11 rfl) rfl (Nat.le_of_ble_eq_true rfl) rfl ?_
    refine am_ls [1, 0] rfl ?_
    exact bx_X0_findStrike_20  hΦ am_N _ _ h
  · rw [if_neg hc4] at h
    exact am_vret rfl (am_r0 h hΦ) ⟨Nat.le_of_ble_eq_true rfl, Nat.le_of_ble_eq_true rfl⟩ (am_dk tk_X0_findStrike 3 rfl)
end
section
abbrev m_X3_add : am_D := (yX3_add, prog_5_method_2_code, 2, (some .int), { frames := 0, cells := 0, slots := 0, locals := 0 })
theorem ld_X3_add : am_LD m_X3_add 1 := ⟨(am_tb 82 (by decide +kernel) (by decide +kernel)), (am_tb 405 (by decide +kernel) (by decide +kernel)), by decide, by decide, by decide +kernel⟩
def tb_X3_add : List (Nat × Instr × Nat) := [(0, .aload_n 0, 1), (1, .getfield 29, 3), (4, .sipush 250, 3), (7, .if_icmp .ge 23, 3), (10, .aload_n 0, 1), (11, .getfield 9, 3), (14, .aload_n 0, 1), (15, .getfield 29, 3), (18, .iload_n 1, 1), (19, .iastore, 1), (20, .aload_n 0, 1), (21, .dup, 1), (22, .getfield 29, 3), (25, .iconst 1, 1), (26, .iadd, 1), (27, .putfield 29, 3), (30, .aload_n 0, 1), (31, .getfield 29, 3), (34, .ireturn, 1)]
theorem tk_X3_add : am_tbl prog_5_method_2_code tb_X3_add = true := by decide +kernel
def f_X3_add (tw : Nat) (x1 : Int32) (D : am_M) : Option (Int32 × am_M) := if 250 ≤ (D 12 4) then some (D 12 4, D) else if am_in (D 12 4) 250 = true then some ((am_up (am_up D 13 (D 12 4).toNatClampNeg x1) 12 4 (((am_up D 13 (D 12 4).toNatClampNeg x1) 12 4) + 1)) 12 4, am_up (am_up D 13 (D 12 4).toNatClampNeg x1) 12 4 (((am_up D 13 (D 12 4).toNatClampNeg x1) 12 4) + 1)) else none
theorem ct_X3_add {l : Launch} {tw : Nat} {tp : Bool} (htw : lyT tw) {x1 : Int32} {r : Int32} {D D' : am_M} (h : f_X3_add tw x1 D = some (r, D')) : am_CT l m_X3_add false [.ref 12, .int x1] (ly tw tp D) (am_is (some (.int r)) (ly tw tp D')) := by
  have hΦ : am_is (some (.int r)) (ly tw tp D') (some (.int r)) (ly tw tp D') := ⟨rfl, rfl⟩
  refine am_CT.of (by decide) (Nat.le_of_ble_eq_true rfl) ?_
  show am_Ex _ _ _ 0 [(0, .ref 12), (1, .int x1)] [] _
  rw [f_X3_add] at h
  refine am_aload_n (j := 0) (am_dk tk_X3_add 0 rfl) rfl rfl ?_
  refine ly_geti rfl fl_X3_29 rfl (am_dk tk_X3_add 1 rfl) ?_
  refine am_sipush (v := 250) (am_dk tk_X3_add 2 rfl) (by decide) ?_
  refine am_icmp_ge (tgt := 30) (am_dk tk_X3_add 3 rfl) (by decide) (fun hc7 => ?_) (fun hc7 => ?_)
  · rw [if_pos hc7] at h
    refine am_aload_n (j := 0) (am_dk tk_X3_add 16 rfl) rfl rfl ?_
    refine ly_geti rfl fl_X3_29 rfl (am_dk tk_X3_add 17 rfl) ?_
    exact am_iret rfl (am_r2 h hΦ) ⟨Nat.le_of_ble_eq_true rfl, Nat.le_of_ble_eq_true rfl⟩ (am_dk tk_X3_add 18 rfl)
  · rw [if_neg hc7] at h
    refine am_aload_n (j := 0) (am_dk tk_X3_add 4 rfl) rfl rfl ?_
    refine ly_getr (b := 13) rfl fl_X3_9 rfl rfl (am_dk tk_X3_add 5 rfl) ?_
    refine am_aload_n (j := 0) (am_dk tk_X3_add 6 rfl) rfl rfl ?_
    refine ly_geti rfl fl_X3_29 rfl (am_dk tk_X3_add 7 rfl) ?_
    refine am_iload_n (j := 1) (am_dk tk_X3_add 8 rfl) rfl rfl ?_
    obtain ⟨hi19, h⟩ := am_chk h
    refine ly_iast (k := (D 12 4).toNatClampNeg) rfl (am_in_vp hi19) rfl (am_dk tk_X3_add 9 rfl) ?_
    refine am_aload_n (j := 0) (am_dk tk_X3_add 10 rfl) rfl rfl ?_
    refine am_dup (am_dk tk_X3_add 11 rfl) rfl ?_
    refine ly_geti rfl fl_X3_29 rfl (am_dk tk_X3_add 12 rfl) ?_
    refine am_iconst (v := 1) (am_dk tk_X3_add 13 rfl) (by decide) ?_
    refine am_iadd (am_dk tk_X3_add 14 rfl) ?_
    refine ly_puti rfl fl_X3_29 rfl rfl (am_dk tk_X3_add 15 rfl) ?_
    refine am_aload_n (j := 0) (am_dk tk_X3_add 16 rfl) rfl rfl ?_
    refine ly_geti rfl fl_X3_29 rfl (am_dk tk_X3_add 17 rfl) ?_
    exact am_iret rfl (am_r2 h hΦ) ⟨Nat.le_of_ble_eq_true rfl, Nat.le_of_ble_eq_true rfl⟩ (am_dk tk_X3_add 18 rfl)
abbrev m_X3_isGood : am_D := (yX3_isGood, prog_5_method_4_code, 1, (some .boolean), { frames := 0, cells := 0, slots := 0, locals := 0 })
theorem ld_X3_isGood : am_LD m_X3_isGood 0 := ⟨(am_tb 82 (by decide +kernel) (by decide +kernel)), (am_tb 424 (by decide +kernel) (by decide +kernel)), by decide, by decide, by decide +kernel⟩
def tb_X3_isGood : List (Nat × Instr × Nat) := [(0, .aload_n 0, 1), (1, .getfield 32, 3), (4, .ifCond .ne 7, 3), (7, .iconst 1, 1), (8, .goto 4, 3), (11, .iconst 0, 1), (12, .ireturn, 1)]
theorem tk_X3_isGood : am_tbl prog_5_method_4_code tb_X3_isGood = true := by decide +kernel
def f_X3_isGood (tw : Nat) (D : am_M) : Int32 := if (D 12 5) = 0 then 1 else 0
theorem zb_X3_isGood (tw : Nat) (D : am_M) : f_X3_isGood tw D = 0 ∨ f_X3_isGood tw D = 1 := by
  unfold f_X3_isGood
  repeat' split
  all_goals first | exact Or.inl rfl | exact Or.inr rfl
theorem ct_X3_isGood {l : Launch} {tw : Nat} {tp : Bool} (htw : lyT tw) (D : am_M) : am_CT l m_X3_isGood false [.ref 12] (ly tw tp D) (am_is (some (.int (f_X3_isGood tw D))) (ly tw tp D)) := by
  refine am_CT.of (by decide) (Nat.le_of_ble_eq_true rfl) ?_
  show am_Ex _ _ _ 0 [(0, .ref 12)] [] _
  refine am_aload_n (j := 0) (am_dk tk_X3_isGood 0 rfl) rfl rfl ?_
  refine ly_geti rfl fl_X3_32 rfl (am_dk tk_X3_isGood 1 rfl) ?_
  refine am_if_ne (tgt := 11) (am_dk tk_X3_isGood 2 rfl) (by decide) (fun hc4 => ?_) (fun hc4 => ?_)
  · skip
    refine am_iconst (v := 0) (am_dk tk_X3_isGood 5 rfl) (by decide) ?_
    exact am_zret (Or.inl rfl) rfl ⟨by simp only [f_X3_isGood, if_neg hc4], rfl⟩ ⟨Nat.le_of_ble_eq_true rfl, Nat.le_of_ble_eq_true rfl⟩ (am_dk tk_X3_isGood 6 rfl)
  · skip
    refine am_iconst (v := 1) (am_dk tk_X3_isGood 3 rfl) (by decide) ?_
    refine am_goto (tgt := 12) (am_dk tk_X3_isGood 4 rfl) (by decide) ?_
    exact am_zret (Or.inr rfl) rfl ⟨by simp only [f_X3_isGood, if_pos hc4], rfl⟩ ⟨Nat.le_of_ble_eq_true rfl, Nat.le_of_ble_eq_true rfl⟩ (am_dk tk_X3_isGood 6 rfl)
abbrev m_X3_fail : am_D := (yX3_fail, prog_5_method_5_code, 3, none, { frames := 1, cells := 0, slots := 0, locals := 20 })
theorem ld_X3_fail : am_LD m_X3_fail 2 := ⟨(am_tb 82 (by decide +kernel) (by decide +kernel)), (am_tb 436 (by decide +kernel) (by decide +kernel)), by decide, by decide, by decide +kernel⟩
def tb_X3_fail : List (Nat × Instr × Nat) := [(0, .aload_n 0, 1), (1, .invokevirtual 41, 3), (4, .ifCond .ne 4, 3), (7, .return_, 1), (8, .aload_n 0, 1), (9, .iload_n 1, 1), (10, .putfield 32, 3), (13, .aload_n 0, 1), (14, .iload_n 2, 1), (15, .putfield 35, 3), (18, .return_, 1)]
theorem tk_X3_fail : am_tbl prog_5_method_5_code tb_X3_fail = true := by decide +kernel
def f_X3_fail (tw : Nat) (x1 : Int32) (x2 : Int32) (D : am_M) : Option am_M := if (f_X3_isGood tw D) = 0 then some D else some (am_up (am_up D 12 5 x1) 12 6 x2)
theorem ct_X3_fail {l : Launch} {tw : Nat} {tp : Bool} (htw : lyT tw) {x1 : Int32} {x2 : Int32} {D D' : am_M} (h : f_X3_fail tw x1 x2 D = some D') : am_CT l m_X3_fail false [.ref 12, .int x1, .int x2] (ly tw tp D) (am_is none (ly tw tp D')) := by
  have hΦ : am_is none (ly tw tp D') none (ly tw tp D') := ⟨rfl, rfl⟩
  refine am_CT.of (by decide) (Nat.le_of_ble_eq_true rfl) ?_
  show am_Ex _ _ _ 0 [(0, .ref 12), (1, .int x1), (2, .int x2)] [] _
  rw [f_X3_fail] at h
  refine am_aload_n (j := 0) (am_dk tk_X3_fail 0 rfl) rfl rfl ?_
  refine ly_cV (M := m_X3_isGood) (As := []) (b := 12) (st := []) (ct_X3_isGood htw  _) rfl (by decide) rfl ml_X3_41 ld_X3_isGood rfl ⟨Nat.le_of_ble_eq_true rfl, Nat.le_of_ble_eq_true rfl⟩ (Nat.le_of_ble_eq_true rfl) ⟨rfl, rfl⟩ ⟨Nat.le_of_ble_eq_true rfl, Nat.le_of_ble_eq_true rfl⟩ (am_dk tk_X3_fail 1 rfl) (am_kki ?_)
  refine am_if_ne (tgt := 8) (am_dk tk_X3_fail 2 rfl) (by decide) (fun hc4 => ?_) (fun hc4 => ?_)
  · rw [if_neg hc4] at h
    refine am_aload_n (j := 0) (am_dk tk_X3_fail 4 rfl) rfl rfl ?_
    refine am_iload_n (j := 1) (am_dk tk_X3_fail 5 rfl) rfl rfl ?_
    refine ly_puti rfl fl_X3_32 rfl rfl (am_dk tk_X3_fail 6 rfl) ?_
    refine am_aload_n (j := 0) (am_dk tk_X3_fail 7 rfl) rfl rfl ?_
    refine am_iload_n (j := 2) (am_dk tk_X3_fail 8 rfl) rfl rfl ?_
    refine ly_puti rfl fl_X3_35 rfl rfl (am_dk tk_X3_fail 9 rfl) ?_
    exact am_vret rfl (am_r0 h hΦ) ⟨Nat.le_of_ble_eq_true rfl, Nat.le_of_ble_eq_true rfl⟩ (am_dk tk_X3_fail 10 rfl)
  · rw [if_pos hc4] at h
    exact am_vret rfl (am_r0 h hΦ) ⟨Nat.le_of_ble_eq_true rfl, Nat.le_of_ble_eq_true rfl⟩ (am_dk tk_X3_fail 3 rfl)
abbrev m_X3_peek : am_D := (yX3_peek, prog_5_method_6_code, 1, (some .int), { frames := 0, cells := 0, slots := 0, locals := 0 })
theorem ld_X3_peek : am_LD m_X3_peek 0 := ⟨(am_tb 82 (by decide +kernel) (by decide +kernel)), (am_tb 428 (by decide +kernel) (by decide +kernel)), by decide, by decide, by decide +kernel⟩
def tb_X3_peek : List (Nat × Instr × Nat) := [(0, .aload_n 0, 1), (1, .getfield 15, 3), (4, .aload_n 0, 1), (5, .getfield 29, 3), (8, .if_icmp .ge 30, 3), (11, .aload_n 0, 1), (12, .getfield 9, 3), (15, .aload_n 0, 1), (16, .getfield 15, 3), (19, .iaload, 1), (20, .bipush 32, 2), (22, .if_icmp .ne 16, 3), (25, .aload_n 0, 1), (26, .dup, 1), (27, .getfield 15, 3), (30, .iconst 1, 1), (31, .iadd, 1), (32, .putfield 15, 3), (35, .goto (-35), 3), (38, .aload_n 0, 1), (39, .getfield 15, 3), (42, .aload_n 0, 1), (43, .getfield 29, 3), (46, .if_icmp .ge 15, 3), (49, .aload_n 0, 1), (50, .getfield 9, 3), (53, .aload_n 0, 1), (54, .getfield 15, 3), (57, .iaload, 1), (58, .goto 4, 3), (61, .iconst (-1), 1), (62, .ireturn, 1)]
theorem tk_X3_peek : am_tbl prog_5_method_6_code tb_X3_peek = true := by decide +kernel
def b_X3_peek_38 (tw : Nat) (D : am_M) : Option (Int32 × am_M) := if (D 12 4) ≤ (D 12 1) then some ((-1), D) else if am_in (D 12 1) 250 = true then some (D 13 (D 12 1).toNatClampNeg, D) else none
def b_X3_peek_0 (tw : Nat) : Nat → am_M → Option (Int32 × am_M)
  | 0, _ => none
  | n + 1, D => if (D 12 4) ≤ (D 12 1) then b_X3_peek_38 tw D else if am_in (D 12 1) 250 = true then if (D 13 (D 12 1).toNatClampNeg) = 32 then b_X3_peek_0 tw n (am_up D 12 1 ((D 12 1) + 1)) else b_X3_peek_38 tw D else none
def f_X3_peek (tw : Nat) (D : am_M) : Option (Int32 × am_M) := b_X3_peek_0 tw am_N D
theorem bx_X3_peek_38 {l : Launch} {h0 : am_H} {Φ : am_Ph} {tw : Nat} {tp : Bool} (htw : lyT tw) {r : Int32} {D' : am_M} (hΦ : Φ (some (.int r)) (ly tw tp D')) : ∀ (D : am_M), b_X3_peek_38 tw D = some (r, D') → am_Ex (am_E l m_X3_peek false h0 Φ) prog_5_method_6_code (0, 0) 38 [(0, .ref 12)] [] (ly tw tp D) := by
  intro  D h
  rw [b_X3_peek_38] at h
  refine am_aload_n (j := 0) (am_dk tk_X3_peek 19 rfl) rfl rfl ?_
  refine ly_geti rfl fl_X3_15 rfl (am_dk tk_X3_peek 20 rfl) ?_
  refine am_aload_n (j := 0) (am_dk tk_X3_peek 21 rfl) rfl rfl ?_
  refine ly_geti rfl fl_X3_29 rfl (am_dk tk_X3_peek 22 rfl) ?_
  refine am_icmp_ge (tgt := 61) (am_dk tk_X3_peek 23 rfl) (by decide) (fun hc46 => ?_) (fun hc46 => ?_)
  · rw [if_pos hc46] at h
    refine am_iconst (v := (-1)) (am_dk tk_X3_peek 30 rfl) (by decide) ?_
    exact am_iret rfl (am_r2 h hΦ) ⟨Nat.le_of_ble_eq_true rfl, Nat.le_of_ble_eq_true rfl⟩ (am_dk tk_X3_peek 31 rfl)
  · rw [if_neg hc46] at h
    refine am_aload_n (j := 0) (am_dk tk_X3_peek 24 rfl) rfl rfl ?_
    refine ly_getr (b := 13) rfl fl_X3_9 rfl rfl (am_dk tk_X3_peek 25 rfl) ?_
    refine am_aload_n (j := 0) (am_dk tk_X3_peek 26 rfl) rfl rfl ?_
    refine ly_geti rfl fl_X3_15 rfl (am_dk tk_X3_peek 27 rfl) ?_
    obtain ⟨hi57, h⟩ := am_chk h
    refine ly_iald (k := (D 12 1).toNatClampNeg) rfl (am_in_vp hi57) rfl (am_dk tk_X3_peek 28 rfl) ?_
    refine am_goto (tgt := 62) (am_dk tk_X3_peek 29 rfl) (by decide) ?_
    exact am_iret rfl (am_r2 h hΦ) ⟨Nat.le_of_ble_eq_true rfl, Nat.le_of_ble_eq_true rfl⟩ (am_dk tk_X3_peek 31 rfl)
theorem bx_X3_peek_0 {l : Launch} {h0 : am_H} {Φ : am_Ph} {tw : Nat} {tp : Bool} (htw : lyT tw) {r : Int32} {D' : am_M} (hΦ : Φ (some (.int r)) (ly tw tp D')) : ∀ (n : Nat) (D : am_M), b_X3_peek_0 tw n D = some (r, D') → am_Ex (am_E l m_X3_peek false h0 Φ) prog_5_method_6_code (0, 0) 0 [(0, .ref 12)] [] (ly tw tp D) := by
  intro n
  induction n with
  | zero =>
    intro  D h
    exact absurd h (by simp [b_X3_peek_0])
  | succ n ih =>
    intro  D h
    rw [b_X3_peek_0] at h
    refine am_aload_n (j := 0) (am_dk tk_X3_peek 0 rfl) rfl rfl ?_
    refine ly_geti rfl fl_X3_15 rfl (am_dk tk_X3_peek 1 rfl) ?_
    refine am_aload_n (j := 0) (am_dk tk_X3_peek 2 rfl) rfl rfl ?_
    refine ly_geti rfl fl_X3_29 rfl (am_dk tk_X3_peek 3 rfl) ?_
    refine am_icmp_ge (tgt := 38) (am_dk tk_X3_peek 4 rfl) (by decide) (fun hc8 => ?_) (fun hc8 => ?_)
    · rw [if_pos hc8] at h
      exact bx_X3_peek_38 htw hΦ _ h
    · rw [if_neg hc8] at h
      refine am_aload_n (j := 0) (am_dk tk_X3_peek 5 rfl) rfl rfl ?_
      refine ly_getr (b := 13) rfl fl_X3_9 rfl rfl (am_dk tk_X3_peek 6 rfl) ?_
      refine am_aload_n (j := 0) (am_dk tk_X3_peek 7 rfl) rfl rfl ?_
      refine ly_geti rfl fl_X3_15 rfl (am_dk tk_X3_peek 8 rfl) ?_
      obtain ⟨hi19, h⟩ := am_chk h
      refine ly_iald (k := (D 12 1).toNatClampNeg) rfl (am_in_vp hi19) rfl (am_dk tk_X3_peek 9 rfl) ?_
      refine am_bipush (v := 32) (am_dk tk_X3_peek 10 rfl) (by decide) ?_
      refine am_icmp_ne (tgt := 38) (am_dk tk_X3_peek 11 rfl) (by decide) (fun hc22 => ?_) (fun hc22 => ?_)
      · rw [if_neg hc22] at h
        exact bx_X3_peek_38 htw hΦ _ h
      · rw [if_pos hc22] at h
        refine am_aload_n (j := 0) (am_dk tk_X3_peek 12 rfl) rfl rfl ?_
        refine am_dup (am_dk tk_X3_peek 13 rfl) rfl ?_
        refine ly_geti rfl fl_X3_15 rfl (am_dk tk_X3_peek 14 rfl) ?_
        refine am_iconst (v := 1) (am_dk tk_X3_peek 15 rfl) (by decide) ?_
        refine am_iadd (am_dk tk_X3_peek 16 rfl) ?_
        refine ly_puti rfl fl_X3_15 rfl rfl (am_dk tk_X3_peek 17 rfl) ?_
        refine am_goto (tgt := 0) (am_dk tk_X3_peek 18 rfl) (by decide) ?_
        exact ih _ h
theorem ct_X3_peek {l : Launch} {tw : Nat} {tp : Bool} (htw : lyT tw) {r : Int32} {D D' : am_M} (h : f_X3_peek tw D = some (r, D')) : am_CT l m_X3_peek false [.ref 12] (ly tw tp D) (am_is (some (.int r)) (ly tw tp D')) := by
  have hΦ : am_is (some (.int r)) (ly tw tp D') (some (.int r)) (ly tw tp D') := ⟨rfl, rfl⟩
  refine am_CT.of (by decide) (Nat.le_of_ble_eq_true rfl) ?_
  show am_Ex _ _ _ 0 [(0, .ref 12)] [] _
  rw [f_X3_peek] at h
  exact bx_X3_peek_0 htw hΦ am_N _ h
abbrev m_X3_isFigure : am_D := (yX3_isFigure, prog_5_method_17_code, 1, (some .boolean), { frames := 1, cells := 0, slots := 0, locals := 22 })
theorem ld_X3_isFigure : am_LD m_X3_isFigure 1 := ⟨(am_tb 82 (by decide +kernel) (by decide +kernel)), (am_tb 451 (by decide +kernel) (by decide +kernel)), by decide, by decide, by decide +kernel⟩
def tb_X3_isFigure : List (Nat × Instr × Nat) := [(0, .iload_n 0, 1), (1, .bipush 48, 2), (3, .bipush 57, 2), (5, .invokestatic 148, 3), (8, .ireturn, 1)]
theorem tk_X3_isFigure : am_tbl prog_5_method_17_code tb_X3_isFigure = true := by decide +kernel
def f_X3_isFigure (x0 : Int32) : Int32 := f_X5_isWithin x0 48 57
theorem zb_X3_isFigure (x0 : Int32) : f_X3_isFigure x0 = 0 ∨ f_X3_isFigure x0 = 1 := by
  unfold f_X3_isFigure
  repeat' split
  all_goals first | exact Or.inl rfl | exact Or.inr rfl | exact zb_X5_isWithin x0 48 57
theorem ct_X3_isFigure {l : Launch} (x0 : Int32) (h : am_H) : am_CT l m_X3_isFigure false [.int x0] h (am_is (some (.int (f_X3_isFigure x0))) h) := by
  refine am_CT.of (by decide) (Nat.le_of_ble_eq_true rfl) ?_
  show am_Ex _ _ _ 0 [(0, .int x0)] [] _
  refine am_iload_n (j := 0) (am_dk tk_X3_isFigure 0 rfl) rfl rfl ?_
  refine am_bipush (v := 48) (am_dk tk_X3_isFigure 1 rfl) (by decide) ?_
  refine am_bipush (v := 57) (am_dk tk_X3_isFigure 2 rfl) (by decide) ?_
  refine am_cSN (M := m_X5_isWithin) (As := [.int x0, .int 48, .int 57]) (st := []) (ct_X5_isWithin _ _ _ _) ml_X3_148 ld_X5_isWithin rfl ⟨Nat.le_of_ble_eq_true rfl, Nat.le_of_ble_eq_true rfl⟩ (Nat.le_of_ble_eq_true rfl) ⟨rfl, rfl⟩ ⟨Nat.le_of_ble_eq_true rfl, Nat.le_of_ble_eq_true rfl⟩ (am_dk tk_X3_isFigure 3 rfl) (am_kki ?_)
  exact am_zret (zb_X5_isWithin x0 48 57) rfl ⟨rfl, rfl⟩ ⟨Nat.le_of_ble_eq_true rfl, Nat.le_of_ble_eq_true rfl⟩ (am_dk tk_X3_isFigure 4 rfl)
abbrev m_X3_readNumber : am_D := (yX3_readNumber, prog_5_method_16_code, 4, (some .int), { frames := 2, cells := 0, slots := 0, locals := 42 })
theorem ld_X3_readNumber : am_LD m_X3_readNumber 2 := ⟨(am_tb 82 (by decide +kernel) (by decide +kernel)), (am_tb 448 (by decide +kernel) (by decide +kernel)), by decide, by decide, by decide +kernel⟩
def tb_X3_readNumber : List (Nat × Instr × Nat) := [(0, .aload_n 0, 1), (1, .invokevirtual 41, 3), (4, .ifCond .ne 5, 3), (7, .iconst 0, 1), (8, .ireturn, 1), (9, .aload_n 0, 1), (10, .invokevirtual 45, 3), (13, .invokestatic 145, 3), (16, .ifCond .ne 14, 3), (19, .aload_n 0, 1), (20, .iconst 1, 1), (21, .aload_n 0, 1), (22, .getfield 15, 3), (25, .invokevirtual 55, 3), (28, .iconst 0, 1), (29, .ireturn, 1), (30, .aload_n 0, 1), (31, .aload_n 0, 1), (32, .getfield 15, 3), (35, .putfield 19, 3), (38, .iconst 0, 1), (39, .istore_n 3, 1), (40, .aload_n 0, 1), (41, .getfield 15, 3), (44, .aload_n 0, 1), (45, .getfield 29, 3), (48, .if_icmp .ge 62, 3), (51, .aload_n 0, 1), (52, .getfield 9, 3), (55, .aload_n 0, 1), (56, .getfield 15, 3), (59, .iaload, 1), (60, .invokestatic 145, 3), (63, .ifCond .eq 47, 3), (66, .aload_n 0, 1), (67, .getfield 15, 3), (70, .aload_n 0, 1), (71, .getfield 19, 3), (74, .isub, 1), (75, .iconst 3, 1), (76, .if_icmp .ge 21, 3), (79, .iload_n 3, 1), (80, .bipush 10, 2), (82, .imul, 1), (83, .aload_n 0, 1), (84, .getfield 9, 3), (87, .aload_n 0, 1), (88, .getfield 15, 3), (91, .iaload, 1), (92, .iadd, 1), (93, .bipush 48, 2), (95, .isub, 1), (96, .istore_n 3, 1), (97, .aload_n 0, 1), (98, .dup, 1), (99, .getfield 15, 3), (102, .iconst 1, 1), (103, .iadd, 1), (104, .putfield 15, 3), (107, .goto (-67), 3)]
theorem tk_X3_readNumber : am_tbl prog_5_method_16_code tb_X3_readNumber = true := by decide +kernel
def tb_X3_readNumber_1 : List (Nat × Instr × Nat) := [(110, .aload_n 0, 1), (111, .getfield 15, 3), (114, .aload_n 0, 1), (115, .getfield 19, 3), (118, .isub, 1), (119, .iconst 3, 1), (120, .if_icmp .gt 12, 3), (123, .iload_n 3, 1), (124, .iload_n 1, 1), (125, .iload_n 2, 1), (126, .invokestatic 148, 3), (129, .ifCond .ne 14, 3), (132, .aload_n 0, 1), (133, .iconst 2, 1), (134, .aload_n 0, 1), (135, .getfield 19, 3), (138, .invokevirtual 55, 3), (141, .iconst 0, 1), (142, .ireturn, 1), (143, .iload_n 3, 1), (144, .ireturn, 1)]
theorem tk_X3_readNumber_1 : am_tbl prog_5_method_16_code tb_X3_readNumber_1 = true := by decide +kernel
def b_X3_readNumber_132 (tw : Nat) (D : am_M) : Option (Int32 × am_M) := (f_X3_fail tw 2 (D 12 2) D).bind fun q138 => some (0, q138)
def b_X3_readNumber_110 (tw : Nat) (x1 : Int32) (x2 : Int32) (x3 : Int32) (D : am_M) : Option (Int32 × am_M) := if 3 < ((D 12 1) - (D 12 2)) then b_X3_readNumber_132 tw D else if (f_X5_isWithin x3 x1 x2) = 0 then b_X3_readNumber_132 tw D else some (x3, D)
def b_X3_readNumber_97 (tw : Nat) (k40 : Int32 → Int32 → Int32 → am_M → Option (Int32 × am_M)) (x1 : Int32) (x2 : Int32) (x3 : Int32) (D : am_M) : Option (Int32 × am_M) := k40 x1 x2 x3 (am_up D 12 1 ((D 12 1) + 1))
def b_X3_readNumber_40 (tw : Nat) : Nat → Int32 → Int32 → Int32 → am_M → Option (Int32 × am_M)
  | 0, _, _, _, _ => none
  | n + 1, x1, x2, x3, D => if (D 12 4) ≤ (D 12 1) then b_X3_readNumber_110 tw x1 x2 x3 D else if am_in (D 12 1) 250 = true then if (f_X3_isFigure (D 13 (D 12 1).toNatClampNeg)) = 0 then b_X3_readNumber_110 tw x1 x2 x3 D else b_X3_readNumber_97 tw (b_X3_readNumber_40 tw n) x1 x2 (if 3 ≤ ((D 12 1) - (D 12 2)) then x3 else ((x3 * 10) + (D 13 (D 12 1).toNatClampNeg)) - 48) D else none
def f_X3_readNumber (tw : Nat) (x1 : Int32) (x2 : Int32) (D : am_M) : Option (Int32 × am_M) := if (f_X3_isGood tw D) = 0 then some (0, D) else (f_X3_peek tw D).bind fun q10 => if (f_X3_isFigure q10.1) = 0 then (f_X3_fail tw 1 (q10.2 12 1) q10.2).bind fun q25 => some (0, q25) else b_X3_readNumber_40 tw am_N x1 x2 0 (am_up q10.2 12 2 (q10.2 12 1))
theorem bx_X3_readNumber_132 {l : Launch} {h0 : am_H} {Φ : am_Ph} {tw : Nat} {tp : Bool} (htw : lyT tw) {r : Int32} {D' : am_M} (hΦ : Φ (some (.int r)) (ly tw tp D')) : ∀ (D : am_M), b_X3_readNumber_132 tw D = some (r, D') → am_Ex (am_E l m_X3_readNumber false h0 Φ) prog_5_method_16_code (0, 0) 132 [(0, .ref 12)] [] (ly tw tp D) := by
  intro  D h
  rw [b_X3_readNumber_132] at h
  refine am_aload_n (j := 0) (am_dk tk_X3_readNumber_1 12 rfl) rfl rfl ?_
  refine am_iconst (v := 2) (am_dk tk_X3_readNumber_1 13 rfl) (by decide) ?_
  refine am_aload_n (j := 0) (am_dk tk_X3_readNumber_1 14 rfl) rfl rfl ?_
  refine ly_geti rfl fl_X3_19 rfl (am_dk tk_X3_readNumber_1 15 rfl) ?_
  obtain ⟨q138, hq138, h⟩ := am_bind h
  refine ly_cV (M := m_X3_fail) (As := [.int 2, .int (D 12 2)]) (b := 12) (st := []) (ct_X3_fail htw hq138) rfl (by decide) rfl ml_X3_55 ld_X3_fail rfl ⟨Nat.le_of_ble_eq_true rfl, Nat.le_of_ble_eq_true rfl⟩ (Nat.le_of_ble_eq_true rfl) ⟨rfl, rfl⟩ ⟨Nat.le_of_ble_eq_true rfl, Nat.le_of_ble_eq_true rfl⟩ (am_dk tk_X3_readNumber_1 16 rfl) (am_kkv ?_)
  refine am_iconst (v := 0) (am_dk tk_X3_readNumber_1 17 rfl) (by decide) ?_
  exact am_iret rfl (am_r2 h hΦ) ⟨Nat.le_of_ble_eq_true rfl, Nat.le_of_ble_eq_true rfl⟩ (am_dk tk_X3_readNumber_1 18 rfl)
theorem bx_X3_readNumber_110 {l : Launch} {h0 : am_H} {Φ : am_Ph} {tw : Nat} {tp : Bool} (htw : lyT tw) {r : Int32} {D' : am_M} (hΦ : Φ (some (.int r)) (ly tw tp D')) : ∀ (x1 : Int32) (x2 : Int32) (x3 : Int32) (D : am_M), b_X3_readNumber_110 tw x1 x2 x3 D = some (r, D') → am_Ex (am_E l m_X3_readNumber false h0 Φ) prog_5_method_16_code (0, 0) 110 [(0, .ref 12), (1, .int x1), (2, .int x2), (3, .int x3)] [] (ly tw tp D) := by
  intro x1 x2 x3 D h
  rw [b_X3_readNumber_110] at h
  refine am_aload_n (j := 0) (am_dk tk_X3_readNumber_1 0 rfl) rfl rfl ?_
  refine ly_geti rfl fl_X3_15 rfl (am_dk tk_X3_readNumber_1 1 rfl) ?_
  refine am_aload_n (j := 0) (am_dk tk_X3_readNumber_1 2 rfl) rfl rfl ?_
  refine ly_geti rfl fl_X3_19 rfl (am_dk tk_X3_readNumber_1 3 rfl) ?_
  refine am_isub (am_dk tk_X3_readNumber_1 4 rfl) ?_
  refine am_iconst (v := 3) (am_dk tk_X3_readNumber_1 5 rfl) (by decide) ?_
  refine am_icmp_gt (tgt := 132) (am_dk tk_X3_readNumber_1 6 rfl) (by decide) (fun hc120 => ?_) (fun hc120 => ?_)
  · rw [if_pos hc120] at h
    refine am_ls [0] rfl ?_
    exact bx_X3_readNumber_132 htw hΦ _ h
  · rw [if_neg hc120] at h
    refine am_iload_n (j := 3) (am_dk tk_X3_readNumber_1 7 rfl) rfl rfl ?_
    refine am_iload_n (j := 1) (am_dk tk_X3_readNumber_1 8 rfl) rfl rfl ?_
    refine am_iload_n (j := 2) (am_dk tk_X3_readNumber_1 9 rfl) rfl rfl ?_
    refine am_cSN (M := m_X5_isWithin) (As := [.int x3, .int x1, .int x2]) (st := []) (ct_X5_isWithin _ _ _ _) ml_X3_148 ld_X5_isWithin rfl ⟨Nat.le_of_ble_eq_true rfl, Nat.le_of_ble_eq_true rfl⟩ (Nat.le_of_ble_eq_true rfl) ⟨rfl, rfl⟩ ⟨Nat.le_of_ble_eq_true rfl, Nat.le_of_ble_eq_true rfl⟩ (am_dk tk_X3_readNumber_1 10 rfl) (am_kki ?_)
    refine am_if_ne (tgt := 143) (am_dk tk_X3_readNumber_1 11 rfl) (by decide) (fun hc129 => ?_) (fun hc129 => ?_)
    · rw [if_neg hc129] at h
      refine am_iload_n (j := 3) (am_dk tk_X3_readNumber_1 19 rfl) rfl rfl ?_
      exact am_iret rfl (am_r2 h hΦ) ⟨Nat.le_of_ble_eq_true rfl, Nat.le_of_ble_eq_true rfl⟩ (am_dk tk_X3_readNumber_1 20 rfl)
    · rw [if_pos hc129] at h
      refine am_ls [0] rfl ?_
      exact bx_X3_readNumber_132 htw hΦ _ h
theorem bx_X3_readNumber_97 {l : Launch} {h0 : am_H} {Φ : am_Ph} {tw : Nat} {tp : Bool} (htw : lyT tw) {r : Int32} {D' : am_M} (hΦ : Φ (some (.int r)) (ly tw tp D')) {k40 : Int32 → Int32 → Int32 → am_M → Option (Int32 × am_M)} (hk40 : ∀ (x1 : Int32) (x2 : Int32) (x3 : Int32) (D : am_M), k40 x1 x2 x3 D = some (r, D') → am_Ex (am_E l m_X3_readNumber false h0 Φ) prog_5_method_16_code (0, 0) 40 [(0, .ref 12), (1, .int x1), (2, .int x2), (3, .int x3)] [] (ly tw tp D)) : ∀ (x1 : Int32) (x2 : Int32) (x3 : Int32) (D : am_M), b_X3_readNumber_97 tw k40 x1 x2 x3 D = some (r, D') → am_Ex (am_E l m_X3_readNumber false h0 Φ) prog_5_method_16_code (0, 0) 97 [(0, .ref 12), (1, .int x1), (2, .int x2), (3, .int x3)] [] (ly tw tp D) := by
  intro x1 x2 x3 D h
  rw [b_X3_readNumber_97] at h
  refine am_aload_n (j := 0) (am_dk tk_X3_readNumber 53 rfl) rfl rfl ?_
  refine am_dup (am_dk tk_X3_readNumber 54 rfl) rfl ?_
  refine ly_geti rfl fl_X3_15 rfl (am_dk tk_X3_readNumber 55 rfl) ?_
  refine am_iconst (v := 1) (am_dk tk_X3_readNumber 56 rfl) (by decide) ?_
  refine am_iadd (am_dk tk_X3_readNumber 57 rfl) ?_
  refine ly_puti rfl fl_X3_15 rfl rfl (am_dk tk_X3_readNumber 58 rfl) ?_
  refine am_goto (tgt := 40) (am_dk tk_X3_readNumber 59 rfl) (by decide) ?_
  exact hk40 _ _ _ _ h
theorem bx_X3_readNumber_40 {l : Launch} {h0 : am_H} {Φ : am_Ph} {tw : Nat} {tp : Bool} (htw : lyT tw) {r : Int32} {D' : am_M} (hΦ : Φ (some (.int r)) (ly tw tp D')) : ∀ (n : Nat) (x1 : Int32) (x2 : Int32) (x3 : Int32) (D : am_M), b_X3_readNumber_40 tw n x1 x2 x3 D = some (r, D') → am_Ex (am_E l m_X3_readNumber false h0 Φ) prog_5_method_16_code (0, 0) 40 [(0, .ref 12), (1, .int x1), (2, .int x2), (3, .int x3)] [] (ly tw tp D) := by
  intro n
  induction n with
  | zero =>
    intro x1 x2 x3 D h
    exact absurd h (by simp [b_X3_readNumber_40])
  | succ n ih =>
    intro x1 x2 x3 D h
    rw [b_X3_readNumber_40] at h
    refine am_aload_n (j := 0) (am_dk tk_X3_readNumber 22 rfl) rfl rfl ?_
    refine ly_geti rfl fl_X3_15 rfl (am_dk tk_X3_readNumber 23 rfl) ?_
    refine am_aload_n (j := 0) (am_dk tk_X3_readNumber 24 rfl) rfl rfl ?_
    refine ly_geti rfl fl_X3_29 rfl (am_dk tk_X3_readNumber 25 rfl) ?_
    refine am_icmp_ge (tgt := 110) (am_dk tk_X3_readNumber 26 rfl) (by decide) (fun hc48 => ?_) (fun hc48 => ?_)
    · rw [if_pos hc48] at h
      exact bx_X3_readNumber_110 htw hΦ _ _ _ _ h
    · rw [if_neg hc48] at h
      refine am_aload_n (j := 0) (am_dk tk_X3_readNumber 27 rfl) rfl rfl ?_
      refine ly_getr (b := 13) rfl fl_X3_9 rfl rfl (am_dk tk_X3_readNumber 28 rfl) ?_
      refine am_aload_n (j := 0) (am_dk tk_X3_readNumber 29 rfl) rfl rfl ?_
      refine ly_geti rfl fl_X3_15 rfl (am_dk tk_X3_readNumber 30 rfl) ?_
      obtain ⟨hi59, h⟩ := am_chk h
      refine ly_iald (k := (D 12 1).toNatClampNeg) rfl (am_in_vp hi59) rfl (am_dk tk_X3_readNumber 31 rfl) ?_
      refine am_cS (M := m_X3_isFigure) (As := [.int (D 13 (D 12 1).toNatClampNeg)]) (st := []) (ct_X3_isFigure _ _) ml_X3_145 ld_X3_isFigure rfl ⟨Nat.le_of_ble_eq_true rfl, Nat.le_of_ble_eq_true rfl⟩ (Nat.le_of_ble_eq_true rfl) ⟨rfl, rfl⟩ ⟨Nat.le_of_ble_eq_true rfl, Nat.le_of_ble_eq_true rfl⟩ (am_dk tk_X3_readNumber 32 rfl) (am_kki ?_)
      refine am_if_eq (tgt := 110) (am_dk tk_X3_readNumber 33 rfl) (by decide) (fun hc63 => ?_) (fun hc63 => ?_)
      · rw [if_pos hc63] at h
        exact bx_X3_readNumber_110 htw hΦ _ _ _ _ h
      · rw [if_neg hc63] at h
        refine am_aload_n (j := 0) (am_dk tk_X3_readNumber 34 rfl) rfl rfl ?_
        refine ly_geti rfl fl_X3_15 rfl (am_dk tk_X3_readNumber 35 rfl) ?_
        refine am_aload_n (j := 0) (am_dk tk_X3_readNumber 36 rfl) rfl rfl ?_
        refine ly_geti rfl fl_X3_19 rfl (am_dk tk_X3_readNumber 37 rfl) ?_
        refine am_isub (am_dk tk_X3_readNumber 38 rfl) ?_
        refine am_iconst (v := 3) (am_dk tk_X3_readNumber 39 rfl) (by decide) ?_
        refine am_icmp_ge (tgt := 97) (am_dk tk_X3_readNumber 40 rfl) (by decide) (fun hc76 => ?_) (fun hc76 => ?_)
        · simp only [if_pos hc76] at h
          exact bx_X3_readNumber_97 htw hΦ (ih) _ _ _ _ h
        · simp only [if_neg hc76] at h
          refine am_iload_n (j := 3) (am_dk tk_X3_readNumber 41 rfl) rfl rfl ?_
          refine am_bipush (v := 10) (am_dk tk_X3_readNumber 42 rfl) (by decide) ?_
          refine am_imul (am_dk tk_X3_readNumber 43 rfl) ?_
          refine am_aload_n (j := 0) (am_dk tk_X3_readNumber 44 rfl) rfl rfl ?_
          refine ly_getr (b := 13) rfl fl_X3_9 rfl rfl (am_dk tk_X3_readNumber 45 rfl) ?_
          refine am_aload_n (j := 0) (am_dk tk_X3_readNumber 46 rfl) rfl rfl ?_
          refine ly_geti rfl fl_X3_15 rfl (am_dk tk_X3_readNumber 47 rfl) ?_
          refine ly_iald (k := (D 12 1).toNatClampNeg) rfl (am_in_vp hi59) rfl (am_dk tk_X3_readNumber 48 rfl) ?_
          refine am_iadd (am_dk tk_X3_readNumber 49 rfl) ?_
          refine am_bipush (v := 48) (am_dk tk_X3_readNumber 50 rfl) (by decide) ?_
          refine am_isub (am_dk tk_X3_readNumber 51 rfl) ?_
          refine am_istore_n (L' := [(3, .int (((x3 * 10) + (D 13 (D 12 1).toNatClampNeg)) - 48)), (0, .ref 12), (1, .int x1), (2, .int x2)]) (am_dk tk_X3_readNumber 52 rfl) rfl (Nat.le_of_ble_eq_true rfl) rfl ?_
          refine am_ls [1, 2, 3, 0] rfl ?_
          exact bx_X3_readNumber_97 htw hΦ (ih) _ _ _ _ h
theorem ct_X3_readNumber {l : Launch} {tw : Nat} {tp : Bool} (htw : lyT tw) {x1 : Int32} {x2 : Int32} {r : Int32} {D D' : am_M} (h : f_X3_readNumber tw x1 x2 D = some (r, D')) : am_CT l m_X3_readNumber false [.ref 12, .int x1, .int x2] (ly tw tp D) (am_is (some (.int r)) (ly tw tp D')) := by
  have hΦ : am_is (some (.int r)) (ly tw tp D') (some (.int r)) (ly tw tp D') := ⟨rfl, rfl⟩
  refine am_CT.of (by decide) (Nat.le_of_ble_eq_true rfl) ?_
  show am_Ex _ _ _ 0 [(0, .ref 12), (1, .int x1), (2, .int x2)] [] _
  rw [f_X3_readNumber] at h
  refine am_aload_n (j := 0) (am_dk tk_X3_readNumber 0 rfl) rfl rfl ?_
  refine ly_cV (M := m_X3_isGood) (As := []) (b := 12) (st := []) (ct_X3_isGood htw  _) rfl (by decide) rfl ml_X3_41 ld_X3_isGood rfl ⟨Nat.le_of_ble_eq_true rfl, Nat.le_of_ble_eq_true rfl⟩ (Nat.le_of_ble_eq_true rfl) ⟨rfl, rfl⟩ ⟨Nat.le_of_ble_eq_true rfl, Nat.le_of_ble_eq_true rfl⟩ (am_dk tk_X3_readNumber 1 rfl) (am_kki ?_)
  refine am_if_ne (tgt := 9) (am_dk tk_X3_readNumber 2 rfl) (by decide) (fun hc4 => ?_) (fun hc4 => ?_)
  · rw [if_neg hc4] at h
    refine am_aload_n (j := 0) (am_dk tk_X3_readNumber 5 rfl) rfl rfl ?_
    obtain ⟨q10, hq10, h⟩ := am_bind h
    refine ly_cV (M := m_X3_peek) (As := []) (b := 12) (st := []) (ct_X3_peek htw hq10) rfl (by decide) rfl ml_X3_45 ld_X3_peek rfl ⟨Nat.le_of_ble_eq_true rfl, Nat.le_of_ble_eq_true rfl⟩ (Nat.le_of_ble_eq_true rfl) ⟨rfl, rfl⟩ ⟨Nat.le_of_ble_eq_true rfl, Nat.le_of_ble_eq_true rfl⟩ (am_dk tk_X3_readNumber 6 rfl) (am_kki ?_)
    refine am_cS (M := m_X3_isFigure) (As := [.int q10.1]) (st := []) (ct_X3_isFigure _ _) ml_X3_145 ld_X3_isFigure rfl ⟨Nat.le_of_ble_eq_true rfl, Nat.le_of_ble_eq_true rfl⟩ (Nat.le_of_ble_eq_true rfl) ⟨rfl, rfl⟩ ⟨Nat.le_of_ble_eq_true rfl, Nat.le_of_ble_eq_true rfl⟩ (am_dk tk_X3_readNumber 7 rfl) (am_kki ?_)
    refine am_if_ne (tgt := 30) (am_dk tk_X3_readNumber 8 rfl) (by decide) (fun hc16 => ?_) (fun hc16 => ?_)
    · rw [if_neg hc16] at h
      refine am_aload_n (j := 0) (am_dk tk_X3_readNumber 16 rfl) rfl rfl ?_
      refine am_aload_n (j := 0) (am_dk tk_X3_readNumber 17 rfl) rfl rfl ?_
      refine ly_geti rfl fl_X3_15 rfl (am_dk tk_X3_readNumber 18 rfl) ?_
      refine ly_puti rfl fl_X3_19 rfl rfl (am_dk tk_X3_readNumber 19 rfl) ?_
      refine am_iconst (v := 0) (am_dk tk_X3_readNumber 20 rfl) (by decide) ?_
      refine am_istore_n (L' := [(3, .int 0), (0, .ref 12), (1, .int x1), (2, .int x2)]) (am_dk tk_X3_readNumber 21 rfl) rfl (Nat.le_of_ble_eq_true rfl) rfl ?_
      refine am_ls [1, 2, 3, 0] rfl ?_
      exact bx_X3_readNumber_40 htw hΦ am_N _ _ _ _ h
    · rw [if_pos hc16] at h
      refine am_aload_n (j := 0) (am_dk tk_X3_readNumber 9 rfl) rfl rfl ?_
      refine am_iconst (v := 1) (am_dk tk_X3_readNumber 10 rfl) (by decide) ?_
      refine am_aload_n (j := 0) (am_dk tk_X3_readNumber 11 rfl) rfl rfl ?_
      refine ly_geti rfl fl_X3_15 rfl (am_dk tk_X3_readNumber 12 rfl) ?_
      obtain ⟨q25, hq25, h⟩ := am_bind h
      refine ly_cV (M := m_X3_fail) (As := [.int 1, .int (q10.2 12 1)]) (b := 12) (st := []) (ct_X3_fail htw hq25) rfl (by decide) rfl ml_X3_55 ld_X3_fail rfl ⟨Nat.le_of_ble_eq_true rfl, Nat.le_of_ble_eq_true rfl⟩ (Nat.le_of_ble_eq_true rfl) ⟨rfl, rfl⟩ ⟨Nat.le_of_ble_eq_true rfl, Nat.le_of_ble_eq_true rfl⟩ (am_dk tk_X3_readNumber 13 rfl) (am_kkv ?_)
      refine am_iconst (v := 0) (am_dk tk_X3_readNumber 14 rfl) (by decide) ?_
      exact am_iret rfl (am_r2 h hΦ) ⟨Nat.le_of_ble_eq_true rfl, Nat.le_of_ble_eq_true rfl⟩ (am_dk tk_X3_readNumber 15 rfl)
  · rw [if_pos hc4] at h
    refine am_iconst (v := 0) (am_dk tk_X3_readNumber 3 rfl) (by decide) ?_
    exact am_iret rfl (am_r2 h hΦ) ⟨Nat.le_of_ble_eq_true rfl, Nat.le_of_ble_eq_true rfl⟩ (am_dk tk_X3_readNumber 4 rfl)
abbrev m_X3_stepOverWord : am_D := (yX3_stepOverWord, prog_5_method_9_code, 2, none, { frames := 2, cells := 0, slots := 0, locals := 42 })
theorem ld_X3_stepOverWord : am_LD m_X3_stepOverWord 1 := ⟨(am_tb 82 (by decide +kernel) (by decide +kernel)), (am_tb 444 (by decide +kernel) (by decide +kernel)), by decide, by decide, by decide +kernel⟩
def tb_X3_stepOverWord : List (Nat × Instr × Nat) := [(0, .iload_n 1, 1), (1, .ifCond .eq 15, 3), (4, .aload_n 0, 1), (5, .iconst 3, 1), (6, .aload_n 0, 1), (7, .getfield 15, 3), (10, .invokevirtual 55, 3), (13, .goto 13, 3), (16, .aload_n 0, 1), (17, .dup, 1), (18, .getfield 15, 3), (21, .iconst 1, 1), (22, .iadd, 1), (23, .putfield 15, 3), (26, .return_, 1)]
theorem tk_X3_stepOverWord : am_tbl prog_5_method_9_code tb_X3_stepOverWord = true := by decide +kernel
def f_X3_stepOverWord (tw : Nat) (x1 : Int32) (D : am_M) : Option am_M := if x1 = 0 then some (am_up D 12 1 ((D 12 1) + 1)) else (f_X3_fail tw 3 (D 12 1) D).bind fun q10 => some q10
theorem ct_X3_stepOverWord {l : Launch} {tw : Nat} {tp : Bool} (htw : lyT tw) {x1 : Int32} {D D' : am_M} (h : f_X3_stepOverWord tw x1 D = some D') : am_CT l m_X3_stepOverWord false [.ref 12, .int x1] (ly tw tp D) (am_is none (ly tw tp D')) := by
  have hΦ : am_is none (ly tw tp D') none (ly tw tp D') := ⟨rfl, rfl⟩
  refine am_CT.of (by decide) (Nat.le_of_ble_eq_true rfl) ?_
  show am_Ex _ _ _ 0 [(0, .ref 12), (1, .int x1)] [] _
  rw [f_X3_stepOverWord] at h
  refine am_iload_n (j := 1) (am_dk tk_X3_stepOverWord 0 rfl) rfl rfl ?_
  refine am_if_eq (tgt := 16) (am_dk tk_X3_stepOverWord 1 rfl) (by decide) (fun hc1 => ?_) (fun hc1 => ?_)
  · rw [if_pos hc1] at h
    refine am_aload_n (j := 0) (am_dk tk_X3_stepOverWord 8 rfl) rfl rfl ?_
    refine am_dup (am_dk tk_X3_stepOverWord 9 rfl) rfl ?_
    refine ly_geti rfl fl_X3_15 rfl (am_dk tk_X3_stepOverWord 10 rfl) ?_
    refine am_iconst (v := 1) (am_dk tk_X3_stepOverWord 11 rfl) (by decide) ?_
    refine am_iadd (am_dk tk_X3_stepOverWord 12 rfl) ?_
    refine ly_puti rfl fl_X3_15 rfl rfl (am_dk tk_X3_stepOverWord 13 rfl) ?_
    exact am_vret rfl (am_r0 h hΦ) ⟨Nat.le_of_ble_eq_true rfl, Nat.le_of_ble_eq_true rfl⟩ (am_dk tk_X3_stepOverWord 14 rfl)
  · rw [if_neg hc1] at h
    refine am_aload_n (j := 0) (am_dk tk_X3_stepOverWord 2 rfl) rfl rfl ?_
    refine am_iconst (v := 3) (am_dk tk_X3_stepOverWord 3 rfl) (by decide) ?_
    refine am_aload_n (j := 0) (am_dk tk_X3_stepOverWord 4 rfl) rfl rfl ?_
    refine ly_geti rfl fl_X3_15 rfl (am_dk tk_X3_stepOverWord 5 rfl) ?_
    obtain ⟨q10, hq10, h⟩ := am_bind h
    refine ly_cV (M := m_X3_fail) (As := [.int 3, .int (D 12 1)]) (b := 12) (st := []) (ct_X3_fail htw hq10) rfl (by decide) rfl ml_X3_55 ld_X3_fail rfl ⟨Nat.le_of_ble_eq_true rfl, Nat.le_of_ble_eq_true rfl⟩ (Nat.le_of_ble_eq_true rfl) ⟨rfl, rfl⟩ ⟨Nat.le_of_ble_eq_true rfl, Nat.le_of_ble_eq_true rfl⟩ (am_dk tk_X3_stepOverWord 6 rfl) (am_kkv ?_)
    refine am_goto (tgt := 26) (am_dk tk_X3_stepOverWord 7 rfl) (by decide) ?_
    exact am_vret rfl (am_r0 h hΦ) ⟨Nat.le_of_ble_eq_true rfl, Nat.le_of_ble_eq_true rfl⟩ (am_dk tk_X3_stepOverWord 14 rfl)
abbrev m_X3_expect : am_D := (yX3_expect, prog_5_method_8_code, 2, none, { frames := 2, cells := 0, slots := 0, locals := 42 })
theorem ld_X3_expect : am_LD m_X3_expect 1 := ⟨(am_tb 82 (by decide +kernel) (by decide +kernel)), (am_tb 483 (by decide +kernel) (by decide +kernel)), by decide, by decide, by decide +kernel⟩
def tb_X3_expect : List (Nat × Instr × Nat) := [(0, .aload_n 0, 1), (1, .invokevirtual 45, 3), (4, .iload_n 1, 1), (5, .if_icmp .eq 15, 3), (8, .aload_n 0, 1), (9, .iconst 1, 1), (10, .aload_n 0, 1), (11, .getfield 15, 3), (14, .invokevirtual 55, 3), (17, .goto 13, 3), (20, .aload_n 0, 1), (21, .dup, 1), (22, .getfield 15, 3), (25, .iconst 1, 1), (26, .iadd, 1), (27, .putfield 15, 3), (30, .return_, 1)]
theorem tk_X3_expect : am_tbl prog_5_method_8_code tb_X3_expect = true := by decide +kernel
def f_X3_expect (tw : Nat) (x1 : Int32) (D : am_M) : Option am_M := (f_X3_peek tw D).bind fun q1 => if q1.1 = x1 then some (am_up q1.2 12 1 ((q1.2 12 1) + 1)) else (f_X3_fail tw 1 (q1.2 12 1) q1.2).bind fun q14 => some q14
theorem ct_X3_expect {l : Launch} {tw : Nat} {tp : Bool} (htw : lyT tw) {x1 : Int32} {D D' : am_M} (h : f_X3_expect tw x1 D = some D') : am_CT l m_X3_expect false [.ref 12, .int x1] (ly tw tp D) (am_is none (ly tw tp D')) := by
  have hΦ : am_is none (ly tw tp D') none (ly tw tp D') := ⟨rfl, rfl⟩
  refine am_CT.of (by decide) (Nat.le_of_ble_eq_true rfl) ?_
  show am_Ex _ _ _ 0 [(0, .ref 12), (1, .int x1)] [] _
  rw [f_X3_expect] at h
  refine am_aload_n (j := 0) (am_dk tk_X3_expect 0 rfl) rfl rfl ?_
  obtain ⟨q1, hq1, h⟩ := am_bind h
  refine ly_cV (M := m_X3_peek) (As := []) (b := 12) (st := []) (ct_X3_peek htw hq1) rfl (by decide) rfl ml_X3_45 ld_X3_peek rfl ⟨Nat.le_of_ble_eq_true rfl, Nat.le_of_ble_eq_true rfl⟩ (Nat.le_of_ble_eq_true rfl) ⟨rfl, rfl⟩ ⟨Nat.le_of_ble_eq_true rfl, Nat.le_of_ble_eq_true rfl⟩ (am_dk tk_X3_expect 1 rfl) (am_kki ?_)
  refine am_iload_n (j := 1) (am_dk tk_X3_expect 2 rfl) rfl rfl ?_
  refine am_icmp_eq (tgt := 20) (am_dk tk_X3_expect 3 rfl) (by decide) (fun hc5 => ?_) (fun hc5 => ?_)
  · rw [if_pos hc5] at h
    refine am_aload_n (j := 0) (am_dk tk_X3_expect 10 rfl) rfl rfl ?_
    refine am_dup (am_dk tk_X3_expect 11 rfl) rfl ?_
    refine ly_geti rfl fl_X3_15 rfl (am_dk tk_X3_expect 12 rfl) ?_
    refine am_iconst (v := 1) (am_dk tk_X3_expect 13 rfl) (by decide) ?_
    refine am_iadd (am_dk tk_X3_expect 14 rfl) ?_
    refine ly_puti rfl fl_X3_15 rfl rfl (am_dk tk_X3_expect 15 rfl) ?_
    exact am_vret rfl (am_r0 h hΦ) ⟨Nat.le_of_ble_eq_true rfl, Nat.le_of_ble_eq_true rfl⟩ (am_dk tk_X3_expect 16 rfl)
  · rw [if_neg hc5] at h
    refine am_aload_n (j := 0) (am_dk tk_X3_expect 4 rfl) rfl rfl ?_
    refine am_iconst (v := 1) (am_dk tk_X3_expect 5 rfl) (by decide) ?_
    refine am_aload_n (j := 0) (am_dk tk_X3_expect 6 rfl) rfl rfl ?_
    refine ly_geti rfl fl_X3_15 rfl (am_dk tk_X3_expect 7 rfl) ?_
    obtain ⟨q14, hq14, h⟩ := am_bind h
    refine ly_cV (M := m_X3_fail) (As := [.int 1, .int (q1.2 12 1)]) (b := 12) (st := []) (ct_X3_fail htw hq14) rfl (by decide) rfl ml_X3_55 ld_X3_fail rfl ⟨Nat.le_of_ble_eq_true rfl, Nat.le_of_ble_eq_true rfl⟩ (Nat.le_of_ble_eq_true rfl) ⟨rfl, rfl⟩ ⟨Nat.le_of_ble_eq_true rfl, Nat.le_of_ble_eq_true rfl⟩ (am_dk tk_X3_expect 8 rfl) (am_kkv ?_)
    refine am_goto (tgt := 30) (am_dk tk_X3_expect 9 rfl) (by decide) ?_
    exact am_vret rfl (am_r0 h hΦ) ⟨Nat.le_of_ble_eq_true rfl, Nat.le_of_ble_eq_true rfl⟩ (am_dk tk_X3_expect 16 rfl)
abbrev m_X3_readBeds : am_D := (yX3_readBeds, prog_5_method_10_code, 1, none, { frames := 3, cells := 0, slots := 0, locals := 65 })
theorem ld_X3_readBeds : am_LD m_X3_readBeds 0 := ⟨(am_tb 82 (by decide +kernel) (by decide +kernel)), (am_tb 440 (by decide +kernel) (by decide +kernel)), by decide, by decide, by decide +kernel⟩
def tb_X3_readBeds : List (Nat × Instr × Nat) := [(0, .aload_n 0, 1), (1, .aload_n 0, 1), (2, .getfield 25, 3), (5, .getfield 52, 3), (8, .ifCond .eq 7, 3), (11, .iconst 1, 1), (12, .goto 4, 3), (15, .iconst 0, 1), (16, .invokevirtual 78, 3), (19, .aload_n 0, 1), (20, .getfield 25, 3), (23, .aload_n 0, 1), (24, .iconst 1, 1), (25, .iconst 5, 1), (26, .invokevirtual 82, 3), (29, .putfield 52, 3), (32, .aload_n 0, 1), (33, .getfield 25, 3), (36, .aload_n 0, 1), (37, .iconst 2, 1), (38, .bipush 9, 2), (40, .invokevirtual 82, 3), (43, .putfield 86, 3), (46, .aload_n 0, 1), (47, .getfield 25, 3), (50, .aload_n 0, 1), (51, .iconst 1, 1), (52, .bipush 9, 2), (54, .invokevirtual 82, 3), (57, .putfield 89, 3), (60, .return_, 1)]
theorem tk_X3_readBeds : am_tbl prog_5_method_10_code tb_X3_readBeds = true := by decide +kernel
def b_X3_readBeds_16 (tw : Nat) (s0 : Int32) (D : am_M) : Option am_M := (f_X3_stepOverWord tw s0 D).bind fun q16 => (f_X3_readNumber tw 1 5 q16).bind fun q26 => (f_X3_readNumber tw 2 9 (am_up q26.2 (15 - tw) 0 q26.1)).bind fun q40 => (f_X3_readNumber tw 1 9 (am_up q40.2 (15 - tw) 1 q40.1)).bind fun q54 => some (am_up q54.2 (15 - tw) 2 q54.1)
def f_X3_readBeds (tw : Nat) (D : am_M) : Option am_M := b_X3_readBeds_16 tw (if (D (15 - tw) 0) = 0 then 0 else 1) D
theorem bx_X3_readBeds_16 {l : Launch} {h0 : am_H} {Φ : am_Ph} {tw : Nat} {tp : Bool} (htw : lyT tw) {D' : am_M} (hΦ : Φ none (ly tw tp D')) : ∀ (s0 : Int32) (D : am_M), b_X3_readBeds_16 tw s0 D = some D' → am_Ex (am_E l m_X3_readBeds false h0 Φ) prog_5_method_10_code (0, 0) 16 [(0, .ref 12)] [.int s0, .ref 12] (ly tw tp D) := by
  intro s0 D h
  rw [b_X3_readBeds_16] at h
  obtain ⟨q16, hq16, h⟩ := am_bind h
  refine ly_cV (M := m_X3_stepOverWord) (As := [.int s0]) (b := 12) (st := []) (ct_X3_stepOverWord htw hq16) rfl (by decide) rfl ml_X3_78 ld_X3_stepOverWord rfl ⟨Nat.le_of_ble_eq_true rfl, Nat.le_of_ble_eq_true rfl⟩ (Nat.le_of_ble_eq_true rfl) ⟨rfl, rfl⟩ ⟨Nat.le_of_ble_eq_true rfl, Nat.le_of_ble_eq_true rfl⟩ (am_dk tk_X3_readBeds 8 rfl) (am_kkv ?_)
  refine am_aload_n (j := 0) (am_dk tk_X3_readBeds 9 rfl) rfl rfl ?_
  refine ly_getr (b := (15 - tw)) rfl fl_X3_25 rfl rfl (am_dk tk_X3_readBeds 10 rfl) ?_
  refine am_aload_n (j := 0) (am_dk tk_X3_readBeds 11 rfl) rfl rfl ?_
  refine am_iconst (v := 1) (am_dk tk_X3_readBeds 12 rfl) (by decide) ?_
  refine am_iconst (v := 5) (am_dk tk_X3_readBeds 13 rfl) (by decide) ?_
  obtain ⟨q26, hq26, h⟩ := am_bind h
  refine ly_cV (M := m_X3_readNumber) (As := [.int 1, .int 5]) (b := 12) (st := [.ref (15 - tw)]) (ct_X3_readNumber htw hq26) rfl (by decide) rfl ml_X3_82 ld_X3_readNumber rfl ⟨Nat.le_of_ble_eq_true rfl, Nat.le_of_ble_eq_true rfl⟩ (Nat.le_of_ble_eq_true rfl) ⟨rfl, rfl⟩ ⟨Nat.le_of_ble_eq_true rfl, Nat.le_of_ble_eq_true rfl⟩ (am_dk tk_X3_readBeds 14 rfl) (am_kki ?_)
  refine ly_puti (lyT_s (lyT_o htw)) fl_X3_52 rfl rfl (am_dk tk_X3_readBeds 15 rfl) ?_
  refine am_aload_n (j := 0) (am_dk tk_X3_readBeds 16 rfl) rfl rfl ?_
  refine ly_getr (b := (15 - tw)) rfl fl_X3_25 rfl rfl (am_dk tk_X3_readBeds 17 rfl) ?_
  refine am_aload_n (j := 0) (am_dk tk_X3_readBeds 18 rfl) rfl rfl ?_
  refine am_iconst (v := 2) (am_dk tk_X3_readBeds 19 rfl) (by decide) ?_
  refine am_bipush (v := 9) (am_dk tk_X3_readBeds 20 rfl) (by decide) ?_
  obtain ⟨q40, hq40, h⟩ := am_bind h
  refine ly_cV (M := m_X3_readNumber) (As := [.int 2, .int 9]) (b := 12) (st := [.ref (15 - tw)]) (ct_X3_readNumber htw hq40) rfl (by decide) rfl ml_X3_82 ld_X3_readNumber rfl ⟨Nat.le_of_ble_eq_true rfl, Nat.le_of_ble_eq_true rfl⟩ (Nat.le_of_ble_eq_true rfl) ⟨rfl, rfl⟩ ⟨Nat.le_of_ble_eq_true rfl, Nat.le_of_ble_eq_true rfl⟩ (am_dk tk_X3_readBeds 21 rfl) (am_kki ?_)
  refine ly_puti (lyT_s (lyT_o htw)) fl_X3_86 rfl rfl (am_dk tk_X3_readBeds 22 rfl) ?_
  refine am_aload_n (j := 0) (am_dk tk_X3_readBeds 23 rfl) rfl rfl ?_
  refine ly_getr (b := (15 - tw)) rfl fl_X3_25 rfl rfl (am_dk tk_X3_readBeds 24 rfl) ?_
  refine am_aload_n (j := 0) (am_dk tk_X3_readBeds 25 rfl) rfl rfl ?_
  refine am_iconst (v := 1) (am_dk tk_X3_readBeds 26 rfl) (by decide) ?_
  refine am_bipush (v := 9) (am_dk tk_X3_readBeds 27 rfl) (by decide) ?_
  obtain ⟨q54, hq54, h⟩ := am_bind h
  refine ly_cV (M := m_X3_readNumber) (As := [.int 1, .int 9]) (b := 12) (st := [.ref (15 - tw)]) (ct_X3_readNumber htw hq54) rfl (by decide) rfl ml_X3_82 ld_X3_readNumber rfl ⟨Nat.le_of_ble_eq_true rfl, Nat.le_of_ble_eq_true rfl⟩ (Nat.le_of_ble_eq_true rfl) ⟨rfl, rfl⟩ ⟨Nat.le_of_ble_eq_true rfl, Nat.le_of_ble_eq_true rfl⟩ (am_dk tk_X3_readBeds 28 rfl) (am_kki ?_)
  refine ly_puti (lyT_s (lyT_o htw)) fl_X3_89 rfl rfl (am_dk tk_X3_readBeds 29 rfl) ?_
  exact am_vret rfl (am_r0 h hΦ) ⟨Nat.le_of_ble_eq_true rfl, Nat.le_of_ble_eq_true rfl⟩ (am_dk tk_X3_readBeds 30 rfl)
theorem ct_X3_readBeds {l : Launch} {tw : Nat} {tp : Bool} (htw : lyT tw) {D D' : am_M} (h : f_X3_readBeds tw D = some D') : am_CT l m_X3_readBeds false [.ref 12] (ly tw tp D) (am_is none (ly tw tp D')) := by
  have hΦ : am_is none (ly tw tp D') none (ly tw tp D') := ⟨rfl, rfl⟩
  refine am_CT.of (by decide) (Nat.le_of_ble_eq_true rfl) ?_
  show am_Ex _ _ _ 0 [(0, .ref 12)] [] _
  rw [f_X3_readBeds] at h
  refine am_aload_n (j := 0) (am_dk tk_X3_readBeds 0 rfl) rfl rfl ?_
  refine am_aload_n (j := 0) (am_dk tk_X3_readBeds 1 rfl) rfl rfl ?_
  refine ly_getr (b := (15 - tw)) rfl fl_X3_25 rfl rfl (am_dk tk_X3_readBeds 2 rfl) ?_
  refine ly_geti (lyT_s (lyT_o htw)) fl_X3_52 rfl (am_dk tk_X3_readBeds 3 rfl) ?_
  refine am_if_eq (tgt := 15) (am_dk tk_X3_readBeds 4 rfl) (by decide) (fun hc8 => ?_) (fun hc8 => ?_)
  · simp only [if_pos hc8] at h
    refine am_iconst (v := 0) (am_dk tk_X3_readBeds 7 rfl) (by decide) ?_
    exact bx_X3_readBeds_16 htw hΦ _ _ h
  · simp only [if_neg hc8] at h
    refine am_iconst (v := 1) (am_dk tk_X3_readBeds 5 rfl) (by decide) ?_
    refine am_goto (tgt := 16) (am_dk tk_X3_readBeds 6 rfl) (by decide) ?_
    exact bx_X3_readBeds_16 htw hΦ _ _ h
abbrev m_X3_readDoing : am_D := (yX3_readDoing, prog_5_method_12_code, 2, (some .int), { frames := 2, cells := 0, slots := 0, locals := 42 })
theorem ld_X3_readDoing : am_LD m_X3_readDoing 0 := ⟨(am_tb 82 (by decide +kernel) (by decide +kernel)), (am_tb 460 (by decide +kernel) (by decide +kernel)), by decide, by decide, by decide +kernel⟩
def tb_X3_readDoing : List (Nat × Instr × Nat) := [(0, .aload_n 0, 1), (1, .invokevirtual 45, 3), (4, .istore_n 1, 1), (5, .iload_n 1, 1), (6, .bipush 122, 2), (8, .if_icmp .eq 26, 3), (11, .iload_n 1, 1), (12, .bipush 119, 2), (14, .if_icmp .eq 20, 3), (17, .iload_n 1, 1), (18, .bipush 46, 2), (20, .if_icmp .eq 14, 3), (23, .aload_n 0, 1), (24, .iconst 1, 1), (25, .aload_n 0, 1), (26, .getfield 15, 3), (29, .invokevirtual 55, 3), (32, .iconst 2, 1), (33, .ireturn, 1), (34, .aload_n 0, 1), (35, .dup, 1), (36, .getfield 15, 3), (39, .iconst 1, 1), (40, .iadd, 1), (41, .putfield 15, 3), (44, .iload_n 1, 1), (45, .bipush 122, 2), (47, .if_icmp .ne 5, 3), (50, .iconst 0, 1), (51, .ireturn, 1), (52, .iload_n 1, 1), (53, .bipush 119, 2), (55, .if_icmp .ne 7, 3), (58, .iconst 1, 1), (59, .goto 4, 3), (62, .iconst 2, 1), (63, .ireturn, 1)]
theorem tk_X3_readDoing : am_tbl prog_5_method_12_code tb_X3_readDoing = true := by decide +kernel
def b_X3_readDoing_34 (tw : Nat) (x1 : Int32) (D : am_M) : Option (Int32 × am_M) := if x1 = 122 then some (0, am_up D 12 1 ((D 12 1) + 1)) else if x1 = 119 then some (1, am_up D 12 1 ((D 12 1) + 1)) else some (2, am_up D 12 1 ((D 12 1) + 1))
def f_X3_readDoing (tw : Nat) (D : am_M) : Option (Int32 × am_M) := (f_X3_peek tw D).bind fun q1 => if q1.1 = 122 then b_X3_readDoing_34 tw q1.1 q1.2 else if q1.1 = 119 then b_X3_readDoing_34 tw q1.1 q1.2 else if q1.1 = 46 then b_X3_readDoing_34 tw q1.1 q1.2 else (f_X3_fail tw 1 (q1.2 12 1) q1.2).bind fun q29 => some (2, q29)
theorem bx_X3_readDoing_34 {l : Launch} {h0 : am_H} {Φ : am_Ph} {tw : Nat} {tp : Bool} (htw : lyT tw) {r : Int32} {D' : am_M} (hΦ : Φ (some (.int r)) (ly tw tp D')) : ∀ (x1 : Int32) (D : am_M), b_X3_readDoing_34 tw x1 D = some (r, D') → am_Ex (am_E l m_X3_readDoing false h0 Φ) prog_5_method_12_code (0, 0) 34 [(0, .ref 12), (1, .int x1)] [] (ly tw tp D) := by
  intro x1 D h
  rw [b_X3_readDoing_34] at h
  refine am_aload_n (j := 0) (am_dk tk_X3_readDoing 19 rfl) rfl rfl ?_
  refine am_dup (am_dk tk_X3_readDoing 20 rfl) rfl ?_
  refine ly_geti rfl fl_X3_15 rfl (am_dk tk_X3_readDoing 21 rfl) ?_
  refine am_iconst (v := 1) (am_dk tk_X3_readDoing 22 rfl) (by decide) ?_
  refine am_iadd (am_dk tk_X3_readDoing 23 rfl) ?_
  refine ly_puti rfl fl_X3_15 rfl rfl (am_dk tk_X3_readDoing 24 rfl) ?_
  refine am_iload_n (j := 1) (am_dk tk_X3_readDoing 25 rfl) rfl rfl ?_
  refine am_bipush (v := 122) (am_dk tk_X3_readDoing 26 rfl) (by decide) ?_
  refine am_icmp_ne (tgt := 52) (am_dk tk_X3_readDoing 27 rfl) (by decide) (fun hc47 => ?_) (fun hc47 => ?_)
  · rw [if_neg hc47] at h
    refine am_iload_n (j := 1) (am_dk tk_X3_readDoing 30 rfl) rfl rfl ?_
    refine am_bipush (v := 119) (am_dk tk_X3_readDoing 31 rfl) (by decide) ?_
    refine am_icmp_ne (tgt := 62) (am_dk tk_X3_readDoing 32 rfl) (by decide) (fun hc55 => ?_) (fun hc55 => ?_)
    · rw [if_neg hc55] at h
      refine am_iconst (v := 2) (am_dk tk_X3_readDoing 35 rfl) (by decide) ?_
      exact am_iret rfl (am_r2 h hΦ) ⟨Nat.le_of_ble_eq_true rfl, Nat.le_of_ble_eq_true rfl⟩ (am_dk tk_X3_readDoing 36 rfl)
    · rw [if_pos hc55] at h
      refine am_iconst (v := 1) (am_dk tk_X3_readDoing 33 rfl) (by decide) ?_
      refine am_goto (tgt := 63) (am_dk tk_X3_readDoing 34 rfl) (by decide) ?_
      exact am_iret rfl (am_r2 h hΦ) ⟨Nat.le_of_ble_eq_true rfl, Nat.le_of_ble_eq_true rfl⟩ (am_dk tk_X3_readDoing 36 rfl)
  · rw [if_pos hc47] at h
    refine am_iconst (v := 0) (am_dk tk_X3_readDoing 28 rfl) (by decide) ?_
    exact am_iret rfl (am_r2 h hΦ) ⟨Nat.le_of_ble_eq_true rfl, Nat.le_of_ble_eq_true rfl⟩ (am_dk tk_X3_readDoing 29 rfl)
theorem ct_X3_readDoing {l : Launch} {tw : Nat} {tp : Bool} (htw : lyT tw) {r : Int32} {D D' : am_M} (h : f_X3_readDoing tw D = some (r, D')) : am_CT l m_X3_readDoing false [.ref 12] (ly tw tp D) (am_is (some (.int r)) (ly tw tp D')) := by
  have hΦ : am_is (some (.int r)) (ly tw tp D') (some (.int r)) (ly tw tp D') := ⟨rfl, rfl⟩
  refine am_CT.of (by decide) (Nat.le_of_ble_eq_true rfl) ?_
  show am_Ex _ _ _ 0 [(0, .ref 12)] [] _
  rw [f_X3_readDoing] at h
  refine am_aload_n (j := 0) (am_dk tk_X3_readDoing 0 rfl) rfl rfl ?_
  obtain ⟨q1, hq1, h⟩ := am_bind h
  refine ly_cV (M := m_X3_peek) (As := []) (b := 12) (st := []) (ct_X3_peek htw hq1) rfl (by decide) rfl ml_X3_45 ld_X3_peek rfl ⟨Nat.le_of_ble_eq_true rfl, Nat.le_of_ble_eq_true rfl⟩ (Nat.le_of_ble_eq_true rfl) ⟨rfl, rfl⟩ ⟨Nat.le_of_ble_eq_true rfl, Nat.le_of_ble_eq_true rfl⟩ (am_dk tk_X3_readDoing 1 rfl) (am_kki ?_)
  refine am_istore_n (L' := [(1, .int q1.1), (0, .ref 12)]) (am_dk tk_X3_readDoing 2 rfl) rfl (Nat.le_of_ble_eq_true rfl) rfl ?_
  refine am_iload_n (j := 0) (am_dk tk_X3_readDoing 3 rfl) rfl rfl ?_
  refine am_bipush (v := 122) (am_dk tk_X3_readDoing 4 rfl) (by decide) ?_
  refine am_icmp_eq (tgt := 34) (am_dk tk_X3_readDoing 5 rfl) (by decide) (fun hc8 => ?_) (fun hc8 => ?_)
  · rw [if_pos hc8] at h
    refine am_ls [1, 0] rfl ?_
    exact bx_X3_readDoing_34 htw hΦ _ _ h
  · rw [if_neg hc8] at h
    refine am_iload_n (j := 0) (am_dk tk_X3_readDoing 6 rfl) rfl rfl ?_
    refine am_bipush (v := 119) (am_dk tk_X3_readDoing 7 rfl) (by decide) ?_
    refine am_icmp_eq (tgt := 34) (am_dk tk_X3_readDoing 8 rfl) (by decide) (fun hc14 => ?_) (fun hc14 => ?_)
    · rw [if_pos hc14] at h
      refine am_ls [1, 0] rfl ?_
      exact bx_X3_readDoing_34 htw hΦ _ _ h
    · rw [if_neg hc14] at h
      refine am_iload_n (j := 0) (am_dk tk_X3_readDoing 9 rfl) rfl rfl ?_
      refine am_bipush (v := 46) (am_dk tk_X3_readDoing 10 rfl) (by decide) ?_
      refine am_icmp_eq (tgt := 34) (am_dk tk_X3_readDoing 11 rfl) (by decide) (fun hc20 => ?_) (fun hc20 => ?_)
      · rw [if_pos hc20] at h
        refine am_ls [1, 0] rfl ?_
        exact bx_X3_readDoing_34 htw hΦ _ _ h
      · rw [if_neg hc20] at h
        refine am_aload_n (j := 1) (am_dk tk_X3_readDoing 12 rfl) rfl rfl ?_
        refine am_iconst (v := 1) (am_dk tk_X3_readDoing 13 rfl) (by decide) ?_
        refine am_aload_n (j := 1) (am_dk tk_X3_readDoing 14 rfl) rfl rfl ?_
        refine ly_geti rfl fl_X3_15 rfl (am_dk tk_X3_readDoing 15 rfl) ?_
        obtain ⟨q29, hq29, h⟩ := am_bind h
        refine ly_cV (M := m_X3_fail) (As := [.int 1, .int (q1.2 12 1)]) (b := 12) (st := []) (ct_X3_fail htw hq29) rfl (by decide) rfl ml_X3_55 ld_X3_fail rfl ⟨Nat.le_of_ble_eq_true rfl, Nat.le_of_ble_eq_true rfl⟩ (Nat.le_of_ble_eq_true rfl) ⟨rfl, rfl⟩ ⟨Nat.le_of_ble_eq_true rfl, Nat.le_of_ble_eq_true rfl⟩ (am_dk tk_X3_readDoing 16 rfl) (am_kkv ?_)
        refine am_iconst (v := 2) (am_dk tk_X3_readDoing 17 rfl) (by decide) ?_
        exact am_iret rfl (am_r2 h hΦ) ⟨Nat.le_of_ble_eq_true rfl, Nat.le_of_ble_eq_true rfl⟩ (am_dk tk_X3_readDoing 18 rfl)
abbrev m_X3_readPerson : am_D := (yX3_readPerson, prog_5_method_11_code, 5, none, { frames := 3, cells := 0, slots := 0, locals := 65 })
theorem ld_X3_readPerson : am_LD m_X3_readPerson 0 := ⟨(am_tb 82 (by decide +kernel) (by decide +kernel)), (am_tb 456 (by decide +kernel) (by decide +kernel)), by decide, by decide, by decide +kernel⟩
def tb_X3_readPerson : List (Nat × Instr × Nat) := [(0, .aload_n 0, 1), (1, .aload_n 0, 1), (2, .getfield 25, 3), (5, .getfield 92, 3), (8, .iconst 5, 1), (9, .if_icmp .lt 7, 3), (12, .iconst 1, 1), (13, .goto 4, 3), (16, .iconst 0, 1), (17, .invokevirtual 78, 3), (20, .aload_n 0, 1), (21, .iconst 0, 1), (22, .bipush 60, 2), (24, .invokevirtual 82, 3), (27, .istore_n 1, 1), (28, .aload_n 0, 1), (29, .iconst 0, 1), (30, .bipush 99, 2), (32, .invokevirtual 82, 3), (35, .istore_n 2, 1), (36, .aload_n 0, 1), (37, .invokevirtual 41, 3), (40, .ifCond .ne 4, 3), (43, .return_, 1), (44, .aload_n 0, 1), (45, .getfield 25, 3), (48, .getfield 92, 3), (51, .istore_n 3, 1), (52, .aload_n 0, 1), (53, .getfield 25, 3), (56, .getfield 95, 3), (59, .getfield 99, 3), (62, .iload_n 3, 1), (63, .iload_n 1, 1), (64, .iastore, 1), (65, .aload_n 0, 1), (66, .getfield 25, 3), (69, .getfield 95, 3), (72, .getfield 104, 3), (75, .iload_n 3, 1), (76, .iload_n 2, 1), (77, .iastore, 1), (78, .iconst 0, 1), (79, .istore 4, 2), (81, .iload 4, 2), (83, .bipush 24, 2), (85, .if_icmp .ge 38, 3), (88, .aload_n 0, 1), (89, .invokevirtual 41, 3), (92, .ifCond .eq 31, 3), (95, .aload_n 0, 1), (96, .getfield 25, 3), (99, .getfield 95, 3), (102, .getfield 107, 3), (105, .iload_n 3, 1), (106, .bipush 24, 2), (108, .imul, 1), (109, .iload 4, 2), (111, .iadd, 1), (112, .aload_n 0, 1)]
theorem tk_X3_readPerson : am_tbl prog_5_method_11_code tb_X3_readPerson = true := by decide +kernel
def tb_X3_readPerson_1 : List (Nat × Instr × Nat) := [(113, .invokevirtual 110, 3), (116, .iastore, 1), (117, .iinc 4 1, 3), (120, .goto (-39), 3), (123, .aload_n 0, 1), (124, .getfield 25, 3), (127, .dup, 1), (128, .getfield 92, 3), (131, .iconst 1, 1), (132, .iadd, 1), (133, .putfield 92, 3), (136, .return_, 1)]
theorem tk_X3_readPerson_1 : am_tbl prog_5_method_11_code tb_X3_readPerson_1 = true := by decide +kernel
def b_X3_readPerson_123 (tw : Nat) (D : am_M) : Option am_M := some (am_up D (15 - tw) 3 ((D (15 - tw) 3) + 1))
def b_X3_readPerson_81 (tw : Nat) : Nat → Int32 → Int32 → am_M → Option am_M
  | 0, _, _, _ => none
  | n + 1, x3, x4, D => if 24 ≤ x4 then b_X3_readPerson_123 tw D else if (f_X3_isGood tw D) = 0 then b_X3_readPerson_123 tw D else (f_X3_readDoing tw D).bind fun q113 => if am_in ((x3 * 24) + x4) 120 = true then b_X3_readPerson_81 tw n x3 (x4 + 1) (am_up q113.2 (((15 - tw) + 6) + 4) ((x3 * 24) + x4).toNatClampNeg q113.1) else none
def b_X3_readPerson_17 (tw : Nat) (s0 : Int32) (D : am_M) : Option am_M := (f_X3_stepOverWord tw s0 D).bind fun q17 => (f_X3_readNumber tw 0 60 q17).bind fun q24 => (f_X3_readNumber tw 0 99 q24.2).bind fun q32 => if (f_X3_isGood tw q32.2) = 0 then some q32.2 else if am_in (q32.2 (15 - tw) 3) 5 = true then b_X3_readPerson_81 tw am_N (q32.2 (15 - tw) 3) 0 (am_up (am_up q32.2 (((15 - tw) + 6) + 1) (q32.2 (15 - tw) 3).toNatClampNeg q24.1) (((15 - tw) + 6) + 3) (q32.2 (15 - tw) 3).toNatClampNeg q32.1) else none
def f_X3_readPerson (tw : Nat) (D : am_M) : Option am_M := b_X3_readPerson_17 tw (if (D (15 - tw) 3) < 5 then 0 else 1) D
theorem bx_X3_readPerson_123 {l : Launch} {h0 : am_H} {Φ : am_Ph} {tw : Nat} {tp : Bool} (htw : lyT tw) {D' : am_M} (hΦ : Φ none (ly tw tp D')) : ∀ (D : am_M), b_X3_readPerson_123 tw D = some D' → am_Ex (am_E l m_X3_readPerson false h0 Φ) prog_5_method_11_code (0, 0) 123 [(0, .ref 12)] [] (ly tw tp D) := by
  intro  D h
  rw [b_X3_readPerson_123] at h
  refine am_aload_n (j := 0) (am_dk tk_X3_readPerson_1 4 rfl) rfl rfl ?_
  refine ly_getr (b := (15 - tw)) rfl fl_X3_25 rfl rfl (am_dk tk_X3_readPerson_1 5 rfl) ?_
  refine am_dup (am_dk tk_X3_readPerson_1 6 rfl) rfl ?_
  refine ly_geti (lyT_s (lyT_o htw)) fl_X3_92 rfl (am_dk tk_X3_readPerson_1 7 rfl) ?_
  refine am_iconst (v := 1) (am_dk tk_X3_readPerson_1 8 rfl) (by decide) ?_
  refine am_iadd (am_dk tk_X3_readPerson_1 9 rfl) ?_
  refine ly_puti (lyT_s (lyT_o htw)) fl_X3_92 rfl rfl (am_dk tk_X3_readPerson_1 10 rfl) ?_
  exact am_vret rfl (am_r0 h hΦ) ⟨Nat.le_of_ble_eq_true rfl, Nat.le_of_ble_eq_true rfl⟩ (am_dk tk_X3_readPerson_1 11 rfl)
theorem bx_X3_readPerson_81 {l : Launch} {h0 : am_H} {Φ : am_Ph} {tw : Nat} {tp : Bool} (htw : lyT tw) {D' : am_M} (hΦ : Φ none (ly tw tp D')) : ∀ (n : Nat) (x3 : Int32) (x4 : Int32) (D : am_M), b_X3_readPerson_81 tw n x3 x4 D = some D' → am_Ex (am_E l m_X3_readPerson false h0 Φ) prog_5_method_11_code (0, 0) 81 [(0, .ref 12), (3, .int x3), (4, .int x4)] [] (ly tw tp D) := by
  intro n
  induction n with
  | zero =>
    intro x3 x4 D h
    exact absurd h (by simp [b_X3_readPerson_81])
  | succ n ih =>
    intro x3 x4 D h
    rw [b_X3_readPerson_81] at h
    refine am_iload (j := 2) (am_dk tk_X3_readPerson 44 rfl) rfl ?_
    refine am_bipush (v := 24) (am_dk tk_X3_readPerson 45 rfl) (by decide) ?_
    refine am_icmp_ge (tgt := 123) (am_dk tk_X3_readPerson 46 rfl) (by decide) (fun hc85 => ?_) (fun hc85 => ?_)
    · rw [if_pos hc85] at h
      refine am_ls [0] rfl ?_
      exact bx_X3_readPerson_123 htw hΦ _ h
    · rw [if_neg hc85] at h
      refine am_aload_n (j := 0) (am_dk tk_X3_readPerson 47 rfl) rfl rfl ?_
      refine ly_cV (M := m_X3_isGood) (As := []) (b := 12) (st := []) (ct_X3_isGood htw  _) rfl (by decide) rfl ml_X3_41 ld_X3_isGood rfl ⟨Nat.le_of_ble_eq_true rfl, Nat.le_of_ble_eq_true rfl⟩ (Nat.le_of_ble_eq_true rfl) ⟨rfl, rfl⟩ ⟨Nat.le_of_ble_eq_true rfl, Nat.le_of_ble_eq_true rfl⟩ (am_dk tk_X3_readPerson 48 rfl) (am_kki ?_)
      refine am_if_eq (tgt := 123) (am_dk tk_X3_readPerson 49 rfl) (by decide) (fun hc92 => ?_) (fun hc92 => ?_)
      · rw [if_pos hc92] at h
        refine am_ls [0] rfl ?_
        exact bx_X3_readPerson_123 htw hΦ _ h
      · rw [if_neg hc92] at h
        refine am_aload_n (j := 0) (am_dk tk_X3_readPerson 50 rfl) rfl rfl ?_
        refine ly_getr (b := (15 - tw)) rfl fl_X3_25 rfl rfl (am_dk tk_X3_readPerson 51 rfl) ?_
        refine ly_getr (b := ((15 - tw) + 6)) (lyT_s (lyT_o htw)) fl_X3_95 rfl (lyT_r12 (lyT_o htw)) (am_dk tk_X3_readPerson 52 rfl) ?_
        refine ly_getr (b := (((15 - tw) + 6) + 4)) (lyM_s (lyT_m (lyT_o htw))) fl_X3_107 rfl (lyM_r3 (lyT_m (lyT_o htw))) (am_dk tk_X3_readPerson 53 rfl) ?_
        refine am_iload_n (j := 1) (am_dk tk_X3_readPerson 54 rfl) rfl rfl ?_
        refine am_bipush (v := 24) (am_dk tk_X3_readPerson 55 rfl) (by decide) ?_
        refine am_imul (am_dk tk_X3_readPerson 56 rfl) ?_
        refine am_iload (j := 2) (am_dk tk_X3_readPerson 57 rfl) rfl ?_
        refine am_iadd (am_dk tk_X3_readPerson 58 rfl) ?_
        refine am_aload_n (j := 0) (am_dk tk_X3_readPerson 59 rfl) rfl rfl ?_
        obtain ⟨q113, hq113, h⟩ := am_bind h
        refine ly_cV (M := m_X3_readDoing) (As := []) (b := 12) (st := [.int ((x3 * 24) + x4), .ref (((15 - tw) + 6) + 4)]) (ct_X3_readDoing htw hq113) rfl (by decide) rfl ml_X3_110 ld_X3_readDoing rfl ⟨Nat.le_of_ble_eq_true rfl, Nat.le_of_ble_eq_true rfl⟩ (Nat.le_of_ble_eq_true rfl) ⟨rfl, rfl⟩ ⟨Nat.le_of_ble_eq_true rfl, Nat.le_of_ble_eq_true rfl⟩ (am_dk tk_X3_readPerson_1 0 rfl) (am_kki ?_)
        obtain ⟨hi116, h⟩ := am_chk h
        refine ly_iast (k := ((x3 * 24) + x4).toNatClampNeg) (lyM_a3 (lyT_m (lyT_o htw))) (am_in_vp hi116) rfl (am_dk tk_X3_readPerson_1 1 rfl) ?_
        refine am_iinc (j := 2) (v := x4 + 1) (L' := [(4, .int (x4 + 1)), (0, .ref 12), (3, .int x3)]) (am_dk tk_X3_readPerson_1 2 rfl) rfl rfl (Nat.le_of_ble_eq_true rfl) rfl ?_
        refine am_goto (tgt := 81) (am_dk tk_X3_readPerson_1 3 rfl) (by decide) ?_
        refine am_ls [1, 2, 0] rfl ?_
        exact ih _ _ _ h
theorem bx_X3_readPerson_17 {l : Launch} {h0 : am_H} {Φ : am_Ph} {tw : Nat} {tp : Bool} (htw : lyT tw) {D' : am_M} (hΦ : Φ none (ly tw tp D')) : ∀ (s0 : Int32) (D : am_M), b_X3_readPerson_17 tw s0 D = some D' → am_Ex (am_E l m_X3_readPerson false h0 Φ) prog_5_method_11_code (0, 0) 17 [(0, .ref 12)] [.int s0, .ref 12] (ly tw tp D) := by
  intro s0 D h
  rw [b_X3_readPerson_17] at h
  obtain ⟨q17, hq17, h⟩ := am_bind h
  refine ly_cV (M := m_X3_stepOverWord) (As := [.int s0]) (b := 12) (st := []) (ct_X3_stepOverWord htw hq17) rfl (by decide) rfl ml_X3_78 ld_X3_stepOverWord rfl ⟨Nat.le_of_ble_eq_true rfl, Nat.le_of_ble_eq_true rfl⟩ (Nat.le_of_ble_eq_true rfl) ⟨rfl, rfl⟩ ⟨Nat.le_of_ble_eq_true rfl, Nat.le_of_ble_eq_true rfl⟩ (am_dk tk_X3_readPerson 9 rfl) (am_kkv ?_)
  refine am_aload_n (j := 0) (am_dk tk_X3_readPerson 10 rfl) rfl rfl ?_
  refine am_iconst (v := 0) (am_dk tk_X3_readPerson 11 rfl) (by decide) ?_
  refine am_bipush (v := 60) (am_dk tk_X3_readPerson 12 rfl) (by decide) ?_
  obtain ⟨q24, hq24, h⟩ := am_bind h
  refine ly_cV (M := m_X3_readNumber) (As := [.int 0, .int 60]) (b := 12) (st := []) (ct_X3_readNumber htw hq24) rfl (by decide) rfl ml_X3_82 ld_X3_readNumber rfl ⟨Nat.le_of_ble_eq_true rfl, Nat.le_of_ble_eq_true rfl⟩ (Nat.le_of_ble_eq_true rfl) ⟨rfl, rfl⟩ ⟨Nat.le_of_ble_eq_true rfl, Nat.le_of_ble_eq_true rfl⟩ (am_dk tk_X3_readPerson 13 rfl) (am_kki ?_)
  refine am_istore_n (L' := [(1, .int q24.1), (0, .ref 12)]) (am_dk tk_X3_readPerson 14 rfl) rfl (Nat.le_of_ble_eq_true rfl) rfl ?_
  refine am_aload_n (j := 1) (am_dk tk_X3_readPerson 15 rfl) rfl rfl ?_
  refine am_iconst (v := 0) (am_dk tk_X3_readPerson 16 rfl) (by decide) ?_
  refine am_bipush (v := 99) (am_dk tk_X3_readPerson 17 rfl) (by decide) ?_
  obtain ⟨q32, hq32, h⟩ := am_bind h
  refine ly_cV (M := m_X3_readNumber) (As := [.int 0, .int 99]) (b := 12) (st := []) (ct_X3_readNumber htw hq32) rfl (by decide) rfl ml_X3_82 ld_X3_readNumber rfl ⟨Nat.le_of_ble_eq_true rfl, Nat.le_of_ble_eq_true rfl⟩ (Nat.le_of_ble_eq_true rfl) ⟨rfl, rfl⟩ ⟨Nat.le_of_ble_eq_true rfl, Nat.le_of_ble_eq_true rfl⟩ (am_dk tk_X3_readPerson 18 rfl) (am_kki ?_)
  refine am_istore_n (L' := [(2, .int q32.1), (1, .int q24.1), (0, .ref 12)]) (am_dk tk_X3_readPerson 19 rfl) rfl (Nat.le_of_ble_eq_true rfl) rfl ?_
  refine am_aload_n (j := 2) (am_dk tk_X3_readPerson 20 rfl) rfl rfl ?_
  refine ly_cV (M := m_X3_isGood) (As := []) (b := 12) (st := []) (ct_X3_isGood htw  _) rfl (by decide) rfl ml_X3_41 ld_X3_isGood rfl ⟨Nat.le_of_ble_eq_true rfl, Nat.le_of_ble_eq_true rfl⟩ (Nat.le_of_ble_eq_true rfl) ⟨rfl, rfl⟩ ⟨Nat.le_of_ble_eq_true rfl, Nat.le_of_ble_eq_true rfl⟩ (am_dk tk_X3_readPerson 21 rfl) (am_kki ?_)
  refine am_if_ne (tgt := 44) (am_dk tk_X3_readPerson 22 rfl) (by decide) (fun hc40 => ?_) (fun hc40 => ?_)
  · rw [if_neg hc40] at h
    refine am_aload_n (j := 2) (am_dk tk_X3_readPerson 24 rfl) rfl rfl ?_
    refine ly_getr (b := (15 - tw)) rfl fl_X3_25 rfl rfl (am_dk tk_X3_readPerson 25 rfl) ?_
    refine ly_geti (lyT_s (lyT_o htw)) fl_X3_92 rfl (am_dk tk_X3_readPerson 26 rfl) ?_
    refine am_istore_n (L' := [(3, .int (q32.2 (15 - tw) 3)), (2, .int q32.1), (1, .int q24.1), (0, .ref 12)]) (am_dk tk_X3_readPerson 27 rfl) rfl (Nat.le_of_ble_eq_true rfl) rfl ?_
    refine am_aload_n (j := 3) (am_dk tk_X3_readPerson 28 rfl) rfl rfl ?_
    refine ly_getr (b := (15 - tw)) rfl fl_X3_25 rfl rfl (am_dk tk_X3_readPerson 29 rfl) ?_
    refine ly_getr (b := ((15 - tw) + 6)) (lyT_s (lyT_o htw)) fl_X3_95 rfl (lyT_r12 (lyT_o htw)) (am_dk tk_X3_readPerson 30 rfl) ?_
    refine ly_getr (b := (((15 - tw) + 6) + 1)) (lyM_s (lyT_m (lyT_o htw))) fl_X3_99 rfl (lyM_r0 (lyT_m (lyT_o htw))) (am_dk tk_X3_readPerson 31 rfl) ?_
    refine am_iload_n (j := 0) (am_dk tk_X3_readPerson 32 rfl) rfl rfl ?_
    refine am_iload_n (j := 2) (am_dk tk_X3_readPerson 33 rfl) rfl rfl ?_
    obtain ⟨hi64, h⟩ := am_chk h
    refine ly_iast (k := (q32.2 (15 - tw) 3).toNatClampNeg) (lyM_a0 (lyT_m (lyT_o htw))) (am_in_vp hi64) rfl (am_dk tk_X3_readPerson 34 rfl) ?_
    refine am_aload_n (j := 3) (am_dk tk_X3_readPerson 35 rfl) rfl rfl ?_
    refine ly_getr (b := (15 - tw)) rfl fl_X3_25 rfl rfl (am_dk tk_X3_readPerson 36 rfl) ?_
    refine ly_getr (b := ((15 - tw) + 6)) (lyT_s (lyT_o htw)) fl_X3_95 rfl (lyT_r12 (lyT_o htw)) (am_dk tk_X3_readPerson 37 rfl) ?_
    refine ly_getr (b := (((15 - tw) + 6) + 3)) (lyM_s (lyT_m (lyT_o htw))) fl_X3_104 rfl (lyM_r2 (lyT_m (lyT_o htw))) (am_dk tk_X3_readPerson 38 rfl) ?_
    refine am_iload_n (j := 0) (am_dk tk_X3_readPerson 39 rfl) rfl rfl ?_
    refine am_iload_n (j := 1) (am_dk tk_X3_readPerson 40 rfl) rfl rfl ?_
    refine ly_iast (k := (q32.2 (15 - tw) 3).toNatClampNeg) (lyM_a2 (lyT_m (lyT_o htw))) (am_in_vp hi64) rfl (am_dk tk_X3_readPerson 41 rfl) ?_
    refine am_iconst (v := 0) (am_dk tk_X3_readPerson 42 rfl) (by decide) ?_
    refine am_istore (L' := [(4, .int 0), (3, .int (q32.2 (15 - tw) 3)), (2, .int q32.1), (1, .int q24.1), (0, .ref 12)]) (am_dk tk_X3_readPerson 43 rfl) (Nat.le_of_ble_eq_true rfl) rfl ?_
    refine am_ls [4, 1, 0] rfl ?_
    exact bx_X3_readPerson_81 htw hΦ am_N _ _ _ h
  · rw [if_pos hc40] at h
    exact am_vret rfl (am_r0 h hΦ) ⟨Nat.le_of_ble_eq_true rfl, Nat.le_of_ble_eq_true rfl⟩ (am_dk tk_X3_readPerson 23 rfl)
theorem ct_X3_readPerson {l : Launch} {tw : Nat} {tp : Bool} (htw : lyT tw) {D D' : am_M} (h : f_X3_readPerson tw D = some D') : am_CT l m_X3_readPerson false [.ref 12] (ly tw tp D) (am_is none (ly tw tp D')) := by
  have hΦ : am_is none (ly tw tp D') none (ly tw tp D') := ⟨rfl, rfl⟩
  refine am_CT.of (by decide) (Nat.le_of_ble_eq_true rfl) ?_
  show am_Ex _ _ _ 0 [(0, .ref 12)] [] _
  rw [f_X3_readPerson] at h
  refine am_aload_n (j := 0) (am_dk tk_X3_readPerson 0 rfl) rfl rfl ?_
  refine am_aload_n (j := 0) (am_dk tk_X3_readPerson 1 rfl) rfl rfl ?_
  refine ly_getr (b := (15 - tw)) rfl fl_X3_25 rfl rfl (am_dk tk_X3_readPerson 2 rfl) ?_
  refine ly_geti (lyT_s (lyT_o htw)) fl_X3_92 rfl (am_dk tk_X3_readPerson 3 rfl) ?_
  refine am_iconst (v := 5) (am_dk tk_X3_readPerson 4 rfl) (by decide) ?_
  refine am_icmp_lt (tgt := 16) (am_dk tk_X3_readPerson 5 rfl) (by decide) (fun hc9 => ?_) (fun hc9 => ?_)
  · simp only [if_pos hc9] at h
    refine am_iconst (v := 0) (am_dk tk_X3_readPerson 8 rfl) (by decide) ?_
    exact bx_X3_readPerson_17 htw hΦ _ _ h
  · simp only [if_neg hc9] at h
    refine am_iconst (v := 1) (am_dk tk_X3_readPerson 6 rfl) (by decide) ?_
    refine am_goto (tgt := 17) (am_dk tk_X3_readPerson 7 rfl) (by decide) ?_
    exact bx_X3_readPerson_17 htw hΦ _ _ h
abbrev m_X3_readCoin : am_D := (yX3_readCoin, prog_5_method_13_code, 2, none, { frames := 3, cells := 0, slots := 0, locals := 65 })
theorem ld_X3_readCoin : am_LD m_X3_readCoin 0 := ⟨(am_tb 82 (by decide +kernel) (by decide +kernel)), (am_tb 464 (by decide +kernel) (by decide +kernel)), by decide, by decide, by decide +kernel⟩
def tb_X3_readCoin : List (Nat × Instr × Nat) := [(0, .aload_n 0, 1), (1, .aload_n 0, 1), (2, .getfield 25, 3), (5, .getfield 113, 3), (8, .iconst 4, 1), (9, .if_icmp .lt 7, 3), (12, .iconst 1, 1), (13, .goto 4, 3), (16, .iconst 0, 1), (17, .invokevirtual 78, 3), (20, .aload_n 0, 1), (21, .iconst 2, 1), (22, .bipush 60, 2), (24, .invokevirtual 82, 3), (27, .istore_n 1, 1), (28, .aload_n 0, 1), (29, .getfield 25, 3), (32, .iload_n 1, 1), (33, .invokevirtual 116, 3), (36, .ifCond .eq 12, 3), (39, .aload_n 0, 1), (40, .iconst 4, 1), (41, .aload_n 0, 1), (42, .getfield 19, 3), (45, .invokevirtual 55, 3), (48, .aload_n 0, 1), (49, .invokevirtual 41, 3), (52, .ifCond .ne 4, 3), (55, .return_, 1), (56, .aload_n 0, 1), (57, .getfield 25, 3), (60, .getfield 120, 3), (63, .aload_n 0, 1), (64, .getfield 25, 3), (67, .getfield 113, 3), (70, .iload_n 1, 1), (71, .iastore, 1), (72, .aload_n 0, 1), (73, .getfield 25, 3), (76, .dup, 1), (77, .getfield 113, 3), (80, .iconst 1, 1), (81, .iadd, 1), (82, .putfield 113, 3), (85, .return_, 1)]
theorem tk_X3_readCoin : am_tbl prog_5_method_13_code tb_X3_readCoin = true := by decide +kernel
def b_X3_readCoin_48 (tw : Nat) (x1 : Int32) (D : am_M) : Option am_M := if (f_X3_isGood tw D) = 0 then some D else if am_in (D (15 - tw) 4) 4 = true then some (am_up (am_up D ((15 - tw) + 1) (D (15 - tw) 4).toNatClampNeg x1) (15 - tw) 4 (((am_up D ((15 - tw) + 1) (D (15 - tw) 4).toNatClampNeg x1) (15 - tw) 4) + 1)) else none
def b_X3_readCoin_17 (tw : Nat) (s0 : Int32) (D : am_M) : Option am_M := (f_X3_stepOverWord tw s0 D).bind fun q17 => (f_X3_readNumber tw 2 60 q17).bind fun q24 => (f_X4_hasCoin (15 - tw) q24.1 q24.2).bind fun q33 => if q33.1 = 0 then b_X3_readCoin_48 tw q24.1 q33.2 else (f_X3_fail tw 4 (q33.2 12 2) q33.2).bind fun q45 => b_X3_readCoin_48 tw q24.1 q45
def f_X3_readCoin (tw : Nat) (D : am_M) : Option am_M := b_X3_readCoin_17 tw (if (D (15 - tw) 4) < 4 then 0 else 1) D
theorem bx_X3_readCoin_48 {l : Launch} {h0 : am_H} {Φ : am_Ph} {tw : Nat} {tp : Bool} (htw : lyT tw) {D' : am_M} (hΦ : Φ none (ly tw tp D')) : ∀ (x1 : Int32) (D : am_M), b_X3_readCoin_48 tw x1 D = some D' → am_Ex (am_E l m_X3_readCoin false h0 Φ) prog_5_method_13_code (0, 0) 48 [(0, .ref 12), (1, .int x1)] [] (ly tw tp D) := by
  intro x1 D h
  rw [b_X3_readCoin_48] at h
  refine am_aload_n (j := 0) (am_dk tk_X3_readCoin 25 rfl) rfl rfl ?_
  refine ly_cV (M := m_X3_isGood) (As := []) (b := 12) (st := []) (ct_X3_isGood htw  _) rfl (by decide) rfl ml_X3_41 ld_X3_isGood rfl ⟨Nat.le_of_ble_eq_true rfl, Nat.le_of_ble_eq_true rfl⟩ (Nat.le_of_ble_eq_true rfl) ⟨rfl, rfl⟩ ⟨Nat.le_of_ble_eq_true rfl, Nat.le_of_ble_eq_true rfl⟩ (am_dk tk_X3_readCoin 26 rfl) (am_kki ?_)
  refine am_if_ne (tgt := 56) (am_dk tk_X3_readCoin 27 rfl) (by decide) (fun hc52 => ?_) (fun hc52 => ?_)
  · rw [if_neg hc52] at h
    refine am_aload_n (j := 0) (am_dk tk_X3_readCoin 29 rfl) rfl rfl ?_
    refine ly_getr (b := (15 - tw)) rfl fl_X3_25 rfl rfl (am_dk tk_X3_readCoin 30 rfl) ?_
    refine ly_getr (b := ((15 - tw) + 1)) (lyT_s (lyT_o htw)) fl_X3_120 rfl (lyT_r7 (lyT_o htw)) (am_dk tk_X3_readCoin 31 rfl) ?_
    refine am_aload_n (j := 0) (am_dk tk_X3_readCoin 32 rfl) rfl rfl ?_
    refine ly_getr (b := (15 - tw)) rfl fl_X3_25 rfl rfl (am_dk tk_X3_readCoin 33 rfl) ?_
    refine ly_geti (lyT_s (lyT_o htw)) fl_X3_113 rfl (am_dk tk_X3_readCoin 34 rfl) ?_
    refine am_iload_n (j := 1) (am_dk tk_X3_readCoin 35 rfl) rfl rfl ?_
    obtain ⟨hi71, h⟩ := am_chk h
    refine ly_iast (k := (D (15 - tw) 4).toNatClampNeg) (lyT_a7 (lyT_o htw)) (am_in_vp hi71) rfl (am_dk tk_X3_readCoin 36 rfl) ?_
    refine am_aload_n (j := 0) (am_dk tk_X3_readCoin 37 rfl) rfl rfl ?_
    refine ly_getr (b := (15 - tw)) rfl fl_X3_25 rfl rfl (am_dk tk_X3_readCoin 38 rfl) ?_
    refine am_dup (am_dk tk_X3_readCoin 39 rfl) rfl ?_
    refine ly_geti (lyT_s (lyT_o htw)) fl_X3_113 rfl (am_dk tk_X3_readCoin 40 rfl) ?_
    refine am_iconst (v := 1) (am_dk tk_X3_readCoin 41 rfl) (by decide) ?_
    refine am_iadd (am_dk tk_X3_readCoin 42 rfl) ?_
    refine ly_puti (lyT_s (lyT_o htw)) fl_X3_113 rfl rfl (am_dk tk_X3_readCoin 43 rfl) ?_
    exact am_vret rfl (am_r0 h hΦ) ⟨Nat.le_of_ble_eq_true rfl, Nat.le_of_ble_eq_true rfl⟩ (am_dk tk_X3_readCoin 44 rfl)
  · rw [if_pos hc52] at h
    exact am_vret rfl (am_r0 h hΦ) ⟨Nat.le_of_ble_eq_true rfl, Nat.le_of_ble_eq_true rfl⟩ (am_dk tk_X3_readCoin 28 rfl)
theorem bx_X3_readCoin_17 {l : Launch} {h0 : am_H} {Φ : am_Ph} {tw : Nat} {tp : Bool} (htw : lyT tw) {D' : am_M} (hΦ : Φ none (ly tw tp D')) : ∀ (s0 : Int32) (D : am_M), b_X3_readCoin_17 tw s0 D = some D' → am_Ex (am_E l m_X3_readCoin false h0 Φ) prog_5_method_13_code (0, 0) 17 [(0, .ref 12)] [.int s0, .ref 12] (ly tw tp D) := by
  intro s0 D h
  rw [b_X3_readCoin_17] at h
  obtain ⟨q17, hq17, h⟩ := am_bind h
  refine ly_cV (M := m_X3_stepOverWord) (As := [.int s0]) (b := 12) (st := []) (ct_X3_stepOverWord htw hq17) rfl (by decide) rfl ml_X3_78 ld_X3_stepOverWord rfl ⟨Nat.le_of_ble_eq_true rfl, Nat.le_of_ble_eq_true rfl⟩ (Nat.le_of_ble_eq_true rfl) ⟨rfl, rfl⟩ ⟨Nat.le_of_ble_eq_true rfl, Nat.le_of_ble_eq_true rfl⟩ (am_dk tk_X3_readCoin 9 rfl) (am_kkv ?_)
  refine am_aload_n (j := 0) (am_dk tk_X3_readCoin 10 rfl) rfl rfl ?_
  refine am_iconst (v := 2) (am_dk tk_X3_readCoin 11 rfl) (by decide) ?_
  refine am_bipush (v := 60) (am_dk tk_X3_readCoin 12 rfl) (by decide) ?_
  obtain ⟨q24, hq24, h⟩ := am_bind h
  refine ly_cV (M := m_X3_readNumber) (As := [.int 2, .int 60]) (b := 12) (st := []) (ct_X3_readNumber htw hq24) rfl (by decide) rfl ml_X3_82 ld_X3_readNumber rfl ⟨Nat.le_of_ble_eq_true rfl, Nat.le_of_ble_eq_true rfl⟩ (Nat.le_of_ble_eq_true rfl) ⟨rfl, rfl⟩ ⟨Nat.le_of_ble_eq_true rfl, Nat.le_of_ble_eq_true rfl⟩ (am_dk tk_X3_readCoin 13 rfl) (am_kki ?_)
  refine am_istore_n (L' := [(1, .int q24.1), (0, .ref 12)]) (am_dk tk_X3_readCoin 14 rfl) rfl (Nat.le_of_ble_eq_true rfl) rfl ?_
  refine am_aload_n (j := 1) (am_dk tk_X3_readCoin 15 rfl) rfl rfl ?_
  refine ly_getr (b := (15 - tw)) rfl fl_X3_25 rfl rfl (am_dk tk_X3_readCoin 16 rfl) ?_
  refine am_iload_n (j := 0) (am_dk tk_X3_readCoin 17 rfl) rfl rfl ?_
  obtain ⟨q33, hq33, h⟩ := am_bind h
  refine ly_cV (M := m_X4_hasCoin) (As := [.int q24.1]) (b := (15 - tw)) (st := []) (ct_X4_hasCoin (lyT_o htw) hq33) (lyT_s (lyT_o htw)) (by decide) rfl ml_X3_116 ld_X4_hasCoin rfl ⟨Nat.le_of_ble_eq_true rfl, Nat.le_of_ble_eq_true rfl⟩ (Nat.le_of_ble_eq_true rfl) ⟨rfl, rfl⟩ ⟨Nat.le_of_ble_eq_true rfl, Nat.le_of_ble_eq_true rfl⟩ (am_dk tk_X3_readCoin 18 rfl) (am_kki ?_)
  refine am_if_eq (tgt := 48) (am_dk tk_X3_readCoin 19 rfl) (by decide) (fun hc36 => ?_) (fun hc36 => ?_)
  · rw [if_pos hc36] at h
    refine am_ls [1, 0] rfl ?_
    exact bx_X3_readCoin_48 htw hΦ _ _ h
  · rw [if_neg hc36] at h
    refine am_aload_n (j := 1) (am_dk tk_X3_readCoin 20 rfl) rfl rfl ?_
    refine am_iconst (v := 4) (am_dk tk_X3_readCoin 21 rfl) (by decide) ?_
    refine am_aload_n (j := 1) (am_dk tk_X3_readCoin 22 rfl) rfl rfl ?_
    refine ly_geti rfl fl_X3_19 rfl (am_dk tk_X3_readCoin 23 rfl) ?_
    obtain ⟨q45, hq45, h⟩ := am_bind h
    refine ly_cV (M := m_X3_fail) (As := [.int 4, .int (q33.2 12 2)]) (b := 12) (st := []) (ct_X3_fail htw hq45) rfl (by decide) rfl ml_X3_55 ld_X3_fail rfl ⟨Nat.le_of_ble_eq_true rfl, Nat.le_of_ble_eq_true rfl⟩ (Nat.le_of_ble_eq_true rfl) ⟨rfl, rfl⟩ ⟨Nat.le_of_ble_eq_true rfl, Nat.le_of_ble_eq_true rfl⟩ (am_dk tk_X3_readCoin 24 rfl) (am_kkv ?_)
    refine am_ls [1, 0] rfl ?_
    exact bx_X3_readCoin_48 htw hΦ _ _ h
theorem ct_X3_readCoin {l : Launch} {tw : Nat} {tp : Bool} (htw : lyT tw) {D D' : am_M} (h : f_X3_readCoin tw D = some D') : am_CT l m_X3_readCoin false [.ref 12] (ly tw tp D) (am_is none (ly tw tp D')) := by
  have hΦ : am_is none (ly tw tp D') none (ly tw tp D') := ⟨rfl, rfl⟩
  refine am_CT.of (by decide) (Nat.le_of_ble_eq_true rfl) ?_
  show am_Ex _ _ _ 0 [(0, .ref 12)] [] _
  rw [f_X3_readCoin] at h
  refine am_aload_n (j := 0) (am_dk tk_X3_readCoin 0 rfl) rfl rfl ?_
  refine am_aload_n (j := 0) (am_dk tk_X3_readCoin 1 rfl) rfl rfl ?_
  refine ly_getr (b := (15 - tw)) rfl fl_X3_25 rfl rfl (am_dk tk_X3_readCoin 2 rfl) ?_
  refine ly_geti (lyT_s (lyT_o htw)) fl_X3_113 rfl (am_dk tk_X3_readCoin 3 rfl) ?_
  refine am_iconst (v := 4) (am_dk tk_X3_readCoin 4 rfl) (by decide) ?_
  refine am_icmp_lt (tgt := 16) (am_dk tk_X3_readCoin 5 rfl) (by decide) (fun hc9 => ?_) (fun hc9 => ?_)
  · simp only [if_pos hc9] at h
    refine am_iconst (v := 0) (am_dk tk_X3_readCoin 8 rfl) (by decide) ?_
    exact bx_X3_readCoin_17 htw hΦ _ _ h
  · simp only [if_neg hc9] at h
    refine am_iconst (v := 1) (am_dk tk_X3_readCoin 6 rfl) (by decide) ?_
    refine am_goto (tgt := 17) (am_dk tk_X3_readCoin 7 rfl) (by decide) ?_
    exact bx_X3_readCoin_17 htw hΦ _ _ h
abbrev m_X3_readDebt : am_D := (yX3_readDebt, prog_5_method_14_code, 4, none, { frames := 3, cells := 0, slots := 0, locals := 65 })
theorem ld_X3_readDebt : am_LD m_X3_readDebt 0 := ⟨(am_tb 82 (by decide +kernel) (by decide +kernel)), (am_tb 472 (by decide +kernel) (by decide +kernel)), by decide, by decide, by decide +kernel⟩
def tb_X3_readDebt : List (Nat × Instr × Nat) := [(0, .aload_n 0, 1), (1, .aload_n 0, 1), (2, .getfield 25, 3), (5, .getfield 123, 3), (8, .bipush 8, 2), (10, .if_icmp .lt 7, 3), (13, .iconst 1, 1), (14, .goto 4, 3), (17, .iconst 0, 1), (18, .invokevirtual 78, 3), (21, .aload_n 0, 1), (22, .iconst 0, 1), (23, .aload_n 0, 1), (24, .getfield 25, 3), (27, .getfield 92, 3), (30, .iconst 1, 1), (31, .isub, 1), (32, .invokevirtual 82, 3), (35, .istore_n 1, 1), (36, .aload_n 0, 1), (37, .iconst 0, 1), (38, .bipush 71, 2), (40, .invokevirtual 82, 3), (43, .istore_n 2, 1), (44, .aload_n 0, 1), (45, .iconst 1, 1), (46, .bipush 99, 2), (48, .invokevirtual 82, 3), (51, .istore_n 3, 1), (52, .aload_n 0, 1), (53, .invokevirtual 41, 3), (56, .ifCond .ne 4, 3), (59, .return_, 1), (60, .aload_n 0, 1), (61, .getfield 25, 3), (64, .getfield 126, 3), (67, .aload_n 0, 1), (68, .getfield 25, 3), (71, .getfield 123, 3), (74, .iload_n 1, 1), (75, .iastore, 1), (76, .aload_n 0, 1), (77, .getfield 25, 3), (80, .getfield 129, 3), (83, .aload_n 0, 1), (84, .getfield 25, 3), (87, .getfield 123, 3), (90, .iload_n 2, 1), (91, .iastore, 1), (92, .aload_n 0, 1), (93, .getfield 25, 3), (96, .getfield 132, 3), (99, .aload_n 0, 1), (100, .getfield 25, 3), (103, .getfield 123, 3), (106, .iload_n 3, 1), (107, .iastore, 1), (108, .aload_n 0, 1), (109, .getfield 25, 3), (112, .dup, 1)]
theorem tk_X3_readDebt : am_tbl prog_5_method_14_code tb_X3_readDebt = true := by decide +kernel
def tb_X3_readDebt_1 : List (Nat × Instr × Nat) := [(113, .getfield 123, 3), (116, .iconst 1, 1), (117, .iadd, 1), (118, .putfield 123, 3), (121, .return_, 1)]
theorem tk_X3_readDebt_1 : am_tbl prog_5_method_14_code tb_X3_readDebt_1 = true := by decide +kernel
def b_X3_readDebt_108 (tw : Nat) (D : am_M) : Option am_M := some (am_up D (15 - tw) 5 ((D (15 - tw) 5) + 1))
def b_X3_readDebt_18 (tw : Nat) (s0 : Int32) (D : am_M) : Option am_M := (f_X3_stepOverWord tw s0 D).bind fun q18 => (f_X3_readNumber tw 0 ((q18 (15 - tw) 3) - 1) q18).bind fun q32 => (f_X3_readNumber tw 0 71 q32.2).bind fun q40 => (f_X3_readNumber tw 1 99 q40.2).bind fun q48 => if (f_X3_isGood tw q48.2) = 0 then some q48.2 else if am_in (q48.2 (15 - tw) 5) 8 = true then if am_in ((am_up q48.2 ((15 - tw) + 2) (q48.2 (15 - tw) 5).toNatClampNeg q32.1) (15 - tw) 5) 8 = true then if am_in ((am_up (am_up q48.2 ((15 - tw) + 2) (q48.2 (15 - tw) 5).toNatClampNeg q32.1) ((15 - tw) + 3) ((am_up q48.2 ((15 - tw) + 2) (q48.2 (15 - tw) 5).toNatClampNeg q32.1) (15 - tw) 5).toNatClampNeg q40.1) (15 - tw) 5) 8 = true then b_X3_readDebt_108 tw (am_up (am_up (am_up q48.2 ((15 - tw) + 2) (q48.2 (15 - tw) 5).toNatClampNeg q32.1) ((15 - tw) + 3) ((am_up q48.2 ((15 - tw) + 2) (q48.2 (15 - tw) 5).toNatClampNeg q32.1) (15 - tw) 5).toNatClampNeg q40.1) ((15 - tw) + 4) ((am_up (am_up q48.2 ((15 - tw) + 2) (q48.2 (15 - tw) 5).toNatClampNeg q32.1) ((15 - tw) + 3) ((am_up q48.2 ((15 - tw) + 2) (q48.2 (15 - tw) 5).toNatClampNeg q32.1) (15 - tw) 5).toNatClampNeg q40.1) (15 - tw) 5).toNatClampNeg q48.1) else none else none else none
def f_X3_readDebt (tw : Nat) (D : am_M) : Option am_M := b_X3_readDebt_18 tw (if (D (15 - tw) 5) < 8 then 0 else 1) D
theorem bx_X3_readDebt_108 {l : Launch} {h0 : am_H} {Φ : am_Ph} {tw : Nat} {tp : Bool} (htw : lyT tw) {D' : am_M} (hΦ : Φ none (ly tw tp D')) : ∀ (D : am_M), b_X3_readDebt_108 tw D = some D' → am_Ex (am_E l m_X3_readDebt false h0 Φ) prog_5_method_14_code (0, 0) 108 [(0, .ref 12)] [] (ly tw tp D) := by
  intro  D h
  rw [b_X3_readDebt_108] at h
  refine am_aload_n (j := 0) (am_dk tk_X3_readDebt 57 rfl) rfl rfl ?_
  refine ly_getr (b := (15 - tw)) rfl fl_X3_25 rfl rfl (am_dk tk_X3_readDebt 58 rfl) ?_
  refine am_dup (am_dk tk_X3_readDebt 59 rfl) rfl ?_
  refine ly_geti (lyT_s (lyT_o htw)) fl_X3_123 rfl (am_dk tk_X3_readDebt_1 0 rfl) ?_
  refine am_iconst (v := 1) (am_dk tk_X3_readDebt_1 1 rfl) (by decide) ?_
  refine am_iadd (am_dk tk_X3_readDebt_1 2 rfl) ?_
  refine ly_puti (lyT_s (lyT_o htw)) fl_X3_123 rfl rfl (am_dk tk_X3_readDebt_1 3 rfl) ?_
  exact am_vret rfl (am_r0 h hΦ) ⟨Nat.le_of_ble_eq_true rfl, Nat.le_of_ble_eq_true rfl⟩ (am_dk tk_X3_readDebt_1 4 rfl)
theorem bx_X3_readDebt_18 {l : Launch} {h0 : am_H} {Φ : am_Ph} {tw : Nat} {tp : Bool} (htw : lyT tw) {D' : am_M} (hΦ : Φ none (ly tw tp D')) : ∀ (s0 : Int32) (D : am_M), b_X3_readDebt_18 tw s0 D = some D' → am_Ex (am_E l m_X3_readDebt false h0 Φ) prog_5_method_14_code (0, 0) 18 [(0, .ref 12)] [.int s0, .ref 12] (ly tw tp D) := by
  intro s0 D h
  rw [b_X3_readDebt_18] at h
  obtain ⟨q18, hq18, h⟩ := am_bind h
  refine ly_cV (M := m_X3_stepOverWord) (As := [.int s0]) (b := 12) (st := []) (ct_X3_stepOverWord htw hq18) rfl (by decide) rfl ml_X3_78 ld_X3_stepOverWord rfl ⟨Nat.le_of_ble_eq_true rfl, Nat.le_of_ble_eq_true rfl⟩ (Nat.le_of_ble_eq_true rfl) ⟨rfl, rfl⟩ ⟨Nat.le_of_ble_eq_true rfl, Nat.le_of_ble_eq_true rfl⟩ (am_dk tk_X3_readDebt 9 rfl) (am_kkv ?_)
  refine am_aload_n (j := 0) (am_dk tk_X3_readDebt 10 rfl) rfl rfl ?_
  refine am_iconst (v := 0) (am_dk tk_X3_readDebt 11 rfl) (by decide) ?_
  refine am_aload_n (j := 0) (am_dk tk_X3_readDebt 12 rfl) rfl rfl ?_
  refine ly_getr (b := (15 - tw)) rfl fl_X3_25 rfl rfl (am_dk tk_X3_readDebt 13 rfl) ?_
  refine ly_geti (lyT_s (lyT_o htw)) fl_X3_92 rfl (am_dk tk_X3_readDebt 14 rfl) ?_
  refine am_iconst (v := 1) (am_dk tk_X3_readDebt 15 rfl) (by decide) ?_
  refine am_isub (am_dk tk_X3_readDebt 16 rfl) ?_
  obtain ⟨q32, hq32, h⟩ := am_bind h
  refine ly_cV (M := m_X3_readNumber) (As := [.int 0, .int ((q18 (15 - tw) 3) - 1)]) (b := 12) (st := []) (ct_X3_readNumber htw hq32) rfl (by decide) rfl ml_X3_82 ld_X3_readNumber rfl ⟨Nat.le_of_ble_eq_true rfl, Nat.le_of_ble_eq_true rfl⟩ (Nat.le_of_ble_eq_true rfl) ⟨rfl, rfl⟩ ⟨Nat.le_of_ble_eq_true rfl, Nat.le_of_ble_eq_true rfl⟩ (am_dk tk_X3_readDebt 17 rfl) (am_kki ?_)
  refine am_istore_n (L' := [(1, .int q32.1), (0, .ref 12)]) (am_dk tk_X3_readDebt 18 rfl) rfl (Nat.le_of_ble_eq_true rfl) rfl ?_
  refine am_aload_n (j := 1) (am_dk tk_X3_readDebt 19 rfl) rfl rfl ?_
  refine am_iconst (v := 0) (am_dk tk_X3_readDebt 20 rfl) (by decide) ?_
  refine am_bipush (v := 71) (am_dk tk_X3_readDebt 21 rfl) (by decide) ?_
  obtain ⟨q40, hq40, h⟩ := am_bind h
  refine ly_cV (M := m_X3_readNumber) (As := [.int 0, .int 71]) (b := 12) (st := []) (ct_X3_readNumber htw hq40) rfl (by decide) rfl ml_X3_82 ld_X3_readNumber rfl ⟨Nat.le_of_ble_eq_true rfl, Nat.le_of_ble_eq_true rfl⟩ (Nat.le_of_ble_eq_true rfl) ⟨rfl, rfl⟩ ⟨Nat.le_of_ble_eq_true rfl, Nat.le_of_ble_eq_true rfl⟩ (am_dk tk_X3_readDebt 22 rfl) (am_kki ?_)
  refine am_istore_n (L' := [(2, .int q40.1), (1, .int q32.1), (0, .ref 12)]) (am_dk tk_X3_readDebt 23 rfl) rfl (Nat.le_of_ble_eq_true rfl) rfl ?_
  refine am_aload_n (j := 2) (am_dk tk_X3_readDebt 24 rfl) rfl rfl ?_
  refine am_iconst (v := 1) (am_dk tk_X3_readDebt 25 rfl) (by decide) ?_
  refine am_bipush (v := 99) (am_dk tk_X3_readDebt 26 rfl) (by decide) ?_
  obtain ⟨q48, hq48, h⟩ := am_bind h
  refine ly_cV (M := m_X3_readNumber) (As := [.int 1, .int 99]) (b := 12) (st := []) (ct_X3_readNumber htw hq48) rfl (by decide) rfl ml_X3_82 ld_X3_readNumber rfl ⟨Nat.le_of_ble_eq_true rfl, Nat.le_of_ble_eq_true rfl⟩ (Nat.le_of_ble_eq_true rfl) ⟨rfl, rfl⟩ ⟨Nat.le_of_ble_eq_true rfl, Nat.le_of_ble_eq_true rfl⟩ (am_dk tk_X3_readDebt 27 rfl) (am_kki ?_)
  refine am_istore_n (L' := [(3, .int q48.1), (2, .int q40.1), (1, .int q32.1), (0, .ref 12)]) (am_dk tk_X3_readDebt 28 rfl) rfl (Nat.le_of_ble_eq_true rfl) rfl ?_
  refine am_aload_n (j := 3) (am_dk tk_X3_readDebt 29 rfl) rfl rfl ?_
  refine ly_cV (M := m_X3_isGood) (As := []) (b := 12) (st := []) (ct_X3_isGood htw  _) rfl (by decide) rfl ml_X3_41 ld_X3_isGood rfl ⟨Nat.le_of_ble_eq_true rfl, Nat.le_of_ble_eq_true rfl⟩ (Nat.le_of_ble_eq_true rfl) ⟨rfl, rfl⟩ ⟨Nat.le_of_ble_eq_true rfl, Nat.le_of_ble_eq_true rfl⟩ (am_dk tk_X3_readDebt 30 rfl) (am_kki ?_)
  refine am_if_ne (tgt := 60) (am_dk tk_X3_readDebt 31 rfl) (by decide) (fun hc56 => ?_) (fun hc56 => ?_)
  · rw [if_neg hc56] at h
    refine am_aload_n (j := 3) (am_dk tk_X3_readDebt 33 rfl) rfl rfl ?_
    refine ly_getr (b := (15 - tw)) rfl fl_X3_25 rfl rfl (am_dk tk_X3_readDebt 34 rfl) ?_
    refine ly_getr (b := ((15 - tw) + 2)) (lyT_s (lyT_o htw)) fl_X3_126 rfl (lyT_r8 (lyT_o htw)) (am_dk tk_X3_readDebt 35 rfl) ?_
    refine am_aload_n (j := 3) (am_dk tk_X3_readDebt 36 rfl) rfl rfl ?_
    refine ly_getr (b := (15 - tw)) rfl fl_X3_25 rfl rfl (am_dk tk_X3_readDebt 37 rfl) ?_
    refine ly_geti (lyT_s (lyT_o htw)) fl_X3_123 rfl (am_dk tk_X3_readDebt 38 rfl) ?_
    refine am_iload_n (j := 2) (am_dk tk_X3_readDebt 39 rfl) rfl rfl ?_
    obtain ⟨hi75, h⟩ := am_chk h
    refine ly_iast (k := (q48.2 (15 - tw) 5).toNatClampNeg) (lyT_a8 (lyT_o htw)) (am_in_vp hi75) rfl (am_dk tk_X3_readDebt 40 rfl) ?_
    refine am_aload_n (j := 3) (am_dk tk_X3_readDebt 41 rfl) rfl rfl ?_
    refine ly_getr (b := (15 - tw)) rfl fl_X3_25 rfl rfl (am_dk tk_X3_readDebt 42 rfl) ?_
    refine ly_getr (b := ((15 - tw) + 3)) (lyT_s (lyT_o htw)) fl_X3_129 rfl (lyT_r9 (lyT_o htw)) (am_dk tk_X3_readDebt 43 rfl) ?_
    refine am_aload_n (j := 3) (am_dk tk_X3_readDebt 44 rfl) rfl rfl ?_
    refine ly_getr (b := (15 - tw)) rfl fl_X3_25 rfl rfl (am_dk tk_X3_readDebt 45 rfl) ?_
    refine ly_geti (lyT_s (lyT_o htw)) fl_X3_123 rfl (am_dk tk_X3_readDebt 46 rfl) ?_
    refine am_iload_n (j := 1) (am_dk tk_X3_readDebt 47 rfl) rfl rfl ?_
    obtain ⟨hi91, h⟩ := am_chk h
    refine ly_iast (k := ((am_up q48.2 ((15 - tw) + 2) (q48.2 (15 - tw) 5).toNatClampNeg q32.1) (15 - tw) 5).toNatClampNeg) (lyT_a9 (lyT_o htw)) (am_in_vp hi91) rfl (am_dk tk_X3_readDebt 48 rfl) ?_
    refine am_aload_n (j := 3) (am_dk tk_X3_readDebt 49 rfl) rfl rfl ?_
    refine ly_getr (b := (15 - tw)) rfl fl_X3_25 rfl rfl (am_dk tk_X3_readDebt 50 rfl) ?_
    refine ly_getr (b := ((15 - tw) + 4)) (lyT_s (lyT_o htw)) fl_X3_132 rfl (lyT_r10 (lyT_o htw)) (am_dk tk_X3_readDebt 51 rfl) ?_
    refine am_aload_n (j := 3) (am_dk tk_X3_readDebt 52 rfl) rfl rfl ?_
    refine ly_getr (b := (15 - tw)) rfl fl_X3_25 rfl rfl (am_dk tk_X3_readDebt 53 rfl) ?_
    refine ly_geti (lyT_s (lyT_o htw)) fl_X3_123 rfl (am_dk tk_X3_readDebt 54 rfl) ?_
    refine am_iload_n (j := 0) (am_dk tk_X3_readDebt 55 rfl) rfl rfl ?_
    obtain ⟨hi107, h⟩ := am_chk h
    refine ly_iast (k := ((am_up (am_up q48.2 ((15 - tw) + 2) (q48.2 (15 - tw) 5).toNatClampNeg q32.1) ((15 - tw) + 3) ((am_up q48.2 ((15 - tw) + 2) (q48.2 (15 - tw) 5).toNatClampNeg q32.1) (15 - tw) 5).toNatClampNeg q40.1) (15 - tw) 5).toNatClampNeg) (lyT_a10 (lyT_o htw)) (am_in_vp hi107) rfl (am_dk tk_X3_readDebt 56 rfl) ?_
    refine am_ls [3] rfl ?_
    exact bx_X3_readDebt_108 htw hΦ _ h
  · rw [if_pos hc56] at h
    exact am_vret rfl (am_r0 h hΦ) ⟨Nat.le_of_ble_eq_true rfl, Nat.le_of_ble_eq_true rfl⟩ (am_dk tk_X3_readDebt 32 rfl)
theorem ct_X3_readDebt {l : Launch} {tw : Nat} {tp : Bool} (htw : lyT tw) {D D' : am_M} (h : f_X3_readDebt tw D = some D') : am_CT l m_X3_readDebt false [.ref 12] (ly tw tp D) (am_is none (ly tw tp D')) := by
  have hΦ : am_is none (ly tw tp D') none (ly tw tp D') := ⟨rfl, rfl⟩
  refine am_CT.of (by decide) (Nat.le_of_ble_eq_true rfl) ?_
  show am_Ex _ _ _ 0 [(0, .ref 12)] [] _
  rw [f_X3_readDebt] at h
  refine am_aload_n (j := 0) (am_dk tk_X3_readDebt 0 rfl) rfl rfl ?_
  refine am_aload_n (j := 0) (am_dk tk_X3_readDebt 1 rfl) rfl rfl ?_
  refine ly_getr (b := (15 - tw)) rfl fl_X3_25 rfl rfl (am_dk tk_X3_readDebt 2 rfl) ?_
  refine ly_geti (lyT_s (lyT_o htw)) fl_X3_123 rfl (am_dk tk_X3_readDebt 3 rfl) ?_
  refine am_bipush (v := 8) (am_dk tk_X3_readDebt 4 rfl) (by decide) ?_
  refine am_icmp_lt (tgt := 17) (am_dk tk_X3_readDebt 5 rfl) (by decide) (fun hc10 => ?_) (fun hc10 => ?_)
  · simp only [if_pos hc10] at h
    refine am_iconst (v := 0) (am_dk tk_X3_readDebt 8 rfl) (by decide) ?_
    exact bx_X3_readDebt_18 htw hΦ _ _ h
  · simp only [if_neg hc10] at h
    refine am_iconst (v := 1) (am_dk tk_X3_readDebt 6 rfl) (by decide) ?_
    refine am_goto (tgt := 18) (am_dk tk_X3_readDebt 7 rfl) (by decide) ?_
    exact bx_X3_readDebt_18 htw hΦ _ _ h
abbrev m_X3_readYawn : am_D := (yX3_readYawn, prog_5_method_15_code, 3, none, { frames := 3, cells := 0, slots := 0, locals := 65 })
theorem ld_X3_readYawn : am_LD m_X3_readYawn 0 := ⟨(am_tb 82 (by decide +kernel) (by decide +kernel)), (am_tb 476 (by decide +kernel) (by decide +kernel)), by decide, by decide, by decide +kernel⟩
def tb_X3_readYawn : List (Nat × Instr × Nat) := [(0, .aload_n 0, 1), (1, .iconst 0, 1), (2, .invokevirtual 78, 3), (5, .aload_n 0, 1), (6, .iconst 0, 1), (7, .aload_n 0, 1), (8, .getfield 25, 3), (11, .getfield 92, 3), (14, .iconst 1, 1), (15, .isub, 1), (16, .invokevirtual 82, 3), (19, .istore_n 1, 1), (20, .aload_n 0, 1), (21, .invokevirtual 41, 3), (24, .ifCond .eq 26, 3), (27, .aload_n 0, 1), (28, .getfield 25, 3), (31, .getfield 135, 3), (34, .iload_n 1, 1), (35, .invokestatic 138, 3), (38, .ifCond .eq 12, 3), (41, .aload_n 0, 1), (42, .iconst 4, 1), (43, .aload_n 0, 1), (44, .getfield 19, 3), (47, .invokevirtual 55, 3), (50, .aload_n 0, 1), (51, .iconst 1, 1), (52, .bipush 20, 2), (54, .invokevirtual 82, 3), (57, .istore_n 2, 1), (58, .aload_n 0, 1), (59, .invokevirtual 41, 3), (62, .ifCond .ne 4, 3), (65, .return_, 1), (66, .aload_n 0, 1), (67, .getfield 25, 3), (70, .getfield 142, 3), (73, .iload_n 1, 1), (74, .iload_n 2, 1), (75, .iastore, 1), (76, .aload_n 0, 1), (77, .getfield 25, 3), (80, .dup, 1), (81, .getfield 135, 3), (84, .iconst 1, 1), (85, .iload_n 1, 1), (86, .ishl, 1), (87, .ior, 1), (88, .putfield 135, 3), (91, .return_, 1)]
theorem tk_X3_readYawn : am_tbl prog_5_method_15_code tb_X3_readYawn = true := by decide +kernel
def b_X3_readYawn_50 (tw : Nat) (x1 : Int32) (D : am_M) : Option am_M := (f_X3_readNumber tw 1 20 D).bind fun q54 => if (f_X3_isGood tw q54.2) = 0 then some q54.2 else if am_in x1 5 = true then some (am_up (am_up q54.2 ((15 - tw) + 5) x1.toNatClampNeg q54.1) (15 - tw) 6 (((am_up q54.2 ((15 - tw) + 5) x1.toNatClampNeg q54.1) (15 - tw) 6) ||| (1 <<< (x1 &&& 31)))) else none
def f_X3_readYawn (tw : Nat) (D : am_M) : Option am_M := (f_X3_stepOverWord tw 0 D).bind fun q2 => (f_X3_readNumber tw 0 ((q2 (15 - tw) 3) - 1) q2).bind fun q16 => if (f_X3_isGood tw q16.2) = 0 then b_X3_readYawn_50 tw q16.1 q16.2 else if (f_X5_isIn (q16.2 (15 - tw) 6) q16.1) = 0 then b_X3_readYawn_50 tw q16.1 q16.2 else (f_X3_fail tw 4 (q16.2 12 2) q16.2).bind fun q47 => b_X3_readYawn_50 tw q16.1 q47
theorem bx_X3_readYawn_50 {l : Launch} {h0 : am_H} {Φ : am_Ph} {tw : Nat} {tp : Bool} (htw : lyT tw) {D' : am_M} (hΦ : Φ none (ly tw tp D')) : ∀ (x1 : Int32) (D : am_M), b_X3_readYawn_50 tw x1 D = some D' → am_Ex (am_E l m_X3_readYawn false h0 Φ) prog_5_method_15_code (0, 0) 50 [(0, .ref 12), (1, .int x1)] [] (ly tw tp D) := by
  intro x1 D h
  rw [b_X3_readYawn_50] at h
  refine am_aload_n (j := 0) (am_dk tk_X3_readYawn 26 rfl) rfl rfl ?_
  refine am_iconst (v := 1) (am_dk tk_X3_readYawn 27 rfl) (by decide) ?_
  refine am_bipush (v := 20) (am_dk tk_X3_readYawn 28 rfl) (by decide) ?_
  obtain ⟨q54, hq54, h⟩ := am_bind h
  refine ly_cV (M := m_X3_readNumber) (As := [.int 1, .int 20]) (b := 12) (st := []) (ct_X3_readNumber htw hq54) rfl (by decide) rfl ml_X3_82 ld_X3_readNumber rfl ⟨Nat.le_of_ble_eq_true rfl, Nat.le_of_ble_eq_true rfl⟩ (Nat.le_of_ble_eq_true rfl) ⟨rfl, rfl⟩ ⟨Nat.le_of_ble_eq_true rfl, Nat.le_of_ble_eq_true rfl⟩ (am_dk tk_X3_readYawn 29 rfl) (am_kki ?_)
  refine am_istore_n (L' := [(2, .int q54.1), (0, .ref 12), (1, .int x1)]) (am_dk tk_X3_readYawn 30 rfl) rfl (Nat.le_of_ble_eq_true rfl) rfl ?_
  refine am_aload_n (j := 1) (am_dk tk_X3_readYawn 31 rfl) rfl rfl ?_
  refine ly_cV (M := m_X3_isGood) (As := []) (b := 12) (st := []) (ct_X3_isGood htw  _) rfl (by decide) rfl ml_X3_41 ld_X3_isGood rfl ⟨Nat.le_of_ble_eq_true rfl, Nat.le_of_ble_eq_true rfl⟩ (Nat.le_of_ble_eq_true rfl) ⟨rfl, rfl⟩ ⟨Nat.le_of_ble_eq_true rfl, Nat.le_of_ble_eq_true rfl⟩ (am_dk tk_X3_readYawn 32 rfl) (am_kki ?_)
  refine am_if_ne (tgt := 66) (am_dk tk_X3_readYawn 33 rfl) (by decide) (fun hc62 => ?_) (fun hc62 => ?_)
  · rw [if_neg hc62] at h
    refine am_aload_n (j := 1) (am_dk tk_X3_readYawn 35 rfl) rfl rfl ?_
    refine ly_getr (b := (15 - tw)) rfl fl_X3_25 rfl rfl (am_dk tk_X3_readYawn 36 rfl) ?_
    refine ly_getr (b := ((15 - tw) + 5)) (lyT_s (lyT_o htw)) fl_X3_142 rfl (lyT_r11 (lyT_o htw)) (am_dk tk_X3_readYawn 37 rfl) ?_
    refine am_iload_n (j := 2) (am_dk tk_X3_readYawn 38 rfl) rfl rfl ?_
    refine am_iload_n (j := 0) (am_dk tk_X3_readYawn 39 rfl) rfl rfl ?_
    obtain ⟨hi75, h⟩ := am_chk h
    refine ly_iast (k := x1.toNatClampNeg) (lyT_a11 (lyT_o htw)) (am_in_vp hi75) rfl (am_dk tk_X3_readYawn 40 rfl) ?_
    refine am_aload_n (j := 1) (am_dk tk_X3_readYawn 41 rfl) rfl rfl ?_
    refine ly_getr (b := (15 - tw)) rfl fl_X3_25 rfl rfl (am_dk tk_X3_readYawn 42 rfl) ?_
    refine am_dup (am_dk tk_X3_readYawn 43 rfl) rfl ?_
    refine ly_geti (lyT_s (lyT_o htw)) fl_X3_135 rfl (am_dk tk_X3_readYawn 44 rfl) ?_
    refine am_iconst (v := 1) (am_dk tk_X3_readYawn 45 rfl) (by decide) ?_
    refine am_iload_n (j := 2) (am_dk tk_X3_readYawn 46 rfl) rfl rfl ?_
    refine am_ishl (am_dk tk_X3_readYawn 47 rfl) ?_
    refine am_ior (am_dk tk_X3_readYawn 48 rfl) ?_
    refine ly_puti (lyT_s (lyT_o htw)) fl_X3_135 rfl rfl (am_dk tk_X3_readYawn 49 rfl) ?_
    exact am_vret rfl (am_r0 h hΦ) ⟨Nat.le_of_ble_eq_true rfl, Nat.le_of_ble_eq_true rfl⟩ (am_dk tk_X3_readYawn 50 rfl)
  · rw [if_pos hc62] at h
    exact am_vret rfl (am_r0 h hΦ) ⟨Nat.le_of_ble_eq_true rfl, Nat.le_of_ble_eq_true rfl⟩ (am_dk tk_X3_readYawn 34 rfl)
theorem ct_X3_readYawn {l : Launch} {tw : Nat} {tp : Bool} (htw : lyT tw) {D D' : am_M} (h : f_X3_readYawn tw D = some D') : am_CT l m_X3_readYawn false [.ref 12] (ly tw tp D) (am_is none (ly tw tp D')) := by
  have hΦ : am_is none (ly tw tp D') none (ly tw tp D') := ⟨rfl, rfl⟩
  refine am_CT.of (by decide) (Nat.le_of_ble_eq_true rfl) ?_
  show am_Ex _ _ _ 0 [(0, .ref 12)] [] _
  rw [f_X3_readYawn] at h
  refine am_aload_n (j := 0) (am_dk tk_X3_readYawn 0 rfl) rfl rfl ?_
  refine am_iconst (v := 0) (am_dk tk_X3_readYawn 1 rfl) (by decide) ?_
  obtain ⟨q2, hq2, h⟩ := am_bind h
  refine ly_cV (M := m_X3_stepOverWord) (As := [.int 0]) (b := 12) (st := []) (ct_X3_stepOverWord htw hq2) rfl (by decide) rfl ml_X3_78 ld_X3_stepOverWord rfl ⟨Nat.le_of_ble_eq_true rfl, Nat.le_of_ble_eq_true rfl⟩ (Nat.le_of_ble_eq_true rfl) ⟨rfl, rfl⟩ ⟨Nat.le_of_ble_eq_true rfl, Nat.le_of_ble_eq_true rfl⟩ (am_dk tk_X3_readYawn 2 rfl) (am_kkv ?_)
  refine am_aload_n (j := 0) (am_dk tk_X3_readYawn 3 rfl) rfl rfl ?_
  refine am_iconst (v := 0) (am_dk tk_X3_readYawn 4 rfl) (by decide) ?_
  refine am_aload_n (j := 0) (am_dk tk_X3_readYawn 5 rfl) rfl rfl ?_
  refine ly_getr (b := (15 - tw)) rfl fl_X3_25 rfl rfl (am_dk tk_X3_readYawn 6 rfl) ?_
  refine ly_geti (lyT_s (lyT_o htw)) fl_X3_92 rfl (am_dk tk_X3_readYawn 7 rfl) ?_
  refine am_iconst (v := 1) (am_dk tk_X3_readYawn 8 rfl) (by decide) ?_
  refine am_isub (am_dk tk_X3_readYawn 9 rfl) ?_
  obtain ⟨q16, hq16, h⟩ := am_bind h
  refine ly_cV (M := m_X3_readNumber) (As := [.int 0, .int ((q2 (15 - tw) 3) - 1)]) (b := 12) (st := []) (ct_X3_readNumber htw hq16) rfl (by decide) rfl ml_X3_82 ld_X3_readNumber rfl ⟨Nat.le_of_ble_eq_true rfl, Nat.le_of_ble_eq_true rfl⟩ (Nat.le_of_ble_eq_true rfl) ⟨rfl, rfl⟩ ⟨Nat.le_of_ble_eq_true rfl, Nat.le_of_ble_eq_true rfl⟩ (am_dk tk_X3_readYawn 10 rfl) (am_kki ?_)
  refine am_istore_n (L' := [(1, .int q16.1), (0, .ref 12)]) (am_dk tk_X3_readYawn 11 rfl) rfl (Nat.le_of_ble_eq_true rfl) rfl ?_
  refine am_aload_n (j := 1) (am_dk tk_X3_readYawn 12 rfl) rfl rfl ?_
  refine ly_cV (M := m_X3_isGood) (As := []) (b := 12) (st := []) (ct_X3_isGood htw  _) rfl (by decide) rfl ml_X3_41 ld_X3_isGood rfl ⟨Nat.le_of_ble_eq_true rfl, Nat.le_of_ble_eq_true rfl⟩ (Nat.le_of_ble_eq_true rfl) ⟨rfl, rfl⟩ ⟨Nat.le_of_ble_eq_true rfl, Nat.le_of_ble_eq_true rfl⟩ (am_dk tk_X3_readYawn 13 rfl) (am_kki ?_)
  refine am_if_eq (tgt := 50) (am_dk tk_X3_readYawn 14 rfl) (by decide) (fun hc24 => ?_) (fun hc24 => ?_)
  · rw [if_pos hc24] at h
    refine am_ls [1, 0] rfl ?_
    exact bx_X3_readYawn_50 htw hΦ _ _ h
  · rw [if_neg hc24] at h
    refine am_aload_n (j := 1) (am_dk tk_X3_readYawn 15 rfl) rfl rfl ?_
    refine ly_getr (b := (15 - tw)) rfl fl_X3_25 rfl rfl (am_dk tk_X3_readYawn 16 rfl) ?_
    refine ly_geti (lyT_s (lyT_o htw)) fl_X3_135 rfl (am_dk tk_X3_readYawn 17 rfl) ?_
    refine am_iload_n (j := 0) (am_dk tk_X3_readYawn 18 rfl) rfl rfl ?_
    refine am_cSN (M := m_X5_isIn) (As := [.int (q16.2 (15 - tw) 6), .int q16.1]) (st := []) (ct_X5_isIn _ _ _) ml_X3_138 ld_X5_isIn rfl ⟨Nat.le_of_ble_eq_true rfl, Nat.le_of_ble_eq_true rfl⟩ (Nat.le_of_ble_eq_true rfl) ⟨rfl, rfl⟩ ⟨Nat.le_of_ble_eq_true rfl, Nat.le_of_ble_eq_true rfl⟩ (am_dk tk_X3_readYawn 19 rfl) (am_kki ?_)
    refine am_if_eq (tgt := 50) (am_dk tk_X3_readYawn 20 rfl) (by decide) (fun hc38 => ?_) (fun hc38 => ?_)
    · rw [if_pos hc38] at h
      refine am_ls [1, 0] rfl ?_
      exact bx_X3_readYawn_50 htw hΦ _ _ h
    · rw [if_neg hc38] at h
      refine am_aload_n (j := 1) (am_dk tk_X3_readYawn 21 rfl) rfl rfl ?_
      refine am_iconst (v := 4) (am_dk tk_X3_readYawn 22 rfl) (by decide) ?_
      refine am_aload_n (j := 1) (am_dk tk_X3_readYawn 23 rfl) rfl rfl ?_
      refine ly_geti rfl fl_X3_19 rfl (am_dk tk_X3_readYawn 24 rfl) ?_
      obtain ⟨q47, hq47, h⟩ := am_bind h
      refine ly_cV (M := m_X3_fail) (As := [.int 4, .int (q16.2 12 2)]) (b := 12) (st := []) (ct_X3_fail htw hq47) rfl (by decide) rfl ml_X3_55 ld_X3_fail rfl ⟨Nat.le_of_ble_eq_true rfl, Nat.le_of_ble_eq_true rfl⟩ (Nat.le_of_ble_eq_true rfl) ⟨rfl, rfl⟩ ⟨Nat.le_of_ble_eq_true rfl, Nat.le_of_ble_eq_true rfl⟩ (am_dk tk_X3_readYawn 25 rfl) (am_kkv ?_)
      refine am_ls [1, 0] rfl ?_
      exact bx_X3_readYawn_50 htw hΦ _ _ h
abbrev m_X3_readClause : am_D := (yX3_readClause, prog_5_method_7_code, 2, none, { frames := 4, cells := 0, slots := 0, locals := 89 })
theorem ld_X3_readClause : am_LD m_X3_readClause 0 := ⟨(am_tb 82 (by decide +kernel) (by decide +kernel)), (am_tb 432 (by decide +kernel) (by decide +kernel)), by decide, by decide, by decide +kernel⟩
def tb_X3_readClause : List (Nat × Instr × Nat) := [(0, .aload_n 0, 1), (1, .invokevirtual 45, 3), (4, .istore_n 1, 1), (5, .aload_n 0, 1), (6, .getfield 25, 3), (9, .getfield 52, 3), (12, .ifCond .ne 19, 3), (15, .iload_n 1, 1), (16, .bipush 109, 2), (18, .if_icmp .eq 13, 3), (21, .aload_n 0, 1), (22, .iconst 1, 1), (23, .aload_n 0, 1), (24, .getfield 15, 3), (27, .invokevirtual 55, 3), (30, .return_, 1), (31, .iload_n 1, 1), (32, .lookupswitch 87 #[(99, 66), (100, 73), (109, 52), (112, 59), (117, 80)], 52), (84, .aload_n 0, 1), (85, .invokevirtual 59, 3), (88, .goto 40, 3), (91, .aload_n 0, 1), (92, .invokevirtual 62, 3), (95, .goto 33, 3), (98, .aload_n 0, 1), (99, .invokevirtual 65, 3), (102, .goto 26, 3), (105, .aload_n 0, 1), (106, .invokevirtual 68, 3), (109, .goto 19, 3), (112, .aload_n 0, 1), (113, .invokevirtual 71, 3), (116, .goto 12, 3), (119, .aload_n 0, 1), (120, .iconst 1, 1), (121, .aload_n 0, 1), (122, .getfield 15, 3), (125, .invokevirtual 55, 3), (128, .aload_n 0, 1), (129, .invokevirtual 41, 3), (132, .ifCond .eq 9, 3), (135, .aload_n 0, 1), (136, .bipush 59, 2), (138, .invokevirtual 74, 3), (141, .return_, 1)]
theorem tk_X3_readClause : am_tbl prog_5_method_7_code tb_X3_readClause = true := by decide +kernel
def b_X3_readClause_128 (tw : Nat) (D : am_M) : Option am_M := if (f_X3_isGood tw D) = 0 then some D else (f_X3_expect tw 59 D).bind fun q138 => some q138
def b_X3_readClause_31 (tw : Nat) (x1 : Int32) (D : am_M) : Option am_M := if x1 = 99 then (f_X3_readCoin tw D).bind fun q99 => b_X3_readClause_128 tw q99 else if x1 = 100 then (f_X3_readDebt tw D).bind fun q106 => b_X3_readClause_128 tw q106 else if x1 = 109 then (f_X3_readBeds tw D).bind fun q85 => b_X3_readClause_128 tw q85 else if x1 = 112 then (f_X3_readPerson tw D).bind fun q92 => b_X3_readClause_128 tw q92 else if x1 = 117 then (f_X3_readYawn tw D).bind fun q113 => b_X3_readClause_128 tw q113 else (f_X3_fail tw 1 (D 12 1) D).bind fun q125 => b_X3_readClause_128 tw q125
def f_X3_readClause (tw : Nat) (D : am_M) : Option am_M := (f_X3_peek tw D).bind fun q1 => if (q1.2 (15 - tw) 0) = 0 then if q1.1 = 109 then b_X3_readClause_31 tw q1.1 q1.2 else (f_X3_fail tw 1 (q1.2 12 1) q1.2).bind fun q27 => some q27 else b_X3_readClause_31 tw q1.1 q1.2
theorem bx_X3_readClause_128 {l : Launch} {h0 : am_H} {Φ : am_Ph} {tw : Nat} {tp : Bool} (htw : lyT tw) {D' : am_M} (hΦ : Φ none (ly tw tp D')) : ∀ (D : am_M), b_X3_readClause_128 tw D = some D' → am_Ex (am_E l m_X3_readClause false h0 Φ) prog_5_method_7_code (0, 0) 128 [(0, .ref 12)] [] (ly tw tp D) := by
  intro  D h
  rw [b_X3_readClause_128] at h
  refine am_aload_n (j := 0) (am_dk tk_X3_readClause 38 rfl) rfl rfl ?_
  refine ly_cV (M := m_X3_isGood) (As := []) (b := 12) (st := []) (ct_X3_isGood htw  _) rfl (by decide) rfl ml_X3_41 ld_X3_isGood rfl ⟨Nat.le_of_ble_eq_true rfl, Nat.le_of_ble_eq_true rfl⟩ (Nat.le_of_ble_eq_true rfl) ⟨rfl, rfl⟩ ⟨Nat.le_of_ble_eq_true rfl, Nat.le_of_ble_eq_true rfl⟩ (am_dk tk_X3_readClause 39 rfl) (am_kki ?_)
  refine am_if_eq (tgt := 141) (am_dk tk_X3_readClause 40 rfl) (by decide) (fun hc132 => ?_) (fun hc132 => ?_)
  · rw [if_pos hc132] at h
    exact am_vret rfl (am_r0 h hΦ) ⟨Nat.le_of_ble_eq_true rfl, Nat.le_of_ble_eq_true rfl⟩ (am_dk tk_X3_readClause 44 rfl)
  · rw [if_neg hc132] at h
    refine am_aload_n (j := 0) (am_dk tk_X3_readClause 41 rfl) rfl rfl ?_
    refine am_bipush (v := 59) (am_dk tk_X3_readClause 42 rfl) (by decide) ?_
    obtain ⟨q138, hq138, h⟩ := am_bind h
    refine ly_cV (M := m_X3_expect) (As := [.int 59]) (b := 12) (st := []) (ct_X3_expect htw hq138) rfl (by decide) rfl ml_X3_74 ld_X3_expect rfl ⟨Nat.le_of_ble_eq_true rfl, Nat.le_of_ble_eq_true rfl⟩ (Nat.le_of_ble_eq_true rfl) ⟨rfl, rfl⟩ ⟨Nat.le_of_ble_eq_true rfl, Nat.le_of_ble_eq_true rfl⟩ (am_dk tk_X3_readClause 43 rfl) (am_kkv ?_)
    exact am_vret rfl (am_r0 h hΦ) ⟨Nat.le_of_ble_eq_true rfl, Nat.le_of_ble_eq_true rfl⟩ (am_dk tk_X3_readClause 44 rfl)
theorem bx_X3_readClause_31 {l : Launch} {h0 : am_H} {Φ : am_Ph} {tw : Nat} {tp : Bool} (htw : lyT tw) {D' : am_M} (hΦ : Φ none (ly tw tp D')) : ∀ (x1 : Int32) (D : am_M), b_X3_readClause_31 tw x1 D = some D' → am_Ex (am_E l m_X3_readClause false h0 Φ) prog_5_method_7_code (0, 0) 31 [(0, .ref 12), (1, .int x1)] [] (ly tw tp D) := by
  intro x1 D h
  rw [b_X3_readClause_31] at h
  refine am_iload_n (j := 1) (am_dk tk_X3_readClause 16 rfl) rfl rfl ?_
  by_cases hs32_99 : x1 = 99
  · rw [if_pos hs32_99] at h
    refine am_lookup (off := 66) (tgt := 98) (am_dk tk_X3_readClause 17 rfl) (by decide) (by rw [hs32_99]; decide) (by decide) ?_
    refine am_aload_n (j := 0) (am_dk tk_X3_readClause 24 rfl) rfl rfl ?_
    obtain ⟨q99, hq99, h⟩ := am_bind h
    refine ly_cV (M := m_X3_readCoin) (As := []) (b := 12) (st := []) (ct_X3_readCoin htw hq99) rfl (by decide) rfl ml_X3_65 ld_X3_readCoin rfl ⟨Nat.le_of_ble_eq_true rfl, Nat.le_of_ble_eq_true rfl⟩ (Nat.le_of_ble_eq_true rfl) ⟨rfl, rfl⟩ ⟨Nat.le_of_ble_eq_true rfl, Nat.le_of_ble_eq_true rfl⟩ (am_dk tk_X3_readClause 25 rfl) (am_kkv ?_)
    refine am_goto (tgt := 128) (am_dk tk_X3_readClause 26 rfl) (by decide) ?_
    refine am_ls [0] rfl ?_
    exact bx_X3_readClause_128 htw hΦ _ h
  rw [if_neg hs32_99] at h
  by_cases hs32_100 : x1 = 100
  · rw [if_pos hs32_100] at h
    refine am_lookup (off := 73) (tgt := 105) (am_dk tk_X3_readClause 17 rfl) (by decide) (by rw [hs32_100]; decide) (by decide) ?_
    refine am_aload_n (j := 0) (am_dk tk_X3_readClause 27 rfl) rfl rfl ?_
    obtain ⟨q106, hq106, h⟩ := am_bind h
    refine ly_cV (M := m_X3_readDebt) (As := []) (b := 12) (st := []) (ct_X3_readDebt htw hq106) rfl (by decide) rfl ml_X3_68 ld_X3_readDebt rfl ⟨Nat.le_of_ble_eq_true rfl, Nat.le_of_ble_eq_true rfl⟩ (Nat.le_of_ble_eq_true rfl) ⟨rfl, rfl⟩ ⟨Nat.le_of_ble_eq_true rfl, Nat.le_of_ble_eq_true rfl⟩ (am_dk tk_X3_readClause 28 rfl) (am_kkv ?_)
    refine am_goto (tgt := 128) (am_dk tk_X3_readClause 29 rfl) (by decide) ?_
    refine am_ls [0] rfl ?_
    exact bx_X3_readClause_128 htw hΦ _ h
  rw [if_neg hs32_100] at h
  by_cases hs32_109 : x1 = 109
  · rw [if_pos hs32_109] at h
    refine am_lookup (off := 52) (tgt := 84) (am_dk tk_X3_readClause 17 rfl) (by decide) (by rw [hs32_109]; decide) (by decide) ?_
    refine am_aload_n (j := 0) (am_dk tk_X3_readClause 18 rfl) rfl rfl ?_
    obtain ⟨q85, hq85, h⟩ := am_bind h
    refine ly_cV (M := m_X3_readBeds) (As := []) (b := 12) (st := []) (ct_X3_readBeds htw hq85) rfl (by decide) rfl ml_X3_59 ld_X3_readBeds rfl ⟨Nat.le_of_ble_eq_true rfl, Nat.le_of_ble_eq_true rfl⟩ (Nat.le_of_ble_eq_true rfl) ⟨rfl, rfl⟩ ⟨Nat.le_of_ble_eq_true rfl, Nat.le_of_ble_eq_true rfl⟩ (am_dk tk_X3_readClause 19 rfl) (am_kkv ?_)
    refine am_goto (tgt := 128) (am_dk tk_X3_readClause 20 rfl) (by decide) ?_
    refine am_ls [0] rfl ?_
    exact bx_X3_readClause_128 htw hΦ _ h
  rw [if_neg hs32_109] at h
  by_cases hs32_112 : x1 = 112
  · rw [if_pos hs32_112] at h
    refine am_lookup (off := 59) (tgt := 91) (am_dk tk_X3_readClause 17 rfl) (by decide) (by rw [hs32_112]; decide) (by decide) ?_
    refine am_aload_n (j := 0) (am_dk tk_X3_readClause 21 rfl) rfl rfl ?_
    obtain ⟨q92, hq92, h⟩ := am_bind h
    refine ly_cV (M := m_X3_readPerson) (As := []) (b := 12) (st := []) (ct_X3_readPerson htw hq92) rfl (by decide) rfl ml_X3_62 ld_X3_readPerson rfl ⟨Nat.le_of_ble_eq_true rfl, Nat.le_of_ble_eq_true rfl⟩ (Nat.le_of_ble_eq_true rfl) ⟨rfl, rfl⟩ ⟨Nat.le_of_ble_eq_true rfl, Nat.le_of_ble_eq_true rfl⟩ (am_dk tk_X3_readClause 22 rfl) (am_kkv ?_)
    refine am_goto (tgt := 128) (am_dk tk_X3_readClause 23 rfl) (by decide) ?_
    refine am_ls [0] rfl ?_
    exact bx_X3_readClause_128 htw hΦ _ h
  rw [if_neg hs32_112] at h
  by_cases hs32_117 : x1 = 117
  · rw [if_pos hs32_117] at h
    refine am_lookup (off := 80) (tgt := 112) (am_dk tk_X3_readClause 17 rfl) (by decide) (by rw [hs32_117]; decide) (by decide) ?_
    refine am_aload_n (j := 0) (am_dk tk_X3_readClause 30 rfl) rfl rfl ?_
    obtain ⟨q113, hq113, h⟩ := am_bind h
    refine ly_cV (M := m_X3_readYawn) (As := []) (b := 12) (st := []) (ct_X3_readYawn htw hq113) rfl (by decide) rfl ml_X3_71 ld_X3_readYawn rfl ⟨Nat.le_of_ble_eq_true rfl, Nat.le_of_ble_eq_true rfl⟩ (Nat.le_of_ble_eq_true rfl) ⟨rfl, rfl⟩ ⟨Nat.le_of_ble_eq_true rfl, Nat.le_of_ble_eq_true rfl⟩ (am_dk tk_X3_readClause 31 rfl) (am_kkv ?_)
    refine am_goto (tgt := 128) (am_dk tk_X3_readClause 32 rfl) (by decide) ?_
    refine am_ls [0] rfl ?_
    exact bx_X3_readClause_128 htw hΦ _ h
  rw [if_neg hs32_117] at h
  refine am_lookup (off := 87) (tgt := 119) (am_dk tk_X3_readClause 17 rfl) (by decide) (by show Op.lookupswitch.offset [(99, 66), (100, 73), (109, 52), (112, 59), (117, 80)] 87 _ = _; rw [lv_osw (a := 99) hs32_99 rfl, lv_osw (a := 100) hs32_100 rfl, lv_osw (a := 109) hs32_109 rfl, lv_osw (a := 112) hs32_112 rfl, lv_osw (a := 117) hs32_117 rfl]; rfl) (by decide) ?_
  refine am_aload_n (j := 0) (am_dk tk_X3_readClause 33 rfl) rfl rfl ?_
  refine am_iconst (v := 1) (am_dk tk_X3_readClause 34 rfl) (by decide) ?_
  refine am_aload_n (j := 0) (am_dk tk_X3_readClause 35 rfl) rfl rfl ?_
  refine ly_geti rfl fl_X3_15 rfl (am_dk tk_X3_readClause 36 rfl) ?_
  obtain ⟨q125, hq125, h⟩ := am_bind h
  refine ly_cV (M := m_X3_fail) (As := [.int 1, .int (D 12 1)]) (b := 12) (st := []) (ct_X3_fail htw hq125) rfl (by decide) rfl ml_X3_55 ld_X3_fail rfl ⟨Nat.le_of_ble_eq_true rfl, Nat.le_of_ble_eq_true rfl⟩ (Nat.le_of_ble_eq_true rfl) ⟨rfl, rfl⟩ ⟨Nat.le_of_ble_eq_true rfl, Nat.le_of_ble_eq_true rfl⟩ (am_dk tk_X3_readClause 37 rfl) (am_kkv ?_)
  refine am_ls [0] rfl ?_
  exact bx_X3_readClause_128 htw hΦ _ h
theorem ct_X3_readClause {l : Launch} {tw : Nat} {tp : Bool} (htw : lyT tw) {D D' : am_M} (h : f_X3_readClause tw D = some D') : am_CT l m_X3_readClause false [.ref 12] (ly tw tp D) (am_is none (ly tw tp D')) := by
  have hΦ : am_is none (ly tw tp D') none (ly tw tp D') := ⟨rfl, rfl⟩
  refine am_CT.of (by decide) (Nat.le_of_ble_eq_true rfl) ?_
  show am_Ex _ _ _ 0 [(0, .ref 12)] [] _
  rw [f_X3_readClause] at h
  refine am_aload_n (j := 0) (am_dk tk_X3_readClause 0 rfl) rfl rfl ?_
  obtain ⟨q1, hq1, h⟩ := am_bind h
  refine ly_cV (M := m_X3_peek) (As := []) (b := 12) (st := []) (ct_X3_peek htw hq1) rfl (by decide) rfl ml_X3_45 ld_X3_peek rfl ⟨Nat.le_of_ble_eq_true rfl, Nat.le_of_ble_eq_true rfl⟩ (Nat.le_of_ble_eq_true rfl) ⟨rfl, rfl⟩ ⟨Nat.le_of_ble_eq_true rfl, Nat.le_of_ble_eq_true rfl⟩ (am_dk tk_X3_readClause 1 rfl) (am_kki ?_)
  refine am_istore_n (L' := [(1, .int q1.1), (0, .ref 12)]) (am_dk tk_X3_readClause 2 rfl) rfl (Nat.le_of_ble_eq_true rfl) rfl ?_
  refine am_aload_n (j := 1) (am_dk tk_X3_readClause 3 rfl) rfl rfl ?_
  refine ly_getr (b := (15 - tw)) rfl fl_X3_25 rfl rfl (am_dk tk_X3_readClause 4 rfl) ?_
  refine ly_geti (lyT_s (lyT_o htw)) fl_X3_52 rfl (am_dk tk_X3_readClause 5 rfl) ?_
  refine am_if_ne (tgt := 31) (am_dk tk_X3_readClause 6 rfl) (by decide) (fun hc12 => ?_) (fun hc12 => ?_)
  · rw [if_neg hc12] at h
    refine am_ls [1, 0] rfl ?_
    exact bx_X3_readClause_31 htw hΦ _ _ h
  · rw [if_pos hc12] at h
    refine am_iload_n (j := 0) (am_dk tk_X3_readClause 7 rfl) rfl rfl ?_
    refine am_bipush (v := 109) (am_dk tk_X3_readClause 8 rfl) (by decide) ?_
    refine am_icmp_eq (tgt := 31) (am_dk tk_X3_readClause 9 rfl) (by decide) (fun hc18 => ?_) (fun hc18 => ?_)
    · rw [if_pos hc18] at h
      refine am_ls [1, 0] rfl ?_
      exact bx_X3_readClause_31 htw hΦ _ _ h
    · rw [if_neg hc18] at h
      refine am_aload_n (j := 1) (am_dk tk_X3_readClause 10 rfl) rfl rfl ?_
      refine am_iconst (v := 1) (am_dk tk_X3_readClause 11 rfl) (by decide) ?_
      refine am_aload_n (j := 1) (am_dk tk_X3_readClause 12 rfl) rfl rfl ?_
      refine ly_geti rfl fl_X3_15 rfl (am_dk tk_X3_readClause 13 rfl) ?_
      obtain ⟨q27, hq27, h⟩ := am_bind h
      refine ly_cV (M := m_X3_fail) (As := [.int 1, .int (q1.2 12 1)]) (b := 12) (st := []) (ct_X3_fail htw hq27) rfl (by decide) rfl ml_X3_55 ld_X3_fail rfl ⟨Nat.le_of_ble_eq_true rfl, Nat.le_of_ble_eq_true rfl⟩ (Nat.le_of_ble_eq_true rfl) ⟨rfl, rfl⟩ ⟨Nat.le_of_ble_eq_true rfl, Nat.le_of_ble_eq_true rfl⟩ (am_dk tk_X3_readClause 14 rfl) (am_kkv ?_)
      exact am_vret rfl (am_r0 h hΦ) ⟨Nat.le_of_ble_eq_true rfl, Nat.le_of_ble_eq_true rfl⟩ (am_dk tk_X3_readClause 15 rfl)
abbrev m_X3_read : am_D := (yX3_read, prog_5_method_3_code, 2, (some .boolean), { frames := 5, cells := 0, slots := 0, locals := 110 })
theorem ld_X3_read : am_LD m_X3_read 0 := ⟨(am_tb 82 (by decide +kernel) (by decide +kernel)), (am_tb 413 (by decide +kernel) (by decide +kernel)), by decide, by decide, by decide +kernel⟩
def tb_X3_read : List (Nat × Instr × Nat) := [(0, .aload_n 0, 1), (1, .getfield 25, 3), (4, .invokevirtual 38, 3), (7, .aload_n 0, 1), (8, .iconst 0, 1), (9, .putfield 15, 3), (12, .aload_n 0, 1), (13, .iconst 0, 1), (14, .putfield 32, 3), (17, .aload_n 0, 1), (18, .iconst (-1), 1), (19, .putfield 35, 3), (22, .iconst 0, 1), (23, .istore_n 1, 1), (24, .iload_n 1, 1), (25, .sipush 250, 3), (28, .if_icmp .ge 28, 3), (31, .aload_n 0, 1), (32, .invokevirtual 41, 3), (35, .ifCond .eq 21, 3), (38, .aload_n 0, 1), (39, .invokevirtual 45, 3), (42, .iconst (-1), 1), (43, .if_icmp .eq 13, 3), (46, .aload_n 0, 1), (47, .invokevirtual 49, 3), (50, .iinc 1 1, 3), (53, .goto (-29), 3), (56, .aload_n 0, 1), (57, .iconst 0, 1), (58, .putfield 29, 3), (61, .aload_n 0, 1), (62, .invokevirtual 41, 3), (65, .ireturn, 1)]
theorem tk_X3_read : am_tbl prog_5_method_3_code tb_X3_read = true := by decide +kernel
def b_X3_read_56 (tw : Nat) (D : am_M) : Option (Int32 × am_M) := some (f_X3_isGood tw (am_up D 12 4 0), am_up D 12 4 0)
def b_X3_read_24 (tw : Nat) : Nat → Int32 → am_M → Option (Int32 × am_M)
  | 0, _, _ => none
  | n + 1, x1, D => if 250 ≤ x1 then b_X3_read_56 tw D else if (f_X3_isGood tw D) = 0 then b_X3_read_56 tw D else (f_X3_peek tw D).bind fun q39 => if q39.1 = (-1) then b_X3_read_56 tw q39.2 else (f_X3_readClause tw q39.2).bind fun q47 => b_X3_read_24 tw n (x1 + 1) q47
def f_X3_read (tw : Nat) (D : am_M) : Option (Int32 × am_M) := (f_X4_clear (15 - tw) D).bind fun q4 => b_X3_read_24 tw am_N 0 (am_up (am_up (am_up q4 12 1 0) 12 5 0) 12 6 (-1))
theorem bx_X3_read_56 {l : Launch} {h0 : am_H} {Φ : am_Ph} {tw : Nat} {tp : Bool} (htw : lyT tw) {r : Int32} {D' : am_M} (hΦ : Φ (some (.int r)) (ly tw tp D')) : ∀ (D : am_M), b_X3_read_56 tw D = some (r, D') → am_Ex (am_E l m_X3_read false h0 Φ) prog_5_method_3_code (0, 0) 56 [(0, .ref 12)] [] (ly tw tp D) := by
  intro  D h
  rw [b_X3_read_56] at h
  refine am_aload_n (j := 0) (am_dk tk_X3_read 28 rfl) rfl rfl ?_
  refine am_iconst (v := 0) (am_dk tk_X3_read 29 rfl) (by decide) ?_
  refine ly_puti rfl fl_X3_29 rfl rfl (am_dk tk_X3_read 30 rfl) ?_
  refine am_aload_n (j := 0) (am_dk tk_X3_read 31 rfl) rfl rfl ?_
  refine ly_cV (M := m_X3_isGood) (As := []) (b := 12) (st := []) (ct_X3_isGood htw  _) rfl (by decide) rfl ml_X3_41 ld_X3_isGood rfl ⟨Nat.le_of_ble_eq_true rfl, Nat.le_of_ble_eq_true rfl⟩ (Nat.le_of_ble_eq_true rfl) ⟨rfl, rfl⟩ ⟨Nat.le_of_ble_eq_true rfl, Nat.le_of_ble_eq_true rfl⟩ (am_dk tk_X3_read 32 rfl) (am_kki ?_)
  exact am_zret (zb_X3_isGood tw (am_up D 12 4 0)) rfl (am_r2 h hΦ) ⟨Nat.le_of_ble_eq_true rfl, Nat.le_of_ble_eq_true rfl⟩ (am_dk tk_X3_read 33 rfl)
theorem bx_X3_read_24 {l : Launch} {h0 : am_H} {Φ : am_Ph} {tw : Nat} {tp : Bool} (htw : lyT tw) {r : Int32} {D' : am_M} (hΦ : Φ (some (.int r)) (ly tw tp D')) : ∀ (n : Nat) (x1 : Int32) (D : am_M), b_X3_read_24 tw n x1 D = some (r, D') → am_Ex (am_E l m_X3_read false h0 Φ) prog_5_method_3_code (0, 0) 24 [(0, .ref 12), (1, .int x1)] [] (ly tw tp D) := by
  intro n
  induction n with
  | zero =>
    intro x1 D h
    exact absurd h (by simp [b_X3_read_24])
  | succ n ih =>
    intro x1 D h
    rw [b_X3_read_24] at h
    refine am_iload_n (j := 1) (am_dk tk_X3_read 14 rfl) rfl rfl ?_
    refine am_sipush (v := 250) (am_dk tk_X3_read 15 rfl) (by decide) ?_
    refine am_icmp_ge (tgt := 56) (am_dk tk_X3_read 16 rfl) (by decide) (fun hc28 => ?_) (fun hc28 => ?_)
    · rw [if_pos hc28] at h
      refine am_ls [0] rfl ?_
      exact bx_X3_read_56 htw hΦ _ h
    · rw [if_neg hc28] at h
      refine am_aload_n (j := 0) (am_dk tk_X3_read 17 rfl) rfl rfl ?_
      refine ly_cV (M := m_X3_isGood) (As := []) (b := 12) (st := []) (ct_X3_isGood htw  _) rfl (by decide) rfl ml_X3_41 ld_X3_isGood rfl ⟨Nat.le_of_ble_eq_true rfl, Nat.le_of_ble_eq_true rfl⟩ (Nat.le_of_ble_eq_true rfl) ⟨rfl, rfl⟩ ⟨Nat.le_of_ble_eq_true rfl, Nat.le_of_ble_eq_true rfl⟩ (am_dk tk_X3_read 18 rfl) (am_kki ?_)
      refine am_if_eq (tgt := 56) (am_dk tk_X3_read 19 rfl) (by decide) (fun hc35 => ?_) (fun hc35 => ?_)
      · rw [if_pos hc35] at h
        refine am_ls [0] rfl ?_
        exact bx_X3_read_56 htw hΦ _ h
      · rw [if_neg hc35] at h
        refine am_aload_n (j := 0) (am_dk tk_X3_read 20 rfl) rfl rfl ?_
        obtain ⟨q39, hq39, h⟩ := am_bind h
        refine ly_cV (M := m_X3_peek) (As := []) (b := 12) (st := []) (ct_X3_peek htw hq39) rfl (by decide) rfl ml_X3_45 ld_X3_peek rfl ⟨Nat.le_of_ble_eq_true rfl, Nat.le_of_ble_eq_true rfl⟩ (Nat.le_of_ble_eq_true rfl) ⟨rfl, rfl⟩ ⟨Nat.le_of_ble_eq_true rfl, Nat.le_of_ble_eq_true rfl⟩ (am_dk tk_X3_read 21 rfl) (am_kki ?_)
        refine am_iconst (v := (-1)) (am_dk tk_X3_read 22 rfl) (by decide) ?_
        refine am_icmp_eq (tgt := 56) (am_dk tk_X3_read 23 rfl) (by decide) (fun hc43 => ?_) (fun hc43 => ?_)
        · rw [if_pos hc43] at h
          refine am_ls [0] rfl ?_
          exact bx_X3_read_56 htw hΦ _ h
        · rw [if_neg hc43] at h
          refine am_aload_n (j := 0) (am_dk tk_X3_read 24 rfl) rfl rfl ?_
          obtain ⟨q47, hq47, h⟩ := am_bind h
          refine ly_cV (M := m_X3_readClause) (As := []) (b := 12) (st := []) (ct_X3_readClause htw hq47) rfl (by decide) rfl ml_X3_49 ld_X3_readClause rfl ⟨Nat.le_of_ble_eq_true rfl, Nat.le_of_ble_eq_true rfl⟩ (Nat.le_of_ble_eq_true rfl) ⟨rfl, rfl⟩ ⟨Nat.le_of_ble_eq_true rfl, Nat.le_of_ble_eq_true rfl⟩ (am_dk tk_X3_read 25 rfl) (am_kkv ?_)
          refine am_iinc (j := 1) (v := x1 + 1) (L' := [(1, .int (x1 + 1)), (0, .ref 12)]) (am_dk tk_X3_read 26 rfl) rfl rfl (Nat.le_of_ble_eq_true rfl) rfl ?_
          refine am_goto (tgt := 24) (am_dk tk_X3_read 27 rfl) (by decide) ?_
          refine am_ls [1, 0] rfl ?_
          exact ih _ _ h
theorem ct_X3_read {l : Launch} {tw : Nat} {tp : Bool} (htw : lyT tw) {r : Int32} {D D' : am_M} (h : f_X3_read tw D = some (r, D')) : am_CT l m_X3_read false [.ref 12] (ly tw tp D) (am_is (some (.int r)) (ly tw tp D')) := by
  have hΦ : am_is (some (.int r)) (ly tw tp D') (some (.int r)) (ly tw tp D') := ⟨rfl, rfl⟩
  refine am_CT.of (by decide) (Nat.le_of_ble_eq_true rfl) ?_
  show am_Ex _ _ _ 0 [(0, .ref 12)] [] _
  rw [f_X3_read] at h
  refine am_aload_n (j := 0) (am_dk tk_X3_read 0 rfl) rfl rfl ?_
  refine ly_getr (b := (15 - tw)) rfl fl_X3_25 rfl rfl (am_dk tk_X3_read 1 rfl) ?_
  obtain ⟨q4, hq4, h⟩ := am_bind h
  refine ly_cV (M := m_X4_clear) (As := []) (b := (15 - tw)) (st := []) (ct_X4_clear (lyT_o htw) hq4) (lyT_s (lyT_o htw)) (by decide) rfl ml_X3_38 ld_X4_clear rfl ⟨Nat.le_of_ble_eq_true rfl, Nat.le_of_ble_eq_true rfl⟩ (Nat.le_of_ble_eq_true rfl) ⟨rfl, rfl⟩ ⟨Nat.le_of_ble_eq_true rfl, Nat.le_of_ble_eq_true rfl⟩ (am_dk tk_X3_read 2 rfl) (am_kkv ?_)
  refine am_aload_n (j := 0) (am_dk tk_X3_read 3 rfl) rfl rfl ?_
  refine am_iconst (v := 0) (am_dk tk_X3_read 4 rfl) (by decide) ?_
  refine ly_puti rfl fl_X3_15 rfl rfl (am_dk tk_X3_read 5 rfl) ?_
  refine am_aload_n (j := 0) (am_dk tk_X3_read 6 rfl) rfl rfl ?_
  refine am_iconst (v := 0) (am_dk tk_X3_read 7 rfl) (by decide) ?_
  refine ly_puti rfl fl_X3_32 rfl rfl (am_dk tk_X3_read 8 rfl) ?_
  refine am_aload_n (j := 0) (am_dk tk_X3_read 9 rfl) rfl rfl ?_
  refine am_iconst (v := (-1)) (am_dk tk_X3_read 10 rfl) (by decide) ?_
  refine ly_puti rfl fl_X3_35 rfl rfl (am_dk tk_X3_read 11 rfl) ?_
  refine am_iconst (v := 0) (am_dk tk_X3_read 12 rfl) (by decide) ?_
  refine am_istore_n (L' := [(1, .int 0), (0, .ref 12)]) (am_dk tk_X3_read 13 rfl) rfl (Nat.le_of_ble_eq_true rfl) rfl ?_
  refine am_ls [1, 0] rfl ?_
  exact bx_X3_read_24 htw hΦ am_N _ _ h
end
section
abbrev m_X1_forget : am_D := (yX1_forget, prog_3_method_2_code, 1, none, { frames := 0, cells := 0, slots := 0, locals := 0 })
theorem ld_X1_forget : am_LD m_X1_forget 0 := ⟨(am_tb 83 (by decide +kernel) (by decide +kernel)), (am_tb 494 (by decide +kernel) (by decide +kernel)), by decide, by decide, by decide +kernel⟩
def tb_X1_forget : List (Nat × Instr × Nat) := [(0, .aload_n 0, 1), (1, .iconst (-1), 1), (2, .putfield 31, 3), (5, .aload_n 0, 1), (6, .iconst 0, 1), (7, .putfield 18, 3), (10, .return_, 1)]
theorem tk_X1_forget : am_tbl prog_3_method_2_code tb_X1_forget = true := by decide +kernel
def f_X1_forget (D : am_M) : Option am_M := some (am_up (am_up D 45 6 (-1)) 45 2 0)
theorem ct_X1_forget {l : Launch} {tw : Nat} {tp : Bool}  {D D' : am_M} (h : f_X1_forget D = some D') : am_CT l m_X1_forget false [.ref 45] (ly tw tp D) (am_is none (ly tw tp D')) := by
  have hΦ : am_is none (ly tw tp D') none (ly tw tp D') := ⟨rfl, rfl⟩
  refine am_CT.of (by decide) (Nat.le_of_ble_eq_true rfl) ?_
  show am_Ex _ _ _ 0 [(0, .ref 45)] [] _
  rw [f_X1_forget] at h
  refine am_aload_n (j := 0) (am_dk tk_X1_forget 0 rfl) rfl rfl ?_
  refine am_iconst (v := (-1)) (am_dk tk_X1_forget 1 rfl) (by decide) ?_
  refine ly_puti rfl fl_X1_31 rfl rfl (am_dk tk_X1_forget 2 rfl) ?_
  refine am_aload_n (j := 0) (am_dk tk_X1_forget 3 rfl) rfl rfl ?_
  refine am_iconst (v := 0) (am_dk tk_X1_forget 4 rfl) (by decide) ?_
  refine ly_puti rfl fl_X1_18 rfl rfl (am_dk tk_X1_forget 5 rfl) ?_
  exact am_vret rfl (am_r0 h hΦ) ⟨Nat.le_of_ble_eq_true rfl, Nat.le_of_ble_eq_true rfl⟩ (am_dk tk_X1_forget 6 rfl)
abbrev m_X1_isMade : am_D := (yX1_isMade, prog_3_method_4_code, 4, (some .boolean), { frames := 0, cells := 0, slots := 0, locals := 0 })
theorem ld_X1_isMade : am_LD m_X1_isMade 3 := ⟨(am_tb 83 (by decide +kernel) (by decide +kernel)), (am_tb 621 (by decide +kernel) (by decide +kernel)), by decide, by decide, by decide +kernel⟩
def tb_X1_isMade : List (Nat × Instr × Nat) := [(0, .aload_n 0, 1), (1, .getfield 31, 3), (4, .iload_n 2, 1), (5, .if_icmp .ne 65, 3), (8, .aload_n 0, 1), (9, .getfield 38, 3), (12, .iload_n 3, 1), (13, .if_icmp .ne 57, 3), (16, .aload_n 0, 1), (17, .getfield 46, 3), (20, .aload_n 1, 1), (21, .getfield 41, 3), (24, .if_icmp .ne 46, 3), (27, .aload_n 0, 1), (28, .getfield 50, 3), (31, .aload_n 1, 1), (32, .getfield 47, 3), (35, .iload_n 2, 1), (36, .iaload, 1), (37, .if_icmp .ne 33, 3), (40, .aload_n 0, 1), (41, .getfield 55, 3), (44, .aload_n 1, 1), (45, .getfield 52, 3), (48, .iload_n 2, 1), (49, .iaload, 1), (50, .if_icmp .ne 20, 3), (53, .aload_n 0, 1), (54, .getfield 60, 3), (57, .aload_n 1, 1), (58, .getfield 57, 3), (61, .iload_n 2, 1), (62, .iaload, 1), (63, .if_icmp .ne 7, 3), (66, .iconst 1, 1), (67, .goto 4, 3), (70, .iconst 0, 1), (71, .ireturn, 1)]
theorem tk_X1_isMade : am_tbl prog_3_method_4_code tb_X1_isMade = true := by decide +kernel
def f_X1_isMade (M : Nat) (x2 : Int32) (x3 : Int32) (D : am_M) : Option (Int32 × am_M) := if (D 45 6) = x2 then if (D 45 7) = x3 then if (D 45 8) = (D M 6) then if am_in x2 5 = true then if (D 45 9) = (D (M + 1) x2.toNatClampNeg) then if (D 45 10) = (D (M + 2) x2.toNatClampNeg) then if (D 45 11) = (D (M + 3) x2.toNatClampNeg) then some (1, D) else some (0, D) else some (0, D) else some (0, D) else none else some (0, D) else some (0, D) else some (0, D)
theorem ct_X1_isMade {l : Launch} {tw : Nat} {tp : Bool} {M : Nat} (hM : lyM M) {x2 : Int32} {x3 : Int32} {r : Int32} {D D' : am_M} (h : f_X1_isMade M x2 x3 D = some (r, D')) : am_CT l m_X1_isMade false [.ref 45, .ref M, .int x2, .int x3] (ly tw tp D) (am_is (some (.int r)) (ly tw tp D')) := by
  have hΦ : am_is (some (.int r)) (ly tw tp D') (some (.int r)) (ly tw tp D') := ⟨rfl, rfl⟩
  refine am_CT.of (by decide) (Nat.le_of_ble_eq_true rfl) ?_
  show am_Ex _ _ _ 0 [(0, .ref 45), (1, .ref M), (2, .int x2), (3, .int x3)] [] _
  rw [f_X1_isMade] at h
  refine am_aload_n (j := 0) (am_dk tk_X1_isMade 0 rfl) rfl rfl ?_
  refine ly_geti rfl fl_X1_31 rfl (am_dk tk_X1_isMade 1 rfl) ?_
  refine am_iload_n (j := 2) (am_dk tk_X1_isMade 2 rfl) rfl rfl ?_
  refine am_icmp_ne (tgt := 70) (am_dk tk_X1_isMade 3 rfl) (by decide) (fun hc5 => ?_) (fun hc5 => ?_)
  · rw [if_neg hc5] at h
    refine am_iconst (v := 0) (am_dk tk_X1_isMade 36 rfl) (by decide) ?_
    exact am_zret (Or.inl rfl) rfl (am_r2 h hΦ) ⟨Nat.le_of_ble_eq_true rfl, Nat.le_of_ble_eq_true rfl⟩ (am_dk tk_X1_isMade 37 rfl)
  · rw [if_pos hc5] at h
    refine am_aload_n (j := 0) (am_dk tk_X1_isMade 4 rfl) rfl rfl ?_
    refine ly_geti rfl fl_X1_38 rfl (am_dk tk_X1_isMade 5 rfl) ?_
    refine am_iload_n (j := 3) (am_dk tk_X1_isMade 6 rfl) rfl rfl ?_
    refine am_icmp_ne (tgt := 70) (am_dk tk_X1_isMade 7 rfl) (by decide) (fun hc13 => ?_) (fun hc13 => ?_)
    · rw [if_neg hc13] at h
      refine am_iconst (v := 0) (am_dk tk_X1_isMade 36 rfl) (by decide) ?_
      exact am_zret (Or.inl rfl) rfl (am_r2 h hΦ) ⟨Nat.le_of_ble_eq_true rfl, Nat.le_of_ble_eq_true rfl⟩ (am_dk tk_X1_isMade 37 rfl)
    · rw [if_pos hc13] at h
      refine am_aload_n (j := 0) (am_dk tk_X1_isMade 8 rfl) rfl rfl ?_
      refine ly_geti rfl fl_X1_46 rfl (am_dk tk_X1_isMade 9 rfl) ?_
      refine am_aload_n (j := 1) (am_dk tk_X1_isMade 10 rfl) rfl rfl ?_
      refine ly_geti (lyM_s hM) fl_X1_41 rfl (am_dk tk_X1_isMade 11 rfl) ?_
      refine am_icmp_ne (tgt := 70) (am_dk tk_X1_isMade 12 rfl) (by decide) (fun hc24 => ?_) (fun hc24 => ?_)
      · rw [if_neg hc24] at h
        refine am_iconst (v := 0) (am_dk tk_X1_isMade 36 rfl) (by decide) ?_
        exact am_zret (Or.inl rfl) rfl (am_r2 h hΦ) ⟨Nat.le_of_ble_eq_true rfl, Nat.le_of_ble_eq_true rfl⟩ (am_dk tk_X1_isMade 37 rfl)
      · rw [if_pos hc24] at h
        refine am_aload_n (j := 0) (am_dk tk_X1_isMade 13 rfl) rfl rfl ?_
        refine ly_geti rfl fl_X1_50 rfl (am_dk tk_X1_isMade 14 rfl) ?_
        refine am_aload_n (j := 1) (am_dk tk_X1_isMade 15 rfl) rfl rfl ?_
        refine ly_getr (b := (M + 1)) (lyM_s hM) fl_X1_47 rfl (lyM_r0 hM) (am_dk tk_X1_isMade 16 rfl) ?_
        refine am_iload_n (j := 2) (am_dk tk_X1_isMade 17 rfl) rfl rfl ?_
        obtain ⟨hi36, h⟩ := am_chk h
        refine ly_iald (k := x2.toNatClampNeg) (lyM_a0 hM) (am_in_vp hi36) rfl (am_dk tk_X1_isMade 18 rfl) ?_
        refine am_icmp_ne (tgt := 70) (am_dk tk_X1_isMade 19 rfl) (by decide) (fun hc37 => ?_) (fun hc37 => ?_)
        · rw [if_neg hc37] at h
          refine am_iconst (v := 0) (am_dk tk_X1_isMade 36 rfl) (by decide) ?_
          exact am_zret (Or.inl rfl) rfl (am_r2 h hΦ) ⟨Nat.le_of_ble_eq_true rfl, Nat.le_of_ble_eq_true rfl⟩ (am_dk tk_X1_isMade 37 rfl)
        · rw [if_pos hc37] at h
          refine am_aload_n (j := 0) (am_dk tk_X1_isMade 20 rfl) rfl rfl ?_
          refine ly_geti rfl fl_X1_55 rfl (am_dk tk_X1_isMade 21 rfl) ?_
          refine am_aload_n (j := 1) (am_dk tk_X1_isMade 22 rfl) rfl rfl ?_
          refine ly_getr (b := (M + 2)) (lyM_s hM) fl_X1_52 rfl (lyM_r1 hM) (am_dk tk_X1_isMade 23 rfl) ?_
          refine am_iload_n (j := 2) (am_dk tk_X1_isMade 24 rfl) rfl rfl ?_
          refine ly_iald (k := x2.toNatClampNeg) (lyM_a1 hM) (am_in_vp hi36) rfl (am_dk tk_X1_isMade 25 rfl) ?_
          refine am_icmp_ne (tgt := 70) (am_dk tk_X1_isMade 26 rfl) (by decide) (fun hc50 => ?_) (fun hc50 => ?_)
          · rw [if_neg hc50] at h
            refine am_iconst (v := 0) (am_dk tk_X1_isMade 36 rfl) (by decide) ?_
            exact am_zret (Or.inl rfl) rfl (am_r2 h hΦ) ⟨Nat.le_of_ble_eq_true rfl, Nat.le_of_ble_eq_true rfl⟩ (am_dk tk_X1_isMade 37 rfl)
          · rw [if_pos hc50] at h
            refine am_aload_n (j := 0) (am_dk tk_X1_isMade 27 rfl) rfl rfl ?_
            refine ly_geti rfl fl_X1_60 rfl (am_dk tk_X1_isMade 28 rfl) ?_
            refine am_aload_n (j := 1) (am_dk tk_X1_isMade 29 rfl) rfl rfl ?_
            refine ly_getr (b := (M + 3)) (lyM_s hM) fl_X1_57 rfl (lyM_r2 hM) (am_dk tk_X1_isMade 30 rfl) ?_
            refine am_iload_n (j := 2) (am_dk tk_X1_isMade 31 rfl) rfl rfl ?_
            refine ly_iald (k := x2.toNatClampNeg) (lyM_a2 hM) (am_in_vp hi36) rfl (am_dk tk_X1_isMade 32 rfl) ?_
            refine am_icmp_ne (tgt := 70) (am_dk tk_X1_isMade 33 rfl) (by decide) (fun hc63 => ?_) (fun hc63 => ?_)
            · rw [if_neg hc63] at h
              refine am_iconst (v := 0) (am_dk tk_X1_isMade 36 rfl) (by decide) ?_
              exact am_zret (Or.inl rfl) rfl (am_r2 h hΦ) ⟨Nat.le_of_ble_eq_true rfl, Nat.le_of_ble_eq_true rfl⟩ (am_dk tk_X1_isMade 37 rfl)
            · rw [if_pos hc63] at h
              refine am_iconst (v := 1) (am_dk tk_X1_isMade 34 rfl) (by decide) ?_
              refine am_goto (tgt := 71) (am_dk tk_X1_isMade 35 rfl) (by decide) ?_
              exact am_zret (Or.inr rfl) rfl (am_r2 h hΦ) ⟨Nat.le_of_ble_eq_true rfl, Nat.le_of_ble_eq_true rfl⟩ (am_dk tk_X1_isMade 37 rfl)
abbrev m_X1_clearLastEarnings : am_D := (yX1_clearLastEarnings, prog_3_method_6_code, 2, none, { frames := 0, cells := 0, slots := 0, locals := 0 })
theorem ld_X1_clearLastEarnings : am_LD m_X1_clearLastEarnings 0 := ⟨(am_tb 83 (by decide +kernel) (by decide +kernel)), (am_tb 630 (by decide +kernel) (by decide +kernel)), by decide, by decide, by decide +kernel⟩
def tb_X1_clearLastEarnings : List (Nat × Instr × Nat) := [(0, .iconst 0, 1), (1, .istore_n 1, 1), (2, .iload_n 1, 1), (3, .aload_n 0, 1), (4, .getfield 92, 3), (7, .if_icmp .ge 16, 3), (10, .aload_n 0, 1), (11, .getfield 15, 3), (14, .iload_n 1, 1), (15, .iconst 0, 1), (16, .iastore, 1), (17, .iinc 1 1, 3), (20, .goto (-18), 3), (23, .return_, 1)]
theorem tk_X1_clearLastEarnings : am_tbl prog_3_method_6_code tb_X1_clearLastEarnings = true := by decide +kernel
def b_X1_clearLastEarnings_2 : Nat → Int32 → am_M → Option am_M
  | 0, _, _ => none
  | n + 1, x1, D => if (D 45 14) ≤ x1 then some D else if am_in x1 44100 = true then b_X1_clearLastEarnings_2 n (x1 + 1) (am_up D 84 x1.toNatClampNeg 0) else none
def f_X1_clearLastEarnings (D : am_M) : Option am_M := b_X1_clearLastEarnings_2 am_N 0 D
theorem bx_X1_clearLastEarnings_2 {l : Launch} {h0 : am_H} {Φ : am_Ph} {tw : Nat}  {D' : am_M} (hΦ : Φ none (ly tw true D')) : ∀ (n : Nat) (x1 : Int32) (D : am_M), b_X1_clearLastEarnings_2 n x1 D = some D' → am_Ex (am_E l m_X1_clearLastEarnings false h0 Φ) prog_3_method_6_code (0, 0) 2 [(0, .ref 45), (1, .int x1)] [] (ly tw true D) := by
  intro n
  induction n with
  | zero =>
    intro x1 D h
    exact absurd h (by simp [b_X1_clearLastEarnings_2])
  | succ n ih =>
    intro x1 D h
    rw [b_X1_clearLastEarnings_2] at h
    refine am_iload_n (j := 1) (am_dk tk_X1_clearLastEarnings 2 rfl) rfl rfl ?_
    refine am_aload_n (j := 0) (am_dk tk_X1_clearLastEarnings 3 rfl) rfl rfl ?_
    refine ly_geti rfl fl_X1_92 rfl (am_dk tk_X1_clearLastEarnings 4 rfl) ?_
    refine am_icmp_ge (tgt := 23) (am_dk tk_X1_clearLastEarnings 5 rfl) (by decide) (fun hc7 => ?_) (fun hc7 => ?_)
    · rw [if_pos hc7] at h
      exact am_vret rfl (am_r0 h hΦ) ⟨Nat.le_of_ble_eq_true rfl, Nat.le_of_ble_eq_true rfl⟩ (am_dk tk_X1_clearLastEarnings 13 rfl)
    · rw [if_neg hc7] at h
      refine am_aload_n (j := 0) (am_dk tk_X1_clearLastEarnings 6 rfl) rfl rfl ?_
      refine ly_getr (b := 84) rfl fl_X1_15 rfl rfl (am_dk tk_X1_clearLastEarnings 7 rfl) ?_
      refine am_iload_n (j := 1) (am_dk tk_X1_clearLastEarnings 8 rfl) rfl rfl ?_
      refine am_iconst (v := 0) (am_dk tk_X1_clearLastEarnings 9 rfl) (by decide) ?_
      obtain ⟨hi16, h⟩ := am_chk h
      refine ly_iast (k := x1.toNatClampNeg) rfl (am_in_vp hi16) rfl (am_dk tk_X1_clearLastEarnings 10 rfl) ?_
      refine am_iinc (j := 1) (v := x1 + 1) (L' := [(1, .int (x1 + 1)), (0, .ref 45)]) (am_dk tk_X1_clearLastEarnings 11 rfl) rfl rfl (Nat.le_of_ble_eq_true rfl) rfl ?_
      refine am_goto (tgt := 2) (am_dk tk_X1_clearLastEarnings 12 rfl) (by decide) ?_
      refine am_ls [1, 0] rfl ?_
      exact ih _ _ h
theorem ct_X1_clearLastEarnings {l : Launch} {tw : Nat}  {D D' : am_M} (h : f_X1_clearLastEarnings D = some D') : am_CT l m_X1_clearLastEarnings false [.ref 45] (ly tw true D) (am_is none (ly tw true D')) := by
  have hΦ : am_is none (ly tw true D') none (ly tw true D') := ⟨rfl, rfl⟩
  refine am_CT.of (by decide) (Nat.le_of_ble_eq_true rfl) ?_
  show am_Ex _ _ _ 0 [(0, .ref 45)] [] _
  rw [f_X1_clearLastEarnings] at h
  refine am_iconst (v := 0) (am_dk tk_X1_clearLastEarnings 0 rfl) (by decide) ?_
  refine am_istore_n (L' := [(1, .int 0), (0, .ref 45)]) (am_dk tk_X1_clearLastEarnings 1 rfl) rfl (Nat.le_of_ble_eq_true rfl) rfl ?_
  refine am_ls [1, 0] rfl ?_
  exact bx_X1_clearLastEarnings_2  hΦ am_N _ _ h
abbrev m_X1_place : am_D := (yX1_place, prog_3_method_9_code, 4, (some .int), { frames := 0, cells := 0, slots := 0, locals := 0 })
theorem ld_X1_place : am_LD m_X1_place 3 := ⟨(am_tb 83 (by decide +kernel) (by decide +kernel)), (am_tb 646 (by decide +kernel) (by decide +kernel)), by decide, by decide, by decide +kernel⟩
def tb_X1_place : List (Nat × Instr × Nat) := [(0, .iload_n 1, 1), (1, .aload_n 0, 1), (2, .getfield 92, 3), (5, .imul, 1), (6, .iload_n 2, 1), (7, .aload_n 0, 1), (8, .getfield 87, 3), (11, .imul, 1), (12, .iadd, 1), (13, .iload_n 3, 1), (14, .iadd, 1), (15, .ireturn, 1)]
theorem tk_X1_place : am_tbl prog_3_method_9_code tb_X1_place = true := by decide +kernel
def f_X1_place (x1 : Int32) (x2 : Int32) (x3 : Int32) (D : am_M) : Int32 := ((x1 * (D 45 14)) + (x2 * (D 45 12))) + x3
theorem ct_X1_place {l : Launch} {tw : Nat} {tp : Bool} (x1 : Int32) (x2 : Int32) (x3 : Int32) (D : am_M) : am_CT l m_X1_place false [.ref 45, .int x1, .int x2, .int x3] (ly tw tp D) (am_is (some (.int (f_X1_place x1 x2 x3 D))) (ly tw tp D)) := by
  refine am_CT.of (by decide) (Nat.le_of_ble_eq_true rfl) ?_
  show am_Ex _ _ _ 0 [(0, .ref 45), (1, .int x1), (2, .int x2), (3, .int x3)] [] _
  refine am_iload_n (j := 1) (am_dk tk_X1_place 0 rfl) rfl rfl ?_
  refine am_aload_n (j := 0) (am_dk tk_X1_place 1 rfl) rfl rfl ?_
  refine ly_geti rfl fl_X1_92 rfl (am_dk tk_X1_place 2 rfl) ?_
  refine am_imul (am_dk tk_X1_place 3 rfl) ?_
  refine am_iload_n (j := 2) (am_dk tk_X1_place 4 rfl) rfl rfl ?_
  refine am_aload_n (j := 0) (am_dk tk_X1_place 5 rfl) rfl rfl ?_
  refine ly_geti rfl fl_X1_87 rfl (am_dk tk_X1_place 6 rfl) ?_
  refine am_imul (am_dk tk_X1_place 7 rfl) ?_
  refine am_iadd (am_dk tk_X1_place 8 rfl) ?_
  refine am_iload_n (j := 3) (am_dk tk_X1_place 9 rfl) rfl rfl ?_
  refine am_iadd (am_dk tk_X1_place 10 rfl) ?_
  exact am_iret rfl ⟨rfl, rfl⟩ ⟨Nat.le_of_ble_eq_true rfl, Nat.le_of_ble_eq_true rfl⟩ (am_dk tk_X1_place 11 rfl)
abbrev m_X1_easedBySleep : am_D := (yX1_easedBySleep, prog_3_method_12_code, 1, (some .int), { frames := 1, cells := 0, slots := 0, locals := 13 })
theorem ld_X1_easedBySleep : am_LD m_X1_easedBySleep 1 := ⟨(am_tb 83 (by decide +kernel) (by decide +kernel)), (am_tb 657 (by decide +kernel) (by decide +kernel)), by decide, by decide, by decide +kernel⟩
def tb_X1_easedBySleep : List (Nat × Instr × Nat) := [(0, .iload_n 0, 1), (1, .iconst 4, 1), (2, .isub, 1), (3, .iconst 0, 1), (4, .invokestatic 118, 3), (7, .ireturn, 1)]
theorem tk_X1_easedBySleep : am_tbl prog_3_method_12_code tb_X1_easedBySleep = true := by decide +kernel
def f_X1_easedBySleep (x0 : Int32) : Int32 := am_max (x0 - 4) 0
theorem ct_X1_easedBySleep {l : Launch} (x0 : Int32) (h : am_H) : am_CT l m_X1_easedBySleep false [.int x0] h (am_is (some (.int (f_X1_easedBySleep x0))) h) := by
  refine am_CT.of (by decide) (Nat.le_of_ble_eq_true rfl) ?_
  show am_Ex _ _ _ 0 [(0, .int x0)] [] _
  refine am_iload_n (j := 0) (am_dk tk_X1_easedBySleep 0 rfl) rfl rfl ?_
  refine am_iconst (v := 4) (am_dk tk_X1_easedBySleep 1 rfl) (by decide) ?_
  refine am_isub (am_dk tk_X1_easedBySleep 2 rfl) ?_
  refine am_iconst (v := 0) (am_dk tk_X1_easedBySleep 3 rfl) (by decide) ?_
  refine am_mmax lm_X1_118 (Nat.le_of_ble_eq_true rfl) (Nat.le_of_ble_eq_true rfl) ⟨Nat.le_of_ble_eq_true rfl, Nat.le_of_ble_eq_true rfl⟩ (am_dk tk_X1_easedBySleep 4 rfl) ?_
  exact am_iret rfl ⟨rfl, rfl⟩ ⟨Nat.le_of_ble_eq_true rfl, Nat.le_of_ble_eq_true rfl⟩ (am_dk tk_X1_easedBySleep 5 rfl)
abbrev m_X1_tiredByWork : am_D := (yX1_tiredByWork, prog_3_method_13_code, 1, (some .int), { frames := 1, cells := 0, slots := 0, locals := 13 })
theorem ld_X1_tiredByWork : am_LD m_X1_tiredByWork 1 := ⟨(am_tb 83 (by decide +kernel) (by decide +kernel)), (am_tb 641 (by decide +kernel) (by decide +kernel)), by decide, by decide, by decide +kernel⟩
def tb_X1_tiredByWork : List (Nat × Instr × Nat) := [(0, .iload_n 0, 1), (1, .iconst 3, 1), (2, .iadd, 1), (3, .bipush 99, 2), (5, .invokestatic 157, 3), (8, .ireturn, 1)]
theorem tk_X1_tiredByWork : am_tbl prog_3_method_13_code tb_X1_tiredByWork = true := by decide +kernel
def f_X1_tiredByWork (x0 : Int32) : Int32 := am_min (x0 + 3) 99
theorem ct_X1_tiredByWork {l : Launch} (x0 : Int32) (h : am_H) : am_CT l m_X1_tiredByWork false [.int x0] h (am_is (some (.int (f_X1_tiredByWork x0))) h) := by
  refine am_CT.of (by decide) (Nat.le_of_ble_eq_true rfl) ?_
  show am_Ex _ _ _ 0 [(0, .int x0)] [] _
  refine am_iload_n (j := 0) (am_dk tk_X1_tiredByWork 0 rfl) rfl rfl ?_
  refine am_iconst (v := 3) (am_dk tk_X1_tiredByWork 1 rfl) (by decide) ?_
  refine am_iadd (am_dk tk_X1_tiredByWork 2 rfl) ?_
  refine am_bipush (v := 99) (am_dk tk_X1_tiredByWork 3 rfl) (by decide) ?_
  refine am_mmin lm_X1_157 (Nat.le_of_ble_eq_true rfl) (Nat.le_of_ble_eq_true rfl) ⟨Nat.le_of_ble_eq_true rfl, Nat.le_of_ble_eq_true rfl⟩ (am_dk tk_X1_tiredByWork 4 rfl) ?_
  exact am_iret rfl ⟨rfl, rfl⟩ ⟨Nat.le_of_ble_eq_true rfl, Nat.le_of_ble_eq_true rfl⟩ (am_dk tk_X1_tiredByWork 5 rfl)
abbrev m_X1_longerSleep : am_D := (yX1_longerSleep, prog_3_method_14_code, 2, (some .int), { frames := 1, cells := 0, slots := 0, locals := 13 })
theorem ld_X1_longerSleep : am_LD m_X1_longerSleep 1 := ⟨(am_tb 83 (by decide +kernel) (by decide +kernel)), (am_tb 662 (by decide +kernel) (by decide +kernel)), by decide, by decide, by decide +kernel⟩
def tb_X1_longerSleep : List (Nat × Instr × Nat) := [(0, .iload_n 1, 1), (1, .iconst 1, 1), (2, .iadd, 1), (3, .aload_n 0, 1), (4, .getfield 87, 3), (7, .iconst 1, 1), (8, .isub, 1), (9, .invokestatic 157, 3), (12, .ireturn, 1)]
theorem tk_X1_longerSleep : am_tbl prog_3_method_14_code tb_X1_longerSleep = true := by decide +kernel
def f_X1_longerSleep (x1 : Int32) (D : am_M) : Int32 := am_min (x1 + 1) ((D 45 12) - 1)
theorem ct_X1_longerSleep {l : Launch} {tw : Nat} {tp : Bool} (x1 : Int32) (D : am_M) : am_CT l m_X1_longerSleep false [.ref 45, .int x1] (ly tw tp D) (am_is (some (.int (f_X1_longerSleep x1 D))) (ly tw tp D)) := by
  refine am_CT.of (by decide) (Nat.le_of_ble_eq_true rfl) ?_
  show am_Ex _ _ _ 0 [(0, .ref 45), (1, .int x1)] [] _
  refine am_iload_n (j := 1) (am_dk tk_X1_longerSleep 0 rfl) rfl rfl ?_
  refine am_iconst (v := 1) (am_dk tk_X1_longerSleep 1 rfl) (by decide) ?_
  refine am_iadd (am_dk tk_X1_longerSleep 2 rfl) ?_
  refine am_aload_n (j := 0) (am_dk tk_X1_longerSleep 3 rfl) rfl rfl ?_
  refine ly_geti rfl fl_X1_87 rfl (am_dk tk_X1_longerSleep 4 rfl) ?_
  refine am_iconst (v := 1) (am_dk tk_X1_longerSleep 5 rfl) (by decide) ?_
  refine am_isub (am_dk tk_X1_longerSleep 6 rfl) ?_
  refine am_mmin lm_X1_157 (Nat.le_of_ble_eq_true rfl) (Nat.le_of_ble_eq_true rfl) ⟨Nat.le_of_ble_eq_true rfl, Nat.le_of_ble_eq_true rfl⟩ (am_dk tk_X1_longerSleep 7 rfl) ?_
  exact am_iret rfl ⟨rfl, rfl⟩ ⟨Nat.le_of_ble_eq_true rfl, Nat.le_of_ble_eq_true rfl⟩ (am_dk tk_X1_longerSleep 8 rfl)
abbrev m_X1_earned : am_D := (yX1_earned, prog_3_method_15_code, 2, (some .int), { frames := 0, cells := 0, slots := 0, locals := 0 })
theorem ld_X1_earned : am_LD m_X1_earned 1 := ⟨(am_tb 83 (by decide +kernel) (by decide +kernel)), (am_tb 650 (by decide +kernel) (by decide +kernel)), by decide, by decide, by decide +kernel⟩
def tb_X1_earned : List (Nat × Instr × Nat) := [(0, .iload_n 1, 1), (1, .iconst 1, 1), (2, .iadd, 1), (3, .aload_n 0, 1), (4, .getfield 87, 3), (7, .if_icmp .lt 10, 3), (10, .aload_n 0, 1), (11, .getfield 91, 3), (14, .goto 4, 3), (17, .iconst 1, 1), (18, .ireturn, 1)]
theorem tk_X1_earned : am_tbl prog_3_method_15_code tb_X1_earned = true := by decide +kernel
def f_X1_earned (x1 : Int32) (D : am_M) : Int32 := if (x1 + 1) < (D 45 12) then 1 else D 45 13
theorem ct_X1_earned {l : Launch} {tw : Nat} {tp : Bool} (x1 : Int32) (D : am_M) : am_CT l m_X1_earned false [.ref 45, .int x1] (ly tw tp D) (am_is (some (.int (f_X1_earned x1 D))) (ly tw tp D)) := by
  refine am_CT.of (by decide) (Nat.le_of_ble_eq_true rfl) ?_
  show am_Ex _ _ _ 0 [(0, .ref 45), (1, .int x1)] [] _
  refine am_iload_n (j := 1) (am_dk tk_X1_earned 0 rfl) rfl rfl ?_
  refine am_iconst (v := 1) (am_dk tk_X1_earned 1 rfl) (by decide) ?_
  refine am_iadd (am_dk tk_X1_earned 2 rfl) ?_
  refine am_aload_n (j := 0) (am_dk tk_X1_earned 3 rfl) rfl rfl ?_
  refine ly_geti rfl fl_X1_87 rfl (am_dk tk_X1_earned 4 rfl) ?_
  refine am_icmp_lt (tgt := 17) (am_dk tk_X1_earned 5 rfl) (by decide) (fun hc7 => ?_) (fun hc7 => ?_)
  · skip
    refine am_iconst (v := 1) (am_dk tk_X1_earned 9 rfl) (by decide) ?_
    exact am_iret rfl ⟨by simp only [f_X1_earned, if_pos hc7], rfl⟩ ⟨Nat.le_of_ble_eq_true rfl, Nat.le_of_ble_eq_true rfl⟩ (am_dk tk_X1_earned 10 rfl)
  · skip
    refine am_aload_n (j := 0) (am_dk tk_X1_earned 6 rfl) rfl rfl ?_
    refine ly_geti rfl fl_X1_91 rfl (am_dk tk_X1_earned 7 rfl) ?_
    refine am_goto (tgt := 18) (am_dk tk_X1_earned 8 rfl) (by decide) ?_
    exact am_iret rfl ⟨by simp only [f_X1_earned, if_neg hc7], rfl⟩ ⟨Nat.le_of_ble_eq_true rfl, Nat.le_of_ble_eq_true rfl⟩ (am_dk tk_X1_earned 10 rfl)
abbrev m_X1_placeAsleep : am_D := (yX1_placeAsleep, prog_3_method_10_code, 4, (some .int), { frames := 2, cells := 0, slots := 0, locals := 34 })
theorem ld_X1_placeAsleep : am_LD m_X1_placeAsleep 3 := ⟨(am_tb 83 (by decide +kernel) (by decide +kernel)), (am_tb 654 (by decide +kernel) (by decide +kernel)), by decide, by decide, by decide +kernel⟩
def tb_X1_placeAsleep : List (Nat × Instr × Nat) := [(0, .aload_n 0, 1), (1, .iload_n 1, 1), (2, .iload_n 2, 1), (3, .invokestatic 148, 3), (6, .aload_n 0, 1), (7, .iload_n 3, 1), (8, .invokevirtual 151, 3), (11, .invokevirtual 115, 3), (14, .ireturn, 1)]
theorem tk_X1_placeAsleep : am_tbl prog_3_method_10_code tb_X1_placeAsleep = true := by decide +kernel
def f_X1_placeAsleep (x1 : Int32) (x2 : Int32) (x3 : Int32) (D : am_M) : Int32 := f_X1_place x1 (f_X1_easedBySleep x2) (f_X1_longerSleep x3 D) D
theorem ct_X1_placeAsleep {l : Launch} {tw : Nat} {tp : Bool} (x1 : Int32) (x2 : Int32) (x3 : Int32) (D : am_M) : am_CT l m_X1_placeAsleep false [.ref 45, .int x1, .int x2, .int x3] (ly tw tp D) (am_is (some (.int (f_X1_placeAsleep x1 x2 x3 D))) (ly tw tp D)) := by
  refine am_CT.of (by decide) (Nat.le_of_ble_eq_true rfl) ?_
  show am_Ex _ _ _ 0 [(0, .ref 45), (1, .int x1), (2, .int x2), (3, .int x3)] [] _
  refine am_aload_n (j := 0) (am_dk tk_X1_placeAsleep 0 rfl) rfl rfl ?_
  refine am_iload_n (j := 1) (am_dk tk_X1_placeAsleep 1 rfl) rfl rfl ?_
  refine am_iload_n (j := 2) (am_dk tk_X1_placeAsleep 2 rfl) rfl rfl ?_
  refine am_cS (M := m_X1_easedBySleep) (As := [.int x2]) (st := [.int x1, .ref 45]) (ct_X1_easedBySleep _ _) ml_X1_148 ld_X1_easedBySleep rfl ⟨Nat.le_of_ble_eq_true rfl, Nat.le_of_ble_eq_true rfl⟩ (Nat.le_of_ble_eq_true rfl) ⟨rfl, rfl⟩ ⟨Nat.le_of_ble_eq_true rfl, Nat.le_of_ble_eq_true rfl⟩ (am_dk tk_X1_placeAsleep 3 rfl) (am_kki ?_)
  refine am_aload_n (j := 0) (am_dk tk_X1_placeAsleep 4 rfl) rfl rfl ?_
  refine am_iload_n (j := 3) (am_dk tk_X1_placeAsleep 5 rfl) rfl rfl ?_
  refine ly_cV (M := m_X1_longerSleep) (As := [.int x3]) (b := 45) (st := [.int (f_X1_easedBySleep x2), .int x1, .ref 45]) (ct_X1_longerSleep _ _) rfl (by decide) rfl ml_X1_151 ld_X1_longerSleep rfl ⟨Nat.le_of_ble_eq_true rfl, Nat.le_of_ble_eq_true rfl⟩ (Nat.le_of_ble_eq_true rfl) ⟨rfl, rfl⟩ ⟨Nat.le_of_ble_eq_true rfl, Nat.le_of_ble_eq_true rfl⟩ (am_dk tk_X1_placeAsleep 6 rfl) (am_kki ?_)
  refine ly_cV (M := m_X1_place) (As := [.int x1, .int (f_X1_easedBySleep x2), .int (f_X1_longerSleep x3 D)]) (b := 45) (st := []) (ct_X1_place _ _ _ _) rfl (by decide) rfl ml_X1_115 ld_X1_place rfl ⟨Nat.le_of_ble_eq_true rfl, Nat.le_of_ble_eq_true rfl⟩ (Nat.le_of_ble_eq_true rfl) ⟨rfl, rfl⟩ ⟨Nat.le_of_ble_eq_true rfl, Nat.le_of_ble_eq_true rfl⟩ (am_dk tk_X1_placeAsleep 7 rfl) (am_kki ?_)
  exact am_iret rfl ⟨rfl, rfl⟩ ⟨Nat.le_of_ble_eq_true rfl, Nat.le_of_ble_eq_true rfl⟩ (am_dk tk_X1_placeAsleep 8 rfl)
abbrev m_X1_placeAtWork : am_D := (yX1_placeAtWork, prog_3_method_11_code, 3, (some .int), { frames := 2, cells := 0, slots := 0, locals := 33 })
theorem ld_X1_placeAtWork : am_LD m_X1_placeAtWork 2 := ⟨(am_tb 83 (by decide +kernel) (by decide +kernel)), (am_tb 638 (by decide +kernel) (by decide +kernel)), by decide, by decide, by decide +kernel⟩
def tb_X1_placeAtWork : List (Nat × Instr × Nat) := [(0, .aload_n 0, 1), (1, .iload_n 1, 1), (2, .iload_n 2, 1), (3, .invokestatic 154, 3), (6, .iconst 0, 1), (7, .invokevirtual 115, 3), (10, .ireturn, 1)]
theorem tk_X1_placeAtWork : am_tbl prog_3_method_11_code tb_X1_placeAtWork = true := by decide +kernel
def f_X1_placeAtWork (x1 : Int32) (x2 : Int32) (D : am_M) : Int32 := f_X1_place x1 (f_X1_tiredByWork x2) 0 D
theorem ct_X1_placeAtWork {l : Launch} {tw : Nat} {tp : Bool} (x1 : Int32) (x2 : Int32) (D : am_M) : am_CT l m_X1_placeAtWork false [.ref 45, .int x1, .int x2] (ly tw tp D) (am_is (some (.int (f_X1_placeAtWork x1 x2 D))) (ly tw tp D)) := by
  refine am_CT.of (by decide) (Nat.le_of_ble_eq_true rfl) ?_
  show am_Ex _ _ _ 0 [(0, .ref 45), (1, .int x1), (2, .int x2)] [] _
  refine am_aload_n (j := 0) (am_dk tk_X1_placeAtWork 0 rfl) rfl rfl ?_
  refine am_iload_n (j := 1) (am_dk tk_X1_placeAtWork 1 rfl) rfl rfl ?_
  refine am_iload_n (j := 2) (am_dk tk_X1_placeAtWork 2 rfl) rfl rfl ?_
  refine am_cS (M := m_X1_tiredByWork) (As := [.int x2]) (st := [.int x1, .ref 45]) (ct_X1_tiredByWork _ _) ml_X1_154 ld_X1_tiredByWork rfl ⟨Nat.le_of_ble_eq_true rfl, Nat.le_of_ble_eq_true rfl⟩ (Nat.le_of_ble_eq_true rfl) ⟨rfl, rfl⟩ ⟨Nat.le_of_ble_eq_true rfl, Nat.le_of_ble_eq_true rfl⟩ (am_dk tk_X1_placeAtWork 3 rfl) (am_kki ?_)
  refine am_iconst (v := 0) (am_dk tk_X1_placeAtWork 4 rfl) (by decide) ?_
  refine ly_cV (M := m_X1_place) (As := [.int x1, .int (f_X1_tiredByWork x2), .int 0]) (b := 45) (st := []) (ct_X1_place _ _ _ _) rfl (by decide) rfl ml_X1_115 ld_X1_place rfl ⟨Nat.le_of_ble_eq_true rfl, Nat.le_of_ble_eq_true rfl⟩ (Nat.le_of_ble_eq_true rfl) ⟨rfl, rfl⟩ ⟨Nat.le_of_ble_eq_true rfl, Nat.le_of_ble_eq_true rfl⟩ (am_dk tk_X1_placeAtWork 5 rfl) (am_kki ?_)
  exact am_iret rfl ⟨rfl, rfl⟩ ⟨Nat.le_of_ble_eq_true rfl, Nat.le_of_ble_eq_true rfl⟩ (am_dk tk_X1_placeAtWork 6 rfl)
abbrev m_X1_learnEarnings : am_D := (yX1_learnEarnings, prog_3_method_7_code, 6, none, { frames := 3, cells := 0, slots := 0, locals := 57 })
theorem ld_X1_learnEarnings : am_LD m_X1_learnEarnings 1 := ⟨(am_tb 83 (by decide +kernel) (by decide +kernel)), (am_tb 634 (by decide +kernel) (by decide +kernel)), by decide, by decide, by decide +kernel⟩
def tb_X1_learnEarnings : List (Nat × Instr × Nat) := [(0, .iconst 0, 1), (1, .istore_n 2, 1), (2, .iload_n 2, 1), (3, .bipush 99, 2), (5, .if_icmp .gt 92, 3), (8, .aload_n 0, 1), (9, .getfield 15, 3), (12, .aload_n 0, 1), (13, .iload_n 1, 1), (14, .iconst 1, 1), (15, .isub, 1), (16, .iload_n 2, 1), (17, .invokevirtual 103, 3), (20, .iaload, 1), (21, .istore_n 3, 1), (22, .iconst 0, 1), (23, .istore 4, 2), (25, .iload 4, 2), (27, .aload_n 0, 1), (28, .getfield 87, 3), (31, .if_icmp .ge 60, 3), (34, .iload_n 2, 1), (35, .ifCond .le 28, 3), (38, .aload_n 0, 1), (39, .iload 4, 2), (41, .invokevirtual 107, 3), (44, .aload_n 0, 1), (45, .getfield 15, 3), (48, .aload_n 0, 1), (49, .iload_n 1, 1), (50, .iconst 1, 1), (51, .isub, 1), (52, .iload_n 2, 1), (53, .iload 4, 2), (55, .invokevirtual 111, 3), (58, .iaload, 1), (59, .iadd, 1), (60, .goto 4, 3), (63, .iconst 0, 1), (64, .istore 5, 2), (66, .aload_n 0, 1), (67, .getfield 15, 3), (70, .aload_n 0, 1), (71, .iload_n 1, 1), (72, .iload_n 2, 1), (73, .iload 4, 2), (75, .invokevirtual 115, 3), (78, .iload_n 3, 1), (79, .iload 5, 2), (81, .invokestatic 118, 3), (84, .iastore, 1), (85, .iinc 4 1, 3), (88, .goto (-63), 3), (91, .iinc 2 1, 3), (94, .goto (-92), 3), (97, .return_, 1)]
theorem tk_X1_learnEarnings : am_tbl prog_3_method_7_code tb_X1_learnEarnings = true := by decide +kernel
def b_X1_learnEarnings_64 (k2 : Int32 → Int32 → am_M → Option am_M) (k25 : Int32 → Int32 → Int32 → Int32 → am_M → Option am_M) (x1 : Int32) (x2 : Int32) (x3 : Int32) (x4 : Int32) (s0 : Int32) (D : am_M) : Option am_M := if am_in (f_X1_place x1 x2 x4 D) 44100 = true then k25 x1 x2 x3 (x4 + 1) (am_up D 84 (f_X1_place x1 x2 x4 D).toNatClampNeg (am_max x3 s0)) else none
def b_X1_learnEarnings_25 (k2 : Int32 → Int32 → am_M → Option am_M) : Nat → Int32 → Int32 → Int32 → Int32 → am_M → Option am_M
  | 0, _, _, _, _, _ => none
  | n + 1, x1, x2, x3, x4, D => if (D 45 12) ≤ x4 then k2 x1 (x2 + 1) D else if x2 ≤ 0 then b_X1_learnEarnings_64 k2 (b_X1_learnEarnings_25 k2 n) x1 x2 x3 x4 0 D else if am_in (f_X1_placeAsleep (x1 - 1) x2 x4 D) 44100 = true then b_X1_learnEarnings_64 k2 (b_X1_learnEarnings_25 k2 n) x1 x2 x3 x4 ((f_X1_earned x4 D) + (D 84 (f_X1_placeAsleep (x1 - 1) x2 x4 D).toNatClampNeg)) D else none
def b_X1_learnEarnings_2 : Nat → Int32 → Int32 → am_M → Option am_M
  | 0, _, _, _ => none
  | n + 1, x1, x2, D => if 99 < x2 then some D else if am_in (f_X1_placeAtWork (x1 - 1) x2 D) 44100 = true then b_X1_learnEarnings_25 (b_X1_learnEarnings_2 n) am_N x1 x2 (D 84 (f_X1_placeAtWork (x1 - 1) x2 D).toNatClampNeg) 0 D else none
def f_X1_learnEarnings (x1 : Int32) (D : am_M) : Option am_M := b_X1_learnEarnings_2 am_N x1 0 D
theorem bx_X1_learnEarnings_64 {l : Launch} {h0 : am_H} {Φ : am_Ph} {tw : Nat}  {D' : am_M} (hΦ : Φ none (ly tw true D')) {k2 : Int32 → Int32 → am_M → Option am_M} (hk2 : ∀ (x1 : Int32) (x2 : Int32) (D : am_M), k2 x1 x2 D = some D' → am_Ex (am_E l m_X1_learnEarnings false h0 Φ) prog_3_method_7_code (0, 0) 2 [(0, .ref 45), (1, .int x1), (2, .int x2)] [] (ly tw true D)) {k25 : Int32 → Int32 → Int32 → Int32 → am_M → Option am_M} (hk25 : ∀ (x1 : Int32) (x2 : Int32) (x3 : Int32) (x4 : Int32) (D : am_M), k25 x1 x2 x3 x4 D = some D' → am_Ex (am_E l m_X1_learnEarnings false h0 Φ) prog_3_method_7_code (0, 0) 25 [(0, .ref 45), (1, .int x1), (2, .int x2), (3, .int x3), (4, .int x4)] [] (ly tw true D)) : ∀ (x1 : Int32) (x2 : Int32) (x3 : Int32) (x4 : Int32) (s0 : Int32) (D : am_M), b_X1_learnEarnings_64 k2 k25 x1 x2 x3 x4 s0 D = some D' → am_Ex (am_E l m_X1_learnEarnings false h0 Φ) prog_3_method_7_code (0, 0) 64 [(0, .ref 45), (1, .int x1), (2, .int x2), (3, .int x3), (4, .int x4)] [.int s0] (ly tw true D) := by
  intro x1 x2 x3 x4 s0 D h
  rw [b_X1_learnEarnings_64] at h
  refine am_istore (L' := [(5, .int s0), (0, .ref 45), (1, .int x1), (2, .int x2), (3, .int x3), (4, .int x4)]) (am_dk tk_X1_learnEarnings 39 rfl) (Nat.le_of_ble_eq_true rfl) rfl ?_
  refine am_aload_n (j := 1) (am_dk tk_X1_learnEarnings 40 rfl) rfl rfl ?_
  refine ly_getr (b := 84) rfl fl_X1_15 rfl rfl (am_dk tk_X1_learnEarnings 41 rfl) ?_
  refine am_aload_n (j := 1) (am_dk tk_X1_learnEarnings 42 rfl) rfl rfl ?_
  refine am_iload_n (j := 2) (am_dk tk_X1_learnEarnings 43 rfl) rfl rfl ?_
  refine am_iload_n (j := 3) (am_dk tk_X1_learnEarnings 44 rfl) rfl rfl ?_
  refine am_iload (j := 5) (am_dk tk_X1_learnEarnings 45 rfl) rfl ?_
  refine ly_cV (M := m_X1_place) (As := [.int x1, .int x2, .int x4]) (b := 45) (st := [.ref 84]) (ct_X1_place _ _ _ _) rfl (by decide) rfl ml_X1_115 ld_X1_place rfl ⟨Nat.le_of_ble_eq_true rfl, Nat.le_of_ble_eq_true rfl⟩ (Nat.le_of_ble_eq_true rfl) ⟨rfl, rfl⟩ ⟨Nat.le_of_ble_eq_true rfl, Nat.le_of_ble_eq_true rfl⟩ (am_dk tk_X1_learnEarnings 46 rfl) (am_kki ?_)
  refine am_iload_n (j := 4) (am_dk tk_X1_learnEarnings 47 rfl) rfl rfl ?_
  refine am_iload (j := 0) (am_dk tk_X1_learnEarnings 48 rfl) rfl ?_
  refine am_mmax lm_X1_118 (Nat.le_of_ble_eq_true rfl) (Nat.le_of_ble_eq_true rfl) ⟨Nat.le_of_ble_eq_true rfl, Nat.le_of_ble_eq_true rfl⟩ (am_dk tk_X1_learnEarnings 49 rfl) ?_
  obtain ⟨hi84, h⟩ := am_chk h
  refine ly_iast (k := (f_X1_place x1 x2 x4 D).toNatClampNeg) rfl (am_in_vp hi84) rfl (am_dk tk_X1_learnEarnings 50 rfl) ?_
  refine am_iinc (j := 5) (v := x4 + 1) (L' := [(4, .int (x4 + 1)), (5, .int s0), (0, .ref 45), (1, .int x1), (2, .int x2), (3, .int x3)]) (am_dk tk_X1_learnEarnings 51 rfl) rfl rfl (Nat.le_of_ble_eq_true rfl) rfl ?_
  refine am_goto (tgt := 25) (am_dk tk_X1_learnEarnings 52 rfl) (by decide) ?_
  refine am_ls [2, 3, 4, 5, 0] rfl ?_
  exact hk25 _ _ _ _ _ h
theorem bx_X1_learnEarnings_25 {l : Launch} {h0 : am_H} {Φ : am_Ph} {tw : Nat}  {D' : am_M} (hΦ : Φ none (ly tw true D')) {k2 : Int32 → Int32 → am_M → Option am_M} (hk2 : ∀ (x1 : Int32) (x2 : Int32) (D : am_M), k2 x1 x2 D = some D' → am_Ex (am_E l m_X1_learnEarnings false h0 Φ) prog_3_method_7_code (0, 0) 2 [(0, .ref 45), (1, .int x1), (2, .int x2)] [] (ly tw true D)) : ∀ (n : Nat) (x1 : Int32) (x2 : Int32) (x3 : Int32) (x4 : Int32) (D : am_M), b_X1_learnEarnings_25 k2 n x1 x2 x3 x4 D = some D' → am_Ex (am_E l m_X1_learnEarnings false h0 Φ) prog_3_method_7_code (0, 0) 25 [(0, .ref 45), (1, .int x1), (2, .int x2), (3, .int x3), (4, .int x4)] [] (ly tw true D) := by
  intro n
  induction n with
  | zero =>
    intro x1 x2 x3 x4 D h
    exact absurd h (by simp [b_X1_learnEarnings_25])
  | succ n ih =>
    intro x1 x2 x3 x4 D h
    rw [b_X1_learnEarnings_25] at h
    refine am_iload (j := 4) (am_dk tk_X1_learnEarnings 17 rfl) rfl ?_
    refine am_aload_n (j := 0) (am_dk tk_X1_learnEarnings 18 rfl) rfl rfl ?_
    refine ly_geti rfl fl_X1_87 rfl (am_dk tk_X1_learnEarnings 19 rfl) ?_
    refine am_icmp_ge (tgt := 91) (am_dk tk_X1_learnEarnings 20 rfl) (by decide) (fun hc31 => ?_) (fun hc31 => ?_)
    · rw [if_pos hc31] at h
      refine am_iinc (j := 2) (v := x2 + 1) (L' := [(2, .int (x2 + 1)), (0, .ref 45), (1, .int x1), (3, .int x3), (4, .int x4)]) (am_dk tk_X1_learnEarnings 53 rfl) rfl rfl (Nat.le_of_ble_eq_true rfl) rfl ?_
      refine am_goto (tgt := 2) (am_dk tk_X1_learnEarnings 54 rfl) (by decide) ?_
      refine am_ls [1, 2, 0] rfl ?_
      exact hk2 _ _ _ h
    · rw [if_neg hc31] at h
      refine am_iload_n (j := 2) (am_dk tk_X1_learnEarnings 21 rfl) rfl rfl ?_
      refine am_if_le (tgt := 63) (am_dk tk_X1_learnEarnings 22 rfl) (by decide) (fun hc35 => ?_) (fun hc35 => ?_)
      · rw [if_pos hc35] at h
        refine am_iconst (v := 0) (am_dk tk_X1_learnEarnings 38 rfl) (by decide) ?_
        exact bx_X1_learnEarnings_64  hΦ hk2 (ih) _ _ _ _ _ _ h
      · rw [if_neg hc35] at h
        refine am_aload_n (j := 0) (am_dk tk_X1_learnEarnings 23 rfl) rfl rfl ?_
        refine am_iload (j := 4) (am_dk tk_X1_learnEarnings 24 rfl) rfl ?_
        refine ly_cV (M := m_X1_earned) (As := [.int x4]) (b := 45) (st := []) (ct_X1_earned _ _) rfl (by decide) rfl ml_X1_107 ld_X1_earned rfl ⟨Nat.le_of_ble_eq_true rfl, Nat.le_of_ble_eq_true rfl⟩ (Nat.le_of_ble_eq_true rfl) ⟨rfl, rfl⟩ ⟨Nat.le_of_ble_eq_true rfl, Nat.le_of_ble_eq_true rfl⟩ (am_dk tk_X1_learnEarnings 25 rfl) (am_kki ?_)
        refine am_aload_n (j := 0) (am_dk tk_X1_learnEarnings 26 rfl) rfl rfl ?_
        refine ly_getr (b := 84) rfl fl_X1_15 rfl rfl (am_dk tk_X1_learnEarnings 27 rfl) ?_
        refine am_aload_n (j := 0) (am_dk tk_X1_learnEarnings 28 rfl) rfl rfl ?_
        refine am_iload_n (j := 1) (am_dk tk_X1_learnEarnings 29 rfl) rfl rfl ?_
        refine am_iconst (v := 1) (am_dk tk_X1_learnEarnings 30 rfl) (by decide) ?_
        refine am_isub (am_dk tk_X1_learnEarnings 31 rfl) ?_
        refine am_iload_n (j := 2) (am_dk tk_X1_learnEarnings 32 rfl) rfl rfl ?_
        refine am_iload (j := 4) (am_dk tk_X1_learnEarnings 33 rfl) rfl ?_
        refine ly_cV (M := m_X1_placeAsleep) (As := [.int (x1 - 1), .int x2, .int x4]) (b := 45) (st := [.ref 84, .int (f_X1_earned x4 D)]) (ct_X1_placeAsleep _ _ _ _) rfl (by decide) rfl ml_X1_111 ld_X1_placeAsleep rfl ⟨Nat.le_of_ble_eq_true rfl, Nat.le_of_ble_eq_true rfl⟩ (Nat.le_of_ble_eq_true rfl) ⟨rfl, rfl⟩ ⟨Nat.le_of_ble_eq_true rfl, Nat.le_of_ble_eq_true rfl⟩ (am_dk tk_X1_learnEarnings 34 rfl) (am_kki ?_)
        obtain ⟨hi58, h⟩ := am_chk h
        refine ly_iald (k := (f_X1_placeAsleep (x1 - 1) x2 x4 D).toNatClampNeg) rfl (am_in_vp hi58) rfl (am_dk tk_X1_learnEarnings 35 rfl) ?_
        refine am_iadd (am_dk tk_X1_learnEarnings 36 rfl) ?_
        refine am_goto (tgt := 64) (am_dk tk_X1_learnEarnings 37 rfl) (by decide) ?_
        exact bx_X1_learnEarnings_64  hΦ hk2 (ih) _ _ _ _ _ _ h
theorem bx_X1_learnEarnings_2 {l : Launch} {h0 : am_H} {Φ : am_Ph} {tw : Nat}  {D' : am_M} (hΦ : Φ none (ly tw true D')) : ∀ (n : Nat) (x1 : Int32) (x2 : Int32) (D : am_M), b_X1_learnEarnings_2 n x1 x2 D = some D' → am_Ex (am_E l m_X1_learnEarnings false h0 Φ) prog_3_method_7_code (0, 0) 2 [(0, .ref 45), (1, .int x1), (2, .int x2)] [] (ly tw true D) := by
  intro n
  induction n with
  | zero =>
    intro x1 x2 D h
    exact absurd h (by simp [b_X1_learnEarnings_2])
  | succ n ih =>
    intro x1 x2 D h
    rw [b_X1_learnEarnings_2] at h
    refine am_iload_n (j := 2) (am_dk tk_X1_learnEarnings 2 rfl) rfl rfl ?_
    refine am_bipush (v := 99) (am_dk tk_X1_learnEarnings 3 rfl) (by decide) ?_
    refine am_icmp_gt (tgt := 97) (am_dk tk_X1_learnEarnings 4 rfl) (by decide) (fun hc5 => ?_) (fun hc5 => ?_)
    · rw [if_pos hc5] at h
      exact am_vret rfl (am_r0 h hΦ) ⟨Nat.le_of_ble_eq_true rfl, Nat.le_of_ble_eq_true rfl⟩ (am_dk tk_X1_learnEarnings 55 rfl)
    · rw [if_neg hc5] at h
      refine am_aload_n (j := 0) (am_dk tk_X1_learnEarnings 5 rfl) rfl rfl ?_
      refine ly_getr (b := 84) rfl fl_X1_15 rfl rfl (am_dk tk_X1_learnEarnings 6 rfl) ?_
      refine am_aload_n (j := 0) (am_dk tk_X1_learnEarnings 7 rfl) rfl rfl ?_
      refine am_iload_n (j := 1) (am_dk tk_X1_learnEarnings 8 rfl) rfl rfl ?_
      refine am_iconst (v := 1) (am_dk tk_X1_learnEarnings 9 rfl) (by decide) ?_
      refine am_isub (am_dk tk_X1_learnEarnings 10 rfl) ?_
      refine am_iload_n (j := 2) (am_dk tk_X1_learnEarnings 11 rfl) rfl rfl ?_
      refine ly_cV (M := m_X1_placeAtWork) (As := [.int (x1 - 1), .int x2]) (b := 45) (st := [.ref 84]) (ct_X1_placeAtWork _ _ _) rfl (by decide) rfl ml_X1_103 ld_X1_placeAtWork rfl ⟨Nat.le_of_ble_eq_true rfl, Nat.le_of_ble_eq_true rfl⟩ (Nat.le_of_ble_eq_true rfl) ⟨rfl, rfl⟩ ⟨Nat.le_of_ble_eq_true rfl, Nat.le_of_ble_eq_true rfl⟩ (am_dk tk_X1_learnEarnings 12 rfl) (am_kki ?_)
      obtain ⟨hi20, h⟩ := am_chk h
      refine ly_iald (k := (f_X1_placeAtWork (x1 - 1) x2 D).toNatClampNeg) rfl (am_in_vp hi20) rfl (am_dk tk_X1_learnEarnings 13 rfl) ?_
      refine am_istore_n (L' := [(3, .int (D 84 (f_X1_placeAtWork (x1 - 1) x2 D).toNatClampNeg)), (0, .ref 45), (1, .int x1), (2, .int x2)]) (am_dk tk_X1_learnEarnings 14 rfl) rfl (Nat.le_of_ble_eq_true rfl) rfl ?_
      refine am_iconst (v := 0) (am_dk tk_X1_learnEarnings 15 rfl) (by decide) ?_
      refine am_istore (L' := [(4, .int 0), (3, .int (D 84 (f_X1_placeAtWork (x1 - 1) x2 D).toNatClampNeg)), (0, .ref 45), (1, .int x1), (2, .int x2)]) (am_dk tk_X1_learnEarnings 16 rfl) (Nat.le_of_ble_eq_true rfl) rfl ?_
      refine am_ls [2, 3, 4, 1, 0] rfl ?_
      exact bx_X1_learnEarnings_25  hΦ (ih) am_N _ _ _ _ _ h
theorem ct_X1_learnEarnings {l : Launch} {tw : Nat}  {x1 : Int32} {D D' : am_M} (h : f_X1_learnEarnings x1 D = some D') : am_CT l m_X1_learnEarnings false [.ref 45, .int x1] (ly tw true D) (am_is none (ly tw true D')) := by
  have hΦ : am_is none (ly tw true D') none (ly tw true D') := ⟨rfl, rfl⟩
  refine am_CT.of (by decide) (Nat.le_of_ble_eq_true rfl) ?_
  show am_Ex _ _ _ 0 [(0, .ref 45), (1, .int x1)] [] _
  rw [f_X1_learnEarnings] at h
  refine am_iconst (v := 0) (am_dk tk_X1_learnEarnings 0 rfl) (by decide) ?_
  refine am_istore_n (L' := [(2, .int 0), (0, .ref 45), (1, .int x1)]) (am_dk tk_X1_learnEarnings 1 rfl) rfl (Nat.le_of_ble_eq_true rfl) rfl ?_
  refine am_ls [1, 2, 0] rfl ?_
  exact bx_X1_learnEarnings_2  hΦ am_N _ _ _ h
abbrev m_X1_countOwed : am_D := (yX1_countOwed, prog_3_method_8_code, 4, none, { frames := 1, cells := 0, slots := 0, locals := 23 })
theorem ld_X1_countOwed : am_LD m_X1_countOwed 1 := ⟨(am_tb 83 (by decide +kernel) (by decide +kernel)), (am_tb 666 (by decide +kernel) (by decide +kernel)), by decide, by decide, by decide +kernel⟩
def tb_X1_countOwed : List (Nat × Instr × Nat) := [(0, .aload_n 0, 1), (1, .getfield 22, 3), (4, .iconst 0, 1), (5, .invokestatic 123, 3), (8, .aload_n 0, 1), (9, .iconst 0, 1), (10, .putfield 129, 3), (13, .iconst 0, 1), (14, .istore_n 2, 1), (15, .iload_n 2, 1), (16, .aload_n 1, 1), (17, .getfield 132, 3), (20, .if_icmp .ge 80, 3), (23, .aload_n 1, 1), (24, .getfield 135, 3), (27, .iload_n 2, 1), (28, .iaload, 1), (29, .aload_n 0, 1), (30, .getfield 46, 3), (33, .isub, 1), (34, .istore_n 3, 1), (35, .aload_n 1, 1), (36, .getfield 138, 3), (39, .iload_n 2, 1), (40, .iaload, 1), (41, .aload_n 0, 1), (42, .getfield 31, 3), (45, .if_icmp .ne 49, 3), (48, .iload_n 3, 1), (49, .iconst 0, 1), (50, .aload_n 0, 1), (51, .getfield 38, 3), (54, .iconst 1, 1), (55, .isub, 1), (56, .invokestatic 141, 3), (59, .ifCond .ne 6, 3), (62, .goto 32, 3), (65, .aload_n 0, 1), (66, .getfield 22, 3), (69, .iload_n 3, 1), (70, .dup2, 1), (71, .iaload, 1), (72, .aload_n 1, 1), (73, .getfield 145, 3), (76, .iload_n 2, 1), (77, .iaload, 1), (78, .iadd, 1), (79, .iastore, 1), (80, .aload_n 0, 1), (81, .aload_n 0, 1), (82, .getfield 129, 3), (85, .iload_n 3, 1), (86, .iconst 1, 1), (87, .iadd, 1), (88, .invokestatic 118, 3), (91, .putfield 129, 3), (94, .iinc 2 1, 3), (97, .goto (-82), 3), (100, .return_, 1)]
theorem tk_X1_countOwed : am_tbl prog_3_method_8_code tb_X1_countOwed = true := by decide +kernel
def b_X1_countOwed_94 (T : Nat) (k15 : Int32 → am_M → Option am_M) (x2 : Int32) (D : am_M) : Option am_M := k15 (x2 + 1) D
def b_X1_countOwed_15 (T : Nat) : Nat → Int32 → am_M → Option am_M
  | 0, _, _ => none
  | n + 1, x2, D => if (D T 5) ≤ x2 then some D else if am_in x2 8 = true then if (D (T + 2) x2.toNatClampNeg) = (D 45 6) then if (f_X5_isWithin ((D (T + 3) x2.toNatClampNeg) - (D 45 8)) 0 ((D 45 7) - 1)) = 0 then b_X1_countOwed_94 T (b_X1_countOwed_15 T n) x2 D else if am_in ((D (T + 3) x2.toNatClampNeg) - (D 45 8)) 48 = true then b_X1_countOwed_94 T (b_X1_countOwed_15 T n) x2 (am_up (am_up D 48 ((D (T + 3) x2.toNatClampNeg) - (D 45 8)).toNatClampNeg ((D 48 ((D (T + 3) x2.toNatClampNeg) - (D 45 8)).toNatClampNeg) + (D (T + 4) x2.toNatClampNeg))) 45 15 (am_max ((am_up D 48 ((D (T + 3) x2.toNatClampNeg) - (D 45 8)).toNatClampNeg ((D 48 ((D (T + 3) x2.toNatClampNeg) - (D 45 8)).toNatClampNeg) + (D (T + 4) x2.toNatClampNeg))) 45 15) (((D (T + 3) x2.toNatClampNeg) - (D 45 8)) + 1))) else none else b_X1_countOwed_15 T n (x2 + 1) D else none
def f_X1_countOwed (T : Nat) (D : am_M) : Option am_M := (f_J7_fill 48 48 0 D).bind fun q5 => b_X1_countOwed_15 T am_N 0 (am_up q5 45 15 0)
theorem bx_X1_countOwed_94 {l : Launch} {h0 : am_H} {Φ : am_Ph} {tw : Nat} {tp : Bool} {T : Nat} (hT : lyT T) {D' : am_M} (hΦ : Φ none (ly tw tp D')) {k15 : Int32 → am_M → Option am_M} (hk15 : ∀ (x2 : Int32) (D : am_M), k15 x2 D = some D' → am_Ex (am_E l m_X1_countOwed false h0 Φ) prog_3_method_8_code (0, 0) 15 [(0, .ref 45), (1, .ref T), (2, .int x2)] [] (ly tw tp D)) : ∀ (x2 : Int32) (D : am_M), b_X1_countOwed_94 T k15 x2 D = some D' → am_Ex (am_E l m_X1_countOwed false h0 Φ) prog_3_method_8_code (0, 0) 94 [(0, .ref 45), (1, .ref T), (2, .int x2)] [] (ly tw tp D) := by
  intro x2 D h
  rw [b_X1_countOwed_94] at h
  refine am_iinc (j := 2) (v := x2 + 1) (L' := [(2, .int (x2 + 1)), (0, .ref 45), (1, .ref T)]) (am_dk tk_X1_countOwed 56 rfl) rfl rfl (Nat.le_of_ble_eq_true rfl) rfl ?_
  refine am_goto (tgt := 15) (am_dk tk_X1_countOwed 57 rfl) (by decide) ?_
  refine am_ls [1, 2, 0] rfl ?_
  exact hk15 _ _ h
theorem bx_X1_countOwed_15 {l : Launch} {h0 : am_H} {Φ : am_Ph} {tw : Nat} {tp : Bool} {T : Nat} (hT : lyT T) {D' : am_M} (hΦ : Φ none (ly tw tp D')) : ∀ (n : Nat) (x2 : Int32) (D : am_M), b_X1_countOwed_15 T n x2 D = some D' → am_Ex (am_E l m_X1_countOwed false h0 Φ) prog_3_method_8_code (0, 0) 15 [(0, .ref 45), (1, .ref T), (2, .int x2)] [] (ly tw tp D) := by
  intro n
  induction n with
  | zero =>
    intro x2 D h
    exact absurd h (by simp [b_X1_countOwed_15])
  | succ n ih =>
    intro x2 D h
    rw [b_X1_countOwed_15] at h
    refine am_iload_n (j := 2) (am_dk tk_X1_countOwed 9 rfl) rfl rfl ?_
    refine am_aload_n (j := 1) (am_dk tk_X1_countOwed 10 rfl) rfl rfl ?_
    refine ly_geti (lyT_s hT) fl_X1_132 rfl (am_dk tk_X1_countOwed 11 rfl) ?_
    refine am_icmp_ge (tgt := 100) (am_dk tk_X1_countOwed 12 rfl) (by decide) (fun hc20 => ?_) (fun hc20 => ?_)
    · rw [if_pos hc20] at h
      exact am_vret rfl (am_r0 h hΦ) ⟨Nat.le_of_ble_eq_true rfl, Nat.le_of_ble_eq_true rfl⟩ (am_dk tk_X1_countOwed 58 rfl)
    · rw [if_neg hc20] at h
      refine am_aload_n (j := 1) (am_dk tk_X1_countOwed 13 rfl) rfl rfl ?_
      refine ly_getr (b := (T + 3)) (lyT_s hT) fl_X1_135 rfl (lyT_r9 hT) (am_dk tk_X1_countOwed 14 rfl) ?_
      refine am_iload_n (j := 2) (am_dk tk_X1_countOwed 15 rfl) rfl rfl ?_
      obtain ⟨hi28, h⟩ := am_chk h
      refine ly_iald (k := x2.toNatClampNeg) (lyT_a9 hT) (am_in_vp hi28) rfl (am_dk tk_X1_countOwed 16 rfl) ?_
      refine am_aload_n (j := 0) (am_dk tk_X1_countOwed 17 rfl) rfl rfl ?_
      refine ly_geti rfl fl_X1_46 rfl (am_dk tk_X1_countOwed 18 rfl) ?_
      refine am_isub (am_dk tk_X1_countOwed 19 rfl) ?_
      refine am_istore_n (L' := [(3, .int ((D (T + 3) x2.toNatClampNeg) - (D 45 8))), (0, .ref 45), (1, .ref T), (2, .int x2)]) (am_dk tk_X1_countOwed 20 rfl) rfl (Nat.le_of_ble_eq_true rfl) rfl ?_
      refine am_aload_n (j := 2) (am_dk tk_X1_countOwed 21 rfl) rfl rfl ?_
      refine ly_getr (b := (T + 2)) (lyT_s hT) fl_X1_138 rfl (lyT_r8 hT) (am_dk tk_X1_countOwed 22 rfl) ?_
      refine am_iload_n (j := 3) (am_dk tk_X1_countOwed 23 rfl) rfl rfl ?_
      refine ly_iald (k := x2.toNatClampNeg) (lyT_a8 hT) (am_in_vp hi28) rfl (am_dk tk_X1_countOwed 24 rfl) ?_
      refine am_aload_n (j := 1) (am_dk tk_X1_countOwed 25 rfl) rfl rfl ?_
      refine ly_geti rfl fl_X1_31 rfl (am_dk tk_X1_countOwed 26 rfl) ?_
      refine am_icmp_ne (tgt := 94) (am_dk tk_X1_countOwed 27 rfl) (by decide) (fun hc45 => ?_) (fun hc45 => ?_)
      · rw [if_neg hc45] at h
        refine am_iinc (j := 3) (v := x2 + 1) (L' := [(2, .int (x2 + 1)), (3, .int ((D (T + 3) x2.toNatClampNeg) - (D 45 8))), (0, .ref 45), (1, .ref T)]) (am_dk tk_X1_countOwed 56 rfl) rfl rfl (Nat.le_of_ble_eq_true rfl) rfl ?_
        refine am_goto (tgt := 15) (am_dk tk_X1_countOwed 57 rfl) (by decide) ?_
        refine am_ls [2, 3, 0] rfl ?_
        exact ih _ _ h
      · rw [if_pos hc45] at h
        refine am_iload_n (j := 0) (am_dk tk_X1_countOwed 28 rfl) rfl rfl ?_
        refine am_iconst (v := 0) (am_dk tk_X1_countOwed 29 rfl) (by decide) ?_
        refine am_aload_n (j := 1) (am_dk tk_X1_countOwed 30 rfl) rfl rfl ?_
        refine ly_geti rfl fl_X1_38 rfl (am_dk tk_X1_countOwed 31 rfl) ?_
        refine am_iconst (v := 1) (am_dk tk_X1_countOwed 32 rfl) (by decide) ?_
        refine am_isub (am_dk tk_X1_countOwed 33 rfl) ?_
        refine am_cSN (M := m_X5_isWithin) (As := [.int ((D (T + 3) x2.toNatClampNeg) - (D 45 8)), .int 0, .int ((D 45 7) - 1)]) (st := []) (ct_X5_isWithin _ _ _ _) ml_X1_141 ld_X5_isWithin rfl ⟨Nat.le_of_ble_eq_true rfl, Nat.le_of_ble_eq_true rfl⟩ (Nat.le_of_ble_eq_true rfl) ⟨rfl, rfl⟩ ⟨Nat.le_of_ble_eq_true rfl, Nat.le_of_ble_eq_true rfl⟩ (am_dk tk_X1_countOwed 34 rfl) (am_kki ?_)
        refine am_if_ne (tgt := 65) (am_dk tk_X1_countOwed 35 rfl) (by decide) (fun hc59 => ?_) (fun hc59 => ?_)
        · rw [if_neg hc59] at h
          refine am_aload_n (j := 1) (am_dk tk_X1_countOwed 37 rfl) rfl rfl ?_
          refine ly_getr (b := 48) rfl fl_X1_22 rfl rfl (am_dk tk_X1_countOwed 38 rfl) ?_
          refine am_iload_n (j := 0) (am_dk tk_X1_countOwed 39 rfl) rfl rfl ?_
          refine am_dup2 (am_dk tk_X1_countOwed 40 rfl) rfl rfl ?_
          obtain ⟨hi71, h⟩ := am_chk h
          refine ly_iald (k := ((D (T + 3) x2.toNatClampNeg) - (D 45 8)).toNatClampNeg) rfl (am_in_vp hi71) rfl (am_dk tk_X1_countOwed 41 rfl) ?_
          refine am_aload_n (j := 2) (am_dk tk_X1_countOwed 42 rfl) rfl rfl ?_
          refine ly_getr (b := (T + 4)) (lyT_s hT) fl_X1_145 rfl (lyT_r10 hT) (am_dk tk_X1_countOwed 43 rfl) ?_
          refine am_iload_n (j := 3) (am_dk tk_X1_countOwed 44 rfl) rfl rfl ?_
          refine ly_iald (k := x2.toNatClampNeg) (lyT_a10 hT) (am_in_vp hi28) rfl (am_dk tk_X1_countOwed 45 rfl) ?_
          refine am_iadd (am_dk tk_X1_countOwed 46 rfl) ?_
          refine ly_iast (k := ((D (T + 3) x2.toNatClampNeg) - (D 45 8)).toNatClampNeg) rfl (am_in_vp hi71) rfl (am_dk tk_X1_countOwed 47 rfl) ?_
          refine am_aload_n (j := 1) (am_dk tk_X1_countOwed 48 rfl) rfl rfl ?_
          refine am_aload_n (j := 1) (am_dk tk_X1_countOwed 49 rfl) rfl rfl ?_
          refine ly_geti rfl fl_X1_129 rfl (am_dk tk_X1_countOwed 50 rfl) ?_
          refine am_iload_n (j := 0) (am_dk tk_X1_countOwed 51 rfl) rfl rfl ?_
          refine am_iconst (v := 1) (am_dk tk_X1_countOwed 52 rfl) (by decide) ?_
          refine am_iadd (am_dk tk_X1_countOwed 53 rfl) ?_
          refine am_mmax lm_X1_118 (Nat.le_of_ble_eq_true rfl) (Nat.le_of_ble_eq_true rfl) ⟨Nat.le_of_ble_eq_true rfl, Nat.le_of_ble_eq_true rfl⟩ (am_dk tk_X1_countOwed 54 rfl) ?_
          refine ly_puti rfl fl_X1_129 rfl rfl (am_dk tk_X1_countOwed 55 rfl) ?_
          refine am_ls [1, 2, 3] rfl ?_
          exact bx_X1_countOwed_94 hT hΦ (ih) _ _ h
        · rw [if_pos hc59] at h
          refine am_goto (tgt := 94) (am_dk tk_X1_countOwed 36 rfl) (by decide) ?_
          refine am_ls [1, 2, 3] rfl ?_
          exact bx_X1_countOwed_94 hT hΦ (ih) _ _ h
theorem ct_X1_countOwed {l : Launch} {tw : Nat} {tp : Bool} {T : Nat} (hT : lyT T) {D D' : am_M} (h : f_X1_countOwed T D = some D') : am_CT l m_X1_countOwed false [.ref 45, .ref T] (ly tw tp D) (am_is none (ly tw tp D')) := by
  have hΦ : am_is none (ly tw tp D') none (ly tw tp D') := ⟨rfl, rfl⟩
  refine am_CT.of (by decide) (Nat.le_of_ble_eq_true rfl) ?_
  show am_Ex _ _ _ 0 [(0, .ref 45), (1, .ref T)] [] _
  rw [f_X1_countOwed] at h
  refine am_aload_n (j := 0) (am_dk tk_X1_countOwed 0 rfl) rfl rfl ?_
  refine ly_getr (b := 48) rfl fl_X1_22 rfl rfl (am_dk tk_X1_countOwed 1 rfl) ?_
  refine am_iconst (v := 0) (am_dk tk_X1_countOwed 2 rfl) (by decide) ?_
  obtain ⟨q5, hq5, h⟩ := am_bind h
  refine am_cS (M := m_J7_fill) (As := [.ref 48, .int 0]) (st := []) (ct_J7_fill rfl hq5) ml_X1_123 ld_J7_fill rfl ⟨Nat.le_of_ble_eq_true rfl, Nat.le_of_ble_eq_true rfl⟩ (Nat.le_of_ble_eq_true rfl) ⟨rfl, rfl⟩ ⟨Nat.le_of_ble_eq_true rfl, Nat.le_of_ble_eq_true rfl⟩ (am_dk tk_X1_countOwed 3 rfl) (am_kkv ?_)
  refine am_aload_n (j := 0) (am_dk tk_X1_countOwed 4 rfl) rfl rfl ?_
  refine am_iconst (v := 0) (am_dk tk_X1_countOwed 5 rfl) (by decide) ?_
  refine ly_puti rfl fl_X1_129 rfl rfl (am_dk tk_X1_countOwed 6 rfl) ?_
  refine am_iconst (v := 0) (am_dk tk_X1_countOwed 7 rfl) (by decide) ?_
  refine am_istore_n (L' := [(2, .int 0), (0, .ref 45), (1, .ref T)]) (am_dk tk_X1_countOwed 8 rfl) rfl (Nat.le_of_ble_eq_true rfl) rfl ?_
  refine am_ls [1, 2, 0] rfl ?_
  exact bx_X1_countOwed_15 hT hΦ am_N _ _ h
abbrev m_X1_purseAsleep : am_D := (yX1_purseAsleep, prog_3_method_16_code, 4, (some .int), { frames := 1, cells := 0, slots := 0, locals := 21 })
theorem ld_X1_purseAsleep : am_LD m_X1_purseAsleep 3 := ⟨(am_tb 83 (by decide +kernel) (by decide +kernel)), (am_tb 692 (by decide +kernel) (by decide +kernel)), by decide, by decide, by decide +kernel⟩
def tb_X1_purseAsleep : List (Nat × Instr × Nat) := [(0, .iload_n 3, 1), (1, .aload_n 0, 1), (2, .iload_n 2, 1), (3, .invokevirtual 107, 3), (6, .iadd, 1), (7, .sipush 9999, 3), (10, .invokestatic 157, 3), (13, .aload_n 0, 1), (14, .getfield 22, 3), (17, .iload_n 1, 1), (18, .iaload, 1), (19, .isub, 1), (20, .ireturn, 1)]
theorem tk_X1_purseAsleep : am_tbl prog_3_method_16_code tb_X1_purseAsleep = true := by decide +kernel
def f_X1_purseAsleep (x1 : Int32) (x2 : Int32) (x3 : Int32) (D : am_M) : Option (Int32 × am_M) := if am_in x1 48 = true then some ((am_min (x3 + (f_X1_earned x2 D)) 9999) - (D 48 x1.toNatClampNeg), D) else none
theorem ct_X1_purseAsleep {l : Launch} {tw : Nat} {tp : Bool}  {x1 : Int32} {x2 : Int32} {x3 : Int32} {r : Int32} {D D' : am_M} (h : f_X1_purseAsleep x1 x2 x3 D = some (r, D')) : am_CT l m_X1_purseAsleep false [.ref 45, .int x1, .int x2, .int x3] (ly tw tp D) (am_is (some (.int r)) (ly tw tp D')) := by
  have hΦ : am_is (some (.int r)) (ly tw tp D') (some (.int r)) (ly tw tp D') := ⟨rfl, rfl⟩
  refine am_CT.of (by decide) (Nat.le_of_ble_eq_true rfl) ?_
  show am_Ex _ _ _ 0 [(0, .ref 45), (1, .int x1), (2, .int x2), (3, .int x3)] [] _
  rw [f_X1_purseAsleep] at h
  refine am_iload_n (j := 3) (am_dk tk_X1_purseAsleep 0 rfl) rfl rfl ?_
  refine am_aload_n (j := 0) (am_dk tk_X1_purseAsleep 1 rfl) rfl rfl ?_
  refine am_iload_n (j := 2) (am_dk tk_X1_purseAsleep 2 rfl) rfl rfl ?_
  refine ly_cV (M := m_X1_earned) (As := [.int x2]) (b := 45) (st := [.int x3]) (ct_X1_earned _ _) rfl (by decide) rfl ml_X1_107 ld_X1_earned rfl ⟨Nat.le_of_ble_eq_true rfl, Nat.le_of_ble_eq_true rfl⟩ (Nat.le_of_ble_eq_true rfl) ⟨rfl, rfl⟩ ⟨Nat.le_of_ble_eq_true rfl, Nat.le_of_ble_eq_true rfl⟩ (am_dk tk_X1_purseAsleep 3 rfl) (am_kki ?_)
  refine am_iadd (am_dk tk_X1_purseAsleep 4 rfl) ?_
  refine am_sipush (v := 9999) (am_dk tk_X1_purseAsleep 5 rfl) (by decide) ?_
  refine am_mmin lm_X1_157 (Nat.le_of_ble_eq_true rfl) (Nat.le_of_ble_eq_true rfl) ⟨Nat.le_of_ble_eq_true rfl, Nat.le_of_ble_eq_true rfl⟩ (am_dk tk_X1_purseAsleep 6 rfl) ?_
  refine am_aload_n (j := 0) (am_dk tk_X1_purseAsleep 7 rfl) rfl rfl ?_
  refine ly_getr (b := 48) rfl fl_X1_22 rfl rfl (am_dk tk_X1_purseAsleep 8 rfl) ?_
  refine am_iload_n (j := 1) (am_dk tk_X1_purseAsleep 9 rfl) rfl rfl ?_
  obtain ⟨hi18, h⟩ := am_chk h
  refine ly_iald (k := x1.toNatClampNeg) rfl (am_in_vp hi18) rfl (am_dk tk_X1_purseAsleep 10 rfl) ?_
  refine am_isub (am_dk tk_X1_purseAsleep 11 rfl) ?_
  exact am_iret rfl (am_r2 h hΦ) ⟨Nat.le_of_ble_eq_true rfl, Nat.le_of_ble_eq_true rfl⟩ (am_dk tk_X1_purseAsleep 12 rfl)
abbrev m_X1_leastTired : am_D := (yX1_leastTired, prog_3_method_17_code, 2, (some .int), { frames := 1, cells := 0, slots := 0, locals := 13 })
theorem ld_X1_leastTired : am_LD m_X1_leastTired 1 := ⟨(am_tb 83 (by decide +kernel) (by decide +kernel)), (am_tb 684 (by decide +kernel) (by decide +kernel)), by decide, by decide, by decide +kernel⟩
def tb_X1_leastTired : List (Nat × Instr × Nat) := [(0, .aload_n 0, 1), (1, .getfield 50, 3), (4, .iconst 4, 1), (5, .iload_n 1, 1), (6, .imul, 1), (7, .isub, 1), (8, .iconst 0, 1), (9, .invokestatic 118, 3), (12, .ireturn, 1)]
theorem tk_X1_leastTired : am_tbl prog_3_method_17_code tb_X1_leastTired = true := by decide +kernel
def f_X1_leastTired (x1 : Int32) (D : am_M) : Int32 := am_max ((D 45 9) - (4 * x1)) 0
theorem ct_X1_leastTired {l : Launch} {tw : Nat} {tp : Bool} (x1 : Int32) (D : am_M) : am_CT l m_X1_leastTired false [.ref 45, .int x1] (ly tw tp D) (am_is (some (.int (f_X1_leastTired x1 D))) (ly tw tp D)) := by
  refine am_CT.of (by decide) (Nat.le_of_ble_eq_true rfl) ?_
  show am_Ex _ _ _ 0 [(0, .ref 45), (1, .int x1)] [] _
  refine am_aload_n (j := 0) (am_dk tk_X1_leastTired 0 rfl) rfl rfl ?_
  refine ly_geti rfl fl_X1_50 rfl (am_dk tk_X1_leastTired 1 rfl) ?_
  refine am_iconst (v := 4) (am_dk tk_X1_leastTired 2 rfl) (by decide) ?_
  refine am_iload_n (j := 1) (am_dk tk_X1_leastTired 3 rfl) rfl rfl ?_
  refine am_imul (am_dk tk_X1_leastTired 4 rfl) ?_
  refine am_isub (am_dk tk_X1_leastTired 5 rfl) ?_
  refine am_iconst (v := 0) (am_dk tk_X1_leastTired 6 rfl) (by decide) ?_
  refine am_mmax lm_X1_118 (Nat.le_of_ble_eq_true rfl) (Nat.le_of_ble_eq_true rfl) ⟨Nat.le_of_ble_eq_true rfl, Nat.le_of_ble_eq_true rfl⟩ (am_dk tk_X1_leastTired 7 rfl) ?_
  exact am_iret rfl ⟨rfl, rfl⟩ ⟨Nat.le_of_ble_eq_true rfl, Nat.le_of_ble_eq_true rfl⟩ (am_dk tk_X1_leastTired 8 rfl)
abbrev m_X1_mostTired : am_D := (yX1_mostTired, prog_3_method_18_code, 2, (some .int), { frames := 1, cells := 0, slots := 0, locals := 13 })
theorem ld_X1_mostTired : am_LD m_X1_mostTired 1 := ⟨(am_tb 83 (by decide +kernel) (by decide +kernel)), (am_tb 680 (by decide +kernel) (by decide +kernel)), by decide, by decide, by decide +kernel⟩
def tb_X1_mostTired : List (Nat × Instr × Nat) := [(0, .aload_n 0, 1), (1, .getfield 50, 3), (4, .iconst 3, 1), (5, .iload_n 1, 1), (6, .imul, 1), (7, .iadd, 1), (8, .bipush 99, 2), (10, .invokestatic 157, 3), (13, .ireturn, 1)]
theorem tk_X1_mostTired : am_tbl prog_3_method_18_code tb_X1_mostTired = true := by decide +kernel
def f_X1_mostTired (x1 : Int32) (D : am_M) : Int32 := am_min ((D 45 9) + (3 * x1)) 99
theorem ct_X1_mostTired {l : Launch} {tw : Nat} {tp : Bool} (x1 : Int32) (D : am_M) : am_CT l m_X1_mostTired false [.ref 45, .int x1] (ly tw tp D) (am_is (some (.int (f_X1_mostTired x1 D))) (ly tw tp D)) := by
  refine am_CT.of (by decide) (Nat.le_of_ble_eq_true rfl) ?_
  show am_Ex _ _ _ 0 [(0, .ref 45), (1, .int x1)] [] _
  refine am_aload_n (j := 0) (am_dk tk_X1_mostTired 0 rfl) rfl rfl ?_
  refine ly_geti rfl fl_X1_50 rfl (am_dk tk_X1_mostTired 1 rfl) ?_
  refine am_iconst (v := 3) (am_dk tk_X1_mostTired 2 rfl) (by decide) ?_
  refine am_iload_n (j := 1) (am_dk tk_X1_mostTired 3 rfl) rfl rfl ?_
  refine am_imul (am_dk tk_X1_mostTired 4 rfl) ?_
  refine am_iadd (am_dk tk_X1_mostTired 5 rfl) ?_
  refine am_bipush (v := 99) (am_dk tk_X1_mostTired 6 rfl) (by decide) ?_
  refine am_mmin lm_X1_157 (Nat.le_of_ble_eq_true rfl) (Nat.le_of_ble_eq_true rfl) ⟨Nat.le_of_ble_eq_true rfl, Nat.le_of_ble_eq_true rfl⟩ (am_dk tk_X1_mostTired 7 rfl) ?_
  exact am_iret rfl ⟨rfl, rfl⟩ ⟨Nat.le_of_ble_eq_true rfl, Nat.le_of_ble_eq_true rfl⟩ (am_dk tk_X1_mostTired 8 rfl)
abbrev m_X1_clearHour : am_D := (yX1_clearHour, prog_3_method_20_code, 4, none, { frames := 2, cells := 0, slots := 0, locals := 34 })
theorem ld_X1_clearHour : am_LD m_X1_clearHour 1 := ⟨(am_tb 83 (by decide +kernel) (by decide +kernel)), (am_tb 676 (by decide +kernel) (by decide +kernel)), by decide, by decide, by decide +kernel⟩
def tb_X1_clearHour : List (Nat × Instr × Nat) := [(0, .aload_n 0, 1), (1, .iload_n 1, 1), (2, .aload_n 0, 1), (3, .iload_n 1, 1), (4, .invokevirtual 163, 3), (7, .aload_n 0, 1), (8, .getfield 87, 3), (11, .iconst 1, 1), (12, .isub, 1), (13, .invokevirtual 115, 3), (16, .istore_n 2, 1), (17, .aload_n 0, 1), (18, .iload_n 1, 1), (19, .aload_n 0, 1), (20, .iload_n 1, 1), (21, .invokevirtual 170, 3), (24, .iconst 0, 1), (25, .invokevirtual 115, 3), (28, .istore_n 3, 1), (29, .iload_n 3, 1), (30, .iload_n 2, 1), (31, .if_icmp .gt 16, 3), (34, .aload_n 0, 1), (35, .getfield 9, 3), (38, .iload_n 3, 1), (39, .iconst (-1), 1), (40, .iastore, 1), (41, .iinc 3 1, 3), (44, .goto (-15), 3), (47, .return_, 1)]
theorem tk_X1_clearHour : am_tbl prog_3_method_20_code tb_X1_clearHour = true := by decide +kernel
def b_X1_clearHour_29 : Nat → Int32 → Int32 → am_M → Option am_M
  | 0, _, _, _ => none
  | n + 1, x2, x3, D => if x2 < x3 then some D else if am_in x3 44100 = true then b_X1_clearHour_29 n x2 (x3 + 1) (am_up D 83 x3.toNatClampNeg (-1)) else none
def f_X1_clearHour (x1 : Int32) (D : am_M) : Option am_M := b_X1_clearHour_29 am_N (f_X1_place x1 (f_X1_mostTired x1 D) ((D 45 12) - 1) D) (f_X1_place x1 (f_X1_leastTired x1 D) 0 D) D
theorem bx_X1_clearHour_29 {l : Launch} {h0 : am_H} {Φ : am_Ph} {tw : Nat}  {D' : am_M} (hΦ : Φ none (ly tw true D')) : ∀ (n : Nat) (x2 : Int32) (x3 : Int32) (D : am_M), b_X1_clearHour_29 n x2 x3 D = some D' → am_Ex (am_E l m_X1_clearHour false h0 Φ) prog_3_method_20_code (0, 0) 29 [(0, .ref 45), (2, .int x2), (3, .int x3)] [] (ly tw true D) := by
  intro n
  induction n with
  | zero =>
    intro x2 x3 D h
    exact absurd h (by simp [b_X1_clearHour_29])
  | succ n ih =>
    intro x2 x3 D h
    rw [b_X1_clearHour_29] at h
    refine am_iload_n (j := 2) (am_dk tk_X1_clearHour 19 rfl) rfl rfl ?_
    refine am_iload_n (j := 1) (am_dk tk_X1_clearHour 20 rfl) rfl rfl ?_
    refine am_icmp_gt (tgt := 47) (am_dk tk_X1_clearHour 21 rfl) (by decide) (fun hc31 => ?_) (fun hc31 => ?_)
    · rw [if_pos hc31] at h
      exact am_vret rfl (am_r0 h hΦ) ⟨Nat.le_of_ble_eq_true rfl, Nat.le_of_ble_eq_true rfl⟩ (am_dk tk_X1_clearHour 29 rfl)
    · rw [if_neg hc31] at h
      refine am_aload_n (j := 0) (am_dk tk_X1_clearHour 22 rfl) rfl rfl ?_
      refine ly_getr (b := 83) rfl fl_X1_9 rfl rfl (am_dk tk_X1_clearHour 23 rfl) ?_
      refine am_iload_n (j := 2) (am_dk tk_X1_clearHour 24 rfl) rfl rfl ?_
      refine am_iconst (v := (-1)) (am_dk tk_X1_clearHour 25 rfl) (by decide) ?_
      obtain ⟨hi40, h⟩ := am_chk h
      refine ly_iast (k := x3.toNatClampNeg) rfl (am_in_vp hi40) rfl (am_dk tk_X1_clearHour 26 rfl) ?_
      refine am_iinc (j := 2) (v := x3 + 1) (L' := [(3, .int (x3 + 1)), (0, .ref 45), (2, .int x2)]) (am_dk tk_X1_clearHour 27 rfl) rfl rfl (Nat.le_of_ble_eq_true rfl) rfl ?_
      refine am_goto (tgt := 29) (am_dk tk_X1_clearHour 28 rfl) (by decide) ?_
      refine am_ls [1, 2, 0] rfl ?_
      exact ih _ _ _ h
theorem ct_X1_clearHour {l : Launch} {tw : Nat}  {x1 : Int32} {D D' : am_M} (h : f_X1_clearHour x1 D = some D') : am_CT l m_X1_clearHour false [.ref 45, .int x1] (ly tw true D) (am_is none (ly tw true D')) := by
  have hΦ : am_is none (ly tw true D') none (ly tw true D') := ⟨rfl, rfl⟩
  refine am_CT.of (by decide) (Nat.le_of_ble_eq_true rfl) ?_
  show am_Ex _ _ _ 0 [(0, .ref 45), (1, .int x1)] [] _
  rw [f_X1_clearHour] at h
  refine am_aload_n (j := 0) (am_dk tk_X1_clearHour 0 rfl) rfl rfl ?_
  refine am_iload_n (j := 1) (am_dk tk_X1_clearHour 1 rfl) rfl rfl ?_
  refine am_aload_n (j := 0) (am_dk tk_X1_clearHour 2 rfl) rfl rfl ?_
  refine am_iload_n (j := 1) (am_dk tk_X1_clearHour 3 rfl) rfl rfl ?_
  refine ly_cV (M := m_X1_mostTired) (As := [.int x1]) (b := 45) (st := [.int x1, .ref 45]) (ct_X1_mostTired _ _) rfl (by decide) rfl ml_X1_163 ld_X1_mostTired rfl ⟨Nat.le_of_ble_eq_true rfl, Nat.le_of_ble_eq_true rfl⟩ (Nat.le_of_ble_eq_true rfl) ⟨rfl, rfl⟩ ⟨Nat.le_of_ble_eq_true rfl, Nat.le_of_ble_eq_true rfl⟩ (am_dk tk_X1_clearHour 4 rfl) (am_kki ?_)
  refine am_aload_n (j := 0) (am_dk tk_X1_clearHour 5 rfl) rfl rfl ?_
  refine ly_geti rfl fl_X1_87 rfl (am_dk tk_X1_clearHour 6 rfl) ?_
  refine am_iconst (v := 1) (am_dk tk_X1_clearHour 7 rfl) (by decide) ?_
  refine am_isub (am_dk tk_X1_clearHour 8 rfl) ?_
  refine ly_cV (M := m_X1_place) (As := [.int x1, .int (f_X1_mostTired x1 D), .int ((D 45 12) - 1)]) (b := 45) (st := []) (ct_X1_place _ _ _ _) rfl (by decide) rfl ml_X1_115 ld_X1_place rfl ⟨Nat.le_of_ble_eq_true rfl, Nat.le_of_ble_eq_true rfl⟩ (Nat.le_of_ble_eq_true rfl) ⟨rfl, rfl⟩ ⟨Nat.le_of_ble_eq_true rfl, Nat.le_of_ble_eq_true rfl⟩ (am_dk tk_X1_clearHour 9 rfl) (am_kki ?_)
  refine am_istore_n (L' := [(2, .int (f_X1_place x1 (f_X1_mostTired x1 D) ((D 45 12) - 1) D)), (0, .ref 45), (1, .int x1)]) (am_dk tk_X1_clearHour 10 rfl) rfl (Nat.le_of_ble_eq_true rfl) rfl ?_
  refine am_aload_n (j := 1) (am_dk tk_X1_clearHour 11 rfl) rfl rfl ?_
  refine am_iload_n (j := 2) (am_dk tk_X1_clearHour 12 rfl) rfl rfl ?_
  refine am_aload_n (j := 1) (am_dk tk_X1_clearHour 13 rfl) rfl rfl ?_
  refine am_iload_n (j := 2) (am_dk tk_X1_clearHour 14 rfl) rfl rfl ?_
  refine ly_cV (M := m_X1_leastTired) (As := [.int x1]) (b := 45) (st := [.int x1, .ref 45]) (ct_X1_leastTired _ _) rfl (by decide) rfl ml_X1_170 ld_X1_leastTired rfl ⟨Nat.le_of_ble_eq_true rfl, Nat.le_of_ble_eq_true rfl⟩ (Nat.le_of_ble_eq_true rfl) ⟨rfl, rfl⟩ ⟨Nat.le_of_ble_eq_true rfl, Nat.le_of_ble_eq_true rfl⟩ (am_dk tk_X1_clearHour 15 rfl) (am_kki ?_)
  refine am_iconst (v := 0) (am_dk tk_X1_clearHour 16 rfl) (by decide) ?_
  refine ly_cV (M := m_X1_place) (As := [.int x1, .int (f_X1_leastTired x1 D), .int 0]) (b := 45) (st := []) (ct_X1_place _ _ _ _) rfl (by decide) rfl ml_X1_115 ld_X1_place rfl ⟨Nat.le_of_ble_eq_true rfl, Nat.le_of_ble_eq_true rfl⟩ (Nat.le_of_ble_eq_true rfl) ⟨rfl, rfl⟩ ⟨Nat.le_of_ble_eq_true rfl, Nat.le_of_ble_eq_true rfl⟩ (am_dk tk_X1_clearHour 17 rfl) (am_kki ?_)
  refine am_istore_n (L' := [(3, .int (f_X1_place x1 (f_X1_leastTired x1 D) 0 D)), (2, .int (f_X1_place x1 (f_X1_mostTired x1 D) ((D 45 12) - 1) D)), (0, .ref 45), (1, .int x1)]) (am_dk tk_X1_clearHour 18 rfl) rfl (Nat.le_of_ble_eq_true rfl) rfl ?_
  refine am_ls [2, 1, 0] rfl ?_
  exact bx_X1_clearHour_29  hΦ am_N _ _ _ h
abbrev m_X1_offer : am_D := (yX1_offer, prog_3_method_22_code, 3, none, { frames := 0, cells := 0, slots := 0, locals := 0 })
theorem ld_X1_offer : am_LD m_X1_offer 2 := ⟨(am_tb 83 (by decide +kernel) (by decide +kernel)), (am_tb 696 (by decide +kernel) (by decide +kernel)), by decide, by decide, by decide +kernel⟩
def tb_X1_offer : List (Nat × Instr × Nat) := [(0, .iload_n 2, 1), (1, .aload_n 0, 1), (2, .getfield 9, 3), (5, .iload_n 1, 1), (6, .iaload, 1), (7, .if_icmp .le 10, 3), (10, .aload_n 0, 1), (11, .getfield 9, 3), (14, .iload_n 1, 1), (15, .iload_n 2, 1), (16, .iastore, 1), (17, .return_, 1)]
theorem tk_X1_offer : am_tbl prog_3_method_22_code tb_X1_offer = true := by decide +kernel
def f_X1_offer (x1 : Int32) (x2 : Int32) (D : am_M) : Option am_M := if am_in x1 44100 = true then if x2 ≤ (D 83 x1.toNatClampNeg) then some D else some (am_up D 83 x1.toNatClampNeg x2) else none
theorem ct_X1_offer {l : Launch} {tw : Nat}  {x1 : Int32} {x2 : Int32} {D D' : am_M} (h : f_X1_offer x1 x2 D = some D') : am_CT l m_X1_offer false [.ref 45, .int x1, .int x2] (ly tw true D) (am_is none (ly tw true D')) := by
  have hΦ : am_is none (ly tw true D') none (ly tw true D') := ⟨rfl, rfl⟩
  refine am_CT.of (by decide) (Nat.le_of_ble_eq_true rfl) ?_
  show am_Ex _ _ _ 0 [(0, .ref 45), (1, .int x1), (2, .int x2)] [] _
  rw [f_X1_offer] at h
  refine am_iload_n (j := 2) (am_dk tk_X1_offer 0 rfl) rfl rfl ?_
  refine am_aload_n (j := 0) (am_dk tk_X1_offer 1 rfl) rfl rfl ?_
  refine ly_getr (b := 83) rfl fl_X1_9 rfl rfl (am_dk tk_X1_offer 2 rfl) ?_
  refine am_iload_n (j := 1) (am_dk tk_X1_offer 3 rfl) rfl rfl ?_
  obtain ⟨hi6, h⟩ := am_chk h
  refine ly_iald (k := x1.toNatClampNeg) rfl (am_in_vp hi6) rfl (am_dk tk_X1_offer 4 rfl) ?_
  refine am_icmp_le (tgt := 17) (am_dk tk_X1_offer 5 rfl) (by decide) (fun hc7 => ?_) (fun hc7 => ?_)
  · rw [if_pos hc7] at h
    exact am_vret rfl (am_r0 h hΦ) ⟨Nat.le_of_ble_eq_true rfl, Nat.le_of_ble_eq_true rfl⟩ (am_dk tk_X1_offer 11 rfl)
  · rw [if_neg hc7] at h
    refine am_aload_n (j := 0) (am_dk tk_X1_offer 6 rfl) rfl rfl ?_
    refine ly_getr (b := 83) rfl fl_X1_9 rfl rfl (am_dk tk_X1_offer 7 rfl) ?_
    refine am_iload_n (j := 1) (am_dk tk_X1_offer 8 rfl) rfl rfl ?_
    refine am_iload_n (j := 2) (am_dk tk_X1_offer 9 rfl) rfl rfl ?_
    refine ly_iast (k := x1.toNatClampNeg) rfl (am_in_vp hi6) rfl (am_dk tk_X1_offer 10 rfl) ?_
    exact am_vret rfl (am_r0 h hΦ) ⟨Nat.le_of_ble_eq_true rfl, Nat.le_of_ble_eq_true rfl⟩ (am_dk tk_X1_offer 11 rfl)
abbrev m_X1_spreadHour : am_D := (yX1_spreadHour, prog_3_method_21_code, 7, none, { frames := 3, cells := 0, slots := 0, locals := 57 })
theorem ld_X1_spreadHour : am_LD m_X1_spreadHour 2 := ⟨(am_tb 83 (by decide +kernel) (by decide +kernel)), (am_tb 688 (by decide +kernel) (by decide +kernel)), by decide, by decide, by decide +kernel⟩
def tb_X1_spreadHour : List (Nat × Instr × Nat) := [(0, .aload_n 0, 1), (1, .iload_n 1, 1), (2, .invokevirtual 170, 3), (5, .istore_n 3, 1), (6, .iload_n 3, 1), (7, .iload_n 2, 1), (8, .if_icmp .gt 105, 3), (11, .aload_n 0, 1), (12, .iload_n 1, 1), (13, .iload_n 3, 1), (14, .iconst 0, 1), (15, .invokevirtual 115, 3), (18, .istore 4, 2), (20, .iconst 0, 1), (21, .istore 5, 2), (23, .iload 5, 2), (25, .aload_n 0, 1), (26, .getfield 87, 3), (29, .if_icmp .ge 78, 3), (32, .aload_n 0, 1), (33, .getfield 9, 3), (36, .iload 4, 2), (38, .iload 5, 2), (40, .iadd, 1), (41, .iaload, 1), (42, .istore 6, 2), (44, .iload 6, 2), (46, .iconst (-1), 1), (47, .if_icmp .ne 6, 3), (50, .goto 51, 3), (53, .iload_n 3, 1), (54, .ifCond .le 26, 3), (57, .aload_n 0, 1), (58, .aload_n 0, 1), (59, .iload_n 1, 1), (60, .iconst 1, 1), (61, .iadd, 1), (62, .iload_n 3, 1), (63, .iload 5, 2), (65, .invokevirtual 111, 3), (68, .aload_n 0, 1), (69, .iload_n 1, 1), (70, .iload 5, 2), (72, .iload 6, 2), (74, .invokevirtual 173, 3), (77, .invokevirtual 176, 3), (80, .aload_n 0, 1), (81, .aload_n 0, 1), (82, .iload_n 1, 1), (83, .iconst 1, 1), (84, .iadd, 1), (85, .iload_n 3, 1), (86, .invokevirtual 103, 3), (89, .iload 6, 2), (91, .aload_n 0, 1), (92, .getfield 22, 3), (95, .iload_n 1, 1), (96, .iaload, 1), (97, .isub, 1), (98, .invokevirtual 176, 3)]
theorem tk_X1_spreadHour : am_tbl prog_3_method_21_code tb_X1_spreadHour = true := by decide +kernel
def tb_X1_spreadHour_1 : List (Nat × Instr × Nat) := [(101, .iinc 5 1, 3), (104, .goto (-81), 3), (107, .iinc 3 1, 3), (110, .goto (-104), 3), (113, .return_, 1)]
theorem tk_X1_spreadHour_1 : am_tbl prog_3_method_21_code tb_X1_spreadHour_1 = true := by decide +kernel
def b_X1_spreadHour_80 (k6 : Int32 → Int32 → Int32 → am_M → Option am_M) (k23 : Int32 → Int32 → Int32 → Int32 → Int32 → am_M → Option am_M) (x1 : Int32) (x2 : Int32) (x3 : Int32) (x4 : Int32) (x5 : Int32) (x6 : Int32) (D : am_M) : Option am_M := if am_in x1 48 = true then (f_X1_offer (f_X1_placeAtWork (x1 + 1) x3 D) (x6 - (D 48 x1.toNatClampNeg)) D).bind fun q98 => k23 x1 x2 x3 x4 (x5 + 1) q98 else none
def b_X1_spreadHour_23 (k6 : Int32 → Int32 → Int32 → am_M → Option am_M) : Nat → Int32 → Int32 → Int32 → Int32 → Int32 → am_M → Option am_M
  | 0, _, _, _, _, _, _ => none
  | n + 1, x1, x2, x3, x4, x5, D => if (D 45 12) ≤ x5 then k6 x1 x2 (x3 + 1) D else if am_in (x4 + x5) 44100 = true then if (D 83 (x4 + x5).toNatClampNeg) = (-1) then b_X1_spreadHour_23 k6 n x1 x2 x3 x4 (x5 + 1) D else if x3 ≤ 0 then b_X1_spreadHour_80 k6 (b_X1_spreadHour_23 k6 n) x1 x2 x3 x4 x5 (D 83 (x4 + x5).toNatClampNeg) D else (f_X1_purseAsleep x1 x5 (D 83 (x4 + x5).toNatClampNeg) D).bind fun q74 => (f_X1_offer (f_X1_placeAsleep (x1 + 1) x3 x5 D) q74.1 q74.2).bind fun q77 => b_X1_spreadHour_80 k6 (b_X1_spreadHour_23 k6 n) x1 x2 x3 x4 x5 (D 83 (x4 + x5).toNatClampNeg) q77 else none
def b_X1_spreadHour_6 : Nat → Int32 → Int32 → Int32 → am_M → Option am_M
  | 0, _, _, _, _ => none
  | n + 1, x1, x2, x3, D => if x2 < x3 then some D else b_X1_spreadHour_23 (b_X1_spreadHour_6 n) am_N x1 x2 x3 (f_X1_place x1 x3 0 D) 0 D
def f_X1_spreadHour (x1 : Int32) (x2 : Int32) (D : am_M) : Option am_M := b_X1_spreadHour_6 am_N x1 x2 (f_X1_leastTired x1 D) D
theorem bx_X1_spreadHour_80 {l : Launch} {h0 : am_H} {Φ : am_Ph} {tw : Nat}  {D' : am_M} (hΦ : Φ none (ly tw true D')) {k6 : Int32 → Int32 → Int32 → am_M → Option am_M} (hk6 : ∀ (x1 : Int32) (x2 : Int32) (x3 : Int32) (D : am_M), k6 x1 x2 x3 D = some D' → am_Ex (am_E l m_X1_spreadHour false h0 Φ) prog_3_method_21_code (0, 0) 6 [(0, .ref 45), (1, .int x1), (2, .int x2), (3, .int x3)] [] (ly tw true D)) {k23 : Int32 → Int32 → Int32 → Int32 → Int32 → am_M → Option am_M} (hk23 : ∀ (x1 : Int32) (x2 : Int32) (x3 : Int32) (x4 : Int32) (x5 : Int32) (D : am_M), k23 x1 x2 x3 x4 x5 D = some D' → am_Ex (am_E l m_X1_spreadHour false h0 Φ) prog_3_method_21_code (0, 0) 23 [(0, .ref 45), (1, .int x1), (2, .int x2), (3, .int x3), (4, .int x4), (5, .int x5)] [] (ly tw true D)) : ∀ (x1 : Int32) (x2 : Int32) (x3 : Int32) (x4 : Int32) (x5 : Int32) (x6 : Int32) (D : am_M), b_X1_spreadHour_80 k6 k23 x1 x2 x3 x4 x5 x6 D = some D' → am_Ex (am_E l m_X1_spreadHour false h0 Φ) prog_3_method_21_code (0, 0) 80 [(0, .ref 45), (1, .int x1), (2, .int x2), (3, .int x3), (4, .int x4), (5, .int x5), (6, .int x6)] [] (ly tw true D) := by
  intro x1 x2 x3 x4 x5 x6 D h
  rw [b_X1_spreadHour_80] at h
  refine am_aload_n (j := 0) (am_dk tk_X1_spreadHour 46 rfl) rfl rfl ?_
  refine am_aload_n (j := 0) (am_dk tk_X1_spreadHour 47 rfl) rfl rfl ?_
  refine am_iload_n (j := 1) (am_dk tk_X1_spreadHour 48 rfl) rfl rfl ?_
  refine am_iconst (v := 1) (am_dk tk_X1_spreadHour 49 rfl) (by decide) ?_
  refine am_iadd (am_dk tk_X1_spreadHour 50 rfl) ?_
  refine am_iload_n (j := 3) (am_dk tk_X1_spreadHour 51 rfl) rfl rfl ?_
  refine ly_cV (M := m_X1_placeAtWork) (As := [.int (x1 + 1), .int x3]) (b := 45) (st := [.ref 45]) (ct_X1_placeAtWork _ _ _) rfl (by decide) rfl ml_X1_103 ld_X1_placeAtWork rfl ⟨Nat.le_of_ble_eq_true rfl, Nat.le_of_ble_eq_true rfl⟩ (Nat.le_of_ble_eq_true rfl) ⟨rfl, rfl⟩ ⟨Nat.le_of_ble_eq_true rfl, Nat.le_of_ble_eq_true rfl⟩ (am_dk tk_X1_spreadHour 52 rfl) (am_kki ?_)
  refine am_iload (j := 6) (am_dk tk_X1_spreadHour 53 rfl) rfl ?_
  refine am_aload_n (j := 0) (am_dk tk_X1_spreadHour 54 rfl) rfl rfl ?_
  refine ly_getr (b := 48) rfl fl_X1_22 rfl rfl (am_dk tk_X1_spreadHour 55 rfl) ?_
  refine am_iload_n (j := 1) (am_dk tk_X1_spreadHour 56 rfl) rfl rfl ?_
  obtain ⟨hi96, h⟩ := am_chk h
  refine ly_iald (k := x1.toNatClampNeg) rfl (am_in_vp hi96) rfl (am_dk tk_X1_spreadHour 57 rfl) ?_
  refine am_isub (am_dk tk_X1_spreadHour 58 rfl) ?_
  obtain ⟨q98, hq98, h⟩ := am_bind h
  refine ly_cV (M := m_X1_offer) (As := [.int (f_X1_placeAtWork (x1 + 1) x3 D), .int (x6 - (D 48 x1.toNatClampNeg))]) (b := 45) (st := []) (ct_X1_offer hq98) rfl (by decide) rfl ml_X1_176 ld_X1_offer rfl ⟨Nat.le_of_ble_eq_true rfl, Nat.le_of_ble_eq_true rfl⟩ (Nat.le_of_ble_eq_true rfl) ⟨rfl, rfl⟩ ⟨Nat.le_of_ble_eq_true rfl, Nat.le_of_ble_eq_true rfl⟩ (am_dk tk_X1_spreadHour 59 rfl) (am_kkv ?_)
  refine am_iinc (j := 5) (v := x5 + 1) (L' := [(5, .int (x5 + 1)), (0, .ref 45), (1, .int x1), (2, .int x2), (3, .int x3), (4, .int x4), (6, .int x6)]) (am_dk tk_X1_spreadHour_1 0 rfl) rfl rfl (Nat.le_of_ble_eq_true rfl) rfl ?_
  refine am_goto (tgt := 23) (am_dk tk_X1_spreadHour_1 1 rfl) (by decide) ?_
  refine am_ls [1, 2, 3, 4, 5, 0] rfl ?_
  exact hk23 _ _ _ _ _ _ h
theorem bx_X1_spreadHour_23 {l : Launch} {h0 : am_H} {Φ : am_Ph} {tw : Nat}  {D' : am_M} (hΦ : Φ none (ly tw true D')) {k6 : Int32 → Int32 → Int32 → am_M → Option am_M} (hk6 : ∀ (x1 : Int32) (x2 : Int32) (x3 : Int32) (D : am_M), k6 x1 x2 x3 D = some D' → am_Ex (am_E l m_X1_spreadHour false h0 Φ) prog_3_method_21_code (0, 0) 6 [(0, .ref 45), (1, .int x1), (2, .int x2), (3, .int x3)] [] (ly tw true D)) : ∀ (n : Nat) (x1 : Int32) (x2 : Int32) (x3 : Int32) (x4 : Int32) (x5 : Int32) (D : am_M), b_X1_spreadHour_23 k6 n x1 x2 x3 x4 x5 D = some D' → am_Ex (am_E l m_X1_spreadHour false h0 Φ) prog_3_method_21_code (0, 0) 23 [(0, .ref 45), (1, .int x1), (2, .int x2), (3, .int x3), (4, .int x4), (5, .int x5)] [] (ly tw true D) := by
  intro n
  induction n with
  | zero =>
    intro x1 x2 x3 x4 x5 D h
    exact absurd h (by simp [b_X1_spreadHour_23])
  | succ n ih =>
    intro x1 x2 x3 x4 x5 D h
    rw [b_X1_spreadHour_23] at h
    refine am_iload (j := 5) (am_dk tk_X1_spreadHour 15 rfl) rfl ?_
    refine am_aload_n (j := 0) (am_dk tk_X1_spreadHour 16 rfl) rfl rfl ?_
    refine ly_geti rfl fl_X1_87 rfl (am_dk tk_X1_spreadHour 17 rfl) ?_
    refine am_icmp_ge (tgt := 107) (am_dk tk_X1_spreadHour 18 rfl) (by decide) (fun hc29 => ?_) (fun hc29 => ?_)
    · rw [if_pos hc29] at h
      refine am_iinc (j := 3) (v := x3 + 1) (L' := [(3, .int (x3 + 1)), (0, .ref 45), (1, .int x1), (2, .int x2), (4, .int x4), (5, .int x5)]) (am_dk tk_X1_spreadHour_1 2 rfl) rfl rfl (Nat.le_of_ble_eq_true rfl) rfl ?_
      refine am_goto (tgt := 6) (am_dk tk_X1_spreadHour_1 3 rfl) (by decide) ?_
      refine am_ls [1, 2, 3, 0] rfl ?_
      exact hk6 _ _ _ _ h
    · rw [if_neg hc29] at h
      refine am_aload_n (j := 0) (am_dk tk_X1_spreadHour 19 rfl) rfl rfl ?_
      refine ly_getr (b := 83) rfl fl_X1_9 rfl rfl (am_dk tk_X1_spreadHour 20 rfl) ?_
      refine am_iload (j := 4) (am_dk tk_X1_spreadHour 21 rfl) rfl ?_
      refine am_iload (j := 5) (am_dk tk_X1_spreadHour 22 rfl) rfl ?_
      refine am_iadd (am_dk tk_X1_spreadHour 23 rfl) ?_
      obtain ⟨hi41, h⟩ := am_chk h
      refine ly_iald (k := (x4 + x5).toNatClampNeg) rfl (am_in_vp hi41) rfl (am_dk tk_X1_spreadHour 24 rfl) ?_
      refine am_istore (L' := [(6, .int (D 83 (x4 + x5).toNatClampNeg)), (0, .ref 45), (1, .int x1), (2, .int x2), (3, .int x3), (4, .int x4), (5, .int x5)]) (am_dk tk_X1_spreadHour 25 rfl) (Nat.le_of_ble_eq_true rfl) rfl ?_
      refine am_iload (j := 0) (am_dk tk_X1_spreadHour 26 rfl) rfl ?_
      refine am_iconst (v := (-1)) (am_dk tk_X1_spreadHour 27 rfl) (by decide) ?_
      refine am_icmp_ne (tgt := 53) (am_dk tk_X1_spreadHour 28 rfl) (by decide) (fun hc47 => ?_) (fun hc47 => ?_)
      · rw [if_neg hc47] at h
        refine am_iload_n (j := 4) (am_dk tk_X1_spreadHour 30 rfl) rfl rfl ?_
        refine am_if_le (tgt := 80) (am_dk tk_X1_spreadHour 31 rfl) (by decide) (fun hc54 => ?_) (fun hc54 => ?_)
        · rw [if_pos hc54] at h
          refine am_ls [1, 2, 3, 4, 5, 6, 0] rfl ?_
          exact bx_X1_spreadHour_80  hΦ hk6 (ih) _ _ _ _ _ _ _ h
        · rw [if_neg hc54] at h
          refine am_aload_n (j := 1) (am_dk tk_X1_spreadHour 32 rfl) rfl rfl ?_
          refine am_aload_n (j := 1) (am_dk tk_X1_spreadHour 33 rfl) rfl rfl ?_
          refine am_iload_n (j := 2) (am_dk tk_X1_spreadHour 34 rfl) rfl rfl ?_
          refine am_iconst (v := 1) (am_dk tk_X1_spreadHour 35 rfl) (by decide) ?_
          refine am_iadd (am_dk tk_X1_spreadHour 36 rfl) ?_
          refine am_iload_n (j := 4) (am_dk tk_X1_spreadHour 37 rfl) rfl rfl ?_
          refine am_iload (j := 6) (am_dk tk_X1_spreadHour 38 rfl) rfl ?_
          refine ly_cV (M := m_X1_placeAsleep) (As := [.int (x1 + 1), .int x3, .int x5]) (b := 45) (st := [.ref 45]) (ct_X1_placeAsleep _ _ _ _) rfl (by decide) rfl ml_X1_111 ld_X1_placeAsleep rfl ⟨Nat.le_of_ble_eq_true rfl, Nat.le_of_ble_eq_true rfl⟩ (Nat.le_of_ble_eq_true rfl) ⟨rfl, rfl⟩ ⟨Nat.le_of_ble_eq_true rfl, Nat.le_of_ble_eq_true rfl⟩ (am_dk tk_X1_spreadHour 39 rfl) (am_kki ?_)
          refine am_aload_n (j := 1) (am_dk tk_X1_spreadHour 40 rfl) rfl rfl ?_
          refine am_iload_n (j := 2) (am_dk tk_X1_spreadHour 41 rfl) rfl rfl ?_
          refine am_iload (j := 6) (am_dk tk_X1_spreadHour 42 rfl) rfl ?_
          refine am_iload (j := 0) (am_dk tk_X1_spreadHour 43 rfl) rfl ?_
          obtain ⟨q74, hq74, h⟩ := am_bind h
          refine ly_cV (M := m_X1_purseAsleep) (As := [.int x1, .int x5, .int (D 83 (x4 + x5).toNatClampNeg)]) (b := 45) (st := [.int (f_X1_placeAsleep (x1 + 1) x3 x5 D), .ref 45]) (ct_X1_purseAsleep hq74) rfl (by decide) rfl ml_X1_173 ld_X1_purseAsleep rfl ⟨Nat.le_of_ble_eq_true rfl, Nat.le_of_ble_eq_true rfl⟩ (Nat.le_of_ble_eq_true rfl) ⟨rfl, rfl⟩ ⟨Nat.le_of_ble_eq_true rfl, Nat.le_of_ble_eq_true rfl⟩ (am_dk tk_X1_spreadHour 44 rfl) (am_kki ?_)
          obtain ⟨q77, hq77, h⟩ := am_bind h
          refine ly_cV (M := m_X1_offer) (As := [.int (f_X1_placeAsleep (x1 + 1) x3 x5 D), .int q74.1]) (b := 45) (st := []) (ct_X1_offer hq77) rfl (by decide) rfl ml_X1_176 ld_X1_offer rfl ⟨Nat.le_of_ble_eq_true rfl, Nat.le_of_ble_eq_true rfl⟩ (Nat.le_of_ble_eq_true rfl) ⟨rfl, rfl⟩ ⟨Nat.le_of_ble_eq_true rfl, Nat.le_of_ble_eq_true rfl⟩ (am_dk tk_X1_spreadHour 45 rfl) (am_kkv ?_)
          refine am_ls [1, 2, 3, 4, 5, 6, 0] rfl ?_
          exact bx_X1_spreadHour_80  hΦ hk6 (ih) _ _ _ _ _ _ _ h
      · rw [if_pos hc47] at h
        refine am_goto (tgt := 101) (am_dk tk_X1_spreadHour 29 rfl) (by decide) ?_
        refine am_iinc (j := 6) (v := x5 + 1) (L' := [(5, .int (x5 + 1)), (6, .int (D 83 (x4 + x5).toNatClampNeg)), (0, .ref 45), (1, .int x1), (2, .int x2), (3, .int x3), (4, .int x4)]) (am_dk tk_X1_spreadHour_1 0 rfl) rfl rfl (Nat.le_of_ble_eq_true rfl) rfl ?_
        refine am_goto (tgt := 23) (am_dk tk_X1_spreadHour_1 1 rfl) (by decide) ?_
        refine am_ls [2, 3, 4, 5, 6, 0] rfl ?_
        exact ih _ _ _ _ _ _ h
theorem bx_X1_spreadHour_6 {l : Launch} {h0 : am_H} {Φ : am_Ph} {tw : Nat}  {D' : am_M} (hΦ : Φ none (ly tw true D')) : ∀ (n : Nat) (x1 : Int32) (x2 : Int32) (x3 : Int32) (D : am_M), b_X1_spreadHour_6 n x1 x2 x3 D = some D' → am_Ex (am_E l m_X1_spreadHour false h0 Φ) prog_3_method_21_code (0, 0) 6 [(0, .ref 45), (1, .int x1), (2, .int x2), (3, .int x3)] [] (ly tw true D) := by
  intro n
  induction n with
  | zero =>
    intro x1 x2 x3 D h
    exact absurd h (by simp [b_X1_spreadHour_6])
  | succ n ih =>
    intro x1 x2 x3 D h
    rw [b_X1_spreadHour_6] at h
    refine am_iload_n (j := 3) (am_dk tk_X1_spreadHour 4 rfl) rfl rfl ?_
    refine am_iload_n (j := 2) (am_dk tk_X1_spreadHour 5 rfl) rfl rfl ?_
    refine am_icmp_gt (tgt := 113) (am_dk tk_X1_spreadHour 6 rfl) (by decide) (fun hc8 => ?_) (fun hc8 => ?_)
    · rw [if_pos hc8] at h
      exact am_vret rfl (am_r0 h hΦ) ⟨Nat.le_of_ble_eq_true rfl, Nat.le_of_ble_eq_true rfl⟩ (am_dk tk_X1_spreadHour_1 4 rfl)
    · rw [if_neg hc8] at h
      refine am_aload_n (j := 0) (am_dk tk_X1_spreadHour 7 rfl) rfl rfl ?_
      refine am_iload_n (j := 1) (am_dk tk_X1_spreadHour 8 rfl) rfl rfl ?_
      refine am_iload_n (j := 3) (am_dk tk_X1_spreadHour 9 rfl) rfl rfl ?_
      refine am_iconst (v := 0) (am_dk tk_X1_spreadHour 10 rfl) (by decide) ?_
      refine ly_cV (M := m_X1_place) (As := [.int x1, .int x3, .int 0]) (b := 45) (st := []) (ct_X1_place _ _ _ _) rfl (by decide) rfl ml_X1_115 ld_X1_place rfl ⟨Nat.le_of_ble_eq_true rfl, Nat.le_of_ble_eq_true rfl⟩ (Nat.le_of_ble_eq_true rfl) ⟨rfl, rfl⟩ ⟨Nat.le_of_ble_eq_true rfl, Nat.le_of_ble_eq_true rfl⟩ (am_dk tk_X1_spreadHour 11 rfl) (am_kki ?_)
      refine am_istore (L' := [(4, .int (f_X1_place x1 x3 0 D)), (0, .ref 45), (1, .int x1), (2, .int x2), (3, .int x3)]) (am_dk tk_X1_spreadHour 12 rfl) (Nat.le_of_ble_eq_true rfl) rfl ?_
      refine am_iconst (v := 0) (am_dk tk_X1_spreadHour 13 rfl) (by decide) ?_
      refine am_istore (L' := [(5, .int 0), (4, .int (f_X1_place x1 x3 0 D)), (0, .ref 45), (1, .int x1), (2, .int x2), (3, .int x3)]) (am_dk tk_X1_spreadHour 14 rfl) (Nat.le_of_ble_eq_true rfl) rfl ?_
      refine am_ls [2, 3, 4, 5, 1, 0] rfl ?_
      exact bx_X1_spreadHour_23  hΦ (ih) am_N _ _ _ _ _ _ h
theorem ct_X1_spreadHour {l : Launch} {tw : Nat}  {x1 : Int32} {x2 : Int32} {D D' : am_M} (h : f_X1_spreadHour x1 x2 D = some D') : am_CT l m_X1_spreadHour false [.ref 45, .int x1, .int x2] (ly tw true D) (am_is none (ly tw true D')) := by
  have hΦ : am_is none (ly tw true D') none (ly tw true D') := ⟨rfl, rfl⟩
  refine am_CT.of (by decide) (Nat.le_of_ble_eq_true rfl) ?_
  show am_Ex _ _ _ 0 [(0, .ref 45), (1, .int x1), (2, .int x2)] [] _
  rw [f_X1_spreadHour] at h
  refine am_aload_n (j := 0) (am_dk tk_X1_spreadHour 0 rfl) rfl rfl ?_
  refine am_iload_n (j := 1) (am_dk tk_X1_spreadHour 1 rfl) rfl rfl ?_
  refine ly_cV (M := m_X1_leastTired) (As := [.int x1]) (b := 45) (st := []) (ct_X1_leastTired _ _) rfl (by decide) rfl ml_X1_170 ld_X1_leastTired rfl ⟨Nat.le_of_ble_eq_true rfl, Nat.le_of_ble_eq_true rfl⟩ (Nat.le_of_ble_eq_true rfl) ⟨rfl, rfl⟩ ⟨Nat.le_of_ble_eq_true rfl, Nat.le_of_ble_eq_true rfl⟩ (am_dk tk_X1_spreadHour 2 rfl) (am_kki ?_)
  refine am_istore_n (L' := [(3, .int (f_X1_leastTired x1 D)), (0, .ref 45), (1, .int x1), (2, .int x2)]) (am_dk tk_X1_spreadHour 3 rfl) rfl (Nat.le_of_ble_eq_true rfl) rfl ?_
  refine am_ls [1, 2, 3, 0] rfl ?_
  exact bx_X1_spreadHour_6  hΦ am_N _ _ _ _ h
abbrev m_X1_spread : am_D := (yX1_spread, prog_3_method_19_code, 2, none, { frames := 4, cells := 0, slots := 0, locals := 83 })
theorem ld_X1_spread : am_LD m_X1_spread 0 := ⟨(am_tb 83 (by decide +kernel) (by decide +kernel)), (am_tb 672 (by decide +kernel) (by decide +kernel)), by decide, by decide, by decide +kernel⟩
def tb_X1_spread : List (Nat × Instr × Nat) := [(0, .iconst 0, 1), (1, .istore_n 1, 1), (2, .iload_n 1, 1), (3, .aload_n 0, 1), (4, .getfield 129, 3), (7, .if_icmp .gt 14, 3), (10, .aload_n 0, 1), (11, .iload_n 1, 1), (12, .invokevirtual 160, 3), (15, .iinc 1 1, 3), (18, .goto (-16), 3), (21, .aload_n 0, 1), (22, .getfield 9, 3), (25, .aload_n 0, 1), (26, .iconst 0, 1), (27, .aload_n 0, 1), (28, .getfield 50, 3), (31, .aload_n 0, 1), (32, .getfield 55, 3), (35, .aload_n 0, 1), (36, .getfield 87, 3), (39, .iconst 1, 1), (40, .isub, 1), (41, .invokestatic 157, 3), (44, .invokevirtual 115, 3), (47, .aload_n 0, 1), (48, .getfield 60, 3), (51, .iastore, 1), (52, .iconst 0, 1), (53, .istore_n 1, 1), (54, .iload_n 1, 1), (55, .aload_n 0, 1), (56, .getfield 129, 3), (59, .if_icmp .ge 19, 3), (62, .aload_n 0, 1), (63, .iload_n 1, 1), (64, .aload_n 0, 1), (65, .iload_n 1, 1), (66, .invokevirtual 163, 3), (69, .invokevirtual 166, 3), (72, .iinc 1 1, 3), (75, .goto (-21), 3), (78, .return_, 1)]
theorem tk_X1_spread : am_tbl prog_3_method_19_code tb_X1_spread = true := by decide +kernel
def b_X1_spread_54 : Nat → Int32 → am_M → Option am_M
  | 0, _, _ => none
  | n + 1, x1, D => if (D 45 15) ≤ x1 then some D else (f_X1_spreadHour x1 (f_X1_mostTired x1 D) D).bind fun q69 => b_X1_spread_54 n (x1 + 1) q69
def b_X1_spread_2 : Nat → Int32 → am_M → Option am_M
  | 0, _, _ => none
  | n + 1, x1, D => if (D 45 15) < x1 then if am_in (f_X1_place 0 (D 45 9) (am_min (D 45 10) ((D 45 12) - 1)) D) 44100 = true then b_X1_spread_54 am_N 0 (am_up D 83 (f_X1_place 0 (D 45 9) (am_min (D 45 10) ((D 45 12) - 1)) D).toNatClampNeg (D 45 11)) else none else (f_X1_clearHour x1 D).bind fun q12 => b_X1_spread_2 n (x1 + 1) q12
def f_X1_spread (D : am_M) : Option am_M := b_X1_spread_2 am_N 0 D
theorem bx_X1_spread_54 {l : Launch} {h0 : am_H} {Φ : am_Ph} {tw : Nat}  {D' : am_M} (hΦ : Φ none (ly tw true D')) : ∀ (n : Nat) (x1 : Int32) (D : am_M), b_X1_spread_54 n x1 D = some D' → am_Ex (am_E l m_X1_spread false h0 Φ) prog_3_method_19_code (0, 0) 54 [(0, .ref 45), (1, .int x1)] [] (ly tw true D) := by
  intro n
  induction n with
  | zero =>
    intro x1 D h
    exact absurd h (by simp [b_X1_spread_54])
  | succ n ih =>
    intro x1 D h
    rw [b_X1_spread_54] at h
    refine am_iload_n (j := 1) (am_dk tk_X1_spread 30 rfl) rfl rfl ?_
    refine am_aload_n (j := 0) (am_dk tk_X1_spread 31 rfl) rfl rfl ?_
    refine ly_geti rfl fl_X1_129 rfl (am_dk tk_X1_spread 32 rfl) ?_
    refine am_icmp_ge (tgt := 78) (am_dk tk_X1_spread 33 rfl) (by decide) (fun hc59 => ?_) (fun hc59 => ?_)
    · rw [if_pos hc59] at h
      exact am_vret rfl (am_r0 h hΦ) ⟨Nat.le_of_ble_eq_true rfl, Nat.le_of_ble_eq_true rfl⟩ (am_dk tk_X1_spread 42 rfl)
    · rw [if_neg hc59] at h
      refine am_aload_n (j := 0) (am_dk tk_X1_spread 34 rfl) rfl rfl ?_
      refine am_iload_n (j := 1) (am_dk tk_X1_spread 35 rfl) rfl rfl ?_
      refine am_aload_n (j := 0) (am_dk tk_X1_spread 36 rfl) rfl rfl ?_
      refine am_iload_n (j := 1) (am_dk tk_X1_spread 37 rfl) rfl rfl ?_
      refine ly_cV (M := m_X1_mostTired) (As := [.int x1]) (b := 45) (st := [.int x1, .ref 45]) (ct_X1_mostTired _ _) rfl (by decide) rfl ml_X1_163 ld_X1_mostTired rfl ⟨Nat.le_of_ble_eq_true rfl, Nat.le_of_ble_eq_true rfl⟩ (Nat.le_of_ble_eq_true rfl) ⟨rfl, rfl⟩ ⟨Nat.le_of_ble_eq_true rfl, Nat.le_of_ble_eq_true rfl⟩ (am_dk tk_X1_spread 38 rfl) (am_kki ?_)
      obtain ⟨q69, hq69, h⟩ := am_bind h
      refine ly_cV (M := m_X1_spreadHour) (As := [.int x1, .int (f_X1_mostTired x1 D)]) (b := 45) (st := []) (ct_X1_spreadHour hq69) rfl (by decide) rfl ml_X1_166 ld_X1_spreadHour rfl ⟨Nat.le_of_ble_eq_true rfl, Nat.le_of_ble_eq_true rfl⟩ (Nat.le_of_ble_eq_true rfl) ⟨rfl, rfl⟩ ⟨Nat.le_of_ble_eq_true rfl, Nat.le_of_ble_eq_true rfl⟩ (am_dk tk_X1_spread 39 rfl) (am_kkv ?_)
      refine am_iinc (j := 1) (v := x1 + 1) (L' := [(1, .int (x1 + 1)), (0, .ref 45)]) (am_dk tk_X1_spread 40 rfl) rfl rfl (Nat.le_of_ble_eq_true rfl) rfl ?_
      refine am_goto (tgt := 54) (am_dk tk_X1_spread 41 rfl) (by decide) ?_
      refine am_ls [1, 0] rfl ?_
      exact ih _ _ h
theorem bx_X1_spread_2 {l : Launch} {h0 : am_H} {Φ : am_Ph} {tw : Nat}  {D' : am_M} (hΦ : Φ none (ly tw true D')) : ∀ (n : Nat) (x1 : Int32) (D : am_M), b_X1_spread_2 n x1 D = some D' → am_Ex (am_E l m_X1_spread false h0 Φ) prog_3_method_19_code (0, 0) 2 [(0, .ref 45), (1, .int x1)] [] (ly tw true D) := by
  intro n
  induction n with
  | zero =>
    intro x1 D h
    exact absurd h (by simp [b_X1_spread_2])
  | succ n ih =>
    intro x1 D h
    rw [b_X1_spread_2] at h
    refine am_iload_n (j := 1) (am_dk tk_X1_spread 2 rfl) rfl rfl ?_
    refine am_aload_n (j := 0) (am_dk tk_X1_spread 3 rfl) rfl rfl ?_
    refine ly_geti rfl fl_X1_129 rfl (am_dk tk_X1_spread 4 rfl) ?_
    refine am_icmp_gt (tgt := 21) (am_dk tk_X1_spread 5 rfl) (by decide) (fun hc7 => ?_) (fun hc7 => ?_)
    · rw [if_pos hc7] at h
      refine am_aload_n (j := 0) (am_dk tk_X1_spread 11 rfl) rfl rfl ?_
      refine ly_getr (b := 83) rfl fl_X1_9 rfl rfl (am_dk tk_X1_spread 12 rfl) ?_
      refine am_aload_n (j := 0) (am_dk tk_X1_spread 13 rfl) rfl rfl ?_
      refine am_iconst (v := 0) (am_dk tk_X1_spread 14 rfl) (by decide) ?_
      refine am_aload_n (j := 0) (am_dk tk_X1_spread 15 rfl) rfl rfl ?_
      refine ly_geti rfl fl_X1_50 rfl (am_dk tk_X1_spread 16 rfl) ?_
      refine am_aload_n (j := 0) (am_dk tk_X1_spread 17 rfl) rfl rfl ?_
      refine ly_geti rfl fl_X1_55 rfl (am_dk tk_X1_spread 18 rfl) ?_
      refine am_aload_n (j := 0) (am_dk tk_X1_spread 19 rfl) rfl rfl ?_
      refine ly_geti rfl fl_X1_87 rfl (am_dk tk_X1_spread 20 rfl) ?_
      refine am_iconst (v := 1) (am_dk tk_X1_spread 21 rfl) (by decide) ?_
      refine am_isub (am_dk tk_X1_spread 22 rfl) ?_
      refine am_mmin lm_X1_157 (Nat.le_of_ble_eq_true rfl) (Nat.le_of_ble_eq_true rfl) ⟨Nat.le_of_ble_eq_true rfl, Nat.le_of_ble_eq_true rfl⟩ (am_dk tk_X1_spread 23 rfl) ?_
      refine ly_cV (M := m_X1_place) (As := [.int 0, .int (D 45 9), .int (am_min (D 45 10) ((D 45 12) - 1))]) (b := 45) (st := [.ref 83]) (ct_X1_place _ _ _ _) rfl (by decide) rfl ml_X1_115 ld_X1_place rfl ⟨Nat.le_of_ble_eq_true rfl, Nat.le_of_ble_eq_true rfl⟩ (Nat.le_of_ble_eq_true rfl) ⟨rfl, rfl⟩ ⟨Nat.le_of_ble_eq_true rfl, Nat.le_of_ble_eq_true rfl⟩ (am_dk tk_X1_spread 24 rfl) (am_kki ?_)
      refine am_aload_n (j := 0) (am_dk tk_X1_spread 25 rfl) rfl rfl ?_
      refine ly_geti rfl fl_X1_60 rfl (am_dk tk_X1_spread 26 rfl) ?_
      obtain ⟨hi51, h⟩ := am_chk h
      refine ly_iast (k := (f_X1_place 0 (D 45 9) (am_min (D 45 10) ((D 45 12) - 1)) D).toNatClampNeg) rfl (am_in_vp hi51) rfl (am_dk tk_X1_spread 27 rfl) ?_
      refine am_iconst (v := 0) (am_dk tk_X1_spread 28 rfl) (by decide) ?_
      refine am_istore_n (L' := [(1, .int 0), (0, .ref 45)]) (am_dk tk_X1_spread 29 rfl) rfl (Nat.le_of_ble_eq_true rfl) rfl ?_
      refine am_ls [1, 0] rfl ?_
      exact bx_X1_spread_54  hΦ am_N _ _ h
    · rw [if_neg hc7] at h
      refine am_aload_n (j := 0) (am_dk tk_X1_spread 6 rfl) rfl rfl ?_
      refine am_iload_n (j := 1) (am_dk tk_X1_spread 7 rfl) rfl rfl ?_
      obtain ⟨q12, hq12, h⟩ := am_bind h
      refine ly_cV (M := m_X1_clearHour) (As := [.int x1]) (b := 45) (st := []) (ct_X1_clearHour hq12) rfl (by decide) rfl ml_X1_160 ld_X1_clearHour rfl ⟨Nat.le_of_ble_eq_true rfl, Nat.le_of_ble_eq_true rfl⟩ (Nat.le_of_ble_eq_true rfl) ⟨rfl, rfl⟩ ⟨Nat.le_of_ble_eq_true rfl, Nat.le_of_ble_eq_true rfl⟩ (am_dk tk_X1_spread 8 rfl) (am_kkv ?_)
      refine am_iinc (j := 1) (v := x1 + 1) (L' := [(1, .int (x1 + 1)), (0, .ref 45)]) (am_dk tk_X1_spread 9 rfl) rfl rfl (Nat.le_of_ble_eq_true rfl) rfl ?_
      refine am_goto (tgt := 2) (am_dk tk_X1_spread 10 rfl) (by decide) ?_
      refine am_ls [1, 0] rfl ?_
      exact ih _ _ h
theorem ct_X1_spread {l : Launch} {tw : Nat}  {D D' : am_M} (h : f_X1_spread D = some D') : am_CT l m_X1_spread false [.ref 45] (ly tw true D) (am_is none (ly tw true D')) := by
  have hΦ : am_is none (ly tw true D') none (ly tw true D') := ⟨rfl, rfl⟩
  refine am_CT.of (by decide) (Nat.le_of_ble_eq_true rfl) ?_
  show am_Ex _ _ _ 0 [(0, .ref 45)] [] _
  rw [f_X1_spread] at h
  refine am_iconst (v := 0) (am_dk tk_X1_spread 0 rfl) (by decide) ?_
  refine am_istore_n (L' := [(1, .int 0), (0, .ref 45)]) (am_dk tk_X1_spread 1 rfl) rfl (Nat.le_of_ble_eq_true rfl) rfl ?_
  refine am_ls [1, 0] rfl ?_
  exact bx_X1_spread_2  hΦ am_N _ _ h
abbrev m_X1_mostAtEnd : am_D := (yX1_mostAtEnd, prog_3_method_23_code, 7, (some .int), { frames := 2, cells := 0, slots := 0, locals := 34 })
theorem ld_X1_mostAtEnd : am_LD m_X1_mostAtEnd 0 := ⟨(am_tb 83 (by decide +kernel) (by decide +kernel)), (am_tb 700 (by decide +kernel) (by decide +kernel)), by decide, by decide, by decide +kernel⟩
def tb_X1_mostAtEnd : List (Nat × Instr × Nat) := [(0, .iconst (-1), 1), (1, .istore_n 1, 1), (2, .aload_n 0, 1), (3, .getfield 38, 3), (6, .aload_n 0, 1), (7, .getfield 129, 3), (10, .isub, 1), (11, .istore_n 2, 1), (12, .aload_n 0, 1), (13, .aload_n 0, 1), (14, .getfield 129, 3), (17, .invokevirtual 163, 3), (20, .istore_n 3, 1), (21, .aload_n 0, 1), (22, .aload_n 0, 1), (23, .getfield 129, 3), (26, .invokevirtual 170, 3), (29, .istore 4, 2), (31, .iload 4, 2), (33, .iload_n 3, 1), (34, .if_icmp .gt 80, 3), (37, .iconst 0, 1), (38, .istore 5, 2), (40, .iload 5, 2), (42, .aload_n 0, 1), (43, .getfield 87, 3), (46, .if_icmp .ge 62, 3), (49, .aload_n 0, 1), (50, .getfield 9, 3), (53, .aload_n 0, 1), (54, .aload_n 0, 1), (55, .getfield 129, 3), (58, .iload 4, 2), (60, .iload 5, 2), (62, .invokevirtual 115, 3), (65, .iaload, 1), (66, .istore 6, 2), (68, .iload 6, 2), (70, .iconst (-1), 1), (71, .if_icmp .eq 31, 3), (74, .iload_n 1, 1), (75, .iload 6, 2), (77, .aload_n 0, 1), (78, .getfield 15, 3), (81, .aload_n 0, 1), (82, .iload_n 2, 1), (83, .iload 4, 2), (85, .iload 5, 2), (87, .invokevirtual 115, 3), (90, .iaload, 1), (91, .iadd, 1), (92, .sipush 9999, 3), (95, .invokestatic 157, 3), (98, .invokestatic 118, 3), (101, .istore_n 1, 1), (102, .iinc 5 1, 3), (105, .goto (-65), 3), (108, .iinc 4 1, 3), (111, .goto (-80), 3), (114, .iload_n 1, 1)]
theorem tk_X1_mostAtEnd : am_tbl prog_3_method_23_code tb_X1_mostAtEnd = true := by decide +kernel
def tb_X1_mostAtEnd_1 : List (Nat × Instr × Nat) := [(115, .ireturn, 1)]
theorem tk_X1_mostAtEnd_1 : am_tbl prog_3_method_23_code tb_X1_mostAtEnd_1 = true := by decide +kernel
def b_X1_mostAtEnd_40 (k31 : Int32 → Int32 → Int32 → Int32 → am_M → Option (Int32 × am_M)) : Nat → Int32 → Int32 → Int32 → Int32 → Int32 → am_M → Option (Int32 × am_M)
  | 0, _, _, _, _, _, _ => none
  | n + 1, x1, x2, x3, x4, x5, D => if (D 45 12) ≤ x5 then k31 x1 x2 x3 (x4 + 1) D else if am_in (f_X1_place (D 45 15) x4 x5 D) 44100 = true then if (D 83 (f_X1_place (D 45 15) x4 x5 D).toNatClampNeg) = (-1) then b_X1_mostAtEnd_40 k31 n x1 x2 x3 x4 (x5 + 1) D else if am_in (f_X1_place x2 x4 x5 D) 44100 = true then b_X1_mostAtEnd_40 k31 n (am_max x1 (am_min ((D 83 (f_X1_place (D 45 15) x4 x5 D).toNatClampNeg) + (D 84 (f_X1_place x2 x4 x5 D).toNatClampNeg)) 9999)) x2 x3 x4 (x5 + 1) D else none else none
def b_X1_mostAtEnd_31 : Nat → Int32 → Int32 → Int32 → Int32 → am_M → Option (Int32 × am_M)
  | 0, _, _, _, _, _ => none
  | n + 1, x1, x2, x3, x4, D => if x3 < x4 then some (x1, D) else b_X1_mostAtEnd_40 (b_X1_mostAtEnd_31 n) am_N x1 x2 x3 x4 0 D
def f_X1_mostAtEnd (D : am_M) : Option (Int32 × am_M) := b_X1_mostAtEnd_31 am_N (-1) ((D 45 7) - (D 45 15)) (f_X1_mostTired (D 45 15) D) (f_X1_leastTired (D 45 15) D) D
theorem bx_X1_mostAtEnd_40 {l : Launch} {h0 : am_H} {Φ : am_Ph} {tw : Nat}  {r : Int32} {D' : am_M} (hΦ : Φ (some (.int r)) (ly tw true D')) {k31 : Int32 → Int32 → Int32 → Int32 → am_M → Option (Int32 × am_M)} (hk31 : ∀ (x1 : Int32) (x2 : Int32) (x3 : Int32) (x4 : Int32) (D : am_M), k31 x1 x2 x3 x4 D = some (r, D') → am_Ex (am_E l m_X1_mostAtEnd false h0 Φ) prog_3_method_23_code (0, 0) 31 [(0, .ref 45), (1, .int x1), (2, .int x2), (3, .int x3), (4, .int x4)] [] (ly tw true D)) : ∀ (n : Nat) (x1 : Int32) (x2 : Int32) (x3 : Int32) (x4 : Int32) (x5 : Int32) (D : am_M), b_X1_mostAtEnd_40 k31 n x1 x2 x3 x4 x5 D = some (r, D') → am_Ex (am_E l m_X1_mostAtEnd false h0 Φ) prog_3_method_23_code (0, 0) 40 [(0, .ref 45), (1, .int x1), (2, .int x2), (3, .int x3), (4, .int x4), (5, .int x5)] [] (ly tw true D) := by
  intro n
  induction n with
  | zero =>
    intro x1 x2 x3 x4 x5 D h
    exact absurd h (by simp [b_X1_mostAtEnd_40])
  | succ n ih =>
    intro x1 x2 x3 x4 x5 D h
    rw [b_X1_mostAtEnd_40] at h
    refine am_iload (j := 5) (am_dk tk_X1_mostAtEnd 23 rfl) rfl ?_
    refine am_aload_n (j := 0) (am_dk tk_X1_mostAtEnd 24 rfl) rfl rfl ?_
    refine ly_geti rfl fl_X1_87 rfl (am_dk tk_X1_mostAtEnd 25 rfl) ?_
    refine am_icmp_ge (tgt := 108) (am_dk tk_X1_mostAtEnd 26 rfl) (by decide) (fun hc46 => ?_) (fun hc46 => ?_)
    · rw [if_pos hc46] at h
      refine am_iinc (j := 4) (v := x4 + 1) (L' := [(4, .int (x4 + 1)), (0, .ref 45), (1, .int x1), (2, .int x2), (3, .int x3), (5, .int x5)]) (am_dk tk_X1_mostAtEnd 57 rfl) rfl rfl (Nat.le_of_ble_eq_true rfl) rfl ?_
      refine am_goto (tgt := 31) (am_dk tk_X1_mostAtEnd 58 rfl) (by decide) ?_
      refine am_ls [1, 2, 3, 4, 0] rfl ?_
      exact hk31 _ _ _ _ _ h
    · rw [if_neg hc46] at h
      refine am_aload_n (j := 0) (am_dk tk_X1_mostAtEnd 27 rfl) rfl rfl ?_
      refine ly_getr (b := 83) rfl fl_X1_9 rfl rfl (am_dk tk_X1_mostAtEnd 28 rfl) ?_
      refine am_aload_n (j := 0) (am_dk tk_X1_mostAtEnd 29 rfl) rfl rfl ?_
      refine am_aload_n (j := 0) (am_dk tk_X1_mostAtEnd 30 rfl) rfl rfl ?_
      refine ly_geti rfl fl_X1_129 rfl (am_dk tk_X1_mostAtEnd 31 rfl) ?_
      refine am_iload (j := 4) (am_dk tk_X1_mostAtEnd 32 rfl) rfl ?_
      refine am_iload (j := 5) (am_dk tk_X1_mostAtEnd 33 rfl) rfl ?_
      refine ly_cV (M := m_X1_place) (As := [.int (D 45 15), .int x4, .int x5]) (b := 45) (st := [.ref 83]) (ct_X1_place _ _ _ _) rfl (by decide) rfl ml_X1_115 ld_X1_place rfl ⟨Nat.le_of_ble_eq_true rfl, Nat.le_of_ble_eq_true rfl⟩ (Nat.le_of_ble_eq_true rfl) ⟨rfl, rfl⟩ ⟨Nat.le_of_ble_eq_true rfl, Nat.le_of_ble_eq_true rfl⟩ (am_dk tk_X1_mostAtEnd 34 rfl) (am_kki ?_)
      obtain ⟨hi65, h⟩ := am_chk h
      refine ly_iald (k := (f_X1_place (D 45 15) x4 x5 D).toNatClampNeg) rfl (am_in_vp hi65) rfl (am_dk tk_X1_mostAtEnd 35 rfl) ?_
      refine am_istore (L' := [(6, .int (D 83 (f_X1_place (D 45 15) x4 x5 D).toNatClampNeg)), (0, .ref 45), (1, .int x1), (2, .int x2), (3, .int x3), (4, .int x4), (5, .int x5)]) (am_dk tk_X1_mostAtEnd 36 rfl) (Nat.le_of_ble_eq_true rfl) rfl ?_
      refine am_iload (j := 0) (am_dk tk_X1_mostAtEnd 37 rfl) rfl ?_
      refine am_iconst (v := (-1)) (am_dk tk_X1_mostAtEnd 38 rfl) (by decide) ?_
      refine am_icmp_eq (tgt := 102) (am_dk tk_X1_mostAtEnd 39 rfl) (by decide) (fun hc71 => ?_) (fun hc71 => ?_)
      · rw [if_pos hc71] at h
        refine am_iinc (j := 6) (v := x5 + 1) (L' := [(5, .int (x5 + 1)), (6, .int (D 83 (f_X1_place (D 45 15) x4 x5 D).toNatClampNeg)), (0, .ref 45), (1, .int x1), (2, .int x2), (3, .int x3), (4, .int x4)]) (am_dk tk_X1_mostAtEnd 55 rfl) rfl rfl (Nat.le_of_ble_eq_true rfl) rfl ?_
        refine am_goto (tgt := 40) (am_dk tk_X1_mostAtEnd 56 rfl) (by decide) ?_
        refine am_ls [2, 3, 4, 5, 6, 0] rfl ?_
        exact ih _ _ _ _ _ _ h
      · rw [if_neg hc71] at h
        refine am_iload_n (j := 2) (am_dk tk_X1_mostAtEnd 40 rfl) rfl rfl ?_
        refine am_iload (j := 0) (am_dk tk_X1_mostAtEnd 41 rfl) rfl ?_
        refine am_aload_n (j := 1) (am_dk tk_X1_mostAtEnd 42 rfl) rfl rfl ?_
        refine ly_getr (b := 84) rfl fl_X1_15 rfl rfl (am_dk tk_X1_mostAtEnd 43 rfl) ?_
        refine am_aload_n (j := 1) (am_dk tk_X1_mostAtEnd 44 rfl) rfl rfl ?_
        refine am_iload_n (j := 3) (am_dk tk_X1_mostAtEnd 45 rfl) rfl rfl ?_
        refine am_iload (j := 5) (am_dk tk_X1_mostAtEnd 46 rfl) rfl ?_
        refine am_iload (j := 6) (am_dk tk_X1_mostAtEnd 47 rfl) rfl ?_
        refine ly_cV (M := m_X1_place) (As := [.int x2, .int x4, .int x5]) (b := 45) (st := [.ref 84, .int (D 83 (f_X1_place (D 45 15) x4 x5 D).toNatClampNeg), .int x1]) (ct_X1_place _ _ _ _) rfl (by decide) rfl ml_X1_115 ld_X1_place rfl ⟨Nat.le_of_ble_eq_true rfl, Nat.le_of_ble_eq_true rfl⟩ (Nat.le_of_ble_eq_true rfl) ⟨rfl, rfl⟩ ⟨Nat.le_of_ble_eq_true rfl, Nat.le_of_ble_eq_true rfl⟩ (am_dk tk_X1_mostAtEnd 48 rfl) (am_kki ?_)
        obtain ⟨hi90, h⟩ := am_chk h
        refine ly_iald (k := (f_X1_place x2 x4 x5 D).toNatClampNeg) rfl (am_in_vp hi90) rfl (am_dk tk_X1_mostAtEnd 49 rfl) ?_
        refine am_iadd (am_dk tk_X1_mostAtEnd 50 rfl) ?_
        refine am_sipush (v := 9999) (am_dk tk_X1_mostAtEnd 51 rfl) (by decide) ?_
        refine am_mmin lm_X1_157 (Nat.le_of_ble_eq_true rfl) (Nat.le_of_ble_eq_true rfl) ⟨Nat.le_of_ble_eq_true rfl, Nat.le_of_ble_eq_true rfl⟩ (am_dk tk_X1_mostAtEnd 52 rfl) ?_
        refine am_mmax lm_X1_118 (Nat.le_of_ble_eq_true rfl) (Nat.le_of_ble_eq_true rfl) ⟨Nat.le_of_ble_eq_true rfl, Nat.le_of_ble_eq_true rfl⟩ (am_dk tk_X1_mostAtEnd 53 rfl) ?_
        refine am_istore_n (L' := [(1, .int (am_max x1 (am_min ((D 83 (f_X1_place (D 45 15) x4 x5 D).toNatClampNeg) + (D 84 (f_X1_place x2 x4 x5 D).toNatClampNeg)) 9999))), (6, .int (D 83 (f_X1_place (D 45 15) x4 x5 D).toNatClampNeg)), (0, .ref 45), (2, .int x2), (3, .int x3), (4, .int x4), (5, .int x5)]) (am_dk tk_X1_mostAtEnd 54 rfl) rfl (Nat.le_of_ble_eq_true rfl) rfl ?_
        refine am_iinc (j := 6) (v := x5 + 1) (L' := [(5, .int (x5 + 1)), (1, .int (am_max x1 (am_min ((D 83 (f_X1_place (D 45 15) x4 x5 D).toNatClampNeg) + (D 84 (f_X1_place x2 x4 x5 D).toNatClampNeg)) 9999))), (6, .int (D 83 (f_X1_place (D 45 15) x4 x5 D).toNatClampNeg)), (0, .ref 45), (2, .int x2), (3, .int x3), (4, .int x4)]) (am_dk tk_X1_mostAtEnd 55 rfl) rfl rfl (Nat.le_of_ble_eq_true rfl) rfl ?_
        refine am_goto (tgt := 40) (am_dk tk_X1_mostAtEnd 56 rfl) (by decide) ?_
        refine am_ls [3, 1, 4, 5, 6, 0] rfl ?_
        exact ih _ _ _ _ _ _ h
theorem bx_X1_mostAtEnd_31 {l : Launch} {h0 : am_H} {Φ : am_Ph} {tw : Nat}  {r : Int32} {D' : am_M} (hΦ : Φ (some (.int r)) (ly tw true D')) : ∀ (n : Nat) (x1 : Int32) (x2 : Int32) (x3 : Int32) (x4 : Int32) (D : am_M), b_X1_mostAtEnd_31 n x1 x2 x3 x4 D = some (r, D') → am_Ex (am_E l m_X1_mostAtEnd false h0 Φ) prog_3_method_23_code (0, 0) 31 [(0, .ref 45), (1, .int x1), (2, .int x2), (3, .int x3), (4, .int x4)] [] (ly tw true D) := by
  intro n
  induction n with
  | zero =>
    intro x1 x2 x3 x4 D h
    exact absurd h (by simp [b_X1_mostAtEnd_31])
  | succ n ih =>
    intro x1 x2 x3 x4 D h
    rw [b_X1_mostAtEnd_31] at h
    refine am_iload (j := 4) (am_dk tk_X1_mostAtEnd 18 rfl) rfl ?_
    refine am_iload_n (j := 3) (am_dk tk_X1_mostAtEnd 19 rfl) rfl rfl ?_
    refine am_icmp_gt (tgt := 114) (am_dk tk_X1_mostAtEnd 20 rfl) (by decide) (fun hc34 => ?_) (fun hc34 => ?_)
    · rw [if_pos hc34] at h
      refine am_iload_n (j := 1) (am_dk tk_X1_mostAtEnd 59 rfl) rfl rfl ?_
      exact am_iret rfl (am_r2 h hΦ) ⟨Nat.le_of_ble_eq_true rfl, Nat.le_of_ble_eq_true rfl⟩ (am_dk tk_X1_mostAtEnd_1 0 rfl)
    · rw [if_neg hc34] at h
      refine am_iconst (v := 0) (am_dk tk_X1_mostAtEnd 21 rfl) (by decide) ?_
      refine am_istore (L' := [(5, .int 0), (0, .ref 45), (1, .int x1), (2, .int x2), (3, .int x3), (4, .int x4)]) (am_dk tk_X1_mostAtEnd 22 rfl) (Nat.le_of_ble_eq_true rfl) rfl ?_
      refine am_ls [1, 2, 3, 4, 5, 0] rfl ?_
      exact bx_X1_mostAtEnd_40  hΦ (ih) am_N _ _ _ _ _ _ h
theorem ct_X1_mostAtEnd {l : Launch} {tw : Nat}  {r : Int32} {D D' : am_M} (h : f_X1_mostAtEnd D = some (r, D')) : am_CT l m_X1_mostAtEnd false [.ref 45] (ly tw true D) (am_is (some (.int r)) (ly tw true D')) := by
  have hΦ : am_is (some (.int r)) (ly tw true D') (some (.int r)) (ly tw true D') := ⟨rfl, rfl⟩
  refine am_CT.of (by decide) (Nat.le_of_ble_eq_true rfl) ?_
  show am_Ex _ _ _ 0 [(0, .ref 45)] [] _
  rw [f_X1_mostAtEnd] at h
  refine am_iconst (v := (-1)) (am_dk tk_X1_mostAtEnd 0 rfl) (by decide) ?_
  refine am_istore_n (L' := [(1, .int (-1)), (0, .ref 45)]) (am_dk tk_X1_mostAtEnd 1 rfl) rfl (Nat.le_of_ble_eq_true rfl) rfl ?_
  refine am_aload_n (j := 1) (am_dk tk_X1_mostAtEnd 2 rfl) rfl rfl ?_
  refine ly_geti rfl fl_X1_38 rfl (am_dk tk_X1_mostAtEnd 3 rfl) ?_
  refine am_aload_n (j := 1) (am_dk tk_X1_mostAtEnd 4 rfl) rfl rfl ?_
  refine ly_geti rfl fl_X1_129 rfl (am_dk tk_X1_mostAtEnd 5 rfl) ?_
  refine am_isub (am_dk tk_X1_mostAtEnd 6 rfl) ?_
  refine am_istore_n (L' := [(2, .int ((D 45 7) - (D 45 15))), (1, .int (-1)), (0, .ref 45)]) (am_dk tk_X1_mostAtEnd 7 rfl) rfl (Nat.le_of_ble_eq_true rfl) rfl ?_
  refine am_aload_n (j := 2) (am_dk tk_X1_mostAtEnd 8 rfl) rfl rfl ?_
  refine am_aload_n (j := 2) (am_dk tk_X1_mostAtEnd 9 rfl) rfl rfl ?_
  refine ly_geti rfl fl_X1_129 rfl (am_dk tk_X1_mostAtEnd 10 rfl) ?_
  refine ly_cV (M := m_X1_mostTired) (As := [.int (D 45 15)]) (b := 45) (st := []) (ct_X1_mostTired _ _) rfl (by decide) rfl ml_X1_163 ld_X1_mostTired rfl ⟨Nat.le_of_ble_eq_true rfl, Nat.le_of_ble_eq_true rfl⟩ (Nat.le_of_ble_eq_true rfl) ⟨rfl, rfl⟩ ⟨Nat.le_of_ble_eq_true rfl, Nat.le_of_ble_eq_true rfl⟩ (am_dk tk_X1_mostAtEnd 11 rfl) (am_kki ?_)
  refine am_istore_n (L' := [(3, .int (f_X1_mostTired (D 45 15) D)), (2, .int ((D 45 7) - (D 45 15))), (1, .int (-1)), (0, .ref 45)]) (am_dk tk_X1_mostAtEnd 12 rfl) rfl (Nat.le_of_ble_eq_true rfl) rfl ?_
  refine am_aload_n (j := 3) (am_dk tk_X1_mostAtEnd 13 rfl) rfl rfl ?_
  refine am_aload_n (j := 3) (am_dk tk_X1_mostAtEnd 14 rfl) rfl rfl ?_
  refine ly_geti rfl fl_X1_129 rfl (am_dk tk_X1_mostAtEnd 15 rfl) ?_
  refine ly_cV (M := m_X1_leastTired) (As := [.int (D 45 15)]) (b := 45) (st := []) (ct_X1_leastTired _ _) rfl (by decide) rfl ml_X1_170 ld_X1_leastTired rfl ⟨Nat.le_of_ble_eq_true rfl, Nat.le_of_ble_eq_true rfl⟩ (Nat.le_of_ble_eq_true rfl) ⟨rfl, rfl⟩ ⟨Nat.le_of_ble_eq_true rfl, Nat.le_of_ble_eq_true rfl⟩ (am_dk tk_X1_mostAtEnd 16 rfl) (am_kki ?_)
  refine am_istore (L' := [(4, .int (f_X1_leastTired (D 45 15) D)), (3, .int (f_X1_mostTired (D 45 15) D)), (2, .int ((D 45 7) - (D 45 15))), (1, .int (-1)), (0, .ref 45)]) (am_dk tk_X1_mostAtEnd 17 rfl) (Nat.le_of_ble_eq_true rfl) rfl ?_
  refine am_ls [4, 3, 2, 1, 0] rfl ?_
  exact bx_X1_mostAtEnd_31  hΦ am_N _ _ _ _ _ h
abbrev m_X1_needAt : am_D := (yX1_needAt, prog_3_method_27_code, 4, (some .int), { frames := 1, cells := 0, slots := 0, locals := 23 })
theorem ld_X1_needAt : am_LD m_X1_needAt 3 := ⟨(am_tb 83 (by decide +kernel) (by decide +kernel)), (am_tb 716 (by decide +kernel) (by decide +kernel)), by decide, by decide, by decide +kernel⟩
def tb_X1_needAt : List (Nat × Instr × Nat) := [(0, .iload_n 1, 1), (1, .aload_n 0, 1), (2, .getfield 129, 3), (5, .if_icmp .ge 16, 3), (8, .aload_n 0, 1), (9, .getfield 9, 3), (12, .aload_n 0, 1), (13, .iload_n 1, 1), (14, .iload_n 2, 1), (15, .iload_n 3, 1), (16, .invokevirtual 115, 3), (19, .iaload, 1), (20, .ireturn, 1), (21, .aload_n 0, 1), (22, .getfield 28, 3), (25, .aload_n 0, 1), (26, .getfield 15, 3), (29, .aload_n 0, 1), (30, .aload_n 0, 1), (31, .getfield 38, 3), (34, .iload_n 1, 1), (35, .isub, 1), (36, .iload_n 2, 1), (37, .iload_n 3, 1), (38, .invokevirtual 115, 3), (41, .iaload, 1), (42, .isub, 1), (43, .iconst 0, 1), (44, .invokestatic 118, 3), (47, .ireturn, 1)]
theorem tk_X1_needAt : am_tbl prog_3_method_27_code tb_X1_needAt = true := by decide +kernel
def f_X1_needAt (x1 : Int32) (x2 : Int32) (x3 : Int32) (D : am_M) : Option (Int32 × am_M) := if (D 45 15) ≤ x1 then if am_in (f_X1_place ((D 45 7) - x1) x2 x3 D) 44100 = true then some (am_max ((D 45 5) - (D 84 (f_X1_place ((D 45 7) - x1) x2 x3 D).toNatClampNeg)) 0, D) else none else if am_in (f_X1_place x1 x2 x3 D) 44100 = true then some (D 83 (f_X1_place x1 x2 x3 D).toNatClampNeg, D) else none
theorem ct_X1_needAt {l : Launch} {tw : Nat}  {x1 : Int32} {x2 : Int32} {x3 : Int32} {r : Int32} {D D' : am_M} (h : f_X1_needAt x1 x2 x3 D = some (r, D')) : am_CT l m_X1_needAt false [.ref 45, .int x1, .int x2, .int x3] (ly tw true D) (am_is (some (.int r)) (ly tw true D')) := by
  have hΦ : am_is (some (.int r)) (ly tw true D') (some (.int r)) (ly tw true D') := ⟨rfl, rfl⟩
  refine am_CT.of (by decide) (Nat.le_of_ble_eq_true rfl) ?_
  show am_Ex _ _ _ 0 [(0, .ref 45), (1, .int x1), (2, .int x2), (3, .int x3)] [] _
  rw [f_X1_needAt] at h
  refine am_iload_n (j := 1) (am_dk tk_X1_needAt 0 rfl) rfl rfl ?_
  refine am_aload_n (j := 0) (am_dk tk_X1_needAt 1 rfl) rfl rfl ?_
  refine ly_geti rfl fl_X1_129 rfl (am_dk tk_X1_needAt 2 rfl) ?_
  refine am_icmp_ge (tgt := 21) (am_dk tk_X1_needAt 3 rfl) (by decide) (fun hc5 => ?_) (fun hc5 => ?_)
  · rw [if_pos hc5] at h
    refine am_aload_n (j := 0) (am_dk tk_X1_needAt 13 rfl) rfl rfl ?_
    refine ly_geti rfl fl_X1_28 rfl (am_dk tk_X1_needAt 14 rfl) ?_
    refine am_aload_n (j := 0) (am_dk tk_X1_needAt 15 rfl) rfl rfl ?_
    refine ly_getr (b := 84) rfl fl_X1_15 rfl rfl (am_dk tk_X1_needAt 16 rfl) ?_
    refine am_aload_n (j := 0) (am_dk tk_X1_needAt 17 rfl) rfl rfl ?_
    refine am_aload_n (j := 0) (am_dk tk_X1_needAt 18 rfl) rfl rfl ?_
    refine ly_geti rfl fl_X1_38 rfl (am_dk tk_X1_needAt 19 rfl) ?_
    refine am_iload_n (j := 1) (am_dk tk_X1_needAt 20 rfl) rfl rfl ?_
    refine am_isub (am_dk tk_X1_needAt 21 rfl) ?_
    refine am_iload_n (j := 2) (am_dk tk_X1_needAt 22 rfl) rfl rfl ?_
    refine am_iload_n (j := 3) (am_dk tk_X1_needAt 23 rfl) rfl rfl ?_
    refine ly_cV (M := m_X1_place) (As := [.int ((D 45 7) - x1), .int x2, .int x3]) (b := 45) (st := [.ref 84, .int (D 45 5)]) (ct_X1_place _ _ _ _) rfl (by decide) rfl ml_X1_115 ld_X1_place rfl ⟨Nat.le_of_ble_eq_true rfl, Nat.le_of_ble_eq_true rfl⟩ (Nat.le_of_ble_eq_true rfl) ⟨rfl, rfl⟩ ⟨Nat.le_of_ble_eq_true rfl, Nat.le_of_ble_eq_true rfl⟩ (am_dk tk_X1_needAt 24 rfl) (am_kki ?_)
    obtain ⟨hi41, h⟩ := am_chk h
    refine ly_iald (k := (f_X1_place ((D 45 7) - x1) x2 x3 D).toNatClampNeg) rfl (am_in_vp hi41) rfl (am_dk tk_X1_needAt 25 rfl) ?_
    refine am_isub (am_dk tk_X1_needAt 26 rfl) ?_
    refine am_iconst (v := 0) (am_dk tk_X1_needAt 27 rfl) (by decide) ?_
    refine am_mmax lm_X1_118 (Nat.le_of_ble_eq_true rfl) (Nat.le_of_ble_eq_true rfl) ⟨Nat.le_of_ble_eq_true rfl, Nat.le_of_ble_eq_true rfl⟩ (am_dk tk_X1_needAt 28 rfl) ?_
    exact am_iret rfl (am_r2 h hΦ) ⟨Nat.le_of_ble_eq_true rfl, Nat.le_of_ble_eq_true rfl⟩ (am_dk tk_X1_needAt 29 rfl)
  · rw [if_neg hc5] at h
    refine am_aload_n (j := 0) (am_dk tk_X1_needAt 4 rfl) rfl rfl ?_
    refine ly_getr (b := 83) rfl fl_X1_9 rfl rfl (am_dk tk_X1_needAt 5 rfl) ?_
    refine am_aload_n (j := 0) (am_dk tk_X1_needAt 6 rfl) rfl rfl ?_
    refine am_iload_n (j := 1) (am_dk tk_X1_needAt 7 rfl) rfl rfl ?_
    refine am_iload_n (j := 2) (am_dk tk_X1_needAt 8 rfl) rfl rfl ?_
    refine am_iload_n (j := 3) (am_dk tk_X1_needAt 9 rfl) rfl rfl ?_
    refine ly_cV (M := m_X1_place) (As := [.int x1, .int x2, .int x3]) (b := 45) (st := [.ref 83]) (ct_X1_place _ _ _ _) rfl (by decide) rfl ml_X1_115 ld_X1_place rfl ⟨Nat.le_of_ble_eq_true rfl, Nat.le_of_ble_eq_true rfl⟩ (Nat.le_of_ble_eq_true rfl) ⟨rfl, rfl⟩ ⟨Nat.le_of_ble_eq_true rfl, Nat.le_of_ble_eq_true rfl⟩ (am_dk tk_X1_needAt 10 rfl) (am_kki ?_)
    obtain ⟨hi19, h⟩ := am_chk h
    refine ly_iald (k := (f_X1_place x1 x2 x3 D).toNatClampNeg) rfl (am_in_vp hi19) rfl (am_dk tk_X1_needAt 11 rfl) ?_
    exact am_iret rfl (am_r2 h hΦ) ⟨Nat.le_of_ble_eq_true rfl, Nat.le_of_ble_eq_true rfl⟩ (am_dk tk_X1_needAt 12 rfl)
abbrev m_X1_needBefore : am_D := (yX1_needBefore, prog_3_method_28_code, 4, (some .int), { frames := 1, cells := 0, slots := 0, locals := 13 })
theorem ld_X1_needBefore : am_LD m_X1_needBefore 3 := ⟨(am_tb 83 (by decide +kernel) (by decide +kernel)), (am_tb 720 (by decide +kernel) (by decide +kernel)), by decide, by decide, by decide +kernel⟩
def tb_X1_needBefore : List (Nat × Instr × Nat) := [(0, .iload_n 2, 1), (1, .iconst (-1), 1), (2, .if_icmp .eq 17, 3), (5, .iload_n 2, 1), (6, .aload_n 0, 1), (7, .getfield 22, 3), (10, .iload_n 1, 1), (11, .iaload, 1), (12, .iadd, 1), (13, .sipush 9999, 3), (16, .if_icmp .le 5, 3), (19, .iconst (-1), 1), (20, .ireturn, 1), (21, .iload_n 2, 1), (22, .aload_n 0, 1), (23, .getfield 22, 3), (26, .iload_n 1, 1), (27, .iaload, 1), (28, .iadd, 1), (29, .iload_n 3, 1), (30, .isub, 1), (31, .iconst 0, 1), (32, .invokestatic 118, 3), (35, .ireturn, 1)]
theorem tk_X1_needBefore : am_tbl prog_3_method_28_code tb_X1_needBefore = true := by decide +kernel
def f_X1_needBefore (x1 : Int32) (x2 : Int32) (x3 : Int32) (D : am_M) : Option (Int32 × am_M) := if x2 = (-1) then some ((-1), D) else if am_in x1 48 = true then if (x2 + (D 48 x1.toNatClampNeg)) ≤ 9999 then some (am_max ((x2 + (D 48 x1.toNatClampNeg)) - x3) 0, D) else some ((-1), D) else none
theorem ct_X1_needBefore {l : Launch} {tw : Nat} {tp : Bool}  {x1 : Int32} {x2 : Int32} {x3 : Int32} {r : Int32} {D D' : am_M} (h : f_X1_needBefore x1 x2 x3 D = some (r, D')) : am_CT l m_X1_needBefore false [.ref 45, .int x1, .int x2, .int x3] (ly tw tp D) (am_is (some (.int r)) (ly tw tp D')) := by
  have hΦ : am_is (some (.int r)) (ly tw tp D') (some (.int r)) (ly tw tp D') := ⟨rfl, rfl⟩
  refine am_CT.of (by decide) (Nat.le_of_ble_eq_true rfl) ?_
  show am_Ex _ _ _ 0 [(0, .ref 45), (1, .int x1), (2, .int x2), (3, .int x3)] [] _
  rw [f_X1_needBefore] at h
  refine am_iload_n (j := 2) (am_dk tk_X1_needBefore 0 rfl) rfl rfl ?_
  refine am_iconst (v := (-1)) (am_dk tk_X1_needBefore 1 rfl) (by decide) ?_
  refine am_icmp_eq (tgt := 19) (am_dk tk_X1_needBefore 2 rfl) (by decide) (fun hc2 => ?_) (fun hc2 => ?_)
  · rw [if_pos hc2] at h
    refine am_iconst (v := (-1)) (am_dk tk_X1_needBefore 11 rfl) (by decide) ?_
    exact am_iret rfl (am_r2 h hΦ) ⟨Nat.le_of_ble_eq_true rfl, Nat.le_of_ble_eq_true rfl⟩ (am_dk tk_X1_needBefore 12 rfl)
  · rw [if_neg hc2] at h
    refine am_iload_n (j := 2) (am_dk tk_X1_needBefore 3 rfl) rfl rfl ?_
    refine am_aload_n (j := 0) (am_dk tk_X1_needBefore 4 rfl) rfl rfl ?_
    refine ly_getr (b := 48) rfl fl_X1_22 rfl rfl (am_dk tk_X1_needBefore 5 rfl) ?_
    refine am_iload_n (j := 1) (am_dk tk_X1_needBefore 6 rfl) rfl rfl ?_
    obtain ⟨hi11, h⟩ := am_chk h
    refine ly_iald (k := x1.toNatClampNeg) rfl (am_in_vp hi11) rfl (am_dk tk_X1_needBefore 7 rfl) ?_
    refine am_iadd (am_dk tk_X1_needBefore 8 rfl) ?_
    refine am_sipush (v := 9999) (am_dk tk_X1_needBefore 9 rfl) (by decide) ?_
    refine am_icmp_le (tgt := 21) (am_dk tk_X1_needBefore 10 rfl) (by decide) (fun hc16 => ?_) (fun hc16 => ?_)
    · rw [if_pos hc16] at h
      refine am_iload_n (j := 2) (am_dk tk_X1_needBefore 13 rfl) rfl rfl ?_
      refine am_aload_n (j := 0) (am_dk tk_X1_needBefore 14 rfl) rfl rfl ?_
      refine ly_getr (b := 48) rfl fl_X1_22 rfl rfl (am_dk tk_X1_needBefore 15 rfl) ?_
      refine am_iload_n (j := 1) (am_dk tk_X1_needBefore 16 rfl) rfl rfl ?_
      refine ly_iald (k := x1.toNatClampNeg) rfl (am_in_vp hi11) rfl (am_dk tk_X1_needBefore 17 rfl) ?_
      refine am_iadd (am_dk tk_X1_needBefore 18 rfl) ?_
      refine am_iload_n (j := 3) (am_dk tk_X1_needBefore 19 rfl) rfl rfl ?_
      refine am_isub (am_dk tk_X1_needBefore 20 rfl) ?_
      refine am_iconst (v := 0) (am_dk tk_X1_needBefore 21 rfl) (by decide) ?_
      refine am_mmax lm_X1_118 (Nat.le_of_ble_eq_true rfl) (Nat.le_of_ble_eq_true rfl) ⟨Nat.le_of_ble_eq_true rfl, Nat.le_of_ble_eq_true rfl⟩ (am_dk tk_X1_needBefore 22 rfl) ?_
      exact am_iret rfl (am_r2 h hΦ) ⟨Nat.le_of_ble_eq_true rfl, Nat.le_of_ble_eq_true rfl⟩ (am_dk tk_X1_needBefore 23 rfl)
    · rw [if_neg hc16] at h
      refine am_iconst (v := (-1)) (am_dk tk_X1_needBefore 11 rfl) (by decide) ?_
      exact am_iret rfl (am_r2 h hΦ) ⟨Nat.le_of_ble_eq_true rfl, Nat.le_of_ble_eq_true rfl⟩ (am_dk tk_X1_needBefore 12 rfl)
abbrev m_X1_needOf : am_D := (yX1_needOf, prog_3_method_26_code, 6, (some .int), { frames := 2, cells := 0, slots := 0, locals := 46 })
theorem ld_X1_needOf : am_LD m_X1_needOf 3 := ⟨(am_tb 83 (by decide +kernel) (by decide +kernel)), (am_tb 712 (by decide +kernel) (by decide +kernel)), by decide, by decide, by decide +kernel⟩
def tb_X1_needOf : List (Nat × Instr × Nat) := [(0, .aload_n 0, 1), (1, .iload_n 1, 1), (2, .aload_n 0, 1), (3, .iload_n 1, 1), (4, .iconst 1, 1), (5, .iadd, 1), (6, .iload_n 2, 1), (7, .invokestatic 154, 3), (10, .iconst 0, 1), (11, .invokevirtual 185, 3), (14, .iconst 0, 1), (15, .invokevirtual 188, 3), (18, .istore 4, 2), (20, .iload_n 2, 1), (21, .ifCond .ne 6, 3), (24, .iload 4, 2), (26, .ireturn, 1), (27, .aload_n 0, 1), (28, .iload_n 1, 1), (29, .aload_n 0, 1), (30, .iload_n 1, 1), (31, .iconst 1, 1), (32, .iadd, 1), (33, .iload_n 2, 1), (34, .invokestatic 148, 3), (37, .aload_n 0, 1), (38, .iload_n 3, 1), (39, .invokevirtual 151, 3), (42, .invokevirtual 185, 3), (45, .aload_n 0, 1), (46, .iload_n 3, 1), (47, .invokevirtual 107, 3), (50, .invokevirtual 188, 3), (53, .istore 5, 2), (55, .iload 4, 2), (57, .iconst (-1), 1), (58, .if_icmp .ne 6, 3), (61, .iload 5, 2), (63, .ireturn, 1), (64, .iload 5, 2), (66, .iconst (-1), 1), (67, .if_icmp .ne 8, 3), (70, .iload 4, 2), (72, .goto 10, 3), (75, .iload 4, 2), (77, .iload 5, 2), (79, .invokestatic 157, 3), (82, .ireturn, 1)]
theorem tk_X1_needOf : am_tbl prog_3_method_26_code tb_X1_needOf = true := by decide +kernel
def f_X1_needOf (x1 : Int32) (x2 : Int32) (x3 : Int32) (D : am_M) : Option (Int32 × am_M) := (f_X1_needAt (x1 + 1) (f_X1_tiredByWork x2) 0 D).bind fun q11 => (f_X1_needBefore x1 q11.1 0 q11.2).bind fun q15 => if x2 = 0 then some (q15.1, q15.2) else (f_X1_needAt (x1 + 1) (f_X1_easedBySleep x2) (f_X1_longerSleep x3 q15.2) q15.2).bind fun q42 => (f_X1_needBefore x1 q42.1 (f_X1_earned x3 q42.2) q42.2).bind fun q50 => if q15.1 = (-1) then some (q50.1, q50.2) else if q50.1 = (-1) then some (q15.1, q50.2) else some (am_min q15.1 q50.1, q50.2)
theorem ct_X1_needOf {l : Launch} {tw : Nat}  {x1 : Int32} {x2 : Int32} {x3 : Int32} {r : Int32} {D D' : am_M} (h : f_X1_needOf x1 x2 x3 D = some (r, D')) : am_CT l m_X1_needOf false [.ref 45, .int x1, .int x2, .int x3] (ly tw true D) (am_is (some (.int r)) (ly tw true D')) := by
  have hΦ : am_is (some (.int r)) (ly tw true D') (some (.int r)) (ly tw true D') := ⟨rfl, rfl⟩
  refine am_CT.of (by decide) (Nat.le_of_ble_eq_true rfl) ?_
  show am_Ex _ _ _ 0 [(0, .ref 45), (1, .int x1), (2, .int x2), (3, .int x3)] [] _
  rw [f_X1_needOf] at h
  refine am_aload_n (j := 0) (am_dk tk_X1_needOf 0 rfl) rfl rfl ?_
  refine am_iload_n (j := 1) (am_dk tk_X1_needOf 1 rfl) rfl rfl ?_
  refine am_aload_n (j := 0) (am_dk tk_X1_needOf 2 rfl) rfl rfl ?_
  refine am_iload_n (j := 1) (am_dk tk_X1_needOf 3 rfl) rfl rfl ?_
  refine am_iconst (v := 1) (am_dk tk_X1_needOf 4 rfl) (by decide) ?_
  refine am_iadd (am_dk tk_X1_needOf 5 rfl) ?_
  refine am_iload_n (j := 2) (am_dk tk_X1_needOf 6 rfl) rfl rfl ?_
  refine am_cS (M := m_X1_tiredByWork) (As := [.int x2]) (st := [.int (x1 + 1), .ref 45, .int x1, .ref 45]) (ct_X1_tiredByWork _ _) ml_X1_154 ld_X1_tiredByWork rfl ⟨Nat.le_of_ble_eq_true rfl, Nat.le_of_ble_eq_true rfl⟩ (Nat.le_of_ble_eq_true rfl) ⟨rfl, rfl⟩ ⟨Nat.le_of_ble_eq_true rfl, Nat.le_of_ble_eq_true rfl⟩ (am_dk tk_X1_needOf 7 rfl) (am_kki ?_)
  refine am_iconst (v := 0) (am_dk tk_X1_needOf 8 rfl) (by decide) ?_
  obtain ⟨q11, hq11, h⟩ := am_bind h
  refine ly_cV (M := m_X1_needAt) (As := [.int (x1 + 1), .int (f_X1_tiredByWork x2), .int 0]) (b := 45) (st := [.int x1, .ref 45]) (ct_X1_needAt hq11) rfl (by decide) rfl ml_X1_185 ld_X1_needAt rfl ⟨Nat.le_of_ble_eq_true rfl, Nat.le_of_ble_eq_true rfl⟩ (Nat.le_of_ble_eq_true rfl) ⟨rfl, rfl⟩ ⟨Nat.le_of_ble_eq_true rfl, Nat.le_of_ble_eq_true rfl⟩ (am_dk tk_X1_needOf 9 rfl) (am_kki ?_)
  refine am_iconst (v := 0) (am_dk tk_X1_needOf 10 rfl) (by decide) ?_
  obtain ⟨q15, hq15, h⟩ := am_bind h
  refine ly_cV (M := m_X1_needBefore) (As := [.int x1, .int q11.1, .int 0]) (b := 45) (st := []) (ct_X1_needBefore hq15) rfl (by decide) rfl ml_X1_188 ld_X1_needBefore rfl ⟨Nat.le_of_ble_eq_true rfl, Nat.le_of_ble_eq_true rfl⟩ (Nat.le_of_ble_eq_true rfl) ⟨rfl, rfl⟩ ⟨Nat.le_of_ble_eq_true rfl, Nat.le_of_ble_eq_true rfl⟩ (am_dk tk_X1_needOf 11 rfl) (am_kki ?_)
  refine am_istore (L' := [(4, .int q15.1), (0, .ref 45), (1, .int x1), (2, .int x2), (3, .int x3)]) (am_dk tk_X1_needOf 12 rfl) (Nat.le_of_ble_eq_true rfl) rfl ?_
  refine am_iload_n (j := 3) (am_dk tk_X1_needOf 13 rfl) rfl rfl ?_
  refine am_if_ne (tgt := 27) (am_dk tk_X1_needOf 14 rfl) (by decide) (fun hc21 => ?_) (fun hc21 => ?_)
  · rw [if_neg hc21] at h
    refine am_aload_n (j := 1) (am_dk tk_X1_needOf 17 rfl) rfl rfl ?_
    refine am_iload_n (j := 2) (am_dk tk_X1_needOf 18 rfl) rfl rfl ?_
    refine am_aload_n (j := 1) (am_dk tk_X1_needOf 19 rfl) rfl rfl ?_
    refine am_iload_n (j := 2) (am_dk tk_X1_needOf 20 rfl) rfl rfl ?_
    refine am_iconst (v := 1) (am_dk tk_X1_needOf 21 rfl) (by decide) ?_
    refine am_iadd (am_dk tk_X1_needOf 22 rfl) ?_
    refine am_iload_n (j := 3) (am_dk tk_X1_needOf 23 rfl) rfl rfl ?_
    refine am_cS (M := m_X1_easedBySleep) (As := [.int x2]) (st := [.int (x1 + 1), .ref 45, .int x1, .ref 45]) (ct_X1_easedBySleep _ _) ml_X1_148 ld_X1_easedBySleep rfl ⟨Nat.le_of_ble_eq_true rfl, Nat.le_of_ble_eq_true rfl⟩ (Nat.le_of_ble_eq_true rfl) ⟨rfl, rfl⟩ ⟨Nat.le_of_ble_eq_true rfl, Nat.le_of_ble_eq_true rfl⟩ (am_dk tk_X1_needOf 24 rfl) (am_kki ?_)
    refine am_aload_n (j := 1) (am_dk tk_X1_needOf 25 rfl) rfl rfl ?_
    refine am_iload_n (j := 4) (am_dk tk_X1_needOf 26 rfl) rfl rfl ?_
    refine ly_cV (M := m_X1_longerSleep) (As := [.int x3]) (b := 45) (st := [.int (f_X1_easedBySleep x2), .int (x1 + 1), .ref 45, .int x1, .ref 45]) (ct_X1_longerSleep _ _) rfl (by decide) rfl ml_X1_151 ld_X1_longerSleep rfl ⟨Nat.le_of_ble_eq_true rfl, Nat.le_of_ble_eq_true rfl⟩ (Nat.le_of_ble_eq_true rfl) ⟨rfl, rfl⟩ ⟨Nat.le_of_ble_eq_true rfl, Nat.le_of_ble_eq_true rfl⟩ (am_dk tk_X1_needOf 27 rfl) (am_kki ?_)
    obtain ⟨q42, hq42, h⟩ := am_bind h
    refine ly_cV (M := m_X1_needAt) (As := [.int (x1 + 1), .int (f_X1_easedBySleep x2), .int (f_X1_longerSleep x3 q15.2)]) (b := 45) (st := [.int x1, .ref 45]) (ct_X1_needAt hq42) rfl (by decide) rfl ml_X1_185 ld_X1_needAt rfl ⟨Nat.le_of_ble_eq_true rfl, Nat.le_of_ble_eq_true rfl⟩ (Nat.le_of_ble_eq_true rfl) ⟨rfl, rfl⟩ ⟨Nat.le_of_ble_eq_true rfl, Nat.le_of_ble_eq_true rfl⟩ (am_dk tk_X1_needOf 28 rfl) (am_kki ?_)
    refine am_aload_n (j := 1) (am_dk tk_X1_needOf 29 rfl) rfl rfl ?_
    refine am_iload_n (j := 4) (am_dk tk_X1_needOf 30 rfl) rfl rfl ?_
    refine ly_cV (M := m_X1_earned) (As := [.int x3]) (b := 45) (st := [.int q42.1, .int x1, .ref 45]) (ct_X1_earned _ _) rfl (by decide) rfl ml_X1_107 ld_X1_earned rfl ⟨Nat.le_of_ble_eq_true rfl, Nat.le_of_ble_eq_true rfl⟩ (Nat.le_of_ble_eq_true rfl) ⟨rfl, rfl⟩ ⟨Nat.le_of_ble_eq_true rfl, Nat.le_of_ble_eq_true rfl⟩ (am_dk tk_X1_needOf 31 rfl) (am_kki ?_)
    obtain ⟨q50, hq50, h⟩ := am_bind h
    refine ly_cV (M := m_X1_needBefore) (As := [.int x1, .int q42.1, .int (f_X1_earned x3 q42.2)]) (b := 45) (st := []) (ct_X1_needBefore hq50) rfl (by decide) rfl ml_X1_188 ld_X1_needBefore rfl ⟨Nat.le_of_ble_eq_true rfl, Nat.le_of_ble_eq_true rfl⟩ (Nat.le_of_ble_eq_true rfl) ⟨rfl, rfl⟩ ⟨Nat.le_of_ble_eq_true rfl, Nat.le_of_ble_eq_true rfl⟩ (am_dk tk_X1_needOf 32 rfl) (am_kki ?_)
    refine am_istore (L' := [(5, .int q50.1), (4, .int q15.1), (0, .ref 45), (1, .int x1), (2, .int x2), (3, .int x3)]) (am_dk tk_X1_needOf 33 rfl) (Nat.le_of_ble_eq_true rfl) rfl ?_
    refine am_iload (j := 1) (am_dk tk_X1_needOf 34 rfl) rfl ?_
    refine am_iconst (v := (-1)) (am_dk tk_X1_needOf 35 rfl) (by decide) ?_
    refine am_icmp_ne (tgt := 64) (am_dk tk_X1_needOf 36 rfl) (by decide) (fun hc58 => ?_) (fun hc58 => ?_)
    · rw [if_neg hc58] at h
      refine am_iload (j := 0) (am_dk tk_X1_needOf 39 rfl) rfl ?_
      refine am_iconst (v := (-1)) (am_dk tk_X1_needOf 40 rfl) (by decide) ?_
      refine am_icmp_ne (tgt := 75) (am_dk tk_X1_needOf 41 rfl) (by decide) (fun hc67 => ?_) (fun hc67 => ?_)
      · rw [if_neg hc67] at h
        refine am_iload (j := 1) (am_dk tk_X1_needOf 44 rfl) rfl ?_
        refine am_iload (j := 0) (am_dk tk_X1_needOf 45 rfl) rfl ?_
        refine am_mmin lm_X1_157 (Nat.le_of_ble_eq_true rfl) (Nat.le_of_ble_eq_true rfl) ⟨Nat.le_of_ble_eq_true rfl, Nat.le_of_ble_eq_true rfl⟩ (am_dk tk_X1_needOf 46 rfl) ?_
        exact am_iret rfl (am_r2 h hΦ) ⟨Nat.le_of_ble_eq_true rfl, Nat.le_of_ble_eq_true rfl⟩ (am_dk tk_X1_needOf 47 rfl)
      · rw [if_pos hc67] at h
        refine am_iload (j := 1) (am_dk tk_X1_needOf 42 rfl) rfl ?_
        refine am_goto (tgt := 82) (am_dk tk_X1_needOf 43 rfl) (by decide) ?_
        exact am_iret rfl (am_r2 h hΦ) ⟨Nat.le_of_ble_eq_true rfl, Nat.le_of_ble_eq_true rfl⟩ (am_dk tk_X1_needOf 47 rfl)
    · rw [if_pos hc58] at h
      refine am_iload (j := 0) (am_dk tk_X1_needOf 37 rfl) rfl ?_
      exact am_iret rfl (am_r2 h hΦ) ⟨Nat.le_of_ble_eq_true rfl, Nat.le_of_ble_eq_true rfl⟩ (am_dk tk_X1_needOf 38 rfl)
  · rw [if_pos hc21] at h
    refine am_iload (j := 0) (am_dk tk_X1_needOf 15 rfl) rfl ?_
    exact am_iret rfl (am_r2 h hΦ) ⟨Nat.le_of_ble_eq_true rfl, Nat.le_of_ble_eq_true rfl⟩ (am_dk tk_X1_needOf 16 rfl)
abbrev m_X1_turnHourToNeeds : am_D := (yX1_turnHourToNeeds, prog_3_method_25_code, 6, none, { frames := 3, cells := 0, slots := 0, locals := 71 })
theorem ld_X1_turnHourToNeeds : am_LD m_X1_turnHourToNeeds 2 := ⟨(am_tb 83 (by decide +kernel) (by decide +kernel)), (am_tb 708 (by decide +kernel) (by decide +kernel)), by decide, by decide, by decide +kernel⟩
def tb_X1_turnHourToNeeds : List (Nat × Instr × Nat) := [(0, .aload_n 0, 1), (1, .iload_n 1, 1), (2, .invokevirtual 170, 3), (5, .istore_n 3, 1), (6, .iload_n 3, 1), (7, .iload_n 2, 1), (8, .if_icmp .gt 68, 3), (11, .aload_n 0, 1), (12, .iload_n 1, 1), (13, .iload_n 3, 1), (14, .iconst 0, 1), (15, .invokevirtual 115, 3), (18, .istore 4, 2), (20, .iconst 0, 1), (21, .istore 5, 2), (23, .iload 5, 2), (25, .aload_n 0, 1), (26, .getfield 87, 3), (29, .if_icmp .ge 41, 3), (32, .aload_n 0, 1), (33, .getfield 9, 3), (36, .iload 4, 2), (38, .iload 5, 2), (40, .iadd, 1), (41, .iaload, 1), (42, .iconst (-1), 1), (43, .if_icmp .eq 21, 3), (46, .aload_n 0, 1), (47, .getfield 9, 3), (50, .iload 4, 2), (52, .iload 5, 2), (54, .iadd, 1), (55, .aload_n 0, 1), (56, .iload_n 1, 1), (57, .iload_n 3, 1), (58, .iload 5, 2), (60, .invokevirtual 182, 3), (63, .iastore, 1), (64, .iinc 5 1, 3), (67, .goto (-44), 3), (70, .iinc 3 1, 3), (73, .goto (-67), 3), (76, .return_, 1)]
theorem tk_X1_turnHourToNeeds : am_tbl prog_3_method_25_code tb_X1_turnHourToNeeds = true := by decide +kernel
def b_X1_turnHourToNeeds_23 (k6 : Int32 → Int32 → Int32 → am_M → Option am_M) : Nat → Int32 → Int32 → Int32 → Int32 → Int32 → am_M → Option am_M
  | 0, _, _, _, _, _, _ => none
  | n + 1, x1, x2, x3, x4, x5, D => if (D 45 12) ≤ x5 then k6 x1 x2 (x3 + 1) D else if am_in (x4 + x5) 44100 = true then if (D 83 (x4 + x5).toNatClampNeg) = (-1) then b_X1_turnHourToNeeds_23 k6 n x1 x2 x3 x4 (x5 + 1) D else (f_X1_needOf x1 x3 x5 D).bind fun q60 => b_X1_turnHourToNeeds_23 k6 n x1 x2 x3 x4 (x5 + 1) (am_up q60.2 83 (x4 + x5).toNatClampNeg q60.1) else none
def b_X1_turnHourToNeeds_6 : Nat → Int32 → Int32 → Int32 → am_M → Option am_M
  | 0, _, _, _, _ => none
  | n + 1, x1, x2, x3, D => if x2 < x3 then some D else b_X1_turnHourToNeeds_23 (b_X1_turnHourToNeeds_6 n) am_N x1 x2 x3 (f_X1_place x1 x3 0 D) 0 D
def f_X1_turnHourToNeeds (x1 : Int32) (x2 : Int32) (D : am_M) : Option am_M := b_X1_turnHourToNeeds_6 am_N x1 x2 (f_X1_leastTired x1 D) D
theorem bx_X1_turnHourToNeeds_23 {l : Launch} {h0 : am_H} {Φ : am_Ph} {tw : Nat}  {D' : am_M} (hΦ : Φ none (ly tw true D')) {k6 : Int32 → Int32 → Int32 → am_M → Option am_M} (hk6 : ∀ (x1 : Int32) (x2 : Int32) (x3 : Int32) (D : am_M), k6 x1 x2 x3 D = some D' → am_Ex (am_E l m_X1_turnHourToNeeds false h0 Φ) prog_3_method_25_code (0, 0) 6 [(0, .ref 45), (1, .int x1), (2, .int x2), (3, .int x3)] [] (ly tw true D)) : ∀ (n : Nat) (x1 : Int32) (x2 : Int32) (x3 : Int32) (x4 : Int32) (x5 : Int32) (D : am_M), b_X1_turnHourToNeeds_23 k6 n x1 x2 x3 x4 x5 D = some D' → am_Ex (am_E l m_X1_turnHourToNeeds false h0 Φ) prog_3_method_25_code (0, 0) 23 [(0, .ref 45), (1, .int x1), (2, .int x2), (3, .int x3), (4, .int x4), (5, .int x5)] [] (ly tw true D) := by
  intro n
  induction n with
  | zero =>
    intro x1 x2 x3 x4 x5 D h
    exact absurd h (by simp [b_X1_turnHourToNeeds_23])
  | succ n ih =>
    intro x1 x2 x3 x4 x5 D h
    rw [b_X1_turnHourToNeeds_23] at h
    refine am_iload (j := 5) (am_dk tk_X1_turnHourToNeeds 15 rfl) rfl ?_
    refine am_aload_n (j := 0) (am_dk tk_X1_turnHourToNeeds 16 rfl) rfl rfl ?_
    refine ly_geti rfl fl_X1_87 rfl (am_dk tk_X1_turnHourToNeeds 17 rfl) ?_
    refine am_icmp_ge (tgt := 70) (am_dk tk_X1_turnHourToNeeds 18 rfl) (by decide) (fun hc29 => ?_) (fun hc29 => ?_)
    · rw [if_pos hc29] at h
      refine am_iinc (j := 3) (v := x3 + 1) (L' := [(3, .int (x3 + 1)), (0, .ref 45), (1, .int x1), (2, .int x2), (4, .int x4), (5, .int x5)]) (am_dk tk_X1_turnHourToNeeds 40 rfl) rfl rfl (Nat.le_of_ble_eq_true rfl) rfl ?_
      refine am_goto (tgt := 6) (am_dk tk_X1_turnHourToNeeds 41 rfl) (by decide) ?_
      refine am_ls [1, 2, 3, 0] rfl ?_
      exact hk6 _ _ _ _ h
    · rw [if_neg hc29] at h
      refine am_aload_n (j := 0) (am_dk tk_X1_turnHourToNeeds 19 rfl) rfl rfl ?_
      refine ly_getr (b := 83) rfl fl_X1_9 rfl rfl (am_dk tk_X1_turnHourToNeeds 20 rfl) ?_
      refine am_iload (j := 4) (am_dk tk_X1_turnHourToNeeds 21 rfl) rfl ?_
      refine am_iload (j := 5) (am_dk tk_X1_turnHourToNeeds 22 rfl) rfl ?_
      refine am_iadd (am_dk tk_X1_turnHourToNeeds 23 rfl) ?_
      obtain ⟨hi41, h⟩ := am_chk h
      refine ly_iald (k := (x4 + x5).toNatClampNeg) rfl (am_in_vp hi41) rfl (am_dk tk_X1_turnHourToNeeds 24 rfl) ?_
      refine am_iconst (v := (-1)) (am_dk tk_X1_turnHourToNeeds 25 rfl) (by decide) ?_
      refine am_icmp_eq (tgt := 64) (am_dk tk_X1_turnHourToNeeds 26 rfl) (by decide) (fun hc43 => ?_) (fun hc43 => ?_)
      · rw [if_pos hc43] at h
        refine am_iinc (j := 5) (v := x5 + 1) (L' := [(5, .int (x5 + 1)), (0, .ref 45), (1, .int x1), (2, .int x2), (3, .int x3), (4, .int x4)]) (am_dk tk_X1_turnHourToNeeds 38 rfl) rfl rfl (Nat.le_of_ble_eq_true rfl) rfl ?_
        refine am_goto (tgt := 23) (am_dk tk_X1_turnHourToNeeds 39 rfl) (by decide) ?_
        refine am_ls [1, 2, 3, 4, 5, 0] rfl ?_
        exact ih _ _ _ _ _ _ h
      · rw [if_neg hc43] at h
        refine am_aload_n (j := 0) (am_dk tk_X1_turnHourToNeeds 27 rfl) rfl rfl ?_
        refine ly_getr (b := 83) rfl fl_X1_9 rfl rfl (am_dk tk_X1_turnHourToNeeds 28 rfl) ?_
        refine am_iload (j := 4) (am_dk tk_X1_turnHourToNeeds 29 rfl) rfl ?_
        refine am_iload (j := 5) (am_dk tk_X1_turnHourToNeeds 30 rfl) rfl ?_
        refine am_iadd (am_dk tk_X1_turnHourToNeeds 31 rfl) ?_
        refine am_aload_n (j := 0) (am_dk tk_X1_turnHourToNeeds 32 rfl) rfl rfl ?_
        refine am_iload_n (j := 1) (am_dk tk_X1_turnHourToNeeds 33 rfl) rfl rfl ?_
        refine am_iload_n (j := 3) (am_dk tk_X1_turnHourToNeeds 34 rfl) rfl rfl ?_
        refine am_iload (j := 5) (am_dk tk_X1_turnHourToNeeds 35 rfl) rfl ?_
        obtain ⟨q60, hq60, h⟩ := am_bind h
        refine ly_cV (M := m_X1_needOf) (As := [.int x1, .int x3, .int x5]) (b := 45) (st := [.int (x4 + x5), .ref 83]) (ct_X1_needOf hq60) rfl (by decide) rfl ml_X1_182 ld_X1_needOf rfl ⟨Nat.le_of_ble_eq_true rfl, Nat.le_of_ble_eq_true rfl⟩ (Nat.le_of_ble_eq_true rfl) ⟨rfl, rfl⟩ ⟨Nat.le_of_ble_eq_true rfl, Nat.le_of_ble_eq_true rfl⟩ (am_dk tk_X1_turnHourToNeeds 36 rfl) (am_kki ?_)
        refine ly_iast (k := (x4 + x5).toNatClampNeg) rfl (am_in_vp hi41) rfl (am_dk tk_X1_turnHourToNeeds 37 rfl) ?_
        refine am_iinc (j := 5) (v := x5 + 1) (L' := [(5, .int (x5 + 1)), (0, .ref 45), (1, .int x1), (2, .int x2), (3, .int x3), (4, .int x4)]) (am_dk tk_X1_turnHourToNeeds 38 rfl) rfl rfl (Nat.le_of_ble_eq_true rfl) rfl ?_
        refine am_goto (tgt := 23) (am_dk tk_X1_turnHourToNeeds 39 rfl) (by decide) ?_
        refine am_ls [1, 2, 3, 4, 5, 0] rfl ?_
        exact ih _ _ _ _ _ _ h
theorem bx_X1_turnHourToNeeds_6 {l : Launch} {h0 : am_H} {Φ : am_Ph} {tw : Nat}  {D' : am_M} (hΦ : Φ none (ly tw true D')) : ∀ (n : Nat) (x1 : Int32) (x2 : Int32) (x3 : Int32) (D : am_M), b_X1_turnHourToNeeds_6 n x1 x2 x3 D = some D' → am_Ex (am_E l m_X1_turnHourToNeeds false h0 Φ) prog_3_method_25_code (0, 0) 6 [(0, .ref 45), (1, .int x1), (2, .int x2), (3, .int x3)] [] (ly tw true D) := by
  intro n
  induction n with
  | zero =>
    intro x1 x2 x3 D h
    exact absurd h (by simp [b_X1_turnHourToNeeds_6])
  | succ n ih =>
    intro x1 x2 x3 D h
    rw [b_X1_turnHourToNeeds_6] at h
    refine am_iload_n (j := 3) (am_dk tk_X1_turnHourToNeeds 4 rfl) rfl rfl ?_
    refine am_iload_n (j := 2) (am_dk tk_X1_turnHourToNeeds 5 rfl) rfl rfl ?_
    refine am_icmp_gt (tgt := 76) (am_dk tk_X1_turnHourToNeeds 6 rfl) (by decide) (fun hc8 => ?_) (fun hc8 => ?_)
    · rw [if_pos hc8] at h
      exact am_vret rfl (am_r0 h hΦ) ⟨Nat.le_of_ble_eq_true rfl, Nat.le_of_ble_eq_true rfl⟩ (am_dk tk_X1_turnHourToNeeds 42 rfl)
    · rw [if_neg hc8] at h
      refine am_aload_n (j := 0) (am_dk tk_X1_turnHourToNeeds 7 rfl) rfl rfl ?_
      refine am_iload_n (j := 1) (am_dk tk_X1_turnHourToNeeds 8 rfl) rfl rfl ?_
      refine am_iload_n (j := 3) (am_dk tk_X1_turnHourToNeeds 9 rfl) rfl rfl ?_
      refine am_iconst (v := 0) (am_dk tk_X1_turnHourToNeeds 10 rfl) (by decide) ?_
      refine ly_cV (M := m_X1_place) (As := [.int x1, .int x3, .int 0]) (b := 45) (st := []) (ct_X1_place _ _ _ _) rfl (by decide) rfl ml_X1_115 ld_X1_place rfl ⟨Nat.le_of_ble_eq_true rfl, Nat.le_of_ble_eq_true rfl⟩ (Nat.le_of_ble_eq_true rfl) ⟨rfl, rfl⟩ ⟨Nat.le_of_ble_eq_true rfl, Nat.le_of_ble_eq_true rfl⟩ (am_dk tk_X1_turnHourToNeeds 11 rfl) (am_kki ?_)
      refine am_istore (L' := [(4, .int (f_X1_place x1 x3 0 D)), (0, .ref 45), (1, .int x1), (2, .int x2), (3, .int x3)]) (am_dk tk_X1_turnHourToNeeds 12 rfl) (Nat.le_of_ble_eq_true rfl) rfl ?_
      refine am_iconst (v := 0) (am_dk tk_X1_turnHourToNeeds 13 rfl) (by decide) ?_
      refine am_istore (L' := [(5, .int 0), (4, .int (f_X1_place x1 x3 0 D)), (0, .ref 45), (1, .int x1), (2, .int x2), (3, .int x3)]) (am_dk tk_X1_turnHourToNeeds 14 rfl) (Nat.le_of_ble_eq_true rfl) rfl ?_
      refine am_ls [2, 3, 4, 5, 1, 0] rfl ?_
      exact bx_X1_turnHourToNeeds_23  hΦ (ih) am_N _ _ _ _ _ _ h
theorem ct_X1_turnHourToNeeds {l : Launch} {tw : Nat}  {x1 : Int32} {x2 : Int32} {D D' : am_M} (h : f_X1_turnHourToNeeds x1 x2 D = some D') : am_CT l m_X1_turnHourToNeeds false [.ref 45, .int x1, .int x2] (ly tw true D) (am_is none (ly tw true D')) := by
  have hΦ : am_is none (ly tw true D') none (ly tw true D') := ⟨rfl, rfl⟩
  refine am_CT.of (by decide) (Nat.le_of_ble_eq_true rfl) ?_
  show am_Ex _ _ _ 0 [(0, .ref 45), (1, .int x1), (2, .int x2)] [] _
  rw [f_X1_turnHourToNeeds] at h
  refine am_aload_n (j := 0) (am_dk tk_X1_turnHourToNeeds 0 rfl) rfl rfl ?_
  refine am_iload_n (j := 1) (am_dk tk_X1_turnHourToNeeds 1 rfl) rfl rfl ?_
  refine ly_cV (M := m_X1_leastTired) (As := [.int x1]) (b := 45) (st := []) (ct_X1_leastTired _ _) rfl (by decide) rfl ml_X1_170 ld_X1_leastTired rfl ⟨Nat.le_of_ble_eq_true rfl, Nat.le_of_ble_eq_true rfl⟩ (Nat.le_of_ble_eq_true rfl) ⟨rfl, rfl⟩ ⟨Nat.le_of_ble_eq_true rfl, Nat.le_of_ble_eq_true rfl⟩ (am_dk tk_X1_turnHourToNeeds 2 rfl) (am_kki ?_)
  refine am_istore_n (L' := [(3, .int (f_X1_leastTired x1 D)), (0, .ref 45), (1, .int x1), (2, .int x2)]) (am_dk tk_X1_turnHourToNeeds 3 rfl) rfl (Nat.le_of_ble_eq_true rfl) rfl ?_
  refine am_ls [1, 2, 3, 0] rfl ?_
  exact bx_X1_turnHourToNeeds_6  hΦ am_N _ _ _ _ h
abbrev m_X1_turnToNeeds : am_D := (yX1_turnToNeeds, prog_3_method_24_code, 2, none, { frames := 4, cells := 0, slots := 0, locals := 96 })
theorem ld_X1_turnToNeeds : am_LD m_X1_turnToNeeds 0 := ⟨(am_tb 83 (by decide +kernel) (by decide +kernel)), (am_tb 704 (by decide +kernel) (by decide +kernel)), by decide, by decide, by decide +kernel⟩
def tb_X1_turnToNeeds : List (Nat × Instr × Nat) := [(0, .aload_n 0, 1), (1, .getfield 129, 3), (4, .iconst 1, 1), (5, .isub, 1), (6, .istore_n 1, 1), (7, .iload_n 1, 1), (8, .ifCond .le 19, 3), (11, .aload_n 0, 1), (12, .iload_n 1, 1), (13, .aload_n 0, 1), (14, .iload_n 1, 1), (15, .invokevirtual 163, 3), (18, .invokevirtual 179, 3), (21, .iinc 1 (-1), 3), (24, .goto (-17), 3), (27, .return_, 1)]
theorem tk_X1_turnToNeeds : am_tbl prog_3_method_24_code tb_X1_turnToNeeds = true := by decide +kernel
def b_X1_turnToNeeds_7 : Nat → Int32 → am_M → Option am_M
  | 0, _, _ => none
  | n + 1, x1, D => if x1 ≤ 0 then some D else (f_X1_turnHourToNeeds x1 (f_X1_mostTired x1 D) D).bind fun q18 => b_X1_turnToNeeds_7 n (x1 + (-1)) q18
def f_X1_turnToNeeds (D : am_M) : Option am_M := b_X1_turnToNeeds_7 am_N ((D 45 15) - 1) D
theorem bx_X1_turnToNeeds_7 {l : Launch} {h0 : am_H} {Φ : am_Ph} {tw : Nat}  {D' : am_M} (hΦ : Φ none (ly tw true D')) : ∀ (n : Nat) (x1 : Int32) (D : am_M), b_X1_turnToNeeds_7 n x1 D = some D' → am_Ex (am_E l m_X1_turnToNeeds false h0 Φ) prog_3_method_24_code (0, 0) 7 [(0, .ref 45), (1, .int x1)] [] (ly tw true D) := by
  intro n
  induction n with
  | zero =>
    intro x1 D h
    exact absurd h (by simp [b_X1_turnToNeeds_7])
  | succ n ih =>
    intro x1 D h
    rw [b_X1_turnToNeeds_7] at h
    refine am_iload_n (j := 1) (am_dk tk_X1_turnToNeeds 5 rfl) rfl rfl ?_
    refine am_if_le (tgt := 27) (am_dk tk_X1_turnToNeeds 6 rfl) (by decide) (fun hc8 => ?_) (fun hc8 => ?_)
    · rw [if_pos hc8] at h
      exact am_vret rfl (am_r0 h hΦ) ⟨Nat.le_of_ble_eq_true rfl, Nat.le_of_ble_eq_true rfl⟩ (am_dk tk_X1_turnToNeeds 15 rfl)
    · rw [if_neg hc8] at h
      refine am_aload_n (j := 0) (am_dk tk_X1_turnToNeeds 7 rfl) rfl rfl ?_
      refine am_iload_n (j := 1) (am_dk tk_X1_turnToNeeds 8 rfl) rfl rfl ?_
      refine am_aload_n (j := 0) (am_dk tk_X1_turnToNeeds 9 rfl) rfl rfl ?_
      refine am_iload_n (j := 1) (am_dk tk_X1_turnToNeeds 10 rfl) rfl rfl ?_
      refine ly_cV (M := m_X1_mostTired) (As := [.int x1]) (b := 45) (st := [.int x1, .ref 45]) (ct_X1_mostTired _ _) rfl (by decide) rfl ml_X1_163 ld_X1_mostTired rfl ⟨Nat.le_of_ble_eq_true rfl, Nat.le_of_ble_eq_true rfl⟩ (Nat.le_of_ble_eq_true rfl) ⟨rfl, rfl⟩ ⟨Nat.le_of_ble_eq_true rfl, Nat.le_of_ble_eq_true rfl⟩ (am_dk tk_X1_turnToNeeds 11 rfl) (am_kki ?_)
      obtain ⟨q18, hq18, h⟩ := am_bind h
      refine ly_cV (M := m_X1_turnHourToNeeds) (As := [.int x1, .int (f_X1_mostTired x1 D)]) (b := 45) (st := []) (ct_X1_turnHourToNeeds hq18) rfl (by decide) rfl ml_X1_179 ld_X1_turnHourToNeeds rfl ⟨Nat.le_of_ble_eq_true rfl, Nat.le_of_ble_eq_true rfl⟩ (Nat.le_of_ble_eq_true rfl) ⟨rfl, rfl⟩ ⟨Nat.le_of_ble_eq_true rfl, Nat.le_of_ble_eq_true rfl⟩ (am_dk tk_X1_turnToNeeds 12 rfl) (am_kkv ?_)
      refine am_iinc (j := 1) (v := x1 + (-1)) (L' := [(1, .int (x1 + (-1))), (0, .ref 45)]) (am_dk tk_X1_turnToNeeds 13 rfl) rfl rfl (Nat.le_of_ble_eq_true rfl) rfl ?_
      refine am_goto (tgt := 7) (am_dk tk_X1_turnToNeeds 14 rfl) (by decide) ?_
      refine am_ls [1, 0] rfl ?_
      exact ih _ _ h
theorem ct_X1_turnToNeeds {l : Launch} {tw : Nat}  {D D' : am_M} (h : f_X1_turnToNeeds D = some D') : am_CT l m_X1_turnToNeeds false [.ref 45] (ly tw true D) (am_is none (ly tw true D')) := by
  have hΦ : am_is none (ly tw true D') none (ly tw true D') := ⟨rfl, rfl⟩
  refine am_CT.of (by decide) (Nat.le_of_ble_eq_true rfl) ?_
  show am_Ex _ _ _ 0 [(0, .ref 45)] [] _
  rw [f_X1_turnToNeeds] at h
  refine am_aload_n (j := 0) (am_dk tk_X1_turnToNeeds 0 rfl) rfl rfl ?_
  refine ly_geti rfl fl_X1_129 rfl (am_dk tk_X1_turnToNeeds 1 rfl) ?_
  refine am_iconst (v := 1) (am_dk tk_X1_turnToNeeds 2 rfl) (by decide) ?_
  refine am_isub (am_dk tk_X1_turnToNeeds 3 rfl) ?_
  refine am_istore_n (L' := [(1, .int ((D 45 15) - 1)), (0, .ref 45)]) (am_dk tk_X1_turnToNeeds 4 rfl) rfl (Nat.le_of_ble_eq_true rfl) rfl ?_
  refine am_ls [1, 0] rfl ?_
  exact bx_X1_turnToNeeds_7  hΦ am_N _ _ h
abbrev m_X1_walk : am_D := (yX1_walk, prog_3_method_29_code, 6, none, { frames := 2, cells := 0, slots := 0, locals := 46 })
theorem ld_X1_walk : am_LD m_X1_walk 0 := ⟨(am_tb 83 (by decide +kernel) (by decide +kernel)), (am_tb 724 (by decide +kernel) (by decide +kernel)), by decide, by decide, by decide +kernel⟩
def tb_X1_walk : List (Nat × Instr × Nat) := [(0, .aload_n 0, 1), (1, .getfield 50, 3), (4, .istore_n 1, 1), (5, .aload_n 0, 1), (6, .getfield 55, 3), (9, .aload_n 0, 1), (10, .getfield 87, 3), (13, .iconst 1, 1), (14, .isub, 1), (15, .invokestatic 157, 3), (18, .istore_n 2, 1), (19, .aload_n 0, 1), (20, .getfield 60, 3), (23, .istore_n 3, 1), (24, .iconst 0, 1), (25, .istore 4, 2), (27, .iload 4, 2), (29, .aload_n 0, 1), (30, .getfield 38, 3), (33, .if_icmp .ge 111, 3), (36, .iload_n 1, 1), (37, .ifCond .le 23, 3), (40, .aload_n 0, 1), (41, .iload 4, 2), (43, .iconst 1, 1), (44, .iadd, 1), (45, .iload_n 1, 1), (46, .invokestatic 148, 3), (49, .aload_n 0, 1), (50, .iload_n 2, 1), (51, .invokevirtual 151, 3), (54, .invokevirtual 185, 3), (57, .goto 4, 3), (60, .iconst (-1), 1), (61, .istore 5, 2), (63, .iload 5, 2), (65, .iconst (-1), 1), (66, .if_icmp .eq 47, 3), (69, .aload_n 0, 1), (70, .iload 4, 2), (72, .iload_n 2, 1), (73, .iload_n 3, 1), (74, .invokevirtual 173, 3), (77, .iload 5, 2), (79, .if_icmp .lt 34, 3), (82, .aload_n 0, 1), (83, .getfield 25, 3), (86, .iload 4, 2), (88, .iconst 0, 1), (89, .iastore, 1), (90, .aload_n 0, 1), (91, .iload 4, 2), (93, .iload_n 2, 1), (94, .iload_n 3, 1), (95, .invokevirtual 173, 3), (98, .istore_n 3, 1), (99, .iload_n 1, 1), (100, .invokestatic 148, 3), (103, .istore_n 1, 1), (104, .aload_n 0, 1)]
theorem tk_X1_walk : am_tbl prog_3_method_29_code tb_X1_walk = true := by decide +kernel
def tb_X1_walk_1 : List (Nat × Instr × Nat) := [(105, .iload_n 2, 1), (106, .invokevirtual 151, 3), (109, .istore_n 2, 1), (110, .goto 28, 3), (113, .aload_n 0, 1), (114, .getfield 25, 3), (117, .iload 4, 2), (119, .iconst 1, 1), (120, .iastore, 1), (121, .iload_n 3, 1), (122, .aload_n 0, 1), (123, .getfield 22, 3), (126, .iload 4, 2), (128, .iaload, 1), (129, .isub, 1), (130, .istore_n 3, 1), (131, .iload_n 1, 1), (132, .invokestatic 154, 3), (135, .istore_n 1, 1), (136, .iconst 0, 1), (137, .istore_n 2, 1), (138, .iinc 4 1, 3), (141, .goto (-114), 3), (144, .return_, 1)]
theorem tk_X1_walk_1 : am_tbl prog_3_method_29_code tb_X1_walk_1 = true := by decide +kernel
def b_X1_walk_113 (k27 : Int32 → Int32 → Int32 → Int32 → am_M → Option am_M) (x1 : Int32) (x3 : Int32) (x4 : Int32) (D : am_M) : Option am_M := if am_in x4 48 = true then k27 (f_X1_tiredByWork x1) 0 (x3 - ((am_up D 49 x4.toNatClampNeg 1) 48 x4.toNatClampNeg)) (x4 + 1) (am_up D 49 x4.toNatClampNeg 1) else none
def b_X1_walk_61 (k27 : Int32 → Int32 → Int32 → Int32 → am_M → Option am_M) (x1 : Int32) (x2 : Int32) (x3 : Int32) (x4 : Int32) (s0 : Int32) (D : am_M) : Option am_M := if s0 = (-1) then b_X1_walk_113 k27 x1 x3 x4 D else (f_X1_purseAsleep x4 x2 x3 D).bind fun q74 => if q74.1 < s0 then b_X1_walk_113 k27 x1 x3 x4 q74.2 else if am_in x4 48 = true then (f_X1_purseAsleep x4 x2 x3 (am_up q74.2 49 x4.toNatClampNeg 0)).bind fun q95 => k27 (f_X1_easedBySleep x1) (f_X1_longerSleep x2 q95.2) q95.1 (x4 + 1) q95.2 else none
def b_X1_walk_27 : Nat → Int32 → Int32 → Int32 → Int32 → am_M → Option am_M
  | 0, _, _, _, _, _ => none
  | n + 1, x1, x2, x3, x4, D => if (D 45 7) ≤ x4 then some D else if x1 ≤ 0 then b_X1_walk_61 (b_X1_walk_27 n) x1 x2 x3 x4 (-1) D else (f_X1_needAt (x4 + 1) (f_X1_easedBySleep x1) (f_X1_longerSleep x2 D) D).bind fun q54 => b_X1_walk_61 (b_X1_walk_27 n) x1 x2 x3 x4 q54.1 q54.2
def f_X1_walk (D : am_M) : Option am_M := b_X1_walk_27 am_N (D 45 9) (am_min (D 45 10) ((D 45 12) - 1)) (D 45 11) 0 D
theorem bx_X1_walk_113 {l : Launch} {h0 : am_H} {Φ : am_Ph} {tw : Nat}  {D' : am_M} (hΦ : Φ none (ly tw true D')) {k27 : Int32 → Int32 → Int32 → Int32 → am_M → Option am_M} (hk27 : ∀ (x1 : Int32) (x2 : Int32) (x3 : Int32) (x4 : Int32) (D : am_M), k27 x1 x2 x3 x4 D = some D' → am_Ex (am_E l m_X1_walk false h0 Φ) prog_3_method_29_code (0, 0) 27 [(0, .ref 45), (1, .int x1), (2, .int x2), (3, .int x3), (4, .int x4)] [] (ly tw true D)) : ∀ (x1 : Int32) (x3 : Int32) (x4 : Int32) (D : am_M), b_X1_walk_113 k27 x1 x3 x4 D = some D' → am_Ex (am_E l m_X1_walk false h0 Φ) prog_3_method_29_code (0, 0) 113 [(0, .ref 45), (1, .int x1), (3, .int x3), (4, .int x4)] [] (ly tw true D) := by
  intro x1 x3 x4 D h
  rw [b_X1_walk_113] at h
  refine am_aload_n (j := 0) (am_dk tk_X1_walk_1 4 rfl) rfl rfl ?_
  refine ly_getr (b := 49) rfl fl_X1_25 rfl rfl (am_dk tk_X1_walk_1 5 rfl) ?_
  refine am_iload (j := 3) (am_dk tk_X1_walk_1 6 rfl) rfl ?_
  refine am_iconst (v := 1) (am_dk tk_X1_walk_1 7 rfl) (by decide) ?_
  obtain ⟨hi120, h⟩ := am_chk h
  refine ly_iast (k := x4.toNatClampNeg) rfl (am_in_vp hi120) rfl (am_dk tk_X1_walk_1 8 rfl) ?_
  refine am_iload_n (j := 2) (am_dk tk_X1_walk_1 9 rfl) rfl rfl ?_
  refine am_aload_n (j := 0) (am_dk tk_X1_walk_1 10 rfl) rfl rfl ?_
  refine ly_getr (b := 48) rfl fl_X1_22 rfl rfl (am_dk tk_X1_walk_1 11 rfl) ?_
  refine am_iload (j := 3) (am_dk tk_X1_walk_1 12 rfl) rfl ?_
  refine ly_iald (k := x4.toNatClampNeg) rfl (am_in_vp hi120) rfl (am_dk tk_X1_walk_1 13 rfl) ?_
  refine am_isub (am_dk tk_X1_walk_1 14 rfl) ?_
  refine am_istore_n (L' := [(3, .int (x3 - ((am_up D 49 x4.toNatClampNeg 1) 48 x4.toNatClampNeg))), (0, .ref 45), (1, .int x1), (4, .int x4)]) (am_dk tk_X1_walk_1 15 rfl) rfl (Nat.le_of_ble_eq_true rfl) rfl ?_
  refine am_iload_n (j := 2) (am_dk tk_X1_walk_1 16 rfl) rfl rfl ?_
  refine am_cS (M := m_X1_tiredByWork) (As := [.int x1]) (st := []) (ct_X1_tiredByWork _ _) ml_X1_154 ld_X1_tiredByWork rfl ⟨Nat.le_of_ble_eq_true rfl, Nat.le_of_ble_eq_true rfl⟩ (Nat.le_of_ble_eq_true rfl) ⟨rfl, rfl⟩ ⟨Nat.le_of_ble_eq_true rfl, Nat.le_of_ble_eq_true rfl⟩ (am_dk tk_X1_walk_1 17 rfl) (am_kki ?_)
  refine am_istore_n (L' := [(1, .int (f_X1_tiredByWork x1)), (3, .int (x3 - ((am_up D 49 x4.toNatClampNeg 1) 48 x4.toNatClampNeg))), (0, .ref 45), (4, .int x4)]) (am_dk tk_X1_walk_1 18 rfl) rfl (Nat.le_of_ble_eq_true rfl) rfl ?_
  refine am_iconst (v := 0) (am_dk tk_X1_walk_1 19 rfl) (by decide) ?_
  refine am_istore_n (L' := [(2, .int 0), (1, .int (f_X1_tiredByWork x1)), (3, .int (x3 - ((am_up D 49 x4.toNatClampNeg 1) 48 x4.toNatClampNeg))), (0, .ref 45), (4, .int x4)]) (am_dk tk_X1_walk_1 20 rfl) rfl (Nat.le_of_ble_eq_true rfl) rfl ?_
  refine am_iinc (j := 4) (v := x4 + 1) (L' := [(4, .int (x4 + 1)), (2, .int 0), (1, .int (f_X1_tiredByWork x1)), (3, .int (x3 - ((am_up D 49 x4.toNatClampNeg 1) 48 x4.toNatClampNeg))), (0, .ref 45)]) (am_dk tk_X1_walk_1 21 rfl) rfl rfl (Nat.le_of_ble_eq_true rfl) rfl ?_
  refine am_goto (tgt := 27) (am_dk tk_X1_walk_1 22 rfl) (by decide) ?_
  refine am_ls [4, 2, 1, 3, 0] rfl ?_
  exact hk27 _ _ _ _ _ h
theorem bx_X1_walk_61 {l : Launch} {h0 : am_H} {Φ : am_Ph} {tw : Nat}  {D' : am_M} (hΦ : Φ none (ly tw true D')) {k27 : Int32 → Int32 → Int32 → Int32 → am_M → Option am_M} (hk27 : ∀ (x1 : Int32) (x2 : Int32) (x3 : Int32) (x4 : Int32) (D : am_M), k27 x1 x2 x3 x4 D = some D' → am_Ex (am_E l m_X1_walk false h0 Φ) prog_3_method_29_code (0, 0) 27 [(0, .ref 45), (1, .int x1), (2, .int x2), (3, .int x3), (4, .int x4)] [] (ly tw true D)) : ∀ (x1 : Int32) (x2 : Int32) (x3 : Int32) (x4 : Int32) (s0 : Int32) (D : am_M), b_X1_walk_61 k27 x1 x2 x3 x4 s0 D = some D' → am_Ex (am_E l m_X1_walk false h0 Φ) prog_3_method_29_code (0, 0) 61 [(0, .ref 45), (1, .int x1), (2, .int x2), (3, .int x3), (4, .int x4)] [.int s0] (ly tw true D) := by
  intro x1 x2 x3 x4 s0 D h
  rw [b_X1_walk_61] at h
  refine am_istore (L' := [(5, .int s0), (0, .ref 45), (1, .int x1), (2, .int x2), (3, .int x3), (4, .int x4)]) (am_dk tk_X1_walk 34 rfl) (Nat.le_of_ble_eq_true rfl) rfl ?_
  refine am_iload (j := 0) (am_dk tk_X1_walk 35 rfl) rfl ?_
  refine am_iconst (v := (-1)) (am_dk tk_X1_walk 36 rfl) (by decide) ?_
  refine am_icmp_eq (tgt := 113) (am_dk tk_X1_walk 37 rfl) (by decide) (fun hc66 => ?_) (fun hc66 => ?_)
  · rw [if_pos hc66] at h
    refine am_ls [1, 2, 4, 5] rfl ?_
    exact bx_X1_walk_113  hΦ hk27 _ _ _ _ h
  · rw [if_neg hc66] at h
    refine am_aload_n (j := 1) (am_dk tk_X1_walk 38 rfl) rfl rfl ?_
    refine am_iload (j := 5) (am_dk tk_X1_walk 39 rfl) rfl ?_
    refine am_iload_n (j := 3) (am_dk tk_X1_walk 40 rfl) rfl rfl ?_
    refine am_iload_n (j := 4) (am_dk tk_X1_walk 41 rfl) rfl rfl ?_
    obtain ⟨q74, hq74, h⟩ := am_bind h
    refine ly_cV (M := m_X1_purseAsleep) (As := [.int x4, .int x2, .int x3]) (b := 45) (st := []) (ct_X1_purseAsleep hq74) rfl (by decide) rfl ml_X1_173 ld_X1_purseAsleep rfl ⟨Nat.le_of_ble_eq_true rfl, Nat.le_of_ble_eq_true rfl⟩ (Nat.le_of_ble_eq_true rfl) ⟨rfl, rfl⟩ ⟨Nat.le_of_ble_eq_true rfl, Nat.le_of_ble_eq_true rfl⟩ (am_dk tk_X1_walk 42 rfl) (am_kki ?_)
    refine am_iload (j := 0) (am_dk tk_X1_walk 43 rfl) rfl ?_
    refine am_icmp_lt (tgt := 113) (am_dk tk_X1_walk 44 rfl) (by decide) (fun hc79 => ?_) (fun hc79 => ?_)
    · rw [if_pos hc79] at h
      refine am_ls [1, 2, 4, 5] rfl ?_
      exact bx_X1_walk_113  hΦ hk27 _ _ _ _ h
    · rw [if_neg hc79] at h
      refine am_aload_n (j := 1) (am_dk tk_X1_walk 45 rfl) rfl rfl ?_
      refine ly_getr (b := 49) rfl fl_X1_25 rfl rfl (am_dk tk_X1_walk 46 rfl) ?_
      refine am_iload (j := 5) (am_dk tk_X1_walk 47 rfl) rfl ?_
      refine am_iconst (v := 0) (am_dk tk_X1_walk 48 rfl) (by decide) ?_
      obtain ⟨hi89, h⟩ := am_chk h
      refine ly_iast (k := x4.toNatClampNeg) rfl (am_in_vp hi89) rfl (am_dk tk_X1_walk 49 rfl) ?_
      refine am_aload_n (j := 1) (am_dk tk_X1_walk 50 rfl) rfl rfl ?_
      refine am_iload (j := 5) (am_dk tk_X1_walk 51 rfl) rfl ?_
      refine am_iload_n (j := 3) (am_dk tk_X1_walk 52 rfl) rfl rfl ?_
      refine am_iload_n (j := 4) (am_dk tk_X1_walk 53 rfl) rfl rfl ?_
      obtain ⟨q95, hq95, h⟩ := am_bind h
      refine ly_cV (M := m_X1_purseAsleep) (As := [.int x4, .int x2, .int x3]) (b := 45) (st := []) (ct_X1_purseAsleep hq95) rfl (by decide) rfl ml_X1_173 ld_X1_purseAsleep rfl ⟨Nat.le_of_ble_eq_true rfl, Nat.le_of_ble_eq_true rfl⟩ (Nat.le_of_ble_eq_true rfl) ⟨rfl, rfl⟩ ⟨Nat.le_of_ble_eq_true rfl, Nat.le_of_ble_eq_true rfl⟩ (am_dk tk_X1_walk 54 rfl) (am_kki ?_)
      refine am_istore_n (L' := [(3, .int q95.1), (5, .int s0), (0, .ref 45), (1, .int x1), (2, .int x2), (4, .int x4)]) (am_dk tk_X1_walk 55 rfl) rfl (Nat.le_of_ble_eq_true rfl) rfl ?_
      refine am_iload_n (j := 3) (am_dk tk_X1_walk 56 rfl) rfl rfl ?_
      refine am_cS (M := m_X1_easedBySleep) (As := [.int x1]) (st := []) (ct_X1_easedBySleep _ _) ml_X1_148 ld_X1_easedBySleep rfl ⟨Nat.le_of_ble_eq_true rfl, Nat.le_of_ble_eq_true rfl⟩ (Nat.le_of_ble_eq_true rfl) ⟨rfl, rfl⟩ ⟨Nat.le_of_ble_eq_true rfl, Nat.le_of_ble_eq_true rfl⟩ (am_dk tk_X1_walk 57 rfl) (am_kki ?_)
      refine am_istore_n (L' := [(1, .int (f_X1_easedBySleep x1)), (3, .int q95.1), (5, .int s0), (0, .ref 45), (2, .int x2), (4, .int x4)]) (am_dk tk_X1_walk 58 rfl) rfl (Nat.le_of_ble_eq_true rfl) rfl ?_
      refine am_aload_n (j := 3) (am_dk tk_X1_walk 59 rfl) rfl rfl ?_
      refine am_iload_n (j := 4) (am_dk tk_X1_walk_1 0 rfl) rfl rfl ?_
      refine ly_cV (M := m_X1_longerSleep) (As := [.int x2]) (b := 45) (st := []) (ct_X1_longerSleep _ _) rfl (by decide) rfl ml_X1_151 ld_X1_longerSleep rfl ⟨Nat.le_of_ble_eq_true rfl, Nat.le_of_ble_eq_true rfl⟩ (Nat.le_of_ble_eq_true rfl) ⟨rfl, rfl⟩ ⟨Nat.le_of_ble_eq_true rfl, Nat.le_of_ble_eq_true rfl⟩ (am_dk tk_X1_walk_1 1 rfl) (am_kki ?_)
      refine am_istore_n (L' := [(2, .int (f_X1_longerSleep x2 q95.2)), (1, .int (f_X1_easedBySleep x1)), (3, .int q95.1), (5, .int s0), (0, .ref 45), (4, .int x4)]) (am_dk tk_X1_walk_1 2 rfl) rfl (Nat.le_of_ble_eq_true rfl) rfl ?_
      refine am_goto (tgt := 138) (am_dk tk_X1_walk_1 3 rfl) (by decide) ?_
      refine am_iinc (j := 5) (v := x4 + 1) (L' := [(4, .int (x4 + 1)), (2, .int (f_X1_longerSleep x2 q95.2)), (1, .int (f_X1_easedBySleep x1)), (3, .int q95.1), (5, .int s0), (0, .ref 45)]) (am_dk tk_X1_walk_1 21 rfl) rfl rfl (Nat.le_of_ble_eq_true rfl) rfl ?_
      refine am_goto (tgt := 27) (am_dk tk_X1_walk_1 22 rfl) (by decide) ?_
      refine am_ls [5, 2, 1, 3, 0] rfl ?_
      exact hk27 _ _ _ _ _ h
theorem bx_X1_walk_27 {l : Launch} {h0 : am_H} {Φ : am_Ph} {tw : Nat}  {D' : am_M} (hΦ : Φ none (ly tw true D')) : ∀ (n : Nat) (x1 : Int32) (x2 : Int32) (x3 : Int32) (x4 : Int32) (D : am_M), b_X1_walk_27 n x1 x2 x3 x4 D = some D' → am_Ex (am_E l m_X1_walk false h0 Φ) prog_3_method_29_code (0, 0) 27 [(0, .ref 45), (1, .int x1), (2, .int x2), (3, .int x3), (4, .int x4)] [] (ly tw true D) := by
  intro n
  induction n with
  | zero =>
    intro x1 x2 x3 x4 D h
    exact absurd h (by simp [b_X1_walk_27])
  | succ n ih =>
    intro x1 x2 x3 x4 D h
    rw [b_X1_walk_27] at h
    refine am_iload (j := 4) (am_dk tk_X1_walk 16 rfl) rfl ?_
    refine am_aload_n (j := 0) (am_dk tk_X1_walk 17 rfl) rfl rfl ?_
    refine ly_geti rfl fl_X1_38 rfl (am_dk tk_X1_walk 18 rfl) ?_
    refine am_icmp_ge (tgt := 144) (am_dk tk_X1_walk 19 rfl) (by decide) (fun hc33 => ?_) (fun hc33 => ?_)
    · rw [if_pos hc33] at h
      exact am_vret rfl (am_r0 h hΦ) ⟨Nat.le_of_ble_eq_true rfl, Nat.le_of_ble_eq_true rfl⟩ (am_dk tk_X1_walk_1 23 rfl)
    · rw [if_neg hc33] at h
      refine am_iload_n (j := 1) (am_dk tk_X1_walk 20 rfl) rfl rfl ?_
      refine am_if_le (tgt := 60) (am_dk tk_X1_walk 21 rfl) (by decide) (fun hc37 => ?_) (fun hc37 => ?_)
      · rw [if_pos hc37] at h
        refine am_iconst (v := (-1)) (am_dk tk_X1_walk 33 rfl) (by decide) ?_
        exact bx_X1_walk_61  hΦ (ih) _ _ _ _ _ _ h
      · rw [if_neg hc37] at h
        refine am_aload_n (j := 0) (am_dk tk_X1_walk 22 rfl) rfl rfl ?_
        refine am_iload (j := 4) (am_dk tk_X1_walk 23 rfl) rfl ?_
        refine am_iconst (v := 1) (am_dk tk_X1_walk 24 rfl) (by decide) ?_
        refine am_iadd (am_dk tk_X1_walk 25 rfl) ?_
        refine am_iload_n (j := 1) (am_dk tk_X1_walk 26 rfl) rfl rfl ?_
        refine am_cS (M := m_X1_easedBySleep) (As := [.int x1]) (st := [.int (x4 + 1), .ref 45]) (ct_X1_easedBySleep _ _) ml_X1_148 ld_X1_easedBySleep rfl ⟨Nat.le_of_ble_eq_true rfl, Nat.le_of_ble_eq_true rfl⟩ (Nat.le_of_ble_eq_true rfl) ⟨rfl, rfl⟩ ⟨Nat.le_of_ble_eq_true rfl, Nat.le_of_ble_eq_true rfl⟩ (am_dk tk_X1_walk 27 rfl) (am_kki ?_)
        refine am_aload_n (j := 0) (am_dk tk_X1_walk 28 rfl) rfl rfl ?_
        refine am_iload_n (j := 2) (am_dk tk_X1_walk 29 rfl) rfl rfl ?_
        refine ly_cV (M := m_X1_longerSleep) (As := [.int x2]) (b := 45) (st := [.int (f_X1_easedBySleep x1), .int (x4 + 1), .ref 45]) (ct_X1_longerSleep _ _) rfl (by decide) rfl ml_X1_151 ld_X1_longerSleep rfl ⟨Nat.le_of_ble_eq_true rfl, Nat.le_of_ble_eq_true rfl⟩ (Nat.le_of_ble_eq_true rfl) ⟨rfl, rfl⟩ ⟨Nat.le_of_ble_eq_true rfl, Nat.le_of_ble_eq_true rfl⟩ (am_dk tk_X1_walk 30 rfl) (am_kki ?_)
        obtain ⟨q54, hq54, h⟩ := am_bind h
        refine ly_cV (M := m_X1_needAt) (As := [.int (x4 + 1), .int (f_X1_easedBySleep x1), .int (f_X1_longerSleep x2 D)]) (b := 45) (st := []) (ct_X1_needAt hq54) rfl (by decide) rfl ml_X1_185 ld_X1_needAt rfl ⟨Nat.le_of_ble_eq_true rfl, Nat.le_of_ble_eq_true rfl⟩ (Nat.le_of_ble_eq_true rfl) ⟨rfl, rfl⟩ ⟨Nat.le_of_ble_eq_true rfl, Nat.le_of_ble_eq_true rfl⟩ (am_dk tk_X1_walk 31 rfl) (am_kki ?_)
        refine am_goto (tgt := 61) (am_dk tk_X1_walk 32 rfl) (by decide) ?_
        exact bx_X1_walk_61  hΦ (ih) _ _ _ _ _ _ h
theorem ct_X1_walk {l : Launch} {tw : Nat}  {D D' : am_M} (h : f_X1_walk D = some D') : am_CT l m_X1_walk false [.ref 45] (ly tw true D) (am_is none (ly tw true D')) := by
  have hΦ : am_is none (ly tw true D') none (ly tw true D') := ⟨rfl, rfl⟩
  refine am_CT.of (by decide) (Nat.le_of_ble_eq_true rfl) ?_
  show am_Ex _ _ _ 0 [(0, .ref 45)] [] _
  rw [f_X1_walk] at h
  refine am_aload_n (j := 0) (am_dk tk_X1_walk 0 rfl) rfl rfl ?_
  refine ly_geti rfl fl_X1_50 rfl (am_dk tk_X1_walk 1 rfl) ?_
  refine am_istore_n (L' := [(1, .int (D 45 9)), (0, .ref 45)]) (am_dk tk_X1_walk 2 rfl) rfl (Nat.le_of_ble_eq_true rfl) rfl ?_
  refine am_aload_n (j := 1) (am_dk tk_X1_walk 3 rfl) rfl rfl ?_
  refine ly_geti rfl fl_X1_55 rfl (am_dk tk_X1_walk 4 rfl) ?_
  refine am_aload_n (j := 1) (am_dk tk_X1_walk 5 rfl) rfl rfl ?_
  refine ly_geti rfl fl_X1_87 rfl (am_dk tk_X1_walk 6 rfl) ?_
  refine am_iconst (v := 1) (am_dk tk_X1_walk 7 rfl) (by decide) ?_
  refine am_isub (am_dk tk_X1_walk 8 rfl) ?_
  refine am_mmin lm_X1_157 (Nat.le_of_ble_eq_true rfl) (Nat.le_of_ble_eq_true rfl) ⟨Nat.le_of_ble_eq_true rfl, Nat.le_of_ble_eq_true rfl⟩ (am_dk tk_X1_walk 9 rfl) ?_
  refine am_istore_n (L' := [(2, .int (am_min (D 45 10) ((D 45 12) - 1))), (1, .int (D 45 9)), (0, .ref 45)]) (am_dk tk_X1_walk 10 rfl) rfl (Nat.le_of_ble_eq_true rfl) rfl ?_
  refine am_aload_n (j := 2) (am_dk tk_X1_walk 11 rfl) rfl rfl ?_
  refine ly_geti rfl fl_X1_60 rfl (am_dk tk_X1_walk 12 rfl) ?_
  refine am_istore_n (L' := [(3, .int (D 45 11)), (2, .int (am_min (D 45 10) ((D 45 12) - 1))), (1, .int (D 45 9)), (0, .ref 45)]) (am_dk tk_X1_walk 13 rfl) rfl (Nat.le_of_ble_eq_true rfl) rfl ?_
  refine am_iconst (v := 0) (am_dk tk_X1_walk 14 rfl) (by decide) ?_
  refine am_istore (L' := [(4, .int 0), (3, .int (D 45 11)), (2, .int (am_min (D 45 10) ((D 45 12) - 1))), (1, .int (D 45 9)), (0, .ref 45)]) (am_dk tk_X1_walk 15 rfl) (Nat.le_of_ble_eq_true rfl) rfl ?_
  refine am_ls [4, 3, 2, 1, 0] rfl ?_
  exact bx_X1_walk_27  hΦ am_N _ _ _ _ _ h
abbrev m_X1_prepareTables : am_D := (yX1_prepareTables, prog_3_method_5_code, 2, none, { frames := 4, cells := 2, slots := 88200, locals := 82 })
theorem ld_X1_prepareTables : am_LD m_X1_prepareTables 1 := ⟨(am_tb 83 (by decide +kernel) (by decide +kernel)), (am_tb 625 (by decide +kernel) (by decide +kernel)), by decide, by decide, by decide +kernel⟩
def tb_X1_prepareTables : List (Nat × Instr × Nat) := [(0, .aload_n 0, 1), (1, .aload_n 1, 1), (2, .getfield 82, 3), (5, .putfield 87, 3), (8, .aload_n 0, 1), (9, .aload_n 1, 1), (10, .getfield 88, 3), (13, .putfield 91, 3), (16, .aload_n 0, 1), (17, .bipush 100, 2), (19, .aload_n 0, 1), (20, .getfield 87, 3), (23, .imul, 1), (24, .putfield 92, 3), (27, .aload_n 0, 1), (28, .getfield 9, 3), (31, .arraylength, 1), (32, .ifCond .ne 19, 3), (35, .aload_n 0, 1), (36, .ldc 95, 2), (38, .newarray .int, 2), (40, .putfield 9, 3), (43, .aload_n 0, 1), (44, .ldc 95, 2), (46, .newarray .int, 2), (48, .putfield 15, 3), (51, .aload_n 0, 1), (52, .getfield 18, 3), (55, .ifCond .ne 7, 3), (58, .aload_n 0, 1), (59, .invokevirtual 96, 3), (62, .aload_n 0, 1), (63, .getfield 18, 3), (66, .aload_n 0, 1), (67, .getfield 38, 3), (70, .if_icmp .ge 24, 3), (73, .aload_n 0, 1), (74, .dup, 1), (75, .getfield 18, 3), (78, .iconst 1, 1), (79, .iadd, 1), (80, .putfield 18, 3), (83, .aload_n 0, 1), (84, .aload_n 0, 1), (85, .getfield 18, 3), (88, .invokevirtual 99, 3), (91, .goto (-29), 3), (94, .return_, 1)]
theorem tk_X1_prepareTables : am_tbl prog_3_method_5_code tb_X1_prepareTables = true := by decide +kernel
theorem mk_tables {l : Launch} {h0 : am_H} {Φ : am_Ph} {tw : Nat} {D : am_M} (hle : h0.1.length ≤ 83) (k : am_Ex (am_E l m_X1_prepareTables true h0 Φ) prog_3_method_5_code (2, 88200) 51 [(0, .ref 45)] [] (ly tw true (am_row (am_row D 83 (fun _ => 0)) 84 (fun _ => 0)))) : am_Ex (am_E l m_X1_prepareTables true h0 Φ) prog_3_method_5_code (0, 0) 35 [(0, .ref 45)] [] (ly tw false D) := by
  refine am_aload_n (j := 0) (am_dk tk_X1_prepareTables 18 rfl) rfl rfl ?_
  refine am_ldc kc_X1_95 (am_dk tk_X1_prepareTables 19 rfl) ?_
  refine am_newa (t := 0) (N := 44100) (ty := .int) rfl (Or.inl ⟨rfl, rfl⟩) rfl hle (Nat.le_of_ble_eq_true rfl) rfl rfl (am_tb 149 (by decide +kernel) (by decide +kernel)) (by decide) (by decide) (by decide) ⟨Nat.le_of_ble_eq_true rfl, Nat.le_of_ble_eq_true rfl⟩ (am_dk tk_X1_prepareTables 20 rfl) ?_
  refine am_putr (b := 83) (c := 1) (z := 0) (k := 0) (Nat.le_of_ble_eq_true rfl) rfl fl_X1_9 rfl rfl rfl (am_dk tk_X1_prepareTables 21 rfl) ?_
  refine am_aload_n (j := 0) (am_dk tk_X1_prepareTables 22 rfl) rfl rfl ?_
  refine am_ldc kc_X1_95 (am_dk tk_X1_prepareTables 23 rfl) ?_
  refine am_newa (t := 0) (N := 44100) (ty := .int) rfl (Or.inl ⟨rfl, rfl⟩) rfl (Nat.le_trans hle (Nat.le_of_ble_eq_true rfl)) (Nat.le_of_ble_eq_true rfl) rfl rfl (am_tb 149 (by decide +kernel) (by decide +kernel)) (by decide) (by decide) (by decide) ⟨Nat.le_of_ble_eq_true rfl, Nat.le_of_ble_eq_true rfl⟩ (am_dk tk_X1_prepareTables 24 rfl) ?_
  refine am_putr (b := 84) (c := 1) (z := 0) (k := 1) (Nat.le_of_ble_eq_true rfl) rfl fl_X1_15 rfl rfl rfl (am_dk tk_X1_prepareTables 25 rfl) ?_
  refine am_h (h' := ly tw true (am_row (am_row D 83 (fun _ => 0)) 84 (fun _ => 0))) ?_ k
  refine Prod.ext rfl (Prod.ext ?_ rfl)
  funext a j
  show am_upR (fun a' j' => if a' = 84 then none else am_upR (fun a2 j2 => if a2 = 83 then none else lyR tw false a2 j2) 45 0 (some 83) a' j') 45 1 (some 84) a j = lyR tw true a j
  by_cases h1 : a = 45 ∧ j = 0
  · obtain ⟨rfl, rfl⟩ := h1
    rfl
  · by_cases h2 : a = 45 ∧ j = 1
    · obtain ⟨rfl, rfl⟩ := h2
      rfl
    · by_cases h3 : a = 84
      · subst h3
        simp [am_upR, lyR, lyR0]
      · by_cases h4 : a = 83
        · subst h4
          simp [am_upR, lyR, lyR0]
        · simp [am_upR, lyR, h1, h2, h3, h4]
def b_X1_prepareTables_62 (T : Nat) : Nat → am_M → Option am_M
  | 0, _ => none
  | n + 1, D => if (D 45 7) ≤ (D 45 2) then some D else (f_X1_learnEarnings ((am_up D 45 2 ((D 45 2) + 1)) 45 2) (am_up D 45 2 ((D 45 2) + 1))).bind fun q88 => b_X1_prepareTables_62 T n q88
def b_X1_prepareTables_51 (T : Nat) (D : am_M) : Option am_M := if (D 45 2) = 0 then (f_X1_clearLastEarnings D).bind fun q59 => b_X1_prepareTables_62 T am_N q59 else b_X1_prepareTables_62 T am_N D
theorem bx_X1_prepareTables_62 {l : Launch} {h0 : am_H} {Φ : am_Ph} {tw : Nat} {T : Nat} (hT : lyT T) {D' : am_M} (hΦ : Φ none (ly tw true D')) {cs : Nat × Nat} (hcs : cs.1 ≤ 2 ∧ cs.2 ≤ 88200) : ∀ (n : Nat) (D : am_M), b_X1_prepareTables_62 T n D = some D' → am_Ex (am_E l m_X1_prepareTables true h0 Φ) prog_3_method_5_code cs 62 [(0, .ref 45)] [] (ly tw true D) := by
  intro n
  induction n with
  | zero =>
    intro D h
    exact absurd h (by simp [b_X1_prepareTables_62])
  | succ n ih =>
    intro D h
    rw [b_X1_prepareTables_62] at h
    refine am_aload_n (j := 0) (am_dk tk_X1_prepareTables 31 rfl) rfl rfl ?_
    refine ly_geti rfl fl_X1_18 rfl (am_dk tk_X1_prepareTables 32 rfl) ?_
    refine am_aload_n (j := 0) (am_dk tk_X1_prepareTables 33 rfl) rfl rfl ?_
    refine ly_geti rfl fl_X1_38 rfl (am_dk tk_X1_prepareTables 34 rfl) ?_
    refine am_icmp_ge (tgt := 94) (am_dk tk_X1_prepareTables 35 rfl) (by decide) (fun hc70 => ?_) (fun hc70 => ?_)
    · rw [if_pos hc70] at h
      exact am_vret rfl (am_r0 h hΦ) hcs (am_dk tk_X1_prepareTables 47 rfl)
    · rw [if_neg hc70] at h
      refine am_aload_n (j := 0) (am_dk tk_X1_prepareTables 36 rfl) rfl rfl ?_
      refine am_dup (am_dk tk_X1_prepareTables 37 rfl) rfl ?_
      refine ly_geti rfl fl_X1_18 rfl (am_dk tk_X1_prepareTables 38 rfl) ?_
      refine am_iconst (v := 1) (am_dk tk_X1_prepareTables 39 rfl) (by decide) ?_
      refine am_iadd (am_dk tk_X1_prepareTables 40 rfl) ?_
      refine ly_puti rfl fl_X1_18 rfl rfl (am_dk tk_X1_prepareTables 41 rfl) ?_
      refine am_aload_n (j := 0) (am_dk tk_X1_prepareTables 42 rfl) rfl rfl ?_
      refine am_aload_n (j := 0) (am_dk tk_X1_prepareTables 43 rfl) rfl rfl ?_
      refine ly_geti rfl fl_X1_18 rfl (am_dk tk_X1_prepareTables 44 rfl) ?_
      obtain ⟨q88, hq88, h⟩ := am_bind h
      refine ly_cV (M := m_X1_learnEarnings) (As := [.int ((am_up D 45 2 ((D 45 2) + 1)) 45 2)]) (b := 45) (st := []) (ct_X1_learnEarnings hq88) rfl (by decide) rfl ml_X1_99 ld_X1_learnEarnings rfl ⟨Nat.le_of_ble_eq_true rfl, Nat.le_of_ble_eq_true rfl⟩ (Nat.le_of_ble_eq_true rfl) ⟨rfl, rfl⟩ hcs (am_dk tk_X1_prepareTables 45 rfl) (am_kkv ?_)
      refine am_goto (tgt := 62) (am_dk tk_X1_prepareTables 46 rfl) (by decide) ?_
      exact ih _ h
theorem bx_X1_prepareTables_51 {l : Launch} {h0 : am_H} {Φ : am_Ph} {tw : Nat} {T : Nat} (hT : lyT T) {D' : am_M} (hΦ : Φ none (ly tw true D')) {cs : Nat × Nat} (hcs : cs.1 ≤ 2 ∧ cs.2 ≤ 88200) : ∀ (D : am_M), b_X1_prepareTables_51 T D = some D' → am_Ex (am_E l m_X1_prepareTables true h0 Φ) prog_3_method_5_code cs 51 [(0, .ref 45)] [] (ly tw true D) := by
  intro D h
  rw [b_X1_prepareTables_51] at h
  refine am_aload_n (j := 0) (am_dk tk_X1_prepareTables 26 rfl) rfl rfl ?_
  refine ly_geti rfl fl_X1_18 rfl (am_dk tk_X1_prepareTables 27 rfl) ?_
  refine am_if_ne (tgt := 62) (am_dk tk_X1_prepareTables 28 rfl) (by decide) (fun hc55 => ?_) (fun hc55 => ?_)
  · rw [if_neg hc55] at h
    exact bx_X1_prepareTables_62 hT hΦ hcs am_N _ h
  · rw [if_pos hc55] at h
    refine am_aload_n (j := 0) (am_dk tk_X1_prepareTables 29 rfl) rfl rfl ?_
    obtain ⟨q59, hq59, h⟩ := am_bind h
    refine ly_cV (M := m_X1_clearLastEarnings) (As := []) (b := 45) (st := []) (ct_X1_clearLastEarnings hq59) rfl (by decide) rfl ml_X1_96 ld_X1_clearLastEarnings rfl ⟨Nat.le_of_ble_eq_true rfl, Nat.le_of_ble_eq_true rfl⟩ (Nat.le_of_ble_eq_true rfl) ⟨rfl, rfl⟩ hcs (am_dk tk_X1_prepareTables 30 rfl) (am_kkv ?_)
    exact bx_X1_prepareTables_62 hT hΦ hcs am_N _ h
def f_X1_prepareTablesT (T : Nat) (D : am_M) : Option am_M := b_X1_prepareTables_51 T (am_up (am_up (am_up D 45 12 (D T 1)) 45 13 ((am_up D 45 12 (D T 1)) T 2)) 45 14 (100 * ((am_up (am_up D 45 12 (D T 1)) 45 13 ((am_up D 45 12 (D T 1)) T 2)) 45 12)))
theorem ct_X1_prepareTablesT {l : Launch} {tw : Nat} {T : Nat} (hT : lyT T) {D D' : am_M} (h : f_X1_prepareTablesT T D = some D') : am_CT l m_X1_prepareTables true [.ref 45, .ref T] (ly tw true D) (am_is none (ly tw true D')) := by
  have hΦ : am_is none (ly tw true D') none (ly tw true D') := ⟨rfl, rfl⟩
  refine am_CT.of (by decide) (Nat.le_of_ble_eq_true rfl) ?_
  show am_Ex _ _ _ 0 [(0, .ref 45), (1, .ref T)] [] _
  rw [f_X1_prepareTablesT] at h
  refine am_aload_n (j := 0) (am_dk tk_X1_prepareTables 0 rfl) rfl rfl ?_
  refine am_aload_n (j := 1) (am_dk tk_X1_prepareTables 1 rfl) rfl rfl ?_
  refine ly_geti (lyT_s hT) fl_X1_82 rfl (am_dk tk_X1_prepareTables 2 rfl) ?_
  refine ly_puti rfl fl_X1_87 rfl rfl (am_dk tk_X1_prepareTables 3 rfl) ?_
  refine am_aload_n (j := 0) (am_dk tk_X1_prepareTables 4 rfl) rfl rfl ?_
  refine am_aload_n (j := 1) (am_dk tk_X1_prepareTables 5 rfl) rfl rfl ?_
  refine ly_geti (lyT_s hT) fl_X1_88 rfl (am_dk tk_X1_prepareTables 6 rfl) ?_
  refine ly_puti rfl fl_X1_91 rfl rfl (am_dk tk_X1_prepareTables 7 rfl) ?_
  refine am_aload_n (j := 0) (am_dk tk_X1_prepareTables 8 rfl) rfl rfl ?_
  refine am_bipush (v := 100) (am_dk tk_X1_prepareTables 9 rfl) (by decide) ?_
  refine am_aload_n (j := 0) (am_dk tk_X1_prepareTables 10 rfl) rfl rfl ?_
  refine ly_geti rfl fl_X1_87 rfl (am_dk tk_X1_prepareTables 11 rfl) ?_
  refine am_imul (am_dk tk_X1_prepareTables 12 rfl) ?_
  refine ly_puti rfl fl_X1_92 rfl rfl (am_dk tk_X1_prepareTables 13 rfl) ?_
  refine am_aload_n (j := 0) (am_dk tk_X1_prepareTables 14 rfl) rfl rfl ?_
  refine ly_getr (b := 83) rfl fl_X1_9 rfl rfl (am_dk tk_X1_prepareTables 15 rfl) ?_
  refine ly_alen rfl (am_dk tk_X1_prepareTables 16 rfl) ?_
  refine am_if_ne (tgt := 51) (am_dk tk_X1_prepareTables 17 rfl) (by decide) (fun _ => ?_) (fun hc => absurd hc (by decide))
  refine am_ls [0] rfl ?_
  exact bx_X1_prepareTables_51 hT hΦ ⟨Nat.le_of_ble_eq_true rfl, Nat.le_of_ble_eq_true rfl⟩ _ h
def f_X1_prepareTablesF (T : Nat) (D : am_M) : Option am_M := b_X1_prepareTables_51 T (am_row (am_row (am_up (am_up (am_up D 45 12 (D T 1)) 45 13 ((am_up D 45 12 (D T 1)) T 2)) 45 14 (100 * ((am_up (am_up D 45 12 (D T 1)) 45 13 ((am_up D 45 12 (D T 1)) T 2)) 45 12))) 83 (fun _ => 0)) 84 (fun _ => 0))
theorem ct_X1_prepareTablesF {l : Launch} {tw : Nat} {T : Nat} (hT : lyT T) {D D' : am_M} (h : f_X1_prepareTablesF T D = some D') : am_CT l m_X1_prepareTables true [.ref 45, .ref T] (ly tw false D) (am_is none (ly tw true D')) := by
  have hΦ : am_is none (ly tw true D') none (ly tw true D') := ⟨rfl, rfl⟩
  refine am_CT.of (by decide) (Nat.le_of_ble_eq_true rfl) ?_
  show am_Ex _ _ _ 0 [(0, .ref 45), (1, .ref T)] [] _
  rw [f_X1_prepareTablesF] at h
  have hle : (ly tw false D).1.length ≤ 83 := Nat.le_of_ble_eq_true rfl
  refine am_aload_n (j := 0) (am_dk tk_X1_prepareTables 0 rfl) rfl rfl ?_
  refine am_aload_n (j := 1) (am_dk tk_X1_prepareTables 1 rfl) rfl rfl ?_
  refine ly_geti (lyT_s hT) fl_X1_82 rfl (am_dk tk_X1_prepareTables 2 rfl) ?_
  refine ly_puti rfl fl_X1_87 rfl rfl (am_dk tk_X1_prepareTables 3 rfl) ?_
  refine am_aload_n (j := 0) (am_dk tk_X1_prepareTables 4 rfl) rfl rfl ?_
  refine am_aload_n (j := 1) (am_dk tk_X1_prepareTables 5 rfl) rfl rfl ?_
  refine ly_geti (lyT_s hT) fl_X1_88 rfl (am_dk tk_X1_prepareTables 6 rfl) ?_
  refine ly_puti rfl fl_X1_91 rfl rfl (am_dk tk_X1_prepareTables 7 rfl) ?_
  refine am_aload_n (j := 0) (am_dk tk_X1_prepareTables 8 rfl) rfl rfl ?_
  refine am_bipush (v := 100) (am_dk tk_X1_prepareTables 9 rfl) (by decide) ?_
  refine am_aload_n (j := 0) (am_dk tk_X1_prepareTables 10 rfl) rfl rfl ?_
  refine ly_geti rfl fl_X1_87 rfl (am_dk tk_X1_prepareTables 11 rfl) ?_
  refine am_imul (am_dk tk_X1_prepareTables 12 rfl) ?_
  refine ly_puti rfl fl_X1_92 rfl rfl (am_dk tk_X1_prepareTables 13 rfl) ?_
  refine am_aload_n (j := 0) (am_dk tk_X1_prepareTables 14 rfl) rfl rfl ?_
  refine ly_getr (b := 46) rfl fl_X1_9 rfl rfl (am_dk tk_X1_prepareTables 15 rfl) ?_
  refine ly_alen rfl (am_dk tk_X1_prepareTables 16 rfl) ?_
  refine am_if_ne (tgt := 51) (am_dk tk_X1_prepareTables 17 rfl) (by decide) (fun hc => absurd rfl hc) (fun _ => ?_)
  refine am_ls [0] rfl ?_
  refine mk_tables hle ?_
  exact bx_X1_prepareTables_51 hT hΦ ⟨Nat.le_of_ble_eq_true rfl, Nat.le_of_ble_eq_true rfl⟩ _ h
def f_X1_prepareTables (T : Nat) (tp : Bool) (D : am_M) : Option am_M := if tp = true then f_X1_prepareTablesT T D else f_X1_prepareTablesF T D
theorem ct_X1_prepareTables {l : Launch} {tw : Nat} {tp : Bool} {T : Nat} (hT : lyT T) {D D' : am_M} (h : f_X1_prepareTables T tp D = some D') : am_CT l m_X1_prepareTables true [.ref 45, .ref T] (ly tw tp D) (am_is none (ly tw true D')) := by
  cases tp with
  | true => exact ct_X1_prepareTablesT hT h
  | false => exact ct_X1_prepareTablesF hT h
theorem lyL_ok {tw : Nat} {D : am_M} {tp : Bool} {T : Nat} (hT : lyT T) : ([(0, Value.ref 45), (1, Value.ref T)] : List (Nat × Value)).all (fun q => am_ok (ly tw tp D).1.length q.2) = true := by
  rcases hT with rfl | rfl <;> cases tp <;> rfl
abbrev m_X1_make : am_D := (yX1_make, prog_3_method_3_code, 5, none, { frames := 5, cells := 2, slots := 88200, locals := 117 })
theorem ld_X1_make : am_LD m_X1_make 4 := ⟨(am_tb 83 (by decide +kernel) (by decide +kernel)), (am_tb 617 (by decide +kernel) (by decide +kernel)), by decide, by decide, by decide +kernel⟩
def tb_X1_make : List (Nat × Instr × Nat) := [(0, .aload_n 0, 1), (1, .aload_n 2, 1), (2, .iload_n 3, 1), (3, .iload 4, 2), (5, .invokevirtual 34, 3), (8, .ifCond .eq 4, 3), (11, .return_, 1), (12, .aload_n 0, 1), (13, .iload_n 3, 1), (14, .putfield 31, 3), (17, .aload_n 0, 1), (18, .iload 4, 2), (20, .putfield 38, 3), (23, .aload_n 0, 1), (24, .aload_n 2, 1), (25, .getfield 41, 3), (28, .putfield 46, 3), (31, .aload_n 0, 1), (32, .aload_n 2, 1), (33, .getfield 47, 3), (36, .iload_n 3, 1), (37, .iaload, 1), (38, .putfield 50, 3), (41, .aload_n 0, 1), (42, .aload_n 2, 1), (43, .getfield 52, 3), (46, .iload_n 3, 1), (47, .iaload, 1), (48, .putfield 55, 3), (51, .aload_n 0, 1), (52, .aload_n 2, 1), (53, .getfield 57, 3), (56, .iload_n 3, 1), (57, .iaload, 1), (58, .putfield 60, 3), (61, .aload_n 0, 1), (62, .aload_n 1, 1), (63, .invokevirtual 62, 3), (66, .aload_n 0, 1), (67, .aload_n 1, 1), (68, .invokevirtual 66, 3), (71, .aload_n 0, 1), (72, .invokevirtual 69, 3), (75, .aload_n 0, 1), (76, .aload_n 0, 1), (77, .invokevirtual 72, 3), (80, .putfield 28, 3), (83, .aload_n 0, 1), (84, .getfield 28, 3), (87, .iconst (-1), 1), (88, .if_icmp .ne 4, 3), (91, .return_, 1), (92, .aload_n 0, 1), (93, .invokevirtual 76, 3), (96, .aload_n 0, 1), (97, .invokevirtual 79, 3), (100, .return_, 1)]
theorem tk_X1_make : am_tbl prog_3_method_3_code tb_X1_make = true := by decide +kernel
def f_X1_make (T M : Nat) (tp : Bool) (x3 x4 : Int32) (D : am_M) : Option (Bool × am_M) := (f_X1_isMade M x3 x4 D).bind fun q5 => if q5.1 = 0 then if am_in x3 5 = true then (f_X1_prepareTables T tp (am_up (am_up (am_up (am_up (am_up (am_up q5.2 45 6 x3) 45 7 x4) 45 8 ((am_up (am_up q5.2 45 6 x3) 45 7 x4) M 6)) 45 9 ((am_up (am_up (am_up q5.2 45 6 x3) 45 7 x4) 45 8 ((am_up (am_up q5.2 45 6 x3) 45 7 x4) M 6)) (M + 1) x3.toNatClampNeg)) 45 10 ((am_up (am_up (am_up (am_up q5.2 45 6 x3) 45 7 x4) 45 8 ((am_up (am_up q5.2 45 6 x3) 45 7 x4) M 6)) 45 9 ((am_up (am_up (am_up q5.2 45 6 x3) 45 7 x4) 45 8 ((am_up (am_up q5.2 45 6 x3) 45 7 x4) M 6)) (M + 1) x3.toNatClampNeg)) (M + 2) x3.toNatClampNeg)) 45 11 ((am_up (am_up (am_up (am_up (am_up q5.2 45 6 x3) 45 7 x4) 45 8 ((am_up (am_up q5.2 45 6 x3) 45 7 x4) M 6)) 45 9 ((am_up (am_up (am_up q5.2 45 6 x3) 45 7 x4) 45 8 ((am_up (am_up q5.2 45 6 x3) 45 7 x4) M 6)) (M + 1) x3.toNatClampNeg)) 45 10 ((am_up (am_up (am_up (am_up q5.2 45 6 x3) 45 7 x4) 45 8 ((am_up (am_up q5.2 45 6 x3) 45 7 x4) M 6)) 45 9 ((am_up (am_up (am_up q5.2 45 6 x3) 45 7 x4) 45 8 ((am_up (am_up q5.2 45 6 x3) 45 7 x4) M 6)) (M + 1) x3.toNatClampNeg)) (M + 2) x3.toNatClampNeg)) (M + 3) x3.toNatClampNeg))).bind fun q63 => (f_X1_countOwed T q63).bind fun q68 => (f_X1_spread q68).bind fun q72 => (f_X1_mostAtEnd q72).bind fun q77 => if ((am_up q77.2 45 5 q77.1) 45 5) = (-1) then some (true, am_up q77.2 45 5 q77.1) else (f_X1_turnToNeeds (am_up q77.2 45 5 q77.1)).bind fun q93 => (f_X1_walk q93).bind fun q97 => some (true, q97) else none else some (tp, q5.2)
theorem ct_X1_make {l : Launch} {tw : Nat} {tp : Bool} {T : Nat} (hT : lyT T) {M : Nat} (hM : lyM M) {x3 x4 : Int32} {D : am_M} {q : Bool × am_M} (h : f_X1_make T M tp x3 x4 D = some q) : am_CT l m_X1_make true [.ref 45, .ref T, .ref M, .int x3, .int x4] (ly tw tp D) (am_is none (ly tw q.1 q.2)) := by
  have hΦ : am_is none (ly tw q.1 q.2) none (ly tw q.1 q.2) := ⟨rfl, rfl⟩
  refine am_CT.of (by decide) (Nat.le_of_ble_eq_true rfl) ?_
  show am_Ex _ _ _ 0 [(0, .ref 45), (1, .ref T), (2, .ref M), (3, .int x3), (4, .int x4)] [] _
  rw [f_X1_make] at h
  refine am_aload_n (j := 0) (am_dk tk_X1_make 0 rfl) rfl rfl ?_
  refine am_aload_n (j := 2) (am_dk tk_X1_make 1 rfl) rfl rfl ?_
  refine am_iload_n (j := 3) (am_dk tk_X1_make 2 rfl) rfl rfl ?_
  refine am_iload (j := 4) (am_dk tk_X1_make 3 rfl) rfl ?_
  obtain ⟨q5, hq5, h⟩ := am_bind h
  refine ly_cV (M := m_X1_isMade) (As := [.ref M, .int x3, .int x4]) (b := 45) (st := []) (ct_X1_isMade hM hq5) rfl (by decide) rfl ml_X1_34 ld_X1_isMade rfl ⟨Nat.le_of_ble_eq_true rfl, Nat.le_of_ble_eq_true rfl⟩ (Nat.le_of_ble_eq_true rfl) ⟨rfl, rfl⟩ ⟨Nat.le_of_ble_eq_true rfl, Nat.le_of_ble_eq_true rfl⟩ (am_dk tk_X1_make 4 rfl) (am_kki ?_)
  refine am_if_eq (tgt := 12) (am_dk tk_X1_make 5 rfl) (by decide) (fun hc8 => ?_) (fun hc8 => ?_)
  · rw [if_pos hc8] at h
    refine am_aload_n (j := 0) (am_dk tk_X1_make 7 rfl) rfl rfl ?_
    refine am_iload_n (j := 3) (am_dk tk_X1_make 8 rfl) rfl rfl ?_
    refine ly_puti rfl fl_X1_31 rfl rfl (am_dk tk_X1_make 9 rfl) ?_
    refine am_aload_n (j := 0) (am_dk tk_X1_make 10 rfl) rfl rfl ?_
    refine am_iload (j := 4) (am_dk tk_X1_make 11 rfl) rfl ?_
    refine ly_puti rfl fl_X1_38 rfl rfl (am_dk tk_X1_make 12 rfl) ?_
    refine am_aload_n (j := 0) (am_dk tk_X1_make 13 rfl) rfl rfl ?_
    refine am_aload_n (j := 2) (am_dk tk_X1_make 14 rfl) rfl rfl ?_
    refine ly_geti (lyM_s hM) fl_X1_41 rfl (am_dk tk_X1_make 15 rfl) ?_
    refine ly_puti rfl fl_X1_46 rfl rfl (am_dk tk_X1_make 16 rfl) ?_
    refine am_aload_n (j := 0) (am_dk tk_X1_make 17 rfl) rfl rfl ?_
    refine am_aload_n (j := 2) (am_dk tk_X1_make 18 rfl) rfl rfl ?_
    refine ly_getr (b := (M + 1)) (lyM_s hM) fl_X1_47 rfl (lyM_r0 hM) (am_dk tk_X1_make 19 rfl) ?_
    refine am_iload_n (j := 3) (am_dk tk_X1_make 20 rfl) rfl rfl ?_
    obtain ⟨hi37, h⟩ := am_chk h
    refine ly_iald (k := x3.toNatClampNeg) (lyM_a0 hM) (am_in_vp hi37) rfl (am_dk tk_X1_make 21 rfl) ?_
    refine ly_puti rfl fl_X1_50 rfl rfl (am_dk tk_X1_make 22 rfl) ?_
    refine am_aload_n (j := 0) (am_dk tk_X1_make 23 rfl) rfl rfl ?_
    refine am_aload_n (j := 2) (am_dk tk_X1_make 24 rfl) rfl rfl ?_
    refine ly_getr (b := (M + 2)) (lyM_s hM) fl_X1_52 rfl (lyM_r1 hM) (am_dk tk_X1_make 25 rfl) ?_
    refine am_iload_n (j := 3) (am_dk tk_X1_make 26 rfl) rfl rfl ?_
    refine ly_iald (k := x3.toNatClampNeg) (lyM_a1 hM) (am_in_vp hi37) rfl (am_dk tk_X1_make 27 rfl) ?_
    refine ly_puti rfl fl_X1_55 rfl rfl (am_dk tk_X1_make 28 rfl) ?_
    refine am_aload_n (j := 0) (am_dk tk_X1_make 29 rfl) rfl rfl ?_
    refine am_aload_n (j := 2) (am_dk tk_X1_make 30 rfl) rfl rfl ?_
    refine ly_getr (b := (M + 3)) (lyM_s hM) fl_X1_57 rfl (lyM_r2 hM) (am_dk tk_X1_make 31 rfl) ?_
    refine am_iload_n (j := 3) (am_dk tk_X1_make 32 rfl) rfl rfl ?_
    refine ly_iald (k := x3.toNatClampNeg) (lyM_a2 hM) (am_in_vp hi37) rfl (am_dk tk_X1_make 33 rfl) ?_
    refine ly_puti rfl fl_X1_60 rfl rfl (am_dk tk_X1_make 34 rfl) ?_
    refine am_aload_n (j := 0) (am_dk tk_X1_make 35 rfl) rfl rfl ?_
    refine am_aload_n (j := 1) (am_dk tk_X1_make 36 rfl) rfl rfl ?_
    refine am_ls [0, 1] rfl ?_
    obtain ⟨q63, hq63, h⟩ := am_bind h
    refine am_callVA (M := m_X1_prepareTables) (As := [.ref T]) (b := 45) (st := []) rfl (Nat.le_refl _) (lyL_ok hT) rfl (ct_X1_prepareTables hT hq63) rfl (by decide) rfl ml_X1_62 ld_X1_prepareTables rfl ⟨Nat.le_of_ble_eq_true rfl, Nat.le_of_ble_eq_true rfl⟩ (Nat.le_of_ble_eq_true rfl) ⟨Nat.le_of_ble_eq_true rfl, Nat.le_of_ble_eq_true rfl⟩ (am_dk tk_X1_make 37 rfl) (am_kkv ?_)
    refine am_aload_n (j := 0) (am_dk tk_X1_make 38 rfl) rfl rfl ?_
    refine am_aload_n (j := 1) (am_dk tk_X1_make 39 rfl) rfl rfl ?_
    obtain ⟨q68, hq68, h⟩ := am_bind h
    refine ly_cV (M := m_X1_countOwed) (As := [.ref T]) (b := 45) (st := []) (ct_X1_countOwed hT hq68) rfl (by decide) rfl ml_X1_66 ld_X1_countOwed rfl ⟨Nat.le_of_ble_eq_true rfl, Nat.le_of_ble_eq_true rfl⟩ (Nat.le_of_ble_eq_true rfl) ⟨rfl, rfl⟩ ⟨Nat.le_of_ble_eq_true rfl, Nat.le_of_ble_eq_true rfl⟩ (am_dk tk_X1_make 40 rfl) (am_kkv ?_)
    refine am_aload_n (j := 0) (am_dk tk_X1_make 41 rfl) rfl rfl ?_
    obtain ⟨q72, hq72, h⟩ := am_bind h
    refine ly_cV (M := m_X1_spread) (As := []) (b := 45) (st := []) (ct_X1_spread hq72) rfl (by decide) rfl ml_X1_69 ld_X1_spread rfl ⟨Nat.le_of_ble_eq_true rfl, Nat.le_of_ble_eq_true rfl⟩ (Nat.le_of_ble_eq_true rfl) ⟨rfl, rfl⟩ ⟨Nat.le_of_ble_eq_true rfl, Nat.le_of_ble_eq_true rfl⟩ (am_dk tk_X1_make 42 rfl) (am_kkv ?_)
    refine am_aload_n (j := 0) (am_dk tk_X1_make 43 rfl) rfl rfl ?_
    refine am_aload_n (j := 0) (am_dk tk_X1_make 44 rfl) rfl rfl ?_
    obtain ⟨q77, hq77, h⟩ := am_bind h
    refine ly_cV (M := m_X1_mostAtEnd) (As := []) (b := 45) (st := [.ref 45]) (ct_X1_mostAtEnd hq77) rfl (by decide) rfl ml_X1_72 ld_X1_mostAtEnd rfl ⟨Nat.le_of_ble_eq_true rfl, Nat.le_of_ble_eq_true rfl⟩ (Nat.le_of_ble_eq_true rfl) ⟨rfl, rfl⟩ ⟨Nat.le_of_ble_eq_true rfl, Nat.le_of_ble_eq_true rfl⟩ (am_dk tk_X1_make 45 rfl) (am_kki ?_)
    refine ly_puti rfl fl_X1_28 rfl rfl (am_dk tk_X1_make 46 rfl) ?_
    refine am_aload_n (j := 0) (am_dk tk_X1_make 47 rfl) rfl rfl ?_
    refine ly_geti rfl fl_X1_28 rfl (am_dk tk_X1_make 48 rfl) ?_
    refine am_iconst (v := (-1)) (am_dk tk_X1_make 49 rfl) (by decide) ?_
    refine am_icmp_ne (tgt := 92) (am_dk tk_X1_make 50 rfl) (by decide) (fun hc88 => ?_) (fun hc88 => ?_)
    · rw [if_neg hc88] at h
      refine am_aload_n (j := 0) (am_dk tk_X1_make 52 rfl) rfl rfl ?_
      obtain ⟨q93, hq93, h⟩ := am_bind h
      refine ly_cV (M := m_X1_turnToNeeds) (As := []) (b := 45) (st := []) (ct_X1_turnToNeeds hq93) rfl (by decide) rfl ml_X1_76 ld_X1_turnToNeeds rfl ⟨Nat.le_of_ble_eq_true rfl, Nat.le_of_ble_eq_true rfl⟩ (Nat.le_of_ble_eq_true rfl) ⟨rfl, rfl⟩ ⟨Nat.le_of_ble_eq_true rfl, Nat.le_of_ble_eq_true rfl⟩ (am_dk tk_X1_make 53 rfl) (am_kkv ?_)
      refine am_aload_n (j := 0) (am_dk tk_X1_make 54 rfl) rfl rfl ?_
      obtain ⟨q97, hq97, h⟩ := am_bind h
      refine ly_cV (M := m_X1_walk) (As := []) (b := 45) (st := []) (ct_X1_walk hq97) rfl (by decide) rfl ml_X1_79 ld_X1_walk rfl ⟨Nat.le_of_ble_eq_true rfl, Nat.le_of_ble_eq_true rfl⟩ (Nat.le_of_ble_eq_true rfl) ⟨rfl, rfl⟩ ⟨Nat.le_of_ble_eq_true rfl, Nat.le_of_ble_eq_true rfl⟩ (am_dk tk_X1_make 55 rfl) (am_kkv ?_)
      exact am_vret rfl (am_rm0 h hΦ) ⟨Nat.le_of_ble_eq_true rfl, Nat.le_of_ble_eq_true rfl⟩ (am_dk tk_X1_make 56 rfl)
    · rw [if_pos hc88] at h
      exact am_vret rfl (am_rm0 h hΦ) ⟨Nat.le_of_ble_eq_true rfl, Nat.le_of_ble_eq_true rfl⟩ (am_dk tk_X1_make 51 rfl)
  · rw [if_neg hc8] at h
    exact am_vret rfl (am_rm0 h hΦ) ⟨Nat.le_of_ble_eq_true rfl, Nat.le_of_ble_eq_true rfl⟩ (am_dk tk_X1_make 6 rfl)
end
section
abbrev m_X5_isPerson : am_D := (yX5_isPerson, prog_1_method_35_code, 2, (some .boolean), { frames := 1, cells := 0, slots := 0, locals := 22 })
theorem ld_X5_isPerson : am_LD m_X5_isPerson 1 := ⟨(am_tb 79 (by decide +kernel) (by decide +kernel)), (am_tb 518 (by decide +kernel) (by decide +kernel)), by decide, by decide, by decide +kernel⟩
def tb_X5_isPerson : List (Nat × Instr × Nat) := [(0, .iload_n 1, 1), (1, .iconst 0, 1), (2, .aload_n 0, 1), (3, .getfield 10, 3), (6, .getfield 104, 3), (9, .iconst 1, 1), (10, .isub, 1), (11, .invokestatic 67, 3), (14, .ireturn, 1)]
theorem tk_X5_isPerson : am_tbl prog_1_method_35_code tb_X5_isPerson = true := by decide +kernel
def f_X5_isPerson (tw : Nat) (x1 : Int32) (D : am_M) : Int32 := f_X5_isWithin x1 0 ((D tw 3) - 1)
theorem zb_X5_isPerson (tw : Nat) (x1 : Int32) (D : am_M) : f_X5_isPerson tw x1 D = 0 ∨ f_X5_isPerson tw x1 D = 1 := by
  unfold f_X5_isPerson
  repeat' split
  all_goals first | exact Or.inl rfl | exact Or.inr rfl | exact zb_X5_isWithin x1 0 ((D tw 3) - 1)
theorem ct_X5_isPerson {l : Launch} {tw : Nat} {tp : Bool} (htw : lyT tw) (x1 : Int32) (D : am_M) : am_CT l m_X5_isPerson false [.ref 0, .int x1] (ly tw tp D) (am_is (some (.int (f_X5_isPerson tw x1 D))) (ly tw tp D)) := by
  refine am_CT.of (by decide) (Nat.le_of_ble_eq_true rfl) ?_
  show am_Ex _ _ _ 0 [(0, .ref 0), (1, .int x1)] [] _
  refine am_iload_n (j := 1) (am_dk tk_X5_isPerson 0 rfl) rfl rfl ?_
  refine am_iconst (v := 0) (am_dk tk_X5_isPerson 1 rfl) (by decide) ?_
  refine am_aload_n (j := 0) (am_dk tk_X5_isPerson 2 rfl) rfl rfl ?_
  refine ly_getr (b := tw) rfl fl_X5_10 rfl rfl (am_dk tk_X5_isPerson 3 rfl) ?_
  refine ly_geti (lyT_s htw) fl_X5_104 rfl (am_dk tk_X5_isPerson 4 rfl) ?_
  refine am_iconst (v := 1) (am_dk tk_X5_isPerson 5 rfl) (by decide) ?_
  refine am_isub (am_dk tk_X5_isPerson 6 rfl) ?_
  refine am_cS (M := m_X5_isWithin) (As := [.int x1, .int 0, .int ((D tw 3) - 1)]) (st := []) (ct_X5_isWithin _ _ _ _) ml_X5_67 ld_X5_isWithin rfl ⟨Nat.le_of_ble_eq_true rfl, Nat.le_of_ble_eq_true rfl⟩ (Nat.le_of_ble_eq_true rfl) ⟨rfl, rfl⟩ ⟨Nat.le_of_ble_eq_true rfl, Nat.le_of_ble_eq_true rfl⟩ (am_dk tk_X5_isPerson 7 rfl) (am_kki ?_)
  exact am_zret (zb_X5_isWithin x1 0 ((D tw 3) - 1)) rfl ⟨rfl, rfl⟩ ⟨Nat.le_of_ble_eq_true rfl, Nat.le_of_ble_eq_true rfl⟩ (am_dk tk_X5_isPerson 8 rfl)
abbrev m_X5_feed : am_D := (yX5_feed, prog_1_method_2_code, 2, (some .int), { frames := 1, cells := 0, slots := 0, locals := 22 })
theorem ld_X5_feed : am_LD m_X5_feed 1 := ⟨(am_tb 79 (by decide +kernel) (by decide +kernel)), (am_tb 396 (by decide +kernel) (by decide +kernel)), by decide, by decide, by decide +kernel⟩
def tb_X5_feed : List (Nat × Instr × Nat) := [(0, .iload_n 1, 1), (1, .iconst 0, 1), (2, .sipush 255, 3), (5, .invokestatic 67, 3), (8, .ifCond .ne 6, 3), (11, .ldc 71, 2), (13, .ireturn, 1), (14, .aload_n 0, 1), (15, .getfield 19, 3), (18, .getfield 72, 3), (21, .sipush 250, 3), (24, .if_icmp .lt 6, 3), (27, .ldc 75, 2), (29, .ireturn, 1), (30, .aload_n 0, 1), (31, .getfield 19, 3), (34, .iload_n 1, 1), (35, .invokevirtual 76, 3), (38, .ireturn, 1)]
theorem tk_X5_feed : am_tbl prog_1_method_2_code tb_X5_feed = true := by decide +kernel
def f_X5_feed (tw : Nat) (x1 : Int32) (D : am_M) : Option (Int32 × am_M) := if (f_X5_isWithin x1 0 255) = 0 then some ((-1000000002), D) else if (D 12 4) < 250 then (f_X3_add tw x1 D).bind fun q35 => some (q35.1, q35.2) else some ((-1000000004), D)
theorem ct_X5_feed {l : Launch} {tw : Nat} {tp : Bool} (htw : lyT tw) {x1 : Int32} {r : Int32} {D D' : am_M} (h : f_X5_feed tw x1 D = some (r, D')) : am_CT l m_X5_feed false [.ref 0, .int x1] (ly tw tp D) (am_is (some (.int r)) (ly tw tp D')) := by
  have hΦ : am_is (some (.int r)) (ly tw tp D') (some (.int r)) (ly tw tp D') := ⟨rfl, rfl⟩
  refine am_CT.of (by decide) (Nat.le_of_ble_eq_true rfl) ?_
  show am_Ex _ _ _ 0 [(0, .ref 0), (1, .int x1)] [] _
  rw [f_X5_feed] at h
  refine am_iload_n (j := 1) (am_dk tk_X5_feed 0 rfl) rfl rfl ?_
  refine am_iconst (v := 0) (am_dk tk_X5_feed 1 rfl) (by decide) ?_
  refine am_sipush (v := 255) (am_dk tk_X5_feed 2 rfl) (by decide) ?_
  refine am_cS (M := m_X5_isWithin) (As := [.int x1, .int 0, .int 255]) (st := []) (ct_X5_isWithin _ _ _ _) ml_X5_67 ld_X5_isWithin rfl ⟨Nat.le_of_ble_eq_true rfl, Nat.le_of_ble_eq_true rfl⟩ (Nat.le_of_ble_eq_true rfl) ⟨rfl, rfl⟩ ⟨Nat.le_of_ble_eq_true rfl, Nat.le_of_ble_eq_true rfl⟩ (am_dk tk_X5_feed 3 rfl) (am_kki ?_)
  refine am_if_ne (tgt := 14) (am_dk tk_X5_feed 4 rfl) (by decide) (fun hc8 => ?_) (fun hc8 => ?_)
  · rw [if_neg hc8] at h
    refine am_aload_n (j := 0) (am_dk tk_X5_feed 7 rfl) rfl rfl ?_
    refine ly_getr (b := 12) rfl fl_X5_19 rfl rfl (am_dk tk_X5_feed 8 rfl) ?_
    refine ly_geti rfl fl_X5_72 rfl (am_dk tk_X5_feed 9 rfl) ?_
    refine am_sipush (v := 250) (am_dk tk_X5_feed 10 rfl) (by decide) ?_
    refine am_icmp_lt (tgt := 30) (am_dk tk_X5_feed 11 rfl) (by decide) (fun hc24 => ?_) (fun hc24 => ?_)
    · rw [if_pos hc24] at h
      refine am_aload_n (j := 0) (am_dk tk_X5_feed 14 rfl) rfl rfl ?_
      refine ly_getr (b := 12) rfl fl_X5_19 rfl rfl (am_dk tk_X5_feed 15 rfl) ?_
      refine am_iload_n (j := 1) (am_dk tk_X5_feed 16 rfl) rfl rfl ?_
      obtain ⟨q35, hq35, h⟩ := am_bind h
      refine ly_cV (M := m_X3_add) (As := [.int x1]) (b := 12) (st := []) (ct_X3_add htw hq35) rfl (by decide) rfl ml_X5_76 ld_X3_add rfl ⟨Nat.le_of_ble_eq_true rfl, Nat.le_of_ble_eq_true rfl⟩ (Nat.le_of_ble_eq_true rfl) ⟨rfl, rfl⟩ ⟨Nat.le_of_ble_eq_true rfl, Nat.le_of_ble_eq_true rfl⟩ (am_dk tk_X5_feed 17 rfl) (am_kki ?_)
      exact am_iret rfl (am_r2 h hΦ) ⟨Nat.le_of_ble_eq_true rfl, Nat.le_of_ble_eq_true rfl⟩ (am_dk tk_X5_feed 18 rfl)
    · rw [if_neg hc24] at h
      refine am_ldc kc_X5_75 (am_dk tk_X5_feed 12 rfl) ?_
      exact am_iret rfl (am_r2 h hΦ) ⟨Nat.le_of_ble_eq_true rfl, Nat.le_of_ble_eq_true rfl⟩ (am_dk tk_X5_feed 13 rfl)
  · rw [if_pos hc8] at h
    refine am_ldc kc_X5_71 (am_dk tk_X5_feed 5 rfl) ?_
    exact am_iret rfl (am_r2 h hΦ) ⟨Nat.le_of_ble_eq_true rfl, Nat.le_of_ble_eq_true rfl⟩ (am_dk tk_X5_feed 6 rfl)
abbrev m_X5_fault : am_D := (yX5_fault, prog_1_method_4_code, 1, (some .int), { frames := 0, cells := 0, slots := 0, locals := 0 })
theorem ld_X5_fault : am_LD m_X5_fault 0 := ⟨(am_tb 79 (by decide +kernel) (by decide +kernel)), (am_tb 502 (by decide +kernel) (by decide +kernel)), by decide, by decide, by decide +kernel⟩
def tb_X5_fault : List (Nat × Instr × Nat) := [(0, .aload_n 0, 1), (1, .getfield 19, 3), (4, .getfield 107, 3), (7, .ireturn, 1)]
theorem tk_X5_fault : am_tbl prog_1_method_4_code tb_X5_fault = true := by decide +kernel
def f_X5_fault (tw : Nat) (D : am_M) : Int32 := D 12 6
theorem ct_X5_fault {l : Launch} {tw : Nat} {tp : Bool} (htw : lyT tw) (D : am_M) : am_CT l m_X5_fault false [.ref 0] (ly tw tp D) (am_is (some (.int (f_X5_fault tw D))) (ly tw tp D)) := by
  refine am_CT.of (by decide) (Nat.le_of_ble_eq_true rfl) ?_
  show am_Ex _ _ _ 0 [(0, .ref 0)] [] _
  refine am_aload_n (j := 0) (am_dk tk_X5_fault 0 rfl) rfl rfl ?_
  refine ly_getr (b := 12) rfl fl_X5_19 rfl rfl (am_dk tk_X5_fault 1 rfl) ?_
  refine ly_geti rfl fl_X5_107 rfl (am_dk tk_X5_fault 2 rfl) ?_
  exact am_iret rfl ⟨rfl, rfl⟩ ⟨Nat.le_of_ble_eq_true rfl, Nat.le_of_ble_eq_true rfl⟩ (am_dk tk_X5_fault 3 rfl)
abbrev m_X5_told : am_D := (yX5_told, prog_1_method_5_code, 2, (some .int), { frames := 1, cells := 0, slots := 0, locals := 23 })
theorem ld_X5_told : am_LD m_X5_told 1 := ⟨(am_tb 79 (by decide +kernel) (by decide +kernel)), (am_tb 506 (by decide +kernel) (by decide +kernel)), by decide, by decide, by decide +kernel⟩
def tb_X5_told : List (Nat × Instr × Nat) := [(0, .iload_n 1, 1), (1, .tableswitch 163 0 11 #[63, 71, 79, 87, 95, 103, 111, 119, 127, 135, 143, 158], 63), (64, .aload_n 0, 1), (65, .getfield 10, 3), (68, .getfield 110, 3), (71, .ireturn, 1), (72, .aload_n 0, 1), (73, .getfield 10, 3), (76, .getfield 113, 3), (79, .ireturn, 1), (80, .aload_n 0, 1), (81, .getfield 10, 3), (84, .getfield 116, 3), (87, .ireturn, 1), (88, .aload_n 0, 1), (89, .getfield 10, 3), (92, .getfield 104, 3), (95, .ireturn, 1), (96, .aload_n 0, 1), (97, .getfield 10, 3), (100, .getfield 119, 3), (103, .ireturn, 1), (104, .aload_n 0, 1), (105, .getfield 10, 3), (108, .getfield 122, 3), (111, .ireturn, 1), (112, .aload_n 0, 1), (113, .getfield 19, 3), (116, .getfield 72, 3), (119, .ireturn, 1), (120, .aload_n 0, 1), (121, .getfield 26, 3), (124, .getfield 125, 3), (127, .ireturn, 1), (128, .aload_n 0, 1), (129, .getfield 26, 3), (132, .getfield 128, 3), (135, .ireturn, 1), (136, .aload_n 0, 1), (137, .getfield 26, 3), (140, .getfield 131, 3), (143, .ireturn, 1), (144, .aload_n 0, 1), (145, .getfield 26, 3), (148, .aload_n 0, 1), (149, .getfield 10, 3), (152, .getfield 104, 3), (155, .invokevirtual 134, 3), (158, .ireturn, 1), (159, .aload_n 0, 1), (160, .getfield 64, 3), (163, .ireturn, 1), (164, .ldc 71, 2), (166, .ireturn, 1)]
theorem tk_X5_told : am_tbl prog_1_method_5_code tb_X5_told = true := by decide +kernel
def f_X5_told (tw : Nat) (x1 : Int32) (D : am_M) : Option (Int32 × am_M) := if x1 = 0 then some (D tw 0, D) else if x1 = 1 then some (D tw 1, D) else if x1 = 2 then some (D tw 2, D) else if x1 = 3 then some (D tw 3, D) else if x1 = 4 then some (D tw 4, D) else if x1 = 5 then some (D tw 5, D) else if x1 = 6 then some (D 12 4, D) else if x1 = 7 then some (D 25 6, D) else if x1 = 8 then some (D 25 4, D) else if x1 = 9 then some (D 25 5, D) else if x1 = 10 then (f_X2_sleepers 25 (D tw 3) D).bind fun q155 => some (q155.1, q155.2) else if x1 = 11 then some (D 0 11, D) else some ((-1000000002), D)
theorem ct_X5_told {l : Launch} {tw : Nat} {tp : Bool} (htw : lyT tw) {x1 : Int32} {r : Int32} {D D' : am_M} (h : f_X5_told tw x1 D = some (r, D')) : am_CT l m_X5_told false [.ref 0, .int x1] (ly tw tp D) (am_is (some (.int r)) (ly tw tp D')) := by
  have hΦ : am_is (some (.int r)) (ly tw tp D') (some (.int r)) (ly tw tp D') := ⟨rfl, rfl⟩
  refine am_CT.of (by decide) (Nat.le_of_ble_eq_true rfl) ?_
  show am_Ex _ _ _ 0 [(0, .ref 0), (1, .int x1)] [] _
  rw [f_X5_told] at h
  refine am_iload_n (j := 1) (am_dk tk_X5_told 0 rfl) rfl rfl ?_
  by_cases hs1_0 : x1 = 0
  · rw [if_pos hs1_0] at h
    refine am_tableIn (tgt := 64) (am_dk tk_X5_told 1 rfl) (by rw [hs1_0]; decide) (by rw [hs1_0]; decide) (by rw [hs1_0]; rfl) (by decide) ?_
    refine am_aload_n (j := 0) (am_dk tk_X5_told 2 rfl) rfl rfl ?_
    refine ly_getr (b := tw) rfl fl_X5_10 rfl rfl (am_dk tk_X5_told 3 rfl) ?_
    refine ly_geti (lyT_s htw) fl_X5_110 rfl (am_dk tk_X5_told 4 rfl) ?_
    exact am_iret rfl (am_r2 h hΦ) ⟨Nat.le_of_ble_eq_true rfl, Nat.le_of_ble_eq_true rfl⟩ (am_dk tk_X5_told 5 rfl)
  rw [if_neg hs1_0] at h
  by_cases hs1_1 : x1 = 1
  · rw [if_pos hs1_1] at h
    refine am_tableIn (tgt := 72) (am_dk tk_X5_told 1 rfl) (by rw [hs1_1]; decide) (by rw [hs1_1]; decide) (by rw [hs1_1]; rfl) (by decide) ?_
    refine am_aload_n (j := 0) (am_dk tk_X5_told 6 rfl) rfl rfl ?_
    refine ly_getr (b := tw) rfl fl_X5_10 rfl rfl (am_dk tk_X5_told 7 rfl) ?_
    refine ly_geti (lyT_s htw) fl_X5_113 rfl (am_dk tk_X5_told 8 rfl) ?_
    exact am_iret rfl (am_r2 h hΦ) ⟨Nat.le_of_ble_eq_true rfl, Nat.le_of_ble_eq_true rfl⟩ (am_dk tk_X5_told 9 rfl)
  rw [if_neg hs1_1] at h
  by_cases hs1_2 : x1 = 2
  · rw [if_pos hs1_2] at h
    refine am_tableIn (tgt := 80) (am_dk tk_X5_told 1 rfl) (by rw [hs1_2]; decide) (by rw [hs1_2]; decide) (by rw [hs1_2]; rfl) (by decide) ?_
    refine am_aload_n (j := 0) (am_dk tk_X5_told 10 rfl) rfl rfl ?_
    refine ly_getr (b := tw) rfl fl_X5_10 rfl rfl (am_dk tk_X5_told 11 rfl) ?_
    refine ly_geti (lyT_s htw) fl_X5_116 rfl (am_dk tk_X5_told 12 rfl) ?_
    exact am_iret rfl (am_r2 h hΦ) ⟨Nat.le_of_ble_eq_true rfl, Nat.le_of_ble_eq_true rfl⟩ (am_dk tk_X5_told 13 rfl)
  rw [if_neg hs1_2] at h
  by_cases hs1_3 : x1 = 3
  · rw [if_pos hs1_3] at h
    refine am_tableIn (tgt := 88) (am_dk tk_X5_told 1 rfl) (by rw [hs1_3]; decide) (by rw [hs1_3]; decide) (by rw [hs1_3]; rfl) (by decide) ?_
    refine am_aload_n (j := 0) (am_dk tk_X5_told 14 rfl) rfl rfl ?_
    refine ly_getr (b := tw) rfl fl_X5_10 rfl rfl (am_dk tk_X5_told 15 rfl) ?_
    refine ly_geti (lyT_s htw) fl_X5_104 rfl (am_dk tk_X5_told 16 rfl) ?_
    exact am_iret rfl (am_r2 h hΦ) ⟨Nat.le_of_ble_eq_true rfl, Nat.le_of_ble_eq_true rfl⟩ (am_dk tk_X5_told 17 rfl)
  rw [if_neg hs1_3] at h
  by_cases hs1_4 : x1 = 4
  · rw [if_pos hs1_4] at h
    refine am_tableIn (tgt := 96) (am_dk tk_X5_told 1 rfl) (by rw [hs1_4]; decide) (by rw [hs1_4]; decide) (by rw [hs1_4]; rfl) (by decide) ?_
    refine am_aload_n (j := 0) (am_dk tk_X5_told 18 rfl) rfl rfl ?_
    refine ly_getr (b := tw) rfl fl_X5_10 rfl rfl (am_dk tk_X5_told 19 rfl) ?_
    refine ly_geti (lyT_s htw) fl_X5_119 rfl (am_dk tk_X5_told 20 rfl) ?_
    exact am_iret rfl (am_r2 h hΦ) ⟨Nat.le_of_ble_eq_true rfl, Nat.le_of_ble_eq_true rfl⟩ (am_dk tk_X5_told 21 rfl)
  rw [if_neg hs1_4] at h
  by_cases hs1_5 : x1 = 5
  · rw [if_pos hs1_5] at h
    refine am_tableIn (tgt := 104) (am_dk tk_X5_told 1 rfl) (by rw [hs1_5]; decide) (by rw [hs1_5]; decide) (by rw [hs1_5]; rfl) (by decide) ?_
    refine am_aload_n (j := 0) (am_dk tk_X5_told 22 rfl) rfl rfl ?_
    refine ly_getr (b := tw) rfl fl_X5_10 rfl rfl (am_dk tk_X5_told 23 rfl) ?_
    refine ly_geti (lyT_s htw) fl_X5_122 rfl (am_dk tk_X5_told 24 rfl) ?_
    exact am_iret rfl (am_r2 h hΦ) ⟨Nat.le_of_ble_eq_true rfl, Nat.le_of_ble_eq_true rfl⟩ (am_dk tk_X5_told 25 rfl)
  rw [if_neg hs1_5] at h
  by_cases hs1_6 : x1 = 6
  · rw [if_pos hs1_6] at h
    refine am_tableIn (tgt := 112) (am_dk tk_X5_told 1 rfl) (by rw [hs1_6]; decide) (by rw [hs1_6]; decide) (by rw [hs1_6]; rfl) (by decide) ?_
    refine am_aload_n (j := 0) (am_dk tk_X5_told 26 rfl) rfl rfl ?_
    refine ly_getr (b := 12) rfl fl_X5_19 rfl rfl (am_dk tk_X5_told 27 rfl) ?_
    refine ly_geti rfl fl_X5_72 rfl (am_dk tk_X5_told 28 rfl) ?_
    exact am_iret rfl (am_r2 h hΦ) ⟨Nat.le_of_ble_eq_true rfl, Nat.le_of_ble_eq_true rfl⟩ (am_dk tk_X5_told 29 rfl)
  rw [if_neg hs1_6] at h
  by_cases hs1_7 : x1 = 7
  · rw [if_pos hs1_7] at h
    refine am_tableIn (tgt := 120) (am_dk tk_X5_told 1 rfl) (by rw [hs1_7]; decide) (by rw [hs1_7]; decide) (by rw [hs1_7]; rfl) (by decide) ?_
    refine am_aload_n (j := 0) (am_dk tk_X5_told 30 rfl) rfl rfl ?_
    refine ly_getr (b := 25) rfl fl_X5_26 rfl rfl (am_dk tk_X5_told 31 rfl) ?_
    refine ly_geti rfl fl_X5_125 rfl (am_dk tk_X5_told 32 rfl) ?_
    exact am_iret rfl (am_r2 h hΦ) ⟨Nat.le_of_ble_eq_true rfl, Nat.le_of_ble_eq_true rfl⟩ (am_dk tk_X5_told 33 rfl)
  rw [if_neg hs1_7] at h
  by_cases hs1_8 : x1 = 8
  · rw [if_pos hs1_8] at h
    refine am_tableIn (tgt := 128) (am_dk tk_X5_told 1 rfl) (by rw [hs1_8]; decide) (by rw [hs1_8]; decide) (by rw [hs1_8]; rfl) (by decide) ?_
    refine am_aload_n (j := 0) (am_dk tk_X5_told 34 rfl) rfl rfl ?_
    refine ly_getr (b := 25) rfl fl_X5_26 rfl rfl (am_dk tk_X5_told 35 rfl) ?_
    refine ly_geti rfl fl_X5_128 rfl (am_dk tk_X5_told 36 rfl) ?_
    exact am_iret rfl (am_r2 h hΦ) ⟨Nat.le_of_ble_eq_true rfl, Nat.le_of_ble_eq_true rfl⟩ (am_dk tk_X5_told 37 rfl)
  rw [if_neg hs1_8] at h
  by_cases hs1_9 : x1 = 9
  · rw [if_pos hs1_9] at h
    refine am_tableIn (tgt := 136) (am_dk tk_X5_told 1 rfl) (by rw [hs1_9]; decide) (by rw [hs1_9]; decide) (by rw [hs1_9]; rfl) (by decide) ?_
    refine am_aload_n (j := 0) (am_dk tk_X5_told 38 rfl) rfl rfl ?_
    refine ly_getr (b := 25) rfl fl_X5_26 rfl rfl (am_dk tk_X5_told 39 rfl) ?_
    refine ly_geti rfl fl_X5_131 rfl (am_dk tk_X5_told 40 rfl) ?_
    exact am_iret rfl (am_r2 h hΦ) ⟨Nat.le_of_ble_eq_true rfl, Nat.le_of_ble_eq_true rfl⟩ (am_dk tk_X5_told 41 rfl)
  rw [if_neg hs1_9] at h
  by_cases hs1_10 : x1 = 10
  · rw [if_pos hs1_10] at h
    refine am_tableIn (tgt := 144) (am_dk tk_X5_told 1 rfl) (by rw [hs1_10]; decide) (by rw [hs1_10]; decide) (by rw [hs1_10]; rfl) (by decide) ?_
    refine am_aload_n (j := 0) (am_dk tk_X5_told 42 rfl) rfl rfl ?_
    refine ly_getr (b := 25) rfl fl_X5_26 rfl rfl (am_dk tk_X5_told 43 rfl) ?_
    refine am_aload_n (j := 0) (am_dk tk_X5_told 44 rfl) rfl rfl ?_
    refine ly_getr (b := tw) rfl fl_X5_10 rfl rfl (am_dk tk_X5_told 45 rfl) ?_
    refine ly_geti (lyT_s htw) fl_X5_104 rfl (am_dk tk_X5_told 46 rfl) ?_
    obtain ⟨q155, hq155, h⟩ := am_bind h
    refine ly_cV (M := m_X2_sleepers) (As := [.int (D tw 3)]) (b := 25) (st := []) (ct_X2_sleepers lyM_25 hq155) rfl (by decide) rfl ml_X5_134 ld_X2_sleepers rfl ⟨Nat.le_of_ble_eq_true rfl, Nat.le_of_ble_eq_true rfl⟩ (Nat.le_of_ble_eq_true rfl) ⟨rfl, rfl⟩ ⟨Nat.le_of_ble_eq_true rfl, Nat.le_of_ble_eq_true rfl⟩ (am_dk tk_X5_told 47 rfl) (am_kki ?_)
    exact am_iret rfl (am_r2 h hΦ) ⟨Nat.le_of_ble_eq_true rfl, Nat.le_of_ble_eq_true rfl⟩ (am_dk tk_X5_told 48 rfl)
  rw [if_neg hs1_10] at h
  by_cases hs1_11 : x1 = 11
  · rw [if_pos hs1_11] at h
    refine am_tableIn (tgt := 159) (am_dk tk_X5_told 1 rfl) (by rw [hs1_11]; decide) (by rw [hs1_11]; decide) (by rw [hs1_11]; rfl) (by decide) ?_
    refine am_aload_n (j := 0) (am_dk tk_X5_told 49 rfl) rfl rfl ?_
    refine ly_geti rfl fl_X5_64 rfl (am_dk tk_X5_told 50 rfl) ?_
    exact am_iret rfl (am_r2 h hΦ) ⟨Nat.le_of_ble_eq_true rfl, Nat.le_of_ble_eq_true rfl⟩ (am_dk tk_X5_told 51 rfl)
  rw [if_neg hs1_11] at h
  refine am_tableOut (tgt := 164) (am_dk tk_X5_told 1 rfl) (by have e0 := lv_neT (a := 0) hs1_0 rfl; have e1 := lv_neT (a := 1) hs1_1 rfl; have e2 := lv_neT (a := 2) hs1_2 rfl; have e3 := lv_neT (a := 3) hs1_3 rfl; have e4 := lv_neT (a := 4) hs1_4 rfl; have e5 := lv_neT (a := 5) hs1_5 rfl; have e6 := lv_neT (a := 6) hs1_6 rfl; have e7 := lv_neT (a := 7) hs1_7 rfl; have e8 := lv_neT (a := 8) hs1_8 rfl; have e9 := lv_neT (a := 9) hs1_9 rfl; have e10 := lv_neT (a := 10) hs1_10 rfl; have e11 := lv_neT (a := 11) hs1_11 rfl; omega) (by decide) ?_
  refine am_ldc kc_X5_71 (am_dk tk_X5_told 52 rfl) ?_
  exact am_iret rfl (am_r2 h hΦ) ⟨Nat.le_of_ble_eq_true rfl, Nat.le_of_ble_eq_true rfl⟩ (am_dk tk_X5_told 53 rfl)
abbrev m_X5_person : am_D := (yX5_person, prog_1_method_6_code, 3, (some .int), { frames := 2, cells := 0, slots := 0, locals := 43 })
theorem ld_X5_person : am_LD m_X5_person 2 := ⟨(am_tb 79 (by decide +kernel) (by decide +kernel)), (am_tb 514 (by decide +kernel) (by decide +kernel)), by decide, by decide, by decide +kernel⟩
def tb_X5_person : List (Nat × Instr × Nat) := [(0, .aload_n 0, 1), (1, .iload_n 1, 1), (2, .invokevirtual 137, 3), (5, .ifCond .ne 6, 3), (8, .ldc 141, 2), (10, .ireturn, 1), (11, .iload_n 2, 1), (12, .tableswitch 72 0 3 #[32, 42, 52, 62], 32), (44, .aload_n 0, 1), (45, .getfield 26, 3), (48, .getfield 142, 3), (51, .iload_n 1, 1), (52, .iaload, 1), (53, .ireturn, 1), (54, .aload_n 0, 1), (55, .getfield 26, 3), (58, .getfield 145, 3), (61, .iload_n 1, 1), (62, .iaload, 1), (63, .ireturn, 1), (64, .aload_n 0, 1), (65, .getfield 26, 3), (68, .getfield 148, 3), (71, .iload_n 1, 1), (72, .iaload, 1), (73, .ireturn, 1), (74, .aload_n 0, 1), (75, .getfield 10, 3), (78, .getfield 151, 3), (81, .iload_n 1, 1), (82, .iaload, 1), (83, .ireturn, 1), (84, .ldc 71, 2), (86, .ireturn, 1)]
theorem tk_X5_person : am_tbl prog_1_method_6_code tb_X5_person = true := by decide +kernel
def f_X5_person (tw : Nat) (x1 : Int32) (x2 : Int32) (D : am_M) : Option (Int32 × am_M) := if (f_X5_isPerson tw x1 D) = 0 then some ((-1000000001), D) else if x2 = 0 then if am_in x1 5 = true then some (D 26 x1.toNatClampNeg, D) else none else if x2 = 1 then if am_in x1 5 = true then some (D 28 x1.toNatClampNeg, D) else none else if x2 = 2 then if am_in x1 5 = true then some (D 27 x1.toNatClampNeg, D) else none else if x2 = 3 then if am_in x1 5 = true then some (D (tw + 5) x1.toNatClampNeg, D) else none else some ((-1000000002), D)
theorem ct_X5_person {l : Launch} {tw : Nat} {tp : Bool} (htw : lyT tw) {x1 : Int32} {x2 : Int32} {r : Int32} {D D' : am_M} (h : f_X5_person tw x1 x2 D = some (r, D')) : am_CT l m_X5_person false [.ref 0, .int x1, .int x2] (ly tw tp D) (am_is (some (.int r)) (ly tw tp D')) := by
  have hΦ : am_is (some (.int r)) (ly tw tp D') (some (.int r)) (ly tw tp D') := ⟨rfl, rfl⟩
  refine am_CT.of (by decide) (Nat.le_of_ble_eq_true rfl) ?_
  show am_Ex _ _ _ 0 [(0, .ref 0), (1, .int x1), (2, .int x2)] [] _
  rw [f_X5_person] at h
  refine am_aload_n (j := 0) (am_dk tk_X5_person 0 rfl) rfl rfl ?_
  refine am_iload_n (j := 1) (am_dk tk_X5_person 1 rfl) rfl rfl ?_
  refine ly_cV (M := m_X5_isPerson) (As := [.int x1]) (b := 0) (st := []) (ct_X5_isPerson htw _ _) rfl (by decide) rfl ml_X5_137 ld_X5_isPerson rfl ⟨Nat.le_of_ble_eq_true rfl, Nat.le_of_ble_eq_true rfl⟩ (Nat.le_of_ble_eq_true rfl) ⟨rfl, rfl⟩ ⟨Nat.le_of_ble_eq_true rfl, Nat.le_of_ble_eq_true rfl⟩ (am_dk tk_X5_person 2 rfl) (am_kki ?_)
  refine am_if_ne (tgt := 11) (am_dk tk_X5_person 3 rfl) (by decide) (fun hc5 => ?_) (fun hc5 => ?_)
  · rw [if_neg hc5] at h
    refine am_iload_n (j := 2) (am_dk tk_X5_person 6 rfl) rfl rfl ?_
    by_cases hs12_0 : x2 = 0
    · rw [if_pos hs12_0] at h
      refine am_tableIn (tgt := 44) (am_dk tk_X5_person 7 rfl) (by rw [hs12_0]; decide) (by rw [hs12_0]; decide) (by rw [hs12_0]; rfl) (by decide) ?_
      refine am_aload_n (j := 0) (am_dk tk_X5_person 8 rfl) rfl rfl ?_
      refine ly_getr (b := 25) rfl fl_X5_26 rfl rfl (am_dk tk_X5_person 9 rfl) ?_
      refine ly_getr (b := 26) rfl fl_X5_142 rfl rfl (am_dk tk_X5_person 10 rfl) ?_
      refine am_iload_n (j := 1) (am_dk tk_X5_person 11 rfl) rfl rfl ?_
      obtain ⟨hi52, h⟩ := am_chk h
      refine ly_iald (k := x1.toNatClampNeg) rfl (am_in_vp hi52) rfl (am_dk tk_X5_person 12 rfl) ?_
      exact am_iret rfl (am_r2 h hΦ) ⟨Nat.le_of_ble_eq_true rfl, Nat.le_of_ble_eq_true rfl⟩ (am_dk tk_X5_person 13 rfl)
    rw [if_neg hs12_0] at h
    by_cases hs12_1 : x2 = 1
    · rw [if_pos hs12_1] at h
      refine am_tableIn (tgt := 54) (am_dk tk_X5_person 7 rfl) (by rw [hs12_1]; decide) (by rw [hs12_1]; decide) (by rw [hs12_1]; rfl) (by decide) ?_
      refine am_aload_n (j := 0) (am_dk tk_X5_person 14 rfl) rfl rfl ?_
      refine ly_getr (b := 25) rfl fl_X5_26 rfl rfl (am_dk tk_X5_person 15 rfl) ?_
      refine ly_getr (b := 28) rfl fl_X5_145 rfl rfl (am_dk tk_X5_person 16 rfl) ?_
      refine am_iload_n (j := 1) (am_dk tk_X5_person 17 rfl) rfl rfl ?_
      obtain ⟨hi62, h⟩ := am_chk h
      refine ly_iald (k := x1.toNatClampNeg) rfl (am_in_vp hi62) rfl (am_dk tk_X5_person 18 rfl) ?_
      exact am_iret rfl (am_r2 h hΦ) ⟨Nat.le_of_ble_eq_true rfl, Nat.le_of_ble_eq_true rfl⟩ (am_dk tk_X5_person 19 rfl)
    rw [if_neg hs12_1] at h
    by_cases hs12_2 : x2 = 2
    · rw [if_pos hs12_2] at h
      refine am_tableIn (tgt := 64) (am_dk tk_X5_person 7 rfl) (by rw [hs12_2]; decide) (by rw [hs12_2]; decide) (by rw [hs12_2]; rfl) (by decide) ?_
      refine am_aload_n (j := 0) (am_dk tk_X5_person 20 rfl) rfl rfl ?_
      refine ly_getr (b := 25) rfl fl_X5_26 rfl rfl (am_dk tk_X5_person 21 rfl) ?_
      refine ly_getr (b := 27) rfl fl_X5_148 rfl rfl (am_dk tk_X5_person 22 rfl) ?_
      refine am_iload_n (j := 1) (am_dk tk_X5_person 23 rfl) rfl rfl ?_
      obtain ⟨hi72, h⟩ := am_chk h
      refine ly_iald (k := x1.toNatClampNeg) rfl (am_in_vp hi72) rfl (am_dk tk_X5_person 24 rfl) ?_
      exact am_iret rfl (am_r2 h hΦ) ⟨Nat.le_of_ble_eq_true rfl, Nat.le_of_ble_eq_true rfl⟩ (am_dk tk_X5_person 25 rfl)
    rw [if_neg hs12_2] at h
    by_cases hs12_3 : x2 = 3
    · rw [if_pos hs12_3] at h
      refine am_tableIn (tgt := 74) (am_dk tk_X5_person 7 rfl) (by rw [hs12_3]; decide) (by rw [hs12_3]; decide) (by rw [hs12_3]; rfl) (by decide) ?_
      refine am_aload_n (j := 0) (am_dk tk_X5_person 26 rfl) rfl rfl ?_
      refine ly_getr (b := tw) rfl fl_X5_10 rfl rfl (am_dk tk_X5_person 27 rfl) ?_
      refine ly_getr (b := (tw + 5)) (lyT_s htw) fl_X5_151 rfl (lyT_r11 htw) (am_dk tk_X5_person 28 rfl) ?_
      refine am_iload_n (j := 1) (am_dk tk_X5_person 29 rfl) rfl rfl ?_
      obtain ⟨hi82, h⟩ := am_chk h
      refine ly_iald (k := x1.toNatClampNeg) (lyT_a11 htw) (am_in_vp hi82) rfl (am_dk tk_X5_person 30 rfl) ?_
      exact am_iret rfl (am_r2 h hΦ) ⟨Nat.le_of_ble_eq_true rfl, Nat.le_of_ble_eq_true rfl⟩ (am_dk tk_X5_person 31 rfl)
    rw [if_neg hs12_3] at h
    refine am_tableOut (tgt := 84) (am_dk tk_X5_person 7 rfl) (by have e0 := lv_neT (a := 0) hs12_0 rfl; have e1 := lv_neT (a := 1) hs12_1 rfl; have e2 := lv_neT (a := 2) hs12_2 rfl; have e3 := lv_neT (a := 3) hs12_3 rfl; omega) (by decide) ?_
    refine am_ldc kc_X5_71 (am_dk tk_X5_person 32 rfl) ?_
    exact am_iret rfl (am_r2 h hΦ) ⟨Nat.le_of_ble_eq_true rfl, Nat.le_of_ble_eq_true rfl⟩ (am_dk tk_X5_person 33 rfl)
  · rw [if_pos hc5] at h
    refine am_ldc kc_X5_141 (am_dk tk_X5_person 4 rfl) ?_
    exact am_iret rfl (am_r2 h hΦ) ⟨Nat.le_of_ble_eq_true rfl, Nat.le_of_ble_eq_true rfl⟩ (am_dk tk_X5_person 5 rfl)
abbrev m_X5_row : am_D := (yX5_row, prog_1_method_7_code, 3, (some .int), { frames := 2, cells := 0, slots := 0, locals := 43 })
theorem ld_X5_row : am_LD m_X5_row 2 := ⟨(am_tb 79 (by decide +kernel) (by decide +kernel)), (am_tb 523 (by decide +kernel) (by decide +kernel)), by decide, by decide, by decide +kernel⟩
def tb_X5_row : List (Nat × Instr × Nat) := [(0, .aload_n 0, 1), (1, .iload_n 1, 1), (2, .invokevirtual 137, 3), (5, .ifCond .ne 6, 3), (8, .ldc 141, 2), (10, .ireturn, 1), (11, .iload_n 2, 1), (12, .iconst 0, 1), (13, .bipush 23, 2), (15, .invokestatic 67, 3), (18, .ifCond .ne 6, 3), (21, .ldc 71, 2), (23, .ireturn, 1), (24, .aload_n 0, 1), (25, .getfield 26, 3), (28, .getfield 154, 3), (31, .iload_n 1, 1), (32, .bipush 24, 2), (34, .imul, 1), (35, .iload_n 2, 1), (36, .iadd, 1), (37, .iaload, 1), (38, .ireturn, 1)]
theorem tk_X5_row : am_tbl prog_1_method_7_code tb_X5_row = true := by decide +kernel
def f_X5_row (tw : Nat) (x1 : Int32) (x2 : Int32) (D : am_M) : Option (Int32 × am_M) := if (f_X5_isPerson tw x1 D) = 0 then some ((-1000000001), D) else if (f_X5_isWithin x2 0 23) = 0 then some ((-1000000002), D) else if am_in ((x1 * 24) + x2) 120 = true then some (D 29 ((x1 * 24) + x2).toNatClampNeg, D) else none
theorem ct_X5_row {l : Launch} {tw : Nat} {tp : Bool} (htw : lyT tw) {x1 : Int32} {x2 : Int32} {r : Int32} {D D' : am_M} (h : f_X5_row tw x1 x2 D = some (r, D')) : am_CT l m_X5_row false [.ref 0, .int x1, .int x2] (ly tw tp D) (am_is (some (.int r)) (ly tw tp D')) := by
  have hΦ : am_is (some (.int r)) (ly tw tp D') (some (.int r)) (ly tw tp D') := ⟨rfl, rfl⟩
  refine am_CT.of (by decide) (Nat.le_of_ble_eq_true rfl) ?_
  show am_Ex _ _ _ 0 [(0, .ref 0), (1, .int x1), (2, .int x2)] [] _
  rw [f_X5_row] at h
  refine am_aload_n (j := 0) (am_dk tk_X5_row 0 rfl) rfl rfl ?_
  refine am_iload_n (j := 1) (am_dk tk_X5_row 1 rfl) rfl rfl ?_
  refine ly_cV (M := m_X5_isPerson) (As := [.int x1]) (b := 0) (st := []) (ct_X5_isPerson htw _ _) rfl (by decide) rfl ml_X5_137 ld_X5_isPerson rfl ⟨Nat.le_of_ble_eq_true rfl, Nat.le_of_ble_eq_true rfl⟩ (Nat.le_of_ble_eq_true rfl) ⟨rfl, rfl⟩ ⟨Nat.le_of_ble_eq_true rfl, Nat.le_of_ble_eq_true rfl⟩ (am_dk tk_X5_row 2 rfl) (am_kki ?_)
  refine am_if_ne (tgt := 11) (am_dk tk_X5_row 3 rfl) (by decide) (fun hc5 => ?_) (fun hc5 => ?_)
  · rw [if_neg hc5] at h
    refine am_iload_n (j := 2) (am_dk tk_X5_row 6 rfl) rfl rfl ?_
    refine am_iconst (v := 0) (am_dk tk_X5_row 7 rfl) (by decide) ?_
    refine am_bipush (v := 23) (am_dk tk_X5_row 8 rfl) (by decide) ?_
    refine am_cS (M := m_X5_isWithin) (As := [.int x2, .int 0, .int 23]) (st := []) (ct_X5_isWithin _ _ _ _) ml_X5_67 ld_X5_isWithin rfl ⟨Nat.le_of_ble_eq_true rfl, Nat.le_of_ble_eq_true rfl⟩ (Nat.le_of_ble_eq_true rfl) ⟨rfl, rfl⟩ ⟨Nat.le_of_ble_eq_true rfl, Nat.le_of_ble_eq_true rfl⟩ (am_dk tk_X5_row 9 rfl) (am_kki ?_)
    refine am_if_ne (tgt := 24) (am_dk tk_X5_row 10 rfl) (by decide) (fun hc18 => ?_) (fun hc18 => ?_)
    · rw [if_neg hc18] at h
      refine am_aload_n (j := 0) (am_dk tk_X5_row 13 rfl) rfl rfl ?_
      refine ly_getr (b := 25) rfl fl_X5_26 rfl rfl (am_dk tk_X5_row 14 rfl) ?_
      refine ly_getr (b := 29) rfl fl_X5_154 rfl rfl (am_dk tk_X5_row 15 rfl) ?_
      refine am_iload_n (j := 1) (am_dk tk_X5_row 16 rfl) rfl rfl ?_
      refine am_bipush (v := 24) (am_dk tk_X5_row 17 rfl) (by decide) ?_
      refine am_imul (am_dk tk_X5_row 18 rfl) ?_
      refine am_iload_n (j := 2) (am_dk tk_X5_row 19 rfl) rfl rfl ?_
      refine am_iadd (am_dk tk_X5_row 20 rfl) ?_
      obtain ⟨hi37, h⟩ := am_chk h
      refine ly_iald (k := ((x1 * 24) + x2).toNatClampNeg) rfl (am_in_vp hi37) rfl (am_dk tk_X5_row 21 rfl) ?_
      exact am_iret rfl (am_r2 h hΦ) ⟨Nat.le_of_ble_eq_true rfl, Nat.le_of_ble_eq_true rfl⟩ (am_dk tk_X5_row 22 rfl)
    · rw [if_pos hc18] at h
      refine am_ldc kc_X5_71 (am_dk tk_X5_row 11 rfl) ?_
      exact am_iret rfl (am_r2 h hΦ) ⟨Nat.le_of_ble_eq_true rfl, Nat.le_of_ble_eq_true rfl⟩ (am_dk tk_X5_row 12 rfl)
  · rw [if_pos hc5] at h
    refine am_ldc kc_X5_141 (am_dk tk_X5_row 4 rfl) ?_
    exact am_iret rfl (am_r2 h hΦ) ⟨Nat.le_of_ble_eq_true rfl, Nat.le_of_ble_eq_true rfl⟩ (am_dk tk_X5_row 5 rfl)
abbrev m_X5_coin : am_D := (yX5_coin, prog_1_method_8_code, 2, (some .int), { frames := 1, cells := 0, slots := 0, locals := 22 })
theorem ld_X5_coin : am_LD m_X5_coin 1 := ⟨(am_tb 79 (by decide +kernel) (by decide +kernel)), (am_tb 527 (by decide +kernel) (by decide +kernel)), by decide, by decide, by decide +kernel⟩
def tb_X5_coin : List (Nat × Instr × Nat) := [(0, .iload_n 1, 1), (1, .iconst 0, 1), (2, .aload_n 0, 1), (3, .getfield 10, 3), (6, .getfield 119, 3), (9, .iconst 1, 1), (10, .isub, 1), (11, .invokestatic 67, 3), (14, .ifCond .ne 6, 3), (17, .ldc 141, 2), (19, .ireturn, 1), (20, .aload_n 0, 1), (21, .getfield 10, 3), (24, .getfield 157, 3), (27, .iload_n 1, 1), (28, .iaload, 1), (29, .ireturn, 1)]
theorem tk_X5_coin : am_tbl prog_1_method_8_code tb_X5_coin = true := by decide +kernel
def f_X5_coin (tw : Nat) (x1 : Int32) (D : am_M) : Option (Int32 × am_M) := if (f_X5_isWithin x1 0 ((D tw 4) - 1)) = 0 then some ((-1000000001), D) else if am_in x1 4 = true then some (D (tw + 1) x1.toNatClampNeg, D) else none
theorem ct_X5_coin {l : Launch} {tw : Nat} {tp : Bool} (htw : lyT tw) {x1 : Int32} {r : Int32} {D D' : am_M} (h : f_X5_coin tw x1 D = some (r, D')) : am_CT l m_X5_coin false [.ref 0, .int x1] (ly tw tp D) (am_is (some (.int r)) (ly tw tp D')) := by
  have hΦ : am_is (some (.int r)) (ly tw tp D') (some (.int r)) (ly tw tp D') := ⟨rfl, rfl⟩
  refine am_CT.of (by decide) (Nat.le_of_ble_eq_true rfl) ?_
  show am_Ex _ _ _ 0 [(0, .ref 0), (1, .int x1)] [] _
  rw [f_X5_coin] at h
  refine am_iload_n (j := 1) (am_dk tk_X5_coin 0 rfl) rfl rfl ?_
  refine am_iconst (v := 0) (am_dk tk_X5_coin 1 rfl) (by decide) ?_
  refine am_aload_n (j := 0) (am_dk tk_X5_coin 2 rfl) rfl rfl ?_
  refine ly_getr (b := tw) rfl fl_X5_10 rfl rfl (am_dk tk_X5_coin 3 rfl) ?_
  refine ly_geti (lyT_s htw) fl_X5_119 rfl (am_dk tk_X5_coin 4 rfl) ?_
  refine am_iconst (v := 1) (am_dk tk_X5_coin 5 rfl) (by decide) ?_
  refine am_isub (am_dk tk_X5_coin 6 rfl) ?_
  refine am_cS (M := m_X5_isWithin) (As := [.int x1, .int 0, .int ((D tw 4) - 1)]) (st := []) (ct_X5_isWithin _ _ _ _) ml_X5_67 ld_X5_isWithin rfl ⟨Nat.le_of_ble_eq_true rfl, Nat.le_of_ble_eq_true rfl⟩ (Nat.le_of_ble_eq_true rfl) ⟨rfl, rfl⟩ ⟨Nat.le_of_ble_eq_true rfl, Nat.le_of_ble_eq_true rfl⟩ (am_dk tk_X5_coin 7 rfl) (am_kki ?_)
  refine am_if_ne (tgt := 20) (am_dk tk_X5_coin 8 rfl) (by decide) (fun hc14 => ?_) (fun hc14 => ?_)
  · rw [if_neg hc14] at h
    refine am_aload_n (j := 0) (am_dk tk_X5_coin 11 rfl) rfl rfl ?_
    refine ly_getr (b := tw) rfl fl_X5_10 rfl rfl (am_dk tk_X5_coin 12 rfl) ?_
    refine ly_getr (b := (tw + 1)) (lyT_s htw) fl_X5_157 rfl (lyT_r7 htw) (am_dk tk_X5_coin 13 rfl) ?_
    refine am_iload_n (j := 1) (am_dk tk_X5_coin 14 rfl) rfl rfl ?_
    obtain ⟨hi28, h⟩ := am_chk h
    refine ly_iald (k := x1.toNatClampNeg) (lyT_a7 htw) (am_in_vp hi28) rfl (am_dk tk_X5_coin 15 rfl) ?_
    exact am_iret rfl (am_r2 h hΦ) ⟨Nat.le_of_ble_eq_true rfl, Nat.le_of_ble_eq_true rfl⟩ (am_dk tk_X5_coin 16 rfl)
  · rw [if_pos hc14] at h
    refine am_ldc kc_X5_141 (am_dk tk_X5_coin 9 rfl) ?_
    exact am_iret rfl (am_r2 h hΦ) ⟨Nat.le_of_ble_eq_true rfl, Nat.le_of_ble_eq_true rfl⟩ (am_dk tk_X5_coin 10 rfl)
abbrev m_X5_debtState : am_D := (yX5_debtState, prog_1_method_10_code, 2, (some .int), { frames := 1, cells := 0, slots := 0, locals := 21 })
theorem ld_X5_debtState : am_LD m_X5_debtState 1 := ⟨(am_tb 79 (by decide +kernel) (by decide +kernel)), (am_tb 535 (by decide +kernel) (by decide +kernel)), by decide, by decide, by decide +kernel⟩
def tb_X5_debtState : List (Nat × Instr × Nat) := [(0, .aload_n 0, 1), (1, .getfield 26, 3), (4, .getfield 128, 3), (7, .iload_n 1, 1), (8, .invokestatic 172, 3), (11, .ifCond .eq 5, 3), (14, .iconst 1, 1), (15, .ireturn, 1), (16, .aload_n 0, 1), (17, .getfield 26, 3), (20, .getfield 131, 3), (23, .iload_n 1, 1), (24, .invokestatic 172, 3), (27, .ifCond .eq 7, 3), (30, .iconst 2, 1), (31, .goto 4, 3), (34, .iconst 0, 1), (35, .ireturn, 1)]
theorem tk_X5_debtState : am_tbl prog_1_method_10_code tb_X5_debtState = true := by decide +kernel
def f_X5_debtState (tw : Nat) (x1 : Int32) (D : am_M) : Int32 := if (f_X5_isIn (D 25 4) x1) = 0 then if (f_X5_isIn (D 25 5) x1) = 0 then 0 else 2 else 1
theorem ct_X5_debtState {l : Launch} {tw : Nat} {tp : Bool} (htw : lyT tw) (x1 : Int32) (D : am_M) : am_CT l m_X5_debtState false [.ref 0, .int x1] (ly tw tp D) (am_is (some (.int (f_X5_debtState tw x1 D))) (ly tw tp D)) := by
  refine am_CT.of (by decide) (Nat.le_of_ble_eq_true rfl) ?_
  show am_Ex _ _ _ 0 [(0, .ref 0), (1, .int x1)] [] _
  refine am_aload_n (j := 0) (am_dk tk_X5_debtState 0 rfl) rfl rfl ?_
  refine ly_getr (b := 25) rfl fl_X5_26 rfl rfl (am_dk tk_X5_debtState 1 rfl) ?_
  refine ly_geti rfl fl_X5_128 rfl (am_dk tk_X5_debtState 2 rfl) ?_
  refine am_iload_n (j := 1) (am_dk tk_X5_debtState 3 rfl) rfl rfl ?_
  refine am_cS (M := m_X5_isIn) (As := [.int (D 25 4), .int x1]) (st := []) (ct_X5_isIn _ _ _) ml_X5_172 ld_X5_isIn rfl ⟨Nat.le_of_ble_eq_true rfl, Nat.le_of_ble_eq_true rfl⟩ (Nat.le_of_ble_eq_true rfl) ⟨rfl, rfl⟩ ⟨Nat.le_of_ble_eq_true rfl, Nat.le_of_ble_eq_true rfl⟩ (am_dk tk_X5_debtState 4 rfl) (am_kki ?_)
  refine am_if_eq (tgt := 16) (am_dk tk_X5_debtState 5 rfl) (by decide) (fun hc11 => ?_) (fun hc11 => ?_)
  · skip
    refine am_aload_n (j := 0) (am_dk tk_X5_debtState 8 rfl) rfl rfl ?_
    refine ly_getr (b := 25) rfl fl_X5_26 rfl rfl (am_dk tk_X5_debtState 9 rfl) ?_
    refine ly_geti rfl fl_X5_131 rfl (am_dk tk_X5_debtState 10 rfl) ?_
    refine am_iload_n (j := 1) (am_dk tk_X5_debtState 11 rfl) rfl rfl ?_
    refine am_cS (M := m_X5_isIn) (As := [.int (D 25 5), .int x1]) (st := []) (ct_X5_isIn _ _ _) ml_X5_172 ld_X5_isIn rfl ⟨Nat.le_of_ble_eq_true rfl, Nat.le_of_ble_eq_true rfl⟩ (Nat.le_of_ble_eq_true rfl) ⟨rfl, rfl⟩ ⟨Nat.le_of_ble_eq_true rfl, Nat.le_of_ble_eq_true rfl⟩ (am_dk tk_X5_debtState 12 rfl) (am_kki ?_)
    refine am_if_eq (tgt := 34) (am_dk tk_X5_debtState 13 rfl) (by decide) (fun hc27 => ?_) (fun hc27 => ?_)
    · skip
      refine am_iconst (v := 0) (am_dk tk_X5_debtState 16 rfl) (by decide) ?_
      exact am_iret rfl ⟨by simp only [f_X5_debtState, if_pos hc11, if_pos hc27], rfl⟩ ⟨Nat.le_of_ble_eq_true rfl, Nat.le_of_ble_eq_true rfl⟩ (am_dk tk_X5_debtState 17 rfl)
    · skip
      refine am_iconst (v := 2) (am_dk tk_X5_debtState 14 rfl) (by decide) ?_
      refine am_goto (tgt := 35) (am_dk tk_X5_debtState 15 rfl) (by decide) ?_
      exact am_iret rfl ⟨by simp only [f_X5_debtState, if_pos hc11, if_neg hc27], rfl⟩ ⟨Nat.le_of_ble_eq_true rfl, Nat.le_of_ble_eq_true rfl⟩ (am_dk tk_X5_debtState 17 rfl)
  · skip
    refine am_iconst (v := 1) (am_dk tk_X5_debtState 6 rfl) (by decide) ?_
    exact am_iret rfl ⟨by simp only [f_X5_debtState, if_neg hc11], rfl⟩ ⟨Nat.le_of_ble_eq_true rfl, Nat.le_of_ble_eq_true rfl⟩ (am_dk tk_X5_debtState 7 rfl)
abbrev m_X5_debt : am_D := (yX5_debt, prog_1_method_9_code, 3, (some .int), { frames := 2, cells := 0, slots := 0, locals := 42 })
theorem ld_X5_debt : am_LD m_X5_debt 2 := ⟨(am_tb 79 (by decide +kernel) (by decide +kernel)), (am_tb 531 (by decide +kernel) (by decide +kernel)), by decide, by decide, by decide +kernel⟩
def tb_X5_debt : List (Nat × Instr × Nat) := [(0, .iload_n 1, 1), (1, .iconst 0, 1), (2, .aload_n 0, 1), (3, .getfield 10, 3), (6, .getfield 122, 3), (9, .iconst 1, 1), (10, .isub, 1), (11, .invokestatic 67, 3), (14, .ifCond .ne 6, 3), (17, .ldc 141, 2), (19, .ireturn, 1), (20, .iload_n 2, 1), (21, .tableswitch 67 0 3 #[31, 41, 51, 61], 31), (52, .aload_n 0, 1), (53, .getfield 10, 3), (56, .getfield 160, 3), (59, .iload_n 1, 1), (60, .iaload, 1), (61, .ireturn, 1), (62, .aload_n 0, 1), (63, .getfield 10, 3), (66, .getfield 163, 3), (69, .iload_n 1, 1), (70, .iaload, 1), (71, .ireturn, 1), (72, .aload_n 0, 1), (73, .getfield 10, 3), (76, .getfield 166, 3), (79, .iload_n 1, 1), (80, .iaload, 1), (81, .ireturn, 1), (82, .aload_n 0, 1), (83, .iload_n 1, 1), (84, .invokevirtual 169, 3), (87, .ireturn, 1), (88, .ldc 71, 2), (90, .ireturn, 1)]
theorem tk_X5_debt : am_tbl prog_1_method_9_code tb_X5_debt = true := by decide +kernel
def f_X5_debt (tw : Nat) (x1 : Int32) (x2 : Int32) (D : am_M) : Option (Int32 × am_M) := if (f_X5_isWithin x1 0 ((D tw 5) - 1)) = 0 then some ((-1000000001), D) else if x2 = 0 then if am_in x1 8 = true then some (D (tw + 2) x1.toNatClampNeg, D) else none else if x2 = 1 then if am_in x1 8 = true then some (D (tw + 3) x1.toNatClampNeg, D) else none else if x2 = 2 then if am_in x1 8 = true then some (D (tw + 4) x1.toNatClampNeg, D) else none else if x2 = 3 then some (f_X5_debtState tw x1 D, D) else some ((-1000000002), D)
theorem ct_X5_debt {l : Launch} {tw : Nat} {tp : Bool} (htw : lyT tw) {x1 : Int32} {x2 : Int32} {r : Int32} {D D' : am_M} (h : f_X5_debt tw x1 x2 D = some (r, D')) : am_CT l m_X5_debt false [.ref 0, .int x1, .int x2] (ly tw tp D) (am_is (some (.int r)) (ly tw tp D')) := by
  have hΦ : am_is (some (.int r)) (ly tw tp D') (some (.int r)) (ly tw tp D') := ⟨rfl, rfl⟩
  refine am_CT.of (by decide) (Nat.le_of_ble_eq_true rfl) ?_
  show am_Ex _ _ _ 0 [(0, .ref 0), (1, .int x1), (2, .int x2)] [] _
  rw [f_X5_debt] at h
  refine am_iload_n (j := 1) (am_dk tk_X5_debt 0 rfl) rfl rfl ?_
  refine am_iconst (v := 0) (am_dk tk_X5_debt 1 rfl) (by decide) ?_
  refine am_aload_n (j := 0) (am_dk tk_X5_debt 2 rfl) rfl rfl ?_
  refine ly_getr (b := tw) rfl fl_X5_10 rfl rfl (am_dk tk_X5_debt 3 rfl) ?_
  refine ly_geti (lyT_s htw) fl_X5_122 rfl (am_dk tk_X5_debt 4 rfl) ?_
  refine am_iconst (v := 1) (am_dk tk_X5_debt 5 rfl) (by decide) ?_
  refine am_isub (am_dk tk_X5_debt 6 rfl) ?_
  refine am_cS (M := m_X5_isWithin) (As := [.int x1, .int 0, .int ((D tw 5) - 1)]) (st := []) (ct_X5_isWithin _ _ _ _) ml_X5_67 ld_X5_isWithin rfl ⟨Nat.le_of_ble_eq_true rfl, Nat.le_of_ble_eq_true rfl⟩ (Nat.le_of_ble_eq_true rfl) ⟨rfl, rfl⟩ ⟨Nat.le_of_ble_eq_true rfl, Nat.le_of_ble_eq_true rfl⟩ (am_dk tk_X5_debt 7 rfl) (am_kki ?_)
  refine am_if_ne (tgt := 20) (am_dk tk_X5_debt 8 rfl) (by decide) (fun hc14 => ?_) (fun hc14 => ?_)
  · rw [if_neg hc14] at h
    refine am_iload_n (j := 2) (am_dk tk_X5_debt 11 rfl) rfl rfl ?_
    by_cases hs21_0 : x2 = 0
    · rw [if_pos hs21_0] at h
      refine am_tableIn (tgt := 52) (am_dk tk_X5_debt 12 rfl) (by rw [hs21_0]; decide) (by rw [hs21_0]; decide) (by rw [hs21_0]; rfl) (by decide) ?_
      refine am_aload_n (j := 0) (am_dk tk_X5_debt 13 rfl) rfl rfl ?_
      refine ly_getr (b := tw) rfl fl_X5_10 rfl rfl (am_dk tk_X5_debt 14 rfl) ?_
      refine ly_getr (b := (tw + 2)) (lyT_s htw) fl_X5_160 rfl (lyT_r8 htw) (am_dk tk_X5_debt 15 rfl) ?_
      refine am_iload_n (j := 1) (am_dk tk_X5_debt 16 rfl) rfl rfl ?_
      obtain ⟨hi60, h⟩ := am_chk h
      refine ly_iald (k := x1.toNatClampNeg) (lyT_a8 htw) (am_in_vp hi60) rfl (am_dk tk_X5_debt 17 rfl) ?_
      exact am_iret rfl (am_r2 h hΦ) ⟨Nat.le_of_ble_eq_true rfl, Nat.le_of_ble_eq_true rfl⟩ (am_dk tk_X5_debt 18 rfl)
    rw [if_neg hs21_0] at h
    by_cases hs21_1 : x2 = 1
    · rw [if_pos hs21_1] at h
      refine am_tableIn (tgt := 62) (am_dk tk_X5_debt 12 rfl) (by rw [hs21_1]; decide) (by rw [hs21_1]; decide) (by rw [hs21_1]; rfl) (by decide) ?_
      refine am_aload_n (j := 0) (am_dk tk_X5_debt 19 rfl) rfl rfl ?_
      refine ly_getr (b := tw) rfl fl_X5_10 rfl rfl (am_dk tk_X5_debt 20 rfl) ?_
      refine ly_getr (b := (tw + 3)) (lyT_s htw) fl_X5_163 rfl (lyT_r9 htw) (am_dk tk_X5_debt 21 rfl) ?_
      refine am_iload_n (j := 1) (am_dk tk_X5_debt 22 rfl) rfl rfl ?_
      obtain ⟨hi70, h⟩ := am_chk h
      refine ly_iald (k := x1.toNatClampNeg) (lyT_a9 htw) (am_in_vp hi70) rfl (am_dk tk_X5_debt 23 rfl) ?_
      exact am_iret rfl (am_r2 h hΦ) ⟨Nat.le_of_ble_eq_true rfl, Nat.le_of_ble_eq_true rfl⟩ (am_dk tk_X5_debt 24 rfl)
    rw [if_neg hs21_1] at h
    by_cases hs21_2 : x2 = 2
    · rw [if_pos hs21_2] at h
      refine am_tableIn (tgt := 72) (am_dk tk_X5_debt 12 rfl) (by rw [hs21_2]; decide) (by rw [hs21_2]; decide) (by rw [hs21_2]; rfl) (by decide) ?_
      refine am_aload_n (j := 0) (am_dk tk_X5_debt 25 rfl) rfl rfl ?_
      refine ly_getr (b := tw) rfl fl_X5_10 rfl rfl (am_dk tk_X5_debt 26 rfl) ?_
      refine ly_getr (b := (tw + 4)) (lyT_s htw) fl_X5_166 rfl (lyT_r10 htw) (am_dk tk_X5_debt 27 rfl) ?_
      refine am_iload_n (j := 1) (am_dk tk_X5_debt 28 rfl) rfl rfl ?_
      obtain ⟨hi80, h⟩ := am_chk h
      refine ly_iald (k := x1.toNatClampNeg) (lyT_a10 htw) (am_in_vp hi80) rfl (am_dk tk_X5_debt 29 rfl) ?_
      exact am_iret rfl (am_r2 h hΦ) ⟨Nat.le_of_ble_eq_true rfl, Nat.le_of_ble_eq_true rfl⟩ (am_dk tk_X5_debt 30 rfl)
    rw [if_neg hs21_2] at h
    by_cases hs21_3 : x2 = 3
    · rw [if_pos hs21_3] at h
      refine am_tableIn (tgt := 82) (am_dk tk_X5_debt 12 rfl) (by rw [hs21_3]; decide) (by rw [hs21_3]; decide) (by rw [hs21_3]; rfl) (by decide) ?_
      refine am_aload_n (j := 0) (am_dk tk_X5_debt 31 rfl) rfl rfl ?_
      refine am_iload_n (j := 1) (am_dk tk_X5_debt 32 rfl) rfl rfl ?_
      refine ly_cV (M := m_X5_debtState) (As := [.int x1]) (b := 0) (st := []) (ct_X5_debtState htw _ _) rfl (by decide) rfl ml_X5_169 ld_X5_debtState rfl ⟨Nat.le_of_ble_eq_true rfl, Nat.le_of_ble_eq_true rfl⟩ (Nat.le_of_ble_eq_true rfl) ⟨rfl, rfl⟩ ⟨Nat.le_of_ble_eq_true rfl, Nat.le_of_ble_eq_true rfl⟩ (am_dk tk_X5_debt 33 rfl) (am_kki ?_)
      exact am_iret rfl (am_r2 h hΦ) ⟨Nat.le_of_ble_eq_true rfl, Nat.le_of_ble_eq_true rfl⟩ (am_dk tk_X5_debt 34 rfl)
    rw [if_neg hs21_3] at h
    refine am_tableOut (tgt := 88) (am_dk tk_X5_debt 12 rfl) (by have e0 := lv_neT (a := 0) hs21_0 rfl; have e1 := lv_neT (a := 1) hs21_1 rfl; have e2 := lv_neT (a := 2) hs21_2 rfl; have e3 := lv_neT (a := 3) hs21_3 rfl; omega) (by decide) ?_
    refine am_ldc kc_X5_71 (am_dk tk_X5_debt 35 rfl) ?_
    exact am_iret rfl (am_r2 h hΦ) ⟨Nat.le_of_ble_eq_true rfl, Nat.le_of_ble_eq_true rfl⟩ (am_dk tk_X5_debt 36 rfl)
  · rw [if_pos hc14] at h
    refine am_ldc kc_X5_141 (am_dk tk_X5_debt 9 rfl) ?_
    exact am_iret rfl (am_r2 h hΦ) ⟨Nat.le_of_ble_eq_true rfl, Nat.le_of_ble_eq_true rfl⟩ (am_dk tk_X5_debt 10 rfl)
abbrev m_X5_refusalOfHours : am_D := (yX5_refusalOfHours, prog_1_method_13_code, 2, (some .int), { frames := 1, cells := 0, slots := 0, locals := 22 })
theorem ld_X5_refusalOfHours : am_LD m_X5_refusalOfHours 1 := ⟨(am_tb 79 (by decide +kernel) (by decide +kernel)), (am_tb 544 (by decide +kernel) (by decide +kernel)), by decide, by decide, by decide +kernel⟩
def tb_X5_refusalOfHours : List (Nat × Instr × Nat) := [(0, .iload_n 1, 1), (1, .iconst 1, 1), (2, .bipush 96, 2), (4, .invokestatic 67, 3), (7, .ifCond .ne 6, 3), (10, .ldc 71, 2), (12, .ireturn, 1), (13, .aload_n 0, 1), (14, .getfield 10, 3), (17, .getfield 110, 3), (20, .ifCond .ne 6, 3), (23, .ldc 191, 2), (25, .ireturn, 1), (26, .aload_n 0, 1), (27, .getfield 26, 3), (30, .getfield 125, 3), (33, .ldc 192, 2), (35, .if_icmp .le 8, 3), (38, .ldc 75, 2), (40, .goto 4, 3), (43, .iconst 0, 1), (44, .ireturn, 1)]
theorem tk_X5_refusalOfHours : am_tbl prog_1_method_13_code tb_X5_refusalOfHours = true := by decide +kernel
def f_X5_refusalOfHours (tw : Nat) (x1 : Int32) (D : am_M) : Int32 := if (f_X5_isWithin x1 1 96) = 0 then (-1000000002) else if (D tw 0) = 0 then (-1000000003) else if (D 25 6) ≤ 90000 then 0 else (-1000000004)
theorem ct_X5_refusalOfHours {l : Launch} {tw : Nat} {tp : Bool} (htw : lyT tw) (x1 : Int32) (D : am_M) : am_CT l m_X5_refusalOfHours false [.ref 0, .int x1] (ly tw tp D) (am_is (some (.int (f_X5_refusalOfHours tw x1 D))) (ly tw tp D)) := by
  refine am_CT.of (by decide) (Nat.le_of_ble_eq_true rfl) ?_
  show am_Ex _ _ _ 0 [(0, .ref 0), (1, .int x1)] [] _
  refine am_iload_n (j := 1) (am_dk tk_X5_refusalOfHours 0 rfl) rfl rfl ?_
  refine am_iconst (v := 1) (am_dk tk_X5_refusalOfHours 1 rfl) (by decide) ?_
  refine am_bipush (v := 96) (am_dk tk_X5_refusalOfHours 2 rfl) (by decide) ?_
  refine am_cS (M := m_X5_isWithin) (As := [.int x1, .int 1, .int 96]) (st := []) (ct_X5_isWithin _ _ _ _) ml_X5_67 ld_X5_isWithin rfl ⟨Nat.le_of_ble_eq_true rfl, Nat.le_of_ble_eq_true rfl⟩ (Nat.le_of_ble_eq_true rfl) ⟨rfl, rfl⟩ ⟨Nat.le_of_ble_eq_true rfl, Nat.le_of_ble_eq_true rfl⟩ (am_dk tk_X5_refusalOfHours 3 rfl) (am_kki ?_)
  refine am_if_ne (tgt := 13) (am_dk tk_X5_refusalOfHours 4 rfl) (by decide) (fun hc7 => ?_) (fun hc7 => ?_)
  · skip
    refine am_aload_n (j := 0) (am_dk tk_X5_refusalOfHours 7 rfl) rfl rfl ?_
    refine ly_getr (b := tw) rfl fl_X5_10 rfl rfl (am_dk tk_X5_refusalOfHours 8 rfl) ?_
    refine ly_geti (lyT_s htw) fl_X5_110 rfl (am_dk tk_X5_refusalOfHours 9 rfl) ?_
    refine am_if_ne (tgt := 26) (am_dk tk_X5_refusalOfHours 10 rfl) (by decide) (fun hc20 => ?_) (fun hc20 => ?_)
    · skip
      refine am_aload_n (j := 0) (am_dk tk_X5_refusalOfHours 13 rfl) rfl rfl ?_
      refine ly_getr (b := 25) rfl fl_X5_26 rfl rfl (am_dk tk_X5_refusalOfHours 14 rfl) ?_
      refine ly_geti rfl fl_X5_125 rfl (am_dk tk_X5_refusalOfHours 15 rfl) ?_
      refine am_ldc kc_X5_192 (am_dk tk_X5_refusalOfHours 16 rfl) ?_
      refine am_icmp_le (tgt := 43) (am_dk tk_X5_refusalOfHours 17 rfl) (by decide) (fun hc35 => ?_) (fun hc35 => ?_)
      · skip
        refine am_iconst (v := 0) (am_dk tk_X5_refusalOfHours 20 rfl) (by decide) ?_
        exact am_iret rfl ⟨by simp only [f_X5_refusalOfHours, if_neg hc7, if_neg hc20, if_pos hc35], rfl⟩ ⟨Nat.le_of_ble_eq_true rfl, Nat.le_of_ble_eq_true rfl⟩ (am_dk tk_X5_refusalOfHours 21 rfl)
      · skip
        refine am_ldc kc_X5_75 (am_dk tk_X5_refusalOfHours 18 rfl) ?_
        refine am_goto (tgt := 44) (am_dk tk_X5_refusalOfHours 19 rfl) (by decide) ?_
        exact am_iret rfl ⟨by simp only [f_X5_refusalOfHours, if_neg hc7, if_neg hc20, if_neg hc35], rfl⟩ ⟨Nat.le_of_ble_eq_true rfl, Nat.le_of_ble_eq_true rfl⟩ (am_dk tk_X5_refusalOfHours 21 rfl)
    · skip
      refine am_ldc kc_X5_191 (am_dk tk_X5_refusalOfHours 11 rfl) ?_
      exact am_iret rfl ⟨by simp only [f_X5_refusalOfHours, if_neg hc7, if_pos hc20], rfl⟩ ⟨Nat.le_of_ble_eq_true rfl, Nat.le_of_ble_eq_true rfl⟩ (am_dk tk_X5_refusalOfHours 12 rfl)
  · skip
    refine am_ldc kc_X5_71 (am_dk tk_X5_refusalOfHours 5 rfl) ?_
    exact am_iret rfl ⟨by simp only [f_X5_refusalOfHours, if_pos hc7], rfl⟩ ⟨Nat.le_of_ble_eq_true rfl, Nat.le_of_ble_eq_true rfl⟩ (am_dk tk_X5_refusalOfHours 6 rfl)
abbrev m_X5_hour : am_D := (yX5_hour, prog_1_method_11_code, 3, (some .int), { frames := 4, cells := 0, slots := 0, locals := 86 })
theorem ld_X5_hour : am_LD m_X5_hour 1 := ⟨(am_tb 79 (by decide +kernel) (by decide +kernel)), (am_tb 540 (by decide +kernel) (by decide +kernel)), by decide, by decide, by decide +kernel⟩
def tb_X5_hour : List (Nat × Instr × Nat) := [(0, .aload_n 0, 1), (1, .iload_n 1, 1), (2, .invokevirtual 176, 3), (5, .istore_n 2, 1), (6, .iload_n 2, 1), (7, .ifCond .eq 5, 3), (10, .iload_n 2, 1), (11, .ireturn, 1), (12, .aload_n 0, 1), (13, .getfield 26, 3), (16, .aload_n 0, 1), (17, .getfield 10, 3), (20, .iload_n 1, 1), (21, .invokevirtual 179, 3), (24, .aload_n 0, 1), (25, .getfield 26, 3), (28, .getfield 125, 3), (31, .ireturn, 1)]
theorem tk_X5_hour : am_tbl prog_1_method_11_code tb_X5_hour = true := by decide +kernel
def f_X5_hour (tw : Nat) (x1 : Int32) (D : am_M) : Option (Int32 × am_M) := if (f_X5_refusalOfHours tw x1 D) = 0 then (f_X2_passHours 25 tw x1 D).bind fun q21 => some (q21 25 6, q21) else some (f_X5_refusalOfHours tw x1 D, D)
theorem ct_X5_hour {l : Launch} {tw : Nat} {tp : Bool} (htw : lyT tw) {x1 : Int32} {r : Int32} {D D' : am_M} (h : f_X5_hour tw x1 D = some (r, D')) : am_CT l m_X5_hour false [.ref 0, .int x1] (ly tw tp D) (am_is (some (.int r)) (ly tw tp D')) := by
  have hΦ : am_is (some (.int r)) (ly tw tp D') (some (.int r)) (ly tw tp D') := ⟨rfl, rfl⟩
  refine am_CT.of (by decide) (Nat.le_of_ble_eq_true rfl) ?_
  show am_Ex _ _ _ 0 [(0, .ref 0), (1, .int x1)] [] _
  rw [f_X5_hour] at h
  refine am_aload_n (j := 0) (am_dk tk_X5_hour 0 rfl) rfl rfl ?_
  refine am_iload_n (j := 1) (am_dk tk_X5_hour 1 rfl) rfl rfl ?_
  refine ly_cV (M := m_X5_refusalOfHours) (As := [.int x1]) (b := 0) (st := []) (ct_X5_refusalOfHours htw _ _) rfl (by decide) rfl ml_X5_176 ld_X5_refusalOfHours rfl ⟨Nat.le_of_ble_eq_true rfl, Nat.le_of_ble_eq_true rfl⟩ (Nat.le_of_ble_eq_true rfl) ⟨rfl, rfl⟩ ⟨Nat.le_of_ble_eq_true rfl, Nat.le_of_ble_eq_true rfl⟩ (am_dk tk_X5_hour 2 rfl) (am_kki ?_)
  refine am_istore_n (L' := [(2, .int (f_X5_refusalOfHours tw x1 D)), (0, .ref 0), (1, .int x1)]) (am_dk tk_X5_hour 3 rfl) rfl (Nat.le_of_ble_eq_true rfl) rfl ?_
  refine am_iload_n (j := 0) (am_dk tk_X5_hour 4 rfl) rfl rfl ?_
  refine am_if_eq (tgt := 12) (am_dk tk_X5_hour 5 rfl) (by decide) (fun hc7 => ?_) (fun hc7 => ?_)
  · rw [if_pos hc7] at h
    refine am_aload_n (j := 1) (am_dk tk_X5_hour 8 rfl) rfl rfl ?_
    refine ly_getr (b := 25) rfl fl_X5_26 rfl rfl (am_dk tk_X5_hour 9 rfl) ?_
    refine am_aload_n (j := 1) (am_dk tk_X5_hour 10 rfl) rfl rfl ?_
    refine ly_getr (b := tw) rfl fl_X5_10 rfl rfl (am_dk tk_X5_hour 11 rfl) ?_
    refine am_iload_n (j := 2) (am_dk tk_X5_hour 12 rfl) rfl rfl ?_
    obtain ⟨q21, hq21, h⟩ := am_bind h
    refine ly_cV (M := m_X2_passHours) (As := [.ref tw, .int x1]) (b := 25) (st := []) (ct_X2_passHours lyM_25 htw hq21) rfl (by decide) rfl ml_X5_179 ld_X2_passHours rfl ⟨Nat.le_of_ble_eq_true rfl, Nat.le_of_ble_eq_true rfl⟩ (Nat.le_of_ble_eq_true rfl) ⟨rfl, rfl⟩ ⟨Nat.le_of_ble_eq_true rfl, Nat.le_of_ble_eq_true rfl⟩ (am_dk tk_X5_hour 13 rfl) (am_kkv ?_)
    refine am_aload_n (j := 1) (am_dk tk_X5_hour 14 rfl) rfl rfl ?_
    refine ly_getr (b := 25) rfl fl_X5_26 rfl rfl (am_dk tk_X5_hour 15 rfl) ?_
    refine ly_geti rfl fl_X5_125 rfl (am_dk tk_X5_hour 16 rfl) ?_
    exact am_iret rfl (am_r2 h hΦ) ⟨Nat.le_of_ble_eq_true rfl, Nat.le_of_ble_eq_true rfl⟩ (am_dk tk_X5_hour 17 rfl)
  · rw [if_neg hc7] at h
    refine am_iload_n (j := 0) (am_dk tk_X5_hour 6 rfl) rfl rfl ?_
    exact am_iret rfl (am_r2 h hΦ) ⟨Nat.le_of_ble_eq_true rfl, Nat.le_of_ble_eq_true rfl⟩ (am_dk tk_X5_hour 7 rfl)
abbrev m_X5_drift : am_D := (yX5_drift, prog_1_method_12_code, 4, (some .int), { frames := 3, cells := 0, slots := 0, locals := 63 })
theorem ld_X5_drift : am_LD m_X5_drift 1 := ⟨(am_tb 79 (by decide +kernel) (by decide +kernel)), (am_tb 576 (by decide +kernel) (by decide +kernel)), by decide, by decide, by decide +kernel⟩
def tb_X5_drift : List (Nat × Instr × Nat) := [(0, .aload_n 0, 1), (1, .iload_n 1, 1), (2, .invokevirtual 176, 3), (5, .istore_n 2, 1), (6, .iload_n 2, 1), (7, .ifCond .eq 5, 3), (10, .iload_n 2, 1), (11, .ireturn, 1), (12, .iconst 0, 1), (13, .istore_n 3, 1), (14, .iload_n 3, 1), (15, .iload_n 1, 1), (16, .if_icmp .ge 34, 3), (19, .aload_n 0, 1), (20, .getfield 26, 3), (23, .aload_n 0, 1), (24, .getfield 10, 3), (27, .getfield 104, 3), (30, .invokevirtual 183, 3), (33, .aload_n 0, 1), (34, .getfield 26, 3), (37, .aload_n 0, 1), (38, .getfield 10, 3), (41, .invokevirtual 187, 3), (44, .iinc 3 1, 3), (47, .goto (-33), 3), (50, .aload_n 0, 1), (51, .getfield 26, 3), (54, .getfield 125, 3), (57, .ireturn, 1)]
theorem tk_X5_drift : am_tbl prog_1_method_12_code tb_X5_drift = true := by decide +kernel
def b_X5_drift_14 (tw : Nat) : Nat → Int32 → Int32 → am_M → Option (Int32 × am_M)
  | 0, _, _, _ => none
  | n + 1, x1, x3, D => if x1 ≤ x3 then some (D 25 6, D) else (f_X2_wakeByDraw 25 (D tw 3) D).bind fun q30 => (f_X2_passHour 25 tw q30).bind fun q41 => b_X5_drift_14 tw n x1 (x3 + 1) q41
def f_X5_drift (tw : Nat) (x1 : Int32) (D : am_M) : Option (Int32 × am_M) := if (f_X5_refusalOfHours tw x1 D) = 0 then b_X5_drift_14 tw am_N x1 0 D else some (f_X5_refusalOfHours tw x1 D, D)
theorem bx_X5_drift_14 {l : Launch} {h0 : am_H} {Φ : am_Ph} {tw : Nat} {tp : Bool} (htw : lyT tw) {r : Int32} {D' : am_M} (hΦ : Φ (some (.int r)) (ly tw tp D')) : ∀ (n : Nat) (x1 : Int32) (x3 : Int32) (D : am_M), b_X5_drift_14 tw n x1 x3 D = some (r, D') → am_Ex (am_E l m_X5_drift false h0 Φ) prog_1_method_12_code (0, 0) 14 [(0, .ref 0), (1, .int x1), (3, .int x3)] [] (ly tw tp D) := by
  intro n
  induction n with
  | zero =>
    intro x1 x3 D h
    exact absurd h (by simp [b_X5_drift_14])
  | succ n ih =>
    intro x1 x3 D h
    rw [b_X5_drift_14] at h
    refine am_iload_n (j := 2) (am_dk tk_X5_drift 10 rfl) rfl rfl ?_
    refine am_iload_n (j := 1) (am_dk tk_X5_drift 11 rfl) rfl rfl ?_
    refine am_icmp_ge (tgt := 50) (am_dk tk_X5_drift 12 rfl) (by decide) (fun hc16 => ?_) (fun hc16 => ?_)
    · rw [if_pos hc16] at h
      refine am_aload_n (j := 0) (am_dk tk_X5_drift 26 rfl) rfl rfl ?_
      refine ly_getr (b := 25) rfl fl_X5_26 rfl rfl (am_dk tk_X5_drift 27 rfl) ?_
      refine ly_geti rfl fl_X5_125 rfl (am_dk tk_X5_drift 28 rfl) ?_
      exact am_iret rfl (am_r2 h hΦ) ⟨Nat.le_of_ble_eq_true rfl, Nat.le_of_ble_eq_true rfl⟩ (am_dk tk_X5_drift 29 rfl)
    · rw [if_neg hc16] at h
      refine am_aload_n (j := 0) (am_dk tk_X5_drift 13 rfl) rfl rfl ?_
      refine ly_getr (b := 25) rfl fl_X5_26 rfl rfl (am_dk tk_X5_drift 14 rfl) ?_
      refine am_aload_n (j := 0) (am_dk tk_X5_drift 15 rfl) rfl rfl ?_
      refine ly_getr (b := tw) rfl fl_X5_10 rfl rfl (am_dk tk_X5_drift 16 rfl) ?_
      refine ly_geti (lyT_s htw) fl_X5_104 rfl (am_dk tk_X5_drift 17 rfl) ?_
      obtain ⟨q30, hq30, h⟩ := am_bind h
      refine ly_cV (M := m_X2_wakeByDraw) (As := [.int (D tw 3)]) (b := 25) (st := []) (ct_X2_wakeByDraw lyM_25 hq30) rfl (by decide) rfl ml_X5_183 ld_X2_wakeByDraw rfl ⟨Nat.le_of_ble_eq_true rfl, Nat.le_of_ble_eq_true rfl⟩ (Nat.le_of_ble_eq_true rfl) ⟨rfl, rfl⟩ ⟨Nat.le_of_ble_eq_true rfl, Nat.le_of_ble_eq_true rfl⟩ (am_dk tk_X5_drift 18 rfl) (am_kkv ?_)
      refine am_aload_n (j := 0) (am_dk tk_X5_drift 19 rfl) rfl rfl ?_
      refine ly_getr (b := 25) rfl fl_X5_26 rfl rfl (am_dk tk_X5_drift 20 rfl) ?_
      refine am_aload_n (j := 0) (am_dk tk_X5_drift 21 rfl) rfl rfl ?_
      refine ly_getr (b := tw) rfl fl_X5_10 rfl rfl (am_dk tk_X5_drift 22 rfl) ?_
      obtain ⟨q41, hq41, h⟩ := am_bind h
      refine ly_cV (M := m_X2_passHour) (As := [.ref tw]) (b := 25) (st := []) (ct_X2_passHour lyM_25 htw hq41) rfl (by decide) rfl ml_X5_187 ld_X2_passHour rfl ⟨Nat.le_of_ble_eq_true rfl, Nat.le_of_ble_eq_true rfl⟩ (Nat.le_of_ble_eq_true rfl) ⟨rfl, rfl⟩ ⟨Nat.le_of_ble_eq_true rfl, Nat.le_of_ble_eq_true rfl⟩ (am_dk tk_X5_drift 23 rfl) (am_kkv ?_)
      refine am_iinc (j := 2) (v := x3 + 1) (L' := [(3, .int (x3 + 1)), (0, .ref 0), (1, .int x1)]) (am_dk tk_X5_drift 24 rfl) rfl rfl (Nat.le_of_ble_eq_true rfl) rfl ?_
      refine am_goto (tgt := 14) (am_dk tk_X5_drift 25 rfl) (by decide) ?_
      refine am_ls [1, 2, 0] rfl ?_
      exact ih _ _ _ h
theorem ct_X5_drift {l : Launch} {tw : Nat} {tp : Bool} (htw : lyT tw) {x1 : Int32} {r : Int32} {D D' : am_M} (h : f_X5_drift tw x1 D = some (r, D')) : am_CT l m_X5_drift false [.ref 0, .int x1] (ly tw tp D) (am_is (some (.int r)) (ly tw tp D')) := by
  have hΦ : am_is (some (.int r)) (ly tw tp D') (some (.int r)) (ly tw tp D') := ⟨rfl, rfl⟩
  refine am_CT.of (by decide) (Nat.le_of_ble_eq_true rfl) ?_
  show am_Ex _ _ _ 0 [(0, .ref 0), (1, .int x1)] [] _
  rw [f_X5_drift] at h
  refine am_aload_n (j := 0) (am_dk tk_X5_drift 0 rfl) rfl rfl ?_
  refine am_iload_n (j := 1) (am_dk tk_X5_drift 1 rfl) rfl rfl ?_
  refine ly_cV (M := m_X5_refusalOfHours) (As := [.int x1]) (b := 0) (st := []) (ct_X5_refusalOfHours htw _ _) rfl (by decide) rfl ml_X5_176 ld_X5_refusalOfHours rfl ⟨Nat.le_of_ble_eq_true rfl, Nat.le_of_ble_eq_true rfl⟩ (Nat.le_of_ble_eq_true rfl) ⟨rfl, rfl⟩ ⟨Nat.le_of_ble_eq_true rfl, Nat.le_of_ble_eq_true rfl⟩ (am_dk tk_X5_drift 2 rfl) (am_kki ?_)
  refine am_istore_n (L' := [(2, .int (f_X5_refusalOfHours tw x1 D)), (0, .ref 0), (1, .int x1)]) (am_dk tk_X5_drift 3 rfl) rfl (Nat.le_of_ble_eq_true rfl) rfl ?_
  refine am_iload_n (j := 0) (am_dk tk_X5_drift 4 rfl) rfl rfl ?_
  refine am_if_eq (tgt := 12) (am_dk tk_X5_drift 5 rfl) (by decide) (fun hc7 => ?_) (fun hc7 => ?_)
  · rw [if_pos hc7] at h
    refine am_iconst (v := 0) (am_dk tk_X5_drift 8 rfl) (by decide) ?_
    refine am_istore_n (L' := [(3, .int 0), (2, .int (f_X5_refusalOfHours tw x1 D)), (0, .ref 0), (1, .int x1)]) (am_dk tk_X5_drift 9 rfl) rfl (Nat.le_of_ble_eq_true rfl) rfl ?_
    refine am_ls [2, 3, 0] rfl ?_
    exact bx_X5_drift_14 htw hΦ am_N _ _ _ h
  · rw [if_neg hc7] at h
    refine am_iload_n (j := 0) (am_dk tk_X5_drift 6 rfl) rfl rfl ?_
    exact am_iret rfl (am_r2 h hΦ) ⟨Nat.le_of_ble_eq_true rfl, Nat.le_of_ble_eq_true rfl⟩ (am_dk tk_X5_drift 7 rfl)
abbrev m_X5_give : am_D := (yX5_give, prog_1_method_14_code, 4, (some .int), { frames := 2, cells := 0, slots := 0, locals := 43 })
theorem ld_X5_give : am_LD m_X5_give 3 := ⟨(am_tb 79 (by decide +kernel) (by decide +kernel)), (am_tb 593 (by decide +kernel) (by decide +kernel)), by decide, by decide, by decide +kernel⟩
def tb_X5_give : List (Nat × Instr × Nat) := [(0, .aload_n 0, 1), (1, .iload_n 1, 1), (2, .invokevirtual 137, 3), (5, .ifCond .eq 16, 3), (8, .aload_n 0, 1), (9, .iload_n 2, 1), (10, .invokevirtual 137, 3), (13, .ifCond .eq 8, 3), (16, .iload_n 1, 1), (17, .iload_n 2, 1), (18, .if_icmp .ne 6, 3), (21, .ldc 141, 2), (23, .ireturn, 1), (24, .iload_n 3, 1), (25, .iconst 1, 1), (26, .sipush 999, 3), (29, .invokestatic 67, 3), (32, .ifCond .ne 6, 3), (35, .ldc 71, 2), (37, .ireturn, 1), (38, .aload_n 0, 1), (39, .getfield 26, 3), (42, .getfield 145, 3), (45, .iload_n 1, 1), (46, .iaload, 1), (47, .iload_n 3, 1), (48, .if_icmp .ge 6, 3), (51, .ldc 191, 2), (53, .ireturn, 1), (54, .aload_n 0, 1), (55, .getfield 26, 3), (58, .getfield 145, 3), (61, .iload_n 1, 1), (62, .dup2, 1), (63, .iaload, 1), (64, .iload_n 3, 1), (65, .isub, 1), (66, .iastore, 1), (67, .aload_n 0, 1), (68, .getfield 26, 3), (71, .getfield 145, 3), (74, .iload_n 2, 1), (75, .aload_n 0, 1), (76, .getfield 26, 3), (79, .getfield 145, 3), (82, .iload_n 2, 1), (83, .iaload, 1), (84, .iload_n 3, 1), (85, .iadd, 1), (86, .sipush 9999, 3), (89, .invokestatic 193, 3), (92, .iastore, 1), (93, .aload_n 0, 1), (94, .getfield 26, 3), (97, .getfield 145, 3), (100, .iload_n 1, 1), (101, .iaload, 1), (102, .ireturn, 1)]
theorem tk_X5_give : am_tbl prog_1_method_14_code tb_X5_give = true := by decide +kernel
def f_X5_give (tw : Nat) (x1 : Int32) (x2 : Int32) (x3 : Int32) (D : am_M) : Option (Int32 × am_M) := if (f_X5_isPerson tw x1 D) = 0 then some ((-1000000001), D) else if (f_X5_isPerson tw x2 D) = 0 then some ((-1000000001), D) else if x1 = x2 then some ((-1000000001), D) else if (f_X5_isWithin x3 1 999) = 0 then some ((-1000000002), D) else if am_in x1 5 = true then if x3 ≤ (D 28 x1.toNatClampNeg) then if am_in x2 5 = true then some ((am_up (am_up D 28 x1.toNatClampNeg ((D 28 x1.toNatClampNeg) - x3)) 28 x2.toNatClampNeg (am_min (((am_up D 28 x1.toNatClampNeg ((D 28 x1.toNatClampNeg) - x3)) 28 x2.toNatClampNeg) + x3) 9999)) 28 x1.toNatClampNeg, am_up (am_up D 28 x1.toNatClampNeg ((D 28 x1.toNatClampNeg) - x3)) 28 x2.toNatClampNeg (am_min (((am_up D 28 x1.toNatClampNeg ((D 28 x1.toNatClampNeg) - x3)) 28 x2.toNatClampNeg) + x3) 9999)) else none else some ((-1000000003), D) else none
theorem ct_X5_give {l : Launch} {tw : Nat} {tp : Bool} (htw : lyT tw) {x1 : Int32} {x2 : Int32} {x3 : Int32} {r : Int32} {D D' : am_M} (h : f_X5_give tw x1 x2 x3 D = some (r, D')) : am_CT l m_X5_give false [.ref 0, .int x1, .int x2, .int x3] (ly tw tp D) (am_is (some (.int r)) (ly tw tp D')) := by
  have hΦ : am_is (some (.int r)) (ly tw tp D') (some (.int r)) (ly tw tp D') := ⟨rfl, rfl⟩
  refine am_CT.of (by decide) (Nat.le_of_ble_eq_true rfl) ?_
  show am_Ex _ _ _ 0 [(0, .ref 0), (1, .int x1), (2, .int x2), (3, .int x3)] [] _
  rw [f_X5_give] at h
  refine am_aload_n (j := 0) (am_dk tk_X5_give 0 rfl) rfl rfl ?_
  refine am_iload_n (j := 1) (am_dk tk_X5_give 1 rfl) rfl rfl ?_
  refine ly_cV (M := m_X5_isPerson) (As := [.int x1]) (b := 0) (st := []) (ct_X5_isPerson htw _ _) rfl (by decide) rfl ml_X5_137 ld_X5_isPerson rfl ⟨Nat.le_of_ble_eq_true rfl, Nat.le_of_ble_eq_true rfl⟩ (Nat.le_of_ble_eq_true rfl) ⟨rfl, rfl⟩ ⟨Nat.le_of_ble_eq_true rfl, Nat.le_of_ble_eq_true rfl⟩ (am_dk tk_X5_give 2 rfl) (am_kki ?_)
  refine am_if_eq (tgt := 21) (am_dk tk_X5_give 3 rfl) (by decide) (fun hc5 => ?_) (fun hc5 => ?_)
  · rw [if_pos hc5] at h
    refine am_ldc kc_X5_141 (am_dk tk_X5_give 11 rfl) ?_
    exact am_iret rfl (am_r2 h hΦ) ⟨Nat.le_of_ble_eq_true rfl, Nat.le_of_ble_eq_true rfl⟩ (am_dk tk_X5_give 12 rfl)
  · rw [if_neg hc5] at h
    refine am_aload_n (j := 0) (am_dk tk_X5_give 4 rfl) rfl rfl ?_
    refine am_iload_n (j := 2) (am_dk tk_X5_give 5 rfl) rfl rfl ?_
    refine ly_cV (M := m_X5_isPerson) (As := [.int x2]) (b := 0) (st := []) (ct_X5_isPerson htw _ _) rfl (by decide) rfl ml_X5_137 ld_X5_isPerson rfl ⟨Nat.le_of_ble_eq_true rfl, Nat.le_of_ble_eq_true rfl⟩ (Nat.le_of_ble_eq_true rfl) ⟨rfl, rfl⟩ ⟨Nat.le_of_ble_eq_true rfl, Nat.le_of_ble_eq_true rfl⟩ (am_dk tk_X5_give 6 rfl) (am_kki ?_)
    refine am_if_eq (tgt := 21) (am_dk tk_X5_give 7 rfl) (by decide) (fun hc13 => ?_) (fun hc13 => ?_)
    · rw [if_pos hc13] at h
      refine am_ldc kc_X5_141 (am_dk tk_X5_give 11 rfl) ?_
      exact am_iret rfl (am_r2 h hΦ) ⟨Nat.le_of_ble_eq_true rfl, Nat.le_of_ble_eq_true rfl⟩ (am_dk tk_X5_give 12 rfl)
    · rw [if_neg hc13] at h
      refine am_iload_n (j := 1) (am_dk tk_X5_give 8 rfl) rfl rfl ?_
      refine am_iload_n (j := 2) (am_dk tk_X5_give 9 rfl) rfl rfl ?_
      refine am_icmp_ne (tgt := 24) (am_dk tk_X5_give 10 rfl) (by decide) (fun hc18 => ?_) (fun hc18 => ?_)
      · rw [if_neg hc18] at h
        refine am_iload_n (j := 3) (am_dk tk_X5_give 13 rfl) rfl rfl ?_
        refine am_iconst (v := 1) (am_dk tk_X5_give 14 rfl) (by decide) ?_
        refine am_sipush (v := 999) (am_dk tk_X5_give 15 rfl) (by decide) ?_
        refine am_cS (M := m_X5_isWithin) (As := [.int x3, .int 1, .int 999]) (st := []) (ct_X5_isWithin _ _ _ _) ml_X5_67 ld_X5_isWithin rfl ⟨Nat.le_of_ble_eq_true rfl, Nat.le_of_ble_eq_true rfl⟩ (Nat.le_of_ble_eq_true rfl) ⟨rfl, rfl⟩ ⟨Nat.le_of_ble_eq_true rfl, Nat.le_of_ble_eq_true rfl⟩ (am_dk tk_X5_give 16 rfl) (am_kki ?_)
        refine am_if_ne (tgt := 38) (am_dk tk_X5_give 17 rfl) (by decide) (fun hc32 => ?_) (fun hc32 => ?_)
        · rw [if_neg hc32] at h
          refine am_aload_n (j := 0) (am_dk tk_X5_give 20 rfl) rfl rfl ?_
          refine ly_getr (b := 25) rfl fl_X5_26 rfl rfl (am_dk tk_X5_give 21 rfl) ?_
          refine ly_getr (b := 28) rfl fl_X5_145 rfl rfl (am_dk tk_X5_give 22 rfl) ?_
          refine am_iload_n (j := 1) (am_dk tk_X5_give 23 rfl) rfl rfl ?_
          obtain ⟨hi46, h⟩ := am_chk h
          refine ly_iald (k := x1.toNatClampNeg) rfl (am_in_vp hi46) rfl (am_dk tk_X5_give 24 rfl) ?_
          refine am_iload_n (j := 3) (am_dk tk_X5_give 25 rfl) rfl rfl ?_
          refine am_icmp_ge (tgt := 54) (am_dk tk_X5_give 26 rfl) (by decide) (fun hc48 => ?_) (fun hc48 => ?_)
          · rw [if_pos hc48] at h
            refine am_aload_n (j := 0) (am_dk tk_X5_give 29 rfl) rfl rfl ?_
            refine ly_getr (b := 25) rfl fl_X5_26 rfl rfl (am_dk tk_X5_give 30 rfl) ?_
            refine ly_getr (b := 28) rfl fl_X5_145 rfl rfl (am_dk tk_X5_give 31 rfl) ?_
            refine am_iload_n (j := 1) (am_dk tk_X5_give 32 rfl) rfl rfl ?_
            refine am_dup2 (am_dk tk_X5_give 33 rfl) rfl rfl ?_
            refine ly_iald (k := x1.toNatClampNeg) rfl (am_in_vp hi46) rfl (am_dk tk_X5_give 34 rfl) ?_
            refine am_iload_n (j := 3) (am_dk tk_X5_give 35 rfl) rfl rfl ?_
            refine am_isub (am_dk tk_X5_give 36 rfl) ?_
            refine ly_iast (k := x1.toNatClampNeg) rfl (am_in_vp hi46) rfl (am_dk tk_X5_give 37 rfl) ?_
            refine am_aload_n (j := 0) (am_dk tk_X5_give 38 rfl) rfl rfl ?_
            refine ly_getr (b := 25) rfl fl_X5_26 rfl rfl (am_dk tk_X5_give 39 rfl) ?_
            refine ly_getr (b := 28) rfl fl_X5_145 rfl rfl (am_dk tk_X5_give 40 rfl) ?_
            refine am_iload_n (j := 2) (am_dk tk_X5_give 41 rfl) rfl rfl ?_
            refine am_aload_n (j := 0) (am_dk tk_X5_give 42 rfl) rfl rfl ?_
            refine ly_getr (b := 25) rfl fl_X5_26 rfl rfl (am_dk tk_X5_give 43 rfl) ?_
            refine ly_getr (b := 28) rfl fl_X5_145 rfl rfl (am_dk tk_X5_give 44 rfl) ?_
            refine am_iload_n (j := 2) (am_dk tk_X5_give 45 rfl) rfl rfl ?_
            obtain ⟨hi83, h⟩ := am_chk h
            refine ly_iald (k := x2.toNatClampNeg) rfl (am_in_vp hi83) rfl (am_dk tk_X5_give 46 rfl) ?_
            refine am_iload_n (j := 3) (am_dk tk_X5_give 47 rfl) rfl rfl ?_
            refine am_iadd (am_dk tk_X5_give 48 rfl) ?_
            refine am_sipush (v := 9999) (am_dk tk_X5_give 49 rfl) (by decide) ?_
            refine am_mmin lm_X5_193 (Nat.le_of_ble_eq_true rfl) (Nat.le_of_ble_eq_true rfl) ⟨Nat.le_of_ble_eq_true rfl, Nat.le_of_ble_eq_true rfl⟩ (am_dk tk_X5_give 50 rfl) ?_
            refine ly_iast (k := x2.toNatClampNeg) rfl (am_in_vp hi83) rfl (am_dk tk_X5_give 51 rfl) ?_
            refine am_aload_n (j := 0) (am_dk tk_X5_give 52 rfl) rfl rfl ?_
            refine ly_getr (b := 25) rfl fl_X5_26 rfl rfl (am_dk tk_X5_give 53 rfl) ?_
            refine ly_getr (b := 28) rfl fl_X5_145 rfl rfl (am_dk tk_X5_give 54 rfl) ?_
            refine am_iload_n (j := 1) (am_dk tk_X5_give 55 rfl) rfl rfl ?_
            refine ly_iald (k := x1.toNatClampNeg) rfl (am_in_vp hi46) rfl (am_dk tk_X5_give 56 rfl) ?_
            exact am_iret rfl (am_r2 h hΦ) ⟨Nat.le_of_ble_eq_true rfl, Nat.le_of_ble_eq_true rfl⟩ (am_dk tk_X5_give 57 rfl)
          · rw [if_neg hc48] at h
            refine am_ldc kc_X5_191 (am_dk tk_X5_give 27 rfl) ?_
            exact am_iret rfl (am_r2 h hΦ) ⟨Nat.le_of_ble_eq_true rfl, Nat.le_of_ble_eq_true rfl⟩ (am_dk tk_X5_give 28 rfl)
        · rw [if_pos hc32] at h
          refine am_ldc kc_X5_71 (am_dk tk_X5_give 18 rfl) ?_
          exact am_iret rfl (am_r2 h hΦ) ⟨Nat.le_of_ble_eq_true rfl, Nat.le_of_ble_eq_true rfl⟩ (am_dk tk_X5_give 19 rfl)
      · rw [if_pos hc18] at h
        refine am_ldc kc_X5_141 (am_dk tk_X5_give 11 rfl) ?_
        exact am_iret rfl (am_r2 h hΦ) ⟨Nat.le_of_ble_eq_true rfl, Nat.le_of_ble_eq_true rfl⟩ (am_dk tk_X5_give 12 rfl)
abbrev m_X5_change : am_D := (yX5_change, prog_1_method_15_code, 5, (some .int), { frames := 2, cells := 0, slots := 0, locals := 43 })
theorem ld_X5_change : am_LD m_X5_change 3 := ⟨(am_tb 79 (by decide +kernel) (by decide +kernel)), (am_tb 598 (by decide +kernel) (by decide +kernel)), by decide, by decide, by decide +kernel⟩
def tb_X5_change : List (Nat × Instr × Nat) := [(0, .aload_n 0, 1), (1, .iload_n 1, 1), (2, .invokevirtual 137, 3), (5, .ifCond .ne 6, 3), (8, .ldc 141, 2), (10, .ireturn, 1), (11, .iload_n 2, 1), (12, .iconst 0, 1), (13, .bipush 23, 2), (15, .invokestatic 67, 3), (18, .ifCond .eq 12, 3), (21, .iload_n 3, 1), (22, .iconst 0, 1), (23, .iconst 2, 1), (24, .invokestatic 67, 3), (27, .ifCond .ne 6, 3), (30, .ldc 71, 2), (32, .ireturn, 1), (33, .aload_n 0, 1), (34, .getfield 26, 3), (37, .getfield 154, 3), (40, .iload_n 1, 1), (41, .bipush 24, 2), (43, .imul, 1), (44, .iload_n 2, 1), (45, .iadd, 1), (46, .iaload, 1), (47, .istore 4, 2), (49, .aload_n 0, 1), (50, .getfield 26, 3), (53, .getfield 154, 3), (56, .iload_n 1, 1), (57, .bipush 24, 2), (59, .imul, 1), (60, .iload_n 2, 1), (61, .iadd, 1), (62, .iload_n 3, 1), (63, .iastore, 1), (64, .iload 4, 2), (66, .ireturn, 1)]
theorem tk_X5_change : am_tbl prog_1_method_15_code tb_X5_change = true := by decide +kernel
def f_X5_change (tw : Nat) (x1 : Int32) (x2 : Int32) (x3 : Int32) (D : am_M) : Option (Int32 × am_M) := if (f_X5_isPerson tw x1 D) = 0 then some ((-1000000001), D) else if (f_X5_isWithin x2 0 23) = 0 then some ((-1000000002), D) else if (f_X5_isWithin x3 0 2) = 0 then some ((-1000000002), D) else if am_in ((x1 * 24) + x2) 120 = true then some (D 29 ((x1 * 24) + x2).toNatClampNeg, am_up D 29 ((x1 * 24) + x2).toNatClampNeg x3) else none
theorem ct_X5_change {l : Launch} {tw : Nat} {tp : Bool} (htw : lyT tw) {x1 : Int32} {x2 : Int32} {x3 : Int32} {r : Int32} {D D' : am_M} (h : f_X5_change tw x1 x2 x3 D = some (r, D')) : am_CT l m_X5_change false [.ref 0, .int x1, .int x2, .int x3] (ly tw tp D) (am_is (some (.int r)) (ly tw tp D')) := by
  have hΦ : am_is (some (.int r)) (ly tw tp D') (some (.int r)) (ly tw tp D') := ⟨rfl, rfl⟩
  refine am_CT.of (by decide) (Nat.le_of_ble_eq_true rfl) ?_
  show am_Ex _ _ _ 0 [(0, .ref 0), (1, .int x1), (2, .int x2), (3, .int x3)] [] _
  rw [f_X5_change] at h
  refine am_aload_n (j := 0) (am_dk tk_X5_change 0 rfl) rfl rfl ?_
  refine am_iload_n (j := 1) (am_dk tk_X5_change 1 rfl) rfl rfl ?_
  refine ly_cV (M := m_X5_isPerson) (As := [.int x1]) (b := 0) (st := []) (ct_X5_isPerson htw _ _) rfl (by decide) rfl ml_X5_137 ld_X5_isPerson rfl ⟨Nat.le_of_ble_eq_true rfl, Nat.le_of_ble_eq_true rfl⟩ (Nat.le_of_ble_eq_true rfl) ⟨rfl, rfl⟩ ⟨Nat.le_of_ble_eq_true rfl, Nat.le_of_ble_eq_true rfl⟩ (am_dk tk_X5_change 2 rfl) (am_kki ?_)
  refine am_if_ne (tgt := 11) (am_dk tk_X5_change 3 rfl) (by decide) (fun hc5 => ?_) (fun hc5 => ?_)
  · rw [if_neg hc5] at h
    refine am_iload_n (j := 2) (am_dk tk_X5_change 6 rfl) rfl rfl ?_
    refine am_iconst (v := 0) (am_dk tk_X5_change 7 rfl) (by decide) ?_
    refine am_bipush (v := 23) (am_dk tk_X5_change 8 rfl) (by decide) ?_
    refine am_cS (M := m_X5_isWithin) (As := [.int x2, .int 0, .int 23]) (st := []) (ct_X5_isWithin _ _ _ _) ml_X5_67 ld_X5_isWithin rfl ⟨Nat.le_of_ble_eq_true rfl, Nat.le_of_ble_eq_true rfl⟩ (Nat.le_of_ble_eq_true rfl) ⟨rfl, rfl⟩ ⟨Nat.le_of_ble_eq_true rfl, Nat.le_of_ble_eq_true rfl⟩ (am_dk tk_X5_change 9 rfl) (am_kki ?_)
    refine am_if_eq (tgt := 30) (am_dk tk_X5_change 10 rfl) (by decide) (fun hc18 => ?_) (fun hc18 => ?_)
    · rw [if_pos hc18] at h
      refine am_ldc kc_X5_71 (am_dk tk_X5_change 16 rfl) ?_
      exact am_iret rfl (am_r2 h hΦ) ⟨Nat.le_of_ble_eq_true rfl, Nat.le_of_ble_eq_true rfl⟩ (am_dk tk_X5_change 17 rfl)
    · rw [if_neg hc18] at h
      refine am_iload_n (j := 3) (am_dk tk_X5_change 11 rfl) rfl rfl ?_
      refine am_iconst (v := 0) (am_dk tk_X5_change 12 rfl) (by decide) ?_
      refine am_iconst (v := 2) (am_dk tk_X5_change 13 rfl) (by decide) ?_
      refine am_cS (M := m_X5_isWithin) (As := [.int x3, .int 0, .int 2]) (st := []) (ct_X5_isWithin _ _ _ _) ml_X5_67 ld_X5_isWithin rfl ⟨Nat.le_of_ble_eq_true rfl, Nat.le_of_ble_eq_true rfl⟩ (Nat.le_of_ble_eq_true rfl) ⟨rfl, rfl⟩ ⟨Nat.le_of_ble_eq_true rfl, Nat.le_of_ble_eq_true rfl⟩ (am_dk tk_X5_change 14 rfl) (am_kki ?_)
      refine am_if_ne (tgt := 33) (am_dk tk_X5_change 15 rfl) (by decide) (fun hc27 => ?_) (fun hc27 => ?_)
      · rw [if_neg hc27] at h
        refine am_aload_n (j := 0) (am_dk tk_X5_change 18 rfl) rfl rfl ?_
        refine ly_getr (b := 25) rfl fl_X5_26 rfl rfl (am_dk tk_X5_change 19 rfl) ?_
        refine ly_getr (b := 29) rfl fl_X5_154 rfl rfl (am_dk tk_X5_change 20 rfl) ?_
        refine am_iload_n (j := 1) (am_dk tk_X5_change 21 rfl) rfl rfl ?_
        refine am_bipush (v := 24) (am_dk tk_X5_change 22 rfl) (by decide) ?_
        refine am_imul (am_dk tk_X5_change 23 rfl) ?_
        refine am_iload_n (j := 2) (am_dk tk_X5_change 24 rfl) rfl rfl ?_
        refine am_iadd (am_dk tk_X5_change 25 rfl) ?_
        obtain ⟨hi46, h⟩ := am_chk h
        refine ly_iald (k := ((x1 * 24) + x2).toNatClampNeg) rfl (am_in_vp hi46) rfl (am_dk tk_X5_change 26 rfl) ?_
        refine am_istore (L' := [(4, .int (D 29 ((x1 * 24) + x2).toNatClampNeg)), (0, .ref 0), (1, .int x1), (2, .int x2), (3, .int x3)]) (am_dk tk_X5_change 27 rfl) (Nat.le_of_ble_eq_true rfl) rfl ?_
        refine am_aload_n (j := 1) (am_dk tk_X5_change 28 rfl) rfl rfl ?_
        refine ly_getr (b := 25) rfl fl_X5_26 rfl rfl (am_dk tk_X5_change 29 rfl) ?_
        refine ly_getr (b := 29) rfl fl_X5_154 rfl rfl (am_dk tk_X5_change 30 rfl) ?_
        refine am_iload_n (j := 2) (am_dk tk_X5_change 31 rfl) rfl rfl ?_
        refine am_bipush (v := 24) (am_dk tk_X5_change 32 rfl) (by decide) ?_
        refine am_imul (am_dk tk_X5_change 33 rfl) ?_
        refine am_iload_n (j := 3) (am_dk tk_X5_change 34 rfl) rfl rfl ?_
        refine am_iadd (am_dk tk_X5_change 35 rfl) ?_
        refine am_iload_n (j := 4) (am_dk tk_X5_change 36 rfl) rfl rfl ?_
        refine ly_iast (k := ((x1 * 24) + x2).toNatClampNeg) rfl (am_in_vp hi46) rfl (am_dk tk_X5_change 37 rfl) ?_
        refine am_iload (j := 0) (am_dk tk_X5_change 38 rfl) rfl ?_
        exact am_iret rfl (am_r2 h hΦ) ⟨Nat.le_of_ble_eq_true rfl, Nat.le_of_ble_eq_true rfl⟩ (am_dk tk_X5_change 39 rfl)
      · rw [if_pos hc27] at h
        refine am_ldc kc_X5_71 (am_dk tk_X5_change 16 rfl) ?_
        exact am_iret rfl (am_r2 h hΦ) ⟨Nat.le_of_ble_eq_true rfl, Nat.le_of_ble_eq_true rfl⟩ (am_dk tk_X5_change 17 rfl)
  · rw [if_pos hc5] at h
    refine am_ldc kc_X5_141 (am_dk tk_X5_change 4 rfl) ?_
    exact am_iret rfl (am_r2 h hΦ) ⟨Nat.le_of_ble_eq_true rfl, Nat.le_of_ble_eq_true rfl⟩ (am_dk tk_X5_change 5 rfl)
abbrev m_X5_firstShort : am_D := (yX5_firstShort, prog_1_method_16_code, 5, (some .int), { frames := 3, cells := 0, slots := 0, locals := 63 })
theorem ld_X5_firstShort : am_LD m_X5_firstShort 1 := ⟨(am_tb 79 (by decide +kernel) (by decide +kernel)), (am_tb 602 (by decide +kernel) (by decide +kernel)), by decide, by decide, by decide +kernel⟩
def tb_X5_firstShort : List (Nat × Instr × Nat) := [(0, .iload_n 1, 1), (1, .iconst 0, 1), (2, .iconst 1, 1), (3, .invokestatic 67, 3), (6, .ifCond .ne 6, 3), (9, .ldc 71, 2), (11, .ireturn, 1), (12, .aload_n 0, 1), (13, .getfield 30, 3), (16, .aload_n 0, 1), (17, .getfield 26, 3), (20, .invokevirtual 96, 3), (23, .iconst 0, 1), (24, .istore_n 2, 1), (25, .iload_n 2, 1), (26, .bipush 80, 2), (28, .if_icmp .ge 80, 3), (31, .aload_n 0, 1), (32, .getfield 30, 3), (35, .getfield 125, 3), (38, .bipush 71, 2), (40, .if_icmp .gt 68, 3), (43, .aload_n 0, 1), (44, .getfield 30, 3), (47, .getfield 131, 3), (50, .istore_n 3, 1), (51, .aload_n 0, 1), (52, .getfield 30, 3), (55, .aload_n 0, 1), (56, .getfield 10, 3), (59, .invokevirtual 187, 3), (62, .aload_n 0, 1), (63, .getfield 30, 3), (66, .getfield 131, 3), (69, .iload_n 3, 1), (70, .iconst (-1), 1), (71, .ixor, 1), (72, .iand, 1), (73, .istore 4, 2), (75, .iload 4, 2), (77, .ifCond .eq 25, 3), (80, .iload_n 1, 1), (81, .ifCond .ne 11, 3), (84, .iload 4, 2), (86, .invokestatic 199, 3), (89, .goto 12, 3), (92, .aload_n 0, 1), (93, .getfield 30, 3), (96, .getfield 125, 3), (99, .iconst 1, 1), (100, .isub, 1), (101, .ireturn, 1), (102, .iinc 2 1, 3), (105, .goto (-80), 3), (108, .iconst (-1), 1), (109, .ireturn, 1)]
theorem tk_X5_firstShort : am_tbl prog_1_method_16_code tb_X5_firstShort = true := by decide +kernel
def b_X5_firstShort_25 (tw : Nat) : Nat → Int32 → Int32 → am_M → Option (Int32 × am_M)
  | 0, _, _, _ => none
  | n + 1, x1, x2, D => if 80 ≤ x2 then some ((-1), D) else if 71 < (D 30 6) then some ((-1), D) else (f_X2_passHour 30 tw D).bind fun q59 => if ((q59 30 5) &&& ((D 30 5) ^^^ (-1))) = 0 then b_X5_firstShort_25 tw n x1 (x2 + 1) q59 else if x1 = 0 then (f_X5_leastOf ((q59 30 5) &&& ((D 30 5) ^^^ (-1))) q59).bind fun q86 => some (q86.1, q86.2) else some ((q59 30 6) - 1, q59)
def f_X5_firstShort (tw : Nat) (x1 : Int32) (D : am_M) : Option (Int32 × am_M) := if (f_X5_isWithin x1 0 1) = 0 then some ((-1000000002), D) else (f_X2_copyFrom 30 25 D).bind fun q20 => b_X5_firstShort_25 tw am_N x1 0 q20
theorem bx_X5_firstShort_25 {l : Launch} {h0 : am_H} {Φ : am_Ph} {tw : Nat} {tp : Bool} (htw : lyT tw) {r : Int32} {D' : am_M} (hΦ : Φ (some (.int r)) (ly tw tp D')) : ∀ (n : Nat) (x1 : Int32) (x2 : Int32) (D : am_M), b_X5_firstShort_25 tw n x1 x2 D = some (r, D') → am_Ex (am_E l m_X5_firstShort false h0 Φ) prog_1_method_16_code (0, 0) 25 [(0, .ref 0), (1, .int x1), (2, .int x2)] [] (ly tw tp D) := by
  intro n
  induction n with
  | zero =>
    intro x1 x2 D h
    exact absurd h (by simp [b_X5_firstShort_25])
  | succ n ih =>
    intro x1 x2 D h
    rw [b_X5_firstShort_25] at h
    refine am_iload_n (j := 2) (am_dk tk_X5_firstShort 14 rfl) rfl rfl ?_
    refine am_bipush (v := 80) (am_dk tk_X5_firstShort 15 rfl) (by decide) ?_
    refine am_icmp_ge (tgt := 108) (am_dk tk_X5_firstShort 16 rfl) (by decide) (fun hc28 => ?_) (fun hc28 => ?_)
    · rw [if_pos hc28] at h
      refine am_iconst (v := (-1)) (am_dk tk_X5_firstShort 54 rfl) (by decide) ?_
      exact am_iret rfl (am_r2 h hΦ) ⟨Nat.le_of_ble_eq_true rfl, Nat.le_of_ble_eq_true rfl⟩ (am_dk tk_X5_firstShort 55 rfl)
    · rw [if_neg hc28] at h
      refine am_aload_n (j := 0) (am_dk tk_X5_firstShort 17 rfl) rfl rfl ?_
      refine ly_getr (b := 30) rfl fl_X5_30 rfl rfl (am_dk tk_X5_firstShort 18 rfl) ?_
      refine ly_geti rfl fl_X5_125 rfl (am_dk tk_X5_firstShort 19 rfl) ?_
      refine am_bipush (v := 71) (am_dk tk_X5_firstShort 20 rfl) (by decide) ?_
      refine am_icmp_gt (tgt := 108) (am_dk tk_X5_firstShort 21 rfl) (by decide) (fun hc40 => ?_) (fun hc40 => ?_)
      · rw [if_pos hc40] at h
        refine am_iconst (v := (-1)) (am_dk tk_X5_firstShort 54 rfl) (by decide) ?_
        exact am_iret rfl (am_r2 h hΦ) ⟨Nat.le_of_ble_eq_true rfl, Nat.le_of_ble_eq_true rfl⟩ (am_dk tk_X5_firstShort 55 rfl)
      · rw [if_neg hc40] at h
        refine am_aload_n (j := 0) (am_dk tk_X5_firstShort 22 rfl) rfl rfl ?_
        refine ly_getr (b := 30) rfl fl_X5_30 rfl rfl (am_dk tk_X5_firstShort 23 rfl) ?_
        refine ly_geti rfl fl_X5_131 rfl (am_dk tk_X5_firstShort 24 rfl) ?_
        refine am_istore_n (L' := [(3, .int (D 30 5)), (0, .ref 0), (1, .int x1), (2, .int x2)]) (am_dk tk_X5_firstShort 25 rfl) rfl (Nat.le_of_ble_eq_true rfl) rfl ?_
        refine am_aload_n (j := 1) (am_dk tk_X5_firstShort 26 rfl) rfl rfl ?_
        refine ly_getr (b := 30) rfl fl_X5_30 rfl rfl (am_dk tk_X5_firstShort 27 rfl) ?_
        refine am_aload_n (j := 1) (am_dk tk_X5_firstShort 28 rfl) rfl rfl ?_
        refine ly_getr (b := tw) rfl fl_X5_10 rfl rfl (am_dk tk_X5_firstShort 29 rfl) ?_
        obtain ⟨q59, hq59, h⟩ := am_bind h
        refine ly_cV (M := m_X2_passHour) (As := [.ref tw]) (b := 30) (st := []) (ct_X2_passHour lyM_30 htw hq59) rfl (by decide) rfl ml_X5_187 ld_X2_passHour rfl ⟨Nat.le_of_ble_eq_true rfl, Nat.le_of_ble_eq_true rfl⟩ (Nat.le_of_ble_eq_true rfl) ⟨rfl, rfl⟩ ⟨Nat.le_of_ble_eq_true rfl, Nat.le_of_ble_eq_true rfl⟩ (am_dk tk_X5_firstShort 30 rfl) (am_kkv ?_)
        refine am_aload_n (j := 1) (am_dk tk_X5_firstShort 31 rfl) rfl rfl ?_
        refine ly_getr (b := 30) rfl fl_X5_30 rfl rfl (am_dk tk_X5_firstShort 32 rfl) ?_
        refine ly_geti rfl fl_X5_131 rfl (am_dk tk_X5_firstShort 33 rfl) ?_
        refine am_iload_n (j := 0) (am_dk tk_X5_firstShort 34 rfl) rfl rfl ?_
        refine am_iconst (v := (-1)) (am_dk tk_X5_firstShort 35 rfl) (by decide) ?_
        refine am_ixor (am_dk tk_X5_firstShort 36 rfl) ?_
        refine am_iand (am_dk tk_X5_firstShort 37 rfl) ?_
        refine am_istore (L' := [(4, .int ((q59 30 5) &&& ((D 30 5) ^^^ (-1)))), (3, .int (D 30 5)), (0, .ref 0), (1, .int x1), (2, .int x2)]) (am_dk tk_X5_firstShort 38 rfl) (Nat.le_of_ble_eq_true rfl) rfl ?_
        refine am_iload (j := 0) (am_dk tk_X5_firstShort 39 rfl) rfl ?_
        refine am_if_eq (tgt := 102) (am_dk tk_X5_firstShort 40 rfl) (by decide) (fun hc77 => ?_) (fun hc77 => ?_)
        · rw [if_pos hc77] at h
          refine am_iinc (j := 4) (v := x2 + 1) (L' := [(2, .int (x2 + 1)), (4, .int ((q59 30 5) &&& ((D 30 5) ^^^ (-1)))), (3, .int (D 30 5)), (0, .ref 0), (1, .int x1)]) (am_dk tk_X5_firstShort 52 rfl) rfl rfl (Nat.le_of_ble_eq_true rfl) rfl ?_
          refine am_goto (tgt := 25) (am_dk tk_X5_firstShort 53 rfl) (by decide) ?_
          refine am_ls [3, 4, 0] rfl ?_
          exact ih _ _ _ h
        · rw [if_neg hc77] at h
          refine am_iload_n (j := 3) (am_dk tk_X5_firstShort 41 rfl) rfl rfl ?_
          refine am_if_ne (tgt := 92) (am_dk tk_X5_firstShort 42 rfl) (by decide) (fun hc81 => ?_) (fun hc81 => ?_)
          · rw [if_neg hc81] at h
            refine am_aload_n (j := 2) (am_dk tk_X5_firstShort 46 rfl) rfl rfl ?_
            refine ly_getr (b := 30) rfl fl_X5_30 rfl rfl (am_dk tk_X5_firstShort 47 rfl) ?_
            refine ly_geti rfl fl_X5_125 rfl (am_dk tk_X5_firstShort 48 rfl) ?_
            refine am_iconst (v := 1) (am_dk tk_X5_firstShort 49 rfl) (by decide) ?_
            refine am_isub (am_dk tk_X5_firstShort 50 rfl) ?_
            exact am_iret rfl (am_r2 h hΦ) ⟨Nat.le_of_ble_eq_true rfl, Nat.le_of_ble_eq_true rfl⟩ (am_dk tk_X5_firstShort 51 rfl)
          · rw [if_pos hc81] at h
            refine am_iload (j := 0) (am_dk tk_X5_firstShort 43 rfl) rfl ?_
            obtain ⟨q86, hq86, h⟩ := am_bind h
            refine am_cS (M := m_X5_leastOf) (As := [.int ((q59 30 5) &&& ((D 30 5) ^^^ (-1)))]) (st := []) (ct_X5_leastOf hq86) ml_X5_199 ld_X5_leastOf rfl ⟨Nat.le_of_ble_eq_true rfl, Nat.le_of_ble_eq_true rfl⟩ (Nat.le_of_ble_eq_true rfl) ⟨rfl, rfl⟩ ⟨Nat.le_of_ble_eq_true rfl, Nat.le_of_ble_eq_true rfl⟩ (am_dk tk_X5_firstShort 44 rfl) (am_kki ?_)
            refine am_goto (tgt := 101) (am_dk tk_X5_firstShort 45 rfl) (by decide) ?_
            exact am_iret rfl (am_r2 h hΦ) ⟨Nat.le_of_ble_eq_true rfl, Nat.le_of_ble_eq_true rfl⟩ (am_dk tk_X5_firstShort 51 rfl)
theorem ct_X5_firstShort {l : Launch} {tw : Nat} {tp : Bool} (htw : lyT tw) {x1 : Int32} {r : Int32} {D D' : am_M} (h : f_X5_firstShort tw x1 D = some (r, D')) : am_CT l m_X5_firstShort false [.ref 0, .int x1] (ly tw tp D) (am_is (some (.int r)) (ly tw tp D')) := by
  have hΦ : am_is (some (.int r)) (ly tw tp D') (some (.int r)) (ly tw tp D') := ⟨rfl, rfl⟩
  refine am_CT.of (by decide) (Nat.le_of_ble_eq_true rfl) ?_
  show am_Ex _ _ _ 0 [(0, .ref 0), (1, .int x1)] [] _
  rw [f_X5_firstShort] at h
  refine am_iload_n (j := 1) (am_dk tk_X5_firstShort 0 rfl) rfl rfl ?_
  refine am_iconst (v := 0) (am_dk tk_X5_firstShort 1 rfl) (by decide) ?_
  refine am_iconst (v := 1) (am_dk tk_X5_firstShort 2 rfl) (by decide) ?_
  refine am_cS (M := m_X5_isWithin) (As := [.int x1, .int 0, .int 1]) (st := []) (ct_X5_isWithin _ _ _ _) ml_X5_67 ld_X5_isWithin rfl ⟨Nat.le_of_ble_eq_true rfl, Nat.le_of_ble_eq_true rfl⟩ (Nat.le_of_ble_eq_true rfl) ⟨rfl, rfl⟩ ⟨Nat.le_of_ble_eq_true rfl, Nat.le_of_ble_eq_true rfl⟩ (am_dk tk_X5_firstShort 3 rfl) (am_kki ?_)
  refine am_if_ne (tgt := 12) (am_dk tk_X5_firstShort 4 rfl) (by decide) (fun hc6 => ?_) (fun hc6 => ?_)
  · rw [if_neg hc6] at h
    refine am_aload_n (j := 0) (am_dk tk_X5_firstShort 7 rfl) rfl rfl ?_
    refine ly_getr (b := 30) rfl fl_X5_30 rfl rfl (am_dk tk_X5_firstShort 8 rfl) ?_
    refine am_aload_n (j := 0) (am_dk tk_X5_firstShort 9 rfl) rfl rfl ?_
    refine ly_getr (b := 25) rfl fl_X5_26 rfl rfl (am_dk tk_X5_firstShort 10 rfl) ?_
    obtain ⟨q20, hq20, h⟩ := am_bind h
    refine ly_cV (M := m_X2_copyFrom) (As := [.ref 25]) (b := 30) (st := []) (ct_X2_copyFrom lyM_30 lyM_25 hq20) rfl (by decide) rfl ml_X5_96 ld_X2_copyFrom rfl ⟨Nat.le_of_ble_eq_true rfl, Nat.le_of_ble_eq_true rfl⟩ (Nat.le_of_ble_eq_true rfl) ⟨rfl, rfl⟩ ⟨Nat.le_of_ble_eq_true rfl, Nat.le_of_ble_eq_true rfl⟩ (am_dk tk_X5_firstShort 11 rfl) (am_kkv ?_)
    refine am_iconst (v := 0) (am_dk tk_X5_firstShort 12 rfl) (by decide) ?_
    refine am_istore_n (L' := [(2, .int 0), (0, .ref 0), (1, .int x1)]) (am_dk tk_X5_firstShort 13 rfl) rfl (Nat.le_of_ble_eq_true rfl) rfl ?_
    refine am_ls [1, 2, 0] rfl ?_
    exact bx_X5_firstShort_25 htw hΦ am_N _ _ _ h
  · rw [if_pos hc6] at h
    refine am_ldc kc_X5_71 (am_dk tk_X5_firstShort 5 rfl) ?_
    exact am_iret rfl (am_r2 h hΦ) ⟨Nat.le_of_ble_eq_true rfl, Nat.le_of_ble_eq_true rfl⟩ (am_dk tk_X5_firstShort 6 rfl)
abbrev m_X5_richest : am_D := (yX5_richest, prog_1_method_17_code, 5, (some .int), { frames := 4, cells := 0, slots := 0, locals := 86 })
theorem ld_X5_richest : am_LD m_X5_richest 2 := ⟨(am_tb 79 (by decide +kernel) (by decide +kernel)), (am_tb 609 (by decide +kernel) (by decide +kernel)), by decide, by decide, by decide +kernel⟩
def tb_X5_richest : List (Nat × Instr × Nat) := [(0, .iload_n 1, 1), (1, .iconst 0, 1), (2, .sipush 200, 3), (5, .invokestatic 67, 3), (8, .ifCond .eq 12, 3), (11, .iload_n 2, 1), (12, .iconst 0, 1), (13, .iconst 1, 1), (14, .invokestatic 67, 3), (17, .ifCond .ne 6, 3), (20, .ldc 71, 2), (22, .ireturn, 1), (23, .aload_n 0, 1), (24, .getfield 10, 3), (27, .getfield 104, 3), (30, .ifCond .ne 5, 3), (33, .iconst (-1), 1), (34, .ireturn, 1), (35, .aload_n 0, 1), (36, .getfield 30, 3), (39, .aload_n 0, 1), (40, .getfield 26, 3), (43, .invokevirtual 96, 3), (46, .aload_n 0, 1), (47, .getfield 30, 3), (50, .aload_n 0, 1), (51, .getfield 10, 3), (54, .iload_n 1, 1), (55, .invokevirtual 179, 3), (58, .iconst 0, 1), (59, .istore_n 3, 1), (60, .iconst 1, 1), (61, .istore 4, 2), (63, .iload 4, 2), (65, .aload_n 0, 1), (66, .getfield 10, 3), (69, .getfield 104, 3), (72, .if_icmp .ge 34, 3), (75, .aload_n 0, 1), (76, .getfield 30, 3), (79, .getfield 145, 3), (82, .iload 4, 2), (84, .iaload, 1), (85, .aload_n 0, 1), (86, .getfield 30, 3), (89, .getfield 145, 3), (92, .iload_n 3, 1), (93, .iaload, 1), (94, .if_icmp .le 6, 3), (97, .iload 4, 2), (99, .istore_n 3, 1), (100, .iinc 4 1, 3), (103, .goto (-40), 3), (106, .iload_n 2, 1), (107, .ifCond .ne 7, 3), (110, .iload_n 3, 1), (111, .goto 12, 3), (114, .aload_n 0, 1), (115, .getfield 30, 3), (118, .getfield 145, 3)]
theorem tk_X5_richest : am_tbl prog_1_method_17_code tb_X5_richest = true := by decide +kernel
def tb_X5_richest_1 : List (Nat × Instr × Nat) := [(121, .iload_n 3, 1), (122, .iaload, 1), (123, .ireturn, 1)]
theorem tk_X5_richest_1 : am_tbl prog_1_method_17_code tb_X5_richest_1 = true := by decide +kernel
def b_X5_richest_63 (tw : Nat) : Nat → Int32 → Int32 → Int32 → am_M → Option (Int32 × am_M)
  | 0, _, _, _, _ => none
  | n + 1, x2, x3, x4, D => if (D tw 3) ≤ x4 then if x2 = 0 then some (x3, D) else if am_in x3 5 = true then some (D 33 x3.toNatClampNeg, D) else none else if am_in x4 5 = true then if am_in x3 5 = true then b_X5_richest_63 tw n x2 (if (D 33 x4.toNatClampNeg) ≤ (D 33 x3.toNatClampNeg) then x3 else x4) (x4 + 1) D else none else none
def f_X5_richest (tw : Nat) (x1 : Int32) (x2 : Int32) (D : am_M) : Option (Int32 × am_M) := if (f_X5_isWithin x1 0 200) = 0 then some ((-1000000002), D) else if (f_X5_isWithin x2 0 1) = 0 then some ((-1000000002), D) else if (D tw 3) = 0 then some ((-1), D) else (f_X2_copyFrom 30 25 D).bind fun q43 => (f_X2_passHours 30 tw x1 q43).bind fun q55 => b_X5_richest_63 tw am_N x2 0 1 q55
theorem bx_X5_richest_63 {l : Launch} {h0 : am_H} {Φ : am_Ph} {tw : Nat} {tp : Bool} (htw : lyT tw) {r : Int32} {D' : am_M} (hΦ : Φ (some (.int r)) (ly tw tp D')) : ∀ (n : Nat) (x2 : Int32) (x3 : Int32) (x4 : Int32) (D : am_M), b_X5_richest_63 tw n x2 x3 x4 D = some (r, D') → am_Ex (am_E l m_X5_richest false h0 Φ) prog_1_method_17_code (0, 0) 63 [(0, .ref 0), (2, .int x2), (3, .int x3), (4, .int x4)] [] (ly tw tp D) := by
  intro n
  induction n with
  | zero =>
    intro x2 x3 x4 D h
    exact absurd h (by simp [b_X5_richest_63])
  | succ n ih =>
    intro x2 x3 x4 D h
    rw [b_X5_richest_63] at h
    refine am_iload (j := 3) (am_dk tk_X5_richest 33 rfl) rfl ?_
    refine am_aload_n (j := 0) (am_dk tk_X5_richest 34 rfl) rfl rfl ?_
    refine ly_getr (b := tw) rfl fl_X5_10 rfl rfl (am_dk tk_X5_richest 35 rfl) ?_
    refine ly_geti (lyT_s htw) fl_X5_104 rfl (am_dk tk_X5_richest 36 rfl) ?_
    refine am_icmp_ge (tgt := 106) (am_dk tk_X5_richest 37 rfl) (by decide) (fun hc72 => ?_) (fun hc72 => ?_)
    · rw [if_pos hc72] at h
      refine am_iload_n (j := 1) (am_dk tk_X5_richest 53 rfl) rfl rfl ?_
      refine am_if_ne (tgt := 114) (am_dk tk_X5_richest 54 rfl) (by decide) (fun hc107 => ?_) (fun hc107 => ?_)
      · rw [if_neg hc107] at h
        refine am_aload_n (j := 0) (am_dk tk_X5_richest 57 rfl) rfl rfl ?_
        refine ly_getr (b := 30) rfl fl_X5_30 rfl rfl (am_dk tk_X5_richest 58 rfl) ?_
        refine ly_getr (b := 33) rfl fl_X5_145 rfl rfl (am_dk tk_X5_richest 59 rfl) ?_
        refine am_iload_n (j := 2) (am_dk tk_X5_richest_1 0 rfl) rfl rfl ?_
        obtain ⟨hi122, h⟩ := am_chk h
        refine ly_iald (k := x3.toNatClampNeg) rfl (am_in_vp hi122) rfl (am_dk tk_X5_richest_1 1 rfl) ?_
        exact am_iret rfl (am_r2 h hΦ) ⟨Nat.le_of_ble_eq_true rfl, Nat.le_of_ble_eq_true rfl⟩ (am_dk tk_X5_richest_1 2 rfl)
      · rw [if_pos hc107] at h
        refine am_iload_n (j := 2) (am_dk tk_X5_richest 55 rfl) rfl rfl ?_
        refine am_goto (tgt := 123) (am_dk tk_X5_richest 56 rfl) (by decide) ?_
        exact am_iret rfl (am_r2 h hΦ) ⟨Nat.le_of_ble_eq_true rfl, Nat.le_of_ble_eq_true rfl⟩ (am_dk tk_X5_richest_1 2 rfl)
    · rw [if_neg hc72] at h
      refine am_aload_n (j := 0) (am_dk tk_X5_richest 38 rfl) rfl rfl ?_
      refine ly_getr (b := 30) rfl fl_X5_30 rfl rfl (am_dk tk_X5_richest 39 rfl) ?_
      refine ly_getr (b := 33) rfl fl_X5_145 rfl rfl (am_dk tk_X5_richest 40 rfl) ?_
      refine am_iload (j := 3) (am_dk tk_X5_richest 41 rfl) rfl ?_
      obtain ⟨hi84, h⟩ := am_chk h
      refine ly_iald (k := x4.toNatClampNeg) rfl (am_in_vp hi84) rfl (am_dk tk_X5_richest 42 rfl) ?_
      refine am_aload_n (j := 0) (am_dk tk_X5_richest 43 rfl) rfl rfl ?_
      refine ly_getr (b := 30) rfl fl_X5_30 rfl rfl (am_dk tk_X5_richest 44 rfl) ?_
      refine ly_getr (b := 33) rfl fl_X5_145 rfl rfl (am_dk tk_X5_richest 45 rfl) ?_
      refine am_iload_n (j := 2) (am_dk tk_X5_richest 46 rfl) rfl rfl ?_
      obtain ⟨hi93, h⟩ := am_chk h
      refine ly_iald (k := x3.toNatClampNeg) rfl (am_in_vp hi93) rfl (am_dk tk_X5_richest 47 rfl) ?_
      refine am_icmp_le (tgt := 100) (am_dk tk_X5_richest 48 rfl) (by decide) (fun hc94 => ?_) (fun hc94 => ?_)
      · simp only [if_pos hc94] at h
        refine am_iinc (j := 3) (v := x4 + 1) (L' := [(4, .int (x4 + 1)), (0, .ref 0), (2, .int x2), (3, .int x3)]) (am_dk tk_X5_richest 51 rfl) rfl rfl (Nat.le_of_ble_eq_true rfl) rfl ?_
        refine am_goto (tgt := 63) (am_dk tk_X5_richest 52 rfl) (by decide) ?_
        refine am_ls [1, 2, 3, 0] rfl ?_
        exact ih _ _ _ _ h
      · simp only [if_neg hc94] at h
        refine am_iload (j := 3) (am_dk tk_X5_richest 49 rfl) rfl ?_
        refine am_istore_n (L' := [(3, .int x4), (0, .ref 0), (2, .int x2), (4, .int x4)]) (am_dk tk_X5_richest 50 rfl) rfl (Nat.le_of_ble_eq_true rfl) rfl ?_
        refine am_iinc (j := 3) (v := x4 + 1) (L' := [(4, .int (x4 + 1)), (3, .int x4), (0, .ref 0), (2, .int x2)]) (am_dk tk_X5_richest 51 rfl) rfl rfl (Nat.le_of_ble_eq_true rfl) rfl ?_
        refine am_goto (tgt := 63) (am_dk tk_X5_richest 52 rfl) (by decide) ?_
        refine am_ls [2, 3, 1, 0] rfl ?_
        exact ih _ _ _ _ h
theorem ct_X5_richest {l : Launch} {tw : Nat} {tp : Bool} (htw : lyT tw) {x1 : Int32} {x2 : Int32} {r : Int32} {D D' : am_M} (h : f_X5_richest tw x1 x2 D = some (r, D')) : am_CT l m_X5_richest false [.ref 0, .int x1, .int x2] (ly tw tp D) (am_is (some (.int r)) (ly tw tp D')) := by
  have hΦ : am_is (some (.int r)) (ly tw tp D') (some (.int r)) (ly tw tp D') := ⟨rfl, rfl⟩
  refine am_CT.of (by decide) (Nat.le_of_ble_eq_true rfl) ?_
  show am_Ex _ _ _ 0 [(0, .ref 0), (1, .int x1), (2, .int x2)] [] _
  rw [f_X5_richest] at h
  refine am_iload_n (j := 1) (am_dk tk_X5_richest 0 rfl) rfl rfl ?_
  refine am_iconst (v := 0) (am_dk tk_X5_richest 1 rfl) (by decide) ?_
  refine am_sipush (v := 200) (am_dk tk_X5_richest 2 rfl) (by decide) ?_
  refine am_cS (M := m_X5_isWithin) (As := [.int x1, .int 0, .int 200]) (st := []) (ct_X5_isWithin _ _ _ _) ml_X5_67 ld_X5_isWithin rfl ⟨Nat.le_of_ble_eq_true rfl, Nat.le_of_ble_eq_true rfl⟩ (Nat.le_of_ble_eq_true rfl) ⟨rfl, rfl⟩ ⟨Nat.le_of_ble_eq_true rfl, Nat.le_of_ble_eq_true rfl⟩ (am_dk tk_X5_richest 3 rfl) (am_kki ?_)
  refine am_if_eq (tgt := 20) (am_dk tk_X5_richest 4 rfl) (by decide) (fun hc8 => ?_) (fun hc8 => ?_)
  · rw [if_pos hc8] at h
    refine am_ldc kc_X5_71 (am_dk tk_X5_richest 10 rfl) ?_
    exact am_iret rfl (am_r2 h hΦ) ⟨Nat.le_of_ble_eq_true rfl, Nat.le_of_ble_eq_true rfl⟩ (am_dk tk_X5_richest 11 rfl)
  · rw [if_neg hc8] at h
    refine am_iload_n (j := 2) (am_dk tk_X5_richest 5 rfl) rfl rfl ?_
    refine am_iconst (v := 0) (am_dk tk_X5_richest 6 rfl) (by decide) ?_
    refine am_iconst (v := 1) (am_dk tk_X5_richest 7 rfl) (by decide) ?_
    refine am_cS (M := m_X5_isWithin) (As := [.int x2, .int 0, .int 1]) (st := []) (ct_X5_isWithin _ _ _ _) ml_X5_67 ld_X5_isWithin rfl ⟨Nat.le_of_ble_eq_true rfl, Nat.le_of_ble_eq_true rfl⟩ (Nat.le_of_ble_eq_true rfl) ⟨rfl, rfl⟩ ⟨Nat.le_of_ble_eq_true rfl, Nat.le_of_ble_eq_true rfl⟩ (am_dk tk_X5_richest 8 rfl) (am_kki ?_)
    refine am_if_ne (tgt := 23) (am_dk tk_X5_richest 9 rfl) (by decide) (fun hc17 => ?_) (fun hc17 => ?_)
    · rw [if_neg hc17] at h
      refine am_aload_n (j := 0) (am_dk tk_X5_richest 12 rfl) rfl rfl ?_
      refine ly_getr (b := tw) rfl fl_X5_10 rfl rfl (am_dk tk_X5_richest 13 rfl) ?_
      refine ly_geti (lyT_s htw) fl_X5_104 rfl (am_dk tk_X5_richest 14 rfl) ?_
      refine am_if_ne (tgt := 35) (am_dk tk_X5_richest 15 rfl) (by decide) (fun hc30 => ?_) (fun hc30 => ?_)
      · rw [if_neg hc30] at h
        refine am_aload_n (j := 0) (am_dk tk_X5_richest 18 rfl) rfl rfl ?_
        refine ly_getr (b := 30) rfl fl_X5_30 rfl rfl (am_dk tk_X5_richest 19 rfl) ?_
        refine am_aload_n (j := 0) (am_dk tk_X5_richest 20 rfl) rfl rfl ?_
        refine ly_getr (b := 25) rfl fl_X5_26 rfl rfl (am_dk tk_X5_richest 21 rfl) ?_
        obtain ⟨q43, hq43, h⟩ := am_bind h
        refine ly_cV (M := m_X2_copyFrom) (As := [.ref 25]) (b := 30) (st := []) (ct_X2_copyFrom lyM_30 lyM_25 hq43) rfl (by decide) rfl ml_X5_96 ld_X2_copyFrom rfl ⟨Nat.le_of_ble_eq_true rfl, Nat.le_of_ble_eq_true rfl⟩ (Nat.le_of_ble_eq_true rfl) ⟨rfl, rfl⟩ ⟨Nat.le_of_ble_eq_true rfl, Nat.le_of_ble_eq_true rfl⟩ (am_dk tk_X5_richest 22 rfl) (am_kkv ?_)
        refine am_aload_n (j := 0) (am_dk tk_X5_richest 23 rfl) rfl rfl ?_
        refine ly_getr (b := 30) rfl fl_X5_30 rfl rfl (am_dk tk_X5_richest 24 rfl) ?_
        refine am_aload_n (j := 0) (am_dk tk_X5_richest 25 rfl) rfl rfl ?_
        refine ly_getr (b := tw) rfl fl_X5_10 rfl rfl (am_dk tk_X5_richest 26 rfl) ?_
        refine am_iload_n (j := 1) (am_dk tk_X5_richest 27 rfl) rfl rfl ?_
        obtain ⟨q55, hq55, h⟩ := am_bind h
        refine ly_cV (M := m_X2_passHours) (As := [.ref tw, .int x1]) (b := 30) (st := []) (ct_X2_passHours lyM_30 htw hq55) rfl (by decide) rfl ml_X5_179 ld_X2_passHours rfl ⟨Nat.le_of_ble_eq_true rfl, Nat.le_of_ble_eq_true rfl⟩ (Nat.le_of_ble_eq_true rfl) ⟨rfl, rfl⟩ ⟨Nat.le_of_ble_eq_true rfl, Nat.le_of_ble_eq_true rfl⟩ (am_dk tk_X5_richest 28 rfl) (am_kkv ?_)
        refine am_iconst (v := 0) (am_dk tk_X5_richest 29 rfl) (by decide) ?_
        refine am_istore_n (L' := [(3, .int 0), (0, .ref 0), (1, .int x1), (2, .int x2)]) (am_dk tk_X5_richest 30 rfl) rfl (Nat.le_of_ble_eq_true rfl) rfl ?_
        refine am_iconst (v := 1) (am_dk tk_X5_richest 31 rfl) (by decide) ?_
        refine am_istore (L' := [(4, .int 1), (3, .int 0), (0, .ref 0), (1, .int x1), (2, .int x2)]) (am_dk tk_X5_richest 32 rfl) (Nat.le_of_ble_eq_true rfl) rfl ?_
        refine am_ls [2, 4, 1, 0] rfl ?_
        exact bx_X5_richest_63 htw hΦ am_N _ _ _ _ h
      · rw [if_pos hc30] at h
        refine am_iconst (v := (-1)) (am_dk tk_X5_richest 16 rfl) (by decide) ?_
        exact am_iret rfl (am_r2 h hΦ) ⟨Nat.le_of_ble_eq_true rfl, Nat.le_of_ble_eq_true rfl⟩ (am_dk tk_X5_richest 17 rfl)
    · rw [if_pos hc17] at h
      refine am_ldc kc_X5_71 (am_dk tk_X5_richest 10 rfl) ?_
      exact am_iret rfl (am_r2 h hΦ) ⟨Nat.le_of_ble_eq_true rfl, Nat.le_of_ble_eq_true rfl⟩ (am_dk tk_X5_richest 11 rfl)
abbrev m_X5_shift : am_D := (yX5_shift, prog_1_method_19_code, 4, (some .int), { frames := 2, cells := 0, slots := 0, locals := 43 })
theorem ld_X5_shift : am_LD m_X5_shift 2 := ⟨(am_tb 79 (by decide +kernel) (by decide +kernel)), (am_tb 728 (by decide +kernel) (by decide +kernel)), by decide, by decide, by decide +kernel⟩
def tb_X5_shift : List (Nat × Instr × Nat) := [(0, .aload_n 0, 1), (1, .iload_n 2, 1), (2, .invokevirtual 137, 3), (5, .ifCond .ne 6, 3), (8, .ldc 141, 2), (10, .ireturn, 1), (11, .iload_n 1, 1), (12, .iconst 1, 1), (13, .bipush 12, 2), (15, .invokestatic 67, 3), (18, .ifCond .ne 6, 3), (21, .ldc 71, 2), (23, .ireturn, 1), (24, .aload_n 0, 1), (25, .getfield 10, 3), (28, .getfield 110, 3), (31, .iconst 1, 1), (32, .if_icmp .ge 5, 3), (35, .iconst (-1), 1), (36, .ireturn, 1), (37, .aload_n 0, 1), (38, .getfield 10, 3), (41, .getfield 104, 3), (44, .iconst 1, 1), (45, .isub, 1), (46, .aload_n 0, 1), (47, .getfield 10, 3), (50, .getfield 110, 3), (53, .idiv, 1), (54, .istore_n 3, 1), (55, .iload_n 3, 1), (56, .iconst 1, 1), (57, .iadd, 1), (58, .iload_n 1, 1), (59, .imul, 1), (60, .bipush 24, 2), (62, .if_icmp .le 5, 3), (65, .iconst (-1), 1), (66, .ireturn, 1), (67, .iload_n 2, 1), (68, .aload_n 0, 1), (69, .getfield 10, 3), (72, .getfield 110, 3), (75, .idiv, 1), (76, .iload_n 1, 1), (77, .imul, 1), (78, .ireturn, 1)]
theorem tk_X5_shift : am_tbl prog_1_method_19_code tb_X5_shift = true := by decide +kernel
def f_X5_shift (tw : Nat) (x1 : Int32) (x2 : Int32) (D : am_M) : Option (Int32 × am_M) := if (f_X5_isPerson tw x2 D) = 0 then some ((-1000000001), D) else if (f_X5_isWithin x1 1 12) = 0 then some ((-1000000002), D) else if 1 ≤ (D tw 0) then if (D tw 0) = 0 then none else if (((((D tw 3) - 1) / (D tw 0)) + 1) * x1) ≤ 24 then some ((x2 / (D tw 0)) * x1, D) else some ((-1), D) else some ((-1), D)
theorem ct_X5_shift {l : Launch} {tw : Nat} {tp : Bool} (htw : lyT tw) {x1 : Int32} {x2 : Int32} {r : Int32} {D D' : am_M} (h : f_X5_shift tw x1 x2 D = some (r, D')) : am_CT l m_X5_shift false [.ref 0, .int x1, .int x2] (ly tw tp D) (am_is (some (.int r)) (ly tw tp D')) := by
  have hΦ : am_is (some (.int r)) (ly tw tp D') (some (.int r)) (ly tw tp D') := ⟨rfl, rfl⟩
  refine am_CT.of (by decide) (Nat.le_of_ble_eq_true rfl) ?_
  show am_Ex _ _ _ 0 [(0, .ref 0), (1, .int x1), (2, .int x2)] [] _
  rw [f_X5_shift] at h
  refine am_aload_n (j := 0) (am_dk tk_X5_shift 0 rfl) rfl rfl ?_
  refine am_iload_n (j := 2) (am_dk tk_X5_shift 1 rfl) rfl rfl ?_
  refine ly_cV (M := m_X5_isPerson) (As := [.int x2]) (b := 0) (st := []) (ct_X5_isPerson htw _ _) rfl (by decide) rfl ml_X5_137 ld_X5_isPerson rfl ⟨Nat.le_of_ble_eq_true rfl, Nat.le_of_ble_eq_true rfl⟩ (Nat.le_of_ble_eq_true rfl) ⟨rfl, rfl⟩ ⟨Nat.le_of_ble_eq_true rfl, Nat.le_of_ble_eq_true rfl⟩ (am_dk tk_X5_shift 2 rfl) (am_kki ?_)
  refine am_if_ne (tgt := 11) (am_dk tk_X5_shift 3 rfl) (by decide) (fun hc5 => ?_) (fun hc5 => ?_)
  · rw [if_neg hc5] at h
    refine am_iload_n (j := 1) (am_dk tk_X5_shift 6 rfl) rfl rfl ?_
    refine am_iconst (v := 1) (am_dk tk_X5_shift 7 rfl) (by decide) ?_
    refine am_bipush (v := 12) (am_dk tk_X5_shift 8 rfl) (by decide) ?_
    refine am_cS (M := m_X5_isWithin) (As := [.int x1, .int 1, .int 12]) (st := []) (ct_X5_isWithin _ _ _ _) ml_X5_67 ld_X5_isWithin rfl ⟨Nat.le_of_ble_eq_true rfl, Nat.le_of_ble_eq_true rfl⟩ (Nat.le_of_ble_eq_true rfl) ⟨rfl, rfl⟩ ⟨Nat.le_of_ble_eq_true rfl, Nat.le_of_ble_eq_true rfl⟩ (am_dk tk_X5_shift 9 rfl) (am_kki ?_)
    refine am_if_ne (tgt := 24) (am_dk tk_X5_shift 10 rfl) (by decide) (fun hc18 => ?_) (fun hc18 => ?_)
    · rw [if_neg hc18] at h
      refine am_aload_n (j := 0) (am_dk tk_X5_shift 13 rfl) rfl rfl ?_
      refine ly_getr (b := tw) rfl fl_X5_10 rfl rfl (am_dk tk_X5_shift 14 rfl) ?_
      refine ly_geti (lyT_s htw) fl_X5_110 rfl (am_dk tk_X5_shift 15 rfl) ?_
      refine am_iconst (v := 1) (am_dk tk_X5_shift 16 rfl) (by decide) ?_
      refine am_icmp_ge (tgt := 37) (am_dk tk_X5_shift 17 rfl) (by decide) (fun hc32 => ?_) (fun hc32 => ?_)
      · rw [if_pos hc32] at h
        refine am_aload_n (j := 0) (am_dk tk_X5_shift 20 rfl) rfl rfl ?_
        refine ly_getr (b := tw) rfl fl_X5_10 rfl rfl (am_dk tk_X5_shift 21 rfl) ?_
        refine ly_geti (lyT_s htw) fl_X5_104 rfl (am_dk tk_X5_shift 22 rfl) ?_
        refine am_iconst (v := 1) (am_dk tk_X5_shift 23 rfl) (by decide) ?_
        refine am_isub (am_dk tk_X5_shift 24 rfl) ?_
        refine am_aload_n (j := 0) (am_dk tk_X5_shift 25 rfl) rfl rfl ?_
        refine ly_getr (b := tw) rfl fl_X5_10 rfl rfl (am_dk tk_X5_shift 26 rfl) ?_
        refine ly_geti (lyT_s htw) fl_X5_110 rfl (am_dk tk_X5_shift 27 rfl) ?_
        obtain ⟨hz53, h⟩ := am_chn h
        refine am_idiv (am_dk tk_X5_shift 28 rfl) hz53 ?_
        refine am_istore_n (L' := [(3, .int (((D tw 3) - 1) / (D tw 0))), (0, .ref 0), (1, .int x1), (2, .int x2)]) (am_dk tk_X5_shift 29 rfl) rfl (Nat.le_of_ble_eq_true rfl) rfl ?_
        refine am_iload_n (j := 0) (am_dk tk_X5_shift 30 rfl) rfl rfl ?_
        refine am_iconst (v := 1) (am_dk tk_X5_shift 31 rfl) (by decide) ?_
        refine am_iadd (am_dk tk_X5_shift 32 rfl) ?_
        refine am_iload_n (j := 2) (am_dk tk_X5_shift 33 rfl) rfl rfl ?_
        refine am_imul (am_dk tk_X5_shift 34 rfl) ?_
        refine am_bipush (v := 24) (am_dk tk_X5_shift 35 rfl) (by decide) ?_
        refine am_icmp_le (tgt := 67) (am_dk tk_X5_shift 36 rfl) (by decide) (fun hc62 => ?_) (fun hc62 => ?_)
        · rw [if_pos hc62] at h
          refine am_iload_n (j := 3) (am_dk tk_X5_shift 39 rfl) rfl rfl ?_
          refine am_aload_n (j := 1) (am_dk tk_X5_shift 40 rfl) rfl rfl ?_
          refine ly_getr (b := tw) rfl fl_X5_10 rfl rfl (am_dk tk_X5_shift 41 rfl) ?_
          refine ly_geti (lyT_s htw) fl_X5_110 rfl (am_dk tk_X5_shift 42 rfl) ?_
          refine am_idiv (am_dk tk_X5_shift 43 rfl) hz53 ?_
          refine am_iload_n (j := 2) (am_dk tk_X5_shift 44 rfl) rfl rfl ?_
          refine am_imul (am_dk tk_X5_shift 45 rfl) ?_
          exact am_iret rfl (am_r2 h hΦ) ⟨Nat.le_of_ble_eq_true rfl, Nat.le_of_ble_eq_true rfl⟩ (am_dk tk_X5_shift 46 rfl)
        · rw [if_neg hc62] at h
          refine am_iconst (v := (-1)) (am_dk tk_X5_shift 37 rfl) (by decide) ?_
          exact am_iret rfl (am_r2 h hΦ) ⟨Nat.le_of_ble_eq_true rfl, Nat.le_of_ble_eq_true rfl⟩ (am_dk tk_X5_shift 38 rfl)
      · rw [if_neg hc32] at h
        refine am_iconst (v := (-1)) (am_dk tk_X5_shift 18 rfl) (by decide) ?_
        exact am_iret rfl (am_r2 h hΦ) ⟨Nat.le_of_ble_eq_true rfl, Nat.le_of_ble_eq_true rfl⟩ (am_dk tk_X5_shift 19 rfl)
    · rw [if_pos hc18] at h
      refine am_ldc kc_X5_71 (am_dk tk_X5_shift 11 rfl) ?_
      exact am_iret rfl (am_r2 h hΦ) ⟨Nat.le_of_ble_eq_true rfl, Nat.le_of_ble_eq_true rfl⟩ (am_dk tk_X5_shift 12 rfl)
  · rw [if_pos hc5] at h
    refine am_ldc kc_X5_141 (am_dk tk_X5_shift 4 rfl) ?_
    exact am_iret rfl (am_r2 h hΦ) ⟨Nat.le_of_ble_eq_true rfl, Nat.le_of_ble_eq_true rfl⟩ (am_dk tk_X5_shift 5 rfl)
abbrev m_X5_coins : am_D := (yX5_coins, prog_1_method_20_code, 3, (some .int), { frames := 3, cells := 0, slots := 0, locals := 60 })
theorem ld_X5_coins : am_LD m_X5_coins 2 := ⟨(am_tb 79 (by decide +kernel) (by decide +kernel)), (am_tb 732 (by decide +kernel) (by decide +kernel)), by decide, by decide, by decide +kernel⟩
def tb_X5_coins : List (Nat × Instr × Nat) := [(0, .iload_n 1, 1), (1, .iconst 0, 1), (2, .sipush 200, 3), (5, .invokestatic 67, 3), (8, .ifCond .ne 6, 3), (11, .ldc 71, 2), (13, .ireturn, 1), (14, .iload_n 2, 1), (15, .iconst (-1), 1), (16, .if_icmp .eq 16, 3), (19, .iload_n 2, 1), (20, .iconst 1, 1), (21, .bipush 60, 2), (23, .invokestatic 67, 3), (26, .ifCond .ne 6, 3), (29, .ldc 71, 2), (31, .ireturn, 1), (32, .aload_n 0, 1), (33, .getfield 53, 3), (36, .aload_n 0, 1), (37, .getfield 10, 3), (40, .invokevirtual 212, 3), (43, .iload_n 2, 1), (44, .iconst (-1), 1), (45, .if_icmp .ne 15, 3), (48, .aload_n 0, 1), (49, .getfield 53, 3), (52, .getfield 215, 3), (55, .iload_n 1, 1), (56, .iaload, 1), (57, .goto 12, 3), (60, .aload_n 0, 1), (61, .getfield 53, 3), (64, .iload_n 2, 1), (65, .iload_n 1, 1), (66, .invokevirtual 218, 3), (69, .ireturn, 1)]
theorem tk_X5_coins : am_tbl prog_1_method_20_code tb_X5_coins = true := by decide +kernel
def b_X5_coins_32 (tw : Nat) (x1 : Int32) (x2 : Int32) (D : am_M) : Option (Int32 × am_M) := (f_X0_prepare tw D).bind fun q40 => if x2 = (-1) then if am_in x1 201 = true then some (q40 52 x1.toNatClampNeg, q40) else none else (f_X0_countOf x2 x1 q40).bind fun q66 => some (q66.1, q66.2)
def f_X5_coins (tw : Nat) (x1 : Int32) (x2 : Int32) (D : am_M) : Option (Int32 × am_M) := if (f_X5_isWithin x1 0 200) = 0 then some ((-1000000002), D) else if x2 = (-1) then b_X5_coins_32 tw x1 x2 D else if (f_X5_isWithin x2 1 60) = 0 then some ((-1000000002), D) else b_X5_coins_32 tw x1 x2 D
theorem bx_X5_coins_32 {l : Launch} {h0 : am_H} {Φ : am_Ph} {tw : Nat} {tp : Bool} (htw : lyT tw) {r : Int32} {D' : am_M} (hΦ : Φ (some (.int r)) (ly tw tp D')) : ∀ (x1 : Int32) (x2 : Int32) (D : am_M), b_X5_coins_32 tw x1 x2 D = some (r, D') → am_Ex (am_E l m_X5_coins false h0 Φ) prog_1_method_20_code (0, 0) 32 [(0, .ref 0), (1, .int x1), (2, .int x2)] [] (ly tw tp D) := by
  intro x1 x2 D h
  rw [b_X5_coins_32] at h
  refine am_aload_n (j := 0) (am_dk tk_X5_coins 17 rfl) rfl rfl ?_
  refine ly_getr (b := 50) rfl fl_X5_53 rfl rfl (am_dk tk_X5_coins 18 rfl) ?_
  refine am_aload_n (j := 0) (am_dk tk_X5_coins 19 rfl) rfl rfl ?_
  refine ly_getr (b := tw) rfl fl_X5_10 rfl rfl (am_dk tk_X5_coins 20 rfl) ?_
  obtain ⟨q40, hq40, h⟩ := am_bind h
  refine ly_cV (M := m_X0_prepare) (As := [.ref tw]) (b := 50) (st := []) (ct_X0_prepare htw hq40) rfl (by decide) rfl ml_X5_212 ld_X0_prepare rfl ⟨Nat.le_of_ble_eq_true rfl, Nat.le_of_ble_eq_true rfl⟩ (Nat.le_of_ble_eq_true rfl) ⟨rfl, rfl⟩ ⟨Nat.le_of_ble_eq_true rfl, Nat.le_of_ble_eq_true rfl⟩ (am_dk tk_X5_coins 21 rfl) (am_kkv ?_)
  refine am_iload_n (j := 2) (am_dk tk_X5_coins 22 rfl) rfl rfl ?_
  refine am_iconst (v := (-1)) (am_dk tk_X5_coins 23 rfl) (by decide) ?_
  refine am_icmp_ne (tgt := 60) (am_dk tk_X5_coins 24 rfl) (by decide) (fun hc45 => ?_) (fun hc45 => ?_)
  · rw [if_neg hc45] at h
    refine am_aload_n (j := 0) (am_dk tk_X5_coins 31 rfl) rfl rfl ?_
    refine ly_getr (b := 50) rfl fl_X5_53 rfl rfl (am_dk tk_X5_coins 32 rfl) ?_
    refine am_iload_n (j := 2) (am_dk tk_X5_coins 33 rfl) rfl rfl ?_
    refine am_iload_n (j := 1) (am_dk tk_X5_coins 34 rfl) rfl rfl ?_
    obtain ⟨q66, hq66, h⟩ := am_bind h
    refine ly_cV (M := m_X0_countOf) (As := [.int x2, .int x1]) (b := 50) (st := []) (ct_X0_countOf hq66) rfl (by decide) rfl ml_X5_218 ld_X0_countOf rfl ⟨Nat.le_of_ble_eq_true rfl, Nat.le_of_ble_eq_true rfl⟩ (Nat.le_of_ble_eq_true rfl) ⟨rfl, rfl⟩ ⟨Nat.le_of_ble_eq_true rfl, Nat.le_of_ble_eq_true rfl⟩ (am_dk tk_X5_coins 35 rfl) (am_kki ?_)
    exact am_iret rfl (am_r2 h hΦ) ⟨Nat.le_of_ble_eq_true rfl, Nat.le_of_ble_eq_true rfl⟩ (am_dk tk_X5_coins 36 rfl)
  · rw [if_pos hc45] at h
    refine am_aload_n (j := 0) (am_dk tk_X5_coins 25 rfl) rfl rfl ?_
    refine ly_getr (b := 50) rfl fl_X5_53 rfl rfl (am_dk tk_X5_coins 26 rfl) ?_
    refine ly_getr (b := 52) rfl fl_X5_215 rfl rfl (am_dk tk_X5_coins 27 rfl) ?_
    refine am_iload_n (j := 1) (am_dk tk_X5_coins 28 rfl) rfl rfl ?_
    obtain ⟨hi56, h⟩ := am_chk h
    refine ly_iald (k := x1.toNatClampNeg) rfl (am_in_vp hi56) rfl (am_dk tk_X5_coins 29 rfl) ?_
    refine am_goto (tgt := 69) (am_dk tk_X5_coins 30 rfl) (by decide) ?_
    exact am_iret rfl (am_r2 h hΦ) ⟨Nat.le_of_ble_eq_true rfl, Nat.le_of_ble_eq_true rfl⟩ (am_dk tk_X5_coins 36 rfl)
theorem ct_X5_coins {l : Launch} {tw : Nat} {tp : Bool} (htw : lyT tw) {x1 : Int32} {x2 : Int32} {r : Int32} {D D' : am_M} (h : f_X5_coins tw x1 x2 D = some (r, D')) : am_CT l m_X5_coins false [.ref 0, .int x1, .int x2] (ly tw tp D) (am_is (some (.int r)) (ly tw tp D')) := by
  have hΦ : am_is (some (.int r)) (ly tw tp D') (some (.int r)) (ly tw tp D') := ⟨rfl, rfl⟩
  refine am_CT.of (by decide) (Nat.le_of_ble_eq_true rfl) ?_
  show am_Ex _ _ _ 0 [(0, .ref 0), (1, .int x1), (2, .int x2)] [] _
  rw [f_X5_coins] at h
  refine am_iload_n (j := 1) (am_dk tk_X5_coins 0 rfl) rfl rfl ?_
  refine am_iconst (v := 0) (am_dk tk_X5_coins 1 rfl) (by decide) ?_
  refine am_sipush (v := 200) (am_dk tk_X5_coins 2 rfl) (by decide) ?_
  refine am_cS (M := m_X5_isWithin) (As := [.int x1, .int 0, .int 200]) (st := []) (ct_X5_isWithin _ _ _ _) ml_X5_67 ld_X5_isWithin rfl ⟨Nat.le_of_ble_eq_true rfl, Nat.le_of_ble_eq_true rfl⟩ (Nat.le_of_ble_eq_true rfl) ⟨rfl, rfl⟩ ⟨Nat.le_of_ble_eq_true rfl, Nat.le_of_ble_eq_true rfl⟩ (am_dk tk_X5_coins 3 rfl) (am_kki ?_)
  refine am_if_ne (tgt := 14) (am_dk tk_X5_coins 4 rfl) (by decide) (fun hc8 => ?_) (fun hc8 => ?_)
  · rw [if_neg hc8] at h
    refine am_iload_n (j := 2) (am_dk tk_X5_coins 7 rfl) rfl rfl ?_
    refine am_iconst (v := (-1)) (am_dk tk_X5_coins 8 rfl) (by decide) ?_
    refine am_icmp_eq (tgt := 32) (am_dk tk_X5_coins 9 rfl) (by decide) (fun hc16 => ?_) (fun hc16 => ?_)
    · rw [if_pos hc16] at h
      exact bx_X5_coins_32 htw hΦ _ _ _ h
    · rw [if_neg hc16] at h
      refine am_iload_n (j := 2) (am_dk tk_X5_coins 10 rfl) rfl rfl ?_
      refine am_iconst (v := 1) (am_dk tk_X5_coins 11 rfl) (by decide) ?_
      refine am_bipush (v := 60) (am_dk tk_X5_coins 12 rfl) (by decide) ?_
      refine am_cS (M := m_X5_isWithin) (As := [.int x2, .int 1, .int 60]) (st := []) (ct_X5_isWithin _ _ _ _) ml_X5_67 ld_X5_isWithin rfl ⟨Nat.le_of_ble_eq_true rfl, Nat.le_of_ble_eq_true rfl⟩ (Nat.le_of_ble_eq_true rfl) ⟨rfl, rfl⟩ ⟨Nat.le_of_ble_eq_true rfl, Nat.le_of_ble_eq_true rfl⟩ (am_dk tk_X5_coins 13 rfl) (am_kki ?_)
      refine am_if_ne (tgt := 32) (am_dk tk_X5_coins 14 rfl) (by decide) (fun hc26 => ?_) (fun hc26 => ?_)
      · rw [if_neg hc26] at h
        exact bx_X5_coins_32 htw hΦ _ _ _ h
      · rw [if_pos hc26] at h
        refine am_ldc kc_X5_71 (am_dk tk_X5_coins 15 rfl) ?_
        exact am_iret rfl (am_r2 h hΦ) ⟨Nat.le_of_ble_eq_true rfl, Nat.le_of_ble_eq_true rfl⟩ (am_dk tk_X5_coins 16 rfl)
  · rw [if_pos hc8] at h
    refine am_ldc kc_X5_71 (am_dk tk_X5_coins 5 rfl) ?_
    exact am_iret rfl (am_r2 h hΦ) ⟨Nat.le_of_ble_eq_true rfl, Nat.le_of_ble_eq_true rfl⟩ (am_dk tk_X5_coins 6 rfl)
abbrev m_X5_strike : am_D := (yX5_strike, prog_1_method_21_code, 2, (some .int), { frames := 3, cells := 0, slots := 0, locals := 60 })
theorem ld_X5_strike : am_LD m_X5_strike 1 := ⟨(am_tb 79 (by decide +kernel) (by decide +kernel)), (am_tb 754 (by decide +kernel) (by decide +kernel)), by decide, by decide, by decide +kernel⟩
def tb_X5_strike : List (Nat × Instr × Nat) := [(0, .iload_n 1, 1), (1, .iconst 0, 1), (2, .iconst 1, 1), (3, .invokestatic 67, 3), (6, .ifCond .ne 6, 3), (9, .ldc 71, 2), (11, .ireturn, 1), (12, .aload_n 0, 1), (13, .getfield 53, 3), (16, .aload_n 0, 1), (17, .getfield 10, 3), (20, .invokevirtual 212, 3), (23, .aload_n 0, 1), (24, .getfield 53, 3), (27, .invokevirtual 221, 3), (30, .iload_n 1, 1), (31, .ifCond .ne 13, 3), (34, .aload_n 0, 1), (35, .getfield 53, 3), (38, .getfield 224, 3), (41, .goto 10, 3), (44, .aload_n 0, 1), (45, .getfield 53, 3), (48, .getfield 227, 3), (51, .ireturn, 1)]
theorem tk_X5_strike : am_tbl prog_1_method_21_code tb_X5_strike = true := by decide +kernel
def f_X5_strike (tw : Nat) (x1 : Int32) (D : am_M) : Option (Int32 × am_M) := if (f_X5_isWithin x1 0 1) = 0 then some ((-1000000002), D) else (f_X0_prepare tw D).bind fun q20 => (f_X0_findStrike q20).bind fun q27 => if x1 = 0 then some (q27 50 5, q27) else some (q27 50 6, q27)
theorem ct_X5_strike {l : Launch} {tw : Nat} {tp : Bool} (htw : lyT tw) {x1 : Int32} {r : Int32} {D D' : am_M} (h : f_X5_strike tw x1 D = some (r, D')) : am_CT l m_X5_strike false [.ref 0, .int x1] (ly tw tp D) (am_is (some (.int r)) (ly tw tp D')) := by
  have hΦ : am_is (some (.int r)) (ly tw tp D') (some (.int r)) (ly tw tp D') := ⟨rfl, rfl⟩
  refine am_CT.of (by decide) (Nat.le_of_ble_eq_true rfl) ?_
  show am_Ex _ _ _ 0 [(0, .ref 0), (1, .int x1)] [] _
  rw [f_X5_strike] at h
  refine am_iload_n (j := 1) (am_dk tk_X5_strike 0 rfl) rfl rfl ?_
  refine am_iconst (v := 0) (am_dk tk_X5_strike 1 rfl) (by decide) ?_
  refine am_iconst (v := 1) (am_dk tk_X5_strike 2 rfl) (by decide) ?_
  refine am_cS (M := m_X5_isWithin) (As := [.int x1, .int 0, .int 1]) (st := []) (ct_X5_isWithin _ _ _ _) ml_X5_67 ld_X5_isWithin rfl ⟨Nat.le_of_ble_eq_true rfl, Nat.le_of_ble_eq_true rfl⟩ (Nat.le_of_ble_eq_true rfl) ⟨rfl, rfl⟩ ⟨Nat.le_of_ble_eq_true rfl, Nat.le_of_ble_eq_true rfl⟩ (am_dk tk_X5_strike 3 rfl) (am_kki ?_)
  refine am_if_ne (tgt := 12) (am_dk tk_X5_strike 4 rfl) (by decide) (fun hc6 => ?_) (fun hc6 => ?_)
  · rw [if_neg hc6] at h
    refine am_aload_n (j := 0) (am_dk tk_X5_strike 7 rfl) rfl rfl ?_
    refine ly_getr (b := 50) rfl fl_X5_53 rfl rfl (am_dk tk_X5_strike 8 rfl) ?_
    refine am_aload_n (j := 0) (am_dk tk_X5_strike 9 rfl) rfl rfl ?_
    refine ly_getr (b := tw) rfl fl_X5_10 rfl rfl (am_dk tk_X5_strike 10 rfl) ?_
    obtain ⟨q20, hq20, h⟩ := am_bind h
    refine ly_cV (M := m_X0_prepare) (As := [.ref tw]) (b := 50) (st := []) (ct_X0_prepare htw hq20) rfl (by decide) rfl ml_X5_212 ld_X0_prepare rfl ⟨Nat.le_of_ble_eq_true rfl, Nat.le_of_ble_eq_true rfl⟩ (Nat.le_of_ble_eq_true rfl) ⟨rfl, rfl⟩ ⟨Nat.le_of_ble_eq_true rfl, Nat.le_of_ble_eq_true rfl⟩ (am_dk tk_X5_strike 11 rfl) (am_kkv ?_)
    refine am_aload_n (j := 0) (am_dk tk_X5_strike 12 rfl) rfl rfl ?_
    refine ly_getr (b := 50) rfl fl_X5_53 rfl rfl (am_dk tk_X5_strike 13 rfl) ?_
    obtain ⟨q27, hq27, h⟩ := am_bind h
    refine ly_cV (M := m_X0_findStrike) (As := []) (b := 50) (st := []) (ct_X0_findStrike hq27) rfl (by decide) rfl ml_X5_221 ld_X0_findStrike rfl ⟨Nat.le_of_ble_eq_true rfl, Nat.le_of_ble_eq_true rfl⟩ (Nat.le_of_ble_eq_true rfl) ⟨rfl, rfl⟩ ⟨Nat.le_of_ble_eq_true rfl, Nat.le_of_ble_eq_true rfl⟩ (am_dk tk_X5_strike 14 rfl) (am_kkv ?_)
    refine am_iload_n (j := 1) (am_dk tk_X5_strike 15 rfl) rfl rfl ?_
    refine am_if_ne (tgt := 44) (am_dk tk_X5_strike 16 rfl) (by decide) (fun hc31 => ?_) (fun hc31 => ?_)
    · rw [if_neg hc31] at h
      refine am_aload_n (j := 0) (am_dk tk_X5_strike 21 rfl) rfl rfl ?_
      refine ly_getr (b := 50) rfl fl_X5_53 rfl rfl (am_dk tk_X5_strike 22 rfl) ?_
      refine ly_geti rfl fl_X5_227 rfl (am_dk tk_X5_strike 23 rfl) ?_
      exact am_iret rfl (am_r2 h hΦ) ⟨Nat.le_of_ble_eq_true rfl, Nat.le_of_ble_eq_true rfl⟩ (am_dk tk_X5_strike 24 rfl)
    · rw [if_pos hc31] at h
      refine am_aload_n (j := 0) (am_dk tk_X5_strike 17 rfl) rfl rfl ?_
      refine ly_getr (b := 50) rfl fl_X5_53 rfl rfl (am_dk tk_X5_strike 18 rfl) ?_
      refine ly_geti rfl fl_X5_224 rfl (am_dk tk_X5_strike 19 rfl) ?_
      refine am_goto (tgt := 51) (am_dk tk_X5_strike 20 rfl) (by decide) ?_
      exact am_iret rfl (am_r2 h hΦ) ⟨Nat.le_of_ble_eq_true rfl, Nat.le_of_ble_eq_true rfl⟩ (am_dk tk_X5_strike 24 rfl)
  · rw [if_pos hc6] at h
    refine am_ldc kc_X5_71 (am_dk tk_X5_strike 5 rfl) ?_
    exact am_iret rfl (am_r2 h hΦ) ⟨Nat.le_of_ble_eq_true rfl, Nat.le_of_ble_eq_true rfl⟩ (am_dk tk_X5_strike 6 rfl)
abbrev m_X5_partsOfBillion : am_D := (yX5_partsOfBillion, prog_1_method_23_code, 7, (some .long), { frames := 0, cells := 0, slots := 0, locals := 0 })
theorem ld_X5_partsOfBillion : am_LD m_X5_partsOfBillion 4 := ⟨(am_tb 79 (by decide +kernel) (by decide +kernel)), (am_tb 769 (by decide +kernel) (by decide +kernel)), by decide, by decide, by decide +kernel⟩
def tb_X5_partsOfBillion : List (Nat × Instr × Nat) := [(0, .ldc2_w 236, 3), (3, .iload_n 0, 1), (4, .i2l, 1), (5, .lmul, 1), (6, .ldc2_w 238, 3), (9, .ldiv, 1), (10, .lstore 4, 2), (12, .iconst 0, 1), (13, .istore 6, 2), (15, .iload 6, 2), (17, .iload_n 2, 1), (18, .if_icmp .ge 33, 3), (21, .lload 4, 2), (23, .iload 6, 2), (25, .iload_n 3, 1), (26, .if_icmp .ge 7, 3), (29, .iload_n 1, 1), (30, .goto 7, 3), (33, .bipush 100, 2), (35, .iload_n 1, 1), (36, .isub, 1), (37, .i2l, 1), (38, .lmul, 1), (39, .ldc2_w 238, 3), (42, .ldiv, 1), (43, .lstore 4, 2), (45, .iinc 6 1, 3), (48, .goto (-33), 3), (51, .lload 4, 2), (53, .lreturn, 1)]
theorem tk_X5_partsOfBillion : am_tbl prog_1_method_23_code tb_X5_partsOfBillion = true := by decide +kernel
def b_X5_partsOfBillion_37 (k15 : Int32 → Int32 → Int32 → Int64 → Int32 → am_M → Option (Int64 × am_M)) (x1 : Int32) (x2 : Int32) (x3 : Int32) (x6 : Int32) (s0 : Int32) (s1 : Int64) (D : am_M) : Option (Int64 × am_M) := k15 x1 x2 x3 ((s1 * s0.toInt64) / 100) (x6 + 1) D
def b_X5_partsOfBillion_15 : Nat → Int32 → Int32 → Int32 → Int64 → Int32 → am_M → Option (Int64 × am_M)
  | 0, _, _, _, _, _, _ => none
  | n + 1, x1, x2, x3, x4, x6, D => if x2 ≤ x6 then some (x4, D) else b_X5_partsOfBillion_37 (b_X5_partsOfBillion_15 n) x1 x2 x3 x6 (if x3 ≤ x6 then 100 - x1 else x1) x4 D
def f_X5_partsOfBillion (x0 : Int32) (x1 : Int32) (x2 : Int32) (x3 : Int32) (D : am_M) : Option (Int64 × am_M) := b_X5_partsOfBillion_15 am_N x1 x2 x3 ((1000000000 * x0.toInt64) / 100) 0 D
theorem bx_X5_partsOfBillion_37 {l : Launch} {h0 : am_H} {Φ : am_Ph} {tw : Nat} {tp : Bool}  {r : Int64} {D' : am_M} (hΦ : Φ (some (.long r)) (ly tw tp D')) {k15 : Int32 → Int32 → Int32 → Int64 → Int32 → am_M → Option (Int64 × am_M)} (hk15 : ∀ (x1 : Int32) (x2 : Int32) (x3 : Int32) (x4 : Int64) (x6 : Int32) (D : am_M), k15 x1 x2 x3 x4 x6 D = some (r, D') → am_Ex (am_E l m_X5_partsOfBillion false h0 Φ) prog_1_method_23_code (0, 0) 15 [(1, .int x1), (2, .int x2), (3, .int x3), (4, .long x4), (6, .int x6)] [] (ly tw tp D)) : ∀ (x1 : Int32) (x2 : Int32) (x3 : Int32) (x6 : Int32) (s0 : Int32) (s1 : Int64) (D : am_M), b_X5_partsOfBillion_37 k15 x1 x2 x3 x6 s0 s1 D = some (r, D') → am_Ex (am_E l m_X5_partsOfBillion false h0 Φ) prog_1_method_23_code (0, 0) 37 [(1, .int x1), (2, .int x2), (3, .int x3), (6, .int x6)] [.int s0, .long s1] (ly tw tp D) := by
  intro x1 x2 x3 x6 s0 s1 D h
  rw [b_X5_partsOfBillion_37] at h
  refine am_i2l (am_dk tk_X5_partsOfBillion 21 rfl) ?_
  refine am_lmul (am_dk tk_X5_partsOfBillion 22 rfl) ?_
  refine am_ldc2 kl_X5_238 (am_dk tk_X5_partsOfBillion 23 rfl) ?_
  refine am_ldiv (am_dk tk_X5_partsOfBillion 24 rfl) (by decide) ?_
  refine am_lstore (L' := [(4, .long ((s1 * s0.toInt64) / 100)), (1, .int x1), (2, .int x2), (3, .int x3), (6, .int x6)]) (am_dk tk_X5_partsOfBillion 25 rfl) (Nat.le_of_ble_eq_true rfl) rfl ?_
  refine am_iinc (j := 4) (v := x6 + 1) (L' := [(6, .int (x6 + 1)), (4, .long ((s1 * s0.toInt64) / 100)), (1, .int x1), (2, .int x2), (3, .int x3)]) (am_dk tk_X5_partsOfBillion 26 rfl) rfl rfl (Nat.le_of_ble_eq_true rfl) rfl ?_
  refine am_goto (tgt := 15) (am_dk tk_X5_partsOfBillion 27 rfl) (by decide) ?_
  refine am_ls [2, 3, 4, 1, 0] rfl ?_
  exact hk15 _ _ _ _ _ _ h
theorem bx_X5_partsOfBillion_15 {l : Launch} {h0 : am_H} {Φ : am_Ph} {tw : Nat} {tp : Bool}  {r : Int64} {D' : am_M} (hΦ : Φ (some (.long r)) (ly tw tp D')) : ∀ (n : Nat) (x1 : Int32) (x2 : Int32) (x3 : Int32) (x4 : Int64) (x6 : Int32) (D : am_M), b_X5_partsOfBillion_15 n x1 x2 x3 x4 x6 D = some (r, D') → am_Ex (am_E l m_X5_partsOfBillion false h0 Φ) prog_1_method_23_code (0, 0) 15 [(1, .int x1), (2, .int x2), (3, .int x3), (4, .long x4), (6, .int x6)] [] (ly tw tp D) := by
  intro n
  induction n with
  | zero =>
    intro x1 x2 x3 x4 x6 D h
    exact absurd h (by simp [b_X5_partsOfBillion_15])
  | succ n ih =>
    intro x1 x2 x3 x4 x6 D h
    rw [b_X5_partsOfBillion_15] at h
    refine am_iload (j := 4) (am_dk tk_X5_partsOfBillion 9 rfl) rfl ?_
    refine am_iload_n (j := 1) (am_dk tk_X5_partsOfBillion 10 rfl) rfl rfl ?_
    refine am_icmp_ge (tgt := 51) (am_dk tk_X5_partsOfBillion 11 rfl) (by decide) (fun hc18 => ?_) (fun hc18 => ?_)
    · rw [if_pos hc18] at h
      refine am_lload (j := 3) (am_dk tk_X5_partsOfBillion 28 rfl) rfl ?_
      exact am_lret rfl (am_r2l h hΦ) ⟨Nat.le_of_ble_eq_true rfl, Nat.le_of_ble_eq_true rfl⟩ (am_dk tk_X5_partsOfBillion 29 rfl)
    · rw [if_neg hc18] at h
      refine am_lload (j := 3) (am_dk tk_X5_partsOfBillion 12 rfl) rfl ?_
      refine am_iload (j := 4) (am_dk tk_X5_partsOfBillion 13 rfl) rfl ?_
      refine am_iload_n (j := 2) (am_dk tk_X5_partsOfBillion 14 rfl) rfl rfl ?_
      refine am_icmp_ge (tgt := 33) (am_dk tk_X5_partsOfBillion 15 rfl) (by decide) (fun hc26 => ?_) (fun hc26 => ?_)
      · simp only [if_pos hc26] at h
        refine am_bipush (v := 100) (am_dk tk_X5_partsOfBillion 18 rfl) (by decide) ?_
        refine am_iload_n (j := 0) (am_dk tk_X5_partsOfBillion 19 rfl) rfl rfl ?_
        refine am_isub (am_dk tk_X5_partsOfBillion 20 rfl) ?_
        refine am_ls [0, 1, 2, 4] rfl ?_
        exact bx_X5_partsOfBillion_37  hΦ (ih) _ _ _ _ _ _ _ h
      · simp only [if_neg hc26] at h
        refine am_iload_n (j := 0) (am_dk tk_X5_partsOfBillion 16 rfl) rfl rfl ?_
        refine am_goto (tgt := 37) (am_dk tk_X5_partsOfBillion 17 rfl) (by decide) ?_
        refine am_ls [0, 1, 2, 4] rfl ?_
        exact bx_X5_partsOfBillion_37  hΦ (ih) _ _ _ _ _ _ _ h
theorem ct_X5_partsOfBillion {l : Launch} {tw : Nat} {tp : Bool}  {x0 : Int32} {x1 : Int32} {x2 : Int32} {x3 : Int32} {r : Int64} {D D' : am_M} (h : f_X5_partsOfBillion x0 x1 x2 x3 D = some (r, D')) : am_CT l m_X5_partsOfBillion false [.int x0, .int x1, .int x2, .int x3] (ly tw tp D) (am_is (some (.long r)) (ly tw tp D')) := by
  have hΦ : am_is (some (.long r)) (ly tw tp D') (some (.long r)) (ly tw tp D') := ⟨rfl, rfl⟩
  refine am_CT.of (by decide) (Nat.le_of_ble_eq_true rfl) ?_
  show am_Ex _ _ _ 0 [(0, .int x0), (1, .int x1), (2, .int x2), (3, .int x3)] [] _
  rw [f_X5_partsOfBillion] at h
  refine am_ldc2 kl_X5_236 (am_dk tk_X5_partsOfBillion 0 rfl) ?_
  refine am_iload_n (j := 0) (am_dk tk_X5_partsOfBillion 1 rfl) rfl rfl ?_
  refine am_i2l (am_dk tk_X5_partsOfBillion 2 rfl) ?_
  refine am_lmul (am_dk tk_X5_partsOfBillion 3 rfl) ?_
  refine am_ldc2 kl_X5_238 (am_dk tk_X5_partsOfBillion 4 rfl) ?_
  refine am_ldiv (am_dk tk_X5_partsOfBillion 5 rfl) (by decide) ?_
  refine am_lstore (L' := [(4, .long ((1000000000 * x0.toInt64) / 100)), (0, .int x0), (1, .int x1), (2, .int x2), (3, .int x3)]) (am_dk tk_X5_partsOfBillion 6 rfl) (Nat.le_of_ble_eq_true rfl) rfl ?_
  refine am_iconst (v := 0) (am_dk tk_X5_partsOfBillion 7 rfl) (by decide) ?_
  refine am_istore (L' := [(6, .int 0), (4, .long ((1000000000 * x0.toInt64) / 100)), (0, .int x0), (1, .int x1), (2, .int x2), (3, .int x3)]) (am_dk tk_X5_partsOfBillion 8 rfl) (Nat.le_of_ble_eq_true rfl) rfl ?_
  refine am_ls [3, 4, 5, 1, 0] rfl ?_
  exact bx_X5_partsOfBillion_15  hΦ am_N _ _ _ _ _ _ h
abbrev m_X5_isFalse : am_D := (yX5_isFalse, prog_1_method_22_code, 10, (some .int), { frames := 1, cells := 0, slots := 0, locals := 26 })
theorem ld_X5_isFalse : am_LD m_X5_isFalse 5 := ⟨(am_tb 79 (by decide +kernel) (by decide +kernel)), (am_tb 766 (by decide +kernel) (by decide +kernel)), by decide, by decide, by decide +kernel⟩
def tb_X5_isFalse : List (Nat × Instr × Nat) := [(0, .iload_n 1, 1), (1, .iconst 0, 1), (2, .bipush 100, 2), (4, .invokestatic 67, 3), (7, .ifCond .eq 23, 3), (10, .iload_n 2, 1), (11, .iconst 0, 1), (12, .bipush 100, 2), (14, .invokestatic 67, 3), (17, .ifCond .eq 13, 3), (20, .iload_n 3, 1), (21, .iconst 0, 1), (22, .bipush 100, 2), (24, .invokestatic 67, 3), (27, .ifCond .ne 6, 3), (30, .ldc 71, 2), (32, .ireturn, 1), (33, .iload 4, 2), (35, .iconst 0, 1), (36, .bipush 9, 2), (38, .invokestatic 67, 3), (41, .ifCond .eq 14, 3), (44, .iload 5, 2), (46, .iconst 0, 1), (47, .iload 4, 2), (49, .invokestatic 67, 3), (52, .ifCond .ne 6, 3), (55, .ldc 71, 2), (57, .ireturn, 1), (58, .iload_n 1, 1), (59, .iload_n 2, 1), (60, .iload 4, 2), (62, .iload 5, 2), (64, .invokestatic 230, 3), (67, .lstore 6, 2), (69, .lload 6, 2), (71, .bipush 100, 2), (73, .iload_n 1, 1), (74, .isub, 1), (75, .iload_n 3, 1), (76, .iload 4, 2), (78, .iload 5, 2), (80, .invokestatic 230, 3), (83, .ladd, 1), (84, .lstore 8, 2), (86, .lload 8, 2), (88, .lconst 0, 1), (89, .lcmp, 1), (90, .ifCond .ne 7, 3), (93, .iconst 0, 1), (94, .goto 13, 3), (97, .lload 6, 2), (99, .ldc2_w 234, 3), (102, .lmul, 1), (103, .lload 8, 2), (105, .ldiv, 1), (106, .l2i, 1), (107, .ireturn, 1)]
theorem tk_X5_isFalse : am_tbl prog_1_method_22_code tb_X5_isFalse = true := by decide +kernel
def f_X5_isFalse (tw : Nat) (x1 : Int32) (x2 : Int32) (x3 : Int32) (x4 : Int32) (x5 : Int32) (D : am_M) : Option (Int32 × am_M) := if (f_X5_isWithin x1 0 100) = 0 then some ((-1000000002), D) else if (f_X5_isWithin x2 0 100) = 0 then some ((-1000000002), D) else if (f_X5_isWithin x3 0 100) = 0 then some ((-1000000002), D) else if (f_X5_isWithin x4 0 9) = 0 then some ((-1000000002), D) else if (f_X5_isWithin x5 0 x4) = 0 then some ((-1000000002), D) else (f_X5_partsOfBillion x1 x2 x4 x5 D).bind fun q64 => (f_X5_partsOfBillion (100 - x1) x3 x4 x5 q64.2).bind fun q80 => if (lg_cmp (q64.1 + q80.1) 0) = 0 then some (0, q80.2) else if (q64.1 + q80.1) = 0 then none else some (((q64.1 * 1000000) / (q64.1 + q80.1)).toInt32, q80.2)
theorem ct_X5_isFalse {l : Launch} {tw : Nat} {tp : Bool} (htw : lyT tw) {x1 : Int32} {x2 : Int32} {x3 : Int32} {x4 : Int32} {x5 : Int32} {r : Int32} {D D' : am_M} (h : f_X5_isFalse tw x1 x2 x3 x4 x5 D = some (r, D')) : am_CT l m_X5_isFalse false [.ref 0, .int x1, .int x2, .int x3, .int x4, .int x5] (ly tw tp D) (am_is (some (.int r)) (ly tw tp D')) := by
  have hΦ : am_is (some (.int r)) (ly tw tp D') (some (.int r)) (ly tw tp D') := ⟨rfl, rfl⟩
  refine am_CT.of (by decide) (Nat.le_of_ble_eq_true rfl) ?_
  show am_Ex _ _ _ 0 [(0, .ref 0), (1, .int x1), (2, .int x2), (3, .int x3), (4, .int x4), (5, .int x5)] [] _
  rw [f_X5_isFalse] at h
  refine am_iload_n (j := 1) (am_dk tk_X5_isFalse 0 rfl) rfl rfl ?_
  refine am_iconst (v := 0) (am_dk tk_X5_isFalse 1 rfl) (by decide) ?_
  refine am_bipush (v := 100) (am_dk tk_X5_isFalse 2 rfl) (by decide) ?_
  refine am_cS (M := m_X5_isWithin) (As := [.int x1, .int 0, .int 100]) (st := []) (ct_X5_isWithin _ _ _ _) ml_X5_67 ld_X5_isWithin rfl ⟨Nat.le_of_ble_eq_true rfl, Nat.le_of_ble_eq_true rfl⟩ (Nat.le_of_ble_eq_true rfl) ⟨rfl, rfl⟩ ⟨Nat.le_of_ble_eq_true rfl, Nat.le_of_ble_eq_true rfl⟩ (am_dk tk_X5_isFalse 3 rfl) (am_kki ?_)
  refine am_if_eq (tgt := 30) (am_dk tk_X5_isFalse 4 rfl) (by decide) (fun hc7 => ?_) (fun hc7 => ?_)
  · rw [if_pos hc7] at h
    refine am_ldc kc_X5_71 (am_dk tk_X5_isFalse 15 rfl) ?_
    exact am_iret rfl (am_r2 h hΦ) ⟨Nat.le_of_ble_eq_true rfl, Nat.le_of_ble_eq_true rfl⟩ (am_dk tk_X5_isFalse 16 rfl)
  · rw [if_neg hc7] at h
    refine am_iload_n (j := 2) (am_dk tk_X5_isFalse 5 rfl) rfl rfl ?_
    refine am_iconst (v := 0) (am_dk tk_X5_isFalse 6 rfl) (by decide) ?_
    refine am_bipush (v := 100) (am_dk tk_X5_isFalse 7 rfl) (by decide) ?_
    refine am_cS (M := m_X5_isWithin) (As := [.int x2, .int 0, .int 100]) (st := []) (ct_X5_isWithin _ _ _ _) ml_X5_67 ld_X5_isWithin rfl ⟨Nat.le_of_ble_eq_true rfl, Nat.le_of_ble_eq_true rfl⟩ (Nat.le_of_ble_eq_true rfl) ⟨rfl, rfl⟩ ⟨Nat.le_of_ble_eq_true rfl, Nat.le_of_ble_eq_true rfl⟩ (am_dk tk_X5_isFalse 8 rfl) (am_kki ?_)
    refine am_if_eq (tgt := 30) (am_dk tk_X5_isFalse 9 rfl) (by decide) (fun hc17 => ?_) (fun hc17 => ?_)
    · rw [if_pos hc17] at h
      refine am_ldc kc_X5_71 (am_dk tk_X5_isFalse 15 rfl) ?_
      exact am_iret rfl (am_r2 h hΦ) ⟨Nat.le_of_ble_eq_true rfl, Nat.le_of_ble_eq_true rfl⟩ (am_dk tk_X5_isFalse 16 rfl)
    · rw [if_neg hc17] at h
      refine am_iload_n (j := 3) (am_dk tk_X5_isFalse 10 rfl) rfl rfl ?_
      refine am_iconst (v := 0) (am_dk tk_X5_isFalse 11 rfl) (by decide) ?_
      refine am_bipush (v := 100) (am_dk tk_X5_isFalse 12 rfl) (by decide) ?_
      refine am_cS (M := m_X5_isWithin) (As := [.int x3, .int 0, .int 100]) (st := []) (ct_X5_isWithin _ _ _ _) ml_X5_67 ld_X5_isWithin rfl ⟨Nat.le_of_ble_eq_true rfl, Nat.le_of_ble_eq_true rfl⟩ (Nat.le_of_ble_eq_true rfl) ⟨rfl, rfl⟩ ⟨Nat.le_of_ble_eq_true rfl, Nat.le_of_ble_eq_true rfl⟩ (am_dk tk_X5_isFalse 13 rfl) (am_kki ?_)
      refine am_if_ne (tgt := 33) (am_dk tk_X5_isFalse 14 rfl) (by decide) (fun hc27 => ?_) (fun hc27 => ?_)
      · rw [if_neg hc27] at h
        refine am_iload (j := 4) (am_dk tk_X5_isFalse 17 rfl) rfl ?_
        refine am_iconst (v := 0) (am_dk tk_X5_isFalse 18 rfl) (by decide) ?_
        refine am_bipush (v := 9) (am_dk tk_X5_isFalse 19 rfl) (by decide) ?_
        refine am_cS (M := m_X5_isWithin) (As := [.int x4, .int 0, .int 9]) (st := []) (ct_X5_isWithin _ _ _ _) ml_X5_67 ld_X5_isWithin rfl ⟨Nat.le_of_ble_eq_true rfl, Nat.le_of_ble_eq_true rfl⟩ (Nat.le_of_ble_eq_true rfl) ⟨rfl, rfl⟩ ⟨Nat.le_of_ble_eq_true rfl, Nat.le_of_ble_eq_true rfl⟩ (am_dk tk_X5_isFalse 20 rfl) (am_kki ?_)
        refine am_if_eq (tgt := 55) (am_dk tk_X5_isFalse 21 rfl) (by decide) (fun hc41 => ?_) (fun hc41 => ?_)
        · rw [if_pos hc41] at h
          refine am_ldc kc_X5_71 (am_dk tk_X5_isFalse 27 rfl) ?_
          exact am_iret rfl (am_r2 h hΦ) ⟨Nat.le_of_ble_eq_true rfl, Nat.le_of_ble_eq_true rfl⟩ (am_dk tk_X5_isFalse 28 rfl)
        · rw [if_neg hc41] at h
          refine am_iload (j := 5) (am_dk tk_X5_isFalse 22 rfl) rfl ?_
          refine am_iconst (v := 0) (am_dk tk_X5_isFalse 23 rfl) (by decide) ?_
          refine am_iload (j := 4) (am_dk tk_X5_isFalse 24 rfl) rfl ?_
          refine am_cS (M := m_X5_isWithin) (As := [.int x5, .int 0, .int x4]) (st := []) (ct_X5_isWithin _ _ _ _) ml_X5_67 ld_X5_isWithin rfl ⟨Nat.le_of_ble_eq_true rfl, Nat.le_of_ble_eq_true rfl⟩ (Nat.le_of_ble_eq_true rfl) ⟨rfl, rfl⟩ ⟨Nat.le_of_ble_eq_true rfl, Nat.le_of_ble_eq_true rfl⟩ (am_dk tk_X5_isFalse 25 rfl) (am_kki ?_)
          refine am_if_ne (tgt := 58) (am_dk tk_X5_isFalse 26 rfl) (by decide) (fun hc52 => ?_) (fun hc52 => ?_)
          · rw [if_neg hc52] at h
            refine am_iload_n (j := 1) (am_dk tk_X5_isFalse 29 rfl) rfl rfl ?_
            refine am_iload_n (j := 2) (am_dk tk_X5_isFalse 30 rfl) rfl rfl ?_
            refine am_iload (j := 4) (am_dk tk_X5_isFalse 31 rfl) rfl ?_
            refine am_iload (j := 5) (am_dk tk_X5_isFalse 32 rfl) rfl ?_
            obtain ⟨q64, hq64, h⟩ := am_bind h
            refine am_cS (M := m_X5_partsOfBillion) (As := [.int x1, .int x2, .int x4, .int x5]) (st := []) (ct_X5_partsOfBillion hq64) ml_X5_230 ld_X5_partsOfBillion rfl ⟨Nat.le_of_ble_eq_true rfl, Nat.le_of_ble_eq_true rfl⟩ (Nat.le_of_ble_eq_true rfl) ⟨rfl, rfl⟩ ⟨Nat.le_of_ble_eq_true rfl, Nat.le_of_ble_eq_true rfl⟩ (am_dk tk_X5_isFalse 33 rfl) (am_kkl ?_)
            refine am_lstore (L' := [(6, .long q64.1), (0, .ref 0), (1, .int x1), (2, .int x2), (3, .int x3), (4, .int x4), (5, .int x5)]) (am_dk tk_X5_isFalse 34 rfl) (Nat.le_of_ble_eq_true rfl) rfl ?_
            refine am_lload (j := 0) (am_dk tk_X5_isFalse 35 rfl) rfl ?_
            refine am_bipush (v := 100) (am_dk tk_X5_isFalse 36 rfl) (by decide) ?_
            refine am_iload_n (j := 2) (am_dk tk_X5_isFalse 37 rfl) rfl rfl ?_
            refine am_isub (am_dk tk_X5_isFalse 38 rfl) ?_
            refine am_iload_n (j := 4) (am_dk tk_X5_isFalse 39 rfl) rfl rfl ?_
            refine am_iload (j := 5) (am_dk tk_X5_isFalse 40 rfl) rfl ?_
            refine am_iload (j := 6) (am_dk tk_X5_isFalse 41 rfl) rfl ?_
            obtain ⟨q80, hq80, h⟩ := am_bind h
            refine am_cS (M := m_X5_partsOfBillion) (As := [.int (100 - x1), .int x3, .int x4, .int x5]) (st := [.long q64.1]) (ct_X5_partsOfBillion hq80) ml_X5_230 ld_X5_partsOfBillion rfl ⟨Nat.le_of_ble_eq_true rfl, Nat.le_of_ble_eq_true rfl⟩ (Nat.le_of_ble_eq_true rfl) ⟨rfl, rfl⟩ ⟨Nat.le_of_ble_eq_true rfl, Nat.le_of_ble_eq_true rfl⟩ (am_dk tk_X5_isFalse 42 rfl) (am_kkl ?_)
            refine am_ladd (am_dk tk_X5_isFalse 43 rfl) ?_
            refine am_lstore (L' := [(8, .long (q64.1 + q80.1)), (6, .long q64.1), (0, .ref 0), (1, .int x1), (2, .int x2), (3, .int x3), (4, .int x4), (5, .int x5)]) (am_dk tk_X5_isFalse 44 rfl) (Nat.le_of_ble_eq_true rfl) rfl ?_
            refine am_lload (j := 0) (am_dk tk_X5_isFalse 45 rfl) rfl ?_
            refine am_lconst (v := 0) (am_dk tk_X5_isFalse 46 rfl) (by decide) ?_
            refine am_lcmp (am_dk tk_X5_isFalse 47 rfl) ?_
            refine am_if_ne (tgt := 97) (am_dk tk_X5_isFalse 48 rfl) (by decide) (fun hc90 => ?_) (fun hc90 => ?_)
            · rw [if_neg hc90] at h
              refine am_lload (j := 1) (am_dk tk_X5_isFalse 51 rfl) rfl ?_
              refine am_ldc2 kl_X5_234 (am_dk tk_X5_isFalse 52 rfl) ?_
              refine am_lmul (am_dk tk_X5_isFalse 53 rfl) ?_
              refine am_lload (j := 0) (am_dk tk_X5_isFalse 54 rfl) rfl ?_
              obtain ⟨hz105, h⟩ := am_chn h
              refine am_ldiv (am_dk tk_X5_isFalse 55 rfl) hz105 ?_
              refine am_l2i (am_dk tk_X5_isFalse 56 rfl) ?_
              exact am_iret rfl (am_r2 h hΦ) ⟨Nat.le_of_ble_eq_true rfl, Nat.le_of_ble_eq_true rfl⟩ (am_dk tk_X5_isFalse 57 rfl)
            · rw [if_pos hc90] at h
              refine am_iconst (v := 0) (am_dk tk_X5_isFalse 49 rfl) (by decide) ?_
              refine am_goto (tgt := 107) (am_dk tk_X5_isFalse 50 rfl) (by decide) ?_
              exact am_iret rfl (am_r2 h hΦ) ⟨Nat.le_of_ble_eq_true rfl, Nat.le_of_ble_eq_true rfl⟩ (am_dk tk_X5_isFalse 57 rfl)
          · rw [if_pos hc52] at h
            refine am_ldc kc_X5_71 (am_dk tk_X5_isFalse 27 rfl) ?_
            exact am_iret rfl (am_r2 h hΦ) ⟨Nat.le_of_ble_eq_true rfl, Nat.le_of_ble_eq_true rfl⟩ (am_dk tk_X5_isFalse 28 rfl)
      · rw [if_pos hc27] at h
        refine am_ldc kc_X5_71 (am_dk tk_X5_isFalse 15 rfl) ?_
        exact am_iret rfl (am_r2 h hΦ) ⟨Nat.le_of_ble_eq_true rfl, Nat.le_of_ble_eq_true rfl⟩ (am_dk tk_X5_isFalse 16 rfl)
abbrev m_X5_prices : am_D := (yX5_prices, prog_1_method_24_code, 8, (some .int), { frames := 1, cells := 0, slots := 0, locals := 22 })
theorem ld_X5_prices : am_LD m_X5_prices 4 := ⟨(am_tb 79 (by decide +kernel) (by decide +kernel)), (am_tb 776 (by decide +kernel) (by decide +kernel)), by decide, by decide, by decide +kernel⟩
def tb_X5_prices : List (Nat × Instr × Nat) := [(0, .iload_n 1, 1), (1, .iconst 0, 1), (2, .sipush 9999, 3), (5, .invokestatic 67, 3), (8, .ifCond .eq 14, 3), (11, .iload_n 2, 1), (12, .iconst 0, 1), (13, .sipush 300, 3), (16, .invokestatic 67, 3), (19, .ifCond .ne 6, 3), (22, .ldc 71, 2), (24, .ireturn, 1), (25, .iload_n 3, 1), (26, .iconst 0, 1), (27, .bipush 99, 2), (29, .invokestatic 67, 3), (32, .ifCond .eq 13, 3), (35, .iload 4, 2), (37, .iconst 0, 1), (38, .iconst 1, 1), (39, .invokestatic 67, 3), (42, .ifCond .ne 6, 3), (45, .ldc 71, 2), (47, .ireturn, 1), (48, .iload_n 1, 1), (49, .istore 5, 2), (51, .iconst 0, 1), (52, .istore 6, 2), (54, .iload 6, 2), (56, .sipush 500, 3), (59, .if_icmp .gt 53, 3), (62, .iload 5, 2), (64, .iload_n 2, 1), (65, .imul, 1), (66, .bipush 100, 2), (68, .idiv, 1), (69, .iload_n 3, 1), (70, .iadd, 1), (71, .istore 7, 2), (73, .iload 7, 2), (75, .iload 5, 2), (77, .if_icmp .ne 16, 3), (80, .iload 4, 2), (82, .ifCond .ne 8, 3), (85, .iload 6, 2), (87, .goto 5, 3), (90, .iload 5, 2), (92, .ireturn, 1), (93, .iload 7, 2), (95, .ldc 240, 2), (97, .if_icmp .le 5, 3), (100, .iconst (-1), 1), (101, .ireturn, 1), (102, .iload 7, 2), (104, .istore 5, 2), (106, .iinc 6 1, 3), (109, .goto (-55), 3), (112, .iconst (-1), 1), (113, .ireturn, 1)]
theorem tk_X5_prices : am_tbl prog_1_method_24_code tb_X5_prices = true := by decide +kernel
def b_X5_prices_54 (tw : Nat) : Nat → Int32 → Int32 → Int32 → Int32 → Int32 → am_M → Option (Int32 × am_M)
  | 0, _, _, _, _, _, _ => none
  | n + 1, x2, x3, x4, x5, x6, D => if 500 < x6 then some ((-1), D) else if (((x5 * x2) / 100) + x3) = x5 then if x4 = 0 then some (x6, D) else some (x5, D) else if (((x5 * x2) / 100) + x3) ≤ 99999 then b_X5_prices_54 tw n x2 x3 x4 (((x5 * x2) / 100) + x3) (x6 + 1) D else some ((-1), D)
def f_X5_prices (tw : Nat) (x1 : Int32) (x2 : Int32) (x3 : Int32) (x4 : Int32) (D : am_M) : Option (Int32 × am_M) := if (f_X5_isWithin x1 0 9999) = 0 then some ((-1000000002), D) else if (f_X5_isWithin x2 0 300) = 0 then some ((-1000000002), D) else if (f_X5_isWithin x3 0 99) = 0 then some ((-1000000002), D) else if (f_X5_isWithin x4 0 1) = 0 then some ((-1000000002), D) else b_X5_prices_54 tw am_N x2 x3 x4 x1 0 D
theorem bx_X5_prices_54 {l : Launch} {h0 : am_H} {Φ : am_Ph} {tw : Nat} {tp : Bool} (htw : lyT tw) {r : Int32} {D' : am_M} (hΦ : Φ (some (.int r)) (ly tw tp D')) : ∀ (n : Nat) (x2 : Int32) (x3 : Int32) (x4 : Int32) (x5 : Int32) (x6 : Int32) (D : am_M), b_X5_prices_54 tw n x2 x3 x4 x5 x6 D = some (r, D') → am_Ex (am_E l m_X5_prices false h0 Φ) prog_1_method_24_code (0, 0) 54 [(2, .int x2), (3, .int x3), (4, .int x4), (5, .int x5), (6, .int x6)] [] (ly tw tp D) := by
  intro n
  induction n with
  | zero =>
    intro x2 x3 x4 x5 x6 D h
    exact absurd h (by simp [b_X5_prices_54])
  | succ n ih =>
    intro x2 x3 x4 x5 x6 D h
    rw [b_X5_prices_54] at h
    refine am_iload (j := 4) (am_dk tk_X5_prices 28 rfl) rfl ?_
    refine am_sipush (v := 500) (am_dk tk_X5_prices 29 rfl) (by decide) ?_
    refine am_icmp_gt (tgt := 112) (am_dk tk_X5_prices 30 rfl) (by decide) (fun hc59 => ?_) (fun hc59 => ?_)
    · rw [if_pos hc59] at h
      refine am_iconst (v := (-1)) (am_dk tk_X5_prices 57 rfl) (by decide) ?_
      exact am_iret rfl (am_r2 h hΦ) ⟨Nat.le_of_ble_eq_true rfl, Nat.le_of_ble_eq_true rfl⟩ (am_dk tk_X5_prices 58 rfl)
    · rw [if_neg hc59] at h
      refine am_iload (j := 3) (am_dk tk_X5_prices 31 rfl) rfl ?_
      refine am_iload_n (j := 0) (am_dk tk_X5_prices 32 rfl) rfl rfl ?_
      refine am_imul (am_dk tk_X5_prices 33 rfl) ?_
      refine am_bipush (v := 100) (am_dk tk_X5_prices 34 rfl) (by decide) ?_
      refine am_idiv (am_dk tk_X5_prices 35 rfl) (by decide) ?_
      refine am_iload_n (j := 1) (am_dk tk_X5_prices 36 rfl) rfl rfl ?_
      refine am_iadd (am_dk tk_X5_prices 37 rfl) ?_
      refine am_istore (L' := [(7, .int (((x5 * x2) / 100) + x3)), (2, .int x2), (3, .int x3), (4, .int x4), (5, .int x5), (6, .int x6)]) (am_dk tk_X5_prices 38 rfl) (Nat.le_of_ble_eq_true rfl) rfl ?_
      refine am_iload (j := 0) (am_dk tk_X5_prices 39 rfl) rfl ?_
      refine am_iload (j := 4) (am_dk tk_X5_prices 40 rfl) rfl ?_
      refine am_icmp_ne (tgt := 93) (am_dk tk_X5_prices 41 rfl) (by decide) (fun hc77 => ?_) (fun hc77 => ?_)
      · rw [if_neg hc77] at h
        refine am_iload (j := 0) (am_dk tk_X5_prices 48 rfl) rfl ?_
        refine am_ldc kc_X5_240 (am_dk tk_X5_prices 49 rfl) ?_
        refine am_icmp_le (tgt := 102) (am_dk tk_X5_prices 50 rfl) (by decide) (fun hc97 => ?_) (fun hc97 => ?_)
        · rw [if_pos hc97] at h
          refine am_iload (j := 0) (am_dk tk_X5_prices 53 rfl) rfl ?_
          refine am_istore (L' := [(5, .int (((x5 * x2) / 100) + x3)), (7, .int (((x5 * x2) / 100) + x3)), (2, .int x2), (3, .int x3), (4, .int x4), (6, .int x6)]) (am_dk tk_X5_prices 54 rfl) (Nat.le_of_ble_eq_true rfl) rfl ?_
          refine am_iinc (j := 5) (v := x6 + 1) (L' := [(6, .int (x6 + 1)), (5, .int (((x5 * x2) / 100) + x3)), (7, .int (((x5 * x2) / 100) + x3)), (2, .int x2), (3, .int x3), (4, .int x4)]) (am_dk tk_X5_prices 55 rfl) rfl rfl (Nat.le_of_ble_eq_true rfl) rfl ?_
          refine am_goto (tgt := 54) (am_dk tk_X5_prices 56 rfl) (by decide) ?_
          refine am_ls [3, 4, 5, 1, 0] rfl ?_
          exact ih _ _ _ _ _ _ h
        · rw [if_neg hc97] at h
          refine am_iconst (v := (-1)) (am_dk tk_X5_prices 51 rfl) (by decide) ?_
          exact am_iret rfl (am_r2 h hΦ) ⟨Nat.le_of_ble_eq_true rfl, Nat.le_of_ble_eq_true rfl⟩ (am_dk tk_X5_prices 52 rfl)
      · rw [if_pos hc77] at h
        refine am_iload (j := 3) (am_dk tk_X5_prices 42 rfl) rfl ?_
        refine am_if_ne (tgt := 90) (am_dk tk_X5_prices 43 rfl) (by decide) (fun hc82 => ?_) (fun hc82 => ?_)
        · rw [if_neg hc82] at h
          refine am_iload (j := 4) (am_dk tk_X5_prices 46 rfl) rfl ?_
          exact am_iret rfl (am_r2 h hΦ) ⟨Nat.le_of_ble_eq_true rfl, Nat.le_of_ble_eq_true rfl⟩ (am_dk tk_X5_prices 47 rfl)
        · rw [if_pos hc82] at h
          refine am_iload (j := 5) (am_dk tk_X5_prices 44 rfl) rfl ?_
          refine am_goto (tgt := 92) (am_dk tk_X5_prices 45 rfl) (by decide) ?_
          exact am_iret rfl (am_r2 h hΦ) ⟨Nat.le_of_ble_eq_true rfl, Nat.le_of_ble_eq_true rfl⟩ (am_dk tk_X5_prices 47 rfl)
theorem ct_X5_prices {l : Launch} {tw : Nat} {tp : Bool} (htw : lyT tw) {x1 : Int32} {x2 : Int32} {x3 : Int32} {x4 : Int32} {r : Int32} {D D' : am_M} (h : f_X5_prices tw x1 x2 x3 x4 D = some (r, D')) : am_CT l m_X5_prices false [.ref 0, .int x1, .int x2, .int x3, .int x4] (ly tw tp D) (am_is (some (.int r)) (ly tw tp D')) := by
  have hΦ : am_is (some (.int r)) (ly tw tp D') (some (.int r)) (ly tw tp D') := ⟨rfl, rfl⟩
  refine am_CT.of (by decide) (Nat.le_of_ble_eq_true rfl) ?_
  show am_Ex _ _ _ 0 [(0, .ref 0), (1, .int x1), (2, .int x2), (3, .int x3), (4, .int x4)] [] _
  rw [f_X5_prices] at h
  refine am_iload_n (j := 1) (am_dk tk_X5_prices 0 rfl) rfl rfl ?_
  refine am_iconst (v := 0) (am_dk tk_X5_prices 1 rfl) (by decide) ?_
  refine am_sipush (v := 9999) (am_dk tk_X5_prices 2 rfl) (by decide) ?_
  refine am_cS (M := m_X5_isWithin) (As := [.int x1, .int 0, .int 9999]) (st := []) (ct_X5_isWithin _ _ _ _) ml_X5_67 ld_X5_isWithin rfl ⟨Nat.le_of_ble_eq_true rfl, Nat.le_of_ble_eq_true rfl⟩ (Nat.le_of_ble_eq_true rfl) ⟨rfl, rfl⟩ ⟨Nat.le_of_ble_eq_true rfl, Nat.le_of_ble_eq_true rfl⟩ (am_dk tk_X5_prices 3 rfl) (am_kki ?_)
  refine am_if_eq (tgt := 22) (am_dk tk_X5_prices 4 rfl) (by decide) (fun hc8 => ?_) (fun hc8 => ?_)
  · rw [if_pos hc8] at h
    refine am_ldc kc_X5_71 (am_dk tk_X5_prices 10 rfl) ?_
    exact am_iret rfl (am_r2 h hΦ) ⟨Nat.le_of_ble_eq_true rfl, Nat.le_of_ble_eq_true rfl⟩ (am_dk tk_X5_prices 11 rfl)
  · rw [if_neg hc8] at h
    refine am_iload_n (j := 2) (am_dk tk_X5_prices 5 rfl) rfl rfl ?_
    refine am_iconst (v := 0) (am_dk tk_X5_prices 6 rfl) (by decide) ?_
    refine am_sipush (v := 300) (am_dk tk_X5_prices 7 rfl) (by decide) ?_
    refine am_cS (M := m_X5_isWithin) (As := [.int x2, .int 0, .int 300]) (st := []) (ct_X5_isWithin _ _ _ _) ml_X5_67 ld_X5_isWithin rfl ⟨Nat.le_of_ble_eq_true rfl, Nat.le_of_ble_eq_true rfl⟩ (Nat.le_of_ble_eq_true rfl) ⟨rfl, rfl⟩ ⟨Nat.le_of_ble_eq_true rfl, Nat.le_of_ble_eq_true rfl⟩ (am_dk tk_X5_prices 8 rfl) (am_kki ?_)
    refine am_if_ne (tgt := 25) (am_dk tk_X5_prices 9 rfl) (by decide) (fun hc19 => ?_) (fun hc19 => ?_)
    · rw [if_neg hc19] at h
      refine am_iload_n (j := 3) (am_dk tk_X5_prices 12 rfl) rfl rfl ?_
      refine am_iconst (v := 0) (am_dk tk_X5_prices 13 rfl) (by decide) ?_
      refine am_bipush (v := 99) (am_dk tk_X5_prices 14 rfl) (by decide) ?_
      refine am_cS (M := m_X5_isWithin) (As := [.int x3, .int 0, .int 99]) (st := []) (ct_X5_isWithin _ _ _ _) ml_X5_67 ld_X5_isWithin rfl ⟨Nat.le_of_ble_eq_true rfl, Nat.le_of_ble_eq_true rfl⟩ (Nat.le_of_ble_eq_true rfl) ⟨rfl, rfl⟩ ⟨Nat.le_of_ble_eq_true rfl, Nat.le_of_ble_eq_true rfl⟩ (am_dk tk_X5_prices 15 rfl) (am_kki ?_)
      refine am_if_eq (tgt := 45) (am_dk tk_X5_prices 16 rfl) (by decide) (fun hc32 => ?_) (fun hc32 => ?_)
      · rw [if_pos hc32] at h
        refine am_ldc kc_X5_71 (am_dk tk_X5_prices 22 rfl) ?_
        exact am_iret rfl (am_r2 h hΦ) ⟨Nat.le_of_ble_eq_true rfl, Nat.le_of_ble_eq_true rfl⟩ (am_dk tk_X5_prices 23 rfl)
      · rw [if_neg hc32] at h
        refine am_iload (j := 4) (am_dk tk_X5_prices 17 rfl) rfl ?_
        refine am_iconst (v := 0) (am_dk tk_X5_prices 18 rfl) (by decide) ?_
        refine am_iconst (v := 1) (am_dk tk_X5_prices 19 rfl) (by decide) ?_
        refine am_cS (M := m_X5_isWithin) (As := [.int x4, .int 0, .int 1]) (st := []) (ct_X5_isWithin _ _ _ _) ml_X5_67 ld_X5_isWithin rfl ⟨Nat.le_of_ble_eq_true rfl, Nat.le_of_ble_eq_true rfl⟩ (Nat.le_of_ble_eq_true rfl) ⟨rfl, rfl⟩ ⟨Nat.le_of_ble_eq_true rfl, Nat.le_of_ble_eq_true rfl⟩ (am_dk tk_X5_prices 20 rfl) (am_kki ?_)
        refine am_if_ne (tgt := 48) (am_dk tk_X5_prices 21 rfl) (by decide) (fun hc42 => ?_) (fun hc42 => ?_)
        · rw [if_neg hc42] at h
          refine am_iload_n (j := 1) (am_dk tk_X5_prices 24 rfl) rfl rfl ?_
          refine am_istore (L' := [(5, .int x1), (0, .ref 0), (1, .int x1), (2, .int x2), (3, .int x3), (4, .int x4)]) (am_dk tk_X5_prices 25 rfl) (Nat.le_of_ble_eq_true rfl) rfl ?_
          refine am_iconst (v := 0) (am_dk tk_X5_prices 26 rfl) (by decide) ?_
          refine am_istore (L' := [(6, .int 0), (5, .int x1), (0, .ref 0), (1, .int x1), (2, .int x2), (3, .int x3), (4, .int x4)]) (am_dk tk_X5_prices 27 rfl) (Nat.le_of_ble_eq_true rfl) rfl ?_
          refine am_ls [4, 5, 6, 1, 0] rfl ?_
          exact bx_X5_prices_54 htw hΦ am_N _ _ _ _ _ _ h
        · rw [if_pos hc42] at h
          refine am_ldc kc_X5_71 (am_dk tk_X5_prices 22 rfl) ?_
          exact am_iret rfl (am_r2 h hΦ) ⟨Nat.le_of_ble_eq_true rfl, Nat.le_of_ble_eq_true rfl⟩ (am_dk tk_X5_prices 23 rfl)
    · rw [if_pos hc19] at h
      refine am_ldc kc_X5_71 (am_dk tk_X5_prices 10 rfl) ?_
      exact am_iret rfl (am_r2 h hΦ) ⟨Nat.le_of_ble_eq_true rfl, Nat.le_of_ble_eq_true rfl⟩ (am_dk tk_X5_prices 11 rfl)
abbrev m_X5_robbed : am_D := (yX5_robbed, prog_1_method_25_code, 9, (some .int), { frames := 2, cells := 0, slots := 0, locals := 44 })
theorem ld_X5_robbed : am_LD m_X5_robbed 3 := ⟨(am_tb 79 (by decide +kernel) (by decide +kernel)), (am_tb 781 (by decide +kernel) (by decide +kernel)), by decide, by decide, by decide +kernel⟩
def tb_X5_robbed : List (Nat × Instr × Nat) := [(0, .iconst 1, 1), (1, .aload_n 0, 1), (2, .getfield 10, 3), (5, .getfield 104, 3), (8, .ishl, 1), (9, .istore 4, 2), (11, .iload_n 1, 1), (12, .iconst 0, 1), (13, .iload 4, 2), (15, .iconst 1, 1), (16, .isub, 1), (17, .invokestatic 67, 3), (20, .ifCond .ne 6, 3), (23, .ldc 141, 2), (25, .ireturn, 1), (26, .iload_n 2, 1), (27, .iconst 0, 1), (28, .sipush 999, 3), (31, .invokestatic 67, 3), (34, .ifCond .eq 12, 3), (37, .iload_n 3, 1), (38, .iconst 0, 1), (39, .iconst 2, 1), (40, .invokestatic 67, 3), (43, .ifCond .ne 6, 3), (46, .ldc 71, 2), (48, .ireturn, 1), (49, .iconst 0, 1), (50, .istore 5, 2), (52, .iconst (-1), 1), (53, .istore 6, 2), (55, .iload 4, 2), (57, .iconst 1, 1), (58, .isub, 1), (59, .istore 7, 2), (61, .iconst 0, 1), (62, .istore 8, 2), (64, .iload 8, 2), (66, .iload 4, 2), (68, .if_icmp .ge 52, 3), (71, .iload 8, 2), (73, .iload_n 1, 1), (74, .iand, 1), (75, .iload_n 1, 1), (76, .if_icmp .ne 38, 3), (79, .aload_n 0, 1), (80, .getfield 10, 3), (83, .iload 8, 2), (85, .invokevirtual 241, 3), (88, .iload_n 2, 1), (89, .if_icmp .eq 6, 3), (92, .goto 22, 3), (95, .iload 5, 2), (97, .ifCond .ne 7, 3), (100, .iload 8, 2), (102, .istore 6, 2), (104, .iinc 5 1, 3), (107, .iload 7, 2), (109, .iload 8, 2), (111, .iand, 1)]
theorem tk_X5_robbed : am_tbl prog_1_method_25_code tb_X5_robbed = true := by decide +kernel
def tb_X5_robbed_1 : List (Nat × Instr × Nat) := [(112, .istore 7, 2), (114, .iinc 8 1, 3), (117, .goto (-53), 3), (120, .iload_n 3, 1), (121, .ifCond .ne 6, 3), (124, .iload 5, 2), (126, .ireturn, 1), (127, .iload_n 3, 1), (128, .iconst 1, 1), (129, .if_icmp .ne 6, 3), (132, .iload 6, 2), (134, .ireturn, 1), (135, .iload 5, 2), (137, .ifCond .ne 7, 3), (140, .iconst 0, 1), (141, .goto 5, 3), (144, .iload 7, 2), (146, .ireturn, 1)]
theorem tk_X5_robbed_1 : am_tbl prog_1_method_25_code tb_X5_robbed_1 = true := by decide +kernel
def b_X5_robbed_104 (tw : Nat) (k64 : Int32 → Int32 → Int32 → Int32 → Int32 → Int32 → Int32 → Int32 → am_M → Option (Int32 × am_M)) (x1 : Int32) (x2 : Int32) (x3 : Int32) (x4 : Int32) (x5 : Int32) (x6 : Int32) (x7 : Int32) (x8 : Int32) (D : am_M) : Option (Int32 × am_M) := k64 x1 x2 x3 x4 (x5 + 1) x6 (x7 &&& x8) (x8 + 1) D
def b_X5_robbed_64 (tw : Nat) : Nat → Int32 → Int32 → Int32 → Int32 → Int32 → Int32 → Int32 → Int32 → am_M → Option (Int32 × am_M)
  | 0, _, _, _, _, _, _, _, _, _ => none
  | n + 1, x1, x2, x3, x4, x5, x6, x7, x8, D => if x4 ≤ x8 then if x3 = 0 then some (x5, D) else if x3 = 1 then some (x6, D) else if x5 = 0 then some (0, D) else some (x7, D) else if (x8 &&& x1) = x1 then (f_X4_yawnsOf tw x8 D).bind fun q85 => if q85.1 = x2 then b_X5_robbed_104 tw (b_X5_robbed_64 tw n) x1 x2 x3 x4 x5 (if x5 = 0 then x8 else x6) x7 x8 q85.2 else b_X5_robbed_64 tw n x1 x2 x3 x4 x5 x6 x7 (x8 + 1) q85.2 else b_X5_robbed_64 tw n x1 x2 x3 x4 x5 x6 x7 (x8 + 1) D
def f_X5_robbed (tw : Nat) (x1 : Int32) (x2 : Int32) (x3 : Int32) (D : am_M) : Option (Int32 × am_M) := if (f_X5_isWithin x1 0 ((1 <<< ((D tw 3) &&& 31)) - 1)) = 0 then some ((-1000000001), D) else if (f_X5_isWithin x2 0 999) = 0 then some ((-1000000002), D) else if (f_X5_isWithin x3 0 2) = 0 then some ((-1000000002), D) else b_X5_robbed_64 tw am_N x1 x2 x3 (1 <<< ((D tw 3) &&& 31)) 0 (-1) ((1 <<< ((D tw 3) &&& 31)) - 1) 0 D
theorem bx_X5_robbed_104 {l : Launch} {h0 : am_H} {Φ : am_Ph} {tw : Nat} {tp : Bool} (htw : lyT tw) {r : Int32} {D' : am_M} (hΦ : Φ (some (.int r)) (ly tw tp D')) {k64 : Int32 → Int32 → Int32 → Int32 → Int32 → Int32 → Int32 → Int32 → am_M → Option (Int32 × am_M)} (hk64 : ∀ (x1 : Int32) (x2 : Int32) (x3 : Int32) (x4 : Int32) (x5 : Int32) (x6 : Int32) (x7 : Int32) (x8 : Int32) (D : am_M), k64 x1 x2 x3 x4 x5 x6 x7 x8 D = some (r, D') → am_Ex (am_E l m_X5_robbed false h0 Φ) prog_1_method_25_code (0, 0) 64 [(0, .ref 0), (1, .int x1), (2, .int x2), (3, .int x3), (4, .int x4), (5, .int x5), (6, .int x6), (7, .int x7), (8, .int x8)] [] (ly tw tp D)) : ∀ (x1 : Int32) (x2 : Int32) (x3 : Int32) (x4 : Int32) (x5 : Int32) (x6 : Int32) (x7 : Int32) (x8 : Int32) (D : am_M), b_X5_robbed_104 tw k64 x1 x2 x3 x4 x5 x6 x7 x8 D = some (r, D') → am_Ex (am_E l m_X5_robbed false h0 Φ) prog_1_method_25_code (0, 0) 104 [(0, .ref 0), (1, .int x1), (2, .int x2), (3, .int x3), (4, .int x4), (5, .int x5), (6, .int x6), (7, .int x7), (8, .int x8)] [] (ly tw tp D) := by
  intro x1 x2 x3 x4 x5 x6 x7 x8 D h
  rw [b_X5_robbed_104] at h
  refine am_iinc (j := 5) (v := x5 + 1) (L' := [(5, .int (x5 + 1)), (0, .ref 0), (1, .int x1), (2, .int x2), (3, .int x3), (4, .int x4), (6, .int x6), (7, .int x7), (8, .int x8)]) (am_dk tk_X5_robbed 56 rfl) rfl rfl (Nat.le_of_ble_eq_true rfl) rfl ?_
  refine am_iload (j := 7) (am_dk tk_X5_robbed 57 rfl) rfl ?_
  refine am_iload (j := 8) (am_dk tk_X5_robbed 58 rfl) rfl ?_
  refine am_iand (am_dk tk_X5_robbed 59 rfl) ?_
  refine am_istore (L' := [(7, .int (x7 &&& x8)), (5, .int (x5 + 1)), (0, .ref 0), (1, .int x1), (2, .int x2), (3, .int x3), (4, .int x4), (6, .int x6), (8, .int x8)]) (am_dk tk_X5_robbed_1 0 rfl) (Nat.le_of_ble_eq_true rfl) rfl ?_
  refine am_iinc (j := 8) (v := x8 + 1) (L' := [(8, .int (x8 + 1)), (7, .int (x7 &&& x8)), (5, .int (x5 + 1)), (0, .ref 0), (1, .int x1), (2, .int x2), (3, .int x3), (4, .int x4), (6, .int x6)]) (am_dk tk_X5_robbed_1 1 rfl) rfl rfl (Nat.le_of_ble_eq_true rfl) rfl ?_
  refine am_goto (tgt := 64) (am_dk tk_X5_robbed_1 2 rfl) (by decide) ?_
  refine am_ls [3, 4, 5, 6, 7, 2, 8, 1, 0] rfl ?_
  exact hk64 _ _ _ _ _ _ _ _ _ h
theorem bx_X5_robbed_64 {l : Launch} {h0 : am_H} {Φ : am_Ph} {tw : Nat} {tp : Bool} (htw : lyT tw) {r : Int32} {D' : am_M} (hΦ : Φ (some (.int r)) (ly tw tp D')) : ∀ (n : Nat) (x1 : Int32) (x2 : Int32) (x3 : Int32) (x4 : Int32) (x5 : Int32) (x6 : Int32) (x7 : Int32) (x8 : Int32) (D : am_M), b_X5_robbed_64 tw n x1 x2 x3 x4 x5 x6 x7 x8 D = some (r, D') → am_Ex (am_E l m_X5_robbed false h0 Φ) prog_1_method_25_code (0, 0) 64 [(0, .ref 0), (1, .int x1), (2, .int x2), (3, .int x3), (4, .int x4), (5, .int x5), (6, .int x6), (7, .int x7), (8, .int x8)] [] (ly tw tp D) := by
  intro n
  induction n with
  | zero =>
    intro x1 x2 x3 x4 x5 x6 x7 x8 D h
    exact absurd h (by simp [b_X5_robbed_64])
  | succ n ih =>
    intro x1 x2 x3 x4 x5 x6 x7 x8 D h
    rw [b_X5_robbed_64] at h
    refine am_iload (j := 8) (am_dk tk_X5_robbed 37 rfl) rfl ?_
    refine am_iload (j := 4) (am_dk tk_X5_robbed 38 rfl) rfl ?_
    refine am_icmp_ge (tgt := 120) (am_dk tk_X5_robbed 39 rfl) (by decide) (fun hc68 => ?_) (fun hc68 => ?_)
    · rw [if_pos hc68] at h
      refine am_iload_n (j := 3) (am_dk tk_X5_robbed_1 3 rfl) rfl rfl ?_
      refine am_if_ne (tgt := 127) (am_dk tk_X5_robbed_1 4 rfl) (by decide) (fun hc121 => ?_) (fun hc121 => ?_)
      · rw [if_neg hc121] at h
        refine am_iload_n (j := 3) (am_dk tk_X5_robbed_1 7 rfl) rfl rfl ?_
        refine am_iconst (v := 1) (am_dk tk_X5_robbed_1 8 rfl) (by decide) ?_
        refine am_icmp_ne (tgt := 135) (am_dk tk_X5_robbed_1 9 rfl) (by decide) (fun hc129 => ?_) (fun hc129 => ?_)
        · rw [if_neg hc129] at h
          refine am_iload (j := 5) (am_dk tk_X5_robbed_1 12 rfl) rfl ?_
          refine am_if_ne (tgt := 144) (am_dk tk_X5_robbed_1 13 rfl) (by decide) (fun hc137 => ?_) (fun hc137 => ?_)
          · rw [if_neg hc137] at h
            refine am_iload (j := 7) (am_dk tk_X5_robbed_1 16 rfl) rfl ?_
            exact am_iret rfl (am_r2 h hΦ) ⟨Nat.le_of_ble_eq_true rfl, Nat.le_of_ble_eq_true rfl⟩ (am_dk tk_X5_robbed_1 17 rfl)
          · rw [if_pos hc137] at h
            refine am_iconst (v := 0) (am_dk tk_X5_robbed_1 14 rfl) (by decide) ?_
            refine am_goto (tgt := 146) (am_dk tk_X5_robbed_1 15 rfl) (by decide) ?_
            exact am_iret rfl (am_r2 h hΦ) ⟨Nat.le_of_ble_eq_true rfl, Nat.le_of_ble_eq_true rfl⟩ (am_dk tk_X5_robbed_1 17 rfl)
        · rw [if_pos hc129] at h
          refine am_iload (j := 6) (am_dk tk_X5_robbed_1 10 rfl) rfl ?_
          exact am_iret rfl (am_r2 h hΦ) ⟨Nat.le_of_ble_eq_true rfl, Nat.le_of_ble_eq_true rfl⟩ (am_dk tk_X5_robbed_1 11 rfl)
      · rw [if_pos hc121] at h
        refine am_iload (j := 5) (am_dk tk_X5_robbed_1 5 rfl) rfl ?_
        exact am_iret rfl (am_r2 h hΦ) ⟨Nat.le_of_ble_eq_true rfl, Nat.le_of_ble_eq_true rfl⟩ (am_dk tk_X5_robbed_1 6 rfl)
    · rw [if_neg hc68] at h
      refine am_iload (j := 8) (am_dk tk_X5_robbed 40 rfl) rfl ?_
      refine am_iload_n (j := 1) (am_dk tk_X5_robbed 41 rfl) rfl rfl ?_
      refine am_iand (am_dk tk_X5_robbed 42 rfl) ?_
      refine am_iload_n (j := 1) (am_dk tk_X5_robbed 43 rfl) rfl rfl ?_
      refine am_icmp_ne (tgt := 114) (am_dk tk_X5_robbed 44 rfl) (by decide) (fun hc76 => ?_) (fun hc76 => ?_)
      · rw [if_neg hc76] at h
        refine am_iinc (j := 8) (v := x8 + 1) (L' := [(8, .int (x8 + 1)), (0, .ref 0), (1, .int x1), (2, .int x2), (3, .int x3), (4, .int x4), (5, .int x5), (6, .int x6), (7, .int x7)]) (am_dk tk_X5_robbed_1 1 rfl) rfl rfl (Nat.le_of_ble_eq_true rfl) rfl ?_
        refine am_goto (tgt := 64) (am_dk tk_X5_robbed_1 2 rfl) (by decide) ?_
        refine am_ls [1, 2, 3, 4, 5, 6, 7, 8, 0] rfl ?_
        exact ih _ _ _ _ _ _ _ _ _ h
      · rw [if_pos hc76] at h
        refine am_aload_n (j := 0) (am_dk tk_X5_robbed 45 rfl) rfl rfl ?_
        refine ly_getr (b := tw) rfl fl_X5_10 rfl rfl (am_dk tk_X5_robbed 46 rfl) ?_
        refine am_iload (j := 8) (am_dk tk_X5_robbed 47 rfl) rfl ?_
        obtain ⟨q85, hq85, h⟩ := am_bind h
        refine ly_cV (M := m_X4_yawnsOf) (As := [.int x8]) (b := tw) (st := []) (ct_X4_yawnsOf htw hq85) (lyT_s htw) (by decide) rfl ml_X5_241 ld_X4_yawnsOf rfl ⟨Nat.le_of_ble_eq_true rfl, Nat.le_of_ble_eq_true rfl⟩ (Nat.le_of_ble_eq_true rfl) ⟨rfl, rfl⟩ ⟨Nat.le_of_ble_eq_true rfl, Nat.le_of_ble_eq_true rfl⟩ (am_dk tk_X5_robbed 48 rfl) (am_kki ?_)
        refine am_iload_n (j := 2) (am_dk tk_X5_robbed 49 rfl) rfl rfl ?_
        refine am_icmp_eq (tgt := 95) (am_dk tk_X5_robbed 50 rfl) (by decide) (fun hc89 => ?_) (fun hc89 => ?_)
        · rw [if_pos hc89] at h
          refine am_iload (j := 5) (am_dk tk_X5_robbed 52 rfl) rfl ?_
          refine am_if_ne (tgt := 104) (am_dk tk_X5_robbed 53 rfl) (by decide) (fun hc97 => ?_) (fun hc97 => ?_)
          · simp only [if_neg hc97] at h
            exact bx_X5_robbed_104 htw hΦ (ih) _ _ _ _ _ _ _ _ _ h
          · simp only [if_pos hc97] at h
            refine am_iload (j := 8) (am_dk tk_X5_robbed 54 rfl) rfl ?_
            refine am_istore (L' := [(6, .int x8), (0, .ref 0), (1, .int x1), (2, .int x2), (3, .int x3), (4, .int x4), (5, .int x5), (7, .int x7), (8, .int x8)]) (am_dk tk_X5_robbed 55 rfl) (Nat.le_of_ble_eq_true rfl) rfl ?_
            refine am_ls [1, 2, 3, 4, 5, 6, 0, 7, 8] rfl ?_
            exact bx_X5_robbed_104 htw hΦ (ih) _ _ _ _ _ _ _ _ _ h
        · rw [if_neg hc89] at h
          refine am_goto (tgt := 114) (am_dk tk_X5_robbed 51 rfl) (by decide) ?_
          refine am_iinc (j := 8) (v := x8 + 1) (L' := [(8, .int (x8 + 1)), (0, .ref 0), (1, .int x1), (2, .int x2), (3, .int x3), (4, .int x4), (5, .int x5), (6, .int x6), (7, .int x7)]) (am_dk tk_X5_robbed_1 1 rfl) rfl rfl (Nat.le_of_ble_eq_true rfl) rfl ?_
          refine am_goto (tgt := 64) (am_dk tk_X5_robbed_1 2 rfl) (by decide) ?_
          refine am_ls [1, 2, 3, 4, 5, 6, 7, 8, 0] rfl ?_
          exact ih _ _ _ _ _ _ _ _ _ h
theorem ct_X5_robbed {l : Launch} {tw : Nat} {tp : Bool} (htw : lyT tw) {x1 : Int32} {x2 : Int32} {x3 : Int32} {r : Int32} {D D' : am_M} (h : f_X5_robbed tw x1 x2 x3 D = some (r, D')) : am_CT l m_X5_robbed false [.ref 0, .int x1, .int x2, .int x3] (ly tw tp D) (am_is (some (.int r)) (ly tw tp D')) := by
  have hΦ : am_is (some (.int r)) (ly tw tp D') (some (.int r)) (ly tw tp D') := ⟨rfl, rfl⟩
  refine am_CT.of (by decide) (Nat.le_of_ble_eq_true rfl) ?_
  show am_Ex _ _ _ 0 [(0, .ref 0), (1, .int x1), (2, .int x2), (3, .int x3)] [] _
  rw [f_X5_robbed] at h
  refine am_iconst (v := 1) (am_dk tk_X5_robbed 0 rfl) (by decide) ?_
  refine am_aload_n (j := 0) (am_dk tk_X5_robbed 1 rfl) rfl rfl ?_
  refine ly_getr (b := tw) rfl fl_X5_10 rfl rfl (am_dk tk_X5_robbed 2 rfl) ?_
  refine ly_geti (lyT_s htw) fl_X5_104 rfl (am_dk tk_X5_robbed 3 rfl) ?_
  refine am_ishl (am_dk tk_X5_robbed 4 rfl) ?_
  refine am_istore (L' := [(4, .int (1 <<< ((D tw 3) &&& 31))), (0, .ref 0), (1, .int x1), (2, .int x2), (3, .int x3)]) (am_dk tk_X5_robbed 5 rfl) (Nat.le_of_ble_eq_true rfl) rfl ?_
  refine am_iload_n (j := 2) (am_dk tk_X5_robbed 6 rfl) rfl rfl ?_
  refine am_iconst (v := 0) (am_dk tk_X5_robbed 7 rfl) (by decide) ?_
  refine am_iload (j := 0) (am_dk tk_X5_robbed 8 rfl) rfl ?_
  refine am_iconst (v := 1) (am_dk tk_X5_robbed 9 rfl) (by decide) ?_
  refine am_isub (am_dk tk_X5_robbed 10 rfl) ?_
  refine am_cS (M := m_X5_isWithin) (As := [.int x1, .int 0, .int ((1 <<< ((D tw 3) &&& 31)) - 1)]) (st := []) (ct_X5_isWithin _ _ _ _) ml_X5_67 ld_X5_isWithin rfl ⟨Nat.le_of_ble_eq_true rfl, Nat.le_of_ble_eq_true rfl⟩ (Nat.le_of_ble_eq_true rfl) ⟨rfl, rfl⟩ ⟨Nat.le_of_ble_eq_true rfl, Nat.le_of_ble_eq_true rfl⟩ (am_dk tk_X5_robbed 11 rfl) (am_kki ?_)
  refine am_if_ne (tgt := 26) (am_dk tk_X5_robbed 12 rfl) (by decide) (fun hc20 => ?_) (fun hc20 => ?_)
  · rw [if_neg hc20] at h
    refine am_iload_n (j := 3) (am_dk tk_X5_robbed 15 rfl) rfl rfl ?_
    refine am_iconst (v := 0) (am_dk tk_X5_robbed 16 rfl) (by decide) ?_
    refine am_sipush (v := 999) (am_dk tk_X5_robbed 17 rfl) (by decide) ?_
    refine am_cS (M := m_X5_isWithin) (As := [.int x2, .int 0, .int 999]) (st := []) (ct_X5_isWithin _ _ _ _) ml_X5_67 ld_X5_isWithin rfl ⟨Nat.le_of_ble_eq_true rfl, Nat.le_of_ble_eq_true rfl⟩ (Nat.le_of_ble_eq_true rfl) ⟨rfl, rfl⟩ ⟨Nat.le_of_ble_eq_true rfl, Nat.le_of_ble_eq_true rfl⟩ (am_dk tk_X5_robbed 18 rfl) (am_kki ?_)
    refine am_if_eq (tgt := 46) (am_dk tk_X5_robbed 19 rfl) (by decide) (fun hc34 => ?_) (fun hc34 => ?_)
    · rw [if_pos hc34] at h
      refine am_ldc kc_X5_71 (am_dk tk_X5_robbed 25 rfl) ?_
      exact am_iret rfl (am_r2 h hΦ) ⟨Nat.le_of_ble_eq_true rfl, Nat.le_of_ble_eq_true rfl⟩ (am_dk tk_X5_robbed 26 rfl)
    · rw [if_neg hc34] at h
      refine am_iload_n (j := 4) (am_dk tk_X5_robbed 20 rfl) rfl rfl ?_
      refine am_iconst (v := 0) (am_dk tk_X5_robbed 21 rfl) (by decide) ?_
      refine am_iconst (v := 2) (am_dk tk_X5_robbed 22 rfl) (by decide) ?_
      refine am_cS (M := m_X5_isWithin) (As := [.int x3, .int 0, .int 2]) (st := []) (ct_X5_isWithin _ _ _ _) ml_X5_67 ld_X5_isWithin rfl ⟨Nat.le_of_ble_eq_true rfl, Nat.le_of_ble_eq_true rfl⟩ (Nat.le_of_ble_eq_true rfl) ⟨rfl, rfl⟩ ⟨Nat.le_of_ble_eq_true rfl, Nat.le_of_ble_eq_true rfl⟩ (am_dk tk_X5_robbed 23 rfl) (am_kki ?_)
      refine am_if_ne (tgt := 49) (am_dk tk_X5_robbed 24 rfl) (by decide) (fun hc43 => ?_) (fun hc43 => ?_)
      · rw [if_neg hc43] at h
        refine am_iconst (v := 0) (am_dk tk_X5_robbed 27 rfl) (by decide) ?_
        refine am_istore (L' := [(5, .int 0), (4, .int (1 <<< ((D tw 3) &&& 31))), (0, .ref 0), (1, .int x1), (2, .int x2), (3, .int x3)]) (am_dk tk_X5_robbed 28 rfl) (Nat.le_of_ble_eq_true rfl) rfl ?_
        refine am_iconst (v := (-1)) (am_dk tk_X5_robbed 29 rfl) (by decide) ?_
        refine am_istore (L' := [(6, .int (-1)), (5, .int 0), (4, .int (1 <<< ((D tw 3) &&& 31))), (0, .ref 0), (1, .int x1), (2, .int x2), (3, .int x3)]) (am_dk tk_X5_robbed 30 rfl) (Nat.le_of_ble_eq_true rfl) rfl ?_
        refine am_iload (j := 2) (am_dk tk_X5_robbed 31 rfl) rfl ?_
        refine am_iconst (v := 1) (am_dk tk_X5_robbed 32 rfl) (by decide) ?_
        refine am_isub (am_dk tk_X5_robbed 33 rfl) ?_
        refine am_istore (L' := [(7, .int ((1 <<< ((D tw 3) &&& 31)) - 1)), (6, .int (-1)), (5, .int 0), (4, .int (1 <<< ((D tw 3) &&& 31))), (0, .ref 0), (1, .int x1), (2, .int x2), (3, .int x3)]) (am_dk tk_X5_robbed 34 rfl) (Nat.le_of_ble_eq_true rfl) rfl ?_
        refine am_iconst (v := 0) (am_dk tk_X5_robbed 35 rfl) (by decide) ?_
        refine am_istore (L' := [(8, .int 0), (7, .int ((1 <<< ((D tw 3) &&& 31)) - 1)), (6, .int (-1)), (5, .int 0), (4, .int (1 <<< ((D tw 3) &&& 31))), (0, .ref 0), (1, .int x1), (2, .int x2), (3, .int x3)]) (am_dk tk_X5_robbed 36 rfl) (Nat.le_of_ble_eq_true rfl) rfl ?_
        refine am_ls [5, 6, 7, 8, 4, 3, 2, 1, 0] rfl ?_
        exact bx_X5_robbed_64 htw hΦ am_N _ _ _ _ _ _ _ _ _ h
      · rw [if_pos hc43] at h
        refine am_ldc kc_X5_71 (am_dk tk_X5_robbed 25 rfl) ?_
        exact am_iret rfl (am_r2 h hΦ) ⟨Nat.le_of_ble_eq_true rfl, Nat.le_of_ble_eq_true rfl⟩ (am_dk tk_X5_robbed 26 rfl)
  · rw [if_pos hc20] at h
    refine am_ldc kc_X5_141 (am_dk tk_X5_robbed 13 rfl) ?_
    exact am_iret rfl (am_r2 h hΦ) ⟨Nat.le_of_ble_eq_true rfl, Nat.le_of_ble_eq_true rfl⟩ (am_dk tk_X5_robbed 14 rfl)
abbrev m_X5_nextToRun : am_D := (yX5_nextToRun, prog_1_method_27_code, 4, (some .int), { frames := 1, cells := 0, slots := 0, locals := 21 })
theorem ld_X5_nextToRun : am_LD m_X5_nextToRun 2 := ⟨(am_tb 79 (by decide +kernel) (by decide +kernel)), (am_tb 794 (by decide +kernel) (by decide +kernel)), by decide, by decide, by decide +kernel⟩
def tb_X5_nextToRun : List (Nat × Instr × Nat) := [(0, .iconst 0, 1), (1, .istore_n 3, 1), (2, .iload_n 3, 1), (3, .aload_n 0, 1), (4, .getfield 10, 3), (7, .getfield 104, 3), (10, .if_icmp .ge 35, 3), (13, .iload_n 1, 1), (14, .iload_n 3, 1), (15, .invokestatic 172, 3), (18, .ifCond .ne 21, 3), (21, .iload_n 2, 1), (22, .aload_n 0, 1), (23, .getfield 26, 3), (26, .getfield 142, 3), (29, .iload_n 3, 1), (30, .iaload, 1), (31, .bipush 10, 2), (33, .idiv, 1), (34, .if_icmp .lt 5, 3), (37, .iload_n 3, 1), (38, .ireturn, 1), (39, .iinc 3 1, 3), (42, .goto (-40), 3), (45, .iconst (-1), 1), (46, .ireturn, 1)]
theorem tk_X5_nextToRun : am_tbl prog_1_method_27_code tb_X5_nextToRun = true := by decide +kernel
def b_X5_nextToRun_2 (tw : Nat) : Nat → Int32 → Int32 → Int32 → am_M → Option (Int32 × am_M)
  | 0, _, _, _, _ => none
  | n + 1, x1, x2, x3, D => if (D tw 3) ≤ x3 then some ((-1), D) else if (f_X5_isIn x1 x3) = 0 then if am_in x3 5 = true then if x2 < ((D 26 x3.toNatClampNeg) / 10) then b_X5_nextToRun_2 tw n x1 x2 (x3 + 1) D else some (x3, D) else none else b_X5_nextToRun_2 tw n x1 x2 (x3 + 1) D
def f_X5_nextToRun (tw : Nat) (x1 : Int32) (x2 : Int32) (D : am_M) : Option (Int32 × am_M) := b_X5_nextToRun_2 tw am_N x1 x2 0 D
theorem bx_X5_nextToRun_2 {l : Launch} {h0 : am_H} {Φ : am_Ph} {tw : Nat} {tp : Bool} (htw : lyT tw) {r : Int32} {D' : am_M} (hΦ : Φ (some (.int r)) (ly tw tp D')) : ∀ (n : Nat) (x1 : Int32) (x2 : Int32) (x3 : Int32) (D : am_M), b_X5_nextToRun_2 tw n x1 x2 x3 D = some (r, D') → am_Ex (am_E l m_X5_nextToRun false h0 Φ) prog_1_method_27_code (0, 0) 2 [(0, .ref 0), (1, .int x1), (2, .int x2), (3, .int x3)] [] (ly tw tp D) := by
  intro n
  induction n with
  | zero =>
    intro x1 x2 x3 D h
    exact absurd h (by simp [b_X5_nextToRun_2])
  | succ n ih =>
    intro x1 x2 x3 D h
    rw [b_X5_nextToRun_2] at h
    refine am_iload_n (j := 3) (am_dk tk_X5_nextToRun 2 rfl) rfl rfl ?_
    refine am_aload_n (j := 0) (am_dk tk_X5_nextToRun 3 rfl) rfl rfl ?_
    refine ly_getr (b := tw) rfl fl_X5_10 rfl rfl (am_dk tk_X5_nextToRun 4 rfl) ?_
    refine ly_geti (lyT_s htw) fl_X5_104 rfl (am_dk tk_X5_nextToRun 5 rfl) ?_
    refine am_icmp_ge (tgt := 45) (am_dk tk_X5_nextToRun 6 rfl) (by decide) (fun hc10 => ?_) (fun hc10 => ?_)
    · rw [if_pos hc10] at h
      refine am_iconst (v := (-1)) (am_dk tk_X5_nextToRun 24 rfl) (by decide) ?_
      exact am_iret rfl (am_r2 h hΦ) ⟨Nat.le_of_ble_eq_true rfl, Nat.le_of_ble_eq_true rfl⟩ (am_dk tk_X5_nextToRun 25 rfl)
    · rw [if_neg hc10] at h
      refine am_iload_n (j := 1) (am_dk tk_X5_nextToRun 7 rfl) rfl rfl ?_
      refine am_iload_n (j := 3) (am_dk tk_X5_nextToRun 8 rfl) rfl rfl ?_
      refine am_cS (M := m_X5_isIn) (As := [.int x1, .int x3]) (st := []) (ct_X5_isIn _ _ _) ml_X5_172 ld_X5_isIn rfl ⟨Nat.le_of_ble_eq_true rfl, Nat.le_of_ble_eq_true rfl⟩ (Nat.le_of_ble_eq_true rfl) ⟨rfl, rfl⟩ ⟨Nat.le_of_ble_eq_true rfl, Nat.le_of_ble_eq_true rfl⟩ (am_dk tk_X5_nextToRun 9 rfl) (am_kki ?_)
      refine am_if_ne (tgt := 39) (am_dk tk_X5_nextToRun 10 rfl) (by decide) (fun hc18 => ?_) (fun hc18 => ?_)
      · rw [if_neg hc18] at h
        refine am_iinc (j := 3) (v := x3 + 1) (L' := [(3, .int (x3 + 1)), (0, .ref 0), (1, .int x1), (2, .int x2)]) (am_dk tk_X5_nextToRun 22 rfl) rfl rfl (Nat.le_of_ble_eq_true rfl) rfl ?_
        refine am_goto (tgt := 2) (am_dk tk_X5_nextToRun 23 rfl) (by decide) ?_
        refine am_ls [1, 2, 3, 0] rfl ?_
        exact ih _ _ _ _ h
      · rw [if_pos hc18] at h
        refine am_iload_n (j := 2) (am_dk tk_X5_nextToRun 11 rfl) rfl rfl ?_
        refine am_aload_n (j := 0) (am_dk tk_X5_nextToRun 12 rfl) rfl rfl ?_
        refine ly_getr (b := 25) rfl fl_X5_26 rfl rfl (am_dk tk_X5_nextToRun 13 rfl) ?_
        refine ly_getr (b := 26) rfl fl_X5_142 rfl rfl (am_dk tk_X5_nextToRun 14 rfl) ?_
        refine am_iload_n (j := 3) (am_dk tk_X5_nextToRun 15 rfl) rfl rfl ?_
        obtain ⟨hi30, h⟩ := am_chk h
        refine ly_iald (k := x3.toNatClampNeg) rfl (am_in_vp hi30) rfl (am_dk tk_X5_nextToRun 16 rfl) ?_
        refine am_bipush (v := 10) (am_dk tk_X5_nextToRun 17 rfl) (by decide) ?_
        refine am_idiv (am_dk tk_X5_nextToRun 18 rfl) (by decide) ?_
        refine am_icmp_lt (tgt := 39) (am_dk tk_X5_nextToRun 19 rfl) (by decide) (fun hc34 => ?_) (fun hc34 => ?_)
        · rw [if_pos hc34] at h
          refine am_iinc (j := 3) (v := x3 + 1) (L' := [(3, .int (x3 + 1)), (0, .ref 0), (1, .int x1), (2, .int x2)]) (am_dk tk_X5_nextToRun 22 rfl) rfl rfl (Nat.le_of_ble_eq_true rfl) rfl ?_
          refine am_goto (tgt := 2) (am_dk tk_X5_nextToRun 23 rfl) (by decide) ?_
          refine am_ls [1, 2, 3, 0] rfl ?_
          exact ih _ _ _ _ h
        · rw [if_neg hc34] at h
          refine am_iload_n (j := 3) (am_dk tk_X5_nextToRun 20 rfl) rfl rfl ?_
          exact am_iret rfl (am_r2 h hΦ) ⟨Nat.le_of_ble_eq_true rfl, Nat.le_of_ble_eq_true rfl⟩ (am_dk tk_X5_nextToRun 21 rfl)
theorem ct_X5_nextToRun {l : Launch} {tw : Nat} {tp : Bool} (htw : lyT tw) {x1 : Int32} {x2 : Int32} {r : Int32} {D D' : am_M} (h : f_X5_nextToRun tw x1 x2 D = some (r, D')) : am_CT l m_X5_nextToRun false [.ref 0, .int x1, .int x2] (ly tw tp D) (am_is (some (.int r)) (ly tw tp D')) := by
  have hΦ : am_is (some (.int r)) (ly tw tp D') (some (.int r)) (ly tw tp D') := ⟨rfl, rfl⟩
  refine am_CT.of (by decide) (Nat.le_of_ble_eq_true rfl) ?_
  show am_Ex _ _ _ 0 [(0, .ref 0), (1, .int x1), (2, .int x2)] [] _
  rw [f_X5_nextToRun] at h
  refine am_iconst (v := 0) (am_dk tk_X5_nextToRun 0 rfl) (by decide) ?_
  refine am_istore_n (L' := [(3, .int 0), (0, .ref 0), (1, .int x1), (2, .int x2)]) (am_dk tk_X5_nextToRun 1 rfl) rfl (Nat.le_of_ble_eq_true rfl) rfl ?_
  refine am_ls [1, 2, 3, 0] rfl ?_
  exact bx_X5_nextToRun_2 htw hΦ am_N _ _ _ _ h
abbrev m_X5_run : am_D := (yX5_run, prog_1_method_26_code, 8, (some .int), { frames := 2, cells := 0, slots := 0, locals := 44 })
theorem ld_X5_run : am_LD m_X5_run 2 := ⟨(am_tb 79 (by decide +kernel) (by decide +kernel)), (am_tb 790 (by decide +kernel) (by decide +kernel)), by decide, by decide, by decide +kernel⟩
def tb_X5_run : List (Nat × Instr × Nat) := [(0, .iload_n 1, 1), (1, .iconst 0, 1), (2, .sipush 999, 3), (5, .invokestatic 67, 3), (8, .ifCond .eq 12, 3), (11, .iload_n 2, 1), (12, .iconst 0, 1), (13, .iconst 1, 1), (14, .invokestatic 67, 3), (17, .ifCond .ne 6, 3), (20, .ldc 71, 2), (22, .ireturn, 1), (23, .iload_n 1, 1), (24, .istore_n 3, 1), (25, .iconst 0, 1), (26, .istore 4, 2), (28, .iconst 0, 1), (29, .istore 5, 2), (31, .iconst 0, 1), (32, .istore 6, 2), (34, .iload 6, 2), (36, .aload_n 0, 1), (37, .getfield 10, 3), (40, .getfield 104, 3), (43, .if_icmp .ge 77, 3), (46, .aload_n 0, 1), (47, .iload 4, 2), (49, .iload 6, 2), (51, .invokevirtual 244, 3), (54, .istore 7, 2), (56, .iload 7, 2), (58, .iconst (-1), 1), (59, .if_icmp .ne 6, 3), (62, .goto 58, 3), (65, .iload 4, 2), (67, .iconst 1, 1), (68, .iload 7, 2), (70, .ishl, 1), (71, .ior, 1), (72, .istore 4, 2), (74, .aload_n 0, 1), (75, .getfield 26, 3), (78, .getfield 145, 3), (81, .iload 7, 2), (83, .iaload, 1), (84, .iload_n 3, 1), (85, .if_icmp .le 12, 3), (88, .iload 5, 2), (90, .iconst 1, 1), (91, .iload 7, 2), (93, .ishl, 1), (94, .ior, 1), (95, .istore 5, 2), (97, .iload_n 3, 1), (98, .aload_n 0, 1), (99, .getfield 26, 3), (102, .getfield 145, 3), (105, .iload 7, 2), (107, .iaload, 1), (108, .iload_n 3, 1)]
theorem tk_X5_run : am_tbl prog_1_method_26_code tb_X5_run = true := by decide +kernel
def tb_X5_run_1 : List (Nat × Instr × Nat) := [(109, .invokestatic 193, 3), (112, .isub, 1), (113, .istore_n 3, 1), (114, .iinc 6 1, 3), (117, .goto (-83), 3), (120, .iload_n 2, 1), (121, .ifCond .ne 8, 3), (124, .iload 4, 2), (126, .goto 5, 3), (129, .iload 5, 2), (131, .ireturn, 1)]
theorem tk_X5_run_1 : am_tbl prog_1_method_26_code tb_X5_run_1 = true := by decide +kernel
def b_X5_run_120 (tw : Nat) (x2 : Int32) (x4 : Int32) (x5 : Int32) (D : am_M) : Option (Int32 × am_M) := if x2 = 0 then some (x4, D) else some (x5, D)
def b_X5_run_97 (tw : Nat) (k34 : Int32 → Int32 → Int32 → Int32 → Int32 → am_M → Option (Int32 × am_M)) (x2 : Int32) (x3 : Int32) (x4 : Int32) (x5 : Int32) (x6 : Int32) (x7 : Int32) (D : am_M) : Option (Int32 × am_M) := if am_in x7 5 = true then k34 x2 (x3 - (am_min (D 28 x7.toNatClampNeg) x3)) x4 x5 (x6 + 1) D else none
def b_X5_run_34 (tw : Nat) : Nat → Int32 → Int32 → Int32 → Int32 → Int32 → am_M → Option (Int32 × am_M)
  | 0, _, _, _, _, _, _ => none
  | n + 1, x2, x3, x4, x5, x6, D => if (D tw 3) ≤ x6 then b_X5_run_120 tw x2 x4 x5 D else (f_X5_nextToRun tw x4 x6 D).bind fun q51 => if q51.1 = (-1) then b_X5_run_120 tw x2 x4 x5 q51.2 else if am_in q51.1 5 = true then b_X5_run_97 tw (b_X5_run_34 tw n) x2 x3 (x4 ||| (1 <<< (q51.1 &&& 31))) (if (q51.2 28 q51.1.toNatClampNeg) ≤ x3 then x5 else x5 ||| (1 <<< (q51.1 &&& 31))) x6 q51.1 q51.2 else none
def f_X5_run (tw : Nat) (x1 : Int32) (x2 : Int32) (D : am_M) : Option (Int32 × am_M) := if (f_X5_isWithin x1 0 999) = 0 then some ((-1000000002), D) else if (f_X5_isWithin x2 0 1) = 0 then some ((-1000000002), D) else b_X5_run_34 tw am_N x2 x1 0 0 0 D
theorem bx_X5_run_120 {l : Launch} {h0 : am_H} {Φ : am_Ph} {tw : Nat} {tp : Bool} (htw : lyT tw) {r : Int32} {D' : am_M} (hΦ : Φ (some (.int r)) (ly tw tp D')) : ∀ (x2 : Int32) (x4 : Int32) (x5 : Int32) (D : am_M), b_X5_run_120 tw x2 x4 x5 D = some (r, D') → am_Ex (am_E l m_X5_run false h0 Φ) prog_1_method_26_code (0, 0) 120 [(2, .int x2), (4, .int x4), (5, .int x5)] [] (ly tw tp D) := by
  intro x2 x4 x5 D h
  rw [b_X5_run_120] at h
  refine am_iload_n (j := 0) (am_dk tk_X5_run_1 5 rfl) rfl rfl ?_
  refine am_if_ne (tgt := 129) (am_dk tk_X5_run_1 6 rfl) (by decide) (fun hc121 => ?_) (fun hc121 => ?_)
  · rw [if_neg hc121] at h
    refine am_iload (j := 2) (am_dk tk_X5_run_1 9 rfl) rfl ?_
    exact am_iret rfl (am_r2 h hΦ) ⟨Nat.le_of_ble_eq_true rfl, Nat.le_of_ble_eq_true rfl⟩ (am_dk tk_X5_run_1 10 rfl)
  · rw [if_pos hc121] at h
    refine am_iload (j := 1) (am_dk tk_X5_run_1 7 rfl) rfl ?_
    refine am_goto (tgt := 131) (am_dk tk_X5_run_1 8 rfl) (by decide) ?_
    exact am_iret rfl (am_r2 h hΦ) ⟨Nat.le_of_ble_eq_true rfl, Nat.le_of_ble_eq_true rfl⟩ (am_dk tk_X5_run_1 10 rfl)
theorem bx_X5_run_97 {l : Launch} {h0 : am_H} {Φ : am_Ph} {tw : Nat} {tp : Bool} (htw : lyT tw) {r : Int32} {D' : am_M} (hΦ : Φ (some (.int r)) (ly tw tp D')) {k34 : Int32 → Int32 → Int32 → Int32 → Int32 → am_M → Option (Int32 × am_M)} (hk34 : ∀ (x2 : Int32) (x3 : Int32) (x4 : Int32) (x5 : Int32) (x6 : Int32) (D : am_M), k34 x2 x3 x4 x5 x6 D = some (r, D') → am_Ex (am_E l m_X5_run false h0 Φ) prog_1_method_26_code (0, 0) 34 [(0, .ref 0), (2, .int x2), (3, .int x3), (4, .int x4), (5, .int x5), (6, .int x6)] [] (ly tw tp D)) : ∀ (x2 : Int32) (x3 : Int32) (x4 : Int32) (x5 : Int32) (x6 : Int32) (x7 : Int32) (D : am_M), b_X5_run_97 tw k34 x2 x3 x4 x5 x6 x7 D = some (r, D') → am_Ex (am_E l m_X5_run false h0 Φ) prog_1_method_26_code (0, 0) 97 [(0, .ref 0), (2, .int x2), (3, .int x3), (4, .int x4), (5, .int x5), (6, .int x6), (7, .int x7)] [] (ly tw tp D) := by
  intro x2 x3 x4 x5 x6 x7 D h
  rw [b_X5_run_97] at h
  refine am_iload_n (j := 2) (am_dk tk_X5_run 53 rfl) rfl rfl ?_
  refine am_aload_n (j := 0) (am_dk tk_X5_run 54 rfl) rfl rfl ?_
  refine ly_getr (b := 25) rfl fl_X5_26 rfl rfl (am_dk tk_X5_run 55 rfl) ?_
  refine ly_getr (b := 28) rfl fl_X5_145 rfl rfl (am_dk tk_X5_run 56 rfl) ?_
  refine am_iload (j := 6) (am_dk tk_X5_run 57 rfl) rfl ?_
  obtain ⟨hi107, h⟩ := am_chk h
  refine ly_iald (k := x7.toNatClampNeg) rfl (am_in_vp hi107) rfl (am_dk tk_X5_run 58 rfl) ?_
  refine am_iload_n (j := 2) (am_dk tk_X5_run 59 rfl) rfl rfl ?_
  refine am_mmin lm_X5_193 (Nat.le_of_ble_eq_true rfl) (Nat.le_of_ble_eq_true rfl) ⟨Nat.le_of_ble_eq_true rfl, Nat.le_of_ble_eq_true rfl⟩ (am_dk tk_X5_run_1 0 rfl) ?_
  refine am_isub (am_dk tk_X5_run_1 1 rfl) ?_
  refine am_istore_n (L' := [(3, .int (x3 - (am_min (D 28 x7.toNatClampNeg) x3))), (0, .ref 0), (2, .int x2), (4, .int x4), (5, .int x5), (6, .int x6), (7, .int x7)]) (am_dk tk_X5_run_1 2 rfl) rfl (Nat.le_of_ble_eq_true rfl) rfl ?_
  refine am_iinc (j := 5) (v := x6 + 1) (L' := [(6, .int (x6 + 1)), (3, .int (x3 - (am_min (D 28 x7.toNatClampNeg) x3))), (0, .ref 0), (2, .int x2), (4, .int x4), (5, .int x5), (7, .int x7)]) (am_dk tk_X5_run_1 3 rfl) rfl rfl (Nat.le_of_ble_eq_true rfl) rfl ?_
  refine am_goto (tgt := 34) (am_dk tk_X5_run_1 4 rfl) (by decide) ?_
  refine am_ls [2, 3, 1, 4, 5, 0] rfl ?_
  exact hk34 _ _ _ _ _ _ h
theorem bx_X5_run_34 {l : Launch} {h0 : am_H} {Φ : am_Ph} {tw : Nat} {tp : Bool} (htw : lyT tw) {r : Int32} {D' : am_M} (hΦ : Φ (some (.int r)) (ly tw tp D')) : ∀ (n : Nat) (x2 : Int32) (x3 : Int32) (x4 : Int32) (x5 : Int32) (x6 : Int32) (D : am_M), b_X5_run_34 tw n x2 x3 x4 x5 x6 D = some (r, D') → am_Ex (am_E l m_X5_run false h0 Φ) prog_1_method_26_code (0, 0) 34 [(0, .ref 0), (2, .int x2), (3, .int x3), (4, .int x4), (5, .int x5), (6, .int x6)] [] (ly tw tp D) := by
  intro n
  induction n with
  | zero =>
    intro x2 x3 x4 x5 x6 D h
    exact absurd h (by simp [b_X5_run_34])
  | succ n ih =>
    intro x2 x3 x4 x5 x6 D h
    rw [b_X5_run_34] at h
    refine am_iload (j := 5) (am_dk tk_X5_run 20 rfl) rfl ?_
    refine am_aload_n (j := 0) (am_dk tk_X5_run 21 rfl) rfl rfl ?_
    refine ly_getr (b := tw) rfl fl_X5_10 rfl rfl (am_dk tk_X5_run 22 rfl) ?_
    refine ly_geti (lyT_s htw) fl_X5_104 rfl (am_dk tk_X5_run 23 rfl) ?_
    refine am_icmp_ge (tgt := 120) (am_dk tk_X5_run 24 rfl) (by decide) (fun hc43 => ?_) (fun hc43 => ?_)
    · rw [if_pos hc43] at h
      refine am_ls [1, 3, 4] rfl ?_
      exact bx_X5_run_120 htw hΦ _ _ _ _ h
    · rw [if_neg hc43] at h
      refine am_aload_n (j := 0) (am_dk tk_X5_run 25 rfl) rfl rfl ?_
      refine am_iload (j := 3) (am_dk tk_X5_run 26 rfl) rfl ?_
      refine am_iload (j := 5) (am_dk tk_X5_run 27 rfl) rfl ?_
      obtain ⟨q51, hq51, h⟩ := am_bind h
      refine ly_cV (M := m_X5_nextToRun) (As := [.int x4, .int x6]) (b := 0) (st := []) (ct_X5_nextToRun htw hq51) rfl (by decide) rfl ml_X5_244 ld_X5_nextToRun rfl ⟨Nat.le_of_ble_eq_true rfl, Nat.le_of_ble_eq_true rfl⟩ (Nat.le_of_ble_eq_true rfl) ⟨rfl, rfl⟩ ⟨Nat.le_of_ble_eq_true rfl, Nat.le_of_ble_eq_true rfl⟩ (am_dk tk_X5_run 28 rfl) (am_kki ?_)
      refine am_istore (L' := [(7, .int q51.1), (0, .ref 0), (2, .int x2), (3, .int x3), (4, .int x4), (5, .int x5), (6, .int x6)]) (am_dk tk_X5_run 29 rfl) (Nat.le_of_ble_eq_true rfl) rfl ?_
      refine am_iload (j := 0) (am_dk tk_X5_run 30 rfl) rfl ?_
      refine am_iconst (v := (-1)) (am_dk tk_X5_run 31 rfl) (by decide) ?_
      refine am_icmp_ne (tgt := 65) (am_dk tk_X5_run 32 rfl) (by decide) (fun hc59 => ?_) (fun hc59 => ?_)
      · rw [if_neg hc59] at h
        refine am_iload (j := 4) (am_dk tk_X5_run 34 rfl) rfl ?_
        refine am_iconst (v := 1) (am_dk tk_X5_run 35 rfl) (by decide) ?_
        refine am_iload (j := 0) (am_dk tk_X5_run 36 rfl) rfl ?_
        refine am_ishl (am_dk tk_X5_run 37 rfl) ?_
        refine am_ior (am_dk tk_X5_run 38 rfl) ?_
        refine am_istore (L' := [(4, .int (x4 ||| (1 <<< (q51.1 &&& 31)))), (7, .int q51.1), (0, .ref 0), (2, .int x2), (3, .int x3), (5, .int x5), (6, .int x6)]) (am_dk tk_X5_run 39 rfl) (Nat.le_of_ble_eq_true rfl) rfl ?_
        refine am_aload_n (j := 2) (am_dk tk_X5_run 40 rfl) rfl rfl ?_
        refine ly_getr (b := 25) rfl fl_X5_26 rfl rfl (am_dk tk_X5_run 41 rfl) ?_
        refine ly_getr (b := 28) rfl fl_X5_145 rfl rfl (am_dk tk_X5_run 42 rfl) ?_
        refine am_iload (j := 1) (am_dk tk_X5_run 43 rfl) rfl ?_
        obtain ⟨hi83, h⟩ := am_chk h
        refine ly_iald (k := q51.1.toNatClampNeg) rfl (am_in_vp hi83) rfl (am_dk tk_X5_run 44 rfl) ?_
        refine am_iload_n (j := 4) (am_dk tk_X5_run 45 rfl) rfl rfl ?_
        refine am_icmp_le (tgt := 97) (am_dk tk_X5_run 46 rfl) (by decide) (fun hc85 => ?_) (fun hc85 => ?_)
        · simp only [if_pos hc85] at h
          refine am_ls [2, 3, 4, 0, 5, 6, 1] rfl ?_
          exact bx_X5_run_97 htw hΦ (ih) _ _ _ _ _ _ _ h
        · simp only [if_neg hc85] at h
          refine am_iload (j := 5) (am_dk tk_X5_run 47 rfl) rfl ?_
          refine am_iconst (v := 1) (am_dk tk_X5_run 48 rfl) (by decide) ?_
          refine am_iload (j := 1) (am_dk tk_X5_run 49 rfl) rfl ?_
          refine am_ishl (am_dk tk_X5_run 50 rfl) ?_
          refine am_ior (am_dk tk_X5_run 51 rfl) ?_
          refine am_istore (L' := [(5, .int (x5 ||| (1 <<< (q51.1 &&& 31)))), (4, .int (x4 ||| (1 <<< (q51.1 &&& 31)))), (7, .int q51.1), (0, .ref 0), (2, .int x2), (3, .int x3), (6, .int x6)]) (am_dk tk_X5_run 52 rfl) (Nat.le_of_ble_eq_true rfl) rfl ?_
          refine am_ls [3, 4, 5, 1, 0, 6, 2] rfl ?_
          exact bx_X5_run_97 htw hΦ (ih) _ _ _ _ _ _ _ h
      · rw [if_pos hc59] at h
        refine am_goto (tgt := 120) (am_dk tk_X5_run 33 rfl) (by decide) ?_
        refine am_ls [2, 4, 5] rfl ?_
        exact bx_X5_run_120 htw hΦ _ _ _ _ h
theorem ct_X5_run {l : Launch} {tw : Nat} {tp : Bool} (htw : lyT tw) {x1 : Int32} {x2 : Int32} {r : Int32} {D D' : am_M} (h : f_X5_run tw x1 x2 D = some (r, D')) : am_CT l m_X5_run false [.ref 0, .int x1, .int x2] (ly tw tp D) (am_is (some (.int r)) (ly tw tp D')) := by
  have hΦ : am_is (some (.int r)) (ly tw tp D') (some (.int r)) (ly tw tp D') := ⟨rfl, rfl⟩
  refine am_CT.of (by decide) (Nat.le_of_ble_eq_true rfl) ?_
  show am_Ex _ _ _ 0 [(0, .ref 0), (1, .int x1), (2, .int x2)] [] _
  rw [f_X5_run] at h
  refine am_iload_n (j := 1) (am_dk tk_X5_run 0 rfl) rfl rfl ?_
  refine am_iconst (v := 0) (am_dk tk_X5_run 1 rfl) (by decide) ?_
  refine am_sipush (v := 999) (am_dk tk_X5_run 2 rfl) (by decide) ?_
  refine am_cS (M := m_X5_isWithin) (As := [.int x1, .int 0, .int 999]) (st := []) (ct_X5_isWithin _ _ _ _) ml_X5_67 ld_X5_isWithin rfl ⟨Nat.le_of_ble_eq_true rfl, Nat.le_of_ble_eq_true rfl⟩ (Nat.le_of_ble_eq_true rfl) ⟨rfl, rfl⟩ ⟨Nat.le_of_ble_eq_true rfl, Nat.le_of_ble_eq_true rfl⟩ (am_dk tk_X5_run 3 rfl) (am_kki ?_)
  refine am_if_eq (tgt := 20) (am_dk tk_X5_run 4 rfl) (by decide) (fun hc8 => ?_) (fun hc8 => ?_)
  · rw [if_pos hc8] at h
    refine am_ldc kc_X5_71 (am_dk tk_X5_run 10 rfl) ?_
    exact am_iret rfl (am_r2 h hΦ) ⟨Nat.le_of_ble_eq_true rfl, Nat.le_of_ble_eq_true rfl⟩ (am_dk tk_X5_run 11 rfl)
  · rw [if_neg hc8] at h
    refine am_iload_n (j := 2) (am_dk tk_X5_run 5 rfl) rfl rfl ?_
    refine am_iconst (v := 0) (am_dk tk_X5_run 6 rfl) (by decide) ?_
    refine am_iconst (v := 1) (am_dk tk_X5_run 7 rfl) (by decide) ?_
    refine am_cS (M := m_X5_isWithin) (As := [.int x2, .int 0, .int 1]) (st := []) (ct_X5_isWithin _ _ _ _) ml_X5_67 ld_X5_isWithin rfl ⟨Nat.le_of_ble_eq_true rfl, Nat.le_of_ble_eq_true rfl⟩ (Nat.le_of_ble_eq_true rfl) ⟨rfl, rfl⟩ ⟨Nat.le_of_ble_eq_true rfl, Nat.le_of_ble_eq_true rfl⟩ (am_dk tk_X5_run 8 rfl) (am_kki ?_)
    refine am_if_ne (tgt := 23) (am_dk tk_X5_run 9 rfl) (by decide) (fun hc17 => ?_) (fun hc17 => ?_)
    · rw [if_neg hc17] at h
      refine am_iload_n (j := 1) (am_dk tk_X5_run 12 rfl) rfl rfl ?_
      refine am_istore_n (L' := [(3, .int x1), (0, .ref 0), (1, .int x1), (2, .int x2)]) (am_dk tk_X5_run 13 rfl) rfl (Nat.le_of_ble_eq_true rfl) rfl ?_
      refine am_iconst (v := 0) (am_dk tk_X5_run 14 rfl) (by decide) ?_
      refine am_istore (L' := [(4, .int 0), (3, .int x1), (0, .ref 0), (1, .int x1), (2, .int x2)]) (am_dk tk_X5_run 15 rfl) (Nat.le_of_ble_eq_true rfl) rfl ?_
      refine am_iconst (v := 0) (am_dk tk_X5_run 16 rfl) (by decide) ?_
      refine am_istore (L' := [(5, .int 0), (4, .int 0), (3, .int x1), (0, .ref 0), (1, .int x1), (2, .int x2)]) (am_dk tk_X5_run 17 rfl) (Nat.le_of_ble_eq_true rfl) rfl ?_
      refine am_iconst (v := 0) (am_dk tk_X5_run 18 rfl) (by decide) ?_
      refine am_istore (L' := [(6, .int 0), (5, .int 0), (4, .int 0), (3, .int x1), (0, .ref 0), (1, .int x1), (2, .int x2)]) (am_dk tk_X5_run 19 rfl) (Nat.le_of_ble_eq_true rfl) rfl ?_
      refine am_ls [4, 6, 3, 2, 1, 0] rfl ?_
      exact bx_X5_run_34 htw hΦ am_N _ _ _ _ _ _ h
    · rw [if_pos hc17] at h
      refine am_ldc kc_X5_71 (am_dk tk_X5_run 10 rfl) ?_
      exact am_iret rfl (am_r2 h hΦ) ⟨Nat.le_of_ble_eq_true rfl, Nat.le_of_ble_eq_true rfl⟩ (am_dk tk_X5_run 11 rfl)
abbrev m_X5_write : am_D := (yX5_write, prog_1_method_28_code, 3, (some .int), { frames := 2, cells := 0, slots := 0, locals := 43 })
theorem ld_X5_write : am_LD m_X5_write 2 := ⟨(am_tb 79 (by decide +kernel) (by decide +kernel)), (am_tb 798 (by decide +kernel) (by decide +kernel)), by decide, by decide, by decide +kernel⟩
def tb_X5_write : List (Nat × Instr × Nat) := [(0, .aload_n 0, 1), (1, .iload_n 1, 1), (2, .invokevirtual 137, 3), (5, .ifCond .ne 6, 3), (8, .ldc 141, 2), (10, .ireturn, 1), (11, .iload_n 2, 1), (12, .iconst 0, 1), (13, .sipush 9999, 3), (16, .invokestatic 67, 3), (19, .ifCond .ne 6, 3), (22, .ldc 71, 2), (24, .ireturn, 1), (25, .aload_n 0, 1), (26, .getfield 64, 3), (29, .bipush 15, 2), (31, .if_icmp .lt 6, 3), (34, .ldc 75, 2), (36, .ireturn, 1), (37, .aload_n 0, 1), (38, .getfield 57, 3), (41, .aload_n 0, 1), (42, .getfield 64, 3), (45, .iload_n 1, 1), (46, .iastore, 1), (47, .aload_n 0, 1), (48, .getfield 61, 3), (51, .aload_n 0, 1), (52, .getfield 64, 3), (55, .iload_n 2, 1), (56, .iastore, 1), (57, .aload_n 0, 1), (58, .dup, 1), (59, .getfield 64, 3), (62, .iconst 1, 1), (63, .iadd, 1), (64, .putfield 64, 3), (67, .aload_n 0, 1), (68, .getfield 64, 3), (71, .ireturn, 1)]
theorem tk_X5_write : am_tbl prog_1_method_28_code tb_X5_write = true := by decide +kernel
def f_X5_write (tw : Nat) (x1 : Int32) (x2 : Int32) (D : am_M) : Option (Int32 × am_M) := if (f_X5_isPerson tw x1 D) = 0 then some ((-1000000001), D) else if (f_X5_isWithin x2 0 9999) = 0 then some ((-1000000002), D) else if (D 0 11) < 15 then if am_in (D 0 11) 15 = true then if am_in ((am_up D 54 (D 0 11).toNatClampNeg x1) 0 11) 15 = true then some ((am_up (am_up (am_up D 54 (D 0 11).toNatClampNeg x1) 55 ((am_up D 54 (D 0 11).toNatClampNeg x1) 0 11).toNatClampNeg x2) 0 11 (((am_up (am_up D 54 (D 0 11).toNatClampNeg x1) 55 ((am_up D 54 (D 0 11).toNatClampNeg x1) 0 11).toNatClampNeg x2) 0 11) + 1)) 0 11, am_up (am_up (am_up D 54 (D 0 11).toNatClampNeg x1) 55 ((am_up D 54 (D 0 11).toNatClampNeg x1) 0 11).toNatClampNeg x2) 0 11 (((am_up (am_up D 54 (D 0 11).toNatClampNeg x1) 55 ((am_up D 54 (D 0 11).toNatClampNeg x1) 0 11).toNatClampNeg x2) 0 11) + 1)) else none else none else some ((-1000000004), D)
theorem ct_X5_write {l : Launch} {tw : Nat} {tp : Bool} (htw : lyT tw) {x1 : Int32} {x2 : Int32} {r : Int32} {D D' : am_M} (h : f_X5_write tw x1 x2 D = some (r, D')) : am_CT l m_X5_write false [.ref 0, .int x1, .int x2] (ly tw tp D) (am_is (some (.int r)) (ly tw tp D')) := by
  have hΦ : am_is (some (.int r)) (ly tw tp D') (some (.int r)) (ly tw tp D') := ⟨rfl, rfl⟩
  refine am_CT.of (by decide) (Nat.le_of_ble_eq_true rfl) ?_
  show am_Ex _ _ _ 0 [(0, .ref 0), (1, .int x1), (2, .int x2)] [] _
  rw [f_X5_write] at h
  refine am_aload_n (j := 0) (am_dk tk_X5_write 0 rfl) rfl rfl ?_
  refine am_iload_n (j := 1) (am_dk tk_X5_write 1 rfl) rfl rfl ?_
  refine ly_cV (M := m_X5_isPerson) (As := [.int x1]) (b := 0) (st := []) (ct_X5_isPerson htw _ _) rfl (by decide) rfl ml_X5_137 ld_X5_isPerson rfl ⟨Nat.le_of_ble_eq_true rfl, Nat.le_of_ble_eq_true rfl⟩ (Nat.le_of_ble_eq_true rfl) ⟨rfl, rfl⟩ ⟨Nat.le_of_ble_eq_true rfl, Nat.le_of_ble_eq_true rfl⟩ (am_dk tk_X5_write 2 rfl) (am_kki ?_)
  refine am_if_ne (tgt := 11) (am_dk tk_X5_write 3 rfl) (by decide) (fun hc5 => ?_) (fun hc5 => ?_)
  · rw [if_neg hc5] at h
    refine am_iload_n (j := 2) (am_dk tk_X5_write 6 rfl) rfl rfl ?_
    refine am_iconst (v := 0) (am_dk tk_X5_write 7 rfl) (by decide) ?_
    refine am_sipush (v := 9999) (am_dk tk_X5_write 8 rfl) (by decide) ?_
    refine am_cS (M := m_X5_isWithin) (As := [.int x2, .int 0, .int 9999]) (st := []) (ct_X5_isWithin _ _ _ _) ml_X5_67 ld_X5_isWithin rfl ⟨Nat.le_of_ble_eq_true rfl, Nat.le_of_ble_eq_true rfl⟩ (Nat.le_of_ble_eq_true rfl) ⟨rfl, rfl⟩ ⟨Nat.le_of_ble_eq_true rfl, Nat.le_of_ble_eq_true rfl⟩ (am_dk tk_X5_write 9 rfl) (am_kki ?_)
    refine am_if_ne (tgt := 25) (am_dk tk_X5_write 10 rfl) (by decide) (fun hc19 => ?_) (fun hc19 => ?_)
    · rw [if_neg hc19] at h
      refine am_aload_n (j := 0) (am_dk tk_X5_write 13 rfl) rfl rfl ?_
      refine ly_geti rfl fl_X5_64 rfl (am_dk tk_X5_write 14 rfl) ?_
      refine am_bipush (v := 15) (am_dk tk_X5_write 15 rfl) (by decide) ?_
      refine am_icmp_lt (tgt := 37) (am_dk tk_X5_write 16 rfl) (by decide) (fun hc31 => ?_) (fun hc31 => ?_)
      · rw [if_pos hc31] at h
        refine am_aload_n (j := 0) (am_dk tk_X5_write 19 rfl) rfl rfl ?_
        refine ly_getr (b := 54) rfl fl_X5_57 rfl rfl (am_dk tk_X5_write 20 rfl) ?_
        refine am_aload_n (j := 0) (am_dk tk_X5_write 21 rfl) rfl rfl ?_
        refine ly_geti rfl fl_X5_64 rfl (am_dk tk_X5_write 22 rfl) ?_
        refine am_iload_n (j := 1) (am_dk tk_X5_write 23 rfl) rfl rfl ?_
        obtain ⟨hi46, h⟩ := am_chk h
        refine ly_iast (k := (D 0 11).toNatClampNeg) rfl (am_in_vp hi46) rfl (am_dk tk_X5_write 24 rfl) ?_
        refine am_aload_n (j := 0) (am_dk tk_X5_write 25 rfl) rfl rfl ?_
        refine ly_getr (b := 55) rfl fl_X5_61 rfl rfl (am_dk tk_X5_write 26 rfl) ?_
        refine am_aload_n (j := 0) (am_dk tk_X5_write 27 rfl) rfl rfl ?_
        refine ly_geti rfl fl_X5_64 rfl (am_dk tk_X5_write 28 rfl) ?_
        refine am_iload_n (j := 2) (am_dk tk_X5_write 29 rfl) rfl rfl ?_
        obtain ⟨hi56, h⟩ := am_chk h
        refine ly_iast (k := ((am_up D 54 (D 0 11).toNatClampNeg x1) 0 11).toNatClampNeg) rfl (am_in_vp hi56) rfl (am_dk tk_X5_write 30 rfl) ?_
        refine am_aload_n (j := 0) (am_dk tk_X5_write 31 rfl) rfl rfl ?_
        refine am_dup (am_dk tk_X5_write 32 rfl) rfl ?_
        refine ly_geti rfl fl_X5_64 rfl (am_dk tk_X5_write 33 rfl) ?_
        refine am_iconst (v := 1) (am_dk tk_X5_write 34 rfl) (by decide) ?_
        refine am_iadd (am_dk tk_X5_write 35 rfl) ?_
        refine ly_puti rfl fl_X5_64 rfl rfl (am_dk tk_X5_write 36 rfl) ?_
        refine am_aload_n (j := 0) (am_dk tk_X5_write 37 rfl) rfl rfl ?_
        refine ly_geti rfl fl_X5_64 rfl (am_dk tk_X5_write 38 rfl) ?_
        exact am_iret rfl (am_r2 h hΦ) ⟨Nat.le_of_ble_eq_true rfl, Nat.le_of_ble_eq_true rfl⟩ (am_dk tk_X5_write 39 rfl)
      · rw [if_neg hc31] at h
        refine am_ldc kc_X5_75 (am_dk tk_X5_write 17 rfl) ?_
        exact am_iret rfl (am_r2 h hΦ) ⟨Nat.le_of_ble_eq_true rfl, Nat.le_of_ble_eq_true rfl⟩ (am_dk tk_X5_write 18 rfl)
    · rw [if_pos hc19] at h
      refine am_ldc kc_X5_71 (am_dk tk_X5_write 11 rfl) ?_
      exact am_iret rfl (am_r2 h hΦ) ⟨Nat.le_of_ble_eq_true rfl, Nat.le_of_ble_eq_true rfl⟩ (am_dk tk_X5_write 12 rfl)
  · rw [if_pos hc5] at h
    refine am_ldc kc_X5_141 (am_dk tk_X5_write 4 rfl) ?_
    exact am_iret rfl (am_r2 h hΦ) ⟨Nat.le_of_ble_eq_true rfl, Nat.le_of_ble_eq_true rfl⟩ (am_dk tk_X5_write 5 rfl)
abbrev m_X5_tear : am_D := (yX5_tear, prog_1_method_29_code, 2, (some .int), { frames := 0, cells := 0, slots := 0, locals := 0 })
theorem ld_X5_tear : am_LD m_X5_tear 0 := ⟨(am_tb 79 (by decide +kernel) (by decide +kernel)), (am_tb 802 (by decide +kernel) (by decide +kernel)), by decide, by decide, by decide +kernel⟩
def tb_X5_tear : List (Nat × Instr × Nat) := [(0, .aload_n 0, 1), (1, .getfield 64, 3), (4, .istore_n 1, 1), (5, .aload_n 0, 1), (6, .iconst 0, 1), (7, .putfield 64, 3), (10, .iload_n 1, 1), (11, .ireturn, 1)]
theorem tk_X5_tear : am_tbl prog_1_method_29_code tb_X5_tear = true := by decide +kernel
def f_X5_tear (tw : Nat) (D : am_M) : Option (Int32 × am_M) := some (D 0 11, am_up D 0 11 0)
theorem ct_X5_tear {l : Launch} {tw : Nat} {tp : Bool} (htw : lyT tw) {r : Int32} {D D' : am_M} (h : f_X5_tear tw D = some (r, D')) : am_CT l m_X5_tear false [.ref 0] (ly tw tp D) (am_is (some (.int r)) (ly tw tp D')) := by
  have hΦ : am_is (some (.int r)) (ly tw tp D') (some (.int r)) (ly tw tp D') := ⟨rfl, rfl⟩
  refine am_CT.of (by decide) (Nat.le_of_ble_eq_true rfl) ?_
  show am_Ex _ _ _ 0 [(0, .ref 0)] [] _
  rw [f_X5_tear] at h
  refine am_aload_n (j := 0) (am_dk tk_X5_tear 0 rfl) rfl rfl ?_
  refine ly_geti rfl fl_X5_64 rfl (am_dk tk_X5_tear 1 rfl) ?_
  refine am_istore_n (L' := [(1, .int (D 0 11)), (0, .ref 0)]) (am_dk tk_X5_tear 2 rfl) rfl (Nat.le_of_ble_eq_true rfl) rfl ?_
  refine am_aload_n (j := 1) (am_dk tk_X5_tear 3 rfl) rfl rfl ?_
  refine am_iconst (v := 0) (am_dk tk_X5_tear 4 rfl) (by decide) ?_
  refine ly_puti rfl fl_X5_64 rfl rfl (am_dk tk_X5_tear 5 rfl) ?_
  refine am_iload_n (j := 0) (am_dk tk_X5_tear 6 rfl) rfl rfl ?_
  exact am_iret rfl (am_r2 h hΦ) ⟨Nat.le_of_ble_eq_true rfl, Nat.le_of_ble_eq_true rfl⟩ (am_dk tk_X5_tear 7 rfl)
abbrev m_X5_judge : am_D := (yX5_judge, prog_1_method_30_code, 2, (some .int), { frames := 0, cells := 0, slots := 0, locals := 0 })
theorem ld_X5_judge : am_LD m_X5_judge 0 := ⟨(am_tb 79 (by decide +kernel) (by decide +kernel)), (am_tb 806 (by decide +kernel) (by decide +kernel)), by decide, by decide, by decide +kernel⟩
def tb_X5_judge : List (Nat × Instr × Nat) := [(0, .iconst 0, 1), (1, .istore_n 1, 1), (2, .iload_n 1, 1), (3, .aload_n 0, 1), (4, .getfield 64, 3), (7, .if_icmp .ge 34, 3), (10, .aload_n 0, 1), (11, .getfield 26, 3), (14, .getfield 145, 3), (17, .aload_n 0, 1), (18, .getfield 57, 3), (21, .iload_n 1, 1), (22, .iaload, 1), (23, .iaload, 1), (24, .aload_n 0, 1), (25, .getfield 61, 3), (28, .iload_n 1, 1), (29, .iaload, 1), (30, .if_icmp .eq 5, 3), (33, .iload_n 1, 1), (34, .ireturn, 1), (35, .iinc 1 1, 3), (38, .goto (-36), 3), (41, .iconst (-1), 1), (42, .ireturn, 1)]
theorem tk_X5_judge : am_tbl prog_1_method_30_code tb_X5_judge = true := by decide +kernel
def b_X5_judge_2 (tw : Nat) : Nat → Int32 → am_M → Option (Int32 × am_M)
  | 0, _, _ => none
  | n + 1, x1, D => if (D 0 11) ≤ x1 then some ((-1), D) else if am_in x1 15 = true then if am_in (D 54 x1.toNatClampNeg) 5 = true then if (D 28 (D 54 x1.toNatClampNeg).toNatClampNeg) = (D 55 x1.toNatClampNeg) then b_X5_judge_2 tw n (x1 + 1) D else some (x1, D) else none else none
def f_X5_judge (tw : Nat) (D : am_M) : Option (Int32 × am_M) := b_X5_judge_2 tw am_N 0 D
theorem bx_X5_judge_2 {l : Launch} {h0 : am_H} {Φ : am_Ph} {tw : Nat} {tp : Bool} (htw : lyT tw) {r : Int32} {D' : am_M} (hΦ : Φ (some (.int r)) (ly tw tp D')) : ∀ (n : Nat) (x1 : Int32) (D : am_M), b_X5_judge_2 tw n x1 D = some (r, D') → am_Ex (am_E l m_X5_judge false h0 Φ) prog_1_method_30_code (0, 0) 2 [(0, .ref 0), (1, .int x1)] [] (ly tw tp D) := by
  intro n
  induction n with
  | zero =>
    intro x1 D h
    exact absurd h (by simp [b_X5_judge_2])
  | succ n ih =>
    intro x1 D h
    rw [b_X5_judge_2] at h
    refine am_iload_n (j := 1) (am_dk tk_X5_judge 2 rfl) rfl rfl ?_
    refine am_aload_n (j := 0) (am_dk tk_X5_judge 3 rfl) rfl rfl ?_
    refine ly_geti rfl fl_X5_64 rfl (am_dk tk_X5_judge 4 rfl) ?_
    refine am_icmp_ge (tgt := 41) (am_dk tk_X5_judge 5 rfl) (by decide) (fun hc7 => ?_) (fun hc7 => ?_)
    · rw [if_pos hc7] at h
      refine am_iconst (v := (-1)) (am_dk tk_X5_judge 23 rfl) (by decide) ?_
      exact am_iret rfl (am_r2 h hΦ) ⟨Nat.le_of_ble_eq_true rfl, Nat.le_of_ble_eq_true rfl⟩ (am_dk tk_X5_judge 24 rfl)
    · rw [if_neg hc7] at h
      refine am_aload_n (j := 0) (am_dk tk_X5_judge 6 rfl) rfl rfl ?_
      refine ly_getr (b := 25) rfl fl_X5_26 rfl rfl (am_dk tk_X5_judge 7 rfl) ?_
      refine ly_getr (b := 28) rfl fl_X5_145 rfl rfl (am_dk tk_X5_judge 8 rfl) ?_
      refine am_aload_n (j := 0) (am_dk tk_X5_judge 9 rfl) rfl rfl ?_
      refine ly_getr (b := 54) rfl fl_X5_57 rfl rfl (am_dk tk_X5_judge 10 rfl) ?_
      refine am_iload_n (j := 1) (am_dk tk_X5_judge 11 rfl) rfl rfl ?_
      obtain ⟨hi22, h⟩ := am_chk h
      refine ly_iald (k := x1.toNatClampNeg) rfl (am_in_vp hi22) rfl (am_dk tk_X5_judge 12 rfl) ?_
      obtain ⟨hi23, h⟩ := am_chk h
      refine ly_iald (k := (D 54 x1.toNatClampNeg).toNatClampNeg) rfl (am_in_vp hi23) rfl (am_dk tk_X5_judge 13 rfl) ?_
      refine am_aload_n (j := 0) (am_dk tk_X5_judge 14 rfl) rfl rfl ?_
      refine ly_getr (b := 55) rfl fl_X5_61 rfl rfl (am_dk tk_X5_judge 15 rfl) ?_
      refine am_iload_n (j := 1) (am_dk tk_X5_judge 16 rfl) rfl rfl ?_
      refine ly_iald (k := x1.toNatClampNeg) rfl (am_in_vp hi22) rfl (am_dk tk_X5_judge 17 rfl) ?_
      refine am_icmp_eq (tgt := 35) (am_dk tk_X5_judge 18 rfl) (by decide) (fun hc30 => ?_) (fun hc30 => ?_)
      · rw [if_pos hc30] at h
        refine am_iinc (j := 1) (v := x1 + 1) (L' := [(1, .int (x1 + 1)), (0, .ref 0)]) (am_dk tk_X5_judge 21 rfl) rfl rfl (Nat.le_of_ble_eq_true rfl) rfl ?_
        refine am_goto (tgt := 2) (am_dk tk_X5_judge 22 rfl) (by decide) ?_
        refine am_ls [1, 0] rfl ?_
        exact ih _ _ h
      · rw [if_neg hc30] at h
        refine am_iload_n (j := 1) (am_dk tk_X5_judge 19 rfl) rfl rfl ?_
        exact am_iret rfl (am_r2 h hΦ) ⟨Nat.le_of_ble_eq_true rfl, Nat.le_of_ble_eq_true rfl⟩ (am_dk tk_X5_judge 20 rfl)
theorem ct_X5_judge {l : Launch} {tw : Nat} {tp : Bool} (htw : lyT tw) {r : Int32} {D D' : am_M} (h : f_X5_judge tw D = some (r, D')) : am_CT l m_X5_judge false [.ref 0] (ly tw tp D) (am_is (some (.int r)) (ly tw tp D')) := by
  have hΦ : am_is (some (.int r)) (ly tw tp D') (some (.int r)) (ly tw tp D') := ⟨rfl, rfl⟩
  refine am_CT.of (by decide) (Nat.le_of_ble_eq_true rfl) ?_
  show am_Ex _ _ _ 0 [(0, .ref 0)] [] _
  rw [f_X5_judge] at h
  refine am_iconst (v := 0) (am_dk tk_X5_judge 0 rfl) (by decide) ?_
  refine am_istore_n (L' := [(1, .int 0), (0, .ref 0)]) (am_dk tk_X5_judge 1 rfl) rfl (Nat.le_of_ble_eq_true rfl) rfl ?_
  refine am_ls [1, 0] rfl ?_
  exact bx_X5_judge_2 htw hΦ am_N _ _ h
abbrev m_X5_seed : am_D := (yX5_seed, prog_1_method_31_code, 3, (some .int), { frames := 0, cells := 0, slots := 0, locals := 0 })
theorem ld_X5_seed : am_LD m_X5_seed 1 := ⟨(am_tb 79 (by decide +kernel) (by decide +kernel)), (am_tb 810 (by decide +kernel) (by decide +kernel)), by decide, by decide, by decide +kernel⟩
def tb_X5_seed : List (Nat × Instr × Nat) := [(0, .iload_n 1, 1), (1, .ifCond .ge 6, 3), (4, .ldc 71, 2), (6, .ireturn, 1), (7, .aload_n 0, 1), (8, .getfield 26, 3), (11, .getfield 90, 3), (14, .istore_n 2, 1), (15, .aload_n 0, 1), (16, .getfield 26, 3), (19, .iload_n 1, 1), (20, .putfield 90, 3), (23, .iload_n 2, 1), (24, .ireturn, 1)]
theorem tk_X5_seed : am_tbl prog_1_method_31_code tb_X5_seed = true := by decide +kernel
def f_X5_seed (tw : Nat) (x1 : Int32) (D : am_M) : Option (Int32 × am_M) := if 0 ≤ x1 then some (D 25 7, am_up D 25 7 x1) else some ((-1000000002), D)
theorem ct_X5_seed {l : Launch} {tw : Nat} {tp : Bool} (htw : lyT tw) {x1 : Int32} {r : Int32} {D D' : am_M} (h : f_X5_seed tw x1 D = some (r, D')) : am_CT l m_X5_seed false [.ref 0, .int x1] (ly tw tp D) (am_is (some (.int r)) (ly tw tp D')) := by
  have hΦ : am_is (some (.int r)) (ly tw tp D') (some (.int r)) (ly tw tp D') := ⟨rfl, rfl⟩
  refine am_CT.of (by decide) (Nat.le_of_ble_eq_true rfl) ?_
  show am_Ex _ _ _ 0 [(0, .ref 0), (1, .int x1)] [] _
  rw [f_X5_seed] at h
  refine am_iload_n (j := 1) (am_dk tk_X5_seed 0 rfl) rfl rfl ?_
  refine am_if_ge (tgt := 7) (am_dk tk_X5_seed 1 rfl) (by decide) (fun hc1 => ?_) (fun hc1 => ?_)
  · rw [if_pos hc1] at h
    refine am_aload_n (j := 0) (am_dk tk_X5_seed 4 rfl) rfl rfl ?_
    refine ly_getr (b := 25) rfl fl_X5_26 rfl rfl (am_dk tk_X5_seed 5 rfl) ?_
    refine ly_geti rfl fl_X5_90 rfl (am_dk tk_X5_seed 6 rfl) ?_
    refine am_istore_n (L' := [(2, .int (D 25 7)), (0, .ref 0), (1, .int x1)]) (am_dk tk_X5_seed 7 rfl) rfl (Nat.le_of_ble_eq_true rfl) rfl ?_
    refine am_aload_n (j := 1) (am_dk tk_X5_seed 8 rfl) rfl rfl ?_
    refine ly_getr (b := 25) rfl fl_X5_26 rfl rfl (am_dk tk_X5_seed 9 rfl) ?_
    refine am_iload_n (j := 2) (am_dk tk_X5_seed 10 rfl) rfl rfl ?_
    refine ly_puti rfl fl_X5_90 rfl rfl (am_dk tk_X5_seed 11 rfl) ?_
    refine am_iload_n (j := 0) (am_dk tk_X5_seed 12 rfl) rfl rfl ?_
    exact am_iret rfl (am_r2 h hΦ) ⟨Nat.le_of_ble_eq_true rfl, Nat.le_of_ble_eq_true rfl⟩ (am_dk tk_X5_seed 13 rfl)
  · rw [if_neg hc1] at h
    refine am_ldc kc_X5_71 (am_dk tk_X5_seed 2 rfl) ?_
    exact am_iret rfl (am_r2 h hΦ) ⟨Nat.le_of_ble_eq_true rfl, Nat.le_of_ble_eq_true rfl⟩ (am_dk tk_X5_seed 3 rfl)
abbrev m_X5_imageOf : am_D := (yX5_imageOf, prog_1_method_34_code, 2, (some (.object "SleepMint$Moment")), { frames := 0, cells := 0, slots := 0, locals := 0 })
theorem ld_X5_imageOf : am_LD m_X5_imageOf 1 := ⟨(am_tb 79 (by decide +kernel) (by decide +kernel)), (am_tb 818 (by decide +kernel) (by decide +kernel)), by decide, by decide, by decide +kernel⟩
def tb_X5_imageOf : List (Nat × Instr × Nat) := [(0, .iload_n 1, 1), (1, .ifCond .ne 10, 3), (4, .aload_n 0, 1), (5, .getfield 33, 3), (8, .goto 7, 3), (11, .aload_n 0, 1), (12, .getfield 36, 3), (15, .areturn, 1)]
theorem tk_X5_imageOf : am_tbl prog_1_method_34_code tb_X5_imageOf = true := by decide +kernel
def f_X5_imageOf (tw : Nat) (x1 : Int32) : Nat := if x1 = 0 then 35 else 40
theorem ct_X5_imageOf {l : Launch} {tw : Nat} {tp : Bool} (htw : lyT tw) (x1 : Int32) (D : am_M) : am_CT l m_X5_imageOf false [.ref 0, .int x1] (ly tw tp D) (am_is (some (.ref (f_X5_imageOf tw x1))) (ly tw tp D)) := by
  refine am_CT.of (by decide) (Nat.le_of_ble_eq_true rfl) ?_
  show am_Ex _ _ _ 0 [(0, .ref 0), (1, .int x1)] [] _
  refine am_iload_n (j := 1) (am_dk tk_X5_imageOf 0 rfl) rfl rfl ?_
  refine am_if_ne (tgt := 11) (am_dk tk_X5_imageOf 1 rfl) (by decide) (fun hc1 => ?_) (fun hc1 => ?_)
  · skip
    refine am_aload_n (j := 0) (am_dk tk_X5_imageOf 5 rfl) rfl rfl ?_
    refine ly_getr (b := 40) rfl fl_X5_36 rfl rfl (am_dk tk_X5_imageOf 6 rfl) ?_
    exact am_aret rfl (Or.inl ⟨_, rfl⟩) ⟨by simp only [f_X5_imageOf, if_neg hc1], rfl⟩ ⟨Nat.le_of_ble_eq_true rfl, Nat.le_of_ble_eq_true rfl⟩ (am_dk tk_X5_imageOf 7 rfl)
  · skip
    refine am_aload_n (j := 0) (am_dk tk_X5_imageOf 2 rfl) rfl rfl ?_
    refine ly_getr (b := 35) rfl fl_X5_33 rfl rfl (am_dk tk_X5_imageOf 3 rfl) ?_
    refine am_goto (tgt := 15) (am_dk tk_X5_imageOf 4 rfl) (by decide) ?_
    exact am_aret rfl (Or.inl ⟨_, rfl⟩) ⟨by simp only [f_X5_imageOf, if_pos hc1], rfl⟩ ⟨Nat.le_of_ble_eq_true rfl, Nat.le_of_ble_eq_true rfl⟩ (am_dk tk_X5_imageOf 7 rfl)
theorem lyM_im (tw : Nat) (x1 : Int32) : lyM (f_X5_imageOf tw x1) := by
  unfold f_X5_imageOf
  exact lyM_ite
abbrev m_X5_keep : am_D := (yX5_keep, prog_1_method_32_code, 2, (some .int), { frames := 2, cells := 0, slots := 0, locals := 51 })
theorem ld_X5_keep : am_LD m_X5_keep 1 := ⟨(am_tb 79 (by decide +kernel) (by decide +kernel)), (am_tb 814 (by decide +kernel) (by decide +kernel)), by decide, by decide, by decide +kernel⟩
def tb_X5_keep : List (Nat × Instr × Nat) := [(0, .iload_n 1, 1), (1, .iconst 0, 1), (2, .iconst 1, 1), (3, .invokestatic 67, 3), (6, .ifCond .ne 6, 3), (9, .ldc 141, 2), (11, .ireturn, 1), (12, .aload_n 0, 1), (13, .iload_n 1, 1), (14, .invokevirtual 247, 3), (17, .aload_n 0, 1), (18, .getfield 26, 3), (21, .invokevirtual 96, 3), (24, .aload_n 0, 1), (25, .dup, 1), (26, .getfield 39, 3), (29, .iconst 1, 1), (30, .iload_n 1, 1), (31, .ishl, 1), (32, .ior, 1), (33, .putfield 39, 3), (36, .iconst 1, 1), (37, .ireturn, 1)]
theorem tk_X5_keep : am_tbl prog_1_method_32_code tb_X5_keep = true := by decide +kernel
def f_X5_keep (tw : Nat) (x1 : Int32) (D : am_M) : Option (Int32 × am_M) := if (f_X5_isWithin x1 0 1) = 0 then some ((-1000000001), D) else (f_X2_copyFrom (f_X5_imageOf tw x1) 25 D).bind fun q21 => some (1, am_up q21 0 6 ((q21 0 6) ||| (1 <<< (x1 &&& 31))))
theorem ct_X5_keep {l : Launch} {tw : Nat} {tp : Bool} (htw : lyT tw) {x1 : Int32} {r : Int32} {D D' : am_M} (h : f_X5_keep tw x1 D = some (r, D')) : am_CT l m_X5_keep false [.ref 0, .int x1] (ly tw tp D) (am_is (some (.int r)) (ly tw tp D')) := by
  have hΦ : am_is (some (.int r)) (ly tw tp D') (some (.int r)) (ly tw tp D') := ⟨rfl, rfl⟩
  refine am_CT.of (by decide) (Nat.le_of_ble_eq_true rfl) ?_
  show am_Ex _ _ _ 0 [(0, .ref 0), (1, .int x1)] [] _
  rw [f_X5_keep] at h
  refine am_iload_n (j := 1) (am_dk tk_X5_keep 0 rfl) rfl rfl ?_
  refine am_iconst (v := 0) (am_dk tk_X5_keep 1 rfl) (by decide) ?_
  refine am_iconst (v := 1) (am_dk tk_X5_keep 2 rfl) (by decide) ?_
  refine am_cS (M := m_X5_isWithin) (As := [.int x1, .int 0, .int 1]) (st := []) (ct_X5_isWithin _ _ _ _) ml_X5_67 ld_X5_isWithin rfl ⟨Nat.le_of_ble_eq_true rfl, Nat.le_of_ble_eq_true rfl⟩ (Nat.le_of_ble_eq_true rfl) ⟨rfl, rfl⟩ ⟨Nat.le_of_ble_eq_true rfl, Nat.le_of_ble_eq_true rfl⟩ (am_dk tk_X5_keep 3 rfl) (am_kki ?_)
  refine am_if_ne (tgt := 12) (am_dk tk_X5_keep 4 rfl) (by decide) (fun hc6 => ?_) (fun hc6 => ?_)
  · rw [if_neg hc6] at h
    refine am_aload_n (j := 0) (am_dk tk_X5_keep 7 rfl) rfl rfl ?_
    refine am_iload_n (j := 1) (am_dk tk_X5_keep 8 rfl) rfl rfl ?_
    refine ly_cV (M := m_X5_imageOf) (As := [.int x1]) (b := 0) (st := []) (ct_X5_imageOf htw _ _) rfl (by decide) rfl ml_X5_247 ld_X5_imageOf rfl ⟨Nat.le_of_ble_eq_true rfl, Nat.le_of_ble_eq_true rfl⟩ (Nat.le_of_ble_eq_true rfl) ⟨rfl, rfl⟩ ⟨Nat.le_of_ble_eq_true rfl, Nat.le_of_ble_eq_true rfl⟩ (am_dk tk_X5_keep 9 rfl) (am_kkr ?_)
    refine am_aload_n (j := 0) (am_dk tk_X5_keep 10 rfl) rfl rfl ?_
    refine ly_getr (b := 25) rfl fl_X5_26 rfl rfl (am_dk tk_X5_keep 11 rfl) ?_
    obtain ⟨q21, hq21, h⟩ := am_bind h
    refine ly_cV (M := m_X2_copyFrom) (As := [.ref 25]) (b := (f_X5_imageOf tw x1)) (st := []) (ct_X2_copyFrom (lyM_im _ _) lyM_25 hq21) (lyM_s (lyM_im _ _)) (by decide) rfl ml_X5_96 ld_X2_copyFrom rfl ⟨Nat.le_of_ble_eq_true rfl, Nat.le_of_ble_eq_true rfl⟩ (Nat.le_of_ble_eq_true rfl) ⟨rfl, rfl⟩ ⟨Nat.le_of_ble_eq_true rfl, Nat.le_of_ble_eq_true rfl⟩ (am_dk tk_X5_keep 12 rfl) (am_kkv ?_)
    refine am_aload_n (j := 0) (am_dk tk_X5_keep 13 rfl) rfl rfl ?_
    refine am_dup (am_dk tk_X5_keep 14 rfl) rfl ?_
    refine ly_geti rfl fl_X5_39 rfl (am_dk tk_X5_keep 15 rfl) ?_
    refine am_iconst (v := 1) (am_dk tk_X5_keep 16 rfl) (by decide) ?_
    refine am_iload_n (j := 1) (am_dk tk_X5_keep 17 rfl) rfl rfl ?_
    refine am_ishl (am_dk tk_X5_keep 18 rfl) ?_
    refine am_ior (am_dk tk_X5_keep 19 rfl) ?_
    refine ly_puti rfl fl_X5_39 rfl rfl (am_dk tk_X5_keep 20 rfl) ?_
    refine am_iconst (v := 1) (am_dk tk_X5_keep 21 rfl) (by decide) ?_
    exact am_iret rfl (am_r2 h hΦ) ⟨Nat.le_of_ble_eq_true rfl, Nat.le_of_ble_eq_true rfl⟩ (am_dk tk_X5_keep 22 rfl)
  · rw [if_pos hc6] at h
    refine am_ldc kc_X5_141 (am_dk tk_X5_keep 5 rfl) ?_
    exact am_iret rfl (am_r2 h hΦ) ⟨Nat.le_of_ble_eq_true rfl, Nat.le_of_ble_eq_true rfl⟩ (am_dk tk_X5_keep 6 rfl)
abbrev m_X5_goBack : am_D := (yX5_goBack, prog_1_method_33_code, 2, (some .int), { frames := 2, cells := 0, slots := 0, locals := 51 })
theorem ld_X5_goBack : am_LD m_X5_goBack 1 := ⟨(am_tb 79 (by decide +kernel) (by decide +kernel)), (am_tb 822 (by decide +kernel) (by decide +kernel)), by decide, by decide, by decide +kernel⟩
def tb_X5_goBack : List (Nat × Instr × Nat) := [(0, .iload_n 1, 1), (1, .iconst 0, 1), (2, .iconst 1, 1), (3, .invokestatic 67, 3), (6, .ifCond .ne 6, 3), (9, .ldc 141, 2), (11, .ireturn, 1), (12, .aload_n 0, 1), (13, .getfield 39, 3), (16, .iload_n 1, 1), (17, .invokestatic 172, 3), (20, .ifCond .ne 6, 3), (23, .ldc 191, 2), (25, .ireturn, 1), (26, .aload_n 0, 1), (27, .getfield 26, 3), (30, .aload_n 0, 1), (31, .iload_n 1, 1), (32, .invokevirtual 247, 3), (35, .invokevirtual 96, 3), (38, .iconst 1, 1), (39, .ireturn, 1)]
theorem tk_X5_goBack : am_tbl prog_1_method_33_code tb_X5_goBack = true := by decide +kernel
def f_X5_goBack (tw : Nat) (x1 : Int32) (D : am_M) : Option (Int32 × am_M) := if (f_X5_isWithin x1 0 1) = 0 then some ((-1000000001), D) else if (f_X5_isIn (D 0 6) x1) = 0 then some ((-1000000003), D) else (f_X2_copyFrom 25 (f_X5_imageOf tw x1) D).bind fun q35 => some (1, q35)
theorem ct_X5_goBack {l : Launch} {tw : Nat} {tp : Bool} (htw : lyT tw) {x1 : Int32} {r : Int32} {D D' : am_M} (h : f_X5_goBack tw x1 D = some (r, D')) : am_CT l m_X5_goBack false [.ref 0, .int x1] (ly tw tp D) (am_is (some (.int r)) (ly tw tp D')) := by
  have hΦ : am_is (some (.int r)) (ly tw tp D') (some (.int r)) (ly tw tp D') := ⟨rfl, rfl⟩
  refine am_CT.of (by decide) (Nat.le_of_ble_eq_true rfl) ?_
  show am_Ex _ _ _ 0 [(0, .ref 0), (1, .int x1)] [] _
  rw [f_X5_goBack] at h
  refine am_iload_n (j := 1) (am_dk tk_X5_goBack 0 rfl) rfl rfl ?_
  refine am_iconst (v := 0) (am_dk tk_X5_goBack 1 rfl) (by decide) ?_
  refine am_iconst (v := 1) (am_dk tk_X5_goBack 2 rfl) (by decide) ?_
  refine am_cS (M := m_X5_isWithin) (As := [.int x1, .int 0, .int 1]) (st := []) (ct_X5_isWithin _ _ _ _) ml_X5_67 ld_X5_isWithin rfl ⟨Nat.le_of_ble_eq_true rfl, Nat.le_of_ble_eq_true rfl⟩ (Nat.le_of_ble_eq_true rfl) ⟨rfl, rfl⟩ ⟨Nat.le_of_ble_eq_true rfl, Nat.le_of_ble_eq_true rfl⟩ (am_dk tk_X5_goBack 3 rfl) (am_kki ?_)
  refine am_if_ne (tgt := 12) (am_dk tk_X5_goBack 4 rfl) (by decide) (fun hc6 => ?_) (fun hc6 => ?_)
  · rw [if_neg hc6] at h
    refine am_aload_n (j := 0) (am_dk tk_X5_goBack 7 rfl) rfl rfl ?_
    refine ly_geti rfl fl_X5_39 rfl (am_dk tk_X5_goBack 8 rfl) ?_
    refine am_iload_n (j := 1) (am_dk tk_X5_goBack 9 rfl) rfl rfl ?_
    refine am_cS (M := m_X5_isIn) (As := [.int (D 0 6), .int x1]) (st := []) (ct_X5_isIn _ _ _) ml_X5_172 ld_X5_isIn rfl ⟨Nat.le_of_ble_eq_true rfl, Nat.le_of_ble_eq_true rfl⟩ (Nat.le_of_ble_eq_true rfl) ⟨rfl, rfl⟩ ⟨Nat.le_of_ble_eq_true rfl, Nat.le_of_ble_eq_true rfl⟩ (am_dk tk_X5_goBack 10 rfl) (am_kki ?_)
    refine am_if_ne (tgt := 26) (am_dk tk_X5_goBack 11 rfl) (by decide) (fun hc20 => ?_) (fun hc20 => ?_)
    · rw [if_neg hc20] at h
      refine am_aload_n (j := 0) (am_dk tk_X5_goBack 14 rfl) rfl rfl ?_
      refine ly_getr (b := 25) rfl fl_X5_26 rfl rfl (am_dk tk_X5_goBack 15 rfl) ?_
      refine am_aload_n (j := 0) (am_dk tk_X5_goBack 16 rfl) rfl rfl ?_
      refine am_iload_n (j := 1) (am_dk tk_X5_goBack 17 rfl) rfl rfl ?_
      refine ly_cV (M := m_X5_imageOf) (As := [.int x1]) (b := 0) (st := [.ref 25]) (ct_X5_imageOf htw _ _) rfl (by decide) rfl ml_X5_247 ld_X5_imageOf rfl ⟨Nat.le_of_ble_eq_true rfl, Nat.le_of_ble_eq_true rfl⟩ (Nat.le_of_ble_eq_true rfl) ⟨rfl, rfl⟩ ⟨Nat.le_of_ble_eq_true rfl, Nat.le_of_ble_eq_true rfl⟩ (am_dk tk_X5_goBack 18 rfl) (am_kkr ?_)
      obtain ⟨q35, hq35, h⟩ := am_bind h
      refine ly_cV (M := m_X2_copyFrom) (As := [.ref (f_X5_imageOf tw x1)]) (b := 25) (st := []) (ct_X2_copyFrom lyM_25 (lyM_im _ _) hq35) rfl (by decide) rfl ml_X5_96 ld_X2_copyFrom rfl ⟨Nat.le_of_ble_eq_true rfl, Nat.le_of_ble_eq_true rfl⟩ (Nat.le_of_ble_eq_true rfl) ⟨rfl, rfl⟩ ⟨Nat.le_of_ble_eq_true rfl, Nat.le_of_ble_eq_true rfl⟩ (am_dk tk_X5_goBack 19 rfl) (am_kkv ?_)
      refine am_iconst (v := 1) (am_dk tk_X5_goBack 20 rfl) (by decide) ?_
      exact am_iret rfl (am_r2 h hΦ) ⟨Nat.le_of_ble_eq_true rfl, Nat.le_of_ble_eq_true rfl⟩ (am_dk tk_X5_goBack 21 rfl)
    · rw [if_pos hc20] at h
      refine am_ldc kc_X5_191 (am_dk tk_X5_goBack 12 rfl) ?_
      exact am_iret rfl (am_r2 h hΦ) ⟨Nat.le_of_ble_eq_true rfl, Nat.le_of_ble_eq_true rfl⟩ (am_dk tk_X5_goBack 13 rfl)
  · rw [if_pos hc6] at h
    refine am_ldc kc_X5_141 (am_dk tk_X5_goBack 5 rfl) ?_
    exact am_iret rfl (am_r2 h hΦ) ⟨Nat.le_of_ble_eq_true rfl, Nat.le_of_ble_eq_true rfl⟩ (am_dk tk_X5_goBack 6 rfl)
abbrev m_X5_capital : am_D := (yX5_capital, prog_1_method_3_code, 3, (some .int), { frames := 6, cells := 0, slots := 0, locals := 131 })
theorem ld_X5_capital : am_LD m_X5_capital 0 := ⟨(am_tb 79 (by decide +kernel) (by decide +kernel)), (am_tb 409 (by decide +kernel) (by decide +kernel)), by decide, by decide, by decide +kernel⟩
def tb_X5_capital : List (Nat × Instr × Nat) := [(0, .aload_n 0, 1), (1, .getfield 19, 3), (4, .invokevirtual 80, 3), (7, .ifCond .ne 14, 3), (10, .bipush (-10), 2), (12, .aload_n 0, 1), (13, .getfield 19, 3), (16, .getfield 84, 3), (19, .isub, 1), (20, .ireturn, 1), (21, .aload_n 0, 1), (22, .getfield 10, 3), (25, .astore_n 1, 1), (26, .aload_n 0, 1), (27, .aload_n 0, 1), (28, .getfield 19, 3), (31, .getfield 87, 3), (34, .putfield 10, 3), (37, .aload_n 0, 1), (38, .getfield 19, 3), (41, .aload_n 1, 1), (42, .putfield 87, 3), (45, .aload_n 0, 1), (46, .getfield 26, 3), (49, .getfield 90, 3), (52, .istore_n 2, 1), (53, .aload_n 0, 1), (54, .getfield 26, 3), (57, .aload_n 0, 1), (58, .getfield 10, 3), (61, .getfield 93, 3), (64, .invokevirtual 96, 3), (67, .aload_n 0, 1), (68, .getfield 26, 3), (71, .iload_n 2, 1), (72, .putfield 90, 3), (75, .aload_n 0, 1), (76, .iconst 0, 1), (77, .putfield 64, 3), (80, .aload_n 0, 1), (81, .iconst 0, 1), (82, .putfield 39, 3), (85, .aload_n 0, 1), (86, .getfield 46, 3), (89, .invokevirtual 100, 3), (92, .aload_n 0, 1), (93, .getfield 53, 3), (96, .invokevirtual 103, 3), (99, .aload_n 0, 1), (100, .getfield 10, 3), (103, .getfield 104, 3), (106, .ireturn, 1)]
theorem tk_X5_capital : am_tbl prog_1_method_3_code tb_X5_capital = true := by decide +kernel
def f_X5_capital (tw : Nat) (D : am_M) : Option (Int32 × Nat × am_M) := (f_X3_read tw D).bind fun q4 => if q4.1 = 0 then some ((-10) - (q4.2 12 5), tw, q4.2) else (f_X2_copyFrom 25 ((15 - tw) + 6) q4.2).bind fun q64 => (f_X1_forget (am_up (am_up (am_up q64 25 7 (q4.2 25 7)) 0 11 0) 0 6 0)).bind fun q89 => (f_X0_forget q89).bind fun q96 => some (q96 (15 - tw) 3, (15 - tw), q96)
theorem sw_X5_capital {l : Launch} {h0 : am_H} {Φ : am_Ph} {tw : Nat} {tp : Bool} {D : am_M} (htw : lyT tw) (k : am_Ex (am_E l m_X5_capital false h0 Φ) prog_1_method_3_code (0, 0) 45 [(0, .ref 0)] [] (ly (15 - tw) tp D)) : am_Ex (am_E l m_X5_capital false h0 Φ) prog_1_method_3_code (0, 0) 34 [(1, .ref tw), (0, .ref 0)] [.ref (15 - tw), .ref 0] (ly tw tp D) := by
  refine am_putr (b := 15 - tw) (c := 5) (z := 0) (k := 0) (lyT_lt (lyT_o htw)) rfl fl_X5_10 rfl rfl rfl (am_dk tk_X5_capital 17 rfl) ?_
  refine am_aload_n (j := 1) (am_dk tk_X5_capital 18 rfl) rfl rfl ?_
  refine am_getr (b := 12) (c := 5) (z := 0) (k := 1) rfl fl_X5_19 rfl rfl (am_dk tk_X5_capital 19 rfl) ?_
  refine am_aload_n (j := 0) (am_dk tk_X5_capital 20 rfl) rfl rfl ?_
  refine am_putr (b := tw) (c := 3) (z := 0) (k := 3) (lyT_lt htw) rfl fl_X5_87 rfl rfl rfl (am_dk tk_X5_capital 21 rfl) ?_
  refine am_ls [1] rfl ?_
  refine am_h (h' := ly (15 - tw) tp D) ?_ k
  refine Prod.ext rfl (Prod.ext ?_ rfl)
  funext a j
  show am_upR (am_upR (lyR tw tp) 0 0 (some (15 - tw))) 12 3 (some tw) a j = lyR (15 - tw) tp a j
  by_cases h1 : a = 0 ∧ j = 0
  · obtain ⟨rfl, rfl⟩ := h1
    simp [am_upR, lyR]
  · by_cases h2 : a = 12 ∧ j = 3
    · obtain ⟨rfl, rfl⟩ := h2
      have e1 : 15 - (15 - tw) = tw := by unfold lyT at htw; omega
      simp [am_upR, lyR, e1]
    · simp [am_upR, lyR, h1, h2]
theorem ct_X5_capital {l : Launch} {tw : Nat} {tp : Bool} (htw : lyT tw) {D : am_M} {q : Int32 × Nat × am_M} (h : f_X5_capital tw D = some q) : am_CT l m_X5_capital false [.ref 0] (ly tw tp D) (am_is (some (.int q.1)) (ly q.2.1 tp q.2.2)) := by
  have hΦ : am_is (some (.int q.1)) (ly q.2.1 tp q.2.2) (some (.int q.1)) (ly q.2.1 tp q.2.2) := ⟨rfl, rfl⟩
  refine am_CT.of (by decide) (Nat.le_of_ble_eq_true rfl) ?_
  show am_Ex _ _ _ 0 [(0, .ref 0)] [] _
  rw [f_X5_capital] at h
  refine am_aload_n (j := 0) (am_dk tk_X5_capital 0 rfl) rfl rfl ?_
  refine ly_getr (b := 12) rfl fl_X5_19 rfl rfl (am_dk tk_X5_capital 1 rfl) ?_
  obtain ⟨q4, hq4, h⟩ := am_bind h
  refine ly_cV (M := m_X3_read) (As := []) (b := 12) (st := []) (ct_X3_read htw hq4) rfl (by decide) rfl ml_X5_80 ld_X3_read rfl ⟨Nat.le_of_ble_eq_true rfl, Nat.le_of_ble_eq_true rfl⟩ (Nat.le_of_ble_eq_true rfl) ⟨rfl, rfl⟩ ⟨Nat.le_of_ble_eq_true rfl, Nat.le_of_ble_eq_true rfl⟩ (am_dk tk_X5_capital 2 rfl) (am_kki ?_)
  refine am_if_ne (tgt := 21) (am_dk tk_X5_capital 3 rfl) (by decide) (fun hc7 => ?_) (fun hc7 => ?_)
  · rw [if_neg hc7] at h
    refine am_aload_n (j := 0) (am_dk tk_X5_capital 10 rfl) rfl rfl ?_
    refine ly_getr (b := tw) rfl fl_X5_10 rfl rfl (am_dk tk_X5_capital 11 rfl) ?_
    refine am_astore_n (L' := [(1, .ref tw), (0, .ref 0)]) (am_dk tk_X5_capital 12 rfl) rfl (Nat.le_of_ble_eq_true rfl) rfl ?_
    refine am_aload_n (j := 1) (am_dk tk_X5_capital 13 rfl) rfl rfl ?_
    refine am_aload_n (j := 1) (am_dk tk_X5_capital 14 rfl) rfl rfl ?_
    refine ly_getr (b := 12) rfl fl_X5_19 rfl rfl (am_dk tk_X5_capital 15 rfl) ?_
    refine ly_getr (b := (15 - tw)) rfl fl_X5_87 rfl rfl (am_dk tk_X5_capital 16 rfl) ?_
    refine sw_X5_capital htw ?_
    refine am_aload_n (j := 0) (am_dk tk_X5_capital 22 rfl) rfl rfl ?_
    refine ly_getr (b := 25) rfl fl_X5_26 rfl rfl (am_dk tk_X5_capital 23 rfl) ?_
    refine ly_geti rfl fl_X5_90 rfl (am_dk tk_X5_capital 24 rfl) ?_
    refine am_istore_n (L' := [(2, .int (q4.2 25 7)), (0, .ref 0)]) (am_dk tk_X5_capital 25 rfl) rfl (Nat.le_of_ble_eq_true rfl) rfl ?_
    refine am_aload_n (j := 1) (am_dk tk_X5_capital 26 rfl) rfl rfl ?_
    refine ly_getr (b := 25) rfl fl_X5_26 rfl rfl (am_dk tk_X5_capital 27 rfl) ?_
    refine am_aload_n (j := 1) (am_dk tk_X5_capital 28 rfl) rfl rfl ?_
    refine ly_getr (b := (15 - tw)) rfl fl_X5_10 rfl rfl (am_dk tk_X5_capital 29 rfl) ?_
    refine ly_getr (b := ((15 - tw) + 6)) (lyT_s (lyT_o htw)) fl_X5_93 rfl (lyT_r12 (lyT_o htw)) (am_dk tk_X5_capital 30 rfl) ?_
    obtain ⟨q64, hq64, h⟩ := am_bind h
    refine ly_cV (M := m_X2_copyFrom) (As := [.ref ((15 - tw) + 6)]) (b := 25) (st := []) (ct_X2_copyFrom lyM_25 (lyT_m (lyT_o htw)) hq64) rfl (by decide) rfl ml_X5_96 ld_X2_copyFrom rfl ⟨Nat.le_of_ble_eq_true rfl, Nat.le_of_ble_eq_true rfl⟩ (Nat.le_of_ble_eq_true rfl) ⟨rfl, rfl⟩ ⟨Nat.le_of_ble_eq_true rfl, Nat.le_of_ble_eq_true rfl⟩ (am_dk tk_X5_capital 31 rfl) (am_kkv ?_)
    refine am_aload_n (j := 1) (am_dk tk_X5_capital 32 rfl) rfl rfl ?_
    refine ly_getr (b := 25) rfl fl_X5_26 rfl rfl (am_dk tk_X5_capital 33 rfl) ?_
    refine am_iload_n (j := 0) (am_dk tk_X5_capital 34 rfl) rfl rfl ?_
    refine ly_puti rfl fl_X5_90 rfl rfl (am_dk tk_X5_capital 35 rfl) ?_
    refine am_aload_n (j := 1) (am_dk tk_X5_capital 36 rfl) rfl rfl ?_
    refine am_iconst (v := 0) (am_dk tk_X5_capital 37 rfl) (by decide) ?_
    refine ly_puti rfl fl_X5_64 rfl rfl (am_dk tk_X5_capital 38 rfl) ?_
    refine am_aload_n (j := 1) (am_dk tk_X5_capital 39 rfl) rfl rfl ?_
    refine am_iconst (v := 0) (am_dk tk_X5_capital 40 rfl) (by decide) ?_
    refine ly_puti rfl fl_X5_39 rfl rfl (am_dk tk_X5_capital 41 rfl) ?_
    refine am_aload_n (j := 1) (am_dk tk_X5_capital 42 rfl) rfl rfl ?_
    refine ly_getr (b := 45) rfl fl_X5_46 rfl rfl (am_dk tk_X5_capital 43 rfl) ?_
    obtain ⟨q89, hq89, h⟩ := am_bind h
    refine ly_cV (M := m_X1_forget) (As := []) (b := 45) (st := []) (ct_X1_forget hq89) rfl (by decide) rfl ml_X5_100 ld_X1_forget rfl ⟨Nat.le_of_ble_eq_true rfl, Nat.le_of_ble_eq_true rfl⟩ (Nat.le_of_ble_eq_true rfl) ⟨rfl, rfl⟩ ⟨Nat.le_of_ble_eq_true rfl, Nat.le_of_ble_eq_true rfl⟩ (am_dk tk_X5_capital 44 rfl) (am_kkv ?_)
    refine am_aload_n (j := 1) (am_dk tk_X5_capital 45 rfl) rfl rfl ?_
    refine ly_getr (b := 50) rfl fl_X5_53 rfl rfl (am_dk tk_X5_capital 46 rfl) ?_
    obtain ⟨q96, hq96, h⟩ := am_bind h
    refine ly_cV (M := m_X0_forget) (As := []) (b := 50) (st := []) (ct_X0_forget hq96) rfl (by decide) rfl ml_X5_103 ld_X0_forget rfl ⟨Nat.le_of_ble_eq_true rfl, Nat.le_of_ble_eq_true rfl⟩ (Nat.le_of_ble_eq_true rfl) ⟨rfl, rfl⟩ ⟨Nat.le_of_ble_eq_true rfl, Nat.le_of_ble_eq_true rfl⟩ (am_dk tk_X5_capital 47 rfl) (am_kkv ?_)
    refine am_aload_n (j := 1) (am_dk tk_X5_capital 48 rfl) rfl rfl ?_
    refine ly_getr (b := (15 - tw)) rfl fl_X5_10 rfl rfl (am_dk tk_X5_capital 49 rfl) ?_
    refine ly_geti (lyT_s (lyT_o htw)) fl_X5_104 rfl (am_dk tk_X5_capital 50 rfl) ?_
    exact am_iret rfl (am_rm3 h hΦ) ⟨Nat.le_of_ble_eq_true rfl, Nat.le_of_ble_eq_true rfl⟩ (am_dk tk_X5_capital 51 rfl)
  · rw [if_pos hc7] at h
    refine am_bipush (v := (-10)) (am_dk tk_X5_capital 4 rfl) (by decide) ?_
    refine am_aload_n (j := 0) (am_dk tk_X5_capital 5 rfl) rfl rfl ?_
    refine ly_getr (b := 12) rfl fl_X5_19 rfl rfl (am_dk tk_X5_capital 6 rfl) ?_
    refine ly_geti rfl fl_X5_84 rfl (am_dk tk_X5_capital 7 rfl) ?_
    refine am_isub (am_dk tk_X5_capital 8 rfl) ?_
    exact am_iret rfl (am_rm3 h hΦ) ⟨Nat.le_of_ble_eq_true rfl, Nat.le_of_ble_eq_true rfl⟩ (am_dk tk_X5_capital 9 rfl)
abbrev m_X5_life : am_D := (yX5_life, prog_1_method_18_code, 4, (some .int), { frames := 6, cells := 2, slots := 88200, locals := 141 })
theorem ld_X5_life : am_LD m_X5_life 3 := ⟨(am_tb 79 (by decide +kernel) (by decide +kernel)), (am_tb 613 (by decide +kernel) (by decide +kernel)), by decide, by decide, by decide +kernel⟩
def tb_X5_life : List (Nat × Instr × Nat) := [(0, .aload_n 0, 1), (1, .iload_n 1, 1), (2, .invokevirtual 137, 3), (5, .ifCond .ne 6, 3), (8, .ldc 141, 2), (10, .ireturn, 1), (11, .iload_n 2, 1), (12, .iconst 1, 1), (13, .bipush 48, 2), (15, .invokestatic 67, 3), (18, .ifCond .eq 14, 3), (21, .iload_n 3, 1), (22, .iconst (-1), 1), (23, .iload_n 2, 1), (24, .iconst 1, 1), (25, .isub, 1), (26, .invokestatic 67, 3), (29, .ifCond .ne 6, 3), (32, .ldc 71, 2), (34, .ireturn, 1), (35, .aload_n 0, 1), (36, .getfield 46, 3), (39, .aload_n 0, 1), (40, .getfield 10, 3), (43, .aload_n 0, 1), (44, .getfield 26, 3), (47, .iload_n 1, 1), (48, .iload_n 2, 1), (49, .invokevirtual 202, 3), (52, .aload_n 0, 1), (53, .getfield 46, 3), (56, .getfield 206, 3), (59, .iconst (-1), 1), (60, .if_icmp .eq 8, 3), (63, .iload_n 3, 1), (64, .iconst (-1), 1), (65, .if_icmp .ne 11, 3), (68, .aload_n 0, 1), (69, .getfield 46, 3), (72, .getfield 206, 3), (75, .ireturn, 1), (76, .aload_n 0, 1), (77, .getfield 46, 3), (80, .getfield 209, 3), (83, .iload_n 3, 1), (84, .iaload, 1), (85, .ireturn, 1)]
theorem tk_X5_life : am_tbl prog_1_method_18_code tb_X5_life = true := by decide +kernel
def f_X5_life (tw : Nat) (tp : Bool) (x1 x2 x3 : Int32) (D : am_M) : Option (Int32 × Bool × am_M) := if (f_X5_isPerson tw x1 D) = 0 then some ((-1000000001), tp, D) else if (f_X5_isWithin x2 1 48) = 0 then some ((-1000000002), tp, D) else if (f_X5_isWithin x3 (-1) (x2 - 1)) = 0 then some ((-1000000002), tp, D) else (f_X1_make tw 25 tp x1 x2 D).bind fun q49 => if (q49.2 45 5) = (-1) then some (q49.2 45 5, q49.1, q49.2) else if x3 = (-1) then some (q49.2 45 5, q49.1, q49.2) else if am_in x3 48 = true then some (q49.2 49 x3.toNatClampNeg, q49.1, q49.2) else none
theorem ct_X5_life {l : Launch} {tw : Nat} {tp : Bool} (htw : lyT tw) {x1 x2 x3 : Int32} {D : am_M} {q : Int32 × Bool × am_M} (h : f_X5_life tw tp x1 x2 x3 D = some q) : am_CT l m_X5_life true [.ref 0, .int x1, .int x2, .int x3] (ly tw tp D) (am_is (some (.int q.1)) (ly tw q.2.1 q.2.2)) := by
  have hΦ : am_is (some (.int q.1)) (ly tw q.2.1 q.2.2) (some (.int q.1)) (ly tw q.2.1 q.2.2) := ⟨rfl, rfl⟩
  refine am_CT.of (by decide) (Nat.le_of_ble_eq_true rfl) ?_
  show am_Ex _ _ _ 0 [(0, .ref 0), (1, .int x1), (2, .int x2), (3, .int x3)] [] _
  rw [f_X5_life] at h
  refine am_aload_n (j := 0) (am_dk tk_X5_life 0 rfl) rfl rfl ?_
  refine am_iload_n (j := 1) (am_dk tk_X5_life 1 rfl) rfl rfl ?_
  refine ly_cV (M := m_X5_isPerson) (As := [.int x1]) (b := 0) (st := []) (ct_X5_isPerson htw _ _) rfl (by decide) rfl ml_X5_137 ld_X5_isPerson rfl ⟨Nat.le_of_ble_eq_true rfl, Nat.le_of_ble_eq_true rfl⟩ (Nat.le_of_ble_eq_true rfl) ⟨rfl, rfl⟩ ⟨Nat.le_of_ble_eq_true rfl, Nat.le_of_ble_eq_true rfl⟩ (am_dk tk_X5_life 2 rfl) (am_kki ?_)
  refine am_if_ne (tgt := 11) (am_dk tk_X5_life 3 rfl) (by decide) (fun hc5 => ?_) (fun hc5 => ?_)
  · rw [if_neg hc5] at h
    refine am_iload_n (j := 2) (am_dk tk_X5_life 6 rfl) rfl rfl ?_
    refine am_iconst (v := 1) (am_dk tk_X5_life 7 rfl) (by decide) ?_
    refine am_bipush (v := 48) (am_dk tk_X5_life 8 rfl) (by decide) ?_
    refine am_cS (M := m_X5_isWithin) (As := [.int x2, .int 1, .int 48]) (st := []) (ct_X5_isWithin _ _ _ _) ml_X5_67 ld_X5_isWithin rfl ⟨Nat.le_of_ble_eq_true rfl, Nat.le_of_ble_eq_true rfl⟩ (Nat.le_of_ble_eq_true rfl) ⟨rfl, rfl⟩ ⟨Nat.le_of_ble_eq_true rfl, Nat.le_of_ble_eq_true rfl⟩ (am_dk tk_X5_life 9 rfl) (am_kki ?_)
    refine am_if_eq (tgt := 32) (am_dk tk_X5_life 10 rfl) (by decide) (fun hc18 => ?_) (fun hc18 => ?_)
    · rw [if_pos hc18] at h
      refine am_ldc kc_X5_71 (am_dk tk_X5_life 18 rfl) ?_
      exact am_iret rfl (am_rm2 h hΦ) ⟨Nat.le_of_ble_eq_true rfl, Nat.le_of_ble_eq_true rfl⟩ (am_dk tk_X5_life 19 rfl)
    · rw [if_neg hc18] at h
      refine am_iload_n (j := 3) (am_dk tk_X5_life 11 rfl) rfl rfl ?_
      refine am_iconst (v := (-1)) (am_dk tk_X5_life 12 rfl) (by decide) ?_
      refine am_iload_n (j := 2) (am_dk tk_X5_life 13 rfl) rfl rfl ?_
      refine am_iconst (v := 1) (am_dk tk_X5_life 14 rfl) (by decide) ?_
      refine am_isub (am_dk tk_X5_life 15 rfl) ?_
      refine am_cS (M := m_X5_isWithin) (As := [.int x3, .int (-1), .int (x2 - 1)]) (st := []) (ct_X5_isWithin _ _ _ _) ml_X5_67 ld_X5_isWithin rfl ⟨Nat.le_of_ble_eq_true rfl, Nat.le_of_ble_eq_true rfl⟩ (Nat.le_of_ble_eq_true rfl) ⟨rfl, rfl⟩ ⟨Nat.le_of_ble_eq_true rfl, Nat.le_of_ble_eq_true rfl⟩ (am_dk tk_X5_life 16 rfl) (am_kki ?_)
      refine am_if_ne (tgt := 35) (am_dk tk_X5_life 17 rfl) (by decide) (fun hc29 => ?_) (fun hc29 => ?_)
      · rw [if_neg hc29] at h
        refine am_aload_n (j := 0) (am_dk tk_X5_life 20 rfl) rfl rfl ?_
        refine ly_getr (b := 45) rfl fl_X5_46 rfl rfl (am_dk tk_X5_life 21 rfl) ?_
        refine am_aload_n (j := 0) (am_dk tk_X5_life 22 rfl) rfl rfl ?_
        refine ly_getr (b := tw) rfl fl_X5_10 rfl rfl (am_dk tk_X5_life 23 rfl) ?_
        refine am_aload_n (j := 0) (am_dk tk_X5_life 24 rfl) rfl rfl ?_
        refine ly_getr (b := 25) rfl fl_X5_26 rfl rfl (am_dk tk_X5_life 25 rfl) ?_
        refine am_iload_n (j := 1) (am_dk tk_X5_life 26 rfl) rfl rfl ?_
        refine am_iload_n (j := 2) (am_dk tk_X5_life 27 rfl) rfl rfl ?_
        refine am_ls [0, 3] rfl ?_
        obtain ⟨q49, hq49, h⟩ := am_bind h
        refine am_callVA (M := m_X1_make) (As := [.ref tw, .ref 25, .int x1, .int x2]) (b := 45) (st := []) rfl (Nat.le_refl _) (by cases tp <;> rfl) rfl (ct_X1_make htw lyM_25 hq49) rfl (by decide) rfl ml_X5_202 ld_X1_make rfl ⟨Nat.le_of_ble_eq_true rfl, Nat.le_of_ble_eq_true rfl⟩ (Nat.le_of_ble_eq_true rfl) ⟨Nat.le_of_ble_eq_true rfl, Nat.le_of_ble_eq_true rfl⟩ (am_dk tk_X5_life 28 rfl) (am_kkv ?_)
        refine am_aload_n (j := 0) (am_dk tk_X5_life 29 rfl) rfl rfl ?_
        refine ly_getr (b := 45) rfl fl_X5_46 rfl rfl (am_dk tk_X5_life 30 rfl) ?_
        refine ly_geti rfl fl_X5_206 rfl (am_dk tk_X5_life 31 rfl) ?_
        refine am_iconst (v := (-1)) (am_dk tk_X5_life 32 rfl) (by decide) ?_
        refine am_icmp_eq (tgt := 68) (am_dk tk_X5_life 33 rfl) (by decide) (fun hc60 => ?_) (fun hc60 => ?_)
        · rw [if_pos hc60] at h
          refine am_aload_n (j := 0) (am_dk tk_X5_life 37 rfl) rfl rfl ?_
          refine ly_getr (b := 45) rfl fl_X5_46 rfl rfl (am_dk tk_X5_life 38 rfl) ?_
          refine ly_geti rfl fl_X5_206 rfl (am_dk tk_X5_life 39 rfl) ?_
          exact am_iret rfl (am_rm2 h hΦ) ⟨Nat.le_of_ble_eq_true rfl, Nat.le_of_ble_eq_true rfl⟩ (am_dk tk_X5_life 40 rfl)
        · rw [if_neg hc60] at h
          refine am_iload_n (j := 1) (am_dk tk_X5_life 34 rfl) rfl rfl ?_
          refine am_iconst (v := (-1)) (am_dk tk_X5_life 35 rfl) (by decide) ?_
          refine am_icmp_ne (tgt := 76) (am_dk tk_X5_life 36 rfl) (by decide) (fun hc65 => ?_) (fun hc65 => ?_)
          · rw [if_neg hc65] at h
            refine am_aload_n (j := 0) (am_dk tk_X5_life 41 rfl) rfl rfl ?_
            refine ly_getr (b := 45) rfl fl_X5_46 rfl rfl (am_dk tk_X5_life 42 rfl) ?_
            refine ly_getr (b := 49) rfl fl_X5_209 rfl rfl (am_dk tk_X5_life 43 rfl) ?_
            refine am_iload_n (j := 1) (am_dk tk_X5_life 44 rfl) rfl rfl ?_
            obtain ⟨hi84, h⟩ := am_chk h
            refine ly_iald (k := x3.toNatClampNeg) rfl (am_in_vp hi84) rfl (am_dk tk_X5_life 45 rfl) ?_
            exact am_iret rfl (am_rm2 h hΦ) ⟨Nat.le_of_ble_eq_true rfl, Nat.le_of_ble_eq_true rfl⟩ (am_dk tk_X5_life 46 rfl)
          · rw [if_pos hc65] at h
            refine am_aload_n (j := 0) (am_dk tk_X5_life 37 rfl) rfl rfl ?_
            refine ly_getr (b := 45) rfl fl_X5_46 rfl rfl (am_dk tk_X5_life 38 rfl) ?_
            refine ly_geti rfl fl_X5_206 rfl (am_dk tk_X5_life 39 rfl) ?_
            exact am_iret rfl (am_rm2 h hΦ) ⟨Nat.le_of_ble_eq_true rfl, Nat.le_of_ble_eq_true rfl⟩ (am_dk tk_X5_life 40 rfl)
      · rw [if_pos hc29] at h
        refine am_ldc kc_X5_71 (am_dk tk_X5_life 18 rfl) ?_
        exact am_iret rfl (am_rm2 h hΦ) ⟨Nat.le_of_ble_eq_true rfl, Nat.le_of_ble_eq_true rfl⟩ (am_dk tk_X5_life 19 rfl)
  · rw [if_pos hc5] at h
    refine am_ldc kc_X5_141 (am_dk tk_X5_life 4 rfl) ?_
    exact am_iret rfl (am_rm2 h hΦ) ⟨Nat.le_of_ble_eq_true rfl, Nat.le_of_ble_eq_true rfl⟩ (am_dk tk_X5_life 5 rfl)
end
