-- ===== PART A: goes FIRST, ahead of the names: the tables' words, and 'selects' of the private methods out of them =====
/-- a private method of a class that the tables say can be made, by its rows of tables_1 -/
def lw_okq (q : MethodName × Nat) : Prop := (q.1.cls ≠ "java/lang/invoke/MethodHandle" ∧ q.1.cls ≠ "java/lang/invoke/VarHandle") ∧ Cond.instantiable q.1.cls q.2 ∈ tables_1 ∧ Cond.privateMethod q.1 ∈ tables_1 ∧ Cond.instanceMethod q.1 ∈ tables_1
theorem lw_p0 : lw_okq (⟨"WheelTown$Reader", "readToken", "()V"⟩, 7) := ⟨⟨by decide +kernel, by decide +kernel⟩, List.mem_of_getElem? (i := 21) (by decide +kernel), List.mem_of_getElem? (i := 294) (by decide +kernel), List.mem_of_getElem? (i := 295) (by decide +kernel)⟩
theorem lw_p1 : lw_okq (⟨"WheelTown$Reader", "readLetters", "()V"⟩, 7) := ⟨⟨by decide +kernel, by decide +kernel⟩, List.mem_of_getElem? (i := 21) (by decide +kernel), List.mem_of_getElem? (i := 301) (by decide +kernel), List.mem_of_getElem? (i := 302) (by decide +kernel)⟩
theorem lw_p2 : lw_okq (⟨"WheelTown$Reader", "readDigits", "()V"⟩, 7) := ⟨⟨by decide +kernel, by decide +kernel⟩, List.mem_of_getElem? (i := 21) (by decide +kernel), List.mem_of_getElem? (i := 308) (by decide +kernel), List.mem_of_getElem? (i := 309) (by decide +kernel)⟩
theorem lw_p3 : lw_okq (⟨"WheelTown$Reader", "tellItem", "(LWheelTown$Ground;I)V"⟩, 7) := ⟨⟨by decide +kernel, by decide +kernel⟩, List.mem_of_getElem? (i := 21) (by decide +kernel), List.mem_of_getElem? (i := 315) (by decide +kernel), List.mem_of_getElem? (i := 316) (by decide +kernel)⟩
theorem lw_p4 : lw_okq (⟨"WheelTown$Reader", "tellRing", "(LWheelTown$Ground;I)V"⟩, 7) := ⟨⟨by decide +kernel, by decide +kernel⟩, List.mem_of_getElem? (i := 21) (by decide +kernel), List.mem_of_getElem? (i := 319) (by decide +kernel), List.mem_of_getElem? (i := 320) (by decide +kernel)⟩
theorem lw_p5 : lw_okq (⟨"WheelTown$Reader", "readNumber", "(II)I"⟩, 7) := ⟨⟨by decide +kernel, by decide +kernel⟩, List.mem_of_getElem? (i := 21) (by decide +kernel), List.mem_of_getElem? (i := 323) (by decide +kernel), List.mem_of_getElem? (i := 324) (by decide +kernel)⟩
theorem lw_p6 : lw_okq (⟨"WheelTown$Reader", "tellCost", "(LWheelTown$Ground;)V"⟩, 7) := ⟨⟨by decide +kernel, by decide +kernel⟩, List.mem_of_getElem? (i := 21) (by decide +kernel), List.mem_of_getElem? (i := 327) (by decide +kernel), List.mem_of_getElem? (i := 328) (by decide +kernel)⟩
theorem lw_p7 : lw_okq (⟨"WheelTown$Reader", "tellSun", "(LWheelTown$Ground;)V"⟩, 7) := ⟨⟨by decide +kernel, by decide +kernel⟩, List.mem_of_getElem? (i := 21) (by decide +kernel), List.mem_of_getElem? (i := 335) (by decide +kernel), List.mem_of_getElem? (i := 336) (by decide +kernel)⟩
theorem lw_p8 : lw_okq (⟨"WheelTown$Reader", "tellBridge", "(LWheelTown$Ground;)V"⟩, 7) := ⟨⟨by decide +kernel, by decide +kernel⟩, List.mem_of_getElem? (i := 21) (by decide +kernel), List.mem_of_getElem? (i := 339) (by decide +kernel), List.mem_of_getElem? (i := 340) (by decide +kernel)⟩
theorem lw_p9 : lw_okq (⟨"WheelTown$Reader", "tellWagon", "(LWheelTown$Ground;)V"⟩, 7) := ⟨⟨by decide +kernel, by decide +kernel⟩, List.mem_of_getElem? (i := 21) (by decide +kernel), List.mem_of_getElem? (i := 343) (by decide +kernel), List.mem_of_getElem? (i := 344) (by decide +kernel)⟩
theorem lw_p10 : lw_okq (⟨"WheelTown$Reader", "tellPair", "(LWheelTown$Ground;)V"⟩, 7) := ⟨⟨by decide +kernel, by decide +kernel⟩, List.mem_of_getElem? (i := 21) (by decide +kernel), List.mem_of_getElem? (i := 355) (by decide +kernel), List.mem_of_getElem? (i := 356) (by decide +kernel)⟩
theorem lw_p11 : lw_okq (⟨"WheelTown$Reader", "readStop", "()V"⟩, 7) := ⟨⟨by decide +kernel, by decide +kernel⟩, List.mem_of_getElem? (i := 21) (by decide +kernel), List.mem_of_getElem? (i := 363) (by decide +kernel), List.mem_of_getElem? (i := 364) (by decide +kernel)⟩
theorem lw_p12 : lw_okq (⟨"WheelTown$Ground", "joinPaces", "()V"⟩, 14) := ⟨⟨by decide +kernel, by decide +kernel⟩, List.mem_of_getElem? (i := 164) (by decide +kernel), List.mem_of_getElem? (i := 371) (by decide +kernel), List.mem_of_getElem? (i := 372) (by decide +kernel)⟩
theorem lw_p13 : lw_okq (⟨"WheelTown$Story", "loseOldest", "()V"⟩, 4) := ⟨⟨by decide +kernel, by decide +kernel⟩, List.mem_of_getElem? (i := 140) (by decide +kernel), List.mem_of_getElem? (i := 441) (by decide +kernel), List.mem_of_getElem? (i := 442) (by decide +kernel)⟩
theorem lw_p14 : lw_okq (⟨"WheelTown$Ground", "foremost", "(LWheelTown$Moment;I)I"⟩, 14) := ⟨⟨by decide +kernel, by decide +kernel⟩, List.mem_of_getElem? (i := 164) (by decide +kernel), List.mem_of_getElem? (i := 449) (by decide +kernel), List.mem_of_getElem? (i := 450) (by decide +kernel)⟩
theorem lw_p15 : lw_okq (⟨"WheelTown$Ground", "goOn", "(LWheelTown$Moment;I)Z"⟩, 14) := ⟨⟨by decide +kernel, by decide +kernel⟩, List.mem_of_getElem? (i := 164) (by decide +kernel), List.mem_of_getElem? (i := 453) (by decide +kernel), List.mem_of_getElem? (i := 454) (by decide +kernel)⟩
def lw_privs_1 : List (MethodName × Nat) := [(⟨"WheelTown$Reader", "readToken", "()V"⟩, 7), (⟨"WheelTown$Reader", "readLetters", "()V"⟩, 7), (⟨"WheelTown$Reader", "readDigits", "()V"⟩, 7), (⟨"WheelTown$Reader", "tellItem", "(LWheelTown$Ground;I)V"⟩, 7), (⟨"WheelTown$Reader", "tellRing", "(LWheelTown$Ground;I)V"⟩, 7), (⟨"WheelTown$Reader", "readNumber", "(II)I"⟩, 7), (⟨"WheelTown$Reader", "tellCost", "(LWheelTown$Ground;)V"⟩, 7), (⟨"WheelTown$Reader", "tellSun", "(LWheelTown$Ground;)V"⟩, 7), (⟨"WheelTown$Reader", "tellBridge", "(LWheelTown$Ground;)V"⟩, 7), (⟨"WheelTown$Reader", "tellWagon", "(LWheelTown$Ground;)V"⟩, 7), (⟨"WheelTown$Reader", "tellPair", "(LWheelTown$Ground;)V"⟩, 7), (⟨"WheelTown$Reader", "readStop", "()V"⟩, 7), (⟨"WheelTown$Ground", "joinPaces", "()V"⟩, 14), (⟨"WheelTown$Story", "loseOldest", "()V"⟩, 4), (⟨"WheelTown$Ground", "foremost", "(LWheelTown$Moment;I)I"⟩, 14), (⟨"WheelTown$Ground", "goOn", "(LWheelTown$Moment;I)Z"⟩, 14)]
theorem lw_r1 : ∀ q ∈ lw_privs_1, lw_okq q := List.forall_mem_cons.mpr ⟨lw_p0, List.forall_mem_cons.mpr ⟨lw_p1, List.forall_mem_cons.mpr ⟨lw_p2, List.forall_mem_cons.mpr ⟨lw_p3, List.forall_mem_cons.mpr ⟨lw_p4, List.forall_mem_cons.mpr ⟨lw_p5, List.forall_mem_cons.mpr ⟨lw_p6, List.forall_mem_cons.mpr ⟨lw_p7, List.forall_mem_cons.mpr ⟨lw_p8, List.forall_mem_cons.mpr ⟨lw_p9, List.forall_mem_cons.mpr ⟨lw_p10, List.forall_mem_cons.mpr ⟨lw_p11, List.forall_mem_cons.mpr ⟨lw_p12, List.forall_mem_cons.mpr ⟨lw_p13, List.forall_mem_cons.mpr ⟨lw_p14, List.forall_mem_cons.mpr ⟨lw_p15, fun _ h => absurd h List.not_mem_nil⟩⟩⟩⟩⟩⟩⟩⟩⟩⟩⟩⟩⟩⟩⟩⟩
theorem lw_p16 : lw_okq (⟨"WheelTown$Ground", "isBarred", "(LWheelTown$Moment;II)Z"⟩, 14) := ⟨⟨by decide +kernel, by decide +kernel⟩, List.mem_of_getElem? (i := 164) (by decide +kernel), List.mem_of_getElem? (i := 458) (by decide +kernel), List.mem_of_getElem? (i := 459) (by decide +kernel)⟩
theorem lw_p17 : lw_okq (⟨"WheelTown$Ground", "catchLate", "(LWheelTown$Moment;)V"⟩, 14) := ⟨⟨by decide +kernel, by decide +kernel⟩, List.mem_of_getElem? (i := 164) (by decide +kernel), List.mem_of_getElem? (i := 462) (by decide +kernel), List.mem_of_getElem? (i := 463) (by decide +kernel)⟩
theorem lw_p18 : lw_okq (⟨"WheelTown", "isTrialSafe", "()Z"⟩, 10) := ⟨⟨by decide +kernel, by decide +kernel⟩, List.mem_of_getElem? (i := 13) (by decide +kernel), List.mem_of_getElem? (i := 519) (by decide +kernel), List.mem_of_getElem? (i := 520) (by decide +kernel)⟩
theorem lw_p19 : lw_okq (⟨"WheelTown", "findStarts", "()Z"⟩, 10) := ⟨⟨by decide +kernel, by decide +kernel⟩, List.mem_of_getElem? (i := 13) (by decide +kernel), List.mem_of_getElem? (i := 537) (by decide +kernel), List.mem_of_getElem? (i := 538) (by decide +kernel)⟩
theorem lw_p20 : lw_okq (⟨"WheelTown", "isChance", "(III)Z"⟩, 10) := ⟨⟨by decide +kernel, by decide +kernel⟩, List.mem_of_getElem? (i := 13) (by decide +kernel), List.mem_of_getElem? (i := 583) (by decide +kernel), List.mem_of_getElem? (i := 584) (by decide +kernel)⟩
theorem lw_p21 : lw_okq (⟨"WheelTown$Chance", "chanceMinute", "(III)V"⟩, 3) := ⟨⟨by decide +kernel, by decide +kernel⟩, List.mem_of_getElem? (i := 76) (by decide +kernel), List.mem_of_getElem? (i := 600) (by decide +kernel), List.mem_of_getElem? (i := 601) (by decide +kernel)⟩
theorem lw_p22 : lw_okq (⟨"WheelTown", "wagonMark", "(I)I"⟩, 10) := ⟨⟨by decide +kernel, by decide +kernel⟩, List.mem_of_getElem? (i := 13) (by decide +kernel), List.mem_of_getElem? (i := 623) (by decide +kernel), List.mem_of_getElem? (i := 624) (by decide +kernel)⟩
theorem lw_p23 : lw_okq (⟨"WheelTown", "forgeMark", "(I)I"⟩, 10) := ⟨⟨by decide +kernel, by decide +kernel⟩, List.mem_of_getElem? (i := 13) (by decide +kernel), List.mem_of_getElem? (i := 627) (by decide +kernel), List.mem_of_getElem? (i := 628) (by decide +kernel)⟩
theorem lw_p24 : lw_okq (⟨"WheelTown", "chapelMark", "(I)I"⟩, 10) := ⟨⟨by decide +kernel, by decide +kernel⟩, List.mem_of_getElem? (i := 13) (by decide +kernel), List.mem_of_getElem? (i := 631) (by decide +kernel), List.mem_of_getElem? (i := 632) (by decide +kernel)⟩
theorem lw_p25 : lw_okq (⟨"WheelTown", "tenderMark", "(I)I"⟩, 10) := ⟨⟨by decide +kernel, by decide +kernel⟩, List.mem_of_getElem? (i := 13) (by decide +kernel), List.mem_of_getElem? (i := 636) (by decide +kernel), List.mem_of_getElem? (i := 637) (by decide +kernel)⟩
theorem lw_p26 : lw_okq (⟨"WheelTown", "houseMark", "(I)I"⟩, 10) := ⟨⟨by decide +kernel, by decide +kernel⟩, List.mem_of_getElem? (i := 13) (by decide +kernel), List.mem_of_getElem? (i := 641) (by decide +kernel), List.mem_of_getElem? (i := 642) (by decide +kernel)⟩
theorem lw_p27 : lw_okq (⟨"WheelTown", "railcartMark", "(I)I"⟩, 10) := ⟨⟨by decide +kernel, by decide +kernel⟩, List.mem_of_getElem? (i := 13) (by decide +kernel), List.mem_of_getElem? (i := 646) (by decide +kernel), List.mem_of_getElem? (i := 647) (by decide +kernel)⟩
theorem lw_p28 : lw_okq (⟨"WheelTownModel", "next", "()V"⟩, 39) := ⟨⟨by decide +kernel, by decide +kernel⟩, List.mem_of_getElem? (i := 671) (by decide +kernel), List.mem_of_getElem? (i := 812) (by decide +kernel), List.mem_of_getElem? (i := 813) (by decide +kernel)⟩
theorem lw_p29 : lw_okq (⟨"WheelTownModel", "here", "()I"⟩, 39) := ⟨⟨by decide +kernel, by decide +kernel⟩, List.mem_of_getElem? (i := 671) (by decide +kernel), List.mem_of_getElem? (i := 816) (by decide +kernel), List.mem_of_getElem? (i := 817) (by decide +kernel)⟩
theorem lw_p30 : lw_okq (⟨"WheelTownModel", "mayBe", "(I)Z"⟩, 39) := ⟨⟨by decide +kernel, by decide +kernel⟩, List.mem_of_getElem? (i := 671) (by decide +kernel), List.mem_of_getElem? (i := 820) (by decide +kernel), List.mem_of_getElem? (i := 821) (by decide +kernel)⟩
theorem lw_p31 : lw_okq (⟨"WheelTownModel", "due", "(Z)I"⟩, 39) := ⟨⟨by decide +kernel, by decide +kernel⟩, List.mem_of_getElem? (i := 671) (by decide +kernel), List.mem_of_getElem? (i := 824) (by decide +kernel), List.mem_of_getElem? (i := 825) (by decide +kernel)⟩
def lw_privs_2 : List (MethodName × Nat) := [(⟨"WheelTown$Ground", "isBarred", "(LWheelTown$Moment;II)Z"⟩, 14), (⟨"WheelTown$Ground", "catchLate", "(LWheelTown$Moment;)V"⟩, 14), (⟨"WheelTown", "isTrialSafe", "()Z"⟩, 10), (⟨"WheelTown", "findStarts", "()Z"⟩, 10), (⟨"WheelTown", "isChance", "(III)Z"⟩, 10), (⟨"WheelTown$Chance", "chanceMinute", "(III)V"⟩, 3), (⟨"WheelTown", "wagonMark", "(I)I"⟩, 10), (⟨"WheelTown", "forgeMark", "(I)I"⟩, 10), (⟨"WheelTown", "chapelMark", "(I)I"⟩, 10), (⟨"WheelTown", "tenderMark", "(I)I"⟩, 10), (⟨"WheelTown", "houseMark", "(I)I"⟩, 10), (⟨"WheelTown", "railcartMark", "(I)I"⟩, 10), (⟨"WheelTownModel", "next", "()V"⟩, 39), (⟨"WheelTownModel", "here", "()I"⟩, 39), (⟨"WheelTownModel", "mayBe", "(I)Z"⟩, 39), (⟨"WheelTownModel", "due", "(Z)I"⟩, 39)]
theorem lw_r2 : ∀ q ∈ lw_privs_2, lw_okq q := List.forall_mem_cons.mpr ⟨lw_p16, List.forall_mem_cons.mpr ⟨lw_p17, List.forall_mem_cons.mpr ⟨lw_p18, List.forall_mem_cons.mpr ⟨lw_p19, List.forall_mem_cons.mpr ⟨lw_p20, List.forall_mem_cons.mpr ⟨lw_p21, List.forall_mem_cons.mpr ⟨lw_p22, List.forall_mem_cons.mpr ⟨lw_p23, List.forall_mem_cons.mpr ⟨lw_p24, List.forall_mem_cons.mpr ⟨lw_p25, List.forall_mem_cons.mpr ⟨lw_p26, List.forall_mem_cons.mpr ⟨lw_p27, List.forall_mem_cons.mpr ⟨lw_p28, List.forall_mem_cons.mpr ⟨lw_p29, List.forall_mem_cons.mpr ⟨lw_p30, List.forall_mem_cons.mpr ⟨lw_p31, fun _ h => absurd h List.not_mem_nil⟩⟩⟩⟩⟩⟩⟩⟩⟩⟩⟩⟩⟩⟩⟩⟩
theorem lw_p32 : lw_okq (⟨"WheelTownModel", "readRow", "(I)V"⟩, 39) := ⟨⟨by decide +kernel, by decide +kernel⟩, List.mem_of_getElem? (i := 671) (by decide +kernel), List.mem_of_getElem? (i := 828) (by decide +kernel), List.mem_of_getElem? (i := 829) (by decide +kernel)⟩
theorem lw_p33 : lw_okq (⟨"WheelTownModel", "number", "(II)I"⟩, 39) := ⟨⟨by decide +kernel, by decide +kernel⟩, List.mem_of_getElem? (i := 671) (by decide +kernel), List.mem_of_getElem? (i := 832) (by decide +kernel), List.mem_of_getElem? (i := 833) (by decide +kernel)⟩
theorem lw_p34 : lw_okq (⟨"WheelTownModel", "placeTold", "()I"⟩, 39) := ⟨⟨by decide +kernel, by decide +kernel⟩, List.mem_of_getElem? (i := 671) (by decide +kernel), List.mem_of_getElem? (i := 836) (by decide +kernel), List.mem_of_getElem? (i := 837) (by decide +kernel)⟩
theorem lw_p35 : lw_okq (⟨"WheelTownModel", "readWagon", "()V"⟩, 39) := ⟨⟨by decide +kernel, by decide +kernel⟩, List.mem_of_getElem? (i := 671) (by decide +kernel), List.mem_of_getElem? (i := 840) (by decide +kernel), List.mem_of_getElem? (i := 841) (by decide +kernel)⟩
theorem lw_p36 : lw_okq (⟨"WheelTownModel", "isFreeAtFirst", "(II)Z"⟩, 39) := ⟨⟨by decide +kernel, by decide +kernel⟩, List.mem_of_getElem? (i := 671) (by decide +kernel), List.mem_of_getElem? (i := 844) (by decide +kernel), List.mem_of_getElem? (i := 845) (by decide +kernel)⟩
theorem lw_p37 : lw_okq (⟨"WheelTownModel", "take", "()V"⟩, 39) := ⟨⟨by decide +kernel, by decide +kernel⟩, List.mem_of_getElem? (i := 671) (by decide +kernel), List.mem_of_getElem? (i := 848) (by decide +kernel), List.mem_of_getElem? (i := 849) (by decide +kernel)⟩
theorem lw_p38 : lw_okq (⟨"WheelTownModel", "begin", "()V"⟩, 39) := ⟨⟨by decide +kernel, by decide +kernel⟩, List.mem_of_getElem? (i := 671) (by decide +kernel), List.mem_of_getElem? (i := 852) (by decide +kernel), List.mem_of_getElem? (i := 853) (by decide +kernel)⟩
theorem lw_p39 : lw_okq (⟨"WheelTownModel", "beginThen", "()V"⟩, 39) := ⟨⟨by decide +kernel, by decide +kernel⟩, List.mem_of_getElem? (i := 671) (by decide +kernel), List.mem_of_getElem? (i := 856) (by decide +kernel), List.mem_of_getElem? (i := 857) (by decide +kernel)⟩
theorem lw_p40 : lw_okq (⟨"WheelTownModel", "costAt", "(I)I"⟩, 39) := ⟨⟨by decide +kernel, by decide +kernel⟩, List.mem_of_getElem? (i := 671) (by decide +kernel), List.mem_of_getElem? (i := 860) (by decide +kernel), List.mem_of_getElem? (i := 861) (by decide +kernel)⟩
theorem lw_p41 : lw_okq (⟨"WheelTownModel", "toNow", "()V"⟩, 39) := ⟨⟨by decide +kernel, by decide +kernel⟩, List.mem_of_getElem? (i := 671) (by decide +kernel), List.mem_of_getElem? (i := 864) (by decide +kernel), List.mem_of_getElem? (i := 865) (by decide +kernel)⟩
theorem lw_p42 : lw_okq (⟨"WheelTownModel", "isWagon", "(I)Z"⟩, 39) := ⟨⟨by decide +kernel, by decide +kernel⟩, List.mem_of_getElem? (i := 671) (by decide +kernel), List.mem_of_getElem? (i := 876) (by decide +kernel), List.mem_of_getElem? (i := 877) (by decide +kernel)⟩
theorem lw_p43 : lw_okq (⟨"WheelTownModel", "sunAt", "(I)I"⟩, 39) := ⟨⟨by decide +kernel, by decide +kernel⟩, List.mem_of_getElem? (i := 671) (by decide +kernel), List.mem_of_getElem? (i := 884) (by decide +kernel), List.mem_of_getElem? (i := 885) (by decide +kernel)⟩
theorem lw_p44 : lw_okq (⟨"WheelTownModel", "toThen", "()V"⟩, 39) := ⟨⟨by decide +kernel, by decide +kernel⟩, List.mem_of_getElem? (i := 671) (by decide +kernel), List.mem_of_getElem? (i := 893) (by decide +kernel), List.mem_of_getElem? (i := 894) (by decide +kernel)⟩
theorem lw_p45 : lw_okq (⟨"WheelTownModel", "caughtThen", "()I"⟩, 39) := ⟨⟨by decide +kernel, by decide +kernel⟩, List.mem_of_getElem? (i := 671) (by decide +kernel), List.mem_of_getElem? (i := 897) (by decide +kernel), List.mem_of_getElem? (i := 898) (by decide +kernel)⟩
theorem lw_p46 : lw_okq (⟨"WheelTownModel", "know", "()V"⟩, 39) := ⟨⟨by decide +kernel, by decide +kernel⟩, List.mem_of_getElem? (i := 671) (by decide +kernel), List.mem_of_getElem? (i := 905) (by decide +kernel), List.mem_of_getElem? (i := 906) (by decide +kernel)⟩
theorem lw_p47 : lw_okq (⟨"WheelTownModel", "pass", "()V"⟩, 39) := ⟨⟨by decide +kernel, by decide +kernel⟩, List.mem_of_getElem? (i := 671) (by decide +kernel), List.mem_of_getElem? (i := 909) (by decide +kernel), List.mem_of_getElem? (i := 910) (by decide +kernel)⟩
def lw_privs_3 : List (MethodName × Nat) := [(⟨"WheelTownModel", "readRow", "(I)V"⟩, 39), (⟨"WheelTownModel", "number", "(II)I"⟩, 39), (⟨"WheelTownModel", "placeTold", "()I"⟩, 39), (⟨"WheelTownModel", "readWagon", "()V"⟩, 39), (⟨"WheelTownModel", "isFreeAtFirst", "(II)Z"⟩, 39), (⟨"WheelTownModel", "take", "()V"⟩, 39), (⟨"WheelTownModel", "begin", "()V"⟩, 39), (⟨"WheelTownModel", "beginThen", "()V"⟩, 39), (⟨"WheelTownModel", "costAt", "(I)I"⟩, 39), (⟨"WheelTownModel", "toNow", "()V"⟩, 39), (⟨"WheelTownModel", "isWagon", "(I)Z"⟩, 39), (⟨"WheelTownModel", "sunAt", "(I)I"⟩, 39), (⟨"WheelTownModel", "toThen", "()V"⟩, 39), (⟨"WheelTownModel", "caughtThen", "()I"⟩, 39), (⟨"WheelTownModel", "know", "()V"⟩, 39), (⟨"WheelTownModel", "pass", "()V"⟩, 39)]
theorem lw_r3 : ∀ q ∈ lw_privs_3, lw_okq q := List.forall_mem_cons.mpr ⟨lw_p32, List.forall_mem_cons.mpr ⟨lw_p33, List.forall_mem_cons.mpr ⟨lw_p34, List.forall_mem_cons.mpr ⟨lw_p35, List.forall_mem_cons.mpr ⟨lw_p36, List.forall_mem_cons.mpr ⟨lw_p37, List.forall_mem_cons.mpr ⟨lw_p38, List.forall_mem_cons.mpr ⟨lw_p39, List.forall_mem_cons.mpr ⟨lw_p40, List.forall_mem_cons.mpr ⟨lw_p41, List.forall_mem_cons.mpr ⟨lw_p42, List.forall_mem_cons.mpr ⟨lw_p43, List.forall_mem_cons.mpr ⟨lw_p44, List.forall_mem_cons.mpr ⟨lw_p45, List.forall_mem_cons.mpr ⟨lw_p46, List.forall_mem_cons.mpr ⟨lw_p47, fun _ h => absurd h List.not_mem_nil⟩⟩⟩⟩⟩⟩⟩⟩⟩⟩⟩⟩⟩⟩⟩⟩
theorem lw_p48 : lw_okq (⟨"WheelTownModel", "move", "(I)V"⟩, 39) := ⟨⟨by decide +kernel, by decide +kernel⟩, List.mem_of_getElem? (i := 671) (by decide +kernel), List.mem_of_getElem? (i := 913) (by decide +kernel), List.mem_of_getElem? (i := 914) (by decide +kernel)⟩
theorem lw_p49 : lw_okq (⟨"WheelTownModel", "isFree", "(II)Z"⟩, 39) := ⟨⟨by decide +kernel, by decide +kernel⟩, List.mem_of_getElem? (i := 671) (by decide +kernel), List.mem_of_getElem? (i := 917) (by decide +kernel), List.mem_of_getElem? (i := 918) (by decide +kernel)⟩
theorem lw_p50 : lw_okq (⟨"WheelTownModel", "isThere", "(II)Z"⟩, 39) := ⟨⟨by decide +kernel, by decide +kernel⟩, List.mem_of_getElem? (i := 671) (by decide +kernel), List.mem_of_getElem? (i := 932) (by decide +kernel), List.mem_of_getElem? (i := 933) (by decide +kernel)⟩
theorem lw_p51 : lw_okq (⟨"WheelTownModel", "passMany", "(I)V"⟩, 39) := ⟨⟨by decide +kernel, by decide +kernel⟩, List.mem_of_getElem? (i := 671) (by decide +kernel), List.mem_of_getElem? (i := 944) (by decide +kernel), List.mem_of_getElem? (i := 945) (by decide +kernel)⟩
theorem lw_p52 : lw_okq (⟨"WheelTownModel", "findStarts", "(I)I"⟩, 39) := ⟨⟨by decide +kernel, by decide +kernel⟩, List.mem_of_getElem? (i := 671) (by decide +kernel), List.mem_of_getElem? (i := 964) (by decide +kernel), List.mem_of_getElem? (i := 965) (by decide +kernel)⟩
theorem lw_p53 : lw_okq (⟨"WheelTownModel", "findLacking", "()V"⟩, 39) := ⟨⟨by decide +kernel, by decide +kernel⟩, List.mem_of_getElem? (i := 671) (by decide +kernel), List.mem_of_getElem? (i := 968) (by decide +kernel), List.mem_of_getElem? (i := 969) (by decide +kernel)⟩
theorem lw_p54 : lw_okq (⟨"WheelTownModel", "isWell", "(I)Z"⟩, 39) := ⟨⟨by decide +kernel, by decide +kernel⟩, List.mem_of_getElem? (i := 671) (by decide +kernel), List.mem_of_getElem? (i := 972) (by decide +kernel), List.mem_of_getElem? (i := 973) (by decide +kernel)⟩
theorem lw_p55 : lw_okq (⟨"WheelTownModel", "isAsked", "(III)Z"⟩, 39) := ⟨⟨by decide +kernel, by decide +kernel⟩, List.mem_of_getElem? (i := 671) (by decide +kernel), List.mem_of_getElem? (i := 992) (by decide +kernel), List.mem_of_getElem? (i := 993) (by decide +kernel)⟩
theorem lw_p56 : lw_okq (⟨"WheelTownModel", "findOdds", "(IIII)V"⟩, 39) := ⟨⟨by decide +kernel, by decide +kernel⟩, List.mem_of_getElem? (i := 671) (by decide +kernel), List.mem_of_getElem? (i := 998) (by decide +kernel), List.mem_of_getElem? (i := 999) (by decide +kernel)⟩
theorem lw_p57 : lw_okq (⟨"WheelTownModel", "copy", "(II)V"⟩, 39) := ⟨⟨by decide +kernel, by decide +kernel⟩, List.mem_of_getElem? (i := 671) (by decide +kernel), List.mem_of_getElem? (i := 1020) (by decide +kernel), List.mem_of_getElem? (i := 1021) (by decide +kernel)⟩
def lw_privs_4 : List (MethodName × Nat) := [(⟨"WheelTownModel", "move", "(I)V"⟩, 39), (⟨"WheelTownModel", "isFree", "(II)Z"⟩, 39), (⟨"WheelTownModel", "isThere", "(II)Z"⟩, 39), (⟨"WheelTownModel", "passMany", "(I)V"⟩, 39), (⟨"WheelTownModel", "findStarts", "(I)I"⟩, 39), (⟨"WheelTownModel", "findLacking", "()V"⟩, 39), (⟨"WheelTownModel", "isWell", "(I)Z"⟩, 39), (⟨"WheelTownModel", "isAsked", "(III)Z"⟩, 39), (⟨"WheelTownModel", "findOdds", "(IIII)V"⟩, 39), (⟨"WheelTownModel", "copy", "(II)V"⟩, 39)]
theorem lw_r4 : ∀ q ∈ lw_privs_4, lw_okq q := List.forall_mem_cons.mpr ⟨lw_p48, List.forall_mem_cons.mpr ⟨lw_p49, List.forall_mem_cons.mpr ⟨lw_p50, List.forall_mem_cons.mpr ⟨lw_p51, List.forall_mem_cons.mpr ⟨lw_p52, List.forall_mem_cons.mpr ⟨lw_p53, List.forall_mem_cons.mpr ⟨lw_p54, List.forall_mem_cons.mpr ⟨lw_p55, List.forall_mem_cons.mpr ⟨lw_p56, List.forall_mem_cons.mpr ⟨lw_p57, fun _ h => absurd h List.not_mem_nil⟩⟩⟩⟩⟩⟩⟩⟩⟩⟩
def lw_privs : List (MethodName × Nat) := lw_privs_1 ++ (lw_privs_2 ++ (lw_privs_3 ++ (lw_privs_4)))
def lw_tbl : List Cond := k2_sels lw_privs ++ tables_1
theorem lw_privs_ok : ∀ q ∈ lw_privs, lw_okq q := by
  show ∀ q ∈ lw_privs_1 ++ (lw_privs_2 ++ (lw_privs_3 ++ (lw_privs_4))), lw_okq q
  exact List.forall_mem_append.mpr ⟨lw_r1, List.forall_mem_append.mpr ⟨lw_r2, List.forall_mem_append.mpr ⟨lw_r3, lw_r4⟩⟩⟩
def RX0 : String := "WheelTown$Chance"
def TX0 : u_T := fun k => match k with
  | 0 => ("WheelTown$Chance", "minute", "I", false)
  | 1 => ("WheelTown$Chance", "wayBy", "[I", true)
  | _ => ("WheelTown$Chance", "runs", "[J", true)
def tyX0 : Nat → FieldType := fun k => match k with
  | 0 => .int
  | 1 => .array .int
  | _ => .array .long
abbrev wsX00 : List Cond := u_ws RX0 TX0 3
theorem nmX0 : ∀ a, a < 3 → ∀ b, b < 3 → a ≠ b → (TX0 a).2.1 ≠ (TX0 b).2.1 := by decide +kernel
theorem tyX0_ok : ∀ k, k < 3 → parseFieldDescriptor (TX0 k).2.2.1 = some (tyX0 k) := by decide +kernel
abbrev cX0_init : ByteArray := prog_2_method_1_code
def yX0_init : MethodName := ⟨RX0, "<init>", "()V"⟩
abbrev cX0_foresee : ByteArray := prog_2_method_2_code
def yX0_foresee : MethodName := ⟨RX0, "foresee", "(LWheelTown$Ground;LWheelTown$Moment;I)V"⟩
abbrev cX0_runsAhead : ByteArray := prog_2_method_3_code
def yX0_runsAhead : MethodName := ⟨RX0, "runsAhead", "(LWheelTown$Ground;III)J"⟩
abbrev cX0_chanceMinute : ByteArray := prog_2_method_4_code
def yX0_chanceMinute : MethodName := ⟨RX0, "chanceMinute", "(III)V"⟩
def RX1 : String := "WheelTown$Ground"
def TX1 : u_T := fun k => match k with
  | 0 => ("WheelTown$Ground", "places", "I", false)
  | 1 => ("WheelTown$Ground", "each", "I", false)
  | 2 => ("WheelTown$Ground", "lead", "I", false)
  | 3 => ("WheelTown$Ground", "sunTold", "Z", false)
  | 4 => ("WheelTown$Ground", "bridge", "I", false)
  | 5 => ("WheelTown$Ground", "points", "I", false)
  | 6 => ("WheelTown$Ground", "wagons", "I", false)
  | 7 => ("WheelTown$Ground", "pairs", "I", false)
  | 8 => ("WheelTown$Ground", "cost", "[I", true)
  | 9 => ("WheelTown$Ground", "pace", "[I", true)
  | 10 => ("WheelTown$Ground", "work", "[I", true)
  | 11 => ("WheelTown$Ground", "hitchedA", "[I", true)
  | 12 => ("WheelTown$Ground", "hitchedB", "[I", true)
  | _ => ("WheelTown$Ground", "first", "LWheelTown$Moment;", true)
def tyX1 : Nat → FieldType := fun k => match k with
  | 0 => .int
  | 1 => .int
  | 2 => .int
  | 3 => .boolean
  | 4 => .int
  | 5 => .int
  | 6 => .int
  | 7 => .int
  | 8 => .array .int
  | 9 => .array .int
  | 10 => .array .int
  | 11 => .array .int
  | 12 => .array .int
  | _ => .object "WheelTown$Moment"
abbrev wsX10 : List Cond := u_ws RX1 TX1 14
theorem nmX1 : ∀ a, a < 14 → ∀ b, b < 14 → a ≠ b → (TX1 a).2.1 ≠ (TX1 b).2.1 := by decide +kernel
theorem tyX1_ok : ∀ k, k < 14 → parseFieldDescriptor (TX1 k).2.2.1 = some (tyX1 k) := by decide +kernel
abbrev cX1_init : ByteArray := prog_3_method_1_code
def yX1_init : MethodName := ⟨RX1, "<init>", "()V"⟩
abbrev cX1_reset : ByteArray := prog_3_method_2_code
def yX1_reset : MethodName := ⟨RX1, "reset", "()V"⟩
abbrev cX1_addWagon : ByteArray := prog_3_method_3_code
def yX1_addWagon : MethodName := ⟨RX1, "addWagon", "(IIII)V"⟩
abbrev cX1_addPair : ByteArray := prog_3_method_4_code
def yX1_addPair : MethodName := ⟨RX1, "addPair", "(II)V"⟩
abbrev cX1_settle : ByteArray := prog_3_method_5_code
def yX1_settle : MethodName := ⟨RX1, "settle", "()V"⟩
abbrev cX1_joinPaces : ByteArray := prog_3_method_6_code
def yX1_joinPaces : MethodName := ⟨RX1, "joinPaces", "()V"⟩
abbrev cX1_hasPlace : ByteArray := prog_3_method_7_code
def yX1_hasPlace : MethodName := ⟨RX1, "hasPlace", "(I)Z"⟩
abbrev cX1_hasWagon : ByteArray := prog_3_method_8_code
def yX1_hasWagon : MethodName := ⟨RX1, "hasWagon", "(I)Z"⟩
abbrev cX1_hasPoints : ByteArray := prog_3_method_9_code
def yX1_hasPoints : MethodName := ⟨RX1, "hasPoints", "(I)Z"⟩
abbrev cX1_placeOf : ByteArray := prog_3_method_10_code
def yX1_placeOf : MethodName := ⟨RX1, "placeOf", "(I)I"⟩
abbrev cX1_minutesFor : ByteArray := prog_3_method_11_code
def yX1_minutesFor : MethodName := ⟨RX1, "minutesFor", "(II)I"⟩
abbrev cX1_sunWay : ByteArray := prog_3_method_12_code
def yX1_sunWay : MethodName := ⟨RX1, "sunWay", "(II)I"⟩
abbrev cX1_isTaken : ByteArray := prog_3_method_13_code
def yX1_isTaken : MethodName := ⟨RX1, "isTaken", "(LWheelTown$Moment;II)Z"⟩
abbrev cX1_pass : ByteArray := prog_3_method_14_code
def yX1_pass : MethodName := ⟨RX1, "pass", "(LWheelTown$Moment;)I"⟩
abbrev cX1_foremost : ByteArray := prog_3_method_15_code
def yX1_foremost : MethodName := ⟨RX1, "foremost", "(LWheelTown$Moment;I)I"⟩
abbrev cX1_goOn : ByteArray := prog_3_method_16_code
def yX1_goOn : MethodName := ⟨RX1, "goOn", "(LWheelTown$Moment;I)Z"⟩
abbrev cX1_isBarred : ByteArray := prog_3_method_17_code
def yX1_isBarred : MethodName := ⟨RX1, "isBarred", "(LWheelTown$Moment;II)Z"⟩
abbrev cX1_catchLate : ByteArray := prog_3_method_18_code
def yX1_catchLate : MethodName := ⟨RX1, "catchLate", "(LWheelTown$Moment;)V"⟩
abbrev cX1_withWorkDone : ByteArray := prog_3_method_19_code
def yX1_withWorkDone : MethodName := ⟨RX1, "withWorkDone", "(LWheelTown$Moment;)I"⟩
abbrev cX1_wagonsAt : ByteArray := prog_3_method_20_code
def yX1_wagonsAt : MethodName := ⟨RX1, "wagonsAt", "(LWheelTown$Moment;I)I"⟩
abbrev cX1_lengthOn : ByteArray := prog_3_method_21_code
def yX1_lengthOn : MethodName := ⟨RX1, "lengthOn", "(LWheelTown$Moment;I)I"⟩
def RX2 : String := "WheelTown$Moment"
def TX2 : u_T := fun k => match k with
  | 0 => ("WheelTown$Moment", "minute", "I", false)
  | 1 => ("WheelTown$Moment", "caught", "I", false)
  | 2 => ("WheelTown$Moment", "way", "[I", true)
  | 3 => ("WheelTown$Moment", "rail", "[I", true)
  | 4 => ("WheelTown$Moment", "left", "[I", true)
  | 5 => ("WheelTown$Moment", "stand", "[I", true)
  | _ => ("WheelTown$Moment", "done", "[I", true)
def tyX2 : Nat → FieldType := fun k => match k with
  | 0 => .int
  | 1 => .int
  | 2 => .array .int
  | 3 => .array .int
  | 4 => .array .int
  | 5 => .array .int
  | _ => .array .int
abbrev wsX20 : List Cond := u_ws RX2 TX2 7
theorem nmX2 : ∀ a, a < 7 → ∀ b, b < 7 → a ≠ b → (TX2 a).2.1 ≠ (TX2 b).2.1 := by decide +kernel
theorem tyX2_ok : ∀ k, k < 7 → parseFieldDescriptor (TX2 k).2.2.1 = some (tyX2 k) := by decide +kernel
abbrev cX2_init : ByteArray := prog_4_method_1_code
def yX2_init : MethodName := ⟨RX2, "<init>", "()V"⟩
abbrev cX2_copyFrom : ByteArray := prog_4_method_2_code
def yX2_copyFrom : MethodName := ⟨RX2, "copyFrom", "(LWheelTown$Moment;)V"⟩
abbrev cX2_isCaught : ByteArray := prog_4_method_3_code
def yX2_isCaught : MethodName := ⟨RX2, "isCaught", "(I)Z"⟩
def RX3 : String := "WheelTown$Plan"
def TX3 : u_T := fun k => match k with
  | 0 => ("WheelTown$Plan", "size", "I", false)
  | 1 => ("WheelTown$Plan", "spared", "I", false)
  | 2 => ("WheelTown$Plan", "who", "[I", true)
  | 3 => ("WheelTown$Plan", "lack", "[I", true)
  | _ => ("WheelTown$Plan", "start", "[I", true)
def tyX3 : Nat → FieldType := fun k => match k with
  | 0 => .int
  | 1 => .int
  | 2 => .array .int
  | 3 => .array .int
  | _ => .array .int
abbrev wsX30 : List Cond := u_ws RX3 TX3 5
theorem nmX3 : ∀ a, a < 5 → ∀ b, b < 5 → a ≠ b → (TX3 a).2.1 ≠ (TX3 b).2.1 := by decide +kernel
theorem tyX3_ok : ∀ k, k < 5 → parseFieldDescriptor (TX3 k).2.2.1 = some (tyX3 k) := by decide +kernel
abbrev cX3_init : ByteArray := prog_5_method_1_code
def yX3_init : MethodName := ⟨RX3, "<init>", "()V"⟩
abbrev cX3_gatherNone : ByteArray := prog_5_method_2_code
def yX3_gatherNone : MethodName := ⟨RX3, "gatherNone", "()V"⟩
abbrev cX3_gather : ByteArray := prog_5_method_3_code
def yX3_gather : MethodName := ⟨RX3, "gather", "(LWheelTown$Ground;LWheelTown$Moment;)V"⟩
abbrev cX3_setStarts : ByteArray := prog_5_method_4_code
def yX3_setStarts : MethodName := ⟨RX3, "setStarts", "(III)V"⟩
abbrev cX3_latest : ByteArray := prog_5_method_5_code
def yX3_latest : MethodName := ⟨RX3, "latest", "(I)I"⟩
abbrev cX3_order : ByteArray := prog_5_method_6_code
def yX3_order : MethodName := ⟨RX3, "order", "(LWheelTown$Moment;I)V"⟩
abbrev cX3_sum : ByteArray := prog_5_method_7_code
def yX3_sum : MethodName := ⟨RX3, "sum", "()I"⟩
abbrev cX3_startOf : ByteArray := prog_5_method_8_code
def yX3_startOf : MethodName := ⟨RX3, "startOf", "(I)I"⟩
def RX4 : String := "WheelTown$Reader"
def TX4 : u_T := fun k => match k with
  | 0 => ("WheelTown$Reader", "bytes", "[I", true)
  | 1 => ("WheelTown$Reader", "length", "I", false)
  | 2 => ("WheelTown$Reader", "at", "I", false)
  | 3 => ("WheelTown$Reader", "token", "I", false)
  | 4 => ("WheelTown$Reader", "first", "I", false)
  | 5 => ("WheelTown$Reader", "value", "I", false)
  | _ => ("WheelTown$Reader", "faulty", "Z", false)
def tyX4 : Nat → FieldType := fun k => match k with
  | 0 => .array .int
  | 1 => .int
  | 2 => .int
  | 3 => .int
  | 4 => .int
  | 5 => .int
  | _ => .boolean
abbrev wsX40 : List Cond := u_ws RX4 TX4 7
theorem nmX4 : ∀ a, a < 7 → ∀ b, b < 7 → a ≠ b → (TX4 a).2.1 ≠ (TX4 b).2.1 := by decide +kernel
theorem tyX4_ok : ∀ k, k < 7 → parseFieldDescriptor (TX4 k).2.2.1 = some (tyX4 k) := by decide +kernel
abbrev cX4_init : ByteArray := prog_6_method_1_code
def yX4_init : MethodName := ⟨RX4, "<init>", "()V"⟩
abbrev cX4_add : ByteArray := prog_6_method_2_code
def yX4_add : MethodName := ⟨RX4, "add", "(I)Z"⟩
abbrev cX4_tell : ByteArray := prog_6_method_3_code
def yX4_tell : MethodName := ⟨RX4, "tell", "(LWheelTown$Ground;)I"⟩
abbrev cX4_tellItem : ByteArray := prog_6_method_4_code
def yX4_tellItem : MethodName := ⟨RX4, "tellItem", "(LWheelTown$Ground;I)V"⟩
abbrev cX4_tellRing : ByteArray := prog_6_method_5_code
def yX4_tellRing : MethodName := ⟨RX4, "tellRing", "(LWheelTown$Ground;I)V"⟩
abbrev cX4_tellCost : ByteArray := prog_6_method_6_code
def yX4_tellCost : MethodName := ⟨RX4, "tellCost", "(LWheelTown$Ground;)V"⟩
abbrev cX4_tellSun : ByteArray := prog_6_method_7_code
def yX4_tellSun : MethodName := ⟨RX4, "tellSun", "(LWheelTown$Ground;)V"⟩
abbrev cX4_tellBridge : ByteArray := prog_6_method_8_code
def yX4_tellBridge : MethodName := ⟨RX4, "tellBridge", "(LWheelTown$Ground;)V"⟩
abbrev cX4_tellWagon : ByteArray := prog_6_method_9_code
def yX4_tellWagon : MethodName := ⟨RX4, "tellWagon", "(LWheelTown$Ground;)V"⟩
abbrev cX4_tellPair : ByteArray := prog_6_method_10_code
def yX4_tellPair : MethodName := ⟨RX4, "tellPair", "(LWheelTown$Ground;)V"⟩
abbrev cX4_readNumber : ByteArray := prog_6_method_11_code
def yX4_readNumber : MethodName := ⟨RX4, "readNumber", "(II)I"⟩
abbrev cX4_readStop : ByteArray := prog_6_method_12_code
def yX4_readStop : MethodName := ⟨RX4, "readStop", "()V"⟩
abbrev cX4_readToken : ByteArray := prog_6_method_13_code
def yX4_readToken : MethodName := ⟨RX4, "readToken", "()V"⟩
abbrev cX4_readLetters : ByteArray := prog_6_method_14_code
def yX4_readLetters : MethodName := ⟨RX4, "readLetters", "()V"⟩
abbrev cX4_readDigits : ByteArray := prog_6_method_15_code
def yX4_readDigits : MethodName := ⟨RX4, "readDigits", "()V"⟩
abbrev cX4_isLetter : ByteArray := prog_6_method_16_code
def yX4_isLetter : MethodName := ⟨RX4, "isLetter", "(I)Z"⟩
abbrev cX4_isDigit : ByteArray := prog_6_method_17_code
def yX4_isDigit : MethodName := ⟨RX4, "isDigit", "(I)Z"⟩
def RX5 : String := "WheelTown$Story"
def TX5 : u_T := fun k => match k with
  | 0 => ("WheelTown$Story", "now", "LWheelTown$Moment;", true)
  | 1 => ("WheelTown$Story", "past", "[LWheelTown$Moment;", true)
  | 2 => ("WheelTown$Story", "known", "I", false)
  | _ => ("WheelTown$Story", "kept", "Z", false)
def tyX5 : Nat → FieldType := fun k => match k with
  | 0 => .object "WheelTown$Moment"
  | 1 => .array (.object "WheelTown$Moment")
  | 2 => .int
  | _ => .boolean
abbrev wsX50 : List Cond := u_ws RX5 TX5 4
theorem nmX5 : ∀ a, a < 4 → ∀ b, b < 4 → a ≠ b → (TX5 a).2.1 ≠ (TX5 b).2.1 := by decide +kernel
theorem tyX5_ok : ∀ k, k < 4 → parseFieldDescriptor (TX5 k).2.2.1 = some (tyX5 k) := by decide +kernel
abbrev cX5_init : ByteArray := prog_7_method_1_code
def yX5_init : MethodName := ⟨RX5, "<init>", "()V"⟩
abbrev cX5_begin : ByteArray := prog_7_method_2_code
def yX5_begin : MethodName := ⟨RX5, "begin", "(LWheelTown$Moment;)V"⟩
abbrev cX5_remember : ByteArray := prog_7_method_3_code
def yX5_remember : MethodName := ⟨RX5, "remember", "()V"⟩
abbrev cX5_loseOldest : ByteArray := prog_7_method_4_code
def yX5_loseOldest : MethodName := ⟨RX5, "loseOldest", "()V"⟩
abbrev cX5_takeBack : ByteArray := prog_7_method_5_code
def yX5_takeBack : MethodName := ⟨RX5, "takeBack", "()Z"⟩
abbrev cX5_copyFrom : ByteArray := prog_7_method_6_code
def yX5_copyFrom : MethodName := ⟨RX5, "copyFrom", "(LWheelTown$Story;)V"⟩
def RX6 : String := "WheelTown"
def TX6 : u_T := fun k => match k with
  | 0 => ("WheelTown", "reader", "LWheelTown$Reader;", true)
  | 1 => ("WheelTown", "plan", "LWheelTown$Plan;", true)
  | 2 => ("WheelTown", "chance", "LWheelTown$Chance;", true)
  | 3 => ("WheelTown", "trial", "LWheelTown$Moment;", true)
  | 4 => ("WheelTown", "story", "LWheelTown$Story;", true)
  | 5 => ("WheelTown", "image0", "LWheelTown$Story;", true)
  | 6 => ("WheelTown", "image1", "LWheelTown$Story;", true)
  | 7 => ("WheelTown", "ground", "LWheelTown$Ground;", false)
  | 8 => ("WheelTown", "draft", "LWheelTown$Ground;", false)
  | _ => ("WheelTown", "trace", "J", false)
def tyX6 : Nat → FieldType := fun k => match k with
  | 0 => .object "WheelTown$Reader"
  | 1 => .object "WheelTown$Plan"
  | 2 => .object "WheelTown$Chance"
  | 3 => .object "WheelTown$Moment"
  | 4 => .object "WheelTown$Story"
  | 5 => .object "WheelTown$Story"
  | 6 => .object "WheelTown$Story"
  | 7 => .object "WheelTown$Ground"
  | 8 => .object "WheelTown$Ground"
  | _ => .long
abbrev wsX60 : List Cond := u_ws RX6 TX6 10
theorem nmX6 : ∀ a, a < 10 → ∀ b, b < 10 → a ≠ b → (TX6 a).2.1 ≠ (TX6 b).2.1 := by decide +kernel
theorem tyX6_ok : ∀ k, k < 10 → parseFieldDescriptor (TX6 k).2.2.1 = some (tyX6 k) := by decide +kernel
abbrev cX6_init : ByteArray := prog_1_method_1_code
def yX6_init : MethodName := ⟨RX6, "<init>", "()V"⟩
abbrev cX6_type : ByteArray := prog_1_method_2_code
def yX6_type : MethodName := ⟨RX6, "type", "(I)I"⟩
abbrev cX6_clear : ByteArray := prog_1_method_3_code
def yX6_clear : MethodName := ⟨RX6, "clear", "()I"⟩
abbrev cX6_world : ByteArray := prog_1_method_4_code
def yX6_world : MethodName := ⟨RX6, "world", "()I"⟩
abbrev cX6_place : ByteArray := prog_1_method_5_code
def yX6_place : MethodName := ⟨RX6, "place", "(II)I"⟩
abbrev cX6_wagon : ByteArray := prog_1_method_6_code
def yX6_wagon : MethodName := ⟨RX6, "wagon", "(II)I"⟩
abbrev cX6_now : ByteArray := prog_1_method_7_code
def yX6_now : MethodName := ⟨RX6, "now", "(I)I"⟩
abbrev cX6_sun : ByteArray := prog_1_method_8_code
def yX6_sun : MethodName := ⟨RX6, "sun", "(I)I"⟩
abbrev cX6_minute : ByteArray := prog_1_method_9_code
def yX6_minute : MethodName := ⟨RX6, "minute", "()I"⟩
abbrev cX6_stand : ByteArray := prog_1_method_10_code
def yX6_stand : MethodName := ⟨RX6, "stand", "(II)I"⟩
abbrev cX6_change : ByteArray := prog_1_method_11_code
def yX6_change : MethodName := ⟨RX6, "change", "(II)I"⟩
abbrev cX6_undo : ByteArray := prog_1_method_12_code
def yX6_undo : MethodName := ⟨RX6, "undo", "()I"⟩
abbrev cX6_behind : ByteArray := prog_1_method_13_code
def yX6_behind : MethodName := ⟨RX6, "behind", "(III)I"⟩
abbrev cX6_caught : ByteArray := prog_1_method_14_code
def yX6_caught : MethodName := ⟨RX6, "caught", "(I)I"⟩
abbrev cX6_waits : ByteArray := prog_1_method_15_code
def yX6_waits : MethodName := ⟨RX6, "waits", "(I)I"⟩
abbrev cX6_stands : ByteArray := prog_1_method_16_code
def yX6_stands : MethodName := ⟨RX6, "stands", "(I)I"⟩
abbrev cX6_starts : ByteArray := prog_1_method_17_code
def yX6_starts : MethodName := ⟨RX6, "starts", "(I)I"⟩
abbrev cX6_bars : ByteArray := prog_1_method_18_code
def yX6_bars : MethodName := ⟨RX6, "bars", "()I"⟩
abbrev cX6_pieces : ByteArray := prog_1_method_19_code
def yX6_pieces : MethodName := ⟨RX6, "pieces", "(II)I"⟩
abbrev cX6_met : ByteArray := prog_1_method_20_code
def yX6_met : MethodName := ⟨RX6, "met", "(II)I"⟩
abbrev cX6_odds : ByteArray := prog_1_method_21_code
def yX6_odds : MethodName := ⟨RX6, "odds", "(IIII)J"⟩
abbrev cX6_keepAhead : ByteArray := prog_1_method_22_code
def yX6_keepAhead : MethodName := ⟨RX6, "keepAhead", "(IIII)I"⟩
abbrev cX6_mark : ByteArray := prog_1_method_23_code
def yX6_mark : MethodName := ⟨RX6, "mark", "(II)I"⟩
abbrev cX6_keep : ByteArray := prog_1_method_24_code
def yX6_keep : MethodName := ⟨RX6, "keep", "(I)I"⟩
abbrev cX6_back : ByteArray := prog_1_method_25_code
def yX6_back : MethodName := ⟨RX6, "back", "(I)I"⟩
abbrev cX6_count : ByteArray := prog_1_method_26_code
def yX6_count : MethodName := ⟨RX6, "count", "(I)I"⟩
abbrev cX6_trace : ByteArray := prog_1_method_27_code
def yX6_trace : MethodName := ⟨RX6, "trace", "()J"⟩
abbrev cX6_leastOf : ByteArray := prog_1_method_28_code
def yX6_leastOf : MethodName := ⟨RX6, "leastOf", "(I)I"⟩
abbrev cX6_findStarts : ByteArray := prog_1_method_29_code
def yX6_findStarts : MethodName := ⟨RX6, "findStarts", "()Z"⟩
abbrev cX6_isTrialSafe : ByteArray := prog_1_method_30_code
def yX6_isTrialSafe : MethodName := ⟨RX6, "isTrialSafe", "()Z"⟩
abbrev cX6_isChance : ByteArray := prog_1_method_31_code
def yX6_isChance : MethodName := ⟨RX6, "isChance", "(III)Z"⟩
abbrev cX6_powerOfTen : ByteArray := prog_1_method_32_code
def yX6_powerOfTen : MethodName := ⟨RX6, "powerOfTen", "(I)J"⟩
abbrev cX6_commonDivisor : ByteArray := prog_1_method_33_code
def yX6_commonDivisor : MethodName := ⟨RX6, "commonDivisor", "(JJ)J"⟩
abbrev cX6_wagonMark : ByteArray := prog_1_method_34_code
def yX6_wagonMark : MethodName := ⟨RX6, "wagonMark", "(I)I"⟩
abbrev cX6_forgeMark : ByteArray := prog_1_method_35_code
def yX6_forgeMark : MethodName := ⟨RX6, "forgeMark", "(I)I"⟩
abbrev cX6_chapelMark : ByteArray := prog_1_method_36_code
def yX6_chapelMark : MethodName := ⟨RX6, "chapelMark", "(I)I"⟩
abbrev cX6_tenderMark : ByteArray := prog_1_method_37_code
def yX6_tenderMark : MethodName := ⟨RX6, "tenderMark", "(I)I"⟩
abbrev cX6_houseMark : ByteArray := prog_1_method_38_code
def yX6_houseMark : MethodName := ⟨RX6, "houseMark", "(I)I"⟩
abbrev cX6_railcartMark : ByteArray := prog_1_method_39_code
def yX6_railcartMark : MethodName := ⟨RX6, "railcartMark", "(I)I"⟩
def RX7 : String := "WheelTownModel"
def TX7 : u_T := fun k => match k with
  | 0 => ("WheelTownModel", "trace", "J", false)
  | 1 => ("WheelTownModel", "text", "[B", true)
  | 2 => ("WheelTownModel", "typed", "I", false)
  | 3 => ("WheelTownModel", "size", "[I", true)
  | 4 => ("WheelTownModel", "each", "[I", true)
  | 5 => ("WheelTownModel", "lead", "[I", true)
  | 6 => ("WheelTownModel", "bridge", "[I", true)
  | 7 => ("WheelTownModel", "points", "[I", true)
  | 8 => ("WheelTownModel", "wagons", "[I", true)
  | 9 => ("WheelTownModel", "pairs", "[I", true)
  | 10 => ("WheelTownModel", "costs", "[I", true)
  | 11 => ("WheelTownModel", "firstWay", "[I", true)
  | 12 => ("WheelTownModel", "paces", "[I", true)
  | 13 => ("WheelTownModel", "works", "[I", true)
  | 14 => ("WheelTownModel", "firstRail", "[I", true)
  | 15 => ("WheelTownModel", "pairA", "[I", true)
  | 16 => ("WheelTownModel", "pairB", "[I", true)
  | 17 => ("WheelTownModel", "pace", "[I", true)
  | 18 => ("WheelTownModel", "at", "I", false)
  | 19 => ("WheelTownModel", "start", "I", false)
  | 20 => ("WheelTownModel", "sort", "I", false)
  | 21 => ("WheelTownModel", "value", "I", false)
  | 22 => ("WheelTownModel", "fault", "I", false)
  | 23 => ("WheelTownModel", "items", "I", false)
  | 24 => ("WheelTownModel", "hasSun", "Z", false)
  | 25 => ("WheelTownModel", "hasBridge", "Z", false)
  | 26 => ("WheelTownModel", "now", "[I", true)
  | 27 => ("WheelTownModel", "then", "[I", true)
  | 28 => ("WheelTownModel", "isKept", "[Z", true)
  | 29 => ("WheelTownModel", "waiting", "I", false)
  | 30 => ("WheelTownModel", "lacking", "[I", true)
  | 31 => ("WheelTownModel", "lackingMany", "I", false)
  | 32 => ("WheelTownModel", "lacks", "[I", true)
  | 33 => ("WheelTownModel", "tried", "[I", true)
  | 34 => ("WheelTownModel", "best", "[I", true)
  | 35 => ("WheelTownModel", "ways", "[J", true)
  | 36 => ("WheelTownModel", "onward", "[J", true)
  | 37 => ("WheelTownModel", "upper", "J", false)
  | _ => ("WheelTownModel", "lower", "J", false)
def tyX7 : Nat → FieldType := fun k => match k with
  | 0 => .long
  | 1 => .array .byte
  | 2 => .int
  | 3 => .array .int
  | 4 => .array .int
  | 5 => .array .int
  | 6 => .array .int
  | 7 => .array .int
  | 8 => .array .int
  | 9 => .array .int
  | 10 => .array .int
  | 11 => .array .int
  | 12 => .array .int
  | 13 => .array .int
  | 14 => .array .int
  | 15 => .array .int
  | 16 => .array .int
  | 17 => .array .int
  | 18 => .int
  | 19 => .int
  | 20 => .int
  | 21 => .int
  | 22 => .int
  | 23 => .int
  | 24 => .boolean
  | 25 => .boolean
  | 26 => .array .int
  | 27 => .array .int
  | 28 => .array .boolean
  | 29 => .int
  | 30 => .array .int
  | 31 => .int
  | 32 => .array .int
  | 33 => .array .int
  | 34 => .array .int
  | 35 => .array .long
  | 36 => .array .long
  | 37 => .long
  | _ => .long
abbrev wsX70 : List Cond := u_ws RX7 TX7 39
theorem nmX7 : ∀ a, a < 39 → ∀ b, b < 39 → a ≠ b → (TX7 a).2.1 ≠ (TX7 b).2.1 := by decide +kernel
theorem tyX7_ok : ∀ k, k < 39 → parseFieldDescriptor (TX7 k).2.2.1 = some (tyX7 k) := by decide +kernel
abbrev cX7_init : ByteArray := prog_9_method_1_code
def yX7_init : MethodName := ⟨RX7, "<init>", "()V"⟩
abbrev cX7_in : ByteArray := prog_9_method_3_code
def yX7_in : MethodName := ⟨RX7, "in", "(III)Z"⟩
abbrev cX7_type : ByteArray := prog_9_method_4_code
def yX7_type : MethodName := ⟨RX7, "type", "(I)I"⟩
abbrev cX7_clear : ByteArray := prog_9_method_5_code
def yX7_clear : MethodName := ⟨RX7, "clear", "()I"⟩
abbrev cX7_here : ByteArray := prog_9_method_6_code
def yX7_here : MethodName := ⟨RX7, "here", "()I"⟩
abbrev cX7_next : ByteArray := prog_9_method_7_code
def yX7_next : MethodName := ⟨RX7, "next", "()V"⟩
abbrev cX7_due : ByteArray := prog_9_method_8_code
def yX7_due : MethodName := ⟨RX7, "due", "(Z)I"⟩
abbrev cX7_number : ByteArray := prog_9_method_9_code
def yX7_number : MethodName := ⟨RX7, "number", "(II)I"⟩
abbrev cX7_placeTold : ByteArray := prog_9_method_10_code
def yX7_placeTold : MethodName := ⟨RX7, "placeTold", "()I"⟩
abbrev cX7_mayBe : ByteArray := prog_9_method_11_code
def yX7_mayBe : MethodName := ⟨RX7, "mayBe", "(I)Z"⟩
abbrev cX7_isFreeAtFirst : ByteArray := prog_9_method_12_code
def yX7_isFreeAtFirst : MethodName := ⟨RX7, "isFreeAtFirst", "(II)Z"⟩
abbrev cX7_readWagon : ByteArray := prog_9_method_13_code
def yX7_readWagon : MethodName := ⟨RX7, "readWagon", "()V"⟩
abbrev cX7_readRow : ByteArray := prog_9_method_14_code
def yX7_readRow : MethodName := ⟨RX7, "readRow", "(I)V"⟩
abbrev cX7_world : ByteArray := prog_9_method_15_code
def yX7_world : MethodName := ⟨RX7, "world", "()I"⟩
abbrev cX7_take : ByteArray := prog_9_method_16_code
def yX7_take : MethodName := ⟨RX7, "take", "()V"⟩
abbrev cX7_costAt : ByteArray := prog_9_method_17_code
def yX7_costAt : MethodName := ⟨RX7, "costAt", "(I)I"⟩
abbrev cX7_beginThen : ByteArray := prog_9_method_18_code
def yX7_beginThen : MethodName := ⟨RX7, "beginThen", "()V"⟩
abbrev cX7_begin : ByteArray := prog_9_method_19_code
def yX7_begin : MethodName := ⟨RX7, "begin", "()V"⟩
abbrev cX7_toNow : ByteArray := prog_9_method_20_code
def yX7_toNow : MethodName := ⟨RX7, "toNow", "()V"⟩
abbrev cX7_toThen : ByteArray := prog_9_method_21_code
def yX7_toThen : MethodName := ⟨RX7, "toThen", "()V"⟩
abbrev cX7_isWagon : ByteArray := prog_9_method_22_code
def yX7_isWagon : MethodName := ⟨RX7, "isWagon", "(I)Z"⟩
abbrev cX7_place : ByteArray := prog_9_method_23_code
def yX7_place : MethodName := ⟨RX7, "place", "(II)I"⟩
abbrev cX7_wagon : ByteArray := prog_9_method_24_code
def yX7_wagon : MethodName := ⟨RX7, "wagon", "(II)I"⟩
abbrev cX7_sunAt : ByteArray := prog_9_method_25_code
def yX7_sunAt : MethodName := ⟨RX7, "sunAt", "(I)I"⟩
abbrev cX7_sun : ByteArray := prog_9_method_26_code
def yX7_sun : MethodName := ⟨RX7, "sun", "(I)I"⟩
abbrev cX7_caughtThen : ByteArray := prog_9_method_27_code
def yX7_caughtThen : MethodName := ⟨RX7, "caughtThen", "()I"⟩
abbrev cX7_manyOf : ByteArray := prog_9_method_28_code
def yX7_manyOf : MethodName := ⟨RX7, "manyOf", "(I)I"⟩
abbrev cX7_now : ByteArray := prog_9_method_29_code
def yX7_now : MethodName := ⟨RX7, "now", "(I)I"⟩
abbrev cX7_isFree : ByteArray := prog_9_method_30_code
def yX7_isFree : MethodName := ⟨RX7, "isFree", "(II)Z"⟩
abbrev cX7_move : ByteArray := prog_9_method_31_code
def yX7_move : MethodName := ⟨RX7, "move", "(I)V"⟩
abbrev cX7_pass : ByteArray := prog_9_method_32_code
def yX7_pass : MethodName := ⟨RX7, "pass", "()V"⟩
abbrev cX7_know : ByteArray := prog_9_method_33_code
def yX7_know : MethodName := ⟨RX7, "know", "()V"⟩
abbrev cX7_minute : ByteArray := prog_9_method_34_code
def yX7_minute : MethodName := ⟨RX7, "minute", "()I"⟩
abbrev cX7_stand : ByteArray := prog_9_method_35_code
def yX7_stand : MethodName := ⟨RX7, "stand", "(II)I"⟩
abbrev cX7_isThere : ByteArray := prog_9_method_36_code
def yX7_isThere : MethodName := ⟨RX7, "isThere", "(II)Z"⟩
abbrev cX7_change : ByteArray := prog_9_method_37_code
def yX7_change : MethodName := ⟨RX7, "change", "(II)I"⟩
abbrev cX7_undo : ByteArray := prog_9_method_38_code
def yX7_undo : MethodName := ⟨RX7, "undo", "()I"⟩
abbrev cX7_passMany : ByteArray := prog_9_method_39_code
def yX7_passMany : MethodName := ⟨RX7, "passMany", "(I)V"⟩
abbrev cX7_behind : ByteArray := prog_9_method_40_code
def yX7_behind : MethodName := ⟨RX7, "behind", "(III)I"⟩
abbrev cX7_caught : ByteArray := prog_9_method_41_code
def yX7_caught : MethodName := ⟨RX7, "caught", "(I)I"⟩
abbrev cX7_waits : ByteArray := prog_9_method_42_code
def yX7_waits : MethodName := ⟨RX7, "waits", "(I)I"⟩
abbrev cX7_stands : ByteArray := prog_9_method_43_code
def yX7_stands : MethodName := ⟨RX7, "stands", "(I)I"⟩
abbrev cX7_findLacking : ByteArray := prog_9_method_44_code
def yX7_findLacking : MethodName := ⟨RX7, "findLacking", "()V"⟩
abbrev cX7_isWell : ByteArray := prog_9_method_45_code
def yX7_isWell : MethodName := ⟨RX7, "isWell", "(I)Z"⟩
abbrev cX7_findStarts : ByteArray := prog_9_method_46_code
def yX7_findStarts : MethodName := ⟨RX7, "findStarts", "(I)I"⟩
abbrev cX7_starts : ByteArray := prog_9_method_47_code
def yX7_starts : MethodName := ⟨RX7, "starts", "(I)I"⟩
abbrev cX7_bars : ByteArray := prog_9_method_48_code
def yX7_bars : MethodName := ⟨RX7, "bars", "()I"⟩
abbrev cX7_pieces : ByteArray := prog_9_method_49_code
def yX7_pieces : MethodName := ⟨RX7, "pieces", "(II)I"⟩
abbrev cX7_met : ByteArray := prog_9_method_50_code
def yX7_met : MethodName := ⟨RX7, "met", "(II)I"⟩
abbrev cX7_findOdds : ByteArray := prog_9_method_51_code
def yX7_findOdds : MethodName := ⟨RX7, "findOdds", "(IIII)V"⟩
abbrev cX7_isAsked : ByteArray := prog_9_method_52_code
def yX7_isAsked : MethodName := ⟨RX7, "isAsked", "(III)Z"⟩
abbrev cX7_odds : ByteArray := prog_9_method_53_code
def yX7_odds : MethodName := ⟨RX7, "odds", "(IIII)J"⟩
abbrev cX7_keepAhead : ByteArray := prog_9_method_54_code
def yX7_keepAhead : MethodName := ⟨RX7, "keepAhead", "(IIII)I"⟩
abbrev cX7_mark : ByteArray := prog_9_method_55_code
def yX7_mark : MethodName := ⟨RX7, "mark", "(II)I"⟩
abbrev cX7_copy : ByteArray := prog_9_method_56_code
def yX7_copy : MethodName := ⟨RX7, "copy", "(II)V"⟩
abbrev cX7_keep : ByteArray := prog_9_method_57_code
def yX7_keep : MethodName := ⟨RX7, "keep", "(I)I"⟩
abbrev cX7_back : ByteArray := prog_9_method_58_code
def yX7_back : MethodName := ⟨RX7, "back", "(I)I"⟩
abbrev cX7_count : ByteArray := prog_9_method_59_code
def yX7_count : MethodName := ⟨RX7, "count", "(I)I"⟩
abbrev cX7_trace : ByteArray := prog_9_method_60_code
def yX7_trace : MethodName := ⟨RX7, "trace", "()J"⟩
def RJ6 : String := "java/lang/Integer"
abbrev cJ6_bitCount_0f7a4 : ByteArray := prog_10_method_49_code
def yJ6_bitCount_0f7a4 : MethodName := ⟨RJ6, "bitCount", "(I)I"⟩
def RJ9 : String := "java/lang/Math"
abbrev cJ9_max_7cf53 : ByteArray := prog_11_method_65_code
def yJ9_max_7cf53 : MethodName := ⟨RJ9, "max", "(II)I"⟩
abbrev cJ9_max_f86c9 : ByteArray := prog_11_method_66_code
def yJ9_max_f86c9 : MethodName := ⟨RJ9, "max", "(JJ)J"⟩
abbrev cJ9_min_7cf53 : ByteArray := prog_11_method_69_code
def yJ9_min_7cf53 : MethodName := ⟨RJ9, "min", "(II)I"⟩
def RJ10 : String := "java/lang/System"
def RL : String := "WheelTownLaw"
abbrev cL_law : ByteArray := code
def yL_law : MethodName := ⟨RL, "law", "([I)Z"⟩
abbrev vwCl : List vw_C := [(RX0, TX0, 3), (RX1, TX1, 14), (RX2, TX2, 7), (RX3, TX3, 5), (RX4, TX4, 7), (RX5, TX5, 4), (RX6, TX6, 10), (RX7, TX7, 39)]
def wsA : List Cond := lw_tbl.filter goodWord
theorem wsA_in {w : Cond} (h : w ∈ lw_tbl) (hg : goodWord w = true) : w ∈ wsA := List.mem_filter.mpr ⟨h, hg⟩
theorem wsA_tbl {w : Cond} (h : w ∈ wsA) : w ∈ lw_tbl := (List.mem_filter.mp h).1
theorem inX0 : ∀ w ∈ wsX00, w ∈ lw_tbl := by decide +kernel
theorem iaX0 : ∀ w ∈ wsX00, w ∈ wsA := fun w h => List.mem_filter.mpr ⟨inX0 w h, (List.all_eq_true.mp (by decide +kernel : wsX00.all goodWord = true)) w h⟩
theorem inX1 : ∀ w ∈ wsX10, w ∈ lw_tbl := by decide +kernel
theorem iaX1 : ∀ w ∈ wsX10, w ∈ wsA := fun w h => List.mem_filter.mpr ⟨inX1 w h, (List.all_eq_true.mp (by decide +kernel : wsX10.all goodWord = true)) w h⟩
theorem inX2 : ∀ w ∈ wsX20, w ∈ lw_tbl := by decide +kernel
theorem iaX2 : ∀ w ∈ wsX20, w ∈ wsA := fun w h => List.mem_filter.mpr ⟨inX2 w h, (List.all_eq_true.mp (by decide +kernel : wsX20.all goodWord = true)) w h⟩
theorem inX3 : ∀ w ∈ wsX30, w ∈ lw_tbl := by decide +kernel
theorem iaX3 : ∀ w ∈ wsX30, w ∈ wsA := fun w h => List.mem_filter.mpr ⟨inX3 w h, (List.all_eq_true.mp (by decide +kernel : wsX30.all goodWord = true)) w h⟩
theorem inX4 : ∀ w ∈ wsX40, w ∈ lw_tbl := by decide +kernel
theorem iaX4 : ∀ w ∈ wsX40, w ∈ wsA := fun w h => List.mem_filter.mpr ⟨inX4 w h, (List.all_eq_true.mp (by decide +kernel : wsX40.all goodWord = true)) w h⟩
theorem inX5 : ∀ w ∈ wsX50, w ∈ lw_tbl := by decide +kernel
theorem iaX5 : ∀ w ∈ wsX50, w ∈ wsA := fun w h => List.mem_filter.mpr ⟨inX5 w h, (List.all_eq_true.mp (by decide +kernel : wsX50.all goodWord = true)) w h⟩
theorem inX6 : ∀ w ∈ wsX60, w ∈ lw_tbl := by decide +kernel
theorem iaX6 : ∀ w ∈ wsX60, w ∈ wsA := fun w h => List.mem_filter.mpr ⟨inX6 w h, (List.all_eq_true.mp (by decide +kernel : wsX60.all goodWord = true)) w h⟩
theorem inX7 : ∀ w ∈ wsX70, w ∈ lw_tbl := by decide +kernel
theorem iaX7 : ∀ w ∈ wsX70, w ∈ wsA := fun w h => List.mem_filter.mpr ⟨inX7 w h, (List.all_eq_true.mp (by decide +kernel : wsX70.all goodWord = true)) w h⟩
