section
-- ===== PART A: goes FIRST, ahead of the names: the tables' words, and 'selects' of the private methods out of them =====
/-- a private method of a class that the tables say can be made, by its rows of tables_1 -/
def lw_okq (q : MethodName × Nat) : Prop := (q.1.cls ≠ "java/lang/invoke/MethodHandle" ∧ q.1.cls ≠ "java/lang/invoke/VarHandle") ∧ Cond.instantiable q.1.cls q.2 ∈ tables_1 ∧ Cond.privateMethod q.1 ∈ tables_1 ∧ Cond.instanceMethod q.1 ∈ tables_1
theorem lw_p0 : lw_okq (⟨"WheelTown$Reader", "readToken", "()V"⟩, 7) := ⟨⟨by decide +kernel, by decide +kernel⟩, List.mem_of_getElem? (i := 21) (by decide +kernel), List.mem_of_getElem? (i := 294) (by decide +kernel), List.mem_of_getElem? (i := 295) (by decide +kernel)⟩
theorem lw_p1 : lw_okq (⟨"WheelTown$Reader", "readLetters", "()V"⟩, 7) := ⟨⟨by decide +kernel, by decide +kernel⟩, List.mem_of_getElem? (i := 21) (by decide +kernel), List.mem_of_getElem? (i := 301) (by decide +kernel), List.mem_of_getElem? (i := 302) (by decide +kernel)⟩
theorem lw_p2 : lw_okq (⟨"WheelTown$Reader", "readDigits", "()V"⟩, 7) := ⟨⟨by decide +kernel, by decide +kernel⟩, List.mem_of_getElem? (i := 21) (by decide +kernel), List.mem_of_getElem? (i := 308) (by decide +kernel), List.mem_of_getElem? (i := 309) (by decide +kernel)⟩
theorem lw_p3 : lw_okq (⟨"WheelTown$Reader", "tellItem", "(LWheelTown$Ground;I)V"⟩, 7) := ⟨⟨by decide +kernel, by decide +kernel⟩, List.mem_of_getElem? (i := 21) (by decide +kernel), List.mem_of_getElem? (i := 315) (by decide +kernel), List.mem_of_getElem? (i := 316) (by decide +kernel)⟩
theorem lw_p4 : lw_okq (⟨"WheelTown$Reader", "tellRing", "(LWheelTown$Ground;I)V"⟩, 7) := ⟨⟨by decide +kernel, by decide +kernel⟩, List.mem_of_getElem? (i := 21) (by decide +kernel), List.mem_of_getElem? (i := 319) (by decide +kernel), List.mem_of_getElem? (i := 320) (by decide +kernel)⟩
theorem lw_p5 : lw_okq (⟨"WheelTown$Reader", "readNumber", "(II)I"⟩, 7) := ⟨⟨by decide +kernel, by decide +kernel⟩, List.mem_of_getElem? (i := 21) (by decide +kernel), List.mem_of_getElem? (i := 323) (by decide +kernel), List.mem_of_getElem? (i := 324) (by decide +kernel)⟩
theorem lw_p6 : lw_okq (⟨"WheelTown$Reader", "tellCost", "(LWheelTown$Ground;)V"⟩, 7) := ⟨⟨by decide +kernel, by decide +kernel⟩, List.mem_of_getElem? (i := 21) (by decide +kernel), List.mem_of_getElem? (i := 327) (by decide +kernel), List.mem_of_getElem? (i := 328) (by decide +kernel)⟩
theorem lw_p7 : lw_okq (⟨"WheelTown$Reader", "tellSun", "(LWheelTown$Ground;)V"⟩, 7) := ⟨⟨by decide +kernel, by decide +kernel⟩, List.mem_of_getElem? (i := 21) (by decide +kernel), List.mem_of_getElem? (i := 335) (by decide +kernel), List.mem_of_getElem? (i := 336) (by decide +kernel)⟩
theorem lw_p8 : lw_okq (⟨"WheelTown$Reader", "tellBridge", "(LWheelTown$Ground;)V"⟩, 7) := ⟨⟨by decide +kernel, by decide +kernel⟩, List.mem_of_getElem? (i := 21) (by decide +kernel), List.mem_of_getElem? (i := 339) (by decide +kernel), List.mem_of_getElem? (i := 340) (by decide +kernel)⟩
theorem lw_p9 : lw_okq (⟨"WheelTown$Reader", "tellWagon", "(LWheelTown$Ground;)V"⟩, 7) := ⟨⟨by decide +kernel, by decide +kernel⟩, List.mem_of_getElem? (i := 21) (by decide +kernel), List.mem_of_getElem? (i := 343) (by decide +kernel), List.mem_of_getElem? (i := 344) (by decide +kernel)⟩
theorem lw_p10 : lw_okq (⟨"WheelTown$Reader", "tellPair", "(LWheelTown$Ground;)V"⟩, 7) := ⟨⟨by decide +kernel, by decide +kernel⟩, List.mem_of_getElem? (i := 21) (by decide +kernel), List.mem_of_getElem? (i := 355) (by decide +kernel), List.mem_of_getElem? (i := 356) (by decide +kernel)⟩
theorem lw_p11 : lw_okq (⟨"WheelTown$Reader", "readStop", "()V"⟩, 7) := ⟨⟨by decide +kernel, by decide +kernel⟩, List.mem_of_getElem? (i := 21) (by decide +kernel), List.mem_of_getElem? (i := 363) (by decide +kernel), List.mem_of_getElem? (i := 364) (by decide +kernel)⟩
theorem lw_p12 : lw_okq (⟨"WheelTown$Ground", "joinPaces", "()V"⟩, 14) := ⟨⟨by decide +kernel, by decide +kernel⟩, List.mem_of_getElem? (i := 164) (by decide +kernel), List.mem_of_getElem? (i := 371) (by decide +kernel), List.mem_of_getElem? (i := 372) (by decide +kernel)⟩
theorem lw_p13 : lw_okq (⟨"WheelTown$Story", "loseOldest", "()V"⟩, 4) := ⟨⟨by decide +kernel, by decide +kernel⟩, List.mem_of_getElem? (i := 140) (by decide +kernel), List.mem_of_getElem? (i := 441) (by decide +kernel), List.mem_of_getElem? (i := 442) (by decide +kernel)⟩
theorem lw_p14 : lw_okq (⟨"WheelTown$Ground", "foremost", "(LWheelTown$Moment;I)I"⟩, 14) := ⟨⟨by decide +kernel, by decide +kernel⟩, List.mem_of_getElem? (i := 164) (by decide +kernel), List.mem_of_getElem? (i := 449) (by decide +kernel), List.mem_of_getElem? (i := 450) (by decide +kernel)⟩
theorem lw_p15 : lw_okq (⟨"WheelTown$Ground", "goOn", "(LWheelTown$Moment;I)Z"⟩, 14) := ⟨⟨by decide +kernel, by decide +kernel⟩, List.mem_of_getElem? (i := 164) (by decide +kernel), List.mem_of_getElem? (i := 453) (by decide +kernel), List.mem_of_getElem? (i := 454) (by decide +kernel)⟩
def lw_privs_1 : List (MethodName × Nat) := [(⟨"WheelTown$Reader", "readToken", "()V"⟩, 7), (⟨"WheelTown$Reader", "readLetters", "()V"⟩, 7), (⟨"WheelTown$Reader", "readDigits", "()V"⟩, 7), (⟨"WheelTown$Reader", "tellItem", "(LWheelTown$Ground;I)V"⟩, 7), (⟨"WheelTown$Reader", "tellRing", "(LWheelTown$Ground;I)V"⟩, 7), (⟨"WheelTown$Reader", "readNumber", "(II)I"⟩, 7), (⟨"WheelTown$Reader", "tellCost", "(LWheelTown$Ground;)V"⟩, 7), (⟨"WheelTown$Reader", "tellSun", "(LWheelTown$Ground;)V"⟩, 7), (⟨"WheelTown$Reader", "tellBridge", "(LWheelTown$Ground;)V"⟩, 7), (⟨"WheelTown$Reader", "tellWagon", "(LWheelTown$Ground;)V"⟩, 7), (⟨"WheelTown$Reader", "tellPair", "(LWheelTown$Ground;)V"⟩, 7), (⟨"WheelTown$Reader", "readStop", "()V"⟩, 7), (⟨"WheelTown$Ground", "joinPaces", "()V"⟩, 14), (⟨"WheelTown$Story", "loseOldest", "()V"⟩, 4), (⟨"WheelTown$Ground", "foremost", "(LWheelTown$Moment;I)I"⟩, 14), (⟨"WheelTown$Ground", "goOn", "(LWheelTown$Moment;I)Z"⟩, 14)]
theorem lw_r1 : ∀ q ∈ lw_privs_1, lw_okq q := List.forall_mem_cons.mpr ⟨lw_p0, List.forall_mem_cons.mpr ⟨lw_p1, List.forall_mem_cons.mpr ⟨lw_p2, List.forall_mem_cons.mpr ⟨lw_p3, List.forall_mem_cons.mpr ⟨lw_p4, List.forall_mem_cons.mpr ⟨lw_p5, List.forall_mem_cons.mpr ⟨lw_p6, List.forall_mem_cons.mpr ⟨lw_p7, List.forall_mem_cons.mpr ⟨lw_p8, List.forall_mem_cons.mpr ⟨lw_p9, List.forall_mem_cons.mpr ⟨lw_p10, List.forall_mem_cons.mpr ⟨lw_p11, List.forall_mem_cons.mpr ⟨lw_p12, List.forall_mem_cons.mpr ⟨lw_p13, List.forall_mem_cons.mpr ⟨lw_p14, List.forall_mem_cons.mpr ⟨lw_p15, fun _ h => absurd h List.not_mem_nil⟩⟩⟩⟩⟩⟩⟩⟩⟩⟩⟩⟩⟩⟩⟩⟩
theorem lw_p16 : lw_okq (⟨"WheelTown$Ground", "isBarred", "(LWheelTown$Moment;II)Z"⟩, 14) := ⟨⟨by decide +kernel, by decide +kernel⟩, List.mem_of_getElem? (i := 164) (by decide +kernel), List.mem_of_getElem? (i := 458) (by decide +kernel), List.mem_of_getElem? (i := 459) (by decide +kernel)⟩
theorem lw_p17 : lw_okq (⟨"WheelTown$Ground", "catchLate", "(LWheelTown$Moment;)V"⟩, 14) := ⟨⟨by decide +kernel, by decide +kernel⟩, List.mem_of_getElem? (i := 164) (by decide +kernel), List.mem_of_getElem? (i := 462) (by decide +kernel), List.mem_of_getElem? (i := 463) (by decide +kernel)⟩
theorem lw_p18 : lw_okq (⟨"WheelTown", "isTrialSafe", "()Z"⟩, 10) := ⟨⟨by decide +kernel, by decide +kernel⟩, List.mem_of_getElem? (i := 13) (by decide +kernel), List.mem_of_getElem? (i := 519) (by decide +kernel), List.mem_of_getElem? (i := 520) (by decide +kernel)⟩
theorem lw_p19 : lw_okq (⟨"WheelTown", "findStarts", "()Z"⟩, 10) := ⟨⟨by decide +kernel, by decide +kernel⟩, List.mem_of_getElem? (i := 13) (by decide +kernel), List.mem_of_getElem? (i := 537) (by decide +kernel), List.mem_of_getElem? (i := 538) (by decide +kernel)⟩
theorem lw_p20 : lw_okq (⟨"WheelTown", "isChance", "(III)Z"⟩, 10) := ⟨⟨by decide +kernel, by decide +kernel⟩, List.mem_of_getElem? (i := 13) (by decide +kernel), List.mem_of_getElem? (i := 583) (by decide +kernel), List.mem_of_getElem? (i := 584) (by decide +kernel)⟩
theorem lw_p21 : lw_okq (⟨"WheelTown$Chance", "chanceMinute", "(III)V"⟩, 3) := ⟨⟨by decide +kernel, by decide +kernel⟩, List.mem_of_getElem? (i := 76) (by decide +kernel), List.mem_of_getElem? (i := 600) (by decide +kernel), List.mem_of_getElem? (i := 601) (by decide +kernel)⟩
theorem lw_p22 : lw_okq (⟨"WheelTown", "wagonMark", "(I)I"⟩, 10) := ⟨⟨by decide +kernel, by decide +kernel⟩, List.mem_of_getElem? (i := 13) (by decide +kernel), List.mem_of_getElem? (i := 623) (by decide +kernel), List.mem_of_getElem? (i := 624) (by decide +kernel)⟩
theorem lw_p23 : lw_okq (⟨"WheelTown", "forgeMark", "(I)I"⟩, 10) := ⟨⟨by decide +kernel, by decide +kernel⟩, List.mem_of_getElem? (i := 13) (by decide +kernel), List.mem_of_getElem? (i := 627) (by decide +kernel), List.mem_of_getElem? (i := 628) (by decide +kernel)⟩
theorem lw_p24 : lw_okq (⟨"WheelTown", "chapelMark", "(I)I"⟩, 10) := ⟨⟨by decide +kernel, by decide +kernel⟩, List.mem_of_getElem? (i := 13) (by decide +kernel), List.mem_of_getElem? (i := 631) (by decide +kernel), List.mem_of_getElem? (i := 632) (by decide +kernel)⟩
theorem lw_p25 : lw_okq (⟨"WheelTown", "tenderMark", "(I)I"⟩, 10) := ⟨⟨by decide +kernel, by decide +kernel⟩, List.mem_of_getElem? (i := 13) (by decide +kernel), List.mem_of_getElem? (i := 636) (by decide +kernel), List.mem_of_getElem? (i := 637) (by decide +kernel)⟩
theorem lw_p26 : lw_okq (⟨"WheelTown", "houseMark", "(I)I"⟩, 10) := ⟨⟨by decide +kernel, by decide +kernel⟩, List.mem_of_getElem? (i := 13) (by decide +kernel), List.mem_of_getElem? (i := 641) (by decide +kernel), List.mem_of_getElem? (i := 642) (by decide +kernel)⟩
theorem lw_p27 : lw_okq (⟨"WheelTown", "railcartMark", "(I)I"⟩, 10) := ⟨⟨by decide +kernel, by decide +kernel⟩, List.mem_of_getElem? (i := 13) (by decide +kernel), List.mem_of_getElem? (i := 646) (by decide +kernel), List.mem_of_getElem? (i := 647) (by decide +kernel)⟩
theorem lw_p28 : lw_okq (⟨"WheelTownModel", "next", "()V"⟩, 39) := ⟨⟨by decide +kernel, by decide +kernel⟩, List.mem_of_getElem? (i := 671) (by decide +kernel), List.mem_of_getElem? (i := 812) (by decide +kernel), List.mem_of_getElem? (i := 813) (by decide +kernel)⟩
theorem lw_p29 : lw_okq (⟨"WheelTownModel", "here", "()I"⟩, 39) := ⟨⟨by decide +kernel, by decide +kernel⟩, List.mem_of_getElem? (i := 671) (by decide +kernel), List.mem_of_getElem? (i := 816) (by decide +kernel), List.mem_of_getElem? (i := 817) (by decide +kernel)⟩
theorem lw_p30 : lw_okq (⟨"WheelTownModel", "mayBe", "(I)Z"⟩, 39) := ⟨⟨by decide +kernel, by decide +kernel⟩, List.mem_of_getElem? (i := 671) (by decide +kernel), List.mem_of_getElem? (i := 820) (by decide +kernel), List.mem_of_getElem? (i := 821) (by decide +kernel)⟩
theorem lw_p31 : lw_okq (⟨"WheelTownModel", "due", "(Z)I"⟩, 39) := ⟨⟨by decide +kernel, by decide +kernel⟩, List.mem_of_getElem? (i := 671) (by decide +kernel), List.mem_of_getElem? (i := 824) (by decide +kernel), List.mem_of_getElem? (i := 825) (by decide +kernel)⟩
def lw_privs_2 : List (MethodName × Nat) := [(⟨"WheelTown$Ground", "isBarred", "(LWheelTown$Moment;II)Z"⟩, 14), (⟨"WheelTown$Ground", "catchLate", "(LWheelTown$Moment;)V"⟩, 14), (⟨"WheelTown", "isTrialSafe", "()Z"⟩, 10), (⟨"WheelTown", "findStarts", "()Z"⟩, 10), (⟨"WheelTown", "isChance", "(III)Z"⟩, 10), (⟨"WheelTown$Chance", "chanceMinute", "(III)V"⟩, 3), (⟨"WheelTown", "wagonMark", "(I)I"⟩, 10), (⟨"WheelTown", "forgeMark", "(I)I"⟩, 10), (⟨"WheelTown", "chapelMark", "(I)I"⟩, 10), (⟨"WheelTown", "tenderMark", "(I)I"⟩, 10), (⟨"WheelTown", "houseMark", "(I)I"⟩, 10), (⟨"WheelTown", "railcartMark", "(I)I"⟩, 10), (⟨"WheelTownModel", "next", "()V"⟩, 39), (⟨"WheelTownModel", "here", "()I"⟩, 39), (⟨"WheelTownModel", "mayBe", "(I)Z"⟩, 39), (⟨"WheelTownModel", "due", "(Z)I"⟩, 39)]
theorem lw_r2 : ∀ q ∈ lw_privs_2, lw_okq q := List.forall_mem_cons.mpr ⟨lw_p16, List.forall_mem_cons.mpr ⟨lw_p17, List.forall_mem_cons.mpr ⟨lw_p18, List.forall_mem_cons.mpr ⟨lw_p19, List.forall_mem_cons.mpr ⟨lw_p20, List.forall_mem_cons.mpr ⟨lw_p21, List.forall_mem_cons.mpr ⟨lw_p22, List.forall_mem_cons.mpr ⟨lw_p23, List.forall_mem_cons.mpr ⟨lw_p24, List.forall_mem_cons.mpr ⟨lw_p25, List.forall_mem_cons.mpr ⟨lw_p26, List.forall_mem_cons.mpr ⟨lw_p27, List.forall_mem_cons.mpr ⟨lw_p28, List.forall_mem_cons.mpr ⟨lw_p29, List.forall_mem_cons.mpr ⟨lw_p30, List.forall_mem_cons.mpr ⟨lw_p31, fun _ h => absurd h List.not_mem_nil⟩⟩⟩⟩⟩⟩⟩⟩⟩⟩⟩⟩⟩⟩⟩⟩
theorem lw_p32 : lw_okq (⟨"WheelTownModel", "readRow", "(I)V"⟩, 39) := ⟨⟨by decide +kernel, by decide +kernel⟩, List.mem_of_getElem? (i := 671) (by decide +kernel), List.mem_of_getElem? (i := 828) (by decide +kernel), List.mem_of_getElem? (i := 829) (by decide +kernel)⟩
theorem lw_p33 : lw_okq (⟨"WheelTownModel", "number", "(II)I"⟩, 39) := ⟨⟨by decide +kernel, by decide +kernel⟩, List.mem_of_getElem? (i := 671) (by decide +kernel), List.mem_of_getElem? (i := 832) (by decide +kernel), List.mem_of_getElem? (i := 833) (by decide +kernel)⟩
theorem lw_p34 : lw_okq (⟨"WheelTownModel", "placeTold", "()I"⟩, 39) := ⟨⟨by decide +kernel, by decide +kernel⟩, List.mem_of_getElem? (i := 671) (by decide +kernel), List.mem_of_getElem? (i := 836) (by decide +kernel), List.mem_of_getElem? (i := 837) (by decide +kernel)⟩
theorem lw_p35 : lw_okq (⟨"WheelTownModel", "readWagon", "()V"⟩, 39) := ⟨⟨by decide +kernel, by decide +kernel⟩, List.mem_of_getElem? (i := 671) (by decide +kernel), List.mem_of_getElem? (i := 840) (by decide +kernel), List.mem_of_getElem? (i := 841) (by decide +kernel)⟩
theorem lw_p36 : lw_okq (⟨"WheelTownModel", "isFreeAtFirst", "(II)Z"⟩, 39) := ⟨⟨by decide +kernel, by decide +kernel⟩, List.mem_of_getElem? (i := 671) (by decide +kernel), List.mem_of_getElem? (i := 844) (by decide +kernel), List.mem_of_getElem? (i := 845) (by decide +kernel)⟩
theorem lw_p37 : lw_okq (⟨"WheelTownModel", "take", "()V"⟩, 39) := ⟨⟨by decide +kernel, by decide +kernel⟩, List.mem_of_getElem? (i := 671) (by decide +kernel), List.mem_of_getElem? (i := 848) (by decide +kernel), List.mem_of_getElem? (i := 849) (by decide +kernel)⟩
theorem lw_p38 : lw_okq (⟨"WheelTownModel", "begin", "()V"⟩, 39) := ⟨⟨by decide +kernel, by decide +kernel⟩, List.mem_of_getElem? (i := 671) (by decide +kernel), List.mem_of_getElem? (i := 852) (by decide +kernel), List.mem_of_getElem? (i := 853) (by decide +kernel)⟩
theorem lw_p39 : lw_okq (⟨"WheelTownModel", "beginThen", "()V"⟩, 39) := ⟨⟨by decide +kernel, by decide +kernel⟩, List.mem_of_getElem? (i := 671) (by decide +kernel), List.mem_of_getElem? (i := 856) (by decide +kernel), List.mem_of_getElem? (i := 857) (by decide +kernel)⟩
theorem lw_p40 : lw_okq (⟨"WheelTownModel", "costAt", "(I)I"⟩, 39) := ⟨⟨by decide +kernel, by decide +kernel⟩, List.mem_of_getElem? (i := 671) (by decide +kernel), List.mem_of_getElem? (i := 860) (by decide +kernel), List.mem_of_getElem? (i := 861) (by decide +kernel)⟩
theorem lw_p41 : lw_okq (⟨"WheelTownModel", "toNow", "()V"⟩, 39) := ⟨⟨by decide +kernel, by decide +kernel⟩, List.mem_of_getElem? (i := 671) (by decide +kernel), List.mem_of_getElem? (i := 864) (by decide +kernel), List.mem_of_getElem? (i := 865) (by decide +kernel)⟩
theorem lw_p42 : lw_okq (⟨"WheelTownModel", "isWagon", "(I)Z"⟩, 39) := ⟨⟨by decide +kernel, by decide +kernel⟩, List.mem_of_getElem? (i := 671) (by decide +kernel), List.mem_of_getElem? (i := 876) (by decide +kernel), List.mem_of_getElem? (i := 877) (by decide +kernel)⟩
theorem lw_p43 : lw_okq (⟨"WheelTownModel", "sunAt", "(I)I"⟩, 39) := ⟨⟨by decide +kernel, by decide +kernel⟩, List.mem_of_getElem? (i := 671) (by decide +kernel), List.mem_of_getElem? (i := 884) (by decide +kernel), List.mem_of_getElem? (i := 885) (by decide +kernel)⟩
theorem lw_p44 : lw_okq (⟨"WheelTownModel", "toThen", "()V"⟩, 39) := ⟨⟨by decide +kernel, by decide +kernel⟩, List.mem_of_getElem? (i := 671) (by decide +kernel), List.mem_of_getElem? (i := 893) (by decide +kernel), List.mem_of_getElem? (i := 894) (by decide +kernel)⟩
theorem lw_p45 : lw_okq (⟨"WheelTownModel", "caughtThen", "()I"⟩, 39) := ⟨⟨by decide +kernel, by decide +kernel⟩, List.mem_of_getElem? (i := 671) (by decide +kernel), List.mem_of_getElem? (i := 897) (by decide +kernel), List.mem_of_getElem? (i := 898) (by decide +kernel)⟩
theorem lw_p46 : lw_okq (⟨"WheelTownModel", "know", "()V"⟩, 39) := ⟨⟨by decide +kernel, by decide +kernel⟩, List.mem_of_getElem? (i := 671) (by decide +kernel), List.mem_of_getElem? (i := 905) (by decide +kernel), List.mem_of_getElem? (i := 906) (by decide +kernel)⟩
theorem lw_p47 : lw_okq (⟨"WheelTownModel", "pass", "()V"⟩, 39) := ⟨⟨by decide +kernel, by decide +kernel⟩, List.mem_of_getElem? (i := 671) (by decide +kernel), List.mem_of_getElem? (i := 909) (by decide +kernel), List.mem_of_getElem? (i := 910) (by decide +kernel)⟩
def lw_privs_3 : List (MethodName × Nat) := [(⟨"WheelTownModel", "readRow", "(I)V"⟩, 39), (⟨"WheelTownModel", "number", "(II)I"⟩, 39), (⟨"WheelTownModel", "placeTold", "()I"⟩, 39), (⟨"WheelTownModel", "readWagon", "()V"⟩, 39), (⟨"WheelTownModel", "isFreeAtFirst", "(II)Z"⟩, 39), (⟨"WheelTownModel", "take", "()V"⟩, 39), (⟨"WheelTownModel", "begin", "()V"⟩, 39), (⟨"WheelTownModel", "beginThen", "()V"⟩, 39), (⟨"WheelTownModel", "costAt", "(I)I"⟩, 39), (⟨"WheelTownModel", "toNow", "()V"⟩, 39), (⟨"WheelTownModel", "isWagon", "(I)Z"⟩, 39), (⟨"WheelTownModel", "sunAt", "(I)I"⟩, 39), (⟨"WheelTownModel", "toThen", "()V"⟩, 39), (⟨"WheelTownModel", "caughtThen", "()I"⟩, 39), (⟨"WheelTownModel", "know", "()V"⟩, 39), (⟨"WheelTownModel", "pass", "()V"⟩, 39)]
theorem lw_r3 : ∀ q ∈ lw_privs_3, lw_okq q := List.forall_mem_cons.mpr ⟨lw_p32, List.forall_mem_cons.mpr ⟨lw_p33, List.forall_mem_cons.mpr ⟨lw_p34, List.forall_mem_cons.mpr ⟨lw_p35, List.forall_mem_cons.mpr ⟨lw_p36, List.forall_mem_cons.mpr ⟨lw_p37, List.forall_mem_cons.mpr ⟨lw_p38, List.forall_mem_cons.mpr ⟨lw_p39, List.forall_mem_cons.mpr ⟨lw_p40, List.forall_mem_cons.mpr ⟨lw_p41, List.forall_mem_cons.mpr ⟨lw_p42, List.forall_mem_cons.mpr ⟨lw_p43, List.forall_mem_cons.mpr ⟨lw_p44, List.forall_mem_cons.mpr ⟨lw_p45, List.forall_mem_cons.mpr ⟨lw_p46, List.forall_mem_cons.mpr ⟨lw_p47, fun _ h => absurd h List.not_mem_nil⟩⟩⟩⟩⟩⟩⟩⟩⟩⟩⟩⟩⟩⟩⟩⟩
theorem lw_p48 : lw_okq (⟨"WheelTownModel", "move", "(I)V"⟩, 39) := ⟨⟨by decide +kernel, by decide +kernel⟩, List.mem_of_getElem? (i := 671) (by decide +kernel), List.mem_of_getElem? (i := 913) (by decide +kernel), List.mem_of_getElem? (i := 914) (by decide +kernel)⟩
theorem lw_p49 : lw_okq (⟨"WheelTownModel", "isFree", "(II)Z"⟩, 39) := ⟨⟨by decide +kernel, by decide +kernel⟩, List.mem_of_getElem? (i := 671) (by decide +kernel), List.mem_of_getElem? (i := 917) (by decide +kernel), List.mem_of_getElem? (i := 918) (by decide +kernel)⟩
theorem lw_p50 : lw_okq (⟨"WheelTownModel", "isThere", "(II)Z"⟩, 39) := ⟨⟨by decide +kernel, by decide +kernel⟩, List.mem_of_getElem? (i := 671) (by decide +kernel), List.mem_of_getElem? (i := 932) (by decide +kernel), List.mem_of_getElem? (i := 933) (by decide +kernel)⟩
theorem lw_p51 : lw_okq (⟨"WheelTownModel", "passMany", "(I)V"⟩, 39) := ⟨⟨by decide +kernel, by decide +kernel⟩, List.mem_of_getElem? (i := 671) (by decide +kernel), List.mem_of_getElem? (i := 944) (by decide +kernel), List.mem_of_getElem? (i := 945) (by decide +kernel)⟩
theorem lw_p52 : lw_okq (⟨"WheelTownModel", "findStarts", "(I)I"⟩, 39) := ⟨⟨by decide +kernel, by decide +kernel⟩, List.mem_of_getElem? (i := 671) (by decide +kernel), List.mem_of_getElem? (i := 964) (by decide +kernel), List.mem_of_getElem? (i := 965) (by decide +kernel)⟩
theorem lw_p53 : lw_okq (⟨"WheelTownModel", "findLacking", "()V"⟩, 39) := ⟨⟨by decide +kernel, by decide +kernel⟩, List.mem_of_getElem? (i := 671) (by decide +kernel), List.mem_of_getElem? (i := 968) (by decide +kernel), List.mem_of_getElem? (i := 969) (by decide +kernel)⟩
theorem lw_p54 : lw_okq (⟨"WheelTownModel", "isWell", "(I)Z"⟩, 39) := ⟨⟨by decide +kernel, by decide +kernel⟩, List.mem_of_getElem? (i := 671) (by decide +kernel), List.mem_of_getElem? (i := 972) (by decide +kernel), List.mem_of_getElem? (i := 973) (by decide +kernel)⟩
theorem lw_p55 : lw_okq (⟨"WheelTownModel", "isAsked", "(III)Z"⟩, 39) := ⟨⟨by decide +kernel, by decide +kernel⟩, List.mem_of_getElem? (i := 671) (by decide +kernel), List.mem_of_getElem? (i := 992) (by decide +kernel), List.mem_of_getElem? (i := 993) (by decide +kernel)⟩
theorem lw_p56 : lw_okq (⟨"WheelTownModel", "findOdds", "(IIII)V"⟩, 39) := ⟨⟨by decide +kernel, by decide +kernel⟩, List.mem_of_getElem? (i := 671) (by decide +kernel), List.mem_of_getElem? (i := 998) (by decide +kernel), List.mem_of_getElem? (i := 999) (by decide +kernel)⟩
theorem lw_p57 : lw_okq (⟨"WheelTownModel", "copy", "(II)V"⟩, 39) := ⟨⟨by decide +kernel, by decide +kernel⟩, List.mem_of_getElem? (i := 671) (by decide +kernel), List.mem_of_getElem? (i := 1020) (by decide +kernel), List.mem_of_getElem? (i := 1021) (by decide +kernel)⟩
def lw_privs_4 : List (MethodName × Nat) := [(⟨"WheelTownModel", "move", "(I)V"⟩, 39), (⟨"WheelTownModel", "isFree", "(II)Z"⟩, 39), (⟨"WheelTownModel", "isThere", "(II)Z"⟩, 39), (⟨"WheelTownModel", "passMany", "(I)V"⟩, 39), (⟨"WheelTownModel", "findStarts", "(I)I"⟩, 39), (⟨"WheelTownModel", "findLacking", "()V"⟩, 39), (⟨"WheelTownModel", "isWell", "(I)Z"⟩, 39), (⟨"WheelTownModel", "isAsked", "(III)Z"⟩, 39), (⟨"WheelTownModel", "findOdds", "(IIII)V"⟩, 39), (⟨"WheelTownModel", "copy", "(II)V"⟩, 39)]
theorem lw_r4 : ∀ q ∈ lw_privs_4, lw_okq q := List.forall_mem_cons.mpr ⟨lw_p48, List.forall_mem_cons.mpr ⟨lw_p49, List.forall_mem_cons.mpr ⟨lw_p50, List.forall_mem_cons.mpr ⟨lw_p51, List.forall_mem_cons.mpr ⟨lw_p52, List.forall_mem_cons.mpr ⟨lw_p53, List.forall_mem_cons.mpr ⟨lw_p54, List.forall_mem_cons.mpr ⟨lw_p55, List.forall_mem_cons.mpr ⟨lw_p56, List.forall_mem_cons.mpr ⟨lw_p57, fun _ h => absurd h List.not_mem_nil⟩⟩⟩⟩⟩⟩⟩⟩⟩⟩
def lw_privs : List (MethodName × Nat) := lw_privs_1 ++ (lw_privs_2 ++ (lw_privs_3 ++ (lw_privs_4)))
def lw_tbl : List Cond := k2_sels lw_privs ++ tables_1
theorem lw_privs_ok : ∀ q ∈ lw_privs, lw_okq q := by
  show ∀ q ∈ lw_privs_1 ++ (lw_privs_2 ++ (lw_privs_3 ++ (lw_privs_4))), lw_okq q
  exact List.forall_mem_append.mpr ⟨lw_r1, List.forall_mem_append.mpr ⟨lw_r2, List.forall_mem_append.mpr ⟨lw_r3, lw_r4⟩⟩⟩
def RX0 : String := "WheelTown$Chance"
def TX0 : u_T := fun k => match k with
  | 0 => ("WheelTown$Chance", "minute", "I", false)
  | 1 => ("WheelTown$Chance", "wayBy", "[I", true)
  | _ => ("WheelTown$Chance", "runs", "[J", true)
def tyX0 : Nat → FieldType := fun k => match k with
  | 0 => .int
  | 1 => .array .int
  | _ => .array .long
abbrev wsX00 : List Cond := u_ws RX0 TX0 3
theorem nmX0 : ∀ a, a < 3 → ∀ b, b < 3 → a ≠ b → (TX0 a).2.1 ≠ (TX0 b).2.1 := by decide +kernel
theorem tyX0_ok : ∀ k, k < 3 → parseFieldDescriptor (TX0 k).2.2.1 = some (tyX0 k) := by decide +kernel
abbrev cX0_init : ByteArray := prog_2_method_1_code
def yX0_init : MethodName := ⟨RX0, "<init>", "()V"⟩
abbrev cX0_foresee : ByteArray := prog_2_method_2_code
def yX0_foresee : MethodName := ⟨RX0, "foresee", "(LWheelTown$Ground;LWheelTown$Moment;I)V"⟩
abbrev cX0_runsAhead : ByteArray := prog_2_method_3_code
def yX0_runsAhead : MethodName := ⟨RX0, "runsAhead", "(LWheelTown$Ground;III)J"⟩
abbrev cX0_chanceMinute : ByteArray := prog_2_method_4_code
def yX0_chanceMinute : MethodName := ⟨RX0, "chanceMinute", "(III)V"⟩
def RX1 : String := "WheelTown$Ground"
def TX1 : u_T := fun k => match k with
  | 0 => ("WheelTown$Ground", "places", "I", false)
  | 1 => ("WheelTown$Ground", "each", "I", false)
  | 2 => ("WheelTown$Ground", "lead", "I", false)
  | 3 => ("WheelTown$Ground", "sunTold", "Z", false)
  | 4 => ("WheelTown$Ground", "bridge", "I", false)
  | 5 => ("WheelTown$Ground", "points", "I", false)
  | 6 => ("WheelTown$Ground", "wagons", "I", false)
  | 7 => ("WheelTown$Ground", "pairs", "I", false)
  | 8 => ("WheelTown$Ground", "cost", "[I", true)
  | 9 => ("WheelTown$Ground", "pace", "[I", true)
  | 10 => ("WheelTown$Ground", "work", "[I", true)
  | 11 => ("WheelTown$Ground", "hitchedA", "[I", true)
  | 12 => ("WheelTown$Ground", "hitchedB", "[I", true)
  | _ => ("WheelTown$Ground", "first", "LWheelTown$Moment;", true)
def tyX1 : Nat → FieldType := fun k => match k with
  | 0 => .int
  | 1 => .int
  | 2 => .int
  | 3 => .boolean
  | 4 => .int
  | 5 => .int
  | 6 => .int
  | 7 => .int
  | 8 => .array .int
  | 9 => .array .int
  | 10 => .array .int
  | 11 => .array .int
  | 12 => .array .int
  | _ => .object "WheelTown$Moment"
abbrev wsX10 : List Cond := u_ws RX1 TX1 14
theorem nmX1 : ∀ a, a < 14 → ∀ b, b < 14 → a ≠ b → (TX1 a).2.1 ≠ (TX1 b).2.1 := by decide +kernel
theorem tyX1_ok : ∀ k, k < 14 → parseFieldDescriptor (TX1 k).2.2.1 = some (tyX1 k) := by decide +kernel
abbrev cX1_init : ByteArray := prog_3_method_1_code
def yX1_init : MethodName := ⟨RX1, "<init>", "()V"⟩
abbrev cX1_reset : ByteArray := prog_3_method_2_code
def yX1_reset : MethodName := ⟨RX1, "reset", "()V"⟩
abbrev cX1_addWagon : ByteArray := prog_3_method_3_code
def yX1_addWagon : MethodName := ⟨RX1, "addWagon", "(IIII)V"⟩
abbrev cX1_addPair : ByteArray := prog_3_method_4_code
def yX1_addPair : MethodName := ⟨RX1, "addPair", "(II)V"⟩
abbrev cX1_settle : ByteArray := prog_3_method_5_code
def yX1_settle : MethodName := ⟨RX1, "settle", "()V"⟩
abbrev cX1_joinPaces : ByteArray := prog_3_method_6_code
def yX1_joinPaces : MethodName := ⟨RX1, "joinPaces", "()V"⟩
abbrev cX1_hasPlace : ByteArray := prog_3_method_7_code
def yX1_hasPlace : MethodName := ⟨RX1, "hasPlace", "(I)Z"⟩
abbrev cX1_hasWagon : ByteArray := prog_3_method_8_code
def yX1_hasWagon : MethodName := ⟨RX1, "hasWagon", "(I)Z"⟩
abbrev cX1_hasPoints : ByteArray := prog_3_method_9_code
def yX1_hasPoints : MethodName := ⟨RX1, "hasPoints", "(I)Z"⟩
abbrev cX1_placeOf : ByteArray := prog_3_method_10_code
def yX1_placeOf : MethodName := ⟨RX1, "placeOf", "(I)I"⟩
abbrev cX1_minutesFor : ByteArray := prog_3_method_11_code
def yX1_minutesFor : MethodName := ⟨RX1, "minutesFor", "(II)I"⟩
abbrev cX1_sunWay : ByteArray := prog_3_method_12_code
def yX1_sunWay : MethodName := ⟨RX1, "sunWay", "(II)I"⟩
abbrev cX1_isTaken : ByteArray := prog_3_method_13_code
def yX1_isTaken : MethodName := ⟨RX1, "isTaken", "(LWheelTown$Moment;II)Z"⟩
abbrev cX1_pass : ByteArray := prog_3_method_14_code
def yX1_pass : MethodName := ⟨RX1, "pass", "(LWheelTown$Moment;)I"⟩
abbrev cX1_foremost : ByteArray := prog_3_method_15_code
def yX1_foremost : MethodName := ⟨RX1, "foremost", "(LWheelTown$Moment;I)I"⟩
abbrev cX1_goOn : ByteArray := prog_3_method_16_code
def yX1_goOn : MethodName := ⟨RX1, "goOn", "(LWheelTown$Moment;I)Z"⟩
abbrev cX1_isBarred : ByteArray := prog_3_method_17_code
def yX1_isBarred : MethodName := ⟨RX1, "isBarred", "(LWheelTown$Moment;II)Z"⟩
abbrev cX1_catchLate : ByteArray := prog_3_method_18_code
def yX1_catchLate : MethodName := ⟨RX1, "catchLate", "(LWheelTown$Moment;)V"⟩
abbrev cX1_withWorkDone : ByteArray := prog_3_method_19_code
def yX1_withWorkDone : MethodName := ⟨RX1, "withWorkDone", "(LWheelTown$Moment;)I"⟩
abbrev cX1_wagonsAt : ByteArray := prog_3_method_20_code
def yX1_wagonsAt : MethodName := ⟨RX1, "wagonsAt", "(LWheelTown$Moment;I)I"⟩
abbrev cX1_lengthOn : ByteArray := prog_3_method_21_code
def yX1_lengthOn : MethodName := ⟨RX1, "lengthOn", "(LWheelTown$Moment;I)I"⟩
def RX2 : String := "WheelTown$Moment"
def TX2 : u_T := fun k => match k with
  | 0 => ("WheelTown$Moment", "minute", "I", false)
  | 1 => ("WheelTown$Moment", "caught", "I", false)
  | 2 => ("WheelTown$Moment", "way", "[I", true)
  | 3 => ("WheelTown$Moment", "rail", "[I", true)
  | 4 => ("WheelTown$Moment", "left", "[I", true)
  | 5 => ("WheelTown$Moment", "stand", "[I", true)
  | _ => ("WheelTown$Moment", "done", "[I", true)
def tyX2 : Nat → FieldType := fun k => match k with
  | 0 => .int
  | 1 => .int
  | 2 => .array .int
  | 3 => .array .int
  | 4 => .array .int
  | 5 => .array .int
  | _ => .array .int
abbrev wsX20 : List Cond := u_ws RX2 TX2 7
theorem nmX2 : ∀ a, a < 7 → ∀ b, b < 7 → a ≠ b → (TX2 a).2.1 ≠ (TX2 b).2.1 := by decide +kernel
theorem tyX2_ok : ∀ k, k < 7 → parseFieldDescriptor (TX2 k).2.2.1 = some (tyX2 k) := by decide +kernel
abbrev cX2_init : ByteArray := prog_4_method_1_code
def yX2_init : MethodName := ⟨RX2, "<init>", "()V"⟩
abbrev cX2_copyFrom : ByteArray := prog_4_method_2_code
def yX2_copyFrom : MethodName := ⟨RX2, "copyFrom", "(LWheelTown$Moment;)V"⟩
abbrev cX2_isCaught : ByteArray := prog_4_method_3_code
def yX2_isCaught : MethodName := ⟨RX2, "isCaught", "(I)Z"⟩
def RX3 : String := "WheelTown$Plan"
def TX3 : u_T := fun k => match k with
  | 0 => ("WheelTown$Plan", "size", "I", false)
  | 1 => ("WheelTown$Plan", "spared", "I", false)
  | 2 => ("WheelTown$Plan", "who", "[I", true)
  | 3 => ("WheelTown$Plan", "lack", "[I", true)
  | _ => ("WheelTown$Plan", "start", "[I", true)
def tyX3 : Nat → FieldType := fun k => match k with
  | 0 => .int
  | 1 => .int
  | 2 => .array .int
  | 3 => .array .int
  | _ => .array .int
abbrev wsX30 : List Cond := u_ws RX3 TX3 5
theorem nmX3 : ∀ a, a < 5 → ∀ b, b < 5 → a ≠ b → (TX3 a).2.1 ≠ (TX3 b).2.1 := by decide +kernel
theorem tyX3_ok : ∀ k, k < 5 → parseFieldDescriptor (TX3 k).2.2.1 = some (tyX3 k) := by decide +kernel
abbrev cX3_init : ByteArray := prog_5_method_1_code
def yX3_init : MethodName := ⟨RX3, "<init>", "()V"⟩
abbrev cX3_gatherNone : ByteArray := prog_5_method_2_code
def yX3_gatherNone : MethodName := ⟨RX3, "gatherNone", "()V"⟩
abbrev cX3_gather : ByteArray := prog_5_method_3_code
def yX3_gather : MethodName := ⟨RX3, "gather", "(LWheelTown$Ground;LWheelTown$Moment;)V"⟩
abbrev cX3_setStarts : ByteArray := prog_5_method_4_code
def yX3_setStarts : MethodName := ⟨RX3, "setStarts", "(III)V"⟩
abbrev cX3_latest : ByteArray := prog_5_method_5_code
def yX3_latest : MethodName := ⟨RX3, "latest", "(I)I"⟩
abbrev cX3_order : ByteArray := prog_5_method_6_code
def yX3_order : MethodName := ⟨RX3, "order", "(LWheelTown$Moment;I)V"⟩
abbrev cX3_sum : ByteArray := prog_5_method_7_code
def yX3_sum : MethodName := ⟨RX3, "sum", "()I"⟩
abbrev cX3_startOf : ByteArray := prog_5_method_8_code
def yX3_startOf : MethodName := ⟨RX3, "startOf", "(I)I"⟩
def RX4 : String := "WheelTown$Reader"
def TX4 : u_T := fun k => match k with
  | 0 => ("WheelTown$Reader", "bytes", "[I", true)
  | 1 => ("WheelTown$Reader", "length", "I", false)
  | 2 => ("WheelTown$Reader", "at", "I", false)
  | 3 => ("WheelTown$Reader", "token", "I", false)
  | 4 => ("WheelTown$Reader", "first", "I", false)
  | 5 => ("WheelTown$Reader", "value", "I", false)
  | _ => ("WheelTown$Reader", "faulty", "Z", false)
def tyX4 : Nat → FieldType := fun k => match k with
  | 0 => .array .int
  | 1 => .int
  | 2 => .int
  | 3 => .int
  | 4 => .int
  | 5 => .int
  | _ => .boolean
abbrev wsX40 : List Cond := u_ws RX4 TX4 7
theorem nmX4 : ∀ a, a < 7 → ∀ b, b < 7 → a ≠ b → (TX4 a).2.1 ≠ (TX4 b).2.1 := by decide +kernel
theorem tyX4_ok : ∀ k, k < 7 → parseFieldDescriptor (TX4 k).2.2.1 = some (tyX4 k) := by decide +kernel
abbrev cX4_init : ByteArray := prog_6_method_1_code
def yX4_init : MethodName := ⟨RX4, "<init>", "()V"⟩
abbrev cX4_add : ByteArray := prog_6_method_2_code
def yX4_add : MethodName := ⟨RX4, "add", "(I)Z"⟩
abbrev cX4_tell : ByteArray := prog_6_method_3_code
def yX4_tell : MethodName := ⟨RX4, "tell", "(LWheelTown$Ground;)I"⟩
abbrev cX4_tellItem : ByteArray := prog_6_method_4_code
def yX4_tellItem : MethodName := ⟨RX4, "tellItem", "(LWheelTown$Ground;I)V"⟩
abbrev cX4_tellRing : ByteArray := prog_6_method_5_code
def yX4_tellRing : MethodName := ⟨RX4, "tellRing", "(LWheelTown$Ground;I)V"⟩
abbrev cX4_tellCost : ByteArray := prog_6_method_6_code
def yX4_tellCost : MethodName := ⟨RX4, "tellCost", "(LWheelTown$Ground;)V"⟩
abbrev cX4_tellSun : ByteArray := prog_6_method_7_code
def yX4_tellSun : MethodName := ⟨RX4, "tellSun", "(LWheelTown$Ground;)V"⟩
abbrev cX4_tellBridge : ByteArray := prog_6_method_8_code
def yX4_tellBridge : MethodName := ⟨RX4, "tellBridge", "(LWheelTown$Ground;)V"⟩
abbrev cX4_tellWagon : ByteArray := prog_6_method_9_code
def yX4_tellWagon : MethodName := ⟨RX4, "tellWagon", "(LWheelTown$Ground;)V"⟩
abbrev cX4_tellPair : ByteArray := prog_6_method_10_code
def yX4_tellPair : MethodName := ⟨RX4, "tellPair", "(LWheelTown$Ground;)V"⟩
abbrev cX4_readNumber : ByteArray := prog_6_method_11_code
def yX4_readNumber : MethodName := ⟨RX4, "readNumber", "(II)I"⟩
abbrev cX4_readStop : ByteArray := prog_6_method_12_code
def yX4_readStop : MethodName := ⟨RX4, "readStop", "()V"⟩
abbrev cX4_readToken : ByteArray := prog_6_method_13_code
def yX4_readToken : MethodName := ⟨RX4, "readToken", "()V"⟩
abbrev cX4_readLetters : ByteArray := prog_6_method_14_code
def yX4_readLetters : MethodName := ⟨RX4, "readLetters", "()V"⟩
abbrev cX4_readDigits : ByteArray := prog_6_method_15_code
def yX4_readDigits : MethodName := ⟨RX4, "readDigits", "()V"⟩
abbrev cX4_isLetter : ByteArray := prog_6_method_16_code
def yX4_isLetter : MethodName := ⟨RX4, "isLetter", "(I)Z"⟩
abbrev cX4_isDigit : ByteArray := prog_6_method_17_code
def yX4_isDigit : MethodName := ⟨RX4, "isDigit", "(I)Z"⟩
def RX5 : String := "WheelTown$Story"
def TX5 : u_T := fun k => match k with
  | 0 => ("WheelTown$Story", "now", "LWheelTown$Moment;", true)
  | 1 => ("WheelTown$Story", "past", "[LWheelTown$Moment;", true)
  | 2 => ("WheelTown$Story", "known", "I", false)
  | _ => ("WheelTown$Story", "kept", "Z", false)
def tyX5 : Nat → FieldType := fun k => match k with
  | 0 => .object "WheelTown$Moment"
  | 1 => .array (.object "WheelTown$Moment")
  | 2 => .int
  | _ => .boolean
abbrev wsX50 : List Cond := u_ws RX5 TX5 4
theorem nmX5 : ∀ a, a < 4 → ∀ b, b < 4 → a ≠ b → (TX5 a).2.1 ≠ (TX5 b).2.1 := by decide +kernel
theorem tyX5_ok : ∀ k, k < 4 → parseFieldDescriptor (TX5 k).2.2.1 = some (tyX5 k) := by decide +kernel
abbrev cX5_init : ByteArray := prog_7_method_1_code
def yX5_init : MethodName := ⟨RX5, "<init>", "()V"⟩
abbrev cX5_begin : ByteArray := prog_7_method_2_code
def yX5_begin : MethodName := ⟨RX5, "begin", "(LWheelTown$Moment;)V"⟩
abbrev cX5_remember : ByteArray := prog_7_method_3_code
def yX5_remember : MethodName := ⟨RX5, "remember", "()V"⟩
abbrev cX5_loseOldest : ByteArray := prog_7_method_4_code
def yX5_loseOldest : MethodName := ⟨RX5, "loseOldest", "()V"⟩
abbrev cX5_takeBack : ByteArray := prog_7_method_5_code
def yX5_takeBack : MethodName := ⟨RX5, "takeBack", "()Z"⟩
abbrev cX5_copyFrom : ByteArray := prog_7_method_6_code
def yX5_copyFrom : MethodName := ⟨RX5, "copyFrom", "(LWheelTown$Story;)V"⟩
def RX6 : String := "WheelTown"
def TX6 : u_T := fun k => match k with
  | 0 => ("WheelTown", "reader", "LWheelTown$Reader;", true)
  | 1 => ("WheelTown", "plan", "LWheelTown$Plan;", true)
  | 2 => ("WheelTown", "chance", "LWheelTown$Chance;", true)
  | 3 => ("WheelTown", "trial", "LWheelTown$Moment;", true)
  | 4 => ("WheelTown", "story", "LWheelTown$Story;", true)
  | 5 => ("WheelTown", "image0", "LWheelTown$Story;", true)
  | 6 => ("WheelTown", "image1", "LWheelTown$Story;", true)
  | 7 => ("WheelTown", "ground", "LWheelTown$Ground;", false)
  | 8 => ("WheelTown", "draft", "LWheelTown$Ground;", false)
  | _ => ("WheelTown", "trace", "J", false)
def tyX6 : Nat → FieldType := fun k => match k with
  | 0 => .object "WheelTown$Reader"
  | 1 => .object "WheelTown$Plan"
  | 2 => .object "WheelTown$Chance"
  | 3 => .object "WheelTown$Moment"
  | 4 => .object "WheelTown$Story"
  | 5 => .object "WheelTown$Story"
  | 6 => .object "WheelTown$Story"
  | 7 => .object "WheelTown$Ground"
  | 8 => .object "WheelTown$Ground"
  | _ => .long
abbrev wsX60 : List Cond := u_ws RX6 TX6 10
theorem nmX6 : ∀ a, a < 10 → ∀ b, b < 10 → a ≠ b → (TX6 a).2.1 ≠ (TX6 b).2.1 := by decide +kernel
theorem tyX6_ok : ∀ k, k < 10 → parseFieldDescriptor (TX6 k).2.2.1 = some (tyX6 k) := by decide +kernel
abbrev cX6_init : ByteArray := prog_1_method_1_code
def yX6_init : MethodName := ⟨RX6, "<init>", "()V"⟩
abbrev cX6_type : ByteArray := prog_1_method_2_code
def yX6_type : MethodName := ⟨RX6, "type", "(I)I"⟩
abbrev cX6_clear : ByteArray := prog_1_method_3_code
def yX6_clear : MethodName := ⟨RX6, "clear", "()I"⟩
abbrev cX6_world : ByteArray := prog_1_method_4_code
def yX6_world : MethodName := ⟨RX6, "world", "()I"⟩
abbrev cX6_place : ByteArray := prog_1_method_5_code
def yX6_place : MethodName := ⟨RX6, "place", "(II)I"⟩
abbrev cX6_wagon : ByteArray := prog_1_method_6_code
def yX6_wagon : MethodName := ⟨RX6, "wagon", "(II)I"⟩
abbrev cX6_now : ByteArray := prog_1_method_7_code
def yX6_now : MethodName := ⟨RX6, "now", "(I)I"⟩
abbrev cX6_sun : ByteArray := prog_1_method_8_code
def yX6_sun : MethodName := ⟨RX6, "sun", "(I)I"⟩
abbrev cX6_minute : ByteArray := prog_1_method_9_code
def yX6_minute : MethodName := ⟨RX6, "minute", "()I"⟩
abbrev cX6_stand : ByteArray := prog_1_method_10_code
def yX6_stand : MethodName := ⟨RX6, "stand", "(II)I"⟩
abbrev cX6_change : ByteArray := prog_1_method_11_code
def yX6_change : MethodName := ⟨RX6, "change", "(II)I"⟩
abbrev cX6_undo : ByteArray := prog_1_method_12_code
def yX6_undo : MethodName := ⟨RX6, "undo", "()I"⟩
abbrev cX6_behind : ByteArray := prog_1_method_13_code
def yX6_behind : MethodName := ⟨RX6, "behind", "(III)I"⟩
abbrev cX6_caught : ByteArray := prog_1_method_14_code
def yX6_caught : MethodName := ⟨RX6, "caught", "(I)I"⟩
abbrev cX6_waits : ByteArray := prog_1_method_15_code
def yX6_waits : MethodName := ⟨RX6, "waits", "(I)I"⟩
abbrev cX6_stands : ByteArray := prog_1_method_16_code
def yX6_stands : MethodName := ⟨RX6, "stands", "(I)I"⟩
abbrev cX6_starts : ByteArray := prog_1_method_17_code
def yX6_starts : MethodName := ⟨RX6, "starts", "(I)I"⟩
abbrev cX6_bars : ByteArray := prog_1_method_18_code
def yX6_bars : MethodName := ⟨RX6, "bars", "()I"⟩
abbrev cX6_pieces : ByteArray := prog_1_method_19_code
def yX6_pieces : MethodName := ⟨RX6, "pieces", "(II)I"⟩
abbrev cX6_met : ByteArray := prog_1_method_20_code
def yX6_met : MethodName := ⟨RX6, "met", "(II)I"⟩
abbrev cX6_odds : ByteArray := prog_1_method_21_code
def yX6_odds : MethodName := ⟨RX6, "odds", "(IIII)J"⟩
abbrev cX6_keepAhead : ByteArray := prog_1_method_22_code
def yX6_keepAhead : MethodName := ⟨RX6, "keepAhead", "(IIII)I"⟩
abbrev cX6_mark : ByteArray := prog_1_method_23_code
def yX6_mark : MethodName := ⟨RX6, "mark", "(II)I"⟩
abbrev cX6_keep : ByteArray := prog_1_method_24_code
def yX6_keep : MethodName := ⟨RX6, "keep", "(I)I"⟩
abbrev cX6_back : ByteArray := prog_1_method_25_code
def yX6_back : MethodName := ⟨RX6, "back", "(I)I"⟩
abbrev cX6_count : ByteArray := prog_1_method_26_code
def yX6_count : MethodName := ⟨RX6, "count", "(I)I"⟩
abbrev cX6_trace : ByteArray := prog_1_method_27_code
def yX6_trace : MethodName := ⟨RX6, "trace", "()J"⟩
abbrev cX6_leastOf : ByteArray := prog_1_method_28_code
def yX6_leastOf : MethodName := ⟨RX6, "leastOf", "(I)I"⟩
abbrev cX6_findStarts : ByteArray := prog_1_method_29_code
def yX6_findStarts : MethodName := ⟨RX6, "findStarts", "()Z"⟩
abbrev cX6_isTrialSafe : ByteArray := prog_1_method_30_code
def yX6_isTrialSafe : MethodName := ⟨RX6, "isTrialSafe", "()Z"⟩
abbrev cX6_isChance : ByteArray := prog_1_method_31_code
def yX6_isChance : MethodName := ⟨RX6, "isChance", "(III)Z"⟩
abbrev cX6_powerOfTen : ByteArray := prog_1_method_32_code
def yX6_powerOfTen : MethodName := ⟨RX6, "powerOfTen", "(I)J"⟩
abbrev cX6_commonDivisor : ByteArray := prog_1_method_33_code
def yX6_commonDivisor : MethodName := ⟨RX6, "commonDivisor", "(JJ)J"⟩
abbrev cX6_wagonMark : ByteArray := prog_1_method_34_code
def yX6_wagonMark : MethodName := ⟨RX6, "wagonMark", "(I)I"⟩
abbrev cX6_forgeMark : ByteArray := prog_1_method_35_code
def yX6_forgeMark : MethodName := ⟨RX6, "forgeMark", "(I)I"⟩
abbrev cX6_chapelMark : ByteArray := prog_1_method_36_code
def yX6_chapelMark : MethodName := ⟨RX6, "chapelMark", "(I)I"⟩
abbrev cX6_tenderMark : ByteArray := prog_1_method_37_code
def yX6_tenderMark : MethodName := ⟨RX6, "tenderMark", "(I)I"⟩
abbrev cX6_houseMark : ByteArray := prog_1_method_38_code
def yX6_houseMark : MethodName := ⟨RX6, "houseMark", "(I)I"⟩
abbrev cX6_railcartMark : ByteArray := prog_1_method_39_code
def yX6_railcartMark : MethodName := ⟨RX6, "railcartMark", "(I)I"⟩
def RX7 : String := "WheelTownModel"
def TX7 : u_T := fun k => match k with
  | 0 => ("WheelTownModel", "trace", "J", false)
  | 1 => ("WheelTownModel", "text", "[B", true)
  | 2 => ("WheelTownModel", "typed", "I", false)
  | 3 => ("WheelTownModel", "size", "[I", true)
  | 4 => ("WheelTownModel", "each", "[I", true)
  | 5 => ("WheelTownModel", "lead", "[I", true)
  | 6 => ("WheelTownModel", "bridge", "[I", true)
  | 7 => ("WheelTownModel", "points", "[I", true)
  | 8 => ("WheelTownModel", "wagons", "[I", true)
  | 9 => ("WheelTownModel", "pairs", "[I", true)
  | 10 => ("WheelTownModel", "costs", "[I", true)
  | 11 => ("WheelTownModel", "firstWay", "[I", true)
  | 12 => ("WheelTownModel", "paces", "[I", true)
  | 13 => ("WheelTownModel", "works", "[I", true)
  | 14 => ("WheelTownModel", "firstRail", "[I", true)
  | 15 => ("WheelTownModel", "pairA", "[I", true)
  | 16 => ("WheelTownModel", "pairB", "[I", true)
  | 17 => ("WheelTownModel", "pace", "[I", true)
  | 18 => ("WheelTownModel", "at", "I", false)
  | 19 => ("WheelTownModel", "start", "I", false)
  | 20 => ("WheelTownModel", "sort", "I", false)
  | 21 => ("WheelTownModel", "value", "I", false)
  | 22 => ("WheelTownModel", "fault", "I", false)
  | 23 => ("WheelTownModel", "items", "I", false)
  | 24 => ("WheelTownModel", "hasSun", "Z", false)
  | 25 => ("WheelTownModel", "hasBridge", "Z", false)
  | 26 => ("WheelTownModel", "now", "[I", true)
  | 27 => ("WheelTownModel", "then", "[I", true)
  | 28 => ("WheelTownModel", "isKept", "[Z", true)
  | 29 => ("WheelTownModel", "waiting", "I", false)
  | 30 => ("WheelTownModel", "lacking", "[I", true)
  | 31 => ("WheelTownModel", "lackingMany", "I", false)
  | 32 => ("WheelTownModel", "lacks", "[I", true)
  | 33 => ("WheelTownModel", "tried", "[I", true)
  | 34 => ("WheelTownModel", "best", "[I", true)
  | 35 => ("WheelTownModel", "ways", "[J", true)
  | 36 => ("WheelTownModel", "onward", "[J", true)
  | 37 => ("WheelTownModel", "upper", "J", false)
  | _ => ("WheelTownModel", "lower", "J", false)
def tyX7 : Nat → FieldType := fun k => match k with
  | 0 => .long
  | 1 => .array .byte
  | 2 => .int
  | 3 => .array .int
  | 4 => .array .int
  | 5 => .array .int
  | 6 => .array .int
  | 7 => .array .int
  | 8 => .array .int
  | 9 => .array .int
  | 10 => .array .int
  | 11 => .array .int
  | 12 => .array .int
  | 13 => .array .int
  | 14 => .array .int
  | 15 => .array .int
  | 16 => .array .int
  | 17 => .array .int
  | 18 => .int
  | 19 => .int
  | 20 => .int
  | 21 => .int
  | 22 => .int
  | 23 => .int
  | 24 => .boolean
  | 25 => .boolean
  | 26 => .array .int
  | 27 => .array .int
  | 28 => .array .boolean
  | 29 => .int
  | 30 => .array .int
  | 31 => .int
  | 32 => .array .int
  | 33 => .array .int
  | 34 => .array .int
  | 35 => .array .long
  | 36 => .array .long
  | 37 => .long
  | _ => .long
abbrev wsX70 : List Cond := u_ws RX7 TX7 39
theorem nmX7 : ∀ a, a < 39 → ∀ b, b < 39 → a ≠ b → (TX7 a).2.1 ≠ (TX7 b).2.1 := by decide +kernel
theorem tyX7_ok : ∀ k, k < 39 → parseFieldDescriptor (TX7 k).2.2.1 = some (tyX7 k) := by decide +kernel
abbrev cX7_init : ByteArray := prog_9_method_1_code
def yX7_init : MethodName := ⟨RX7, "<init>", "()V"⟩
abbrev cX7_in : ByteArray := prog_9_method_3_code
def yX7_in : MethodName := ⟨RX7, "in", "(III)Z"⟩
abbrev cX7_type : ByteArray := prog_9_method_4_code
def yX7_type : MethodName := ⟨RX7, "type", "(I)I"⟩
abbrev cX7_clear : ByteArray := prog_9_method_5_code
def yX7_clear : MethodName := ⟨RX7, "clear", "()I"⟩
abbrev cX7_here : ByteArray := prog_9_method_6_code
def yX7_here : MethodName := ⟨RX7, "here", "()I"⟩
abbrev cX7_next : ByteArray := prog_9_method_7_code
def yX7_next : MethodName := ⟨RX7, "next", "()V"⟩
abbrev cX7_due : ByteArray := prog_9_method_8_code
def yX7_due : MethodName := ⟨RX7, "due", "(Z)I"⟩
abbrev cX7_number : ByteArray := prog_9_method_9_code
def yX7_number : MethodName := ⟨RX7, "number", "(II)I"⟩
abbrev cX7_placeTold : ByteArray := prog_9_method_10_code
def yX7_placeTold : MethodName := ⟨RX7, "placeTold", "()I"⟩
abbrev cX7_mayBe : ByteArray := prog_9_method_11_code
def yX7_mayBe : MethodName := ⟨RX7, "mayBe", "(I)Z"⟩
abbrev cX7_isFreeAtFirst : ByteArray := prog_9_method_12_code
def yX7_isFreeAtFirst : MethodName := ⟨RX7, "isFreeAtFirst", "(II)Z"⟩
abbrev cX7_readWagon : ByteArray := prog_9_method_13_code
def yX7_readWagon : MethodName := ⟨RX7, "readWagon", "()V"⟩
abbrev cX7_readRow : ByteArray := prog_9_method_14_code
def yX7_readRow : MethodName := ⟨RX7, "readRow", "(I)V"⟩
abbrev cX7_world : ByteArray := prog_9_method_15_code
def yX7_world : MethodName := ⟨RX7, "world", "()I"⟩
abbrev cX7_take : ByteArray := prog_9_method_16_code
def yX7_take : MethodName := ⟨RX7, "take", "()V"⟩
abbrev cX7_costAt : ByteArray := prog_9_method_17_code
def yX7_costAt : MethodName := ⟨RX7, "costAt", "(I)I"⟩
abbrev cX7_beginThen : ByteArray := prog_9_method_18_code
def yX7_beginThen : MethodName := ⟨RX7, "beginThen", "()V"⟩
abbrev cX7_begin : ByteArray := prog_9_method_19_code
def yX7_begin : MethodName := ⟨RX7, "begin", "()V"⟩
abbrev cX7_toNow : ByteArray := prog_9_method_20_code
def yX7_toNow : MethodName := ⟨RX7, "toNow", "()V"⟩
abbrev cX7_toThen : ByteArray := prog_9_method_21_code
def yX7_toThen : MethodName := ⟨RX7, "toThen", "()V"⟩
abbrev cX7_isWagon : ByteArray := prog_9_method_22_code
def yX7_isWagon : MethodName := ⟨RX7, "isWagon", "(I)Z"⟩
abbrev cX7_place : ByteArray := prog_9_method_23_code
def yX7_place : MethodName := ⟨RX7, "place", "(II)I"⟩
abbrev cX7_wagon : ByteArray := prog_9_method_24_code
def yX7_wagon : MethodName := ⟨RX7, "wagon", "(II)I"⟩
abbrev cX7_sunAt : ByteArray := prog_9_method_25_code
def yX7_sunAt : MethodName := ⟨RX7, "sunAt", "(I)I"⟩
abbrev cX7_sun : ByteArray := prog_9_method_26_code
def yX7_sun : MethodName := ⟨RX7, "sun", "(I)I"⟩
abbrev cX7_caughtThen : ByteArray := prog_9_method_27_code
def yX7_caughtThen : MethodName := ⟨RX7, "caughtThen", "()I"⟩
abbrev cX7_manyOf : ByteArray := prog_9_method_28_code
def yX7_manyOf : MethodName := ⟨RX7, "manyOf", "(I)I"⟩
abbrev cX7_now : ByteArray := prog_9_method_29_code
def yX7_now : MethodName := ⟨RX7, "now", "(I)I"⟩
abbrev cX7_isFree : ByteArray := prog_9_method_30_code
def yX7_isFree : MethodName := ⟨RX7, "isFree", "(II)Z"⟩
abbrev cX7_move : ByteArray := prog_9_method_31_code
def yX7_move : MethodName := ⟨RX7, "move", "(I)V"⟩
abbrev cX7_pass : ByteArray := prog_9_method_32_code
def yX7_pass : MethodName := ⟨RX7, "pass", "()V"⟩
abbrev cX7_know : ByteArray := prog_9_method_33_code
def yX7_know : MethodName := ⟨RX7, "know", "()V"⟩
abbrev cX7_minute : ByteArray := prog_9_method_34_code
def yX7_minute : MethodName := ⟨RX7, "minute", "()I"⟩
abbrev cX7_stand : ByteArray := prog_9_method_35_code
def yX7_stand : MethodName := ⟨RX7, "stand", "(II)I"⟩
abbrev cX7_isThere : ByteArray := prog_9_method_36_code
def yX7_isThere : MethodName := ⟨RX7, "isThere", "(II)Z"⟩
abbrev cX7_change : ByteArray := prog_9_method_37_code
def yX7_change : MethodName := ⟨RX7, "change", "(II)I"⟩
abbrev cX7_undo : ByteArray := prog_9_method_38_code
def yX7_undo : MethodName := ⟨RX7, "undo", "()I"⟩
abbrev cX7_passMany : ByteArray := prog_9_method_39_code
def yX7_passMany : MethodName := ⟨RX7, "passMany", "(I)V"⟩
abbrev cX7_behind : ByteArray := prog_9_method_40_code
def yX7_behind : MethodName := ⟨RX7, "behind", "(III)I"⟩
abbrev cX7_caught : ByteArray := prog_9_method_41_code
def yX7_caught : MethodName := ⟨RX7, "caught", "(I)I"⟩
abbrev cX7_waits : ByteArray := prog_9_method_42_code
def yX7_waits : MethodName := ⟨RX7, "waits", "(I)I"⟩
abbrev cX7_stands : ByteArray := prog_9_method_43_code
def yX7_stands : MethodName := ⟨RX7, "stands", "(I)I"⟩
abbrev cX7_findLacking : ByteArray := prog_9_method_44_code
def yX7_findLacking : MethodName := ⟨RX7, "findLacking", "()V"⟩
abbrev cX7_isWell : ByteArray := prog_9_method_45_code
def yX7_isWell : MethodName := ⟨RX7, "isWell", "(I)Z"⟩
abbrev cX7_findStarts : ByteArray := prog_9_method_46_code
def yX7_findStarts : MethodName := ⟨RX7, "findStarts", "(I)I"⟩
abbrev cX7_starts : ByteArray := prog_9_method_47_code
def yX7_starts : MethodName := ⟨RX7, "starts", "(I)I"⟩
abbrev cX7_bars : ByteArray := prog_9_method_48_code
def yX7_bars : MethodName := ⟨RX7, "bars", "()I"⟩
abbrev cX7_pieces : ByteArray := prog_9_method_49_code
def yX7_pieces : MethodName := ⟨RX7, "pieces", "(II)I"⟩
abbrev cX7_met : ByteArray := prog_9_method_50_code
def yX7_met : MethodName := ⟨RX7, "met", "(II)I"⟩
abbrev cX7_findOdds : ByteArray := prog_9_method_51_code
def yX7_findOdds : MethodName := ⟨RX7, "findOdds", "(IIII)V"⟩
abbrev cX7_isAsked : ByteArray := prog_9_method_52_code
def yX7_isAsked : MethodName := ⟨RX7, "isAsked", "(III)Z"⟩
abbrev cX7_odds : ByteArray := prog_9_method_53_code
def yX7_odds : MethodName := ⟨RX7, "odds", "(IIII)J"⟩
abbrev cX7_keepAhead : ByteArray := prog_9_method_54_code
def yX7_keepAhead : MethodName := ⟨RX7, "keepAhead", "(IIII)I"⟩
abbrev cX7_mark : ByteArray := prog_9_method_55_code
def yX7_mark : MethodName := ⟨RX7, "mark", "(II)I"⟩
abbrev cX7_copy : ByteArray := prog_9_method_56_code
def yX7_copy : MethodName := ⟨RX7, "copy", "(II)V"⟩
abbrev cX7_keep : ByteArray := prog_9_method_57_code
def yX7_keep : MethodName := ⟨RX7, "keep", "(I)I"⟩
abbrev cX7_back : ByteArray := prog_9_method_58_code
def yX7_back : MethodName := ⟨RX7, "back", "(I)I"⟩
abbrev cX7_count : ByteArray := prog_9_method_59_code
def yX7_count : MethodName := ⟨RX7, "count", "(I)I"⟩
abbrev cX7_trace : ByteArray := prog_9_method_60_code
def yX7_trace : MethodName := ⟨RX7, "trace", "()J"⟩
def RJ6 : String := "java/lang/Integer"
abbrev cJ6_bitCount_0f7a4 : ByteArray := prog_10_method_49_code
def yJ6_bitCount_0f7a4 : MethodName := ⟨RJ6, "bitCount", "(I)I"⟩
def RJ9 : String := "java/lang/Math"
abbrev cJ9_max_7cf53 : ByteArray := prog_11_method_65_code
def yJ9_max_7cf53 : MethodName := ⟨RJ9, "max", "(II)I"⟩
abbrev cJ9_max_f86c9 : ByteArray := prog_11_method_66_code
def yJ9_max_f86c9 : MethodName := ⟨RJ9, "max", "(JJ)J"⟩
abbrev cJ9_min_7cf53 : ByteArray := prog_11_method_69_code
def yJ9_min_7cf53 : MethodName := ⟨RJ9, "min", "(II)I"⟩
def RJ10 : String := "java/lang/System"
def RL : String := "WheelTownLaw"
abbrev cL_law : ByteArray := code
def yL_law : MethodName := ⟨RL, "law", "([I)Z"⟩
abbrev vwCl : List vw_C := [(RX0, TX0, 3), (RX1, TX1, 14), (RX2, TX2, 7), (RX3, TX3, 5), (RX4, TX4, 7), (RX5, TX5, 4), (RX6, TX6, 10), (RX7, TX7, 39)]
def wsA : List Cond := lw_tbl.filter goodWord
theorem wsA_in {w : Cond} (h : w ∈ lw_tbl) (hg : goodWord w = true) : w ∈ wsA := List.mem_filter.mpr ⟨h, hg⟩
theorem wsA_tbl {w : Cond} (h : w ∈ wsA) : w ∈ lw_tbl := (List.mem_filter.mp h).1
theorem inX0 : ∀ w ∈ wsX00, w ∈ lw_tbl := by decide +kernel
theorem iaX0 : ∀ w ∈ wsX00, w ∈ wsA := fun w h => List.mem_filter.mpr ⟨inX0 w h, (List.all_eq_true.mp (by decide +kernel : wsX00.all goodWord = true)) w h⟩
theorem inX1 : ∀ w ∈ wsX10, w ∈ lw_tbl := by decide +kernel
theorem iaX1 : ∀ w ∈ wsX10, w ∈ wsA := fun w h => List.mem_filter.mpr ⟨inX1 w h, (List.all_eq_true.mp (by decide +kernel : wsX10.all goodWord = true)) w h⟩
theorem inX2 : ∀ w ∈ wsX20, w ∈ lw_tbl := by decide +kernel
theorem iaX2 : ∀ w ∈ wsX20, w ∈ wsA := fun w h => List.mem_filter.mpr ⟨inX2 w h, (List.all_eq_true.mp (by decide +kernel : wsX20.all goodWord = true)) w h⟩
theorem inX3 : ∀ w ∈ wsX30, w ∈ lw_tbl := by decide +kernel
theorem iaX3 : ∀ w ∈ wsX30, w ∈ wsA := fun w h => List.mem_filter.mpr ⟨inX3 w h, (List.all_eq_true.mp (by decide +kernel : wsX30.all goodWord = true)) w h⟩
theorem inX4 : ∀ w ∈ wsX40, w ∈ lw_tbl := by decide +kernel
theorem iaX4 : ∀ w ∈ wsX40, w ∈ wsA := fun w h => List.mem_filter.mpr ⟨inX4 w h, (List.all_eq_true.mp (by decide +kernel : wsX40.all goodWord = true)) w h⟩
theorem inX5 : ∀ w ∈ wsX50, w ∈ lw_tbl := by decide +kernel
theorem iaX5 : ∀ w ∈ wsX50, w ∈ wsA := fun w h => List.mem_filter.mpr ⟨inX5 w h, (List.all_eq_true.mp (by decide +kernel : wsX50.all goodWord = true)) w h⟩
theorem inX6 : ∀ w ∈ wsX60, w ∈ lw_tbl := by decide +kernel
theorem iaX6 : ∀ w ∈ wsX60, w ∈ wsA := fun w h => List.mem_filter.mpr ⟨inX6 w h, (List.all_eq_true.mp (by decide +kernel : wsX60.all goodWord = true)) w h⟩
theorem inX7 : ∀ w ∈ wsX70, w ∈ lw_tbl := by decide +kernel
theorem iaX7 : ∀ w ∈ wsX70, w ∈ wsA := fun w h => List.mem_filter.mpr ⟨inX7 w h, (List.all_eq_true.mp (by decide +kernel : wsX70.all goodWord = true)) w h⟩
end
section
theorem dX0_init_0 : decode cX0_init 0 = .ok (.aload_n 0, 1) := by decide +kernel
theorem dX0_init_1 : decode cX0_init 1 = .ok (.invokespecial 3, 3) := by decide +kernel
theorem dX0_init_4 : decode cX0_init 4 = .ok (.aload_n 0, 1) := by decide +kernel
theorem dX0_init_5 : decode cX0_init 5 = .ok (.bipush 13, 2) := by decide +kernel
theorem dX0_init_7 : decode cX0_init 7 = .ok (.newarray .int, 2) := by decide +kernel
theorem dX0_init_9 : decode cX0_init 9 = .ok (.putfield 9, 3) := by decide +kernel
theorem dX0_init_12 : decode cX0_init 12 = .ok (.aload_n 0, 1) := by decide +kernel
theorem dX0_init_13 : decode cX0_init 13 = .ok (.bipush 13, 2) := by decide +kernel
theorem dX0_init_15 : decode cX0_init 15 = .ok (.newarray .long, 2) := by decide +kernel
theorem dX0_init_17 : decode cX0_init 17 = .ok (.putfield 15, 3) := by decide +kernel
theorem dX0_init_20 : decode cX0_init 20 = .ok (.return_, 1) := by decide +kernel
theorem dX0_foresee_0 : decode cX0_foresee 0 = .ok (.aload_n 0, 1) := by decide +kernel
theorem dX0_foresee_1 : decode cX0_foresee 1 = .ok (.aload_n 2, 1) := by decide +kernel
theorem dX0_foresee_2 : decode cX0_foresee 2 = .ok (.getfield 19, 3) := by decide +kernel
theorem dX0_foresee_5 : decode cX0_foresee 5 = .ok (.putfield 25, 3) := by decide +kernel
theorem dX0_foresee_8 : decode cX0_foresee 8 = .ok (.aload_n 2, 1) := by decide +kernel
theorem dX0_foresee_9 : decode cX0_foresee 9 = .ok (.getfield 26, 3) := by decide +kernel
theorem dX0_foresee_12 : decode cX0_foresee 12 = .ok (.iload_n 3, 1) := by decide +kernel
theorem dX0_foresee_13 : decode cX0_foresee 13 = .ok (.iaload, 1) := by decide +kernel
theorem dX0_foresee_14 : decode cX0_foresee 14 = .ok (.istore 4, 2) := by decide +kernel
theorem dX0_foresee_16 : decode cX0_foresee 16 = .ok (.aload_n 2, 1) := by decide +kernel
theorem dX0_foresee_17 : decode cX0_foresee 17 = .ok (.getfield 29, 3) := by decide +kernel
theorem dX0_foresee_20 : decode cX0_foresee 20 = .ok (.iload_n 3, 1) := by decide +kernel
theorem dX0_foresee_21 : decode cX0_foresee 21 = .ok (.iaload, 1) := by decide +kernel
theorem dX0_foresee_22 : decode cX0_foresee 22 = .ok (.istore 5, 2) := by decide +kernel
theorem dX0_foresee_24 : decode cX0_foresee 24 = .ok (.aload_n 0, 1) := by decide +kernel
theorem dX0_foresee_25 : decode cX0_foresee 25 = .ok (.getfield 9, 3) := by decide +kernel
theorem dX0_foresee_28 : decode cX0_foresee 28 = .ok (.iconst 0, 1) := by decide +kernel
theorem dX0_foresee_29 : decode cX0_foresee 29 = .ok (.iload 4, 2) := by decide +kernel
theorem dX0_foresee_31 : decode cX0_foresee 31 = .ok (.iastore, 1) := by decide +kernel
theorem dX0_foresee_32 : decode cX0_foresee 32 = .ok (.iconst 1, 1) := by decide +kernel
theorem dX0_foresee_33 : decode cX0_foresee 33 = .ok (.istore 6, 2) := by decide +kernel
theorem dX0_foresee_35 : decode cX0_foresee 35 = .ok (.iload 6, 2) := by decide +kernel
theorem dX0_foresee_37 : decode cX0_foresee 37 = .ok (.bipush 12, 2) := by decide +kernel
theorem dX0_foresee_39 : decode cX0_foresee 39 = .ok (.if_icmp .gt 45, 3) := by decide +kernel
theorem dX0_foresee_42 : decode cX0_foresee 42 = .ok (.iconst 0, 1) := by decide +kernel
theorem dX0_foresee_43 : decode cX0_foresee 43 = .ok (.iload 5, 2) := by decide +kernel
theorem dX0_foresee_45 : decode cX0_foresee 45 = .ok (.iconst 1, 1) := by decide +kernel
theorem dX0_foresee_46 : decode cX0_foresee 46 = .ok (.isub, 1) := by decide +kernel
theorem dX0_foresee_47 : decode cX0_foresee 47 = .ok (.invokestatic 32, 3) := by decide +kernel
theorem dX0_foresee_50 : decode cX0_foresee 50 = .ok (.istore 5, 2) := by decide +kernel
theorem dX0_foresee_52 : decode cX0_foresee 52 = .ok (.iload 5, 2) := by decide +kernel
theorem dX0_foresee_54 : decode cX0_foresee 54 = .ok (.ifCond .ne 15, 3) := by decide +kernel
theorem dX0_foresee_57 : decode cX0_foresee 57 = .ok (.iinc 4 1, 3) := by decide +kernel
theorem dX0_foresee_60 : decode cX0_foresee 60 = .ok (.aload_n 1, 1) := by decide +kernel
theorem dX0_foresee_61 : decode cX0_foresee 61 = .ok (.iload_n 3, 1) := by decide +kernel
theorem dX0_foresee_62 : decode cX0_foresee 62 = .ok (.iload 4, 2) := by decide +kernel
theorem dX0_foresee_64 : decode cX0_foresee 64 = .ok (.invokevirtual 38, 3) := by decide +kernel
theorem dX0_foresee_67 : decode cX0_foresee 67 = .ok (.istore 5, 2) := by decide +kernel
theorem dX0_foresee_69 : decode cX0_foresee 69 = .ok (.aload_n 0, 1) := by decide +kernel
theorem dX0_foresee_70 : decode cX0_foresee 70 = .ok (.getfield 9, 3) := by decide +kernel
theorem dX0_foresee_73 : decode cX0_foresee 73 = .ok (.iload 6, 2) := by decide +kernel
theorem dX0_foresee_75 : decode cX0_foresee 75 = .ok (.iload 4, 2) := by decide +kernel
theorem dX0_foresee_77 : decode cX0_foresee 77 = .ok (.iastore, 1) := by decide +kernel
theorem dX0_foresee_78 : decode cX0_foresee 78 = .ok (.iinc 6 1, 3) := by decide +kernel
theorem dX0_foresee_81 : decode cX0_foresee 81 = .ok (.goto (-46), 3) := by decide +kernel
theorem dX0_foresee_84 : decode cX0_foresee 84 = .ok (.return_, 1) := by decide +kernel
theorem dX0_runsAhead_0 : decode cX0_runsAhead 0 = .ok (.iconst 0, 1) := by decide +kernel
theorem dX0_runsAhead_1 : decode cX0_runsAhead 1 = .ok (.istore 5, 2) := by decide +kernel
theorem dX0_runsAhead_3 : decode cX0_runsAhead 3 = .ok (.iload 5, 2) := by decide +kernel
theorem dX0_runsAhead_5 : decode cX0_runsAhead 5 = .ok (.bipush 12, 2) := by decide +kernel
theorem dX0_runsAhead_7 : decode cX0_runsAhead 7 = .ok (.if_icmp .gt 26, 3) := by decide +kernel
theorem dX0_runsAhead_10 : decode cX0_runsAhead 10 = .ok (.aload_n 0, 1) := by decide +kernel
theorem dX0_runsAhead_11 : decode cX0_runsAhead 11 = .ok (.getfield 15, 3) := by decide +kernel
theorem dX0_runsAhead_14 : decode cX0_runsAhead 14 = .ok (.iload 5, 2) := by decide +kernel
theorem dX0_runsAhead_16 : decode cX0_runsAhead 16 = .ok (.iload 5, 2) := by decide +kernel
theorem dX0_runsAhead_18 : decode cX0_runsAhead 18 = .ok (.ifCond .ne 7, 3) := by decide +kernel
theorem dX0_runsAhead_21 : decode cX0_runsAhead 21 = .ok (.lconst 1, 1) := by decide +kernel
theorem dX0_runsAhead_22 : decode cX0_runsAhead 22 = .ok (.goto 4, 3) := by decide +kernel
theorem dX0_runsAhead_25 : decode cX0_runsAhead 25 = .ok (.lconst 0, 1) := by decide +kernel
theorem dX0_runsAhead_26 : decode cX0_runsAhead 26 = .ok (.lastore, 1) := by decide +kernel
theorem dX0_runsAhead_27 : decode cX0_runsAhead 27 = .ok (.iinc 5 1, 3) := by decide +kernel
theorem dX0_runsAhead_30 : decode cX0_runsAhead 30 = .ok (.goto (-27), 3) := by decide +kernel
theorem dX0_runsAhead_33 : decode cX0_runsAhead 33 = .ok (.iconst 1, 1) := by decide +kernel
theorem dX0_runsAhead_34 : decode cX0_runsAhead 34 = .ok (.istore 5, 2) := by decide +kernel
theorem dX0_runsAhead_36 : decode cX0_runsAhead 36 = .ok (.iload 5, 2) := by decide +kernel
theorem dX0_runsAhead_38 : decode cX0_runsAhead 38 = .ok (.iload_n 3, 1) := by decide +kernel
theorem dX0_runsAhead_39 : decode cX0_runsAhead 39 = .ok (.if_icmp .gt 36, 3) := by decide +kernel
theorem dX0_runsAhead_42 : decode cX0_runsAhead 42 = .ok (.iload 5, 2) := by decide +kernel
theorem dX0_runsAhead_44 : decode cX0_runsAhead 44 = .ok (.bipush 12, 2) := by decide +kernel
theorem dX0_runsAhead_46 : decode cX0_runsAhead 46 = .ok (.if_icmp .gt 29, 3) := by decide +kernel
theorem dX0_runsAhead_49 : decode cX0_runsAhead 49 = .ok (.aload_n 0, 1) := by decide +kernel
theorem dX0_runsAhead_50 : decode cX0_runsAhead 50 = .ok (.iload_n 2, 1) := by decide +kernel
theorem dX0_runsAhead_51 : decode cX0_runsAhead 51 = .ok (.iload 5, 2) := by decide +kernel
theorem dX0_runsAhead_53 : decode cX0_runsAhead 53 = .ok (.aload_n 1, 1) := by decide +kernel
theorem dX0_runsAhead_54 : decode cX0_runsAhead 54 = .ok (.aload_n 0, 1) := by decide +kernel
theorem dX0_runsAhead_55 : decode cX0_runsAhead 55 = .ok (.getfield 25, 3) := by decide +kernel
theorem dX0_runsAhead_58 : decode cX0_runsAhead 58 = .ok (.iload 5, 2) := by decide +kernel
theorem dX0_runsAhead_60 : decode cX0_runsAhead 60 = .ok (.iadd, 1) := by decide +kernel
theorem dX0_runsAhead_61 : decode cX0_runsAhead 61 = .ok (.iload 4, 2) := by decide +kernel
theorem dX0_runsAhead_63 : decode cX0_runsAhead 63 = .ok (.invokevirtual 43, 3) := by decide +kernel
theorem dX0_runsAhead_66 : decode cX0_runsAhead 66 = .ok (.invokevirtual 46, 3) := by decide +kernel
theorem dX0_runsAhead_69 : decode cX0_runsAhead 69 = .ok (.iinc 5 1, 3) := by decide +kernel
theorem dX0_runsAhead_72 : decode cX0_runsAhead 72 = .ok (.goto (-36), 3) := by decide +kernel
theorem dX0_runsAhead_75 : decode cX0_runsAhead 75 = .ok (.lconst 0, 1) := by decide +kernel
theorem dX0_runsAhead_76 : decode cX0_runsAhead 76 = .ok (.lstore 5, 2) := by decide +kernel
theorem dX0_runsAhead_78 : decode cX0_runsAhead 78 = .ok (.iconst 0, 1) := by decide +kernel
theorem dX0_runsAhead_79 : decode cX0_runsAhead 79 = .ok (.istore 7, 2) := by decide +kernel
theorem dX0_runsAhead_81 : decode cX0_runsAhead 81 = .ok (.iload 7, 2) := by decide +kernel
theorem dX0_runsAhead_83 : decode cX0_runsAhead 83 = .ok (.bipush 12, 2) := by decide +kernel
theorem dX0_runsAhead_85 : decode cX0_runsAhead 85 = .ok (.if_icmp .gt 21, 3) := by decide +kernel
theorem dX0_runsAhead_88 : decode cX0_runsAhead 88 = .ok (.lload 5, 2) := by decide +kernel
theorem dX0_runsAhead_90 : decode cX0_runsAhead 90 = .ok (.aload_n 0, 1) := by decide +kernel
theorem dX0_runsAhead_91 : decode cX0_runsAhead 91 = .ok (.getfield 15, 3) := by decide +kernel
theorem dX0_runsAhead_94 : decode cX0_runsAhead 94 = .ok (.iload 7, 2) := by decide +kernel
theorem dX0_runsAhead_96 : decode cX0_runsAhead 96 = .ok (.laload, 1) := by decide +kernel
theorem dX0_runsAhead_97 : decode cX0_runsAhead 97 = .ok (.ladd, 1) := by decide +kernel
theorem dX0_runsAhead_98 : decode cX0_runsAhead 98 = .ok (.lstore 5, 2) := by decide +kernel
theorem dX0_runsAhead_100 : decode cX0_runsAhead 100 = .ok (.iinc 7 1, 3) := by decide +kernel
theorem dX0_runsAhead_103 : decode cX0_runsAhead 103 = .ok (.goto (-22), 3) := by decide +kernel
theorem dX0_runsAhead_106 : decode cX0_runsAhead 106 = .ok (.lload 5, 2) := by decide +kernel
theorem dX0_runsAhead_108 : decode cX0_runsAhead 108 = .ok (.lreturn, 1) := by decide +kernel
theorem dX0_chanceMinute_0 : decode cX0_chanceMinute 0 = .ok (.iload_n 2, 1) := by decide +kernel
theorem dX0_chanceMinute_1 : decode cX0_chanceMinute 1 = .ok (.bipush 12, 2) := by decide +kernel
theorem dX0_chanceMinute_3 : decode cX0_chanceMinute 3 = .ok (.invokestatic 50, 3) := by decide +kernel
theorem dX0_chanceMinute_6 : decode cX0_chanceMinute 6 = .ok (.istore 4, 2) := by decide +kernel
theorem dX0_chanceMinute_8 : decode cX0_chanceMinute 8 = .ok (.iload 4, 2) := by decide +kernel
theorem dX0_chanceMinute_10 : decode cX0_chanceMinute 10 = .ok (.ifCond .lt 74, 3) := by decide +kernel
theorem dX0_chanceMinute_13 : decode cX0_chanceMinute 13 = .ok (.aload_n 0, 1) := by decide +kernel
theorem dX0_chanceMinute_14 : decode cX0_chanceMinute 14 = .ok (.getfield 15, 3) := by decide +kernel
theorem dX0_chanceMinute_17 : decode cX0_chanceMinute 17 = .ok (.iload 4, 2) := by decide +kernel
theorem dX0_chanceMinute_19 : decode cX0_chanceMinute 19 = .ok (.laload, 1) := by decide +kernel
theorem dX0_chanceMinute_20 : decode cX0_chanceMinute 20 = .ok (.iload_n 1, 1) := by decide +kernel
theorem dX0_chanceMinute_21 : decode cX0_chanceMinute 21 = .ok (.i2l, 1) := by decide +kernel
theorem dX0_chanceMinute_22 : decode cX0_chanceMinute 22 = .ok (.lmul, 1) := by decide +kernel
theorem dX0_chanceMinute_23 : decode cX0_chanceMinute 23 = .ok (.lstore 5, 2) := by decide +kernel
theorem dX0_chanceMinute_25 : decode cX0_chanceMinute 25 = .ok (.iload 4, 2) := by decide +kernel
theorem dX0_chanceMinute_27 : decode cX0_chanceMinute 27 = .ok (.ifCond .le 21, 3) := by decide +kernel
theorem dX0_chanceMinute_30 : decode cX0_chanceMinute 30 = .ok (.aload_n 0, 1) := by decide +kernel
theorem dX0_chanceMinute_31 : decode cX0_chanceMinute 31 = .ok (.getfield 15, 3) := by decide +kernel
theorem dX0_chanceMinute_34 : decode cX0_chanceMinute 34 = .ok (.iload 4, 2) := by decide +kernel
theorem dX0_chanceMinute_36 : decode cX0_chanceMinute 36 = .ok (.iconst 1, 1) := by decide +kernel
theorem dX0_chanceMinute_37 : decode cX0_chanceMinute 37 = .ok (.isub, 1) := by decide +kernel
theorem dX0_chanceMinute_38 : decode cX0_chanceMinute 38 = .ok (.laload, 1) := by decide +kernel
theorem dX0_chanceMinute_39 : decode cX0_chanceMinute 39 = .ok (.bipush 10, 2) := by decide +kernel
theorem dX0_chanceMinute_41 : decode cX0_chanceMinute 41 = .ok (.iload_n 1, 1) := by decide +kernel
theorem dX0_chanceMinute_42 : decode cX0_chanceMinute 42 = .ok (.isub, 1) := by decide +kernel
theorem dX0_chanceMinute_43 : decode cX0_chanceMinute 43 = .ok (.i2l, 1) := by decide +kernel
theorem dX0_chanceMinute_44 : decode cX0_chanceMinute 44 = .ok (.lmul, 1) := by decide +kernel
theorem dX0_chanceMinute_45 : decode cX0_chanceMinute 45 = .ok (.goto 4, 3) := by decide +kernel
theorem dX0_chanceMinute_48 : decode cX0_chanceMinute 48 = .ok (.lconst 0, 1) := by decide +kernel
theorem dX0_chanceMinute_49 : decode cX0_chanceMinute 49 = .ok (.lstore 7, 2) := by decide +kernel
theorem dX0_chanceMinute_51 : decode cX0_chanceMinute 51 = .ok (.aload_n 0, 1) := by decide +kernel
theorem dX0_chanceMinute_52 : decode cX0_chanceMinute 52 = .ok (.getfield 15, 3) := by decide +kernel
theorem dX0_chanceMinute_55 : decode cX0_chanceMinute 55 = .ok (.iload 4, 2) := by decide +kernel
theorem dX0_chanceMinute_57 : decode cX0_chanceMinute 57 = .ok (.aload_n 0, 1) := by decide +kernel
theorem dX0_chanceMinute_58 : decode cX0_chanceMinute 58 = .ok (.getfield 9, 3) := by decide +kernel
theorem dX0_chanceMinute_61 : decode cX0_chanceMinute 61 = .ok (.iload 4, 2) := by decide +kernel
theorem dX0_chanceMinute_63 : decode cX0_chanceMinute 63 = .ok (.iaload, 1) := by decide +kernel
theorem dX0_chanceMinute_64 : decode cX0_chanceMinute 64 = .ok (.iload_n 3, 1) := by decide +kernel
theorem dX0_chanceMinute_65 : decode cX0_chanceMinute 65 = .ok (.if_icmp .le 11, 3) := by decide +kernel
theorem dX0_chanceMinute_68 : decode cX0_chanceMinute 68 = .ok (.lload 5, 2) := by decide +kernel
theorem dX0_chanceMinute_70 : decode cX0_chanceMinute 70 = .ok (.lload 7, 2) := by decide +kernel
theorem dX0_chanceMinute_72 : decode cX0_chanceMinute 72 = .ok (.ladd, 1) := by decide +kernel
theorem dX0_chanceMinute_73 : decode cX0_chanceMinute 73 = .ok (.goto 4, 3) := by decide +kernel
theorem dX0_chanceMinute_76 : decode cX0_chanceMinute 76 = .ok (.lconst 0, 1) := by decide +kernel
theorem dX0_chanceMinute_77 : decode cX0_chanceMinute 77 = .ok (.lastore, 1) := by decide +kernel
theorem dX0_chanceMinute_78 : decode cX0_chanceMinute 78 = .ok (.iinc 4 (-1), 3) := by decide +kernel
theorem dX0_chanceMinute_81 : decode cX0_chanceMinute 81 = .ok (.goto (-73), 3) := by decide +kernel
theorem dX0_chanceMinute_84 : decode cX0_chanceMinute 84 = .ok (.return_, 1) := by decide +kernel
theorem dX1_init_0 : decode cX1_init 0 = .ok (.aload_n 0, 1) := by decide +kernel
theorem dX1_init_1 : decode cX1_init 1 = .ok (.invokespecial 3, 3) := by decide +kernel
theorem dX1_init_4 : decode cX1_init 4 = .ok (.aload_n 0, 1) := by decide +kernel
theorem dX1_init_5 : decode cX1_init 5 = .ok (.bipush 12, 2) := by decide +kernel
theorem dX1_init_7 : decode cX1_init 7 = .ok (.newarray .int, 2) := by decide +kernel
theorem dX1_init_9 : decode cX1_init 9 = .ok (.putfield 9, 3) := by decide +kernel
theorem dX1_init_12 : decode cX1_init 12 = .ok (.aload_n 0, 1) := by decide +kernel
theorem dX1_init_13 : decode cX1_init 13 = .ok (.iconst 5, 1) := by decide +kernel
theorem dX1_init_14 : decode cX1_init 14 = .ok (.newarray .int, 2) := by decide +kernel
theorem dX1_init_16 : decode cX1_init 16 = .ok (.putfield 15, 3) := by decide +kernel
theorem dX1_init_19 : decode cX1_init 19 = .ok (.aload_n 0, 1) := by decide +kernel
theorem dX1_init_20 : decode cX1_init 20 = .ok (.iconst 5, 1) := by decide +kernel
theorem dX1_init_21 : decode cX1_init 21 = .ok (.newarray .int, 2) := by decide +kernel
theorem dX1_init_23 : decode cX1_init 23 = .ok (.putfield 18, 3) := by decide +kernel
theorem dX1_init_26 : decode cX1_init 26 = .ok (.aload_n 0, 1) := by decide +kernel
theorem dX1_init_27 : decode cX1_init 27 = .ok (.iconst 4, 1) := by decide +kernel
theorem dX1_init_28 : decode cX1_init 28 = .ok (.newarray .int, 2) := by decide +kernel
theorem dX1_init_30 : decode cX1_init 30 = .ok (.putfield 21, 3) := by decide +kernel
theorem dX1_init_33 : decode cX1_init 33 = .ok (.aload_n 0, 1) := by decide +kernel
theorem dX1_init_34 : decode cX1_init 34 = .ok (.iconst 4, 1) := by decide +kernel
theorem dX1_init_35 : decode cX1_init 35 = .ok (.newarray .int, 2) := by decide +kernel
theorem dX1_init_37 : decode cX1_init 37 = .ok (.putfield 24, 3) := by decide +kernel
theorem dX1_init_40 : decode cX1_init 40 = .ok (.aload_n 0, 1) := by decide +kernel
theorem dX1_init_41 : decode cX1_init 41 = .ok (.new 27, 3) := by decide +kernel
theorem dX1_init_44 : decode cX1_init 44 = .ok (.dup, 1) := by decide +kernel
theorem dX1_init_45 : decode cX1_init 45 = .ok (.invokespecial 29, 3) := by decide +kernel
theorem dX1_init_48 : decode cX1_init 48 = .ok (.putfield 30, 3) := by decide +kernel
theorem dX1_init_51 : decode cX1_init 51 = .ok (.aload_n 0, 1) := by decide +kernel
theorem dX1_init_52 : decode cX1_init 52 = .ok (.invokevirtual 34, 3) := by decide +kernel
theorem dX1_init_55 : decode cX1_init 55 = .ok (.return_, 1) := by decide +kernel
theorem dX1_reset_0 : decode cX1_reset 0 = .ok (.aload_n 0, 1) := by decide +kernel
theorem dX1_reset_1 : decode cX1_reset 1 = .ok (.bipush 8, 2) := by decide +kernel
theorem dX1_reset_3 : decode cX1_reset 3 = .ok (.putfield 37, 3) := by decide +kernel
theorem dX1_reset_6 : decode cX1_reset 6 = .ok (.aload_n 0, 1) := by decide +kernel
theorem dX1_reset_7 : decode cX1_reset 7 = .ok (.iconst 3, 1) := by decide +kernel
theorem dX1_reset_8 : decode cX1_reset 8 = .ok (.putfield 41, 3) := by decide +kernel
theorem dX1_reset_11 : decode cX1_reset 11 = .ok (.aload_n 0, 1) := by decide +kernel
theorem dX1_reset_12 : decode cX1_reset 12 = .ok (.iconst 5, 1) := by decide +kernel
theorem dX1_reset_13 : decode cX1_reset 13 = .ok (.putfield 44, 3) := by decide +kernel
theorem dX1_reset_16 : decode cX1_reset 16 = .ok (.aload_n 0, 1) := by decide +kernel
theorem dX1_reset_17 : decode cX1_reset 17 = .ok (.iconst 0, 1) := by decide +kernel
theorem dX1_reset_18 : decode cX1_reset 18 = .ok (.putfield 47, 3) := by decide +kernel
theorem dX1_reset_21 : decode cX1_reset 21 = .ok (.aload_n 0, 1) := by decide +kernel
theorem dX1_reset_22 : decode cX1_reset 22 = .ok (.bipush (-9), 2) := by decide +kernel
theorem dX1_reset_24 : decode cX1_reset 24 = .ok (.putfield 51, 3) := by decide +kernel
theorem dX1_reset_27 : decode cX1_reset 27 = .ok (.aload_n 0, 1) := by decide +kernel
theorem dX1_reset_28 : decode cX1_reset 28 = .ok (.iconst 0, 1) := by decide +kernel
theorem dX1_reset_29 : decode cX1_reset 29 = .ok (.putfield 54, 3) := by decide +kernel
theorem dX1_reset_32 : decode cX1_reset 32 = .ok (.aload_n 0, 1) := by decide +kernel
theorem dX1_reset_33 : decode cX1_reset 33 = .ok (.iconst 0, 1) := by decide +kernel
theorem dX1_reset_34 : decode cX1_reset 34 = .ok (.putfield 57, 3) := by decide +kernel
theorem dX1_reset_37 : decode cX1_reset 37 = .ok (.aload_n 0, 1) := by decide +kernel
theorem dX1_reset_38 : decode cX1_reset 38 = .ok (.iconst 0, 1) := by decide +kernel
theorem dX1_reset_39 : decode cX1_reset 39 = .ok (.putfield 60, 3) := by decide +kernel
theorem dX1_reset_42 : decode cX1_reset 42 = .ok (.iconst 0, 1) := by decide +kernel
theorem dX1_reset_43 : decode cX1_reset 43 = .ok (.istore_n 1, 1) := by decide +kernel
theorem dX1_reset_44 : decode cX1_reset 44 = .ok (.iload_n 1, 1) := by decide +kernel
theorem dX1_reset_45 : decode cX1_reset 45 = .ok (.bipush 12, 2) := by decide +kernel
theorem dX1_reset_47 : decode cX1_reset 47 = .ok (.if_icmp .ge 16, 3) := by decide +kernel
theorem dX1_reset_50 : decode cX1_reset 50 = .ok (.aload_n 0, 1) := by decide +kernel
theorem dX1_reset_51 : decode cX1_reset 51 = .ok (.getfield 9, 3) := by decide +kernel
theorem dX1_reset_54 : decode cX1_reset 54 = .ok (.iload_n 1, 1) := by decide +kernel
theorem dX1_reset_55 : decode cX1_reset 55 = .ok (.iconst 1, 1) := by decide +kernel
theorem dX1_reset_56 : decode cX1_reset 56 = .ok (.iastore, 1) := by decide +kernel
theorem dX1_reset_57 : decode cX1_reset 57 = .ok (.iinc 1 1, 3) := by decide +kernel
theorem dX1_reset_60 : decode cX1_reset 60 = .ok (.goto (-16), 3) := by decide +kernel
theorem dX1_reset_63 : decode cX1_reset 63 = .ok (.return_, 1) := by decide +kernel
theorem dX1_addWagon_0 : decode cX1_addWagon 0 = .ok (.aload_n 0, 1) := by decide +kernel
theorem dX1_addWagon_1 : decode cX1_addWagon 1 = .ok (.getfield 57, 3) := by decide +kernel
theorem dX1_addWagon_4 : decode cX1_addWagon 4 = .ok (.ifCond .lt 11, 3) := by decide +kernel
theorem dX1_addWagon_7 : decode cX1_addWagon 7 = .ok (.aload_n 0, 1) := by decide +kernel
theorem dX1_addWagon_8 : decode cX1_addWagon 8 = .ok (.getfield 57, 3) := by decide +kernel
theorem dX1_addWagon_11 : decode cX1_addWagon 11 = .ok (.iconst 5, 1) := by decide +kernel
theorem dX1_addWagon_12 : decode cX1_addWagon 12 = .ok (.if_icmp .lt 4, 3) := by decide +kernel
theorem dX1_addWagon_15 : decode cX1_addWagon 15 = .ok (.return_, 1) := by decide +kernel
theorem dX1_addWagon_16 : decode cX1_addWagon 16 = .ok (.aload_n 0, 1) := by decide +kernel
theorem dX1_addWagon_17 : decode cX1_addWagon 17 = .ok (.getfield 15, 3) := by decide +kernel
theorem dX1_addWagon_20 : decode cX1_addWagon 20 = .ok (.aload_n 0, 1) := by decide +kernel
theorem dX1_addWagon_21 : decode cX1_addWagon 21 = .ok (.getfield 57, 3) := by decide +kernel
theorem dX1_addWagon_24 : decode cX1_addWagon 24 = .ok (.iload_n 2, 1) := by decide +kernel
theorem dX1_addWagon_25 : decode cX1_addWagon 25 = .ok (.iastore, 1) := by decide +kernel
theorem dX1_addWagon_26 : decode cX1_addWagon 26 = .ok (.aload_n 0, 1) := by decide +kernel
theorem dX1_addWagon_27 : decode cX1_addWagon 27 = .ok (.getfield 18, 3) := by decide +kernel
theorem dX1_addWagon_30 : decode cX1_addWagon 30 = .ok (.aload_n 0, 1) := by decide +kernel
theorem dX1_addWagon_31 : decode cX1_addWagon 31 = .ok (.getfield 57, 3) := by decide +kernel
theorem dX1_addWagon_34 : decode cX1_addWagon 34 = .ok (.iload_n 3, 1) := by decide +kernel
theorem dX1_addWagon_35 : decode cX1_addWagon 35 = .ok (.iastore, 1) := by decide +kernel
theorem dX1_addWagon_36 : decode cX1_addWagon 36 = .ok (.aload_n 0, 1) := by decide +kernel
theorem dX1_addWagon_37 : decode cX1_addWagon 37 = .ok (.getfield 30, 3) := by decide +kernel
theorem dX1_addWagon_40 : decode cX1_addWagon 40 = .ok (.getfield 63, 3) := by decide +kernel
theorem dX1_addWagon_43 : decode cX1_addWagon 43 = .ok (.aload_n 0, 1) := by decide +kernel
theorem dX1_addWagon_44 : decode cX1_addWagon 44 = .ok (.getfield 57, 3) := by decide +kernel
theorem dX1_addWagon_47 : decode cX1_addWagon 47 = .ok (.iload_n 1, 1) := by decide +kernel
theorem dX1_addWagon_48 : decode cX1_addWagon 48 = .ok (.iastore, 1) := by decide +kernel
theorem dX1_addWagon_49 : decode cX1_addWagon 49 = .ok (.aload_n 0, 1) := by decide +kernel
theorem dX1_addWagon_50 : decode cX1_addWagon 50 = .ok (.getfield 30, 3) := by decide +kernel
theorem dX1_addWagon_53 : decode cX1_addWagon 53 = .ok (.getfield 66, 3) := by decide +kernel
theorem dX1_addWagon_56 : decode cX1_addWagon 56 = .ok (.aload_n 0, 1) := by decide +kernel
theorem dX1_addWagon_57 : decode cX1_addWagon 57 = .ok (.getfield 57, 3) := by decide +kernel
theorem dX1_addWagon_60 : decode cX1_addWagon 60 = .ok (.iload 4, 2) := by decide +kernel
theorem dX1_addWagon_62 : decode cX1_addWagon 62 = .ok (.iastore, 1) := by decide +kernel
theorem dX1_addWagon_63 : decode cX1_addWagon 63 = .ok (.aload_n 0, 1) := by decide +kernel
theorem dX1_addWagon_64 : decode cX1_addWagon 64 = .ok (.dup, 1) := by decide +kernel
theorem dX1_addWagon_65 : decode cX1_addWagon 65 = .ok (.getfield 57, 3) := by decide +kernel
theorem dX1_addWagon_68 : decode cX1_addWagon 68 = .ok (.iconst 1, 1) := by decide +kernel
theorem dX1_addWagon_69 : decode cX1_addWagon 69 = .ok (.iadd, 1) := by decide +kernel
theorem dX1_addWagon_70 : decode cX1_addWagon 70 = .ok (.putfield 57, 3) := by decide +kernel
theorem dX1_addWagon_73 : decode cX1_addWagon 73 = .ok (.return_, 1) := by decide +kernel
theorem dX1_addPair_0 : decode cX1_addPair 0 = .ok (.aload_n 0, 1) := by decide +kernel
theorem dX1_addPair_1 : decode cX1_addPair 1 = .ok (.getfield 60, 3) := by decide +kernel
theorem dX1_addPair_4 : decode cX1_addPair 4 = .ok (.ifCond .lt 11, 3) := by decide +kernel
theorem dX1_addPair_7 : decode cX1_addPair 7 = .ok (.aload_n 0, 1) := by decide +kernel
theorem dX1_addPair_8 : decode cX1_addPair 8 = .ok (.getfield 60, 3) := by decide +kernel
theorem dX1_addPair_11 : decode cX1_addPair 11 = .ok (.iconst 4, 1) := by decide +kernel
theorem dX1_addPair_12 : decode cX1_addPair 12 = .ok (.if_icmp .lt 4, 3) := by decide +kernel
theorem dX1_addPair_15 : decode cX1_addPair 15 = .ok (.return_, 1) := by decide +kernel
theorem dX1_addPair_16 : decode cX1_addPair 16 = .ok (.aload_n 0, 1) := by decide +kernel
theorem dX1_addPair_17 : decode cX1_addPair 17 = .ok (.getfield 21, 3) := by decide +kernel
theorem dX1_addPair_20 : decode cX1_addPair 20 = .ok (.aload_n 0, 1) := by decide +kernel
theorem dX1_addPair_21 : decode cX1_addPair 21 = .ok (.getfield 60, 3) := by decide +kernel
theorem dX1_addPair_24 : decode cX1_addPair 24 = .ok (.iload_n 1, 1) := by decide +kernel
theorem dX1_addPair_25 : decode cX1_addPair 25 = .ok (.iastore, 1) := by decide +kernel
theorem dX1_addPair_26 : decode cX1_addPair 26 = .ok (.aload_n 0, 1) := by decide +kernel
theorem dX1_addPair_27 : decode cX1_addPair 27 = .ok (.getfield 24, 3) := by decide +kernel
theorem dX1_addPair_30 : decode cX1_addPair 30 = .ok (.aload_n 0, 1) := by decide +kernel
theorem dX1_addPair_31 : decode cX1_addPair 31 = .ok (.getfield 60, 3) := by decide +kernel
theorem dX1_addPair_34 : decode cX1_addPair 34 = .ok (.iload_n 2, 1) := by decide +kernel
theorem dX1_addPair_35 : decode cX1_addPair 35 = .ok (.iastore, 1) := by decide +kernel
theorem dX1_addPair_36 : decode cX1_addPair 36 = .ok (.aload_n 0, 1) := by decide +kernel
theorem dX1_addPair_37 : decode cX1_addPair 37 = .ok (.dup, 1) := by decide +kernel
theorem dX1_addPair_38 : decode cX1_addPair 38 = .ok (.getfield 60, 3) := by decide +kernel
theorem dX1_addPair_41 : decode cX1_addPair 41 = .ok (.iconst 1, 1) := by decide +kernel
theorem dX1_addPair_42 : decode cX1_addPair 42 = .ok (.iadd, 1) := by decide +kernel
theorem dX1_addPair_43 : decode cX1_addPair 43 = .ok (.putfield 60, 3) := by decide +kernel
theorem dX1_addPair_46 : decode cX1_addPair 46 = .ok (.return_, 1) := by decide +kernel
theorem dX1_settle_0 : decode cX1_settle 0 = .ok (.iconst 0, 1) := by decide +kernel
theorem dX1_settle_1 : decode cX1_settle 1 = .ok (.istore_n 1, 1) := by decide +kernel
theorem dX1_settle_2 : decode cX1_settle 2 = .ok (.iload_n 1, 1) := by decide +kernel
theorem dX1_settle_3 : decode cX1_settle 3 = .ok (.aload_n 0, 1) := by decide +kernel
theorem dX1_settle_4 : decode cX1_settle 4 = .ok (.getfield 60, 3) := by decide +kernel
theorem dX1_settle_7 : decode cX1_settle 7 = .ok (.if_icmp .ge 18, 3) := by decide +kernel
theorem dX1_settle_10 : decode cX1_settle 10 = .ok (.iload_n 1, 1) := by decide +kernel
theorem dX1_settle_11 : decode cX1_settle 11 = .ok (.iconst 4, 1) := by decide +kernel
theorem dX1_settle_12 : decode cX1_settle 12 = .ok (.if_icmp .ge 13, 3) := by decide +kernel
theorem dX1_settle_15 : decode cX1_settle 15 = .ok (.aload_n 0, 1) := by decide +kernel
theorem dX1_settle_16 : decode cX1_settle 16 = .ok (.invokevirtual 69, 3) := by decide +kernel
theorem dX1_settle_19 : decode cX1_settle 19 = .ok (.iinc 1 1, 3) := by decide +kernel
theorem dX1_settle_22 : decode cX1_settle 22 = .ok (.goto (-20), 3) := by decide +kernel
theorem dX1_settle_25 : decode cX1_settle 25 = .ok (.iconst 0, 1) := by decide +kernel
theorem dX1_settle_26 : decode cX1_settle 26 = .ok (.istore_n 1, 1) := by decide +kernel
theorem dX1_settle_27 : decode cX1_settle 27 = .ok (.iload_n 1, 1) := by decide +kernel
theorem dX1_settle_28 : decode cX1_settle 28 = .ok (.aload_n 0, 1) := by decide +kernel
theorem dX1_settle_29 : decode cX1_settle 29 = .ok (.getfield 57, 3) := by decide +kernel
theorem dX1_settle_32 : decode cX1_settle 32 = .ok (.if_icmp .ge 37, 3) := by decide +kernel
theorem dX1_settle_35 : decode cX1_settle 35 = .ok (.iload_n 1, 1) := by decide +kernel
theorem dX1_settle_36 : decode cX1_settle 36 = .ok (.iconst 5, 1) := by decide +kernel
theorem dX1_settle_37 : decode cX1_settle 37 = .ok (.if_icmp .ge 32, 3) := by decide +kernel
theorem dX1_settle_40 : decode cX1_settle 40 = .ok (.aload_n 0, 1) := by decide +kernel
theorem dX1_settle_41 : decode cX1_settle 41 = .ok (.getfield 30, 3) := by decide +kernel
theorem dX1_settle_44 : decode cX1_settle 44 = .ok (.getfield 72, 3) := by decide +kernel
theorem dX1_settle_47 : decode cX1_settle 47 = .ok (.iload_n 1, 1) := by decide +kernel
theorem dX1_settle_48 : decode cX1_settle 48 = .ok (.aload_n 0, 1) := by decide +kernel
theorem dX1_settle_49 : decode cX1_settle 49 = .ok (.iload_n 1, 1) := by decide +kernel
theorem dX1_settle_50 : decode cX1_settle 50 = .ok (.aload_n 0, 1) := by decide +kernel
theorem dX1_settle_51 : decode cX1_settle 51 = .ok (.getfield 30, 3) := by decide +kernel
theorem dX1_settle_54 : decode cX1_settle 54 = .ok (.getfield 63, 3) := by decide +kernel
theorem dX1_settle_57 : decode cX1_settle 57 = .ok (.iload_n 1, 1) := by decide +kernel
theorem dX1_settle_58 : decode cX1_settle 58 = .ok (.iaload, 1) := by decide +kernel
theorem dX1_settle_59 : decode cX1_settle 59 = .ok (.invokevirtual 75, 3) := by decide +kernel
theorem dX1_settle_62 : decode cX1_settle 62 = .ok (.iastore, 1) := by decide +kernel
theorem dX1_settle_63 : decode cX1_settle 63 = .ok (.iinc 1 1, 3) := by decide +kernel
theorem dX1_settle_66 : decode cX1_settle 66 = .ok (.goto (-39), 3) := by decide +kernel
theorem dX1_settle_69 : decode cX1_settle 69 = .ok (.return_, 1) := by decide +kernel
theorem dX1_joinPaces_0 : decode cX1_joinPaces 0 = .ok (.iconst 0, 1) := by decide +kernel
theorem dX1_joinPaces_1 : decode cX1_joinPaces 1 = .ok (.istore_n 1, 1) := by decide +kernel
theorem dX1_joinPaces_2 : decode cX1_joinPaces 2 = .ok (.iload_n 1, 1) := by decide +kernel
theorem dX1_joinPaces_3 : decode cX1_joinPaces 3 = .ok (.aload_n 0, 1) := by decide +kernel
theorem dX1_joinPaces_4 : decode cX1_joinPaces 4 = .ok (.getfield 60, 3) := by decide +kernel
theorem dX1_joinPaces_7 : decode cX1_joinPaces 7 = .ok (.if_icmp .ge 77, 3) := by decide +kernel
theorem dX1_joinPaces_10 : decode cX1_joinPaces 10 = .ok (.iload_n 1, 1) := by decide +kernel
theorem dX1_joinPaces_11 : decode cX1_joinPaces 11 = .ok (.iconst 4, 1) := by decide +kernel
theorem dX1_joinPaces_12 : decode cX1_joinPaces 12 = .ok (.if_icmp .ge 72, 3) := by decide +kernel
theorem dX1_joinPaces_15 : decode cX1_joinPaces 15 = .ok (.aload_n 0, 1) := by decide +kernel
theorem dX1_joinPaces_16 : decode cX1_joinPaces 16 = .ok (.getfield 21, 3) := by decide +kernel
theorem dX1_joinPaces_19 : decode cX1_joinPaces 19 = .ok (.iload_n 1, 1) := by decide +kernel
theorem dX1_joinPaces_20 : decode cX1_joinPaces 20 = .ok (.iaload, 1) := by decide +kernel
theorem dX1_joinPaces_21 : decode cX1_joinPaces 21 = .ok (.istore_n 2, 1) := by decide +kernel
theorem dX1_joinPaces_22 : decode cX1_joinPaces 22 = .ok (.aload_n 0, 1) := by decide +kernel
theorem dX1_joinPaces_23 : decode cX1_joinPaces 23 = .ok (.getfield 24, 3) := by decide +kernel
theorem dX1_joinPaces_26 : decode cX1_joinPaces 26 = .ok (.iload_n 1, 1) := by decide +kernel
theorem dX1_joinPaces_27 : decode cX1_joinPaces 27 = .ok (.iaload, 1) := by decide +kernel
theorem dX1_joinPaces_28 : decode cX1_joinPaces 28 = .ok (.istore_n 3, 1) := by decide +kernel
theorem dX1_joinPaces_29 : decode cX1_joinPaces 29 = .ok (.aload_n 0, 1) := by decide +kernel
theorem dX1_joinPaces_30 : decode cX1_joinPaces 30 = .ok (.iload_n 2, 1) := by decide +kernel
theorem dX1_joinPaces_31 : decode cX1_joinPaces 31 = .ok (.invokevirtual 79, 3) := by decide +kernel
theorem dX1_joinPaces_34 : decode cX1_joinPaces 34 = .ok (.ifCond .eq 44, 3) := by decide +kernel
theorem dX1_joinPaces_37 : decode cX1_joinPaces 37 = .ok (.aload_n 0, 1) := by decide +kernel
theorem dX1_joinPaces_38 : decode cX1_joinPaces 38 = .ok (.iload_n 3, 1) := by decide +kernel
theorem dX1_joinPaces_39 : decode cX1_joinPaces 39 = .ok (.invokevirtual 79, 3) := by decide +kernel
theorem dX1_joinPaces_42 : decode cX1_joinPaces 42 = .ok (.ifCond .eq 36, 3) := by decide +kernel
theorem dX1_joinPaces_45 : decode cX1_joinPaces 45 = .ok (.aload_n 0, 1) := by decide +kernel
theorem dX1_joinPaces_46 : decode cX1_joinPaces 46 = .ok (.getfield 15, 3) := by decide +kernel
theorem dX1_joinPaces_49 : decode cX1_joinPaces 49 = .ok (.iload_n 2, 1) := by decide +kernel
theorem dX1_joinPaces_50 : decode cX1_joinPaces 50 = .ok (.iaload, 1) := by decide +kernel
theorem dX1_joinPaces_51 : decode cX1_joinPaces 51 = .ok (.aload_n 0, 1) := by decide +kernel
theorem dX1_joinPaces_52 : decode cX1_joinPaces 52 = .ok (.getfield 15, 3) := by decide +kernel
theorem dX1_joinPaces_55 : decode cX1_joinPaces 55 = .ok (.iload_n 3, 1) := by decide +kernel
theorem dX1_joinPaces_56 : decode cX1_joinPaces 56 = .ok (.iaload, 1) := by decide +kernel
theorem dX1_joinPaces_57 : decode cX1_joinPaces 57 = .ok (.invokestatic 83, 3) := by decide +kernel
theorem dX1_joinPaces_60 : decode cX1_joinPaces 60 = .ok (.istore 4, 2) := by decide +kernel
theorem dX1_joinPaces_62 : decode cX1_joinPaces 62 = .ok (.aload_n 0, 1) := by decide +kernel
theorem dX1_joinPaces_63 : decode cX1_joinPaces 63 = .ok (.getfield 15, 3) := by decide +kernel
theorem dX1_joinPaces_66 : decode cX1_joinPaces 66 = .ok (.iload_n 2, 1) := by decide +kernel
theorem dX1_joinPaces_67 : decode cX1_joinPaces 67 = .ok (.iload 4, 2) := by decide +kernel
theorem dX1_joinPaces_69 : decode cX1_joinPaces 69 = .ok (.iastore, 1) := by decide +kernel
theorem dX1_joinPaces_70 : decode cX1_joinPaces 70 = .ok (.aload_n 0, 1) := by decide +kernel
theorem dX1_joinPaces_71 : decode cX1_joinPaces 71 = .ok (.getfield 15, 3) := by decide +kernel
theorem dX1_joinPaces_74 : decode cX1_joinPaces 74 = .ok (.iload_n 3, 1) := by decide +kernel
theorem dX1_joinPaces_75 : decode cX1_joinPaces 75 = .ok (.iload 4, 2) := by decide +kernel
theorem dX1_joinPaces_77 : decode cX1_joinPaces 77 = .ok (.iastore, 1) := by decide +kernel
theorem dX1_joinPaces_78 : decode cX1_joinPaces 78 = .ok (.iinc 1 1, 3) := by decide +kernel
theorem dX1_joinPaces_81 : decode cX1_joinPaces 81 = .ok (.goto (-79), 3) := by decide +kernel
theorem dX1_joinPaces_84 : decode cX1_joinPaces 84 = .ok (.return_, 1) := by decide +kernel
theorem dX1_hasPlace_0 : decode cX1_hasPlace 0 = .ok (.iload_n 1, 1) := by decide +kernel
theorem dX1_hasPlace_1 : decode cX1_hasPlace 1 = .ok (.ifCond .lt 21, 3) := by decide +kernel
theorem dX1_hasPlace_4 : decode cX1_hasPlace 4 = .ok (.iload_n 1, 1) := by decide +kernel
theorem dX1_hasPlace_5 : decode cX1_hasPlace 5 = .ok (.aload_n 0, 1) := by decide +kernel
theorem dX1_hasPlace_6 : decode cX1_hasPlace 6 = .ok (.getfield 37, 3) := by decide +kernel
theorem dX1_hasPlace_9 : decode cX1_hasPlace 9 = .ok (.if_icmp .ge 13, 3) := by decide +kernel
theorem dX1_hasPlace_12 : decode cX1_hasPlace 12 = .ok (.iload_n 1, 1) := by decide +kernel
theorem dX1_hasPlace_13 : decode cX1_hasPlace 13 = .ok (.bipush 12, 2) := by decide +kernel
theorem dX1_hasPlace_15 : decode cX1_hasPlace 15 = .ok (.if_icmp .ge 7, 3) := by decide +kernel
theorem dX1_hasPlace_18 : decode cX1_hasPlace 18 = .ok (.iconst 1, 1) := by decide +kernel
theorem dX1_hasPlace_19 : decode cX1_hasPlace 19 = .ok (.goto 4, 3) := by decide +kernel
theorem dX1_hasPlace_22 : decode cX1_hasPlace 22 = .ok (.iconst 0, 1) := by decide +kernel
theorem dX1_hasPlace_23 : decode cX1_hasPlace 23 = .ok (.ireturn, 1) := by decide +kernel
theorem dX1_hasWagon_0 : decode cX1_hasWagon 0 = .ok (.iload_n 1, 1) := by decide +kernel
theorem dX1_hasWagon_1 : decode cX1_hasWagon 1 = .ok (.ifCond .lt 20, 3) := by decide +kernel
theorem dX1_hasWagon_4 : decode cX1_hasWagon 4 = .ok (.iload_n 1, 1) := by decide +kernel
theorem dX1_hasWagon_5 : decode cX1_hasWagon 5 = .ok (.aload_n 0, 1) := by decide +kernel
theorem dX1_hasWagon_6 : decode cX1_hasWagon 6 = .ok (.getfield 57, 3) := by decide +kernel
theorem dX1_hasWagon_9 : decode cX1_hasWagon 9 = .ok (.if_icmp .ge 12, 3) := by decide +kernel
theorem dX1_hasWagon_12 : decode cX1_hasWagon 12 = .ok (.iload_n 1, 1) := by decide +kernel
theorem dX1_hasWagon_13 : decode cX1_hasWagon 13 = .ok (.iconst 5, 1) := by decide +kernel
theorem dX1_hasWagon_14 : decode cX1_hasWagon 14 = .ok (.if_icmp .ge 7, 3) := by decide +kernel
theorem dX1_hasWagon_17 : decode cX1_hasWagon 17 = .ok (.iconst 1, 1) := by decide +kernel
theorem dX1_hasWagon_18 : decode cX1_hasWagon 18 = .ok (.goto 4, 3) := by decide +kernel
theorem dX1_hasWagon_21 : decode cX1_hasWagon 21 = .ok (.iconst 0, 1) := by decide +kernel
theorem dX1_hasWagon_22 : decode cX1_hasWagon 22 = .ok (.ireturn, 1) := by decide +kernel
theorem dX1_hasPoints_0 : decode cX1_hasPoints 0 = .ok (.aload_n 0, 1) := by decide +kernel
theorem dX1_hasPoints_1 : decode cX1_hasPoints 1 = .ok (.getfield 54, 3) := by decide +kernel
theorem dX1_hasPoints_4 : decode cX1_hasPoints 4 = .ok (.aload_n 0, 1) := by decide +kernel
theorem dX1_hasPoints_5 : decode cX1_hasPoints 5 = .ok (.iload_n 1, 1) := by decide +kernel
theorem dX1_hasPoints_6 : decode cX1_hasPoints 6 = .ok (.invokevirtual 88, 3) := by decide +kernel
theorem dX1_hasPoints_9 : decode cX1_hasPoints 9 = .ok (.ishr, 1) := by decide +kernel
theorem dX1_hasPoints_10 : decode cX1_hasPoints 10 = .ok (.iconst 1, 1) := by decide +kernel
theorem dX1_hasPoints_11 : decode cX1_hasPoints 11 = .ok (.iand, 1) := by decide +kernel
theorem dX1_hasPoints_12 : decode cX1_hasPoints 12 = .ok (.iconst 1, 1) := by decide +kernel
theorem dX1_hasPoints_13 : decode cX1_hasPoints 13 = .ok (.if_icmp .ne 7, 3) := by decide +kernel
theorem dX1_hasPoints_16 : decode cX1_hasPoints 16 = .ok (.iconst 1, 1) := by decide +kernel
theorem dX1_hasPoints_17 : decode cX1_hasPoints 17 = .ok (.goto 4, 3) := by decide +kernel
theorem dX1_hasPoints_20 : decode cX1_hasPoints 20 = .ok (.iconst 0, 1) := by decide +kernel
theorem dX1_hasPoints_21 : decode cX1_hasPoints 21 = .ok (.ireturn, 1) := by decide +kernel
theorem dX1_placeOf_0 : decode cX1_placeOf 0 = .ok (.aload_n 0, 1) := by decide +kernel
theorem dX1_placeOf_1 : decode cX1_placeOf 1 = .ok (.getfield 37, 3) := by decide +kernel
theorem dX1_placeOf_4 : decode cX1_placeOf 4 = .ok (.iconst 1, 1) := by decide +kernel
theorem dX1_placeOf_5 : decode cX1_placeOf 5 = .ok (.if_icmp .ge 7, 3) := by decide +kernel
theorem dX1_placeOf_8 : decode cX1_placeOf 8 = .ok (.iconst 0, 1) := by decide +kernel
theorem dX1_placeOf_9 : decode cX1_placeOf 9 = .ok (.goto 9, 3) := by decide +kernel
theorem dX1_placeOf_12 : decode cX1_placeOf 12 = .ok (.iload_n 1, 1) := by decide +kernel
theorem dX1_placeOf_13 : decode cX1_placeOf 13 = .ok (.aload_n 0, 1) := by decide +kernel
theorem dX1_placeOf_14 : decode cX1_placeOf 14 = .ok (.getfield 37, 3) := by decide +kernel
theorem dX1_placeOf_17 : decode cX1_placeOf 17 = .ok (.irem, 1) := by decide +kernel
theorem dX1_placeOf_18 : decode cX1_placeOf 18 = .ok (.ireturn, 1) := by decide +kernel
theorem dX1_minutesFor_0 : decode cX1_minutesFor 0 = .ok (.aload_n 0, 1) := by decide +kernel
theorem dX1_minutesFor_1 : decode cX1_minutesFor 1 = .ok (.iload_n 2, 1) := by decide +kernel
theorem dX1_minutesFor_2 : decode cX1_minutesFor 2 = .ok (.invokevirtual 88, 3) := by decide +kernel
theorem dX1_minutesFor_5 : decode cX1_minutesFor 5 = .ok (.istore_n 3, 1) := by decide +kernel
theorem dX1_minutesFor_6 : decode cX1_minutesFor 6 = .ok (.aload_n 0, 1) := by decide +kernel
theorem dX1_minutesFor_7 : decode cX1_minutesFor 7 = .ok (.iload_n 3, 1) := by decide +kernel
theorem dX1_minutesFor_8 : decode cX1_minutesFor 8 = .ok (.invokevirtual 92, 3) := by decide +kernel
theorem dX1_minutesFor_11 : decode cX1_minutesFor 11 = .ok (.ifCond .eq 12, 3) := by decide +kernel
theorem dX1_minutesFor_14 : decode cX1_minutesFor 14 = .ok (.aload_n 0, 1) := by decide +kernel
theorem dX1_minutesFor_15 : decode cX1_minutesFor 15 = .ok (.getfield 9, 3) := by decide +kernel
theorem dX1_minutesFor_18 : decode cX1_minutesFor 18 = .ok (.iload_n 3, 1) := by decide +kernel
theorem dX1_minutesFor_19 : decode cX1_minutesFor 19 = .ok (.iaload, 1) := by decide +kernel
theorem dX1_minutesFor_20 : decode cX1_minutesFor 20 = .ok (.goto 4, 3) := by decide +kernel
theorem dX1_minutesFor_23 : decode cX1_minutesFor 23 = .ok (.iconst 1, 1) := by decide +kernel
theorem dX1_minutesFor_24 : decode cX1_minutesFor 24 = .ok (.aload_n 0, 1) := by decide +kernel
theorem dX1_minutesFor_25 : decode cX1_minutesFor 25 = .ok (.iload_n 1, 1) := by decide +kernel
theorem dX1_minutesFor_26 : decode cX1_minutesFor 26 = .ok (.invokevirtual 79, 3) := by decide +kernel
theorem dX1_minutesFor_29 : decode cX1_minutesFor 29 = .ok (.ifCond .eq 12, 3) := by decide +kernel
theorem dX1_minutesFor_32 : decode cX1_minutesFor 32 = .ok (.aload_n 0, 1) := by decide +kernel
theorem dX1_minutesFor_33 : decode cX1_minutesFor 33 = .ok (.getfield 15, 3) := by decide +kernel
theorem dX1_minutesFor_36 : decode cX1_minutesFor 36 = .ok (.iload_n 1, 1) := by decide +kernel
theorem dX1_minutesFor_37 : decode cX1_minutesFor 37 = .ok (.iaload, 1) := by decide +kernel
theorem dX1_minutesFor_38 : decode cX1_minutesFor 38 = .ok (.goto 4, 3) := by decide +kernel
theorem dX1_minutesFor_41 : decode cX1_minutesFor 41 = .ok (.iconst 0, 1) := by decide +kernel
theorem dX1_minutesFor_42 : decode cX1_minutesFor 42 = .ok (.iadd, 1) := by decide +kernel
theorem dX1_minutesFor_43 : decode cX1_minutesFor 43 = .ok (.ireturn, 1) := by decide +kernel
theorem dX1_sunWay_0 : decode cX1_sunWay 0 = .ok (.aload_n 0, 1) := by decide +kernel
theorem dX1_sunWay_1 : decode cX1_sunWay 1 = .ok (.getfield 41, 3) := by decide +kernel
theorem dX1_sunWay_4 : decode cX1_sunWay 4 = .ok (.iconst 1, 1) := by decide +kernel
theorem dX1_sunWay_5 : decode cX1_sunWay 5 = .ok (.if_icmp .ge 8, 3) := by decide +kernel
theorem dX1_sunWay_8 : decode cX1_sunWay 8 = .ok (.iload_n 2, 1) := by decide +kernel
theorem dX1_sunWay_9 : decode cX1_sunWay 9 = .ok (.ineg, 1) := by decide +kernel
theorem dX1_sunWay_10 : decode cX1_sunWay 10 = .ok (.goto 11, 3) := by decide +kernel
theorem dX1_sunWay_13 : decode cX1_sunWay 13 = .ok (.iload_n 1, 1) := by decide +kernel
theorem dX1_sunWay_14 : decode cX1_sunWay 14 = .ok (.aload_n 0, 1) := by decide +kernel
theorem dX1_sunWay_15 : decode cX1_sunWay 15 = .ok (.getfield 41, 3) := by decide +kernel
theorem dX1_sunWay_18 : decode cX1_sunWay 18 = .ok (.idiv, 1) := by decide +kernel
theorem dX1_sunWay_19 : decode cX1_sunWay 19 = .ok (.iload_n 2, 1) := by decide +kernel
theorem dX1_sunWay_20 : decode cX1_sunWay 20 = .ok (.isub, 1) := by decide +kernel
theorem dX1_sunWay_21 : decode cX1_sunWay 21 = .ok (.ireturn, 1) := by decide +kernel
theorem dX1_isTaken_0 : decode cX1_isTaken 0 = .ok (.iconst 0, 1) := by decide +kernel
theorem dX1_isTaken_1 : decode cX1_isTaken 1 = .ok (.istore 4, 2) := by decide +kernel
theorem dX1_isTaken_3 : decode cX1_isTaken 3 = .ok (.iload 4, 2) := by decide +kernel
theorem dX1_isTaken_5 : decode cX1_isTaken 5 = .ok (.aload_n 0, 1) := by decide +kernel
theorem dX1_isTaken_6 : decode cX1_isTaken 6 = .ok (.getfield 57, 3) := by decide +kernel
theorem dX1_isTaken_9 : decode cX1_isTaken 9 = .ok (.if_icmp .ge 39, 3) := by decide +kernel
theorem dX1_isTaken_12 : decode cX1_isTaken 12 = .ok (.iload 4, 2) := by decide +kernel
theorem dX1_isTaken_14 : decode cX1_isTaken 14 = .ok (.iconst 5, 1) := by decide +kernel
theorem dX1_isTaken_15 : decode cX1_isTaken 15 = .ok (.if_icmp .ge 33, 3) := by decide +kernel
theorem dX1_isTaken_18 : decode cX1_isTaken 18 = .ok (.aload_n 1, 1) := by decide +kernel
theorem dX1_isTaken_19 : decode cX1_isTaken 19 = .ok (.getfield 63, 3) := by decide +kernel
theorem dX1_isTaken_22 : decode cX1_isTaken 22 = .ok (.iload 4, 2) := by decide +kernel
theorem dX1_isTaken_24 : decode cX1_isTaken 24 = .ok (.iaload, 1) := by decide +kernel
theorem dX1_isTaken_25 : decode cX1_isTaken 25 = .ok (.iload_n 3, 1) := by decide +kernel
theorem dX1_isTaken_26 : decode cX1_isTaken 26 = .ok (.if_icmp .ne 16, 3) := by decide +kernel
theorem dX1_isTaken_29 : decode cX1_isTaken 29 = .ok (.aload_n 1, 1) := by decide +kernel
theorem dX1_isTaken_30 : decode cX1_isTaken 30 = .ok (.getfield 66, 3) := by decide +kernel
theorem dX1_isTaken_33 : decode cX1_isTaken 33 = .ok (.iload 4, 2) := by decide +kernel
theorem dX1_isTaken_35 : decode cX1_isTaken 35 = .ok (.iaload, 1) := by decide +kernel
theorem dX1_isTaken_36 : decode cX1_isTaken 36 = .ok (.iload_n 2, 1) := by decide +kernel
theorem dX1_isTaken_37 : decode cX1_isTaken 37 = .ok (.if_icmp .ne 5, 3) := by decide +kernel
theorem dX1_isTaken_40 : decode cX1_isTaken 40 = .ok (.iconst 1, 1) := by decide +kernel
theorem dX1_isTaken_41 : decode cX1_isTaken 41 = .ok (.ireturn, 1) := by decide +kernel
theorem dX1_isTaken_42 : decode cX1_isTaken 42 = .ok (.iinc 4 1, 3) := by decide +kernel
theorem dX1_isTaken_45 : decode cX1_isTaken 45 = .ok (.goto (-42), 3) := by decide +kernel
theorem dX1_isTaken_48 : decode cX1_isTaken 48 = .ok (.iconst 0, 1) := by decide +kernel
theorem dX1_isTaken_49 : decode cX1_isTaken 49 = .ok (.ireturn, 1) := by decide +kernel
theorem dX1_pass_0 : decode cX1_pass 0 = .ok (.iconst (-1), 1) := by decide +kernel
theorem dX1_pass_1 : decode cX1_pass 1 = .ok (.istore_n 2, 1) := by decide +kernel
theorem dX1_pass_2 : decode cX1_pass 2 = .ok (.iconst 0, 1) := by decide +kernel
theorem dX1_pass_3 : decode cX1_pass 3 = .ok (.istore_n 3, 1) := by decide +kernel
theorem dX1_pass_4 : decode cX1_pass 4 = .ok (.iconst 0, 1) := by decide +kernel
theorem dX1_pass_5 : decode cX1_pass 5 = .ok (.istore 4, 2) := by decide +kernel
theorem dX1_pass_7 : decode cX1_pass 7 = .ok (.iload 4, 2) := by decide +kernel
theorem dX1_pass_9 : decode cX1_pass 9 = .ok (.aload_n 0, 1) := by decide +kernel
theorem dX1_pass_10 : decode cX1_pass 10 = .ok (.getfield 57, 3) := by decide +kernel
theorem dX1_pass_13 : decode cX1_pass 13 = .ok (.if_icmp .ge 54, 3) := by decide +kernel
theorem dX1_pass_16 : decode cX1_pass 16 = .ok (.iload 4, 2) := by decide +kernel
theorem dX1_pass_18 : decode cX1_pass 18 = .ok (.iconst 5, 1) := by decide +kernel
theorem dX1_pass_19 : decode cX1_pass 19 = .ok (.if_icmp .ge 48, 3) := by decide +kernel
theorem dX1_pass_22 : decode cX1_pass 22 = .ok (.aload_n 0, 1) := by decide +kernel
theorem dX1_pass_23 : decode cX1_pass 23 = .ok (.aload_n 1, 1) := by decide +kernel
theorem dX1_pass_24 : decode cX1_pass 24 = .ok (.iload_n 3, 1) := by decide +kernel
theorem dX1_pass_25 : decode cX1_pass 25 = .ok (.invokevirtual 95, 3) := by decide +kernel
theorem dX1_pass_28 : decode cX1_pass 28 = .ok (.istore 5, 2) := by decide +kernel
theorem dX1_pass_30 : decode cX1_pass 30 = .ok (.iload 5, 2) := by decide +kernel
theorem dX1_pass_32 : decode cX1_pass 32 = .ok (.iconst (-1), 1) := by decide +kernel
theorem dX1_pass_33 : decode cX1_pass 33 = .ok (.if_icmp .eq 28, 3) := by decide +kernel
theorem dX1_pass_36 : decode cX1_pass 36 = .ok (.iload_n 3, 1) := by decide +kernel
theorem dX1_pass_37 : decode cX1_pass 37 = .ok (.iconst 1, 1) := by decide +kernel
theorem dX1_pass_38 : decode cX1_pass 38 = .ok (.iload 5, 2) := by decide +kernel
theorem dX1_pass_40 : decode cX1_pass 40 = .ok (.ishl, 1) := by decide +kernel
theorem dX1_pass_41 : decode cX1_pass 41 = .ok (.ior, 1) := by decide +kernel
theorem dX1_pass_42 : decode cX1_pass 42 = .ok (.istore_n 3, 1) := by decide +kernel
theorem dX1_pass_43 : decode cX1_pass 43 = .ok (.aload_n 0, 1) := by decide +kernel
theorem dX1_pass_44 : decode cX1_pass 44 = .ok (.aload_n 1, 1) := by decide +kernel
theorem dX1_pass_45 : decode cX1_pass 45 = .ok (.iload 5, 2) := by decide +kernel
theorem dX1_pass_47 : decode cX1_pass 47 = .ok (.invokevirtual 99, 3) := by decide +kernel
theorem dX1_pass_50 : decode cX1_pass 50 = .ok (.ifCond .ne 11, 3) := by decide +kernel
theorem dX1_pass_53 : decode cX1_pass 53 = .ok (.iload_n 2, 1) := by decide +kernel
theorem dX1_pass_54 : decode cX1_pass 54 = .ok (.iconst (-1), 1) := by decide +kernel
theorem dX1_pass_55 : decode cX1_pass 55 = .ok (.if_icmp .ne 6, 3) := by decide +kernel
theorem dX1_pass_58 : decode cX1_pass 58 = .ok (.iload 5, 2) := by decide +kernel
theorem dX1_pass_60 : decode cX1_pass 60 = .ok (.istore_n 2, 1) := by decide +kernel
theorem dX1_pass_61 : decode cX1_pass 61 = .ok (.iinc 4 1, 3) := by decide +kernel
theorem dX1_pass_64 : decode cX1_pass 64 = .ok (.goto (-57), 3) := by decide +kernel
theorem dX1_pass_67 : decode cX1_pass 67 = .ok (.aload_n 1, 1) := by decide +kernel
theorem dX1_pass_68 : decode cX1_pass 68 = .ok (.dup, 1) := by decide +kernel
theorem dX1_pass_69 : decode cX1_pass 69 = .ok (.getfield 103, 3) := by decide +kernel
theorem dX1_pass_72 : decode cX1_pass 72 = .ok (.iconst 1, 1) := by decide +kernel
theorem dX1_pass_73 : decode cX1_pass 73 = .ok (.iadd, 1) := by decide +kernel
theorem dX1_pass_74 : decode cX1_pass 74 = .ok (.putfield 103, 3) := by decide +kernel
theorem dX1_pass_77 : decode cX1_pass 77 = .ok (.aload_n 0, 1) := by decide +kernel
theorem dX1_pass_78 : decode cX1_pass 78 = .ok (.aload_n 1, 1) := by decide +kernel
theorem dX1_pass_79 : decode cX1_pass 79 = .ok (.invokevirtual 106, 3) := by decide +kernel
theorem dX1_pass_82 : decode cX1_pass 82 = .ok (.iload_n 2, 1) := by decide +kernel
theorem dX1_pass_83 : decode cX1_pass 83 = .ok (.ireturn, 1) := by decide +kernel
theorem dX1_foremost_0 : decode cX1_foremost 0 = .ok (.iconst (-1), 1) := by decide +kernel
theorem dX1_foremost_1 : decode cX1_foremost 1 = .ok (.istore_n 3, 1) := by decide +kernel
theorem dX1_foremost_2 : decode cX1_foremost 2 = .ok (.iconst 0, 1) := by decide +kernel
theorem dX1_foremost_3 : decode cX1_foremost 3 = .ok (.istore 4, 2) := by decide +kernel
theorem dX1_foremost_5 : decode cX1_foremost 5 = .ok (.iload 4, 2) := by decide +kernel
theorem dX1_foremost_7 : decode cX1_foremost 7 = .ok (.aload_n 0, 1) := by decide +kernel
theorem dX1_foremost_8 : decode cX1_foremost 8 = .ok (.getfield 57, 3) := by decide +kernel
theorem dX1_foremost_11 : decode cX1_foremost 11 = .ok (.if_icmp .ge 48, 3) := by decide +kernel
theorem dX1_foremost_14 : decode cX1_foremost 14 = .ok (.iload 4, 2) := by decide +kernel
theorem dX1_foremost_16 : decode cX1_foremost 16 = .ok (.iconst 5, 1) := by decide +kernel
theorem dX1_foremost_17 : decode cX1_foremost 17 = .ok (.if_icmp .ge 42, 3) := by decide +kernel
theorem dX1_foremost_20 : decode cX1_foremost 20 = .ok (.iload_n 2, 1) := by decide +kernel
theorem dX1_foremost_21 : decode cX1_foremost 21 = .ok (.iload 4, 2) := by decide +kernel
theorem dX1_foremost_23 : decode cX1_foremost 23 = .ok (.ishr, 1) := by decide +kernel
theorem dX1_foremost_24 : decode cX1_foremost 24 = .ok (.iconst 1, 1) := by decide +kernel
theorem dX1_foremost_25 : decode cX1_foremost 25 = .ok (.iand, 1) := by decide +kernel
theorem dX1_foremost_26 : decode cX1_foremost 26 = .ok (.ifCond .ne 27, 3) := by decide +kernel
theorem dX1_foremost_29 : decode cX1_foremost 29 = .ok (.iload_n 3, 1) := by decide +kernel
theorem dX1_foremost_30 : decode cX1_foremost 30 = .ok (.iconst (-1), 1) := by decide +kernel
theorem dX1_foremost_31 : decode cX1_foremost 31 = .ok (.if_icmp .eq 19, 3) := by decide +kernel
theorem dX1_foremost_34 : decode cX1_foremost 34 = .ok (.aload_n 1, 1) := by decide +kernel
theorem dX1_foremost_35 : decode cX1_foremost 35 = .ok (.getfield 63, 3) := by decide +kernel
theorem dX1_foremost_38 : decode cX1_foremost 38 = .ok (.iload 4, 2) := by decide +kernel
theorem dX1_foremost_40 : decode cX1_foremost 40 = .ok (.iaload, 1) := by decide +kernel
theorem dX1_foremost_41 : decode cX1_foremost 41 = .ok (.aload_n 1, 1) := by decide +kernel
theorem dX1_foremost_42 : decode cX1_foremost 42 = .ok (.getfield 63, 3) := by decide +kernel
theorem dX1_foremost_45 : decode cX1_foremost 45 = .ok (.iload_n 3, 1) := by decide +kernel
theorem dX1_foremost_46 : decode cX1_foremost 46 = .ok (.iaload, 1) := by decide +kernel
theorem dX1_foremost_47 : decode cX1_foremost 47 = .ok (.if_icmp .le 6, 3) := by decide +kernel
theorem dX1_foremost_50 : decode cX1_foremost 50 = .ok (.iload 4, 2) := by decide +kernel
theorem dX1_foremost_52 : decode cX1_foremost 52 = .ok (.istore_n 3, 1) := by decide +kernel
theorem dX1_foremost_53 : decode cX1_foremost 53 = .ok (.iinc 4 1, 3) := by decide +kernel
theorem dX1_foremost_56 : decode cX1_foremost 56 = .ok (.goto (-51), 3) := by decide +kernel
theorem dX1_foremost_59 : decode cX1_foremost 59 = .ok (.iload_n 3, 1) := by decide +kernel
theorem dX1_foremost_60 : decode cX1_foremost 60 = .ok (.ireturn, 1) := by decide +kernel
theorem dX1_goOn_0 : decode cX1_goOn 0 = .ok (.aload_n 1, 1) := by decide +kernel
theorem dX1_goOn_1 : decode cX1_goOn 1 = .ok (.iload_n 2, 1) := by decide +kernel
theorem dX1_goOn_2 : decode cX1_goOn 2 = .ok (.invokevirtual 110, 3) := by decide +kernel
theorem dX1_goOn_5 : decode cX1_goOn 5 = .ok (.ifCond .eq 5, 3) := by decide +kernel
theorem dX1_goOn_8 : decode cX1_goOn 8 = .ok (.iconst 1, 1) := by decide +kernel
theorem dX1_goOn_9 : decode cX1_goOn 9 = .ok (.ireturn, 1) := by decide +kernel
theorem dX1_goOn_10 : decode cX1_goOn 10 = .ok (.aload_n 1, 1) := by decide +kernel
theorem dX1_goOn_11 : decode cX1_goOn 11 = .ok (.getfield 113, 3) := by decide +kernel
theorem dX1_goOn_14 : decode cX1_goOn 14 = .ok (.iload_n 2, 1) := by decide +kernel
theorem dX1_goOn_15 : decode cX1_goOn 15 = .ok (.iaload, 1) := by decide +kernel
theorem dX1_goOn_16 : decode cX1_goOn 16 = .ok (.ifCond .le 25, 3) := by decide +kernel
theorem dX1_goOn_19 : decode cX1_goOn 19 = .ok (.aload_n 1, 1) := by decide +kernel
theorem dX1_goOn_20 : decode cX1_goOn 20 = .ok (.getfield 113, 3) := by decide +kernel
theorem dX1_goOn_23 : decode cX1_goOn 23 = .ok (.iload_n 2, 1) := by decide +kernel
theorem dX1_goOn_24 : decode cX1_goOn 24 = .ok (.dup2, 1) := by decide +kernel
theorem dX1_goOn_25 : decode cX1_goOn 25 = .ok (.iaload, 1) := by decide +kernel
theorem dX1_goOn_26 : decode cX1_goOn 26 = .ok (.iconst 1, 1) := by decide +kernel
theorem dX1_goOn_27 : decode cX1_goOn 27 = .ok (.isub, 1) := by decide +kernel
theorem dX1_goOn_28 : decode cX1_goOn 28 = .ok (.iastore, 1) := by decide +kernel
theorem dX1_goOn_29 : decode cX1_goOn 29 = .ok (.aload_n 1, 1) := by decide +kernel
theorem dX1_goOn_30 : decode cX1_goOn 30 = .ok (.getfield 116, 3) := by decide +kernel
theorem dX1_goOn_33 : decode cX1_goOn 33 = .ok (.iload_n 2, 1) := by decide +kernel
theorem dX1_goOn_34 : decode cX1_goOn 34 = .ok (.dup2, 1) := by decide +kernel
theorem dX1_goOn_35 : decode cX1_goOn 35 = .ok (.iaload, 1) := by decide +kernel
theorem dX1_goOn_36 : decode cX1_goOn 36 = .ok (.iconst 1, 1) := by decide +kernel
theorem dX1_goOn_37 : decode cX1_goOn 37 = .ok (.iadd, 1) := by decide +kernel
theorem dX1_goOn_38 : decode cX1_goOn 38 = .ok (.iastore, 1) := by decide +kernel
theorem dX1_goOn_39 : decode cX1_goOn 39 = .ok (.iconst 1, 1) := by decide +kernel
theorem dX1_goOn_40 : decode cX1_goOn 40 = .ok (.ireturn, 1) := by decide +kernel
theorem dX1_goOn_41 : decode cX1_goOn 41 = .ok (.aload_n 1, 1) := by decide +kernel
theorem dX1_goOn_42 : decode cX1_goOn 42 = .ok (.getfield 72, 3) := by decide +kernel
theorem dX1_goOn_45 : decode cX1_goOn 45 = .ok (.iload_n 2, 1) := by decide +kernel
theorem dX1_goOn_46 : decode cX1_goOn 46 = .ok (.iconst 0, 1) := by decide +kernel
theorem dX1_goOn_47 : decode cX1_goOn 47 = .ok (.aload_n 1, 1) := by decide +kernel
theorem dX1_goOn_48 : decode cX1_goOn 48 = .ok (.getfield 72, 3) := by decide +kernel
theorem dX1_goOn_51 : decode cX1_goOn 51 = .ok (.iload_n 2, 1) := by decide +kernel
theorem dX1_goOn_52 : decode cX1_goOn 52 = .ok (.iaload, 1) := by decide +kernel
theorem dX1_goOn_53 : decode cX1_goOn 53 = .ok (.iconst 1, 1) := by decide +kernel
theorem dX1_goOn_54 : decode cX1_goOn 54 = .ok (.isub, 1) := by decide +kernel
theorem dX1_goOn_55 : decode cX1_goOn 55 = .ok (.invokestatic 83, 3) := by decide +kernel
theorem dX1_goOn_58 : decode cX1_goOn 58 = .ok (.iastore, 1) := by decide +kernel
theorem dX1_goOn_59 : decode cX1_goOn 59 = .ok (.aload_n 1, 1) := by decide +kernel
theorem dX1_goOn_60 : decode cX1_goOn 60 = .ok (.getfield 72, 3) := by decide +kernel
theorem dX1_goOn_63 : decode cX1_goOn 63 = .ok (.iload_n 2, 1) := by decide +kernel
theorem dX1_goOn_64 : decode cX1_goOn 64 = .ok (.iaload, 1) := by decide +kernel
theorem dX1_goOn_65 : decode cX1_goOn 65 = .ok (.ifCond .le 5, 3) := by decide +kernel
theorem dX1_goOn_68 : decode cX1_goOn 68 = .ok (.iconst 1, 1) := by decide +kernel
theorem dX1_goOn_69 : decode cX1_goOn 69 = .ok (.ireturn, 1) := by decide +kernel
theorem dX1_goOn_70 : decode cX1_goOn 70 = .ok (.aload_n 1, 1) := by decide +kernel
theorem dX1_goOn_71 : decode cX1_goOn 71 = .ok (.getfield 63, 3) := by decide +kernel
theorem dX1_goOn_74 : decode cX1_goOn 74 = .ok (.iload_n 2, 1) := by decide +kernel
theorem dX1_goOn_75 : decode cX1_goOn 75 = .ok (.iaload, 1) := by decide +kernel
theorem dX1_goOn_76 : decode cX1_goOn 76 = .ok (.iconst 1, 1) := by decide +kernel
theorem dX1_goOn_77 : decode cX1_goOn 77 = .ok (.iadd, 1) := by decide +kernel
theorem dX1_goOn_78 : decode cX1_goOn 78 = .ok (.istore_n 3, 1) := by decide +kernel
theorem dX1_goOn_79 : decode cX1_goOn 79 = .ok (.aload_n 0, 1) := by decide +kernel
theorem dX1_goOn_80 : decode cX1_goOn 80 = .ok (.aload_n 1, 1) := by decide +kernel
theorem dX1_goOn_81 : decode cX1_goOn 81 = .ok (.aload_n 1, 1) := by decide +kernel
theorem dX1_goOn_82 : decode cX1_goOn 82 = .ok (.getfield 66, 3) := by decide +kernel
theorem dX1_goOn_85 : decode cX1_goOn 85 = .ok (.iload_n 2, 1) := by decide +kernel
theorem dX1_goOn_86 : decode cX1_goOn 86 = .ok (.iaload, 1) := by decide +kernel
theorem dX1_goOn_87 : decode cX1_goOn 87 = .ok (.iload_n 3, 1) := by decide +kernel
theorem dX1_goOn_88 : decode cX1_goOn 88 = .ok (.invokevirtual 119, 3) := by decide +kernel
theorem dX1_goOn_91 : decode cX1_goOn 91 = .ok (.ifCond .eq 5, 3) := by decide +kernel
theorem dX1_goOn_94 : decode cX1_goOn 94 = .ok (.iconst 0, 1) := by decide +kernel
theorem dX1_goOn_95 : decode cX1_goOn 95 = .ok (.ireturn, 1) := by decide +kernel
theorem dX1_goOn_96 : decode cX1_goOn 96 = .ok (.aload_n 1, 1) := by decide +kernel
theorem dX1_goOn_97 : decode cX1_goOn 97 = .ok (.getfield 63, 3) := by decide +kernel
theorem dX1_goOn_100 : decode cX1_goOn 100 = .ok (.iload_n 2, 1) := by decide +kernel
theorem dX1_goOn_101 : decode cX1_goOn 101 = .ok (.iload_n 3, 1) := by decide +kernel
theorem dX1_goOn_102 : decode cX1_goOn 102 = .ok (.iastore, 1) := by decide +kernel
theorem dX1_goOn_103 : decode cX1_goOn 103 = .ok (.aload_n 1, 1) := by decide +kernel
theorem dX1_goOn_104 : decode cX1_goOn 104 = .ok (.getfield 72, 3) := by decide +kernel
theorem dX1_goOn_107 : decode cX1_goOn 107 = .ok (.iload_n 2, 1) := by decide +kernel
theorem dX1_goOn_108 : decode cX1_goOn 108 = .ok (.aload_n 0, 1) := by decide +kernel
theorem dX1_goOn_109 : decode cX1_goOn 109 = .ok (.iload_n 2, 1) := by decide +kernel
theorem dX1_goOn_110 : decode cX1_goOn 110 = .ok (.iload_n 3, 1) := by decide +kernel
theorem dX1_goOn_111 : decode cX1_goOn 111 = .ok (.invokevirtual 75, 3) := by decide +kernel
theorem dX1_goOn_114 : decode cX1_goOn 114 = .ok (.iastore, 1) := by decide +kernel
theorem dX1_goOn_115 : decode cX1_goOn 115 = .ok (.iconst 1, 1) := by decide +kernel
theorem dX1_goOn_116 : decode cX1_goOn 116 = .ok (.ireturn, 1) := by decide +kernel
theorem dX1_isBarred_0 : decode cX1_isBarred 0 = .ok (.aload_n 0, 1) := by decide +kernel
theorem dX1_isBarred_1 : decode cX1_isBarred 1 = .ok (.iload_n 3, 1) := by decide +kernel
theorem dX1_isBarred_2 : decode cX1_isBarred 2 = .ok (.invokevirtual 88, 3) := by decide +kernel
theorem dX1_isBarred_5 : decode cX1_isBarred 5 = .ok (.aload_n 0, 1) := by decide +kernel
theorem dX1_isBarred_6 : decode cX1_isBarred 6 = .ok (.getfield 51, 3) := by decide +kernel
theorem dX1_isBarred_9 : decode cX1_isBarred 9 = .ok (.if_icmp .ne 7, 3) := by decide +kernel
theorem dX1_isBarred_12 : decode cX1_isBarred 12 = .ok (.iconst 1, 1) := by decide +kernel
theorem dX1_isBarred_13 : decode cX1_isBarred 13 = .ok (.goto 4, 3) := by decide +kernel
theorem dX1_isBarred_16 : decode cX1_isBarred 16 = .ok (.iconst 0, 1) := by decide +kernel
theorem dX1_isBarred_17 : decode cX1_isBarred 17 = .ok (.istore 4, 2) := by decide +kernel
theorem dX1_isBarred_19 : decode cX1_isBarred 19 = .ok (.iconst 0, 1) := by decide +kernel
theorem dX1_isBarred_20 : decode cX1_isBarred 20 = .ok (.istore 5, 2) := by decide +kernel
theorem dX1_isBarred_22 : decode cX1_isBarred 22 = .ok (.iload 5, 2) := by decide +kernel
theorem dX1_isBarred_24 : decode cX1_isBarred 24 = .ok (.aload_n 0, 1) := by decide +kernel
theorem dX1_isBarred_25 : decode cX1_isBarred 25 = .ok (.getfield 57, 3) := by decide +kernel
theorem dX1_isBarred_28 : decode cX1_isBarred 28 = .ok (.if_icmp .ge 44, 3) := by decide +kernel
theorem dX1_isBarred_31 : decode cX1_isBarred 31 = .ok (.iload 5, 2) := by decide +kernel
theorem dX1_isBarred_33 : decode cX1_isBarred 33 = .ok (.iconst 5, 1) := by decide +kernel
theorem dX1_isBarred_34 : decode cX1_isBarred 34 = .ok (.if_icmp .ge 38, 3) := by decide +kernel
theorem dX1_isBarred_37 : decode cX1_isBarred 37 = .ok (.aload_n 1, 1) := by decide +kernel
theorem dX1_isBarred_38 : decode cX1_isBarred 38 = .ok (.getfield 63, 3) := by decide +kernel
theorem dX1_isBarred_41 : decode cX1_isBarred 41 = .ok (.iload 5, 2) := by decide +kernel
theorem dX1_isBarred_43 : decode cX1_isBarred 43 = .ok (.iaload, 1) := by decide +kernel
theorem dX1_isBarred_44 : decode cX1_isBarred 44 = .ok (.iload_n 3, 1) := by decide +kernel
theorem dX1_isBarred_45 : decode cX1_isBarred 45 = .ok (.if_icmp .ne 21, 3) := by decide +kernel
theorem dX1_isBarred_48 : decode cX1_isBarred 48 = .ok (.iload 4, 2) := by decide +kernel
theorem dX1_isBarred_50 : decode cX1_isBarred 50 = .ok (.ifCond .ne 14, 3) := by decide +kernel
theorem dX1_isBarred_53 : decode cX1_isBarred 53 = .ok (.aload_n 1, 1) := by decide +kernel
theorem dX1_isBarred_54 : decode cX1_isBarred 54 = .ok (.getfield 66, 3) := by decide +kernel
theorem dX1_isBarred_57 : decode cX1_isBarred 57 = .ok (.iload 5, 2) := by decide +kernel
theorem dX1_isBarred_59 : decode cX1_isBarred 59 = .ok (.iaload, 1) := by decide +kernel
theorem dX1_isBarred_60 : decode cX1_isBarred 60 = .ok (.iload_n 2, 1) := by decide +kernel
theorem dX1_isBarred_61 : decode cX1_isBarred 61 = .ok (.if_icmp .ne 5, 3) := by decide +kernel
theorem dX1_isBarred_64 : decode cX1_isBarred 64 = .ok (.iconst 1, 1) := by decide +kernel
theorem dX1_isBarred_65 : decode cX1_isBarred 65 = .ok (.ireturn, 1) := by decide +kernel
theorem dX1_isBarred_66 : decode cX1_isBarred 66 = .ok (.iinc 5 1, 3) := by decide +kernel
theorem dX1_isBarred_69 : decode cX1_isBarred 69 = .ok (.goto (-47), 3) := by decide +kernel
theorem dX1_isBarred_72 : decode cX1_isBarred 72 = .ok (.iconst 0, 1) := by decide +kernel
theorem dX1_isBarred_73 : decode cX1_isBarred 73 = .ok (.ireturn, 1) := by decide +kernel
theorem dX1_catchLate_0 : decode cX1_catchLate 0 = .ok (.aload_n 0, 1) := by decide +kernel
theorem dX1_catchLate_1 : decode cX1_catchLate 1 = .ok (.aload_n 1, 1) := by decide +kernel
theorem dX1_catchLate_2 : decode cX1_catchLate 2 = .ok (.getfield 103, 3) := by decide +kernel
theorem dX1_catchLate_5 : decode cX1_catchLate 5 = .ok (.aload_n 0, 1) := by decide +kernel
theorem dX1_catchLate_6 : decode cX1_catchLate 6 = .ok (.getfield 44, 3) := by decide +kernel
theorem dX1_catchLate_9 : decode cX1_catchLate 9 = .ok (.invokevirtual 123, 3) := by decide +kernel
theorem dX1_catchLate_12 : decode cX1_catchLate 12 = .ok (.istore_n 2, 1) := by decide +kernel
theorem dX1_catchLate_13 : decode cX1_catchLate 13 = .ok (.iconst 0, 1) := by decide +kernel
theorem dX1_catchLate_14 : decode cX1_catchLate 14 = .ok (.istore_n 3, 1) := by decide +kernel
theorem dX1_catchLate_15 : decode cX1_catchLate 15 = .ok (.iload_n 3, 1) := by decide +kernel
theorem dX1_catchLate_16 : decode cX1_catchLate 16 = .ok (.aload_n 0, 1) := by decide +kernel
theorem dX1_catchLate_17 : decode cX1_catchLate 17 = .ok (.getfield 57, 3) := by decide +kernel
theorem dX1_catchLate_20 : decode cX1_catchLate 20 = .ok (.if_icmp .ge 36, 3) := by decide +kernel
theorem dX1_catchLate_23 : decode cX1_catchLate 23 = .ok (.iload_n 3, 1) := by decide +kernel
theorem dX1_catchLate_24 : decode cX1_catchLate 24 = .ok (.iconst 5, 1) := by decide +kernel
theorem dX1_catchLate_25 : decode cX1_catchLate 25 = .ok (.if_icmp .ge 31, 3) := by decide +kernel
theorem dX1_catchLate_28 : decode cX1_catchLate 28 = .ok (.aload_n 1, 1) := by decide +kernel
theorem dX1_catchLate_29 : decode cX1_catchLate 29 = .ok (.getfield 63, 3) := by decide +kernel
theorem dX1_catchLate_32 : decode cX1_catchLate 32 = .ok (.iload_n 3, 1) := by decide +kernel
theorem dX1_catchLate_33 : decode cX1_catchLate 33 = .ok (.iaload, 1) := by decide +kernel
theorem dX1_catchLate_34 : decode cX1_catchLate 34 = .ok (.iload_n 2, 1) := by decide +kernel
theorem dX1_catchLate_35 : decode cX1_catchLate 35 = .ok (.if_icmp .gt 15, 3) := by decide +kernel
theorem dX1_catchLate_38 : decode cX1_catchLate 38 = .ok (.aload_n 1, 1) := by decide +kernel
theorem dX1_catchLate_39 : decode cX1_catchLate 39 = .ok (.dup, 1) := by decide +kernel
theorem dX1_catchLate_40 : decode cX1_catchLate 40 = .ok (.getfield 126, 3) := by decide +kernel
theorem dX1_catchLate_43 : decode cX1_catchLate 43 = .ok (.iconst 1, 1) := by decide +kernel
theorem dX1_catchLate_44 : decode cX1_catchLate 44 = .ok (.iload_n 3, 1) := by decide +kernel
theorem dX1_catchLate_45 : decode cX1_catchLate 45 = .ok (.ishl, 1) := by decide +kernel
theorem dX1_catchLate_46 : decode cX1_catchLate 46 = .ok (.ior, 1) := by decide +kernel
theorem dX1_catchLate_47 : decode cX1_catchLate 47 = .ok (.putfield 126, 3) := by decide +kernel
theorem dX1_catchLate_50 : decode cX1_catchLate 50 = .ok (.iinc 3 1, 3) := by decide +kernel
theorem dX1_catchLate_53 : decode cX1_catchLate 53 = .ok (.goto (-38), 3) := by decide +kernel
theorem dX1_catchLate_56 : decode cX1_catchLate 56 = .ok (.return_, 1) := by decide +kernel
theorem dX1_withWorkDone_0 : decode cX1_withWorkDone 0 = .ok (.iconst 0, 1) := by decide +kernel
theorem dX1_withWorkDone_1 : decode cX1_withWorkDone 1 = .ok (.istore_n 2, 1) := by decide +kernel
theorem dX1_withWorkDone_2 : decode cX1_withWorkDone 2 = .ok (.iconst 0, 1) := by decide +kernel
theorem dX1_withWorkDone_3 : decode cX1_withWorkDone 3 = .ok (.istore_n 3, 1) := by decide +kernel
theorem dX1_withWorkDone_4 : decode cX1_withWorkDone 4 = .ok (.iload_n 3, 1) := by decide +kernel
theorem dX1_withWorkDone_5 : decode cX1_withWorkDone 5 = .ok (.aload_n 0, 1) := by decide +kernel
theorem dX1_withWorkDone_6 : decode cX1_withWorkDone 6 = .ok (.getfield 57, 3) := by decide +kernel
theorem dX1_withWorkDone_9 : decode cX1_withWorkDone 9 = .ok (.if_icmp .ge 35, 3) := by decide +kernel
theorem dX1_withWorkDone_12 : decode cX1_withWorkDone 12 = .ok (.iload_n 3, 1) := by decide +kernel
theorem dX1_withWorkDone_13 : decode cX1_withWorkDone 13 = .ok (.iconst 5, 1) := by decide +kernel
theorem dX1_withWorkDone_14 : decode cX1_withWorkDone 14 = .ok (.if_icmp .ge 30, 3) := by decide +kernel
theorem dX1_withWorkDone_17 : decode cX1_withWorkDone 17 = .ok (.aload_n 1, 1) := by decide +kernel
theorem dX1_withWorkDone_18 : decode cX1_withWorkDone 18 = .ok (.getfield 116, 3) := by decide +kernel
theorem dX1_withWorkDone_21 : decode cX1_withWorkDone 21 = .ok (.iload_n 3, 1) := by decide +kernel
theorem dX1_withWorkDone_22 : decode cX1_withWorkDone 22 = .ok (.iaload, 1) := by decide +kernel
theorem dX1_withWorkDone_23 : decode cX1_withWorkDone 23 = .ok (.aload_n 0, 1) := by decide +kernel
theorem dX1_withWorkDone_24 : decode cX1_withWorkDone 24 = .ok (.getfield 18, 3) := by decide +kernel
theorem dX1_withWorkDone_27 : decode cX1_withWorkDone 27 = .ok (.iload_n 3, 1) := by decide +kernel
theorem dX1_withWorkDone_28 : decode cX1_withWorkDone 28 = .ok (.iaload, 1) := by decide +kernel
theorem dX1_withWorkDone_29 : decode cX1_withWorkDone 29 = .ok (.if_icmp .lt 9, 3) := by decide +kernel
theorem dX1_withWorkDone_32 : decode cX1_withWorkDone 32 = .ok (.iload_n 2, 1) := by decide +kernel
theorem dX1_withWorkDone_33 : decode cX1_withWorkDone 33 = .ok (.iconst 1, 1) := by decide +kernel
theorem dX1_withWorkDone_34 : decode cX1_withWorkDone 34 = .ok (.iload_n 3, 1) := by decide +kernel
theorem dX1_withWorkDone_35 : decode cX1_withWorkDone 35 = .ok (.ishl, 1) := by decide +kernel
theorem dX1_withWorkDone_36 : decode cX1_withWorkDone 36 = .ok (.ior, 1) := by decide +kernel
theorem dX1_withWorkDone_37 : decode cX1_withWorkDone 37 = .ok (.istore_n 2, 1) := by decide +kernel
theorem dX1_withWorkDone_38 : decode cX1_withWorkDone 38 = .ok (.iinc 3 1, 3) := by decide +kernel
theorem dX1_withWorkDone_41 : decode cX1_withWorkDone 41 = .ok (.goto (-37), 3) := by decide +kernel
theorem dX1_withWorkDone_44 : decode cX1_withWorkDone 44 = .ok (.iload_n 2, 1) := by decide +kernel
theorem dX1_withWorkDone_45 : decode cX1_withWorkDone 45 = .ok (.ireturn, 1) := by decide +kernel
theorem dX1_wagonsAt_0 : decode cX1_wagonsAt 0 = .ok (.iconst 0, 1) := by decide +kernel
theorem dX1_wagonsAt_1 : decode cX1_wagonsAt 1 = .ok (.istore_n 3, 1) := by decide +kernel
theorem dX1_wagonsAt_2 : decode cX1_wagonsAt 2 = .ok (.iconst 0, 1) := by decide +kernel
theorem dX1_wagonsAt_3 : decode cX1_wagonsAt 3 = .ok (.istore 4, 2) := by decide +kernel
theorem dX1_wagonsAt_5 : decode cX1_wagonsAt 5 = .ok (.iload 4, 2) := by decide +kernel
theorem dX1_wagonsAt_7 : decode cX1_wagonsAt 7 = .ok (.aload_n 0, 1) := by decide +kernel
theorem dX1_wagonsAt_8 : decode cX1_wagonsAt 8 = .ok (.getfield 57, 3) := by decide +kernel
theorem dX1_wagonsAt_11 : decode cX1_wagonsAt 11 = .ok (.if_icmp .ge 37, 3) := by decide +kernel
theorem dX1_wagonsAt_14 : decode cX1_wagonsAt 14 = .ok (.iload 4, 2) := by decide +kernel
theorem dX1_wagonsAt_16 : decode cX1_wagonsAt 16 = .ok (.iconst 5, 1) := by decide +kernel
theorem dX1_wagonsAt_17 : decode cX1_wagonsAt 17 = .ok (.if_icmp .ge 31, 3) := by decide +kernel
theorem dX1_wagonsAt_20 : decode cX1_wagonsAt 20 = .ok (.aload_n 0, 1) := by decide +kernel
theorem dX1_wagonsAt_21 : decode cX1_wagonsAt 21 = .ok (.aload_n 1, 1) := by decide +kernel
theorem dX1_wagonsAt_22 : decode cX1_wagonsAt 22 = .ok (.getfield 63, 3) := by decide +kernel
theorem dX1_wagonsAt_25 : decode cX1_wagonsAt 25 = .ok (.iload 4, 2) := by decide +kernel
theorem dX1_wagonsAt_27 : decode cX1_wagonsAt 27 = .ok (.iaload, 1) := by decide +kernel
theorem dX1_wagonsAt_28 : decode cX1_wagonsAt 28 = .ok (.invokevirtual 88, 3) := by decide +kernel
theorem dX1_wagonsAt_31 : decode cX1_wagonsAt 31 = .ok (.iload_n 2, 1) := by decide +kernel
theorem dX1_wagonsAt_32 : decode cX1_wagonsAt 32 = .ok (.if_icmp .ne 10, 3) := by decide +kernel
theorem dX1_wagonsAt_35 : decode cX1_wagonsAt 35 = .ok (.iload_n 3, 1) := by decide +kernel
theorem dX1_wagonsAt_36 : decode cX1_wagonsAt 36 = .ok (.iconst 1, 1) := by decide +kernel
theorem dX1_wagonsAt_37 : decode cX1_wagonsAt 37 = .ok (.iload 4, 2) := by decide +kernel
theorem dX1_wagonsAt_39 : decode cX1_wagonsAt 39 = .ok (.ishl, 1) := by decide +kernel
theorem dX1_wagonsAt_40 : decode cX1_wagonsAt 40 = .ok (.ior, 1) := by decide +kernel
theorem dX1_wagonsAt_41 : decode cX1_wagonsAt 41 = .ok (.istore_n 3, 1) := by decide +kernel
theorem dX1_wagonsAt_42 : decode cX1_wagonsAt 42 = .ok (.iinc 4 1, 3) := by decide +kernel
theorem dX1_wagonsAt_45 : decode cX1_wagonsAt 45 = .ok (.goto (-40), 3) := by decide +kernel
theorem dX1_wagonsAt_48 : decode cX1_wagonsAt 48 = .ok (.iload_n 3, 1) := by decide +kernel
theorem dX1_wagonsAt_49 : decode cX1_wagonsAt 49 = .ok (.ireturn, 1) := by decide +kernel
theorem dX1_lengthOn_0 : decode cX1_lengthOn 0 = .ok (.iconst (-1), 1) := by decide +kernel
theorem dX1_lengthOn_1 : decode cX1_lengthOn 1 = .ok (.istore_n 3, 1) := by decide +kernel
theorem dX1_lengthOn_2 : decode cX1_lengthOn 2 = .ok (.iconst (-1), 1) := by decide +kernel
theorem dX1_lengthOn_3 : decode cX1_lengthOn 3 = .ok (.istore 4, 2) := by decide +kernel
theorem dX1_lengthOn_5 : decode cX1_lengthOn 5 = .ok (.iconst 0, 1) := by decide +kernel
theorem dX1_lengthOn_6 : decode cX1_lengthOn 6 = .ok (.istore 5, 2) := by decide +kernel
theorem dX1_lengthOn_8 : decode cX1_lengthOn 8 = .ok (.iload 5, 2) := by decide +kernel
theorem dX1_lengthOn_10 : decode cX1_lengthOn 10 = .ok (.aload_n 0, 1) := by decide +kernel
theorem dX1_lengthOn_11 : decode cX1_lengthOn 11 = .ok (.getfield 57, 3) := by decide +kernel
theorem dX1_lengthOn_14 : decode cX1_lengthOn 14 = .ok (.if_icmp .ge 67, 3) := by decide +kernel
theorem dX1_lengthOn_17 : decode cX1_lengthOn 17 = .ok (.iload 5, 2) := by decide +kernel
theorem dX1_lengthOn_19 : decode cX1_lengthOn 19 = .ok (.iconst 5, 1) := by decide +kernel
theorem dX1_lengthOn_20 : decode cX1_lengthOn 20 = .ok (.if_icmp .ge 61, 3) := by decide +kernel
theorem dX1_lengthOn_23 : decode cX1_lengthOn 23 = .ok (.aload_n 1, 1) := by decide +kernel
theorem dX1_lengthOn_24 : decode cX1_lengthOn 24 = .ok (.getfield 66, 3) := by decide +kernel
theorem dX1_lengthOn_27 : decode cX1_lengthOn 27 = .ok (.iload 5, 2) := by decide +kernel
theorem dX1_lengthOn_29 : decode cX1_lengthOn 29 = .ok (.iaload, 1) := by decide +kernel
theorem dX1_lengthOn_30 : decode cX1_lengthOn 30 = .ok (.iload_n 2, 1) := by decide +kernel
theorem dX1_lengthOn_31 : decode cX1_lengthOn 31 = .ok (.if_icmp .ne 44, 3) := by decide +kernel
theorem dX1_lengthOn_34 : decode cX1_lengthOn 34 = .ok (.iload_n 3, 1) := by decide +kernel
theorem dX1_lengthOn_35 : decode cX1_lengthOn 35 = .ok (.iconst (-1), 1) := by decide +kernel
theorem dX1_lengthOn_36 : decode cX1_lengthOn 36 = .ok (.if_icmp .ne 13, 3) := by decide +kernel
theorem dX1_lengthOn_39 : decode cX1_lengthOn 39 = .ok (.aload_n 1, 1) := by decide +kernel
theorem dX1_lengthOn_40 : decode cX1_lengthOn 40 = .ok (.getfield 63, 3) := by decide +kernel
theorem dX1_lengthOn_43 : decode cX1_lengthOn 43 = .ok (.iload 5, 2) := by decide +kernel
theorem dX1_lengthOn_45 : decode cX1_lengthOn 45 = .ok (.iaload, 1) := by decide +kernel
theorem dX1_lengthOn_46 : decode cX1_lengthOn 46 = .ok (.goto 14, 3) := by decide +kernel
theorem dX1_lengthOn_49 : decode cX1_lengthOn 49 = .ok (.iload_n 3, 1) := by decide +kernel
theorem dX1_lengthOn_50 : decode cX1_lengthOn 50 = .ok (.aload_n 1, 1) := by decide +kernel
theorem dX1_lengthOn_51 : decode cX1_lengthOn 51 = .ok (.getfield 63, 3) := by decide +kernel
theorem dX1_lengthOn_54 : decode cX1_lengthOn 54 = .ok (.iload 5, 2) := by decide +kernel
theorem dX1_lengthOn_56 : decode cX1_lengthOn 56 = .ok (.iaload, 1) := by decide +kernel
theorem dX1_lengthOn_57 : decode cX1_lengthOn 57 = .ok (.invokestatic 129, 3) := by decide +kernel
theorem dX1_lengthOn_60 : decode cX1_lengthOn 60 = .ok (.istore_n 3, 1) := by decide +kernel
theorem dX1_lengthOn_61 : decode cX1_lengthOn 61 = .ok (.iload 4, 2) := by decide +kernel
theorem dX1_lengthOn_63 : decode cX1_lengthOn 63 = .ok (.aload_n 1, 1) := by decide +kernel
theorem dX1_lengthOn_64 : decode cX1_lengthOn 64 = .ok (.getfield 63, 3) := by decide +kernel
theorem dX1_lengthOn_67 : decode cX1_lengthOn 67 = .ok (.iload 5, 2) := by decide +kernel
theorem dX1_lengthOn_69 : decode cX1_lengthOn 69 = .ok (.iaload, 1) := by decide +kernel
theorem dX1_lengthOn_70 : decode cX1_lengthOn 70 = .ok (.invokestatic 83, 3) := by decide +kernel
theorem dX1_lengthOn_73 : decode cX1_lengthOn 73 = .ok (.istore 4, 2) := by decide +kernel
theorem dX1_lengthOn_75 : decode cX1_lengthOn 75 = .ok (.iinc 5 1, 3) := by decide +kernel
theorem dX1_lengthOn_78 : decode cX1_lengthOn 78 = .ok (.goto (-70), 3) := by decide +kernel
theorem dX1_lengthOn_81 : decode cX1_lengthOn 81 = .ok (.iload_n 3, 1) := by decide +kernel
theorem dX1_lengthOn_82 : decode cX1_lengthOn 82 = .ok (.iconst (-1), 1) := by decide +kernel
theorem dX1_lengthOn_83 : decode cX1_lengthOn 83 = .ok (.if_icmp .ne 7, 3) := by decide +kernel
theorem dX1_lengthOn_86 : decode cX1_lengthOn 86 = .ok (.iconst 0, 1) := by decide +kernel
theorem dX1_lengthOn_87 : decode cX1_lengthOn 87 = .ok (.goto 9, 3) := by decide +kernel
theorem dX1_lengthOn_90 : decode cX1_lengthOn 90 = .ok (.iload 4, 2) := by decide +kernel
theorem dX1_lengthOn_92 : decode cX1_lengthOn 92 = .ok (.iload_n 3, 1) := by decide +kernel
theorem dX1_lengthOn_93 : decode cX1_lengthOn 93 = .ok (.isub, 1) := by decide +kernel
theorem dX1_lengthOn_94 : decode cX1_lengthOn 94 = .ok (.iconst 1, 1) := by decide +kernel
theorem dX1_lengthOn_95 : decode cX1_lengthOn 95 = .ok (.iadd, 1) := by decide +kernel
theorem dX1_lengthOn_96 : decode cX1_lengthOn 96 = .ok (.ireturn, 1) := by decide +kernel
theorem dX2_init_0 : decode cX2_init 0 = .ok (.aload_n 0, 1) := by decide +kernel
theorem dX2_init_1 : decode cX2_init 1 = .ok (.invokespecial 3, 3) := by decide +kernel
theorem dX2_init_4 : decode cX2_init 4 = .ok (.aload_n 0, 1) := by decide +kernel
theorem dX2_init_5 : decode cX2_init 5 = .ok (.iconst 5, 1) := by decide +kernel
theorem dX2_init_6 : decode cX2_init 6 = .ok (.newarray .int, 2) := by decide +kernel
theorem dX2_init_8 : decode cX2_init 8 = .ok (.putfield 9, 3) := by decide +kernel
theorem dX2_init_11 : decode cX2_init 11 = .ok (.aload_n 0, 1) := by decide +kernel
theorem dX2_init_12 : decode cX2_init 12 = .ok (.iconst 5, 1) := by decide +kernel
theorem dX2_init_13 : decode cX2_init 13 = .ok (.newarray .int, 2) := by decide +kernel
theorem dX2_init_15 : decode cX2_init 15 = .ok (.putfield 15, 3) := by decide +kernel
theorem dX2_init_18 : decode cX2_init 18 = .ok (.aload_n 0, 1) := by decide +kernel
theorem dX2_init_19 : decode cX2_init 19 = .ok (.iconst 5, 1) := by decide +kernel
theorem dX2_init_20 : decode cX2_init 20 = .ok (.newarray .int, 2) := by decide +kernel
theorem dX2_init_22 : decode cX2_init 22 = .ok (.putfield 18, 3) := by decide +kernel
theorem dX2_init_25 : decode cX2_init 25 = .ok (.aload_n 0, 1) := by decide +kernel
theorem dX2_init_26 : decode cX2_init 26 = .ok (.iconst 5, 1) := by decide +kernel
theorem dX2_init_27 : decode cX2_init 27 = .ok (.newarray .int, 2) := by decide +kernel
theorem dX2_init_29 : decode cX2_init 29 = .ok (.putfield 21, 3) := by decide +kernel
theorem dX2_init_32 : decode cX2_init 32 = .ok (.aload_n 0, 1) := by decide +kernel
theorem dX2_init_33 : decode cX2_init 33 = .ok (.iconst 5, 1) := by decide +kernel
theorem dX2_init_34 : decode cX2_init 34 = .ok (.newarray .int, 2) := by decide +kernel
theorem dX2_init_36 : decode cX2_init 36 = .ok (.putfield 24, 3) := by decide +kernel
theorem dX2_init_39 : decode cX2_init 39 = .ok (.return_, 1) := by decide +kernel
theorem dX2_copyFrom_0 : decode cX2_copyFrom 0 = .ok (.aload_n 0, 1) := by decide +kernel
theorem dX2_copyFrom_1 : decode cX2_copyFrom 1 = .ok (.aload_n 1, 1) := by decide +kernel
theorem dX2_copyFrom_2 : decode cX2_copyFrom 2 = .ok (.getfield 27, 3) := by decide +kernel
theorem dX2_copyFrom_5 : decode cX2_copyFrom 5 = .ok (.putfield 27, 3) := by decide +kernel
theorem dX2_copyFrom_8 : decode cX2_copyFrom 8 = .ok (.aload_n 0, 1) := by decide +kernel
theorem dX2_copyFrom_9 : decode cX2_copyFrom 9 = .ok (.aload_n 1, 1) := by decide +kernel
theorem dX2_copyFrom_10 : decode cX2_copyFrom 10 = .ok (.getfield 31, 3) := by decide +kernel
theorem dX2_copyFrom_13 : decode cX2_copyFrom 13 = .ok (.putfield 31, 3) := by decide +kernel
theorem dX2_copyFrom_16 : decode cX2_copyFrom 16 = .ok (.aload_n 1, 1) := by decide +kernel
theorem dX2_copyFrom_17 : decode cX2_copyFrom 17 = .ok (.getfield 9, 3) := by decide +kernel
theorem dX2_copyFrom_20 : decode cX2_copyFrom 20 = .ok (.iconst 0, 1) := by decide +kernel
theorem dX2_copyFrom_21 : decode cX2_copyFrom 21 = .ok (.aload_n 0, 1) := by decide +kernel
theorem dX2_copyFrom_22 : decode cX2_copyFrom 22 = .ok (.getfield 9, 3) := by decide +kernel
theorem dX2_copyFrom_25 : decode cX2_copyFrom 25 = .ok (.iconst 0, 1) := by decide +kernel
theorem dX2_copyFrom_26 : decode cX2_copyFrom 26 = .ok (.iconst 5, 1) := by decide +kernel
theorem dX2_copyFrom_27 : decode cX2_copyFrom 27 = .ok (.invokestatic 34, 3) := by decide +kernel
theorem dX2_copyFrom_30 : decode cX2_copyFrom 30 = .ok (.aload_n 1, 1) := by decide +kernel
theorem dX2_copyFrom_31 : decode cX2_copyFrom 31 = .ok (.getfield 15, 3) := by decide +kernel
theorem dX2_copyFrom_34 : decode cX2_copyFrom 34 = .ok (.iconst 0, 1) := by decide +kernel
theorem dX2_copyFrom_35 : decode cX2_copyFrom 35 = .ok (.aload_n 0, 1) := by decide +kernel
theorem dX2_copyFrom_36 : decode cX2_copyFrom 36 = .ok (.getfield 15, 3) := by decide +kernel
theorem dX2_copyFrom_39 : decode cX2_copyFrom 39 = .ok (.iconst 0, 1) := by decide +kernel
theorem dX2_copyFrom_40 : decode cX2_copyFrom 40 = .ok (.iconst 5, 1) := by decide +kernel
theorem dX2_copyFrom_41 : decode cX2_copyFrom 41 = .ok (.invokestatic 34, 3) := by decide +kernel
theorem dX2_copyFrom_44 : decode cX2_copyFrom 44 = .ok (.aload_n 1, 1) := by decide +kernel
theorem dX2_copyFrom_45 : decode cX2_copyFrom 45 = .ok (.getfield 18, 3) := by decide +kernel
theorem dX2_copyFrom_48 : decode cX2_copyFrom 48 = .ok (.iconst 0, 1) := by decide +kernel
theorem dX2_copyFrom_49 : decode cX2_copyFrom 49 = .ok (.aload_n 0, 1) := by decide +kernel
theorem dX2_copyFrom_50 : decode cX2_copyFrom 50 = .ok (.getfield 18, 3) := by decide +kernel
theorem dX2_copyFrom_53 : decode cX2_copyFrom 53 = .ok (.iconst 0, 1) := by decide +kernel
theorem dX2_copyFrom_54 : decode cX2_copyFrom 54 = .ok (.iconst 5, 1) := by decide +kernel
theorem dX2_copyFrom_55 : decode cX2_copyFrom 55 = .ok (.invokestatic 34, 3) := by decide +kernel
theorem dX2_copyFrom_58 : decode cX2_copyFrom 58 = .ok (.aload_n 1, 1) := by decide +kernel
theorem dX2_copyFrom_59 : decode cX2_copyFrom 59 = .ok (.getfield 21, 3) := by decide +kernel
theorem dX2_copyFrom_62 : decode cX2_copyFrom 62 = .ok (.iconst 0, 1) := by decide +kernel
theorem dX2_copyFrom_63 : decode cX2_copyFrom 63 = .ok (.aload_n 0, 1) := by decide +kernel
theorem dX2_copyFrom_64 : decode cX2_copyFrom 64 = .ok (.getfield 21, 3) := by decide +kernel
theorem dX2_copyFrom_67 : decode cX2_copyFrom 67 = .ok (.iconst 0, 1) := by decide +kernel
theorem dX2_copyFrom_68 : decode cX2_copyFrom 68 = .ok (.iconst 5, 1) := by decide +kernel
theorem dX2_copyFrom_69 : decode cX2_copyFrom 69 = .ok (.invokestatic 34, 3) := by decide +kernel
theorem dX2_copyFrom_72 : decode cX2_copyFrom 72 = .ok (.aload_n 1, 1) := by decide +kernel
theorem dX2_copyFrom_73 : decode cX2_copyFrom 73 = .ok (.getfield 24, 3) := by decide +kernel
theorem dX2_copyFrom_76 : decode cX2_copyFrom 76 = .ok (.iconst 0, 1) := by decide +kernel
theorem dX2_copyFrom_77 : decode cX2_copyFrom 77 = .ok (.aload_n 0, 1) := by decide +kernel
theorem dX2_copyFrom_78 : decode cX2_copyFrom 78 = .ok (.getfield 24, 3) := by decide +kernel
theorem dX2_copyFrom_81 : decode cX2_copyFrom 81 = .ok (.iconst 0, 1) := by decide +kernel
theorem dX2_copyFrom_82 : decode cX2_copyFrom 82 = .ok (.iconst 5, 1) := by decide +kernel
theorem dX2_copyFrom_83 : decode cX2_copyFrom 83 = .ok (.invokestatic 34, 3) := by decide +kernel
theorem dX2_copyFrom_86 : decode cX2_copyFrom 86 = .ok (.return_, 1) := by decide +kernel
theorem dX2_isCaught_0 : decode cX2_isCaught 0 = .ok (.aload_n 0, 1) := by decide +kernel
theorem dX2_isCaught_1 : decode cX2_isCaught 1 = .ok (.getfield 31, 3) := by decide +kernel
theorem dX2_isCaught_4 : decode cX2_isCaught 4 = .ok (.iload_n 1, 1) := by decide +kernel
theorem dX2_isCaught_5 : decode cX2_isCaught 5 = .ok (.ishr, 1) := by decide +kernel
theorem dX2_isCaught_6 : decode cX2_isCaught 6 = .ok (.iconst 1, 1) := by decide +kernel
theorem dX2_isCaught_7 : decode cX2_isCaught 7 = .ok (.iand, 1) := by decide +kernel
theorem dX2_isCaught_8 : decode cX2_isCaught 8 = .ok (.iconst 1, 1) := by decide +kernel
theorem dX2_isCaught_9 : decode cX2_isCaught 9 = .ok (.if_icmp .ne 7, 3) := by decide +kernel
theorem dX2_isCaught_12 : decode cX2_isCaught 12 = .ok (.iconst 1, 1) := by decide +kernel
theorem dX2_isCaught_13 : decode cX2_isCaught 13 = .ok (.goto 4, 3) := by decide +kernel
theorem dX2_isCaught_16 : decode cX2_isCaught 16 = .ok (.iconst 0, 1) := by decide +kernel
theorem dX2_isCaught_17 : decode cX2_isCaught 17 = .ok (.ireturn, 1) := by decide +kernel
theorem dX3_init_0 : decode cX3_init 0 = .ok (.aload_n 0, 1) := by decide +kernel
theorem dX3_init_1 : decode cX3_init 1 = .ok (.invokespecial 3, 3) := by decide +kernel
theorem dX3_init_4 : decode cX3_init 4 = .ok (.aload_n 0, 1) := by decide +kernel
theorem dX3_init_5 : decode cX3_init 5 = .ok (.iconst 3, 1) := by decide +kernel
theorem dX3_init_6 : decode cX3_init 6 = .ok (.newarray .int, 2) := by decide +kernel
theorem dX3_init_8 : decode cX3_init 8 = .ok (.putfield 9, 3) := by decide +kernel
theorem dX3_init_11 : decode cX3_init 11 = .ok (.aload_n 0, 1) := by decide +kernel
theorem dX3_init_12 : decode cX3_init 12 = .ok (.iconst 3, 1) := by decide +kernel
theorem dX3_init_13 : decode cX3_init 13 = .ok (.newarray .int, 2) := by decide +kernel
theorem dX3_init_15 : decode cX3_init 15 = .ok (.putfield 15, 3) := by decide +kernel
theorem dX3_init_18 : decode cX3_init 18 = .ok (.aload_n 0, 1) := by decide +kernel
theorem dX3_init_19 : decode cX3_init 19 = .ok (.iconst 3, 1) := by decide +kernel
theorem dX3_init_20 : decode cX3_init 20 = .ok (.newarray .int, 2) := by decide +kernel
theorem dX3_init_22 : decode cX3_init 22 = .ok (.putfield 18, 3) := by decide +kernel
theorem dX3_init_25 : decode cX3_init 25 = .ok (.return_, 1) := by decide +kernel
theorem dX3_gatherNone_0 : decode cX3_gatherNone 0 = .ok (.aload_n 0, 1) := by decide +kernel
theorem dX3_gatherNone_1 : decode cX3_gatherNone 1 = .ok (.iconst 0, 1) := by decide +kernel
theorem dX3_gatherNone_2 : decode cX3_gatherNone 2 = .ok (.putfield 21, 3) := by decide +kernel
theorem dX3_gatherNone_5 : decode cX3_gatherNone 5 = .ok (.aload_n 0, 1) := by decide +kernel
theorem dX3_gatherNone_6 : decode cX3_gatherNone 6 = .ok (.iconst (-1), 1) := by decide +kernel
theorem dX3_gatherNone_7 : decode cX3_gatherNone 7 = .ok (.putfield 25, 3) := by decide +kernel
theorem dX3_gatherNone_10 : decode cX3_gatherNone 10 = .ok (.return_, 1) := by decide +kernel
theorem dX3_gather_0 : decode cX3_gather 0 = .ok (.aload_n 0, 1) := by decide +kernel
theorem dX3_gather_1 : decode cX3_gather 1 = .ok (.invokevirtual 28, 3) := by decide +kernel
theorem dX3_gather_4 : decode cX3_gather 4 = .ok (.iconst 0, 1) := by decide +kernel
theorem dX3_gather_5 : decode cX3_gather 5 = .ok (.istore_n 3, 1) := by decide +kernel
theorem dX3_gather_6 : decode cX3_gather 6 = .ok (.iload_n 3, 1) := by decide +kernel
theorem dX3_gather_7 : decode cX3_gather 7 = .ok (.aload_n 1, 1) := by decide +kernel
theorem dX3_gather_8 : decode cX3_gather 8 = .ok (.getfield 31, 3) := by decide +kernel
theorem dX3_gather_11 : decode cX3_gather 11 = .ok (.if_icmp .ge 88, 3) := by decide +kernel
theorem dX3_gather_14 : decode cX3_gather 14 = .ok (.iload_n 3, 1) := by decide +kernel
theorem dX3_gather_15 : decode cX3_gather 15 = .ok (.iconst 5, 1) := by decide +kernel
theorem dX3_gather_16 : decode cX3_gather 16 = .ok (.if_icmp .ge 83, 3) := by decide +kernel
theorem dX3_gather_19 : decode cX3_gather 19 = .ok (.aload_n 0, 1) := by decide +kernel
theorem dX3_gather_20 : decode cX3_gather 20 = .ok (.getfield 21, 3) := by decide +kernel
theorem dX3_gather_23 : decode cX3_gather 23 = .ok (.iconst 3, 1) := by decide +kernel
theorem dX3_gather_24 : decode cX3_gather 24 = .ok (.if_icmp .ge 75, 3) := by decide +kernel
theorem dX3_gather_27 : decode cX3_gather 27 = .ok (.aload_n 1, 1) := by decide +kernel
theorem dX3_gather_28 : decode cX3_gather 28 = .ok (.getfield 36, 3) := by decide +kernel
theorem dX3_gather_31 : decode cX3_gather 31 = .ok (.iload_n 3, 1) := by decide +kernel
theorem dX3_gather_32 : decode cX3_gather 32 = .ok (.iaload, 1) := by decide +kernel
theorem dX3_gather_33 : decode cX3_gather 33 = .ok (.aload_n 2, 1) := by decide +kernel
theorem dX3_gather_34 : decode cX3_gather 34 = .ok (.getfield 39, 3) := by decide +kernel
theorem dX3_gather_37 : decode cX3_gather 37 = .ok (.iload_n 3, 1) := by decide +kernel
theorem dX3_gather_38 : decode cX3_gather 38 = .ok (.iaload, 1) := by decide +kernel
theorem dX3_gather_39 : decode cX3_gather 39 = .ok (.isub, 1) := by decide +kernel
theorem dX3_gather_40 : decode cX3_gather 40 = .ok (.aload_n 2, 1) := by decide +kernel
theorem dX3_gather_41 : decode cX3_gather 41 = .ok (.getfield 44, 3) := by decide +kernel
theorem dX3_gather_44 : decode cX3_gather 44 = .ok (.iload_n 3, 1) := by decide +kernel
theorem dX3_gather_45 : decode cX3_gather 45 = .ok (.iaload, 1) := by decide +kernel
theorem dX3_gather_46 : decode cX3_gather 46 = .ok (.isub, 1) := by decide +kernel
theorem dX3_gather_47 : decode cX3_gather 47 = .ok (.istore 4, 2) := by decide +kernel
theorem dX3_gather_49 : decode cX3_gather 49 = .ok (.iload 4, 2) := by decide +kernel
theorem dX3_gather_51 : decode cX3_gather 51 = .ok (.ifCond .le 42, 3) := by decide +kernel
theorem dX3_gather_54 : decode cX3_gather 54 = .ok (.aload_n 2, 1) := by decide +kernel
theorem dX3_gather_55 : decode cX3_gather 55 = .ok (.iload_n 3, 1) := by decide +kernel
theorem dX3_gather_56 : decode cX3_gather 56 = .ok (.invokevirtual 47, 3) := by decide +kernel
theorem dX3_gather_59 : decode cX3_gather 59 = .ok (.ifCond .ne 34, 3) := by decide +kernel
theorem dX3_gather_62 : decode cX3_gather 62 = .ok (.aload_n 0, 1) := by decide +kernel
theorem dX3_gather_63 : decode cX3_gather 63 = .ok (.getfield 9, 3) := by decide +kernel
theorem dX3_gather_66 : decode cX3_gather 66 = .ok (.aload_n 0, 1) := by decide +kernel
theorem dX3_gather_67 : decode cX3_gather 67 = .ok (.getfield 21, 3) := by decide +kernel
theorem dX3_gather_70 : decode cX3_gather 70 = .ok (.iload_n 3, 1) := by decide +kernel
theorem dX3_gather_71 : decode cX3_gather 71 = .ok (.iastore, 1) := by decide +kernel
theorem dX3_gather_72 : decode cX3_gather 72 = .ok (.aload_n 0, 1) := by decide +kernel
theorem dX3_gather_73 : decode cX3_gather 73 = .ok (.getfield 15, 3) := by decide +kernel
theorem dX3_gather_76 : decode cX3_gather 76 = .ok (.aload_n 0, 1) := by decide +kernel
theorem dX3_gather_77 : decode cX3_gather 77 = .ok (.getfield 21, 3) := by decide +kernel
theorem dX3_gather_80 : decode cX3_gather 80 = .ok (.iload 4, 2) := by decide +kernel
theorem dX3_gather_82 : decode cX3_gather 82 = .ok (.iastore, 1) := by decide +kernel
theorem dX3_gather_83 : decode cX3_gather 83 = .ok (.aload_n 0, 1) := by decide +kernel
theorem dX3_gather_84 : decode cX3_gather 84 = .ok (.dup, 1) := by decide +kernel
theorem dX3_gather_85 : decode cX3_gather 85 = .ok (.getfield 21, 3) := by decide +kernel
theorem dX3_gather_88 : decode cX3_gather 88 = .ok (.iconst 1, 1) := by decide +kernel
theorem dX3_gather_89 : decode cX3_gather 89 = .ok (.iadd, 1) := by decide +kernel
theorem dX3_gather_90 : decode cX3_gather 90 = .ok (.putfield 21, 3) := by decide +kernel
theorem dX3_gather_93 : decode cX3_gather 93 = .ok (.iinc 3 1, 3) := by decide +kernel
theorem dX3_gather_96 : decode cX3_gather 96 = .ok (.goto (-90), 3) := by decide +kernel
theorem dX3_gather_99 : decode cX3_gather 99 = .ok (.return_, 1) := by decide +kernel
theorem dX3_setStarts_0 : decode cX3_setStarts 0 = .ok (.aload_n 0, 1) := by decide +kernel
theorem dX3_setStarts_1 : decode cX3_setStarts 1 = .ok (.getfield 18, 3) := by decide +kernel
theorem dX3_setStarts_4 : decode cX3_setStarts 4 = .ok (.iconst 0, 1) := by decide +kernel
theorem dX3_setStarts_5 : decode cX3_setStarts 5 = .ok (.iload_n 1, 1) := by decide +kernel
theorem dX3_setStarts_6 : decode cX3_setStarts 6 = .ok (.iastore, 1) := by decide +kernel
theorem dX3_setStarts_7 : decode cX3_setStarts 7 = .ok (.aload_n 0, 1) := by decide +kernel
theorem dX3_setStarts_8 : decode cX3_setStarts 8 = .ok (.getfield 18, 3) := by decide +kernel
theorem dX3_setStarts_11 : decode cX3_setStarts 11 = .ok (.iconst 1, 1) := by decide +kernel
theorem dX3_setStarts_12 : decode cX3_setStarts 12 = .ok (.iload_n 2, 1) := by decide +kernel
theorem dX3_setStarts_13 : decode cX3_setStarts 13 = .ok (.iastore, 1) := by decide +kernel
theorem dX3_setStarts_14 : decode cX3_setStarts 14 = .ok (.aload_n 0, 1) := by decide +kernel
theorem dX3_setStarts_15 : decode cX3_setStarts 15 = .ok (.getfield 18, 3) := by decide +kernel
theorem dX3_setStarts_18 : decode cX3_setStarts 18 = .ok (.iconst 2, 1) := by decide +kernel
theorem dX3_setStarts_19 : decode cX3_setStarts 19 = .ok (.iload_n 3, 1) := by decide +kernel
theorem dX3_setStarts_20 : decode cX3_setStarts 20 = .ok (.iastore, 1) := by decide +kernel
theorem dX3_setStarts_21 : decode cX3_setStarts 21 = .ok (.return_, 1) := by decide +kernel
theorem dX3_latest_0 : decode cX3_latest 0 = .ok (.iload_n 1, 1) := by decide +kernel
theorem dX3_latest_1 : decode cX3_latest 1 = .ok (.aload_n 0, 1) := by decide +kernel
theorem dX3_latest_2 : decode cX3_latest 2 = .ok (.getfield 21, 3) := by decide +kernel
theorem dX3_latest_5 : decode cX3_latest 5 = .ok (.if_icmp .ge 16, 3) := by decide +kernel
theorem dX3_latest_8 : decode cX3_latest 8 = .ok (.iload_n 1, 1) := by decide +kernel
theorem dX3_latest_9 : decode cX3_latest 9 = .ok (.aload_n 0, 1) := by decide +kernel
theorem dX3_latest_10 : decode cX3_latest 10 = .ok (.getfield 25, 3) := by decide +kernel
theorem dX3_latest_13 : decode cX3_latest 13 = .ok (.if_icmp .eq 8, 3) := by decide +kernel
theorem dX3_latest_16 : decode cX3_latest 16 = .ok (.bipush 6, 2) := by decide +kernel
theorem dX3_latest_18 : decode cX3_latest 18 = .ok (.goto 4, 3) := by decide +kernel
theorem dX3_latest_21 : decode cX3_latest 21 = .ok (.iconst 0, 1) := by decide +kernel
theorem dX3_latest_22 : decode cX3_latest 22 = .ok (.ireturn, 1) := by decide +kernel
theorem dX3_order_0 : decode cX3_order 0 = .ok (.iconst 0, 1) := by decide +kernel
theorem dX3_order_1 : decode cX3_order 1 = .ok (.istore_n 3, 1) := by decide +kernel
theorem dX3_order_2 : decode cX3_order 2 = .ok (.iload_n 3, 1) := by decide +kernel
theorem dX3_order_3 : decode cX3_order 3 = .ok (.aload_n 0, 1) := by decide +kernel
theorem dX3_order_4 : decode cX3_order 4 = .ok (.getfield 21, 3) := by decide +kernel
theorem dX3_order_7 : decode cX3_order 7 = .ok (.if_icmp .ge 65, 3) := by decide +kernel
theorem dX3_order_10 : decode cX3_order 10 = .ok (.iload_n 3, 1) := by decide +kernel
theorem dX3_order_11 : decode cX3_order 11 = .ok (.iconst 3, 1) := by decide +kernel
theorem dX3_order_12 : decode cX3_order 12 = .ok (.if_icmp .ge 60, 3) := by decide +kernel
theorem dX3_order_15 : decode cX3_order 15 = .ok (.aload_n 0, 1) := by decide +kernel
theorem dX3_order_16 : decode cX3_order 16 = .ok (.getfield 18, 3) := by decide +kernel
theorem dX3_order_19 : decode cX3_order 19 = .ok (.iload_n 3, 1) := by decide +kernel
theorem dX3_order_20 : decode cX3_order 20 = .ok (.iaload, 1) := by decide +kernel
theorem dX3_order_21 : decode cX3_order 21 = .ok (.iload_n 2, 1) := by decide +kernel
theorem dX3_order_22 : decode cX3_order 22 = .ok (.if_icmp .ne 44, 3) := by decide +kernel
theorem dX3_order_25 : decode cX3_order 25 = .ok (.iload_n 3, 1) := by decide +kernel
theorem dX3_order_26 : decode cX3_order 26 = .ok (.aload_n 0, 1) := by decide +kernel
theorem dX3_order_27 : decode cX3_order 27 = .ok (.getfield 25, 3) := by decide +kernel
theorem dX3_order_30 : decode cX3_order 30 = .ok (.if_icmp .eq 36, 3) := by decide +kernel
theorem dX3_order_33 : decode cX3_order 33 = .ok (.aload_n 1, 1) := by decide +kernel
theorem dX3_order_34 : decode cX3_order 34 = .ok (.aload_n 0, 1) := by decide +kernel
theorem dX3_order_35 : decode cX3_order 35 = .ok (.getfield 9, 3) := by decide +kernel
theorem dX3_order_38 : decode cX3_order 38 = .ok (.iload_n 3, 1) := by decide +kernel
theorem dX3_order_39 : decode cX3_order 39 = .ok (.iaload, 1) := by decide +kernel
theorem dX3_order_40 : decode cX3_order 40 = .ok (.invokevirtual 47, 3) := by decide +kernel
theorem dX3_order_43 : decode cX3_order 43 = .ok (.ifCond .ne 23, 3) := by decide +kernel
theorem dX3_order_46 : decode cX3_order 46 = .ok (.aload_n 1, 1) := by decide +kernel
theorem dX3_order_47 : decode cX3_order 47 = .ok (.getfield 44, 3) := by decide +kernel
theorem dX3_order_50 : decode cX3_order 50 = .ok (.aload_n 0, 1) := by decide +kernel
theorem dX3_order_51 : decode cX3_order 51 = .ok (.getfield 9, 3) := by decide +kernel
theorem dX3_order_54 : decode cX3_order 54 = .ok (.iload_n 3, 1) := by decide +kernel
theorem dX3_order_55 : decode cX3_order 55 = .ok (.iaload, 1) := by decide +kernel
theorem dX3_order_56 : decode cX3_order 56 = .ok (.dup2, 1) := by decide +kernel
theorem dX3_order_57 : decode cX3_order 57 = .ok (.iaload, 1) := by decide +kernel
theorem dX3_order_58 : decode cX3_order 58 = .ok (.aload_n 0, 1) := by decide +kernel
theorem dX3_order_59 : decode cX3_order 59 = .ok (.getfield 15, 3) := by decide +kernel
theorem dX3_order_62 : decode cX3_order 62 = .ok (.iload_n 3, 1) := by decide +kernel
theorem dX3_order_63 : decode cX3_order 63 = .ok (.iaload, 1) := by decide +kernel
theorem dX3_order_64 : decode cX3_order 64 = .ok (.iadd, 1) := by decide +kernel
theorem dX3_order_65 : decode cX3_order 65 = .ok (.iastore, 1) := by decide +kernel
theorem dX3_order_66 : decode cX3_order 66 = .ok (.iinc 3 1, 3) := by decide +kernel
theorem dX3_order_69 : decode cX3_order 69 = .ok (.goto (-67), 3) := by decide +kernel
theorem dX3_order_72 : decode cX3_order 72 = .ok (.return_, 1) := by decide +kernel
theorem dX3_sum_0 : decode cX3_sum 0 = .ok (.iconst 0, 1) := by decide +kernel
theorem dX3_sum_1 : decode cX3_sum 1 = .ok (.istore_n 1, 1) := by decide +kernel
theorem dX3_sum_2 : decode cX3_sum 2 = .ok (.iconst 0, 1) := by decide +kernel
theorem dX3_sum_3 : decode cX3_sum 3 = .ok (.istore_n 2, 1) := by decide +kernel
theorem dX3_sum_4 : decode cX3_sum 4 = .ok (.iload_n 2, 1) := by decide +kernel
theorem dX3_sum_5 : decode cX3_sum 5 = .ok (.aload_n 0, 1) := by decide +kernel
theorem dX3_sum_6 : decode cX3_sum 6 = .ok (.getfield 21, 3) := by decide +kernel
theorem dX3_sum_9 : decode cX3_sum 9 = .ok (.if_icmp .ge 23, 3) := by decide +kernel
theorem dX3_sum_12 : decode cX3_sum 12 = .ok (.iload_n 2, 1) := by decide +kernel
theorem dX3_sum_13 : decode cX3_sum 13 = .ok (.iconst 3, 1) := by decide +kernel
theorem dX3_sum_14 : decode cX3_sum 14 = .ok (.if_icmp .ge 18, 3) := by decide +kernel
theorem dX3_sum_17 : decode cX3_sum 17 = .ok (.iload_n 1, 1) := by decide +kernel
theorem dX3_sum_18 : decode cX3_sum 18 = .ok (.aload_n 0, 1) := by decide +kernel
theorem dX3_sum_19 : decode cX3_sum 19 = .ok (.getfield 18, 3) := by decide +kernel
theorem dX3_sum_22 : decode cX3_sum 22 = .ok (.iload_n 2, 1) := by decide +kernel
theorem dX3_sum_23 : decode cX3_sum 23 = .ok (.iaload, 1) := by decide +kernel
theorem dX3_sum_24 : decode cX3_sum 24 = .ok (.iadd, 1) := by decide +kernel
theorem dX3_sum_25 : decode cX3_sum 25 = .ok (.istore_n 1, 1) := by decide +kernel
theorem dX3_sum_26 : decode cX3_sum 26 = .ok (.iinc 2 1, 3) := by decide +kernel
theorem dX3_sum_29 : decode cX3_sum 29 = .ok (.goto (-25), 3) := by decide +kernel
theorem dX3_sum_32 : decode cX3_sum 32 = .ok (.iload_n 1, 1) := by decide +kernel
theorem dX3_sum_33 : decode cX3_sum 33 = .ok (.ireturn, 1) := by decide +kernel
theorem dX3_startOf_0 : decode cX3_startOf 0 = .ok (.iconst 0, 1) := by decide +kernel
theorem dX3_startOf_1 : decode cX3_startOf 1 = .ok (.istore_n 2, 1) := by decide +kernel
theorem dX3_startOf_2 : decode cX3_startOf 2 = .ok (.iload_n 2, 1) := by decide +kernel
theorem dX3_startOf_3 : decode cX3_startOf 3 = .ok (.aload_n 0, 1) := by decide +kernel
theorem dX3_startOf_4 : decode cX3_startOf 4 = .ok (.getfield 21, 3) := by decide +kernel
theorem dX3_startOf_7 : decode cX3_startOf 7 = .ok (.if_icmp .ge 31, 3) := by decide +kernel
theorem dX3_startOf_10 : decode cX3_startOf 10 = .ok (.iload_n 2, 1) := by decide +kernel
theorem dX3_startOf_11 : decode cX3_startOf 11 = .ok (.iconst 3, 1) := by decide +kernel
theorem dX3_startOf_12 : decode cX3_startOf 12 = .ok (.if_icmp .ge 26, 3) := by decide +kernel
theorem dX3_startOf_15 : decode cX3_startOf 15 = .ok (.aload_n 0, 1) := by decide +kernel
theorem dX3_startOf_16 : decode cX3_startOf 16 = .ok (.getfield 9, 3) := by decide +kernel
theorem dX3_startOf_19 : decode cX3_startOf 19 = .ok (.iload_n 2, 1) := by decide +kernel
theorem dX3_startOf_20 : decode cX3_startOf 20 = .ok (.iaload, 1) := by decide +kernel
theorem dX3_startOf_21 : decode cX3_startOf 21 = .ok (.iload_n 1, 1) := by decide +kernel
theorem dX3_startOf_22 : decode cX3_startOf 22 = .ok (.if_icmp .ne 10, 3) := by decide +kernel
theorem dX3_startOf_25 : decode cX3_startOf 25 = .ok (.aload_n 0, 1) := by decide +kernel
theorem dX3_startOf_26 : decode cX3_startOf 26 = .ok (.getfield 18, 3) := by decide +kernel
theorem dX3_startOf_29 : decode cX3_startOf 29 = .ok (.iload_n 2, 1) := by decide +kernel
theorem dX3_startOf_30 : decode cX3_startOf 30 = .ok (.iaload, 1) := by decide +kernel
theorem dX3_startOf_31 : decode cX3_startOf 31 = .ok (.ireturn, 1) := by decide +kernel
theorem dX3_startOf_32 : decode cX3_startOf 32 = .ok (.iinc 2 1, 3) := by decide +kernel
theorem dX3_startOf_35 : decode cX3_startOf 35 = .ok (.goto (-33), 3) := by decide +kernel
theorem dX3_startOf_38 : decode cX3_startOf 38 = .ok (.iconst 0, 1) := by decide +kernel
theorem dX3_startOf_39 : decode cX3_startOf 39 = .ok (.ireturn, 1) := by decide +kernel
theorem dX4_init_0 : decode cX4_init 0 = .ok (.aload_n 0, 1) := by decide +kernel
theorem dX4_init_1 : decode cX4_init 1 = .ok (.invokespecial 3, 3) := by decide +kernel
theorem dX4_init_4 : decode cX4_init 4 = .ok (.aload_n 0, 1) := by decide +kernel
theorem dX4_init_5 : decode cX4_init 5 = .ok (.sipush 200, 3) := by decide +kernel
theorem dX4_init_8 : decode cX4_init 8 = .ok (.newarray .int, 2) := by decide +kernel
theorem dX4_init_10 : decode cX4_init 10 = .ok (.putfield 9, 3) := by decide +kernel
theorem dX4_init_13 : decode cX4_init 13 = .ok (.return_, 1) := by decide +kernel
theorem dX4_add_0 : decode cX4_add 0 = .ok (.aload_n 0, 1) := by decide +kernel
theorem dX4_add_1 : decode cX4_add 1 = .ok (.getfield 15, 3) := by decide +kernel
theorem dX4_add_4 : decode cX4_add 4 = .ok (.ifCond .lt 13, 3) := by decide +kernel
theorem dX4_add_7 : decode cX4_add 7 = .ok (.aload_n 0, 1) := by decide +kernel
theorem dX4_add_8 : decode cX4_add 8 = .ok (.getfield 15, 3) := by decide +kernel
theorem dX4_add_11 : decode cX4_add 11 = .ok (.sipush 200, 3) := by decide +kernel
theorem dX4_add_14 : decode cX4_add 14 = .ok (.if_icmp .lt 5, 3) := by decide +kernel
theorem dX4_add_17 : decode cX4_add 17 = .ok (.iconst 0, 1) := by decide +kernel
theorem dX4_add_18 : decode cX4_add 18 = .ok (.ireturn, 1) := by decide +kernel
theorem dX4_add_19 : decode cX4_add 19 = .ok (.aload_n 0, 1) := by decide +kernel
theorem dX4_add_20 : decode cX4_add 20 = .ok (.getfield 9, 3) := by decide +kernel
theorem dX4_add_23 : decode cX4_add 23 = .ok (.aload_n 0, 1) := by decide +kernel
theorem dX4_add_24 : decode cX4_add 24 = .ok (.getfield 15, 3) := by decide +kernel
theorem dX4_add_27 : decode cX4_add 27 = .ok (.iload_n 1, 1) := by decide +kernel
theorem dX4_add_28 : decode cX4_add 28 = .ok (.iastore, 1) := by decide +kernel
theorem dX4_add_29 : decode cX4_add 29 = .ok (.aload_n 0, 1) := by decide +kernel
theorem dX4_add_30 : decode cX4_add 30 = .ok (.dup, 1) := by decide +kernel
theorem dX4_add_31 : decode cX4_add 31 = .ok (.getfield 15, 3) := by decide +kernel
theorem dX4_add_34 : decode cX4_add 34 = .ok (.iconst 1, 1) := by decide +kernel
theorem dX4_add_35 : decode cX4_add 35 = .ok (.iadd, 1) := by decide +kernel
theorem dX4_add_36 : decode cX4_add 36 = .ok (.putfield 15, 3) := by decide +kernel
theorem dX4_add_39 : decode cX4_add 39 = .ok (.iconst 1, 1) := by decide +kernel
theorem dX4_add_40 : decode cX4_add 40 = .ok (.ireturn, 1) := by decide +kernel
theorem dX4_tell_0 : decode cX4_tell 0 = .ok (.aload_n 0, 1) := by decide +kernel
theorem dX4_tell_1 : decode cX4_tell 1 = .ok (.iconst 0, 1) := by decide +kernel
theorem dX4_tell_2 : decode cX4_tell 2 = .ok (.putfield 19, 3) := by decide +kernel
theorem dX4_tell_5 : decode cX4_tell 5 = .ok (.aload_n 0, 1) := by decide +kernel
theorem dX4_tell_6 : decode cX4_tell 6 = .ok (.iconst 0, 1) := by decide +kernel
theorem dX4_tell_7 : decode cX4_tell 7 = .ok (.putfield 22, 3) := by decide +kernel
theorem dX4_tell_10 : decode cX4_tell 10 = .ok (.iconst 0, 1) := by decide +kernel
theorem dX4_tell_11 : decode cX4_tell 11 = .ok (.istore_n 2, 1) := by decide +kernel
theorem dX4_tell_12 : decode cX4_tell 12 = .ok (.aload_n 0, 1) := by decide +kernel
theorem dX4_tell_13 : decode cX4_tell 13 = .ok (.invokevirtual 26, 3) := by decide +kernel
theorem dX4_tell_16 : decode cX4_tell 16 = .ok (.iconst 0, 1) := by decide +kernel
theorem dX4_tell_17 : decode cX4_tell 17 = .ok (.istore_n 3, 1) := by decide +kernel
theorem dX4_tell_18 : decode cX4_tell 18 = .ok (.iload_n 3, 1) := by decide +kernel
theorem dX4_tell_19 : decode cX4_tell 19 = .ok (.sipush 200, 3) := by decide +kernel
theorem dX4_tell_22 : decode cX4_tell 22 = .ok (.if_icmp .gt 47, 3) := by decide +kernel
theorem dX4_tell_25 : decode cX4_tell 25 = .ok (.aload_n 0, 1) := by decide +kernel
theorem dX4_tell_26 : decode cX4_tell 26 = .ok (.getfield 29, 3) := by decide +kernel
theorem dX4_tell_29 : decode cX4_tell 29 = .ok (.ifCond .eq 40, 3) := by decide +kernel
theorem dX4_tell_32 : decode cX4_tell 32 = .ok (.aload_n 0, 1) := by decide +kernel
theorem dX4_tell_33 : decode cX4_tell 33 = .ok (.getfield 22, 3) := by decide +kernel
theorem dX4_tell_36 : decode cX4_tell 36 = .ok (.ifCond .ne 33, 3) := by decide +kernel
theorem dX4_tell_39 : decode cX4_tell 39 = .ok (.aload_n 0, 1) := by decide +kernel
theorem dX4_tell_40 : decode cX4_tell 40 = .ok (.aload_n 1, 1) := by decide +kernel
theorem dX4_tell_41 : decode cX4_tell 41 = .ok (.iload_n 2, 1) := by decide +kernel
theorem dX4_tell_42 : decode cX4_tell 42 = .ok (.invokevirtual 32, 3) := by decide +kernel
theorem dX4_tell_45 : decode cX4_tell 45 = .ok (.aload_n 0, 1) := by decide +kernel
theorem dX4_tell_46 : decode cX4_tell 46 = .ok (.invokevirtual 36, 3) := by decide +kernel
theorem dX4_tell_49 : decode cX4_tell 49 = .ok (.iinc 2 1, 3) := by decide +kernel
theorem dX4_tell_52 : decode cX4_tell 52 = .ok (.aload_n 0, 1) := by decide +kernel
theorem dX4_tell_53 : decode cX4_tell 53 = .ok (.getfield 22, 3) := by decide +kernel
theorem dX4_tell_56 : decode cX4_tell 56 = .ok (.ifCond .ne 7, 3) := by decide +kernel
theorem dX4_tell_59 : decode cX4_tell 59 = .ok (.aload_n 0, 1) := by decide +kernel
theorem dX4_tell_60 : decode cX4_tell 60 = .ok (.invokevirtual 26, 3) := by decide +kernel
theorem dX4_tell_63 : decode cX4_tell 63 = .ok (.iinc 3 1, 3) := by decide +kernel
theorem dX4_tell_66 : decode cX4_tell 66 = .ok (.goto (-48), 3) := by decide +kernel
theorem dX4_tell_69 : decode cX4_tell 69 = .ok (.aload_n 0, 1) := by decide +kernel
theorem dX4_tell_70 : decode cX4_tell 70 = .ok (.getfield 22, 3) := by decide +kernel
theorem dX4_tell_73 : decode cX4_tell 73 = .ok (.ifCond .eq 13, 3) := by decide +kernel
theorem dX4_tell_76 : decode cX4_tell 76 = .ok (.bipush (-10), 2) := by decide +kernel
theorem dX4_tell_78 : decode cX4_tell 78 = .ok (.aload_n 0, 1) := by decide +kernel
theorem dX4_tell_79 : decode cX4_tell 79 = .ok (.getfield 39, 3) := by decide +kernel
theorem dX4_tell_82 : decode cX4_tell 82 = .ok (.isub, 1) := by decide +kernel
theorem dX4_tell_83 : decode cX4_tell 83 = .ok (.goto 4, 3) := by decide +kernel
theorem dX4_tell_86 : decode cX4_tell 86 = .ok (.iload_n 2, 1) := by decide +kernel
theorem dX4_tell_87 : decode cX4_tell 87 = .ok (.ireturn, 1) := by decide +kernel
theorem dX4_tellItem_0 : decode cX4_tellItem 0 = .ok (.aload_n 0, 1) := by decide +kernel
theorem dX4_tellItem_1 : decode cX4_tellItem 1 = .ok (.getfield 29, 3) := by decide +kernel
theorem dX4_tellItem_4 : decode cX4_tellItem 4 = .ok (.iconst 1, 1) := by decide +kernel
theorem dX4_tellItem_5 : decode cX4_tellItem 5 = .ok (.if_icmp .ne 10, 3) := by decide +kernel
theorem dX4_tellItem_8 : decode cX4_tellItem 8 = .ok (.aload_n 0, 1) := by decide +kernel
theorem dX4_tellItem_9 : decode cX4_tellItem 9 = .ok (.getfield 42, 3) := by decide +kernel
theorem dX4_tellItem_12 : decode cX4_tellItem 12 = .ok (.goto 4, 3) := by decide +kernel
theorem dX4_tellItem_15 : decode cX4_tellItem 15 = .ok (.iconst 0, 1) := by decide +kernel
theorem dX4_tellItem_16 : decode cX4_tellItem 16 = .ok (.tableswitch 178 98 119 #[129, 113, 178, 178, 178, 178, 170, 178, 178, 178, 178, 178, 178, 178, 137, 178, 104, 121, 178, 178, 178, 162], 104) := by decide +kernel
theorem dX4_tellItem_120 : decode cX4_tellItem 120 = .ok (.aload_n 0, 1) := by decide +kernel
theorem dX4_tellItem_121 : decode cX4_tellItem 121 = .ok (.aload_n 1, 1) := by decide +kernel
theorem dX4_tellItem_122 : decode cX4_tellItem 122 = .ok (.iload_n 2, 1) := by decide +kernel
theorem dX4_tellItem_123 : decode cX4_tellItem 123 = .ok (.invokevirtual 45, 3) := by decide +kernel
theorem dX4_tellItem_126 : decode cX4_tellItem 126 = .ok (.goto 73, 3) := by decide +kernel
theorem dX4_tellItem_129 : decode cX4_tellItem 129 = .ok (.aload_n 0, 1) := by decide +kernel
theorem dX4_tellItem_130 : decode cX4_tellItem 130 = .ok (.aload_n 1, 1) := by decide +kernel
theorem dX4_tellItem_131 : decode cX4_tellItem 131 = .ok (.invokevirtual 48, 3) := by decide +kernel
theorem dX4_tellItem_134 : decode cX4_tellItem 134 = .ok (.goto 65, 3) := by decide +kernel
theorem dX4_tellItem_137 : decode cX4_tellItem 137 = .ok (.aload_n 0, 1) := by decide +kernel
theorem dX4_tellItem_138 : decode cX4_tellItem 138 = .ok (.aload_n 1, 1) := by decide +kernel
theorem dX4_tellItem_139 : decode cX4_tellItem 139 = .ok (.invokevirtual 52, 3) := by decide +kernel
theorem dX4_tellItem_142 : decode cX4_tellItem 142 = .ok (.goto 57, 3) := by decide +kernel
theorem dX4_tellItem_145 : decode cX4_tellItem 145 = .ok (.aload_n 0, 1) := by decide +kernel
theorem dX4_tellItem_146 : decode cX4_tellItem 146 = .ok (.aload_n 1, 1) := by decide +kernel
theorem dX4_tellItem_147 : decode cX4_tellItem 147 = .ok (.invokevirtual 55, 3) := by decide +kernel
theorem dX4_tellItem_150 : decode cX4_tellItem 150 = .ok (.goto 49, 3) := by decide +kernel
theorem dX4_tellItem_153 : decode cX4_tellItem 153 = .ok (.aload_n 1, 1) := by decide +kernel
theorem dX4_tellItem_154 : decode cX4_tellItem 154 = .ok (.dup, 1) := by decide +kernel
theorem dX4_tellItem_155 : decode cX4_tellItem 155 = .ok (.getfield 58, 3) := by decide +kernel
theorem dX4_tellItem_158 : decode cX4_tellItem 158 = .ok (.iconst 1, 1) := by decide +kernel
theorem dX4_tellItem_159 : decode cX4_tellItem 159 = .ok (.aload_n 0, 1) := by decide +kernel
theorem dX4_tellItem_160 : decode cX4_tellItem 160 = .ok (.iconst 0, 1) := by decide +kernel
theorem dX4_tellItem_161 : decode cX4_tellItem 161 = .ok (.aload_n 1, 1) := by decide +kernel
theorem dX4_tellItem_162 : decode cX4_tellItem 162 = .ok (.getfield 63, 3) := by decide +kernel
theorem dX4_tellItem_165 : decode cX4_tellItem 165 = .ok (.iconst 1, 1) := by decide +kernel
theorem dX4_tellItem_166 : decode cX4_tellItem 166 = .ok (.isub, 1) := by decide +kernel
theorem dX4_tellItem_167 : decode cX4_tellItem 167 = .ok (.invokevirtual 66, 3) := by decide +kernel
theorem dX4_tellItem_170 : decode cX4_tellItem 170 = .ok (.ishl, 1) := by decide +kernel
theorem dX4_tellItem_171 : decode cX4_tellItem 171 = .ok (.ior, 1) := by decide +kernel
theorem dX4_tellItem_172 : decode cX4_tellItem 172 = .ok (.putfield 58, 3) := by decide +kernel
theorem dX4_tellItem_175 : decode cX4_tellItem 175 = .ok (.goto 24, 3) := by decide +kernel
theorem dX4_tellItem_178 : decode cX4_tellItem 178 = .ok (.aload_n 0, 1) := by decide +kernel
theorem dX4_tellItem_179 : decode cX4_tellItem 179 = .ok (.aload_n 1, 1) := by decide +kernel
theorem dX4_tellItem_180 : decode cX4_tellItem 180 = .ok (.invokevirtual 70, 3) := by decide +kernel
theorem dX4_tellItem_183 : decode cX4_tellItem 183 = .ok (.goto 16, 3) := by decide +kernel
theorem dX4_tellItem_186 : decode cX4_tellItem 186 = .ok (.aload_n 0, 1) := by decide +kernel
theorem dX4_tellItem_187 : decode cX4_tellItem 187 = .ok (.aload_n 1, 1) := by decide +kernel
theorem dX4_tellItem_188 : decode cX4_tellItem 188 = .ok (.invokevirtual 73, 3) := by decide +kernel
theorem dX4_tellItem_191 : decode cX4_tellItem 191 = .ok (.goto 8, 3) := by decide +kernel
theorem dX4_tellItem_194 : decode cX4_tellItem 194 = .ok (.aload_n 0, 1) := by decide +kernel
theorem dX4_tellItem_195 : decode cX4_tellItem 195 = .ok (.iconst 1, 1) := by decide +kernel
theorem dX4_tellItem_196 : decode cX4_tellItem 196 = .ok (.putfield 22, 3) := by decide +kernel
theorem dX4_tellItem_199 : decode cX4_tellItem 199 = .ok (.return_, 1) := by decide +kernel
theorem dX4_tellRing_0 : decode cX4_tellRing 0 = .ok (.aload_n 0, 1) := by decide +kernel
theorem dX4_tellRing_1 : decode cX4_tellRing 1 = .ok (.iload_n 2, 1) := by decide +kernel
theorem dX4_tellRing_2 : decode cX4_tellRing 2 = .ok (.ifCond .le 7, 3) := by decide +kernel
theorem dX4_tellRing_5 : decode cX4_tellRing 5 = .ok (.iconst 1, 1) := by decide +kernel
theorem dX4_tellRing_6 : decode cX4_tellRing 6 = .ok (.goto 4, 3) := by decide +kernel
theorem dX4_tellRing_9 : decode cX4_tellRing 9 = .ok (.iconst 0, 1) := by decide +kernel
theorem dX4_tellRing_10 : decode cX4_tellRing 10 = .ok (.putfield 22, 3) := by decide +kernel
theorem dX4_tellRing_13 : decode cX4_tellRing 13 = .ok (.aload_n 1, 1) := by decide +kernel
theorem dX4_tellRing_14 : decode cX4_tellRing 14 = .ok (.aload_n 0, 1) := by decide +kernel
theorem dX4_tellRing_15 : decode cX4_tellRing 15 = .ok (.iconst 4, 1) := by decide +kernel
theorem dX4_tellRing_16 : decode cX4_tellRing 16 = .ok (.bipush 12, 2) := by decide +kernel
theorem dX4_tellRing_18 : decode cX4_tellRing 18 = .ok (.invokevirtual 66, 3) := by decide +kernel
theorem dX4_tellRing_21 : decode cX4_tellRing 21 = .ok (.putfield 63, 3) := by decide +kernel
theorem dX4_tellRing_24 : decode cX4_tellRing 24 = .ok (.return_, 1) := by decide +kernel
theorem dX4_tellCost_0 : decode cX4_tellCost 0 = .ok (.aload_n 0, 1) := by decide +kernel
theorem dX4_tellCost_1 : decode cX4_tellCost 1 = .ok (.iconst 0, 1) := by decide +kernel
theorem dX4_tellCost_2 : decode cX4_tellCost 2 = .ok (.aload_n 1, 1) := by decide +kernel
theorem dX4_tellCost_3 : decode cX4_tellCost 3 = .ok (.getfield 63, 3) := by decide +kernel
theorem dX4_tellCost_6 : decode cX4_tellCost 6 = .ok (.iconst 1, 1) := by decide +kernel
theorem dX4_tellCost_7 : decode cX4_tellCost 7 = .ok (.isub, 1) := by decide +kernel
theorem dX4_tellCost_8 : decode cX4_tellCost 8 = .ok (.invokevirtual 66, 3) := by decide +kernel
theorem dX4_tellCost_11 : decode cX4_tellCost 11 = .ok (.istore_n 2, 1) := by decide +kernel
theorem dX4_tellCost_12 : decode cX4_tellCost 12 = .ok (.aload_n 0, 1) := by decide +kernel
theorem dX4_tellCost_13 : decode cX4_tellCost 13 = .ok (.iconst 1, 1) := by decide +kernel
theorem dX4_tellCost_14 : decode cX4_tellCost 14 = .ok (.iconst 4, 1) := by decide +kernel
theorem dX4_tellCost_15 : decode cX4_tellCost 15 = .ok (.invokevirtual 66, 3) := by decide +kernel
theorem dX4_tellCost_18 : decode cX4_tellCost 18 = .ok (.istore_n 3, 1) := by decide +kernel
theorem dX4_tellCost_19 : decode cX4_tellCost 19 = .ok (.aload_n 1, 1) := by decide +kernel
theorem dX4_tellCost_20 : decode cX4_tellCost 20 = .ok (.iload_n 2, 1) := by decide +kernel
theorem dX4_tellCost_21 : decode cX4_tellCost 21 = .ok (.invokevirtual 76, 3) := by decide +kernel
theorem dX4_tellCost_24 : decode cX4_tellCost 24 = .ok (.ifCond .eq 10, 3) := by decide +kernel
theorem dX4_tellCost_27 : decode cX4_tellCost 27 = .ok (.aload_n 1, 1) := by decide +kernel
theorem dX4_tellCost_28 : decode cX4_tellCost 28 = .ok (.getfield 80, 3) := by decide +kernel
theorem dX4_tellCost_31 : decode cX4_tellCost 31 = .ok (.iload_n 2, 1) := by decide +kernel
theorem dX4_tellCost_32 : decode cX4_tellCost 32 = .ok (.iload_n 3, 1) := by decide +kernel
theorem dX4_tellCost_33 : decode cX4_tellCost 33 = .ok (.iastore, 1) := by decide +kernel
theorem dX4_tellCost_34 : decode cX4_tellCost 34 = .ok (.return_, 1) := by decide +kernel
theorem dX4_tellSun_0 : decode cX4_tellSun 0 = .ok (.aload_n 0, 1) := by decide +kernel
theorem dX4_tellSun_1 : decode cX4_tellSun 1 = .ok (.aload_n 1, 1) := by decide +kernel
theorem dX4_tellSun_2 : decode cX4_tellSun 2 = .ok (.getfield 83, 3) := by decide +kernel
theorem dX4_tellSun_5 : decode cX4_tellSun 5 = .ok (.putfield 22, 3) := by decide +kernel
theorem dX4_tellSun_8 : decode cX4_tellSun 8 = .ok (.aload_n 1, 1) := by decide +kernel
theorem dX4_tellSun_9 : decode cX4_tellSun 9 = .ok (.iconst 1, 1) := by decide +kernel
theorem dX4_tellSun_10 : decode cX4_tellSun 10 = .ok (.putfield 83, 3) := by decide +kernel
theorem dX4_tellSun_13 : decode cX4_tellSun 13 = .ok (.aload_n 1, 1) := by decide +kernel
theorem dX4_tellSun_14 : decode cX4_tellSun 14 = .ok (.aload_n 0, 1) := by decide +kernel
theorem dX4_tellSun_15 : decode cX4_tellSun 15 = .ok (.iconst 1, 1) := by decide +kernel
theorem dX4_tellSun_16 : decode cX4_tellSun 16 = .ok (.bipush 9, 2) := by decide +kernel
theorem dX4_tellSun_18 : decode cX4_tellSun 18 = .ok (.invokevirtual 66, 3) := by decide +kernel
theorem dX4_tellSun_21 : decode cX4_tellSun 21 = .ok (.putfield 86, 3) := by decide +kernel
theorem dX4_tellSun_24 : decode cX4_tellSun 24 = .ok (.aload_n 1, 1) := by decide +kernel
theorem dX4_tellSun_25 : decode cX4_tellSun 25 = .ok (.aload_n 0, 1) := by decide +kernel
theorem dX4_tellSun_26 : decode cX4_tellSun 26 = .ok (.iconst 1, 1) := by decide +kernel
theorem dX4_tellSun_27 : decode cX4_tellSun 27 = .ok (.bipush 20, 2) := by decide +kernel
theorem dX4_tellSun_29 : decode cX4_tellSun 29 = .ok (.invokevirtual 66, 3) := by decide +kernel
theorem dX4_tellSun_32 : decode cX4_tellSun 32 = .ok (.putfield 89, 3) := by decide +kernel
theorem dX4_tellSun_35 : decode cX4_tellSun 35 = .ok (.return_, 1) := by decide +kernel
theorem dX4_tellBridge_0 : decode cX4_tellBridge 0 = .ok (.aload_n 0, 1) := by decide +kernel
theorem dX4_tellBridge_1 : decode cX4_tellBridge 1 = .ok (.aload_n 1, 1) := by decide +kernel
theorem dX4_tellBridge_2 : decode cX4_tellBridge 2 = .ok (.getfield 92, 3) := by decide +kernel
theorem dX4_tellBridge_5 : decode cX4_tellBridge 5 = .ok (.bipush (-9), 2) := by decide +kernel
theorem dX4_tellBridge_7 : decode cX4_tellBridge 7 = .ok (.if_icmp .eq 7, 3) := by decide +kernel
theorem dX4_tellBridge_10 : decode cX4_tellBridge 10 = .ok (.iconst 1, 1) := by decide +kernel
theorem dX4_tellBridge_11 : decode cX4_tellBridge 11 = .ok (.goto 4, 3) := by decide +kernel
theorem dX4_tellBridge_14 : decode cX4_tellBridge 14 = .ok (.iconst 0, 1) := by decide +kernel
theorem dX4_tellBridge_15 : decode cX4_tellBridge 15 = .ok (.putfield 22, 3) := by decide +kernel
theorem dX4_tellBridge_18 : decode cX4_tellBridge 18 = .ok (.aload_n 1, 1) := by decide +kernel
theorem dX4_tellBridge_19 : decode cX4_tellBridge 19 = .ok (.aload_n 0, 1) := by decide +kernel
theorem dX4_tellBridge_20 : decode cX4_tellBridge 20 = .ok (.iconst 0, 1) := by decide +kernel
theorem dX4_tellBridge_21 : decode cX4_tellBridge 21 = .ok (.aload_n 1, 1) := by decide +kernel
theorem dX4_tellBridge_22 : decode cX4_tellBridge 22 = .ok (.getfield 63, 3) := by decide +kernel
theorem dX4_tellBridge_25 : decode cX4_tellBridge 25 = .ok (.iconst 1, 1) := by decide +kernel
theorem dX4_tellBridge_26 : decode cX4_tellBridge 26 = .ok (.isub, 1) := by decide +kernel
theorem dX4_tellBridge_27 : decode cX4_tellBridge 27 = .ok (.invokevirtual 66, 3) := by decide +kernel
theorem dX4_tellBridge_30 : decode cX4_tellBridge 30 = .ok (.putfield 92, 3) := by decide +kernel
theorem dX4_tellBridge_33 : decode cX4_tellBridge 33 = .ok (.return_, 1) := by decide +kernel
theorem dX4_tellWagon_0 : decode cX4_tellWagon 0 = .ok (.aload_n 0, 1) := by decide +kernel
theorem dX4_tellWagon_1 : decode cX4_tellWagon 1 = .ok (.aload_n 1, 1) := by decide +kernel
theorem dX4_tellWagon_2 : decode cX4_tellWagon 2 = .ok (.getfield 95, 3) := by decide +kernel
theorem dX4_tellWagon_5 : decode cX4_tellWagon 5 = .ok (.iconst 5, 1) := by decide +kernel
theorem dX4_tellWagon_6 : decode cX4_tellWagon 6 = .ok (.if_icmp .lt 7, 3) := by decide +kernel
theorem dX4_tellWagon_9 : decode cX4_tellWagon 9 = .ok (.iconst 1, 1) := by decide +kernel
theorem dX4_tellWagon_10 : decode cX4_tellWagon 10 = .ok (.goto 4, 3) := by decide +kernel
theorem dX4_tellWagon_13 : decode cX4_tellWagon 13 = .ok (.iconst 0, 1) := by decide +kernel
theorem dX4_tellWagon_14 : decode cX4_tellWagon 14 = .ok (.putfield 22, 3) := by decide +kernel
theorem dX4_tellWagon_17 : decode cX4_tellWagon 17 = .ok (.aload_n 0, 1) := by decide +kernel
theorem dX4_tellWagon_18 : decode cX4_tellWagon 18 = .ok (.iconst 0, 1) := by decide +kernel
theorem dX4_tellWagon_19 : decode cX4_tellWagon 19 = .ok (.bipush 20, 2) := by decide +kernel
theorem dX4_tellWagon_21 : decode cX4_tellWagon 21 = .ok (.invokevirtual 66, 3) := by decide +kernel
theorem dX4_tellWagon_24 : decode cX4_tellWagon 24 = .ok (.istore_n 2, 1) := by decide +kernel
theorem dX4_tellWagon_25 : decode cX4_tellWagon 25 = .ok (.aload_n 0, 1) := by decide +kernel
theorem dX4_tellWagon_26 : decode cX4_tellWagon 26 = .ok (.iconst 0, 1) := by decide +kernel
theorem dX4_tellWagon_27 : decode cX4_tellWagon 27 = .ok (.iconst 3, 1) := by decide +kernel
theorem dX4_tellWagon_28 : decode cX4_tellWagon 28 = .ok (.invokevirtual 66, 3) := by decide +kernel
theorem dX4_tellWagon_31 : decode cX4_tellWagon 31 = .ok (.istore_n 3, 1) := by decide +kernel
theorem dX4_tellWagon_32 : decode cX4_tellWagon 32 = .ok (.aload_n 0, 1) := by decide +kernel
theorem dX4_tellWagon_33 : decode cX4_tellWagon 33 = .ok (.iconst 0, 1) := by decide +kernel
theorem dX4_tellWagon_34 : decode cX4_tellWagon 34 = .ok (.bipush 9, 2) := by decide +kernel
theorem dX4_tellWagon_36 : decode cX4_tellWagon 36 = .ok (.invokevirtual 66, 3) := by decide +kernel
theorem dX4_tellWagon_39 : decode cX4_tellWagon 39 = .ok (.istore 4, 2) := by decide +kernel
theorem dX4_tellWagon_41 : decode cX4_tellWagon 41 = .ok (.aload_n 0, 1) := by decide +kernel
theorem dX4_tellWagon_42 : decode cX4_tellWagon 42 = .ok (.iconst 0, 1) := by decide +kernel
theorem dX4_tellWagon_43 : decode cX4_tellWagon 43 = .ok (.iconst 2, 1) := by decide +kernel
theorem dX4_tellWagon_44 : decode cX4_tellWagon 44 = .ok (.invokevirtual 66, 3) := by decide +kernel
theorem dX4_tellWagon_47 : decode cX4_tellWagon 47 = .ok (.istore 5, 2) := by decide +kernel
theorem dX4_tellWagon_49 : decode cX4_tellWagon 49 = .ok (.aload_n 0, 1) := by decide +kernel
theorem dX4_tellWagon_50 : decode cX4_tellWagon 50 = .ok (.getfield 22, 3) := by decide +kernel
theorem dX4_tellWagon_53 : decode cX4_tellWagon 53 = .ok (.ifCond .ne 18, 3) := by decide +kernel
theorem dX4_tellWagon_56 : decode cX4_tellWagon 56 = .ok (.aload_n 0, 1) := by decide +kernel
theorem dX4_tellWagon_57 : decode cX4_tellWagon 57 = .ok (.aload_n 1, 1) := by decide +kernel
theorem dX4_tellWagon_58 : decode cX4_tellWagon 58 = .ok (.aload_n 1, 1) := by decide +kernel
theorem dX4_tellWagon_59 : decode cX4_tellWagon 59 = .ok (.getfield 98, 3) := by decide +kernel
theorem dX4_tellWagon_62 : decode cX4_tellWagon 62 = .ok (.iload 5, 2) := by decide +kernel
theorem dX4_tellWagon_64 : decode cX4_tellWagon 64 = .ok (.iload_n 2, 1) := by decide +kernel
theorem dX4_tellWagon_65 : decode cX4_tellWagon 65 = .ok (.invokevirtual 101, 3) := by decide +kernel
theorem dX4_tellWagon_68 : decode cX4_tellWagon 68 = .ok (.putfield 22, 3) := by decide +kernel
theorem dX4_tellWagon_71 : decode cX4_tellWagon 71 = .ok (.aload_n 0, 1) := by decide +kernel
theorem dX4_tellWagon_72 : decode cX4_tellWagon 72 = .ok (.getfield 22, 3) := by decide +kernel
theorem dX4_tellWagon_75 : decode cX4_tellWagon 75 = .ok (.ifCond .ne 13, 3) := by decide +kernel
theorem dX4_tellWagon_78 : decode cX4_tellWagon 78 = .ok (.aload_n 1, 1) := by decide +kernel
theorem dX4_tellWagon_79 : decode cX4_tellWagon 79 = .ok (.iload_n 2, 1) := by decide +kernel
theorem dX4_tellWagon_80 : decode cX4_tellWagon 80 = .ok (.iload_n 3, 1) := by decide +kernel
theorem dX4_tellWagon_81 : decode cX4_tellWagon 81 = .ok (.iload 4, 2) := by decide +kernel
theorem dX4_tellWagon_83 : decode cX4_tellWagon 83 = .ok (.iload 5, 2) := by decide +kernel
theorem dX4_tellWagon_85 : decode cX4_tellWagon 85 = .ok (.invokevirtual 105, 3) := by decide +kernel
theorem dX4_tellWagon_88 : decode cX4_tellWagon 88 = .ok (.return_, 1) := by decide +kernel
theorem dX4_tellPair_0 : decode cX4_tellPair 0 = .ok (.aload_n 0, 1) := by decide +kernel
theorem dX4_tellPair_1 : decode cX4_tellPair 1 = .ok (.aload_n 1, 1) := by decide +kernel
theorem dX4_tellPair_2 : decode cX4_tellPair 2 = .ok (.getfield 109, 3) := by decide +kernel
theorem dX4_tellPair_5 : decode cX4_tellPair 5 = .ok (.iconst 4, 1) := by decide +kernel
theorem dX4_tellPair_6 : decode cX4_tellPair 6 = .ok (.if_icmp .lt 7, 3) := by decide +kernel
theorem dX4_tellPair_9 : decode cX4_tellPair 9 = .ok (.iconst 1, 1) := by decide +kernel
theorem dX4_tellPair_10 : decode cX4_tellPair 10 = .ok (.goto 4, 3) := by decide +kernel
theorem dX4_tellPair_13 : decode cX4_tellPair 13 = .ok (.iconst 0, 1) := by decide +kernel
theorem dX4_tellPair_14 : decode cX4_tellPair 14 = .ok (.putfield 22, 3) := by decide +kernel
theorem dX4_tellPair_17 : decode cX4_tellPair 17 = .ok (.aload_n 0, 1) := by decide +kernel
theorem dX4_tellPair_18 : decode cX4_tellPair 18 = .ok (.iconst 0, 1) := by decide +kernel
theorem dX4_tellPair_19 : decode cX4_tellPair 19 = .ok (.aload_n 1, 1) := by decide +kernel
theorem dX4_tellPair_20 : decode cX4_tellPair 20 = .ok (.getfield 95, 3) := by decide +kernel
theorem dX4_tellPair_23 : decode cX4_tellPair 23 = .ok (.iconst 1, 1) := by decide +kernel
theorem dX4_tellPair_24 : decode cX4_tellPair 24 = .ok (.isub, 1) := by decide +kernel
theorem dX4_tellPair_25 : decode cX4_tellPair 25 = .ok (.invokevirtual 66, 3) := by decide +kernel
theorem dX4_tellPair_28 : decode cX4_tellPair 28 = .ok (.istore_n 2, 1) := by decide +kernel
theorem dX4_tellPair_29 : decode cX4_tellPair 29 = .ok (.aload_n 0, 1) := by decide +kernel
theorem dX4_tellPair_30 : decode cX4_tellPair 30 = .ok (.iconst 0, 1) := by decide +kernel
theorem dX4_tellPair_31 : decode cX4_tellPair 31 = .ok (.aload_n 1, 1) := by decide +kernel
theorem dX4_tellPair_32 : decode cX4_tellPair 32 = .ok (.getfield 95, 3) := by decide +kernel
theorem dX4_tellPair_35 : decode cX4_tellPair 35 = .ok (.iconst 1, 1) := by decide +kernel
theorem dX4_tellPair_36 : decode cX4_tellPair 36 = .ok (.isub, 1) := by decide +kernel
theorem dX4_tellPair_37 : decode cX4_tellPair 37 = .ok (.invokevirtual 66, 3) := by decide +kernel
theorem dX4_tellPair_40 : decode cX4_tellPair 40 = .ok (.istore_n 3, 1) := by decide +kernel
theorem dX4_tellPair_41 : decode cX4_tellPair 41 = .ok (.aload_n 0, 1) := by decide +kernel
theorem dX4_tellPair_42 : decode cX4_tellPair 42 = .ok (.getfield 22, 3) := by decide +kernel
theorem dX4_tellPair_45 : decode cX4_tellPair 45 = .ok (.ifCond .ne 17, 3) := by decide +kernel
theorem dX4_tellPair_48 : decode cX4_tellPair 48 = .ok (.aload_n 0, 1) := by decide +kernel
theorem dX4_tellPair_49 : decode cX4_tellPair 49 = .ok (.iload_n 2, 1) := by decide +kernel
theorem dX4_tellPair_50 : decode cX4_tellPair 50 = .ok (.iload_n 3, 1) := by decide +kernel
theorem dX4_tellPair_51 : decode cX4_tellPair 51 = .ok (.if_icmp .ne 7, 3) := by decide +kernel
theorem dX4_tellPair_54 : decode cX4_tellPair 54 = .ok (.iconst 1, 1) := by decide +kernel
theorem dX4_tellPair_55 : decode cX4_tellPair 55 = .ok (.goto 4, 3) := by decide +kernel
theorem dX4_tellPair_58 : decode cX4_tellPair 58 = .ok (.iconst 0, 1) := by decide +kernel
theorem dX4_tellPair_59 : decode cX4_tellPair 59 = .ok (.putfield 22, 3) := by decide +kernel
theorem dX4_tellPair_62 : decode cX4_tellPair 62 = .ok (.aload_n 0, 1) := by decide +kernel
theorem dX4_tellPair_63 : decode cX4_tellPair 63 = .ok (.getfield 22, 3) := by decide +kernel
theorem dX4_tellPair_66 : decode cX4_tellPair 66 = .ok (.ifCond .ne 9, 3) := by decide +kernel
theorem dX4_tellPair_69 : decode cX4_tellPair 69 = .ok (.aload_n 1, 1) := by decide +kernel
theorem dX4_tellPair_70 : decode cX4_tellPair 70 = .ok (.iload_n 2, 1) := by decide +kernel
theorem dX4_tellPair_71 : decode cX4_tellPair 71 = .ok (.iload_n 3, 1) := by decide +kernel
theorem dX4_tellPair_72 : decode cX4_tellPair 72 = .ok (.invokevirtual 112, 3) := by decide +kernel
theorem dX4_tellPair_75 : decode cX4_tellPair 75 = .ok (.return_, 1) := by decide +kernel
theorem dX4_readNumber_0 : decode cX4_readNumber 0 = .ok (.aload_n 0, 1) := by decide +kernel
theorem dX4_readNumber_1 : decode cX4_readNumber 1 = .ok (.getfield 22, 3) := by decide +kernel
theorem dX4_readNumber_4 : decode cX4_readNumber 4 = .ok (.ifCond .eq 5, 3) := by decide +kernel
theorem dX4_readNumber_7 : decode cX4_readNumber 7 = .ok (.iload_n 1, 1) := by decide +kernel
theorem dX4_readNumber_8 : decode cX4_readNumber 8 = .ok (.ireturn, 1) := by decide +kernel
theorem dX4_readNumber_9 : decode cX4_readNumber 9 = .ok (.aload_n 0, 1) := by decide +kernel
theorem dX4_readNumber_10 : decode cX4_readNumber 10 = .ok (.invokevirtual 26, 3) := by decide +kernel
theorem dX4_readNumber_13 : decode cX4_readNumber 13 = .ok (.aload_n 0, 1) := by decide +kernel
theorem dX4_readNumber_14 : decode cX4_readNumber 14 = .ok (.getfield 29, 3) := by decide +kernel
theorem dX4_readNumber_17 : decode cX4_readNumber 17 = .ok (.iconst 2, 1) := by decide +kernel
theorem dX4_readNumber_18 : decode cX4_readNumber 18 = .ok (.if_icmp .ne 19, 3) := by decide +kernel
theorem dX4_readNumber_21 : decode cX4_readNumber 21 = .ok (.aload_n 0, 1) := by decide +kernel
theorem dX4_readNumber_22 : decode cX4_readNumber 22 = .ok (.getfield 42, 3) := by decide +kernel
theorem dX4_readNumber_25 : decode cX4_readNumber 25 = .ok (.iload_n 1, 1) := by decide +kernel
theorem dX4_readNumber_26 : decode cX4_readNumber 26 = .ok (.if_icmp .lt 11, 3) := by decide +kernel
theorem dX4_readNumber_29 : decode cX4_readNumber 29 = .ok (.aload_n 0, 1) := by decide +kernel
theorem dX4_readNumber_30 : decode cX4_readNumber 30 = .ok (.getfield 42, 3) := by decide +kernel
theorem dX4_readNumber_33 : decode cX4_readNumber 33 = .ok (.iload_n 2, 1) := by decide +kernel
theorem dX4_readNumber_34 : decode cX4_readNumber 34 = .ok (.if_icmp .le 10, 3) := by decide +kernel
theorem dX4_readNumber_37 : decode cX4_readNumber 37 = .ok (.aload_n 0, 1) := by decide +kernel
theorem dX4_readNumber_38 : decode cX4_readNumber 38 = .ok (.iconst 1, 1) := by decide +kernel
theorem dX4_readNumber_39 : decode cX4_readNumber 39 = .ok (.putfield 22, 3) := by decide +kernel
theorem dX4_readNumber_42 : decode cX4_readNumber 42 = .ok (.iload_n 1, 1) := by decide +kernel
theorem dX4_readNumber_43 : decode cX4_readNumber 43 = .ok (.ireturn, 1) := by decide +kernel
theorem dX4_readNumber_44 : decode cX4_readNumber 44 = .ok (.aload_n 0, 1) := by decide +kernel
theorem dX4_readNumber_45 : decode cX4_readNumber 45 = .ok (.getfield 42, 3) := by decide +kernel
theorem dX4_readNumber_48 : decode cX4_readNumber 48 = .ok (.ireturn, 1) := by decide +kernel
theorem dX4_readStop_0 : decode cX4_readStop 0 = .ok (.aload_n 0, 1) := by decide +kernel
theorem dX4_readStop_1 : decode cX4_readStop 1 = .ok (.getfield 22, 3) := by decide +kernel
theorem dX4_readStop_4 : decode cX4_readStop 4 = .ok (.ifCond .ne 24, 3) := by decide +kernel
theorem dX4_readStop_7 : decode cX4_readStop 7 = .ok (.aload_n 0, 1) := by decide +kernel
theorem dX4_readStop_8 : decode cX4_readStop 8 = .ok (.invokevirtual 26, 3) := by decide +kernel
theorem dX4_readStop_11 : decode cX4_readStop 11 = .ok (.aload_n 0, 1) := by decide +kernel
theorem dX4_readStop_12 : decode cX4_readStop 12 = .ok (.aload_n 0, 1) := by decide +kernel
theorem dX4_readStop_13 : decode cX4_readStop 13 = .ok (.getfield 29, 3) := by decide +kernel
theorem dX4_readStop_16 : decode cX4_readStop 16 = .ok (.iconst 3, 1) := by decide +kernel
theorem dX4_readStop_17 : decode cX4_readStop 17 = .ok (.if_icmp .eq 7, 3) := by decide +kernel
theorem dX4_readStop_20 : decode cX4_readStop 20 = .ok (.iconst 1, 1) := by decide +kernel
theorem dX4_readStop_21 : decode cX4_readStop 21 = .ok (.goto 4, 3) := by decide +kernel
theorem dX4_readStop_24 : decode cX4_readStop 24 = .ok (.iconst 0, 1) := by decide +kernel
theorem dX4_readStop_25 : decode cX4_readStop 25 = .ok (.putfield 22, 3) := by decide +kernel
theorem dX4_readStop_28 : decode cX4_readStop 28 = .ok (.return_, 1) := by decide +kernel
theorem dX4_readToken_0 : decode cX4_readToken 0 = .ok (.aload_n 0, 1) := by decide +kernel
theorem dX4_readToken_1 : decode cX4_readToken 1 = .ok (.getfield 19, 3) := by decide +kernel
theorem dX4_readToken_4 : decode cX4_readToken 4 = .ok (.aload_n 0, 1) := by decide +kernel
theorem dX4_readToken_5 : decode cX4_readToken 5 = .ok (.getfield 15, 3) := by decide +kernel
theorem dX4_readToken_8 : decode cX4_readToken 8 = .ok (.if_icmp .ge 40, 3) := by decide +kernel
theorem dX4_readToken_11 : decode cX4_readToken 11 = .ok (.aload_n 0, 1) := by decide +kernel
theorem dX4_readToken_12 : decode cX4_readToken 12 = .ok (.getfield 19, 3) := by decide +kernel
theorem dX4_readToken_15 : decode cX4_readToken 15 = .ok (.sipush 200, 3) := by decide +kernel
theorem dX4_readToken_18 : decode cX4_readToken 18 = .ok (.if_icmp .ge 30, 3) := by decide +kernel
theorem dX4_readToken_21 : decode cX4_readToken 21 = .ok (.aload_n 0, 1) := by decide +kernel
theorem dX4_readToken_22 : decode cX4_readToken 22 = .ok (.getfield 9, 3) := by decide +kernel
theorem dX4_readToken_25 : decode cX4_readToken 25 = .ok (.aload_n 0, 1) := by decide +kernel
theorem dX4_readToken_26 : decode cX4_readToken 26 = .ok (.getfield 19, 3) := by decide +kernel
theorem dX4_readToken_29 : decode cX4_readToken 29 = .ok (.iaload, 1) := by decide +kernel
theorem dX4_readToken_30 : decode cX4_readToken 30 = .ok (.bipush 32, 2) := by decide +kernel
theorem dX4_readToken_32 : decode cX4_readToken 32 = .ok (.if_icmp .ne 16, 3) := by decide +kernel
theorem dX4_readToken_35 : decode cX4_readToken 35 = .ok (.aload_n 0, 1) := by decide +kernel
theorem dX4_readToken_36 : decode cX4_readToken 36 = .ok (.dup, 1) := by decide +kernel
theorem dX4_readToken_37 : decode cX4_readToken 37 = .ok (.getfield 19, 3) := by decide +kernel
theorem dX4_readToken_40 : decode cX4_readToken 40 = .ok (.iconst 1, 1) := by decide +kernel
theorem dX4_readToken_41 : decode cX4_readToken 41 = .ok (.iadd, 1) := by decide +kernel
theorem dX4_readToken_42 : decode cX4_readToken 42 = .ok (.putfield 19, 3) := by decide +kernel
theorem dX4_readToken_45 : decode cX4_readToken 45 = .ok (.goto (-45), 3) := by decide +kernel
theorem dX4_readToken_48 : decode cX4_readToken 48 = .ok (.aload_n 0, 1) := by decide +kernel
theorem dX4_readToken_49 : decode cX4_readToken 49 = .ok (.aload_n 0, 1) := by decide +kernel
theorem dX4_readToken_50 : decode cX4_readToken 50 = .ok (.getfield 19, 3) := by decide +kernel
theorem dX4_readToken_53 : decode cX4_readToken 53 = .ok (.putfield 39, 3) := by decide +kernel
theorem dX4_readToken_56 : decode cX4_readToken 56 = .ok (.aload_n 0, 1) := by decide +kernel
theorem dX4_readToken_57 : decode cX4_readToken 57 = .ok (.iconst 0, 1) := by decide +kernel
theorem dX4_readToken_58 : decode cX4_readToken 58 = .ok (.putfield 42, 3) := by decide +kernel
theorem dX4_readToken_61 : decode cX4_readToken 61 = .ok (.aload_n 0, 1) := by decide +kernel
theorem dX4_readToken_62 : decode cX4_readToken 62 = .ok (.getfield 19, 3) := by decide +kernel
theorem dX4_readToken_65 : decode cX4_readToken 65 = .ok (.aload_n 0, 1) := by decide +kernel
theorem dX4_readToken_66 : decode cX4_readToken 66 = .ok (.getfield 15, 3) := by decide +kernel
theorem dX4_readToken_69 : decode cX4_readToken 69 = .ok (.if_icmp .ge 13, 3) := by decide +kernel
theorem dX4_readToken_72 : decode cX4_readToken 72 = .ok (.aload_n 0, 1) := by decide +kernel
theorem dX4_readToken_73 : decode cX4_readToken 73 = .ok (.getfield 19, 3) := by decide +kernel
theorem dX4_readToken_76 : decode cX4_readToken 76 = .ok (.sipush 200, 3) := by decide +kernel
theorem dX4_readToken_79 : decode cX4_readToken 79 = .ok (.if_icmp .lt 11, 3) := by decide +kernel
theorem dX4_readToken_82 : decode cX4_readToken 82 = .ok (.aload_n 0, 1) := by decide +kernel
theorem dX4_readToken_83 : decode cX4_readToken 83 = .ok (.iconst 0, 1) := by decide +kernel
theorem dX4_readToken_84 : decode cX4_readToken 84 = .ok (.putfield 29, 3) := by decide +kernel
theorem dX4_readToken_87 : decode cX4_readToken 87 = .ok (.goto 80, 3) := by decide +kernel
theorem dX4_readToken_90 : decode cX4_readToken 90 = .ok (.aload_n 0, 1) := by decide +kernel
theorem dX4_readToken_91 : decode cX4_readToken 91 = .ok (.getfield 9, 3) := by decide +kernel
theorem dX4_readToken_94 : decode cX4_readToken 94 = .ok (.aload_n 0, 1) := by decide +kernel
theorem dX4_readToken_95 : decode cX4_readToken 95 = .ok (.getfield 19, 3) := by decide +kernel
theorem dX4_readToken_98 : decode cX4_readToken 98 = .ok (.iaload, 1) := by decide +kernel
theorem dX4_readToken_99 : decode cX4_readToken 99 = .ok (.invokestatic 116, 3) := by decide +kernel
theorem dX4_readToken_102 : decode cX4_readToken 102 = .ok (.ifCond .eq 10, 3) := by decide +kernel
theorem dX4_readToken_105 : decode cX4_readToken 105 = .ok (.aload_n 0, 1) := by decide +kernel
theorem dX4_readToken_106 : decode cX4_readToken 106 = .ok (.invokevirtual 119, 3) := by decide +kernel
theorem dX4_readToken_109 : decode cX4_readToken 109 = .ok (.goto 58, 3) := by decide +kernel
theorem dX4_readToken_112 : decode cX4_readToken 112 = .ok (.aload_n 0, 1) := by decide +kernel
theorem dX4_readToken_113 : decode cX4_readToken 113 = .ok (.getfield 9, 3) := by decide +kernel
theorem dX4_readToken_116 : decode cX4_readToken 116 = .ok (.aload_n 0, 1) := by decide +kernel
theorem dX4_readToken_117 : decode cX4_readToken 117 = .ok (.getfield 19, 3) := by decide +kernel
theorem dX4_readToken_120 : decode cX4_readToken 120 = .ok (.iaload, 1) := by decide +kernel
theorem dX4_readToken_121 : decode cX4_readToken 121 = .ok (.invokestatic 122, 3) := by decide +kernel
theorem dX4_readToken_124 : decode cX4_readToken 124 = .ok (.ifCond .eq 10, 3) := by decide +kernel
theorem dX4_readToken_127 : decode cX4_readToken 127 = .ok (.aload_n 0, 1) := by decide +kernel
theorem dX4_readToken_128 : decode cX4_readToken 128 = .ok (.invokevirtual 125, 3) := by decide +kernel
theorem dX4_readToken_131 : decode cX4_readToken 131 = .ok (.goto 36, 3) := by decide +kernel
theorem dX4_readToken_134 : decode cX4_readToken 134 = .ok (.aload_n 0, 1) := by decide +kernel
theorem dX4_readToken_135 : decode cX4_readToken 135 = .ok (.aload_n 0, 1) := by decide +kernel
theorem dX4_readToken_136 : decode cX4_readToken 136 = .ok (.getfield 9, 3) := by decide +kernel
theorem dX4_readToken_139 : decode cX4_readToken 139 = .ok (.aload_n 0, 1) := by decide +kernel
theorem dX4_readToken_140 : decode cX4_readToken 140 = .ok (.getfield 19, 3) := by decide +kernel
theorem dX4_readToken_143 : decode cX4_readToken 143 = .ok (.iaload, 1) := by decide +kernel
theorem dX4_readToken_144 : decode cX4_readToken 144 = .ok (.bipush 59, 2) := by decide +kernel
theorem dX4_readToken_146 : decode cX4_readToken 146 = .ok (.if_icmp .ne 7, 3) := by decide +kernel
theorem dX4_readToken_149 : decode cX4_readToken 149 = .ok (.iconst 3, 1) := by decide +kernel
theorem dX4_readToken_150 : decode cX4_readToken 150 = .ok (.goto 4, 3) := by decide +kernel
theorem dX4_readToken_153 : decode cX4_readToken 153 = .ok (.iconst 4, 1) := by decide +kernel
theorem dX4_readToken_154 : decode cX4_readToken 154 = .ok (.putfield 29, 3) := by decide +kernel
theorem dX4_readToken_157 : decode cX4_readToken 157 = .ok (.aload_n 0, 1) := by decide +kernel
theorem dX4_readToken_158 : decode cX4_readToken 158 = .ok (.dup, 1) := by decide +kernel
theorem dX4_readToken_159 : decode cX4_readToken 159 = .ok (.getfield 19, 3) := by decide +kernel
theorem dX4_readToken_162 : decode cX4_readToken 162 = .ok (.iconst 1, 1) := by decide +kernel
theorem dX4_readToken_163 : decode cX4_readToken 163 = .ok (.iadd, 1) := by decide +kernel
theorem dX4_readToken_164 : decode cX4_readToken 164 = .ok (.putfield 19, 3) := by decide +kernel
theorem dX4_readToken_167 : decode cX4_readToken 167 = .ok (.return_, 1) := by decide +kernel
theorem dX4_readLetters_0 : decode cX4_readLetters 0 = .ok (.aload_n 0, 1) := by decide +kernel
theorem dX4_readLetters_1 : decode cX4_readLetters 1 = .ok (.iconst 1, 1) := by decide +kernel
theorem dX4_readLetters_2 : decode cX4_readLetters 2 = .ok (.putfield 29, 3) := by decide +kernel
theorem dX4_readLetters_5 : decode cX4_readLetters 5 = .ok (.aload_n 0, 1) := by decide +kernel
theorem dX4_readLetters_6 : decode cX4_readLetters 6 = .ok (.aload_n 0, 1) := by decide +kernel
theorem dX4_readLetters_7 : decode cX4_readLetters 7 = .ok (.getfield 9, 3) := by decide +kernel
theorem dX4_readLetters_10 : decode cX4_readLetters 10 = .ok (.aload_n 0, 1) := by decide +kernel
theorem dX4_readLetters_11 : decode cX4_readLetters 11 = .ok (.getfield 39, 3) := by decide +kernel
theorem dX4_readLetters_14 : decode cX4_readLetters 14 = .ok (.iaload, 1) := by decide +kernel
theorem dX4_readLetters_15 : decode cX4_readLetters 15 = .ok (.putfield 42, 3) := by decide +kernel
theorem dX4_readLetters_18 : decode cX4_readLetters 18 = .ok (.aload_n 0, 1) := by decide +kernel
theorem dX4_readLetters_19 : decode cX4_readLetters 19 = .ok (.aload_n 0, 1) := by decide +kernel
theorem dX4_readLetters_20 : decode cX4_readLetters 20 = .ok (.getfield 39, 3) := by decide +kernel
theorem dX4_readLetters_23 : decode cX4_readLetters 23 = .ok (.iconst 1, 1) := by decide +kernel
theorem dX4_readLetters_24 : decode cX4_readLetters 24 = .ok (.iadd, 1) := by decide +kernel
theorem dX4_readLetters_25 : decode cX4_readLetters 25 = .ok (.putfield 19, 3) := by decide +kernel
theorem dX4_readLetters_28 : decode cX4_readLetters 28 = .ok (.aload_n 0, 1) := by decide +kernel
theorem dX4_readLetters_29 : decode cX4_readLetters 29 = .ok (.getfield 19, 3) := by decide +kernel
theorem dX4_readLetters_32 : decode cX4_readLetters 32 = .ok (.aload_n 0, 1) := by decide +kernel
theorem dX4_readLetters_33 : decode cX4_readLetters 33 = .ok (.getfield 15, 3) := by decide +kernel
theorem dX4_readLetters_36 : decode cX4_readLetters 36 = .ok (.if_icmp .ge 46, 3) := by decide +kernel
theorem dX4_readLetters_39 : decode cX4_readLetters 39 = .ok (.aload_n 0, 1) := by decide +kernel
theorem dX4_readLetters_40 : decode cX4_readLetters 40 = .ok (.getfield 19, 3) := by decide +kernel
theorem dX4_readLetters_43 : decode cX4_readLetters 43 = .ok (.sipush 200, 3) := by decide +kernel
theorem dX4_readLetters_46 : decode cX4_readLetters 46 = .ok (.if_icmp .ge 36, 3) := by decide +kernel
theorem dX4_readLetters_49 : decode cX4_readLetters 49 = .ok (.aload_n 0, 1) := by decide +kernel
theorem dX4_readLetters_50 : decode cX4_readLetters 50 = .ok (.getfield 9, 3) := by decide +kernel
theorem dX4_readLetters_53 : decode cX4_readLetters 53 = .ok (.aload_n 0, 1) := by decide +kernel
theorem dX4_readLetters_54 : decode cX4_readLetters 54 = .ok (.getfield 19, 3) := by decide +kernel
theorem dX4_readLetters_57 : decode cX4_readLetters 57 = .ok (.iaload, 1) := by decide +kernel
theorem dX4_readLetters_58 : decode cX4_readLetters 58 = .ok (.invokestatic 116, 3) := by decide +kernel
theorem dX4_readLetters_61 : decode cX4_readLetters 61 = .ok (.ifCond .eq 21, 3) := by decide +kernel
theorem dX4_readLetters_64 : decode cX4_readLetters 64 = .ok (.aload_n 0, 1) := by decide +kernel
theorem dX4_readLetters_65 : decode cX4_readLetters 65 = .ok (.iconst 0, 1) := by decide +kernel
theorem dX4_readLetters_66 : decode cX4_readLetters 66 = .ok (.putfield 42, 3) := by decide +kernel
theorem dX4_readLetters_69 : decode cX4_readLetters 69 = .ok (.aload_n 0, 1) := by decide +kernel
theorem dX4_readLetters_70 : decode cX4_readLetters 70 = .ok (.dup, 1) := by decide +kernel
theorem dX4_readLetters_71 : decode cX4_readLetters 71 = .ok (.getfield 19, 3) := by decide +kernel
theorem dX4_readLetters_74 : decode cX4_readLetters 74 = .ok (.iconst 1, 1) := by decide +kernel
theorem dX4_readLetters_75 : decode cX4_readLetters 75 = .ok (.iadd, 1) := by decide +kernel
theorem dX4_readLetters_76 : decode cX4_readLetters 76 = .ok (.putfield 19, 3) := by decide +kernel
theorem dX4_readLetters_79 : decode cX4_readLetters 79 = .ok (.goto (-51), 3) := by decide +kernel
theorem dX4_readLetters_82 : decode cX4_readLetters 82 = .ok (.return_, 1) := by decide +kernel
theorem dX4_readDigits_0 : decode cX4_readDigits 0 = .ok (.aload_n 0, 1) := by decide +kernel
theorem dX4_readDigits_1 : decode cX4_readDigits 1 = .ok (.aload_n 0, 1) := by decide +kernel
theorem dX4_readDigits_2 : decode cX4_readDigits 2 = .ok (.getfield 9, 3) := by decide +kernel
theorem dX4_readDigits_5 : decode cX4_readDigits 5 = .ok (.aload_n 0, 1) := by decide +kernel
theorem dX4_readDigits_6 : decode cX4_readDigits 6 = .ok (.getfield 39, 3) := by decide +kernel
theorem dX4_readDigits_9 : decode cX4_readDigits 9 = .ok (.iaload, 1) := by decide +kernel
theorem dX4_readDigits_10 : decode cX4_readDigits 10 = .ok (.bipush 48, 2) := by decide +kernel
theorem dX4_readDigits_12 : decode cX4_readDigits 12 = .ok (.if_icmp .ne 49, 3) := by decide +kernel
theorem dX4_readDigits_15 : decode cX4_readDigits 15 = .ok (.aload_n 0, 1) := by decide +kernel
theorem dX4_readDigits_16 : decode cX4_readDigits 16 = .ok (.getfield 39, 3) := by decide +kernel
theorem dX4_readDigits_19 : decode cX4_readDigits 19 = .ok (.iconst 1, 1) := by decide +kernel
theorem dX4_readDigits_20 : decode cX4_readDigits 20 = .ok (.iadd, 1) := by decide +kernel
theorem dX4_readDigits_21 : decode cX4_readDigits 21 = .ok (.aload_n 0, 1) := by decide +kernel
theorem dX4_readDigits_22 : decode cX4_readDigits 22 = .ok (.getfield 15, 3) := by decide +kernel
theorem dX4_readDigits_25 : decode cX4_readDigits 25 = .ok (.if_icmp .ge 36, 3) := by decide +kernel
theorem dX4_readDigits_28 : decode cX4_readDigits 28 = .ok (.aload_n 0, 1) := by decide +kernel
theorem dX4_readDigits_29 : decode cX4_readDigits 29 = .ok (.getfield 39, 3) := by decide +kernel
theorem dX4_readDigits_32 : decode cX4_readDigits 32 = .ok (.iconst 1, 1) := by decide +kernel
theorem dX4_readDigits_33 : decode cX4_readDigits 33 = .ok (.iadd, 1) := by decide +kernel
theorem dX4_readDigits_34 : decode cX4_readDigits 34 = .ok (.sipush 200, 3) := by decide +kernel
theorem dX4_readDigits_37 : decode cX4_readDigits 37 = .ok (.if_icmp .ge 24, 3) := by decide +kernel
theorem dX4_readDigits_40 : decode cX4_readDigits 40 = .ok (.aload_n 0, 1) := by decide +kernel
theorem dX4_readDigits_41 : decode cX4_readDigits 41 = .ok (.getfield 9, 3) := by decide +kernel
theorem dX4_readDigits_44 : decode cX4_readDigits 44 = .ok (.aload_n 0, 1) := by decide +kernel
theorem dX4_readDigits_45 : decode cX4_readDigits 45 = .ok (.getfield 39, 3) := by decide +kernel
theorem dX4_readDigits_48 : decode cX4_readDigits 48 = .ok (.iconst 1, 1) := by decide +kernel
theorem dX4_readDigits_49 : decode cX4_readDigits 49 = .ok (.iadd, 1) := by decide +kernel
theorem dX4_readDigits_50 : decode cX4_readDigits 50 = .ok (.iaload, 1) := by decide +kernel
theorem dX4_readDigits_51 : decode cX4_readDigits 51 = .ok (.invokestatic 122, 3) := by decide +kernel
theorem dX4_readDigits_54 : decode cX4_readDigits 54 = .ok (.ifCond .eq 7, 3) := by decide +kernel
theorem dX4_readDigits_57 : decode cX4_readDigits 57 = .ok (.iconst 4, 1) := by decide +kernel
theorem dX4_readDigits_58 : decode cX4_readDigits 58 = .ok (.goto 4, 3) := by decide +kernel
theorem dX4_readDigits_61 : decode cX4_readDigits 61 = .ok (.iconst 2, 1) := by decide +kernel
theorem dX4_readDigits_62 : decode cX4_readDigits 62 = .ok (.putfield 29, 3) := by decide +kernel
theorem dX4_readDigits_65 : decode cX4_readDigits 65 = .ok (.aload_n 0, 1) := by decide +kernel
theorem dX4_readDigits_66 : decode cX4_readDigits 66 = .ok (.aload_n 0, 1) := by decide +kernel
theorem dX4_readDigits_67 : decode cX4_readDigits 67 = .ok (.getfield 39, 3) := by decide +kernel
theorem dX4_readDigits_70 : decode cX4_readDigits 70 = .ok (.putfield 19, 3) := by decide +kernel
theorem dX4_readDigits_73 : decode cX4_readDigits 73 = .ok (.aload_n 0, 1) := by decide +kernel
theorem dX4_readDigits_74 : decode cX4_readDigits 74 = .ok (.getfield 19, 3) := by decide +kernel
theorem dX4_readDigits_77 : decode cX4_readDigits 77 = .ok (.aload_n 0, 1) := by decide +kernel
theorem dX4_readDigits_78 : decode cX4_readDigits 78 = .ok (.getfield 15, 3) := by decide +kernel
theorem dX4_readDigits_81 : decode cX4_readDigits 81 = .ok (.if_icmp .ge 70, 3) := by decide +kernel
theorem dX4_readDigits_84 : decode cX4_readDigits 84 = .ok (.aload_n 0, 1) := by decide +kernel
theorem dX4_readDigits_85 : decode cX4_readDigits 85 = .ok (.getfield 19, 3) := by decide +kernel
theorem dX4_readDigits_88 : decode cX4_readDigits 88 = .ok (.sipush 200, 3) := by decide +kernel
theorem dX4_readDigits_91 : decode cX4_readDigits 91 = .ok (.if_icmp .ge 60, 3) := by decide +kernel
theorem dX4_readDigits_94 : decode cX4_readDigits 94 = .ok (.aload_n 0, 1) := by decide +kernel
theorem dX4_readDigits_95 : decode cX4_readDigits 95 = .ok (.getfield 9, 3) := by decide +kernel
theorem dX4_readDigits_98 : decode cX4_readDigits 98 = .ok (.aload_n 0, 1) := by decide +kernel
theorem dX4_readDigits_99 : decode cX4_readDigits 99 = .ok (.getfield 19, 3) := by decide +kernel
theorem dX4_readDigits_102 : decode cX4_readDigits 102 = .ok (.iaload, 1) := by decide +kernel
theorem dX4_readDigits_103 : decode cX4_readDigits 103 = .ok (.invokestatic 122, 3) := by decide +kernel
theorem dX4_readDigits_106 : decode cX4_readDigits 106 = .ok (.ifCond .eq 45, 3) := by decide +kernel
theorem dX4_readDigits_109 : decode cX4_readDigits 109 = .ok (.aload_n 0, 1) := by decide +kernel
theorem dX4_readDigits_110 : decode cX4_readDigits 110 = .ok (.bipush 100, 2) := by decide +kernel
theorem dX4_readDigits_112 : decode cX4_readDigits 112 = .ok (.aload_n 0, 1) := by decide +kernel
theorem dX4_readDigits_113 : decode cX4_readDigits 113 = .ok (.getfield 42, 3) := by decide +kernel
theorem dX4_readDigits_116 : decode cX4_readDigits 116 = .ok (.bipush 10, 2) := by decide +kernel
theorem dX4_readDigits_118 : decode cX4_readDigits 118 = .ok (.imul, 1) := by decide +kernel
theorem dX4_readDigits_119 : decode cX4_readDigits 119 = .ok (.aload_n 0, 1) := by decide +kernel
theorem dX4_readDigits_120 : decode cX4_readDigits 120 = .ok (.getfield 9, 3) := by decide +kernel
theorem dX4_readDigits_123 : decode cX4_readDigits 123 = .ok (.aload_n 0, 1) := by decide +kernel
theorem dX4_readDigits_124 : decode cX4_readDigits 124 = .ok (.getfield 19, 3) := by decide +kernel
theorem dX4_readDigits_127 : decode cX4_readDigits 127 = .ok (.iaload, 1) := by decide +kernel
theorem dX4_readDigits_128 : decode cX4_readDigits 128 = .ok (.iadd, 1) := by decide +kernel
theorem dX4_readDigits_129 : decode cX4_readDigits 129 = .ok (.bipush 48, 2) := by decide +kernel
theorem dX4_readDigits_131 : decode cX4_readDigits 131 = .ok (.isub, 1) := by decide +kernel
theorem dX4_readDigits_132 : decode cX4_readDigits 132 = .ok (.invokestatic 128, 3) := by decide +kernel
theorem dX4_readDigits_135 : decode cX4_readDigits 135 = .ok (.putfield 42, 3) := by decide +kernel
theorem dX4_readDigits_138 : decode cX4_readDigits 138 = .ok (.aload_n 0, 1) := by decide +kernel
theorem dX4_readDigits_139 : decode cX4_readDigits 139 = .ok (.dup, 1) := by decide +kernel
theorem dX4_readDigits_140 : decode cX4_readDigits 140 = .ok (.getfield 19, 3) := by decide +kernel
theorem dX4_readDigits_143 : decode cX4_readDigits 143 = .ok (.iconst 1, 1) := by decide +kernel
theorem dX4_readDigits_144 : decode cX4_readDigits 144 = .ok (.iadd, 1) := by decide +kernel
theorem dX4_readDigits_145 : decode cX4_readDigits 145 = .ok (.putfield 19, 3) := by decide +kernel
theorem dX4_readDigits_148 : decode cX4_readDigits 148 = .ok (.goto (-75), 3) := by decide +kernel
theorem dX4_readDigits_151 : decode cX4_readDigits 151 = .ok (.return_, 1) := by decide +kernel
theorem dX4_isLetter_0 : decode cX4_isLetter 0 = .ok (.iload_n 0, 1) := by decide +kernel
theorem dX4_isLetter_1 : decode cX4_isLetter 1 = .ok (.bipush 97, 2) := by decide +kernel
theorem dX4_isLetter_3 : decode cX4_isLetter 3 = .ok (.if_icmp .lt 13, 3) := by decide +kernel
theorem dX4_isLetter_6 : decode cX4_isLetter 6 = .ok (.iload_n 0, 1) := by decide +kernel
theorem dX4_isLetter_7 : decode cX4_isLetter 7 = .ok (.bipush 122, 2) := by decide +kernel
theorem dX4_isLetter_9 : decode cX4_isLetter 9 = .ok (.if_icmp .gt 7, 3) := by decide +kernel
theorem dX4_isLetter_12 : decode cX4_isLetter 12 = .ok (.iconst 1, 1) := by decide +kernel
theorem dX4_isLetter_13 : decode cX4_isLetter 13 = .ok (.goto 4, 3) := by decide +kernel
theorem dX4_isLetter_16 : decode cX4_isLetter 16 = .ok (.iconst 0, 1) := by decide +kernel
theorem dX4_isLetter_17 : decode cX4_isLetter 17 = .ok (.ireturn, 1) := by decide +kernel
theorem dX4_isDigit_0 : decode cX4_isDigit 0 = .ok (.iload_n 0, 1) := by decide +kernel
theorem dX4_isDigit_1 : decode cX4_isDigit 1 = .ok (.bipush 48, 2) := by decide +kernel
theorem dX4_isDigit_3 : decode cX4_isDigit 3 = .ok (.if_icmp .lt 13, 3) := by decide +kernel
theorem dX4_isDigit_6 : decode cX4_isDigit 6 = .ok (.iload_n 0, 1) := by decide +kernel
theorem dX4_isDigit_7 : decode cX4_isDigit 7 = .ok (.bipush 57, 2) := by decide +kernel
theorem dX4_isDigit_9 : decode cX4_isDigit 9 = .ok (.if_icmp .gt 7, 3) := by decide +kernel
theorem dX4_isDigit_12 : decode cX4_isDigit 12 = .ok (.iconst 1, 1) := by decide +kernel
theorem dX4_isDigit_13 : decode cX4_isDigit 13 = .ok (.goto 4, 3) := by decide +kernel
theorem dX4_isDigit_16 : decode cX4_isDigit 16 = .ok (.iconst 0, 1) := by decide +kernel
theorem dX4_isDigit_17 : decode cX4_isDigit 17 = .ok (.ireturn, 1) := by decide +kernel
theorem dX5_init_0 : decode cX5_init 0 = .ok (.aload_n 0, 1) := by decide +kernel
theorem dX5_init_1 : decode cX5_init 1 = .ok (.invokespecial 3, 3) := by decide +kernel
theorem dX5_init_4 : decode cX5_init 4 = .ok (.aload_n 0, 1) := by decide +kernel
theorem dX5_init_5 : decode cX5_init 5 = .ok (.new 9, 3) := by decide +kernel
theorem dX5_init_8 : decode cX5_init 8 = .ok (.dup, 1) := by decide +kernel
theorem dX5_init_9 : decode cX5_init 9 = .ok (.invokespecial 11, 3) := by decide +kernel
theorem dX5_init_12 : decode cX5_init 12 = .ok (.putfield 12, 3) := by decide +kernel
theorem dX5_init_15 : decode cX5_init 15 = .ok (.aload_n 0, 1) := by decide +kernel
theorem dX5_init_16 : decode cX5_init 16 = .ok (.bipush 10, 2) := by decide +kernel
theorem dX5_init_18 : decode cX5_init 18 = .ok (.anewarray 9, 3) := by decide +kernel
theorem dX5_init_21 : decode cX5_init 21 = .ok (.putfield 18, 3) := by decide +kernel
theorem dX5_init_24 : decode cX5_init 24 = .ok (.iconst 0, 1) := by decide +kernel
theorem dX5_init_25 : decode cX5_init 25 = .ok (.istore_n 1, 1) := by decide +kernel
theorem dX5_init_26 : decode cX5_init 26 = .ok (.iload_n 1, 1) := by decide +kernel
theorem dX5_init_27 : decode cX5_init 27 = .ok (.bipush 10, 2) := by decide +kernel
theorem dX5_init_29 : decode cX5_init 29 = .ok (.if_icmp .ge 22, 3) := by decide +kernel
theorem dX5_init_32 : decode cX5_init 32 = .ok (.aload_n 0, 1) := by decide +kernel
theorem dX5_init_33 : decode cX5_init 33 = .ok (.getfield 18, 3) := by decide +kernel
theorem dX5_init_36 : decode cX5_init 36 = .ok (.iload_n 1, 1) := by decide +kernel
theorem dX5_init_37 : decode cX5_init 37 = .ok (.new 9, 3) := by decide +kernel
theorem dX5_init_40 : decode cX5_init 40 = .ok (.dup, 1) := by decide +kernel
theorem dX5_init_41 : decode cX5_init 41 = .ok (.invokespecial 11, 3) := by decide +kernel
theorem dX5_init_44 : decode cX5_init 44 = .ok (.aastore, 1) := by decide +kernel
theorem dX5_init_45 : decode cX5_init 45 = .ok (.iinc 1 1, 3) := by decide +kernel
theorem dX5_init_48 : decode cX5_init 48 = .ok (.goto (-22), 3) := by decide +kernel
theorem dX5_init_51 : decode cX5_init 51 = .ok (.return_, 1) := by decide +kernel
theorem dX5_begin_0 : decode cX5_begin 0 = .ok (.aload_n 0, 1) := by decide +kernel
theorem dX5_begin_1 : decode cX5_begin 1 = .ok (.getfield 12, 3) := by decide +kernel
theorem dX5_begin_4 : decode cX5_begin 4 = .ok (.aload_n 1, 1) := by decide +kernel
theorem dX5_begin_5 : decode cX5_begin 5 = .ok (.invokevirtual 22, 3) := by decide +kernel
theorem dX5_begin_8 : decode cX5_begin 8 = .ok (.aload_n 0, 1) := by decide +kernel
theorem dX5_begin_9 : decode cX5_begin 9 = .ok (.iconst 0, 1) := by decide +kernel
theorem dX5_begin_10 : decode cX5_begin 10 = .ok (.putfield 26, 3) := by decide +kernel
theorem dX5_begin_13 : decode cX5_begin 13 = .ok (.return_, 1) := by decide +kernel
theorem dX5_remember_0 : decode cX5_remember 0 = .ok (.aload_n 0, 1) := by decide +kernel
theorem dX5_remember_1 : decode cX5_remember 1 = .ok (.getfield 26, 3) := by decide +kernel
theorem dX5_remember_4 : decode cX5_remember 4 = .ok (.bipush 10, 2) := by decide +kernel
theorem dX5_remember_6 : decode cX5_remember 6 = .ok (.if_icmp .lt 7, 3) := by decide +kernel
theorem dX5_remember_9 : decode cX5_remember 9 = .ok (.aload_n 0, 1) := by decide +kernel
theorem dX5_remember_10 : decode cX5_remember 10 = .ok (.invokevirtual 30, 3) := by decide +kernel
theorem dX5_remember_13 : decode cX5_remember 13 = .ok (.aload_n 0, 1) := by decide +kernel
theorem dX5_remember_14 : decode cX5_remember 14 = .ok (.getfield 26, 3) := by decide +kernel
theorem dX5_remember_17 : decode cX5_remember 17 = .ok (.ifCond .lt 50, 3) := by decide +kernel
theorem dX5_remember_20 : decode cX5_remember 20 = .ok (.aload_n 0, 1) := by decide +kernel
theorem dX5_remember_21 : decode cX5_remember 21 = .ok (.getfield 26, 3) := by decide +kernel
theorem dX5_remember_24 : decode cX5_remember 24 = .ok (.bipush 10, 2) := by decide +kernel
theorem dX5_remember_26 : decode cX5_remember 26 = .ok (.if_icmp .ge 41, 3) := by decide +kernel
theorem dX5_remember_29 : decode cX5_remember 29 = .ok (.aload_n 0, 1) := by decide +kernel
theorem dX5_remember_30 : decode cX5_remember 30 = .ok (.getfield 18, 3) := by decide +kernel
theorem dX5_remember_33 : decode cX5_remember 33 = .ok (.aload_n 0, 1) := by decide +kernel
theorem dX5_remember_34 : decode cX5_remember 34 = .ok (.getfield 26, 3) := by decide +kernel
theorem dX5_remember_37 : decode cX5_remember 37 = .ok (.aaload, 1) := by decide +kernel
theorem dX5_remember_38 : decode cX5_remember 38 = .ok (.ifnull 29, 3) := by decide +kernel
theorem dX5_remember_41 : decode cX5_remember 41 = .ok (.aload_n 0, 1) := by decide +kernel
theorem dX5_remember_42 : decode cX5_remember 42 = .ok (.getfield 18, 3) := by decide +kernel
theorem dX5_remember_45 : decode cX5_remember 45 = .ok (.aload_n 0, 1) := by decide +kernel
theorem dX5_remember_46 : decode cX5_remember 46 = .ok (.getfield 26, 3) := by decide +kernel
theorem dX5_remember_49 : decode cX5_remember 49 = .ok (.aaload, 1) := by decide +kernel
theorem dX5_remember_50 : decode cX5_remember 50 = .ok (.aload_n 0, 1) := by decide +kernel
theorem dX5_remember_51 : decode cX5_remember 51 = .ok (.getfield 12, 3) := by decide +kernel
theorem dX5_remember_54 : decode cX5_remember 54 = .ok (.invokevirtual 22, 3) := by decide +kernel
theorem dX5_remember_57 : decode cX5_remember 57 = .ok (.aload_n 0, 1) := by decide +kernel
theorem dX5_remember_58 : decode cX5_remember 58 = .ok (.dup, 1) := by decide +kernel
theorem dX5_remember_59 : decode cX5_remember 59 = .ok (.getfield 26, 3) := by decide +kernel
theorem dX5_remember_62 : decode cX5_remember 62 = .ok (.iconst 1, 1) := by decide +kernel
theorem dX5_remember_63 : decode cX5_remember 63 = .ok (.iadd, 1) := by decide +kernel
theorem dX5_remember_64 : decode cX5_remember 64 = .ok (.putfield 26, 3) := by decide +kernel
theorem dX5_remember_67 : decode cX5_remember 67 = .ok (.return_, 1) := by decide +kernel
theorem dX5_loseOldest_0 : decode cX5_loseOldest 0 = .ok (.aload_n 0, 1) := by decide +kernel
theorem dX5_loseOldest_1 : decode cX5_loseOldest 1 = .ok (.getfield 18, 3) := by decide +kernel
theorem dX5_loseOldest_4 : decode cX5_loseOldest 4 = .ok (.iconst 0, 1) := by decide +kernel
theorem dX5_loseOldest_5 : decode cX5_loseOldest 5 = .ok (.aaload, 1) := by decide +kernel
theorem dX5_loseOldest_6 : decode cX5_loseOldest 6 = .ok (.astore_n 1, 1) := by decide +kernel
theorem dX5_loseOldest_7 : decode cX5_loseOldest 7 = .ok (.iconst 1, 1) := by decide +kernel
theorem dX5_loseOldest_8 : decode cX5_loseOldest 8 = .ok (.istore_n 2, 1) := by decide +kernel
theorem dX5_loseOldest_9 : decode cX5_loseOldest 9 = .ok (.iload_n 2, 1) := by decide +kernel
theorem dX5_loseOldest_10 : decode cX5_loseOldest 10 = .ok (.bipush 10, 2) := by decide +kernel
theorem dX5_loseOldest_12 : decode cX5_loseOldest 12 = .ok (.if_icmp .ge 23, 3) := by decide +kernel
theorem dX5_loseOldest_15 : decode cX5_loseOldest 15 = .ok (.aload_n 0, 1) := by decide +kernel
theorem dX5_loseOldest_16 : decode cX5_loseOldest 16 = .ok (.getfield 18, 3) := by decide +kernel
theorem dX5_loseOldest_19 : decode cX5_loseOldest 19 = .ok (.iload_n 2, 1) := by decide +kernel
theorem dX5_loseOldest_20 : decode cX5_loseOldest 20 = .ok (.iconst 1, 1) := by decide +kernel
theorem dX5_loseOldest_21 : decode cX5_loseOldest 21 = .ok (.isub, 1) := by decide +kernel
theorem dX5_loseOldest_22 : decode cX5_loseOldest 22 = .ok (.aload_n 0, 1) := by decide +kernel
theorem dX5_loseOldest_23 : decode cX5_loseOldest 23 = .ok (.getfield 18, 3) := by decide +kernel
theorem dX5_loseOldest_26 : decode cX5_loseOldest 26 = .ok (.iload_n 2, 1) := by decide +kernel
theorem dX5_loseOldest_27 : decode cX5_loseOldest 27 = .ok (.aaload, 1) := by decide +kernel
theorem dX5_loseOldest_28 : decode cX5_loseOldest 28 = .ok (.aastore, 1) := by decide +kernel
theorem dX5_loseOldest_29 : decode cX5_loseOldest 29 = .ok (.iinc 2 1, 3) := by decide +kernel
theorem dX5_loseOldest_32 : decode cX5_loseOldest 32 = .ok (.goto (-23), 3) := by decide +kernel
theorem dX5_loseOldest_35 : decode cX5_loseOldest 35 = .ok (.aload_n 0, 1) := by decide +kernel
theorem dX5_loseOldest_36 : decode cX5_loseOldest 36 = .ok (.getfield 18, 3) := by decide +kernel
theorem dX5_loseOldest_39 : decode cX5_loseOldest 39 = .ok (.bipush 9, 2) := by decide +kernel
theorem dX5_loseOldest_41 : decode cX5_loseOldest 41 = .ok (.aload_n 1, 1) := by decide +kernel
theorem dX5_loseOldest_42 : decode cX5_loseOldest 42 = .ok (.aastore, 1) := by decide +kernel
theorem dX5_loseOldest_43 : decode cX5_loseOldest 43 = .ok (.aload_n 0, 1) := by decide +kernel
theorem dX5_loseOldest_44 : decode cX5_loseOldest 44 = .ok (.bipush 9, 2) := by decide +kernel
theorem dX5_loseOldest_46 : decode cX5_loseOldest 46 = .ok (.putfield 26, 3) := by decide +kernel
theorem dX5_loseOldest_49 : decode cX5_loseOldest 49 = .ok (.return_, 1) := by decide +kernel
theorem dX5_takeBack_0 : decode cX5_takeBack 0 = .ok (.aload_n 0, 1) := by decide +kernel
theorem dX5_takeBack_1 : decode cX5_takeBack 1 = .ok (.getfield 26, 3) := by decide +kernel
theorem dX5_takeBack_4 : decode cX5_takeBack 4 = .ok (.iconst 1, 1) := by decide +kernel
theorem dX5_takeBack_5 : decode cX5_takeBack 5 = .ok (.if_icmp .lt 26, 3) := by decide +kernel
theorem dX5_takeBack_8 : decode cX5_takeBack 8 = .ok (.aload_n 0, 1) := by decide +kernel
theorem dX5_takeBack_9 : decode cX5_takeBack 9 = .ok (.getfield 26, 3) := by decide +kernel
theorem dX5_takeBack_12 : decode cX5_takeBack 12 = .ok (.bipush 10, 2) := by decide +kernel
theorem dX5_takeBack_14 : decode cX5_takeBack 14 = .ok (.if_icmp .gt 17, 3) := by decide +kernel
theorem dX5_takeBack_17 : decode cX5_takeBack 17 = .ok (.aload_n 0, 1) := by decide +kernel
theorem dX5_takeBack_18 : decode cX5_takeBack 18 = .ok (.getfield 18, 3) := by decide +kernel
theorem dX5_takeBack_21 : decode cX5_takeBack 21 = .ok (.aload_n 0, 1) := by decide +kernel
theorem dX5_takeBack_22 : decode cX5_takeBack 22 = .ok (.getfield 26, 3) := by decide +kernel
theorem dX5_takeBack_25 : decode cX5_takeBack 25 = .ok (.iconst 1, 1) := by decide +kernel
theorem dX5_takeBack_26 : decode cX5_takeBack 26 = .ok (.isub, 1) := by decide +kernel
theorem dX5_takeBack_27 : decode cX5_takeBack 27 = .ok (.aaload, 1) := by decide +kernel
theorem dX5_takeBack_28 : decode cX5_takeBack 28 = .ok (.ifnonnull 5, 3) := by decide +kernel
theorem dX5_takeBack_31 : decode cX5_takeBack 31 = .ok (.iconst 0, 1) := by decide +kernel
theorem dX5_takeBack_32 : decode cX5_takeBack 32 = .ok (.ireturn, 1) := by decide +kernel
theorem dX5_takeBack_33 : decode cX5_takeBack 33 = .ok (.aload_n 0, 1) := by decide +kernel
theorem dX5_takeBack_34 : decode cX5_takeBack 34 = .ok (.dup, 1) := by decide +kernel
theorem dX5_takeBack_35 : decode cX5_takeBack 35 = .ok (.getfield 26, 3) := by decide +kernel
theorem dX5_takeBack_38 : decode cX5_takeBack 38 = .ok (.iconst 1, 1) := by decide +kernel
theorem dX5_takeBack_39 : decode cX5_takeBack 39 = .ok (.isub, 1) := by decide +kernel
theorem dX5_takeBack_40 : decode cX5_takeBack 40 = .ok (.putfield 26, 3) := by decide +kernel
theorem dX5_takeBack_43 : decode cX5_takeBack 43 = .ok (.aload_n 0, 1) := by decide +kernel
theorem dX5_takeBack_44 : decode cX5_takeBack 44 = .ok (.getfield 12, 3) := by decide +kernel
theorem dX5_takeBack_47 : decode cX5_takeBack 47 = .ok (.aload_n 0, 1) := by decide +kernel
theorem dX5_takeBack_48 : decode cX5_takeBack 48 = .ok (.getfield 18, 3) := by decide +kernel
theorem dX5_takeBack_51 : decode cX5_takeBack 51 = .ok (.aload_n 0, 1) := by decide +kernel
theorem dX5_takeBack_52 : decode cX5_takeBack 52 = .ok (.getfield 26, 3) := by decide +kernel
theorem dX5_takeBack_55 : decode cX5_takeBack 55 = .ok (.aaload, 1) := by decide +kernel
theorem dX5_takeBack_56 : decode cX5_takeBack 56 = .ok (.invokevirtual 22, 3) := by decide +kernel
theorem dX5_takeBack_59 : decode cX5_takeBack 59 = .ok (.iconst 1, 1) := by decide +kernel
theorem dX5_takeBack_60 : decode cX5_takeBack 60 = .ok (.ireturn, 1) := by decide +kernel
theorem dX5_copyFrom_0 : decode cX5_copyFrom 0 = .ok (.aload_n 0, 1) := by decide +kernel
theorem dX5_copyFrom_1 : decode cX5_copyFrom 1 = .ok (.getfield 12, 3) := by decide +kernel
theorem dX5_copyFrom_4 : decode cX5_copyFrom 4 = .ok (.aload_n 1, 1) := by decide +kernel
theorem dX5_copyFrom_5 : decode cX5_copyFrom 5 = .ok (.getfield 12, 3) := by decide +kernel
theorem dX5_copyFrom_8 : decode cX5_copyFrom 8 = .ok (.invokevirtual 22, 3) := by decide +kernel
theorem dX5_copyFrom_11 : decode cX5_copyFrom 11 = .ok (.aload_n 0, 1) := by decide +kernel
theorem dX5_copyFrom_12 : decode cX5_copyFrom 12 = .ok (.aload_n 1, 1) := by decide +kernel
theorem dX5_copyFrom_13 : decode cX5_copyFrom 13 = .ok (.getfield 26, 3) := by decide +kernel
theorem dX5_copyFrom_16 : decode cX5_copyFrom 16 = .ok (.putfield 26, 3) := by decide +kernel
theorem dX5_copyFrom_19 : decode cX5_copyFrom 19 = .ok (.iconst 0, 1) := by decide +kernel
theorem dX5_copyFrom_20 : decode cX5_copyFrom 20 = .ok (.istore_n 2, 1) := by decide +kernel
theorem dX5_copyFrom_21 : decode cX5_copyFrom 21 = .ok (.iload_n 2, 1) := by decide +kernel
theorem dX5_copyFrom_22 : decode cX5_copyFrom 22 = .ok (.aload_n 0, 1) := by decide +kernel
theorem dX5_copyFrom_23 : decode cX5_copyFrom 23 = .ok (.getfield 26, 3) := by decide +kernel
theorem dX5_copyFrom_26 : decode cX5_copyFrom 26 = .ok (.if_icmp .ge 48, 3) := by decide +kernel
theorem dX5_copyFrom_29 : decode cX5_copyFrom 29 = .ok (.iload_n 2, 1) := by decide +kernel
theorem dX5_copyFrom_30 : decode cX5_copyFrom 30 = .ok (.bipush 10, 2) := by decide +kernel
theorem dX5_copyFrom_32 : decode cX5_copyFrom 32 = .ok (.if_icmp .ge 42, 3) := by decide +kernel
theorem dX5_copyFrom_35 : decode cX5_copyFrom 35 = .ok (.aload_n 0, 1) := by decide +kernel
theorem dX5_copyFrom_36 : decode cX5_copyFrom 36 = .ok (.getfield 18, 3) := by decide +kernel
theorem dX5_copyFrom_39 : decode cX5_copyFrom 39 = .ok (.iload_n 2, 1) := by decide +kernel
theorem dX5_copyFrom_40 : decode cX5_copyFrom 40 = .ok (.aaload, 1) := by decide +kernel
theorem dX5_copyFrom_41 : decode cX5_copyFrom 41 = .ok (.ifnull 27, 3) := by decide +kernel
theorem dX5_copyFrom_44 : decode cX5_copyFrom 44 = .ok (.aload_n 1, 1) := by decide +kernel
theorem dX5_copyFrom_45 : decode cX5_copyFrom 45 = .ok (.getfield 18, 3) := by decide +kernel
theorem dX5_copyFrom_48 : decode cX5_copyFrom 48 = .ok (.iload_n 2, 1) := by decide +kernel
theorem dX5_copyFrom_49 : decode cX5_copyFrom 49 = .ok (.aaload, 1) := by decide +kernel
theorem dX5_copyFrom_50 : decode cX5_copyFrom 50 = .ok (.ifnull 18, 3) := by decide +kernel
theorem dX5_copyFrom_53 : decode cX5_copyFrom 53 = .ok (.aload_n 0, 1) := by decide +kernel
theorem dX5_copyFrom_54 : decode cX5_copyFrom 54 = .ok (.getfield 18, 3) := by decide +kernel
theorem dX5_copyFrom_57 : decode cX5_copyFrom 57 = .ok (.iload_n 2, 1) := by decide +kernel
theorem dX5_copyFrom_58 : decode cX5_copyFrom 58 = .ok (.aaload, 1) := by decide +kernel
theorem dX5_copyFrom_59 : decode cX5_copyFrom 59 = .ok (.aload_n 1, 1) := by decide +kernel
theorem dX5_copyFrom_60 : decode cX5_copyFrom 60 = .ok (.getfield 18, 3) := by decide +kernel
theorem dX5_copyFrom_63 : decode cX5_copyFrom 63 = .ok (.iload_n 2, 1) := by decide +kernel
theorem dX5_copyFrom_64 : decode cX5_copyFrom 64 = .ok (.aaload, 1) := by decide +kernel
theorem dX5_copyFrom_65 : decode cX5_copyFrom 65 = .ok (.invokevirtual 22, 3) := by decide +kernel
theorem dX5_copyFrom_68 : decode cX5_copyFrom 68 = .ok (.iinc 2 1, 3) := by decide +kernel
theorem dX5_copyFrom_71 : decode cX5_copyFrom 71 = .ok (.goto (-50), 3) := by decide +kernel
theorem dX5_copyFrom_74 : decode cX5_copyFrom 74 = .ok (.return_, 1) := by decide +kernel
theorem dX6_init_0 : decode cX6_init 0 = .ok (.aload_n 0, 1) := by decide +kernel
theorem dX6_init_1 : decode cX6_init 1 = .ok (.invokespecial 1, 3) := by decide +kernel
theorem dX6_init_4 : decode cX6_init 4 = .ok (.aload_n 0, 1) := by decide +kernel
theorem dX6_init_5 : decode cX6_init 5 = .ok (.new 7, 3) := by decide +kernel
theorem dX6_init_8 : decode cX6_init 8 = .ok (.dup, 1) := by decide +kernel
theorem dX6_init_9 : decode cX6_init 9 = .ok (.invokespecial 9, 3) := by decide +kernel
theorem dX6_init_12 : decode cX6_init 12 = .ok (.putfield 10, 3) := by decide +kernel
theorem dX6_init_15 : decode cX6_init 15 = .ok (.aload_n 0, 1) := by decide +kernel
theorem dX6_init_16 : decode cX6_init 16 = .ok (.new 16, 3) := by decide +kernel
theorem dX6_init_19 : decode cX6_init 19 = .ok (.dup, 1) := by decide +kernel
theorem dX6_init_20 : decode cX6_init 20 = .ok (.invokespecial 18, 3) := by decide +kernel
theorem dX6_init_23 : decode cX6_init 23 = .ok (.putfield 19, 3) := by decide +kernel
theorem dX6_init_26 : decode cX6_init 26 = .ok (.aload_n 0, 1) := by decide +kernel
theorem dX6_init_27 : decode cX6_init 27 = .ok (.new 23, 3) := by decide +kernel
theorem dX6_init_30 : decode cX6_init 30 = .ok (.dup, 1) := by decide +kernel
theorem dX6_init_31 : decode cX6_init 31 = .ok (.invokespecial 25, 3) := by decide +kernel
theorem dX6_init_34 : decode cX6_init 34 = .ok (.putfield 26, 3) := by decide +kernel
theorem dX6_init_37 : decode cX6_init 37 = .ok (.aload_n 0, 1) := by decide +kernel
theorem dX6_init_38 : decode cX6_init 38 = .ok (.new 30, 3) := by decide +kernel
theorem dX6_init_41 : decode cX6_init 41 = .ok (.dup, 1) := by decide +kernel
theorem dX6_init_42 : decode cX6_init 42 = .ok (.invokespecial 32, 3) := by decide +kernel
theorem dX6_init_45 : decode cX6_init 45 = .ok (.putfield 33, 3) := by decide +kernel
theorem dX6_init_48 : decode cX6_init 48 = .ok (.aload_n 0, 1) := by decide +kernel
theorem dX6_init_49 : decode cX6_init 49 = .ok (.new 37, 3) := by decide +kernel
theorem dX6_init_52 : decode cX6_init 52 = .ok (.dup, 1) := by decide +kernel
theorem dX6_init_53 : decode cX6_init 53 = .ok (.invokespecial 39, 3) := by decide +kernel
theorem dX6_init_56 : decode cX6_init 56 = .ok (.putfield 40, 3) := by decide +kernel
theorem dX6_init_59 : decode cX6_init 59 = .ok (.aload_n 0, 1) := by decide +kernel
theorem dX6_init_60 : decode cX6_init 60 = .ok (.new 37, 3) := by decide +kernel
theorem dX6_init_63 : decode cX6_init 63 = .ok (.dup, 1) := by decide +kernel
theorem dX6_init_64 : decode cX6_init 64 = .ok (.invokespecial 39, 3) := by decide +kernel
theorem dX6_init_67 : decode cX6_init 67 = .ok (.putfield 44, 3) := by decide +kernel
theorem dX6_init_70 : decode cX6_init 70 = .ok (.aload_n 0, 1) := by decide +kernel
theorem dX6_init_71 : decode cX6_init 71 = .ok (.new 37, 3) := by decide +kernel
theorem dX6_init_74 : decode cX6_init 74 = .ok (.dup, 1) := by decide +kernel
theorem dX6_init_75 : decode cX6_init 75 = .ok (.invokespecial 39, 3) := by decide +kernel
theorem dX6_init_78 : decode cX6_init 78 = .ok (.putfield 47, 3) := by decide +kernel
theorem dX6_init_81 : decode cX6_init 81 = .ok (.aload_n 0, 1) := by decide +kernel
theorem dX6_init_82 : decode cX6_init 82 = .ok (.new 50, 3) := by decide +kernel
theorem dX6_init_85 : decode cX6_init 85 = .ok (.dup, 1) := by decide +kernel
theorem dX6_init_86 : decode cX6_init 86 = .ok (.invokespecial 52, 3) := by decide +kernel
theorem dX6_init_89 : decode cX6_init 89 = .ok (.putfield 53, 3) := by decide +kernel
theorem dX6_init_92 : decode cX6_init 92 = .ok (.aload_n 0, 1) := by decide +kernel
theorem dX6_init_93 : decode cX6_init 93 = .ok (.new 50, 3) := by decide +kernel
theorem dX6_init_96 : decode cX6_init 96 = .ok (.dup, 1) := by decide +kernel
theorem dX6_init_97 : decode cX6_init 97 = .ok (.invokespecial 52, 3) := by decide +kernel
theorem dX6_init_100 : decode cX6_init 100 = .ok (.putfield 57, 3) := by decide +kernel
theorem dX6_init_103 : decode cX6_init 103 = .ok (.return_, 1) := by decide +kernel
theorem dX6_type_0 : decode cX6_type 0 = .ok (.iload_n 1, 1) := by decide +kernel
theorem dX6_type_1 : decode cX6_type 1 = .ok (.ifCond .lt 10, 3) := by decide +kernel
theorem dX6_type_4 : decode cX6_type 4 = .ok (.iload_n 1, 1) := by decide +kernel
theorem dX6_type_5 : decode cX6_type 5 = .ok (.sipush 255, 3) := by decide +kernel
theorem dX6_type_8 : decode cX6_type 8 = .ok (.if_icmp .le 5, 3) := by decide +kernel
theorem dX6_type_11 : decode cX6_type 11 = .ok (.iconst (-1), 1) := by decide +kernel
theorem dX6_type_12 : decode cX6_type 12 = .ok (.ireturn, 1) := by decide +kernel
theorem dX6_type_13 : decode cX6_type 13 = .ok (.aload_n 0, 1) := by decide +kernel
theorem dX6_type_14 : decode cX6_type 14 = .ok (.getfield 10, 3) := by decide +kernel
theorem dX6_type_17 : decode cX6_type 17 = .ok (.iload_n 1, 1) := by decide +kernel
theorem dX6_type_18 : decode cX6_type 18 = .ok (.invokevirtual 60, 3) := by decide +kernel
theorem dX6_type_21 : decode cX6_type 21 = .ok (.ifCond .eq 13, 3) := by decide +kernel
theorem dX6_type_24 : decode cX6_type 24 = .ok (.aload_n 0, 1) := by decide +kernel
theorem dX6_type_25 : decode cX6_type 25 = .ok (.getfield 10, 3) := by decide +kernel
theorem dX6_type_28 : decode cX6_type 28 = .ok (.getfield 64, 3) := by decide +kernel
theorem dX6_type_31 : decode cX6_type 31 = .ok (.goto 5, 3) := by decide +kernel
theorem dX6_type_34 : decode cX6_type 34 = .ok (.bipush (-3), 2) := by decide +kernel
theorem dX6_type_36 : decode cX6_type 36 = .ok (.ireturn, 1) := by decide +kernel
theorem dX6_clear_0 : decode cX6_clear 0 = .ok (.aload_n 0, 1) := by decide +kernel
theorem dX6_clear_1 : decode cX6_clear 1 = .ok (.getfield 10, 3) := by decide +kernel
theorem dX6_clear_4 : decode cX6_clear 4 = .ok (.getfield 64, 3) := by decide +kernel
theorem dX6_clear_7 : decode cX6_clear 7 = .ok (.istore_n 1, 1) := by decide +kernel
theorem dX6_clear_8 : decode cX6_clear 8 = .ok (.aload_n 0, 1) := by decide +kernel
theorem dX6_clear_9 : decode cX6_clear 9 = .ok (.getfield 10, 3) := by decide +kernel
theorem dX6_clear_12 : decode cX6_clear 12 = .ok (.iconst 0, 1) := by decide +kernel
theorem dX6_clear_13 : decode cX6_clear 13 = .ok (.putfield 64, 3) := by decide +kernel
theorem dX6_clear_16 : decode cX6_clear 16 = .ok (.iload_n 1, 1) := by decide +kernel
theorem dX6_clear_17 : decode cX6_clear 17 = .ok (.ireturn, 1) := by decide +kernel
theorem dX6_world_0 : decode cX6_world 0 = .ok (.aload_n 0, 1) := by decide +kernel
theorem dX6_world_1 : decode cX6_world 1 = .ok (.getfield 57, 3) := by decide +kernel
theorem dX6_world_4 : decode cX6_world 4 = .ok (.invokevirtual 68, 3) := by decide +kernel
theorem dX6_world_7 : decode cX6_world 7 = .ok (.aload_n 0, 1) := by decide +kernel
theorem dX6_world_8 : decode cX6_world 8 = .ok (.getfield 10, 3) := by decide +kernel
theorem dX6_world_11 : decode cX6_world 11 = .ok (.aload_n 0, 1) := by decide +kernel
theorem dX6_world_12 : decode cX6_world 12 = .ok (.getfield 57, 3) := by decide +kernel
theorem dX6_world_15 : decode cX6_world 15 = .ok (.invokevirtual 71, 3) := by decide +kernel
theorem dX6_world_18 : decode cX6_world 18 = .ok (.istore_n 1, 1) := by decide +kernel
theorem dX6_world_19 : decode cX6_world 19 = .ok (.iload_n 1, 1) := by decide +kernel
theorem dX6_world_20 : decode cX6_world 20 = .ok (.ifCond .ge 5, 3) := by decide +kernel
theorem dX6_world_23 : decode cX6_world 23 = .ok (.iload_n 1, 1) := by decide +kernel
theorem dX6_world_24 : decode cX6_world 24 = .ok (.ireturn, 1) := by decide +kernel
theorem dX6_world_25 : decode cX6_world 25 = .ok (.aload_n 0, 1) := by decide +kernel
theorem dX6_world_26 : decode cX6_world 26 = .ok (.getfield 57, 3) := by decide +kernel
theorem dX6_world_29 : decode cX6_world 29 = .ok (.invokevirtual 75, 3) := by decide +kernel
theorem dX6_world_32 : decode cX6_world 32 = .ok (.aload_n 0, 1) := by decide +kernel
theorem dX6_world_33 : decode cX6_world 33 = .ok (.getfield 53, 3) := by decide +kernel
theorem dX6_world_36 : decode cX6_world 36 = .ok (.astore_n 2, 1) := by decide +kernel
theorem dX6_world_37 : decode cX6_world 37 = .ok (.aload_n 0, 1) := by decide +kernel
theorem dX6_world_38 : decode cX6_world 38 = .ok (.aload_n 0, 1) := by decide +kernel
theorem dX6_world_39 : decode cX6_world 39 = .ok (.getfield 57, 3) := by decide +kernel
theorem dX6_world_42 : decode cX6_world 42 = .ok (.putfield 53, 3) := by decide +kernel
theorem dX6_world_45 : decode cX6_world 45 = .ok (.aload_n 0, 1) := by decide +kernel
theorem dX6_world_46 : decode cX6_world 46 = .ok (.aload_n 2, 1) := by decide +kernel
theorem dX6_world_47 : decode cX6_world 47 = .ok (.putfield 57, 3) := by decide +kernel
theorem dX6_world_50 : decode cX6_world 50 = .ok (.aload_n 0, 1) := by decide +kernel
theorem dX6_world_51 : decode cX6_world 51 = .ok (.getfield 10, 3) := by decide +kernel
theorem dX6_world_54 : decode cX6_world 54 = .ok (.iconst 0, 1) := by decide +kernel
theorem dX6_world_55 : decode cX6_world 55 = .ok (.putfield 64, 3) := by decide +kernel
theorem dX6_world_58 : decode cX6_world 58 = .ok (.aload_n 0, 1) := by decide +kernel
theorem dX6_world_59 : decode cX6_world 59 = .ok (.getfield 40, 3) := by decide +kernel
theorem dX6_world_62 : decode cX6_world 62 = .ok (.aload_n 0, 1) := by decide +kernel
theorem dX6_world_63 : decode cX6_world 63 = .ok (.getfield 53, 3) := by decide +kernel
theorem dX6_world_66 : decode cX6_world 66 = .ok (.getfield 78, 3) := by decide +kernel
theorem dX6_world_69 : decode cX6_world 69 = .ok (.invokevirtual 81, 3) := by decide +kernel
theorem dX6_world_72 : decode cX6_world 72 = .ok (.aload_n 0, 1) := by decide +kernel
theorem dX6_world_73 : decode cX6_world 73 = .ok (.getfield 44, 3) := by decide +kernel
theorem dX6_world_76 : decode cX6_world 76 = .ok (.iconst 0, 1) := by decide +kernel
theorem dX6_world_77 : decode cX6_world 77 = .ok (.putfield 85, 3) := by decide +kernel
theorem dX6_world_80 : decode cX6_world 80 = .ok (.aload_n 0, 1) := by decide +kernel
theorem dX6_world_81 : decode cX6_world 81 = .ok (.getfield 47, 3) := by decide +kernel
theorem dX6_world_84 : decode cX6_world 84 = .ok (.iconst 0, 1) := by decide +kernel
theorem dX6_world_85 : decode cX6_world 85 = .ok (.putfield 85, 3) := by decide +kernel
theorem dX6_world_88 : decode cX6_world 88 = .ok (.iload_n 1, 1) := by decide +kernel
theorem dX6_world_89 : decode cX6_world 89 = .ok (.ireturn, 1) := by decide +kernel
theorem dX6_place_0 : decode cX6_place 0 = .ok (.aload_n 0, 1) := by decide +kernel
theorem dX6_place_1 : decode cX6_place 1 = .ok (.getfield 53, 3) := by decide +kernel
theorem dX6_place_4 : decode cX6_place 4 = .ok (.iload_n 1, 1) := by decide +kernel
theorem dX6_place_5 : decode cX6_place 5 = .ok (.invokevirtual 89, 3) := by decide +kernel
theorem dX6_place_8 : decode cX6_place 8 = .ok (.ifCond .ne 5, 3) := by decide +kernel
theorem dX6_place_11 : decode cX6_place 11 = .ok (.iconst (-1), 1) := by decide +kernel
theorem dX6_place_12 : decode cX6_place 12 = .ok (.ireturn, 1) := by decide +kernel
theorem dX6_place_13 : decode cX6_place 13 = .ok (.iload_n 2, 1) := by decide +kernel
theorem dX6_place_14 : decode cX6_place 14 = .ok (.tableswitch 65 0 2 #[26, 36, 48], 26) := by decide +kernel
theorem dX6_place_40 : decode cX6_place 40 = .ok (.aload_n 0, 1) := by decide +kernel
theorem dX6_place_41 : decode cX6_place 41 = .ok (.getfield 53, 3) := by decide +kernel
theorem dX6_place_44 : decode cX6_place 44 = .ok (.getfield 92, 3) := by decide +kernel
theorem dX6_place_47 : decode cX6_place 47 = .ok (.iload_n 1, 1) := by decide +kernel
theorem dX6_place_48 : decode cX6_place 48 = .ok (.iaload, 1) := by decide +kernel
theorem dX6_place_49 : decode cX6_place 49 = .ok (.ireturn, 1) := by decide +kernel
theorem dX6_place_50 : decode cX6_place 50 = .ok (.aload_n 0, 1) := by decide +kernel
theorem dX6_place_51 : decode cX6_place 51 = .ok (.getfield 53, 3) := by decide +kernel
theorem dX6_place_54 : decode cX6_place 54 = .ok (.getfield 96, 3) := by decide +kernel
theorem dX6_place_57 : decode cX6_place 57 = .ok (.iload_n 1, 1) := by decide +kernel
theorem dX6_place_58 : decode cX6_place 58 = .ok (.ishr, 1) := by decide +kernel
theorem dX6_place_59 : decode cX6_place 59 = .ok (.iconst 1, 1) := by decide +kernel
theorem dX6_place_60 : decode cX6_place 60 = .ok (.iand, 1) := by decide +kernel
theorem dX6_place_61 : decode cX6_place 61 = .ok (.ireturn, 1) := by decide +kernel
theorem dX6_place_62 : decode cX6_place 62 = .ok (.aload_n 0, 1) := by decide +kernel
theorem dX6_place_63 : decode cX6_place 63 = .ok (.getfield 53, 3) := by decide +kernel
theorem dX6_place_66 : decode cX6_place 66 = .ok (.getfield 99, 3) := by decide +kernel
theorem dX6_place_69 : decode cX6_place 69 = .ok (.iload_n 1, 1) := by decide +kernel
theorem dX6_place_70 : decode cX6_place 70 = .ok (.if_icmp .ne 7, 3) := by decide +kernel
theorem dX6_place_73 : decode cX6_place 73 = .ok (.iconst 1, 1) := by decide +kernel
theorem dX6_place_74 : decode cX6_place 74 = .ok (.goto 4, 3) := by decide +kernel
theorem dX6_place_77 : decode cX6_place 77 = .ok (.iconst 0, 1) := by decide +kernel
theorem dX6_place_78 : decode cX6_place 78 = .ok (.ireturn, 1) := by decide +kernel
theorem dX6_place_79 : decode cX6_place 79 = .ok (.iconst (-1), 1) := by decide +kernel
theorem dX6_place_80 : decode cX6_place 80 = .ok (.ireturn, 1) := by decide +kernel
theorem dX6_wagon_0 : decode cX6_wagon 0 = .ok (.aload_n 0, 1) := by decide +kernel
theorem dX6_wagon_1 : decode cX6_wagon 1 = .ok (.getfield 53, 3) := by decide +kernel
theorem dX6_wagon_4 : decode cX6_wagon 4 = .ok (.iload_n 1, 1) := by decide +kernel
theorem dX6_wagon_5 : decode cX6_wagon 5 = .ok (.invokevirtual 102, 3) := by decide +kernel
theorem dX6_wagon_8 : decode cX6_wagon 8 = .ok (.ifCond .ne 5, 3) := by decide +kernel
theorem dX6_wagon_11 : decode cX6_wagon 11 = .ok (.iconst (-1), 1) := by decide +kernel
theorem dX6_wagon_12 : decode cX6_wagon 12 = .ok (.ireturn, 1) := by decide +kernel
theorem dX6_wagon_13 : decode cX6_wagon 13 = .ok (.aload_n 0, 1) := by decide +kernel
theorem dX6_wagon_14 : decode cX6_wagon 14 = .ok (.getfield 40, 3) := by decide +kernel
theorem dX6_wagon_17 : decode cX6_wagon 17 = .ok (.getfield 105, 3) := by decide +kernel
theorem dX6_wagon_20 : decode cX6_wagon 20 = .ok (.astore_n 3, 1) := by decide +kernel
theorem dX6_wagon_21 : decode cX6_wagon 21 = .ok (.iload_n 2, 1) := by decide +kernel
theorem dX6_wagon_22 : decode cX6_wagon 22 = .ok (.tableswitch 115 0 7 #[46, 53, 63, 73, 80, 87, 94, 101], 46) := by decide +kernel
theorem dX6_wagon_68 : decode cX6_wagon 68 = .ok (.aload_n 3, 1) := by decide +kernel
theorem dX6_wagon_69 : decode cX6_wagon 69 = .ok (.getfield 108, 3) := by decide +kernel
theorem dX6_wagon_72 : decode cX6_wagon 72 = .ok (.iload_n 1, 1) := by decide +kernel
theorem dX6_wagon_73 : decode cX6_wagon 73 = .ok (.iaload, 1) := by decide +kernel
theorem dX6_wagon_74 : decode cX6_wagon 74 = .ok (.ireturn, 1) := by decide +kernel
theorem dX6_wagon_75 : decode cX6_wagon 75 = .ok (.aload_n 0, 1) := by decide +kernel
theorem dX6_wagon_76 : decode cX6_wagon 76 = .ok (.getfield 53, 3) := by decide +kernel
theorem dX6_wagon_79 : decode cX6_wagon 79 = .ok (.getfield 111, 3) := by decide +kernel
theorem dX6_wagon_82 : decode cX6_wagon 82 = .ok (.iload_n 1, 1) := by decide +kernel
theorem dX6_wagon_83 : decode cX6_wagon 83 = .ok (.iaload, 1) := by decide +kernel
theorem dX6_wagon_84 : decode cX6_wagon 84 = .ok (.ireturn, 1) := by decide +kernel
theorem dX6_wagon_85 : decode cX6_wagon 85 = .ok (.aload_n 0, 1) := by decide +kernel
theorem dX6_wagon_86 : decode cX6_wagon 86 = .ok (.getfield 53, 3) := by decide +kernel
theorem dX6_wagon_89 : decode cX6_wagon 89 = .ok (.getfield 114, 3) := by decide +kernel
theorem dX6_wagon_92 : decode cX6_wagon 92 = .ok (.iload_n 1, 1) := by decide +kernel
theorem dX6_wagon_93 : decode cX6_wagon 93 = .ok (.iaload, 1) := by decide +kernel
theorem dX6_wagon_94 : decode cX6_wagon 94 = .ok (.ireturn, 1) := by decide +kernel
theorem dX6_wagon_95 : decode cX6_wagon 95 = .ok (.aload_n 3, 1) := by decide +kernel
theorem dX6_wagon_96 : decode cX6_wagon 96 = .ok (.getfield 117, 3) := by decide +kernel
theorem dX6_wagon_99 : decode cX6_wagon 99 = .ok (.iload_n 1, 1) := by decide +kernel
theorem dX6_wagon_100 : decode cX6_wagon 100 = .ok (.iaload, 1) := by decide +kernel
theorem dX6_wagon_101 : decode cX6_wagon 101 = .ok (.ireturn, 1) := by decide +kernel
theorem dX6_wagon_102 : decode cX6_wagon 102 = .ok (.aload_n 3, 1) := by decide +kernel
theorem dX6_wagon_103 : decode cX6_wagon 103 = .ok (.getfield 120, 3) := by decide +kernel
theorem dX6_wagon_106 : decode cX6_wagon 106 = .ok (.iload_n 1, 1) := by decide +kernel
theorem dX6_wagon_107 : decode cX6_wagon 107 = .ok (.iaload, 1) := by decide +kernel
theorem dX6_wagon_108 : decode cX6_wagon 108 = .ok (.ireturn, 1) := by decide +kernel
theorem dX6_wagon_109 : decode cX6_wagon 109 = .ok (.aload_n 3, 1) := by decide +kernel
theorem dX6_wagon_110 : decode cX6_wagon 110 = .ok (.getfield 123, 3) := by decide +kernel
theorem dX6_wagon_113 : decode cX6_wagon 113 = .ok (.iload_n 1, 1) := by decide +kernel
theorem dX6_wagon_114 : decode cX6_wagon 114 = .ok (.iaload, 1) := by decide +kernel
theorem dX6_wagon_115 : decode cX6_wagon 115 = .ok (.ireturn, 1) := by decide +kernel
theorem dX6_wagon_116 : decode cX6_wagon 116 = .ok (.aload_n 3, 1) := by decide +kernel
theorem dX6_wagon_117 : decode cX6_wagon 117 = .ok (.getfield 126, 3) := by decide +kernel
theorem dX6_wagon_120 : decode cX6_wagon 120 = .ok (.iload_n 1, 1) := by decide +kernel
theorem dX6_wagon_121 : decode cX6_wagon 121 = .ok (.iaload, 1) := by decide +kernel
theorem dX6_wagon_122 : decode cX6_wagon 122 = .ok (.ireturn, 1) := by decide +kernel
theorem dX6_wagon_123 : decode cX6_wagon 123 = .ok (.aload_n 3, 1) := by decide +kernel
theorem dX6_wagon_124 : decode cX6_wagon 124 = .ok (.iload_n 1, 1) := by decide +kernel
theorem dX6_wagon_125 : decode cX6_wagon 125 = .ok (.invokevirtual 129, 3) := by decide +kernel
theorem dX6_wagon_128 : decode cX6_wagon 128 = .ok (.ifCond .eq 7, 3) := by decide +kernel
theorem dX6_wagon_131 : decode cX6_wagon 131 = .ok (.iconst 1, 1) := by decide +kernel
theorem dX6_wagon_132 : decode cX6_wagon 132 = .ok (.goto 4, 3) := by decide +kernel
theorem dX6_wagon_135 : decode cX6_wagon 135 = .ok (.iconst 0, 1) := by decide +kernel
theorem dX6_wagon_136 : decode cX6_wagon 136 = .ok (.ireturn, 1) := by decide +kernel
theorem dX6_wagon_137 : decode cX6_wagon 137 = .ok (.iconst (-1), 1) := by decide +kernel
theorem dX6_wagon_138 : decode cX6_wagon 138 = .ok (.ireturn, 1) := by decide +kernel
theorem dX6_now_0 : decode cX6_now 0 = .ok (.iload_n 1, 1) := by decide +kernel
theorem dX6_now_1 : decode cX6_now 1 = .ok (.tableswitch 100 0 5 #[39, 50, 58, 66, 74, 85], 39) := by decide +kernel
theorem dX6_now_40 : decode cX6_now 40 = .ok (.aload_n 0, 1) := by decide +kernel
theorem dX6_now_41 : decode cX6_now 41 = .ok (.getfield 40, 3) := by decide +kernel
theorem dX6_now_44 : decode cX6_now 44 = .ok (.getfield 105, 3) := by decide +kernel
theorem dX6_now_47 : decode cX6_now 47 = .ok (.getfield 132, 3) := by decide +kernel
theorem dX6_now_50 : decode cX6_now 50 = .ok (.ireturn, 1) := by decide +kernel
theorem dX6_now_51 : decode cX6_now 51 = .ok (.aload_n 0, 1) := by decide +kernel
theorem dX6_now_52 : decode cX6_now 52 = .ok (.getfield 53, 3) := by decide +kernel
theorem dX6_now_55 : decode cX6_now 55 = .ok (.getfield 135, 3) := by decide +kernel
theorem dX6_now_58 : decode cX6_now 58 = .ok (.ireturn, 1) := by decide +kernel
theorem dX6_now_59 : decode cX6_now 59 = .ok (.aload_n 0, 1) := by decide +kernel
theorem dX6_now_60 : decode cX6_now 60 = .ok (.getfield 53, 3) := by decide +kernel
theorem dX6_now_63 : decode cX6_now 63 = .ok (.getfield 138, 3) := by decide +kernel
theorem dX6_now_66 : decode cX6_now 66 = .ok (.ireturn, 1) := by decide +kernel
theorem dX6_now_67 : decode cX6_now 67 = .ok (.aload_n 0, 1) := by decide +kernel
theorem dX6_now_68 : decode cX6_now 68 = .ok (.getfield 53, 3) := by decide +kernel
theorem dX6_now_71 : decode cX6_now 71 = .ok (.getfield 141, 3) := by decide +kernel
theorem dX6_now_74 : decode cX6_now 74 = .ok (.ireturn, 1) := by decide +kernel
theorem dX6_now_75 : decode cX6_now 75 = .ok (.aload_n 0, 1) := by decide +kernel
theorem dX6_now_76 : decode cX6_now 76 = .ok (.getfield 40, 3) := by decide +kernel
theorem dX6_now_79 : decode cX6_now 79 = .ok (.getfield 105, 3) := by decide +kernel
theorem dX6_now_82 : decode cX6_now 82 = .ok (.getfield 144, 3) := by decide +kernel
theorem dX6_now_85 : decode cX6_now 85 = .ok (.ireturn, 1) := by decide +kernel
theorem dX6_now_86 : decode cX6_now 86 = .ok (.aload_n 0, 1) := by decide +kernel
theorem dX6_now_87 : decode cX6_now 87 = .ok (.getfield 53, 3) := by decide +kernel
theorem dX6_now_90 : decode cX6_now 90 = .ok (.aload_n 0, 1) := by decide +kernel
theorem dX6_now_91 : decode cX6_now 91 = .ok (.getfield 40, 3) := by decide +kernel
theorem dX6_now_94 : decode cX6_now 94 = .ok (.getfield 105, 3) := by decide +kernel
theorem dX6_now_97 : decode cX6_now 97 = .ok (.invokevirtual 147, 3) := by decide +kernel
theorem dX6_now_100 : decode cX6_now 100 = .ok (.ireturn, 1) := by decide +kernel
theorem dX6_now_101 : decode cX6_now 101 = .ok (.iconst (-1), 1) := by decide +kernel
theorem dX6_now_102 : decode cX6_now 102 = .ok (.ireturn, 1) := by decide +kernel
theorem dX6_sun_0 : decode cX6_sun 0 = .ok (.iload_n 1, 1) := by decide +kernel
theorem dX6_sun_1 : decode cX6_sun 1 = .ok (.ifCond .lt 10, 3) := by decide +kernel
theorem dX6_sun_4 : decode cX6_sun 4 = .ok (.iload_n 1, 1) := by decide +kernel
theorem dX6_sun_5 : decode cX6_sun 5 = .ok (.sipush 1100, 3) := by decide +kernel
theorem dX6_sun_8 : decode cX6_sun 8 = .ok (.if_icmp .le 8, 3) := by decide +kernel
theorem dX6_sun_11 : decode cX6_sun 11 = .ok (.ldc 151, 2) := by decide +kernel
theorem dX6_sun_13 : decode cX6_sun 13 = .ok (.goto 18, 3) := by decide +kernel
theorem dX6_sun_16 : decode cX6_sun 16 = .ok (.aload_n 0, 1) := by decide +kernel
theorem dX6_sun_17 : decode cX6_sun 17 = .ok (.getfield 53, 3) := by decide +kernel
theorem dX6_sun_20 : decode cX6_sun 20 = .ok (.iload_n 1, 1) := by decide +kernel
theorem dX6_sun_21 : decode cX6_sun 21 = .ok (.aload_n 0, 1) := by decide +kernel
theorem dX6_sun_22 : decode cX6_sun 22 = .ok (.getfield 53, 3) := by decide +kernel
theorem dX6_sun_25 : decode cX6_sun 25 = .ok (.getfield 141, 3) := by decide +kernel
theorem dX6_sun_28 : decode cX6_sun 28 = .ok (.invokevirtual 152, 3) := by decide +kernel
theorem dX6_sun_31 : decode cX6_sun 31 = .ok (.ireturn, 1) := by decide +kernel
theorem dX6_minute_0 : decode cX6_minute 0 = .ok (.aload_n 0, 1) := by decide +kernel
theorem dX6_minute_1 : decode cX6_minute 1 = .ok (.getfield 40, 3) := by decide +kernel
theorem dX6_minute_4 : decode cX6_minute 4 = .ok (.getfield 105, 3) := by decide +kernel
theorem dX6_minute_7 : decode cX6_minute 7 = .ok (.getfield 132, 3) := by decide +kernel
theorem dX6_minute_10 : decode cX6_minute 10 = .ok (.sipush 999, 3) := by decide +kernel
theorem dX6_minute_13 : decode cX6_minute 13 = .ok (.if_icmp .lt 6, 3) := by decide +kernel
theorem dX6_minute_16 : decode cX6_minute 16 = .ok (.bipush (-2), 2) := by decide +kernel
theorem dX6_minute_18 : decode cX6_minute 18 = .ok (.ireturn, 1) := by decide +kernel
theorem dX6_minute_19 : decode cX6_minute 19 = .ok (.aload_n 0, 1) := by decide +kernel
theorem dX6_minute_20 : decode cX6_minute 20 = .ok (.getfield 40, 3) := by decide +kernel
theorem dX6_minute_23 : decode cX6_minute 23 = .ok (.invokevirtual 156, 3) := by decide +kernel
theorem dX6_minute_26 : decode cX6_minute 26 = .ok (.aload_n 0, 1) := by decide +kernel
theorem dX6_minute_27 : decode cX6_minute 27 = .ok (.getfield 53, 3) := by decide +kernel
theorem dX6_minute_30 : decode cX6_minute 30 = .ok (.aload_n 0, 1) := by decide +kernel
theorem dX6_minute_31 : decode cX6_minute 31 = .ok (.getfield 40, 3) := by decide +kernel
theorem dX6_minute_34 : decode cX6_minute 34 = .ok (.getfield 105, 3) := by decide +kernel
theorem dX6_minute_37 : decode cX6_minute 37 = .ok (.invokevirtual 159, 3) := by decide +kernel
theorem dX6_minute_40 : decode cX6_minute 40 = .ok (.pop, 1) := by decide +kernel
theorem dX6_minute_41 : decode cX6_minute 41 = .ok (.aload_n 0, 1) := by decide +kernel
theorem dX6_minute_42 : decode cX6_minute 42 = .ok (.getfield 40, 3) := by decide +kernel
theorem dX6_minute_45 : decode cX6_minute 45 = .ok (.getfield 105, 3) := by decide +kernel
theorem dX6_minute_48 : decode cX6_minute 48 = .ok (.getfield 144, 3) := by decide +kernel
theorem dX6_minute_51 : decode cX6_minute 51 = .ok (.invokestatic 162, 3) := by decide +kernel
theorem dX6_minute_54 : decode cX6_minute 54 = .ok (.ireturn, 1) := by decide +kernel
theorem dX6_stand_0 : decode cX6_stand 0 = .ok (.aload_n 0, 1) := by decide +kernel
theorem dX6_stand_1 : decode cX6_stand 1 = .ok (.getfield 53, 3) := by decide +kernel
theorem dX6_stand_4 : decode cX6_stand 4 = .ok (.iload_n 1, 1) := by decide +kernel
theorem dX6_stand_5 : decode cX6_stand 5 = .ok (.invokevirtual 102, 3) := by decide +kernel
theorem dX6_stand_8 : decode cX6_stand 8 = .ok (.ifCond .eq 14, 3) := by decide +kernel
theorem dX6_stand_11 : decode cX6_stand 11 = .ok (.iload_n 2, 1) := by decide +kernel
theorem dX6_stand_12 : decode cX6_stand 12 = .ok (.iconst 1, 1) := by decide +kernel
theorem dX6_stand_13 : decode cX6_stand 13 = .ok (.if_icmp .lt 9, 3) := by decide +kernel
theorem dX6_stand_16 : decode cX6_stand 16 = .ok (.iload_n 2, 1) := by decide +kernel
theorem dX6_stand_17 : decode cX6_stand 17 = .ok (.bipush 30, 2) := by decide +kernel
theorem dX6_stand_19 : decode cX6_stand 19 = .ok (.if_icmp .le 5, 3) := by decide +kernel
theorem dX6_stand_22 : decode cX6_stand 22 = .ok (.iconst (-1), 1) := by decide +kernel
theorem dX6_stand_23 : decode cX6_stand 23 = .ok (.ireturn, 1) := by decide +kernel
theorem dX6_stand_24 : decode cX6_stand 24 = .ok (.aload_n 0, 1) := by decide +kernel
theorem dX6_stand_25 : decode cX6_stand 25 = .ok (.getfield 40, 3) := by decide +kernel
theorem dX6_stand_28 : decode cX6_stand 28 = .ok (.getfield 105, 3) := by decide +kernel
theorem dX6_stand_31 : decode cX6_stand 31 = .ok (.astore_n 3, 1) := by decide +kernel
theorem dX6_stand_32 : decode cX6_stand 32 = .ok (.aload_n 3, 1) := by decide +kernel
theorem dX6_stand_33 : decode cX6_stand 33 = .ok (.iload_n 1, 1) := by decide +kernel
theorem dX6_stand_34 : decode cX6_stand 34 = .ok (.invokevirtual 129, 3) := by decide +kernel
theorem dX6_stand_37 : decode cX6_stand 37 = .ok (.ifCond .ne 16, 3) := by decide +kernel
theorem dX6_stand_40 : decode cX6_stand 40 = .ok (.aload_n 3, 1) := by decide +kernel
theorem dX6_stand_41 : decode cX6_stand 41 = .ok (.getfield 123, 3) := by decide +kernel
theorem dX6_stand_44 : decode cX6_stand 44 = .ok (.iload_n 1, 1) := by decide +kernel
theorem dX6_stand_45 : decode cX6_stand 45 = .ok (.iaload, 1) := by decide +kernel
theorem dX6_stand_46 : decode cX6_stand 46 = .ok (.iload_n 2, 1) := by decide +kernel
theorem dX6_stand_47 : decode cX6_stand 47 = .ok (.iadd, 1) := by decide +kernel
theorem dX6_stand_48 : decode cX6_stand 48 = .ok (.bipush 99, 2) := by decide +kernel
theorem dX6_stand_50 : decode cX6_stand 50 = .ok (.if_icmp .le 6, 3) := by decide +kernel
theorem dX6_stand_53 : decode cX6_stand 53 = .ok (.bipush (-2), 2) := by decide +kernel
theorem dX6_stand_55 : decode cX6_stand 55 = .ok (.ireturn, 1) := by decide +kernel
theorem dX6_stand_56 : decode cX6_stand 56 = .ok (.aload_n 0, 1) := by decide +kernel
theorem dX6_stand_57 : decode cX6_stand 57 = .ok (.getfield 40, 3) := by decide +kernel
theorem dX6_stand_60 : decode cX6_stand 60 = .ok (.invokevirtual 156, 3) := by decide +kernel
theorem dX6_stand_63 : decode cX6_stand 63 = .ok (.aload_n 3, 1) := by decide +kernel
theorem dX6_stand_64 : decode cX6_stand 64 = .ok (.getfield 123, 3) := by decide +kernel
theorem dX6_stand_67 : decode cX6_stand 67 = .ok (.iload_n 1, 1) := by decide +kernel
theorem dX6_stand_68 : decode cX6_stand 68 = .ok (.dup2, 1) := by decide +kernel
theorem dX6_stand_69 : decode cX6_stand 69 = .ok (.iaload, 1) := by decide +kernel
theorem dX6_stand_70 : decode cX6_stand 70 = .ok (.iload_n 2, 1) := by decide +kernel
theorem dX6_stand_71 : decode cX6_stand 71 = .ok (.iadd, 1) := by decide +kernel
theorem dX6_stand_72 : decode cX6_stand 72 = .ok (.iastore, 1) := by decide +kernel
theorem dX6_stand_73 : decode cX6_stand 73 = .ok (.aload_n 3, 1) := by decide +kernel
theorem dX6_stand_74 : decode cX6_stand 74 = .ok (.getfield 123, 3) := by decide +kernel
theorem dX6_stand_77 : decode cX6_stand 77 = .ok (.iload_n 1, 1) := by decide +kernel
theorem dX6_stand_78 : decode cX6_stand 78 = .ok (.iaload, 1) := by decide +kernel
theorem dX6_stand_79 : decode cX6_stand 79 = .ok (.ireturn, 1) := by decide +kernel
theorem dX6_change_0 : decode cX6_change 0 = .ok (.aload_n 0, 1) := by decide +kernel
theorem dX6_change_1 : decode cX6_change 1 = .ok (.getfield 53, 3) := by decide +kernel
theorem dX6_change_4 : decode cX6_change 4 = .ok (.iload_n 1, 1) := by decide +kernel
theorem dX6_change_5 : decode cX6_change 5 = .ok (.invokevirtual 102, 3) := by decide +kernel
theorem dX6_change_8 : decode cX6_change 8 = .ok (.ifCond .eq 12, 3) := by decide +kernel
theorem dX6_change_11 : decode cX6_change 11 = .ok (.iload_n 2, 1) := by decide +kernel
theorem dX6_change_12 : decode cX6_change 12 = .ok (.ifCond .lt 8, 3) := by decide +kernel
theorem dX6_change_15 : decode cX6_change 15 = .ok (.iload_n 2, 1) := by decide +kernel
theorem dX6_change_16 : decode cX6_change 16 = .ok (.iconst 2, 1) := by decide +kernel
theorem dX6_change_17 : decode cX6_change 17 = .ok (.if_icmp .le 5, 3) := by decide +kernel
theorem dX6_change_20 : decode cX6_change 20 = .ok (.iconst (-1), 1) := by decide +kernel
theorem dX6_change_21 : decode cX6_change 21 = .ok (.ireturn, 1) := by decide +kernel
theorem dX6_change_22 : decode cX6_change 22 = .ok (.aload_n 0, 1) := by decide +kernel
theorem dX6_change_23 : decode cX6_change 23 = .ok (.getfield 40, 3) := by decide +kernel
theorem dX6_change_26 : decode cX6_change 26 = .ok (.getfield 105, 3) := by decide +kernel
theorem dX6_change_29 : decode cX6_change 29 = .ok (.astore_n 3, 1) := by decide +kernel
theorem dX6_change_30 : decode cX6_change 30 = .ok (.aload_n 3, 1) := by decide +kernel
theorem dX6_change_31 : decode cX6_change 31 = .ok (.iload_n 1, 1) := by decide +kernel
theorem dX6_change_32 : decode cX6_change 32 = .ok (.invokevirtual 129, 3) := by decide +kernel
theorem dX6_change_35 : decode cX6_change 35 = .ok (.ifCond .ne 37, 3) := by decide +kernel
theorem dX6_change_38 : decode cX6_change 38 = .ok (.aload_n 0, 1) := by decide +kernel
theorem dX6_change_39 : decode cX6_change 39 = .ok (.getfield 53, 3) := by decide +kernel
theorem dX6_change_42 : decode cX6_change 42 = .ok (.aload_n 3, 1) := by decide +kernel
theorem dX6_change_43 : decode cX6_change 43 = .ok (.getfield 108, 3) := by decide +kernel
theorem dX6_change_46 : decode cX6_change 46 = .ok (.iload_n 1, 1) := by decide +kernel
theorem dX6_change_47 : decode cX6_change 47 = .ok (.iaload, 1) := by decide +kernel
theorem dX6_change_48 : decode cX6_change 48 = .ok (.invokevirtual 168, 3) := by decide +kernel
theorem dX6_change_51 : decode cX6_change 51 = .ok (.ifCond .eq 21, 3) := by decide +kernel
theorem dX6_change_54 : decode cX6_change 54 = .ok (.aload_n 0, 1) := by decide +kernel
theorem dX6_change_55 : decode cX6_change 55 = .ok (.getfield 53, 3) := by decide +kernel
theorem dX6_change_58 : decode cX6_change 58 = .ok (.aload_n 3, 1) := by decide +kernel
theorem dX6_change_59 : decode cX6_change 59 = .ok (.iload_n 2, 1) := by decide +kernel
theorem dX6_change_60 : decode cX6_change 60 = .ok (.aload_n 3, 1) := by decide +kernel
theorem dX6_change_61 : decode cX6_change 61 = .ok (.getfield 108, 3) := by decide +kernel
theorem dX6_change_64 : decode cX6_change 64 = .ok (.iload_n 1, 1) := by decide +kernel
theorem dX6_change_65 : decode cX6_change 65 = .ok (.iaload, 1) := by decide +kernel
theorem dX6_change_66 : decode cX6_change 66 = .ok (.invokevirtual 171, 3) := by decide +kernel
theorem dX6_change_69 : decode cX6_change 69 = .ok (.ifCond .eq 6, 3) := by decide +kernel
theorem dX6_change_72 : decode cX6_change 72 = .ok (.bipush (-2), 2) := by decide +kernel
theorem dX6_change_74 : decode cX6_change 74 = .ok (.ireturn, 1) := by decide +kernel
theorem dX6_change_75 : decode cX6_change 75 = .ok (.aload_n 0, 1) := by decide +kernel
theorem dX6_change_76 : decode cX6_change 76 = .ok (.getfield 40, 3) := by decide +kernel
theorem dX6_change_79 : decode cX6_change 79 = .ok (.invokevirtual 156, 3) := by decide +kernel
theorem dX6_change_82 : decode cX6_change 82 = .ok (.aload_n 3, 1) := by decide +kernel
theorem dX6_change_83 : decode cX6_change 83 = .ok (.getfield 117, 3) := by decide +kernel
theorem dX6_change_86 : decode cX6_change 86 = .ok (.iload_n 1, 1) := by decide +kernel
theorem dX6_change_87 : decode cX6_change 87 = .ok (.iaload, 1) := by decide +kernel
theorem dX6_change_88 : decode cX6_change 88 = .ok (.istore 4, 2) := by decide +kernel
theorem dX6_change_90 : decode cX6_change 90 = .ok (.aload_n 3, 1) := by decide +kernel
theorem dX6_change_91 : decode cX6_change 91 = .ok (.getfield 117, 3) := by decide +kernel
theorem dX6_change_94 : decode cX6_change 94 = .ok (.iload_n 1, 1) := by decide +kernel
theorem dX6_change_95 : decode cX6_change 95 = .ok (.iload_n 2, 1) := by decide +kernel
theorem dX6_change_96 : decode cX6_change 96 = .ok (.iastore, 1) := by decide +kernel
theorem dX6_change_97 : decode cX6_change 97 = .ok (.iload 4, 2) := by decide +kernel
theorem dX6_change_99 : decode cX6_change 99 = .ok (.ireturn, 1) := by decide +kernel
theorem dX6_undo_0 : decode cX6_undo 0 = .ok (.aload_n 0, 1) := by decide +kernel
theorem dX6_undo_1 : decode cX6_undo 1 = .ok (.getfield 40, 3) := by decide +kernel
theorem dX6_undo_4 : decode cX6_undo 4 = .ok (.invokevirtual 175, 3) := by decide +kernel
theorem dX6_undo_7 : decode cX6_undo 7 = .ok (.ifCond .eq 13, 3) := by decide +kernel
theorem dX6_undo_10 : decode cX6_undo 10 = .ok (.aload_n 0, 1) := by decide +kernel
theorem dX6_undo_11 : decode cX6_undo 11 = .ok (.getfield 40, 3) := by decide +kernel
theorem dX6_undo_14 : decode cX6_undo 14 = .ok (.getfield 179, 3) := by decide +kernel
theorem dX6_undo_17 : decode cX6_undo 17 = .ok (.goto 5, 3) := by decide +kernel
theorem dX6_undo_20 : decode cX6_undo 20 = .ok (.bipush (-2), 2) := by decide +kernel
theorem dX6_undo_22 : decode cX6_undo 22 = .ok (.ireturn, 1) := by decide +kernel
theorem dX6_behind_0 : decode cX6_behind 0 = .ok (.iload_n 1, 1) := by decide +kernel
theorem dX6_behind_1 : decode cX6_behind 1 = .ok (.ifCond .lt 29, 3) := by decide +kernel
theorem dX6_behind_4 : decode cX6_behind 4 = .ok (.iload_n 1, 1) := by decide +kernel
theorem dX6_behind_5 : decode cX6_behind 5 = .ok (.bipush 60, 2) := by decide +kernel
theorem dX6_behind_7 : decode cX6_behind 7 = .ok (.if_icmp .gt 23, 3) := by decide +kernel
theorem dX6_behind_10 : decode cX6_behind 10 = .ok (.aload_n 0, 1) := by decide +kernel
theorem dX6_behind_11 : decode cX6_behind 11 = .ok (.getfield 53, 3) := by decide +kernel
theorem dX6_behind_14 : decode cX6_behind 14 = .ok (.iload_n 2, 1) := by decide +kernel
theorem dX6_behind_15 : decode cX6_behind 15 = .ok (.invokevirtual 102, 3) := by decide +kernel
theorem dX6_behind_18 : decode cX6_behind 18 = .ok (.ifCond .eq 12, 3) := by decide +kernel
theorem dX6_behind_21 : decode cX6_behind 21 = .ok (.iload_n 3, 1) := by decide +kernel
theorem dX6_behind_22 : decode cX6_behind 22 = .ok (.ifCond .lt 8, 3) := by decide +kernel
theorem dX6_behind_25 : decode cX6_behind 25 = .ok (.iload_n 3, 1) := by decide +kernel
theorem dX6_behind_26 : decode cX6_behind 26 = .ok (.iconst 1, 1) := by decide +kernel
theorem dX6_behind_27 : decode cX6_behind 27 = .ok (.if_icmp .le 5, 3) := by decide +kernel
theorem dX6_behind_30 : decode cX6_behind 30 = .ok (.iconst (-1), 1) := by decide +kernel
theorem dX6_behind_31 : decode cX6_behind 31 = .ok (.ireturn, 1) := by decide +kernel
theorem dX6_behind_32 : decode cX6_behind 32 = .ok (.aload_n 0, 1) := by decide +kernel
theorem dX6_behind_33 : decode cX6_behind 33 = .ok (.getfield 33, 3) := by decide +kernel
theorem dX6_behind_36 : decode cX6_behind 36 = .ok (.aload_n 0, 1) := by decide +kernel
theorem dX6_behind_37 : decode cX6_behind 37 = .ok (.getfield 40, 3) := by decide +kernel
theorem dX6_behind_40 : decode cX6_behind 40 = .ok (.getfield 105, 3) := by decide +kernel
theorem dX6_behind_43 : decode cX6_behind 43 = .ok (.invokevirtual 182, 3) := by decide +kernel
theorem dX6_behind_46 : decode cX6_behind 46 = .ok (.iconst 0, 1) := by decide +kernel
theorem dX6_behind_47 : decode cX6_behind 47 = .ok (.istore 4, 2) := by decide +kernel
theorem dX6_behind_49 : decode cX6_behind 49 = .ok (.iload 4, 2) := by decide +kernel
theorem dX6_behind_51 : decode cX6_behind 51 = .ok (.iload_n 1, 1) := by decide +kernel
theorem dX6_behind_52 : decode cX6_behind 52 = .ok (.if_icmp .ge 21, 3) := by decide +kernel
theorem dX6_behind_55 : decode cX6_behind 55 = .ok (.aload_n 0, 1) := by decide +kernel
theorem dX6_behind_56 : decode cX6_behind 56 = .ok (.getfield 53, 3) := by decide +kernel
theorem dX6_behind_59 : decode cX6_behind 59 = .ok (.aload_n 0, 1) := by decide +kernel
theorem dX6_behind_60 : decode cX6_behind 60 = .ok (.getfield 33, 3) := by decide +kernel
theorem dX6_behind_63 : decode cX6_behind 63 = .ok (.invokevirtual 159, 3) := by decide +kernel
theorem dX6_behind_66 : decode cX6_behind 66 = .ok (.pop, 1) := by decide +kernel
theorem dX6_behind_67 : decode cX6_behind 67 = .ok (.iinc 4 1, 3) := by decide +kernel
theorem dX6_behind_70 : decode cX6_behind 70 = .ok (.goto (-21), 3) := by decide +kernel
theorem dX6_behind_73 : decode cX6_behind 73 = .ok (.iload_n 3, 1) := by decide +kernel
theorem dX6_behind_74 : decode cX6_behind 74 = .ok (.ifCond .ne 13, 3) := by decide +kernel
theorem dX6_behind_77 : decode cX6_behind 77 = .ok (.aload_n 0, 1) := by decide +kernel
theorem dX6_behind_78 : decode cX6_behind 78 = .ok (.getfield 33, 3) := by decide +kernel
theorem dX6_behind_81 : decode cX6_behind 81 = .ok (.getfield 108, 3) := by decide +kernel
theorem dX6_behind_84 : decode cX6_behind 84 = .ok (.iload_n 2, 1) := by decide +kernel
theorem dX6_behind_85 : decode cX6_behind 85 = .ok (.iaload, 1) := by decide +kernel
theorem dX6_behind_86 : decode cX6_behind 86 = .ok (.ireturn, 1) := by decide +kernel
theorem dX6_behind_87 : decode cX6_behind 87 = .ok (.aload_n 0, 1) := by decide +kernel
theorem dX6_behind_88 : decode cX6_behind 88 = .ok (.getfield 33, 3) := by decide +kernel
theorem dX6_behind_91 : decode cX6_behind 91 = .ok (.iload_n 2, 1) := by decide +kernel
theorem dX6_behind_92 : decode cX6_behind 92 = .ok (.invokevirtual 129, 3) := by decide +kernel
theorem dX6_behind_95 : decode cX6_behind 95 = .ok (.ifCond .eq 7, 3) := by decide +kernel
theorem dX6_behind_98 : decode cX6_behind 98 = .ok (.iconst 1, 1) := by decide +kernel
theorem dX6_behind_99 : decode cX6_behind 99 = .ok (.goto 4, 3) := by decide +kernel
theorem dX6_behind_102 : decode cX6_behind 102 = .ok (.iconst 0, 1) := by decide +kernel
theorem dX6_behind_103 : decode cX6_behind 103 = .ok (.ireturn, 1) := by decide +kernel
theorem dX6_caught_0 : decode cX6_caught 0 = .ok (.iload_n 1, 1) := by decide +kernel
theorem dX6_caught_1 : decode cX6_caught 1 = .ok (.ifCond .lt 8, 3) := by decide +kernel
theorem dX6_caught_4 : decode cX6_caught 4 = .ok (.iload_n 1, 1) := by decide +kernel
theorem dX6_caught_5 : decode cX6_caught 5 = .ok (.iconst 1, 1) := by decide +kernel
theorem dX6_caught_6 : decode cX6_caught 6 = .ok (.if_icmp .le 5, 3) := by decide +kernel
theorem dX6_caught_9 : decode cX6_caught 9 = .ok (.iconst (-1), 1) := by decide +kernel
theorem dX6_caught_10 : decode cX6_caught 10 = .ok (.ireturn, 1) := by decide +kernel
theorem dX6_caught_11 : decode cX6_caught 11 = .ok (.aload_n 0, 1) := by decide +kernel
theorem dX6_caught_12 : decode cX6_caught 12 = .ok (.getfield 33, 3) := by decide +kernel
theorem dX6_caught_15 : decode cX6_caught 15 = .ok (.aload_n 0, 1) := by decide +kernel
theorem dX6_caught_16 : decode cX6_caught 16 = .ok (.getfield 40, 3) := by decide +kernel
theorem dX6_caught_19 : decode cX6_caught 19 = .ok (.getfield 105, 3) := by decide +kernel
theorem dX6_caught_22 : decode cX6_caught 22 = .ok (.invokevirtual 182, 3) := by decide +kernel
theorem dX6_caught_25 : decode cX6_caught 25 = .ok (.iconst 1, 1) := by decide +kernel
theorem dX6_caught_26 : decode cX6_caught 26 = .ok (.istore_n 2, 1) := by decide +kernel
theorem dX6_caught_27 : decode cX6_caught 27 = .ok (.iload_n 2, 1) := by decide +kernel
theorem dX6_caught_28 : decode cX6_caught 28 = .ok (.bipush 60, 2) := by decide +kernel
theorem dX6_caught_30 : decode cX6_caught 30 = .ok (.if_icmp .gt 59, 3) := by decide +kernel
theorem dX6_caught_33 : decode cX6_caught 33 = .ok (.aload_n 0, 1) := by decide +kernel
theorem dX6_caught_34 : decode cX6_caught 34 = .ok (.getfield 53, 3) := by decide +kernel
theorem dX6_caught_37 : decode cX6_caught 37 = .ok (.aload_n 0, 1) := by decide +kernel
theorem dX6_caught_38 : decode cX6_caught 38 = .ok (.getfield 33, 3) := by decide +kernel
theorem dX6_caught_41 : decode cX6_caught 41 = .ok (.invokevirtual 159, 3) := by decide +kernel
theorem dX6_caught_44 : decode cX6_caught 44 = .ok (.pop, 1) := by decide +kernel
theorem dX6_caught_45 : decode cX6_caught 45 = .ok (.aload_n 0, 1) := by decide +kernel
theorem dX6_caught_46 : decode cX6_caught 46 = .ok (.getfield 33, 3) := by decide +kernel
theorem dX6_caught_49 : decode cX6_caught 49 = .ok (.getfield 144, 3) := by decide +kernel
theorem dX6_caught_52 : decode cX6_caught 52 = .ok (.aload_n 0, 1) := by decide +kernel
theorem dX6_caught_53 : decode cX6_caught 53 = .ok (.getfield 40, 3) := by decide +kernel
theorem dX6_caught_56 : decode cX6_caught 56 = .ok (.getfield 105, 3) := by decide +kernel
theorem dX6_caught_59 : decode cX6_caught 59 = .ok (.getfield 144, 3) := by decide +kernel
theorem dX6_caught_62 : decode cX6_caught 62 = .ok (.iconst (-1), 1) := by decide +kernel
theorem dX6_caught_63 : decode cX6_caught 63 = .ok (.ixor, 1) := by decide +kernel
theorem dX6_caught_64 : decode cX6_caught 64 = .ok (.iand, 1) := by decide +kernel
theorem dX6_caught_65 : decode cX6_caught 65 = .ok (.istore_n 3, 1) := by decide +kernel
theorem dX6_caught_66 : decode cX6_caught 66 = .ok (.iload_n 3, 1) := by decide +kernel
theorem dX6_caught_67 : decode cX6_caught 67 = .ok (.ifCond .eq 16, 3) := by decide +kernel
theorem dX6_caught_70 : decode cX6_caught 70 = .ok (.iload_n 1, 1) := by decide +kernel
theorem dX6_caught_71 : decode cX6_caught 71 = .ok (.ifCond .ne 7, 3) := by decide +kernel
theorem dX6_caught_74 : decode cX6_caught 74 = .ok (.iload_n 2, 1) := by decide +kernel
theorem dX6_caught_75 : decode cX6_caught 75 = .ok (.goto 7, 3) := by decide +kernel
theorem dX6_caught_78 : decode cX6_caught 78 = .ok (.iload_n 3, 1) := by decide +kernel
theorem dX6_caught_79 : decode cX6_caught 79 = .ok (.invokestatic 185, 3) := by decide +kernel
theorem dX6_caught_82 : decode cX6_caught 82 = .ok (.ireturn, 1) := by decide +kernel
theorem dX6_caught_83 : decode cX6_caught 83 = .ok (.iinc 2 1, 3) := by decide +kernel
theorem dX6_caught_86 : decode cX6_caught 86 = .ok (.goto (-59), 3) := by decide +kernel
theorem dX6_caught_89 : decode cX6_caught 89 = .ok (.bipush (-9), 2) := by decide +kernel
theorem dX6_caught_91 : decode cX6_caught 91 = .ok (.ireturn, 1) := by decide +kernel
theorem dX6_waits_0 : decode cX6_waits 0 = .ok (.iload_n 1, 1) := by decide +kernel
theorem dX6_waits_1 : decode cX6_waits 1 = .ok (.ifCond .lt 8, 3) := by decide +kernel
theorem dX6_waits_4 : decode cX6_waits 4 = .ok (.iload_n 1, 1) := by decide +kernel
theorem dX6_waits_5 : decode cX6_waits 5 = .ok (.iconst 1, 1) := by decide +kernel
theorem dX6_waits_6 : decode cX6_waits 6 = .ok (.if_icmp .le 5, 3) := by decide +kernel
theorem dX6_waits_9 : decode cX6_waits 9 = .ok (.iconst (-1), 1) := by decide +kernel
theorem dX6_waits_10 : decode cX6_waits 10 = .ok (.ireturn, 1) := by decide +kernel
theorem dX6_waits_11 : decode cX6_waits 11 = .ok (.aload_n 0, 1) := by decide +kernel
theorem dX6_waits_12 : decode cX6_waits 12 = .ok (.getfield 33, 3) := by decide +kernel
theorem dX6_waits_15 : decode cX6_waits 15 = .ok (.aload_n 0, 1) := by decide +kernel
theorem dX6_waits_16 : decode cX6_waits 16 = .ok (.getfield 40, 3) := by decide +kernel
theorem dX6_waits_19 : decode cX6_waits 19 = .ok (.getfield 105, 3) := by decide +kernel
theorem dX6_waits_22 : decode cX6_waits 22 = .ok (.invokevirtual 182, 3) := by decide +kernel
theorem dX6_waits_25 : decode cX6_waits 25 = .ok (.iconst 1, 1) := by decide +kernel
theorem dX6_waits_26 : decode cX6_waits 26 = .ok (.istore_n 2, 1) := by decide +kernel
theorem dX6_waits_27 : decode cX6_waits 27 = .ok (.iload_n 2, 1) := by decide +kernel
theorem dX6_waits_28 : decode cX6_waits 28 = .ok (.bipush 60, 2) := by decide +kernel
theorem dX6_waits_30 : decode cX6_waits 30 = .ok (.if_icmp .gt 36, 3) := by decide +kernel
theorem dX6_waits_33 : decode cX6_waits 33 = .ok (.aload_n 0, 1) := by decide +kernel
theorem dX6_waits_34 : decode cX6_waits 34 = .ok (.getfield 53, 3) := by decide +kernel
theorem dX6_waits_37 : decode cX6_waits 37 = .ok (.aload_n 0, 1) := by decide +kernel
theorem dX6_waits_38 : decode cX6_waits 38 = .ok (.getfield 33, 3) := by decide +kernel
theorem dX6_waits_41 : decode cX6_waits 41 = .ok (.invokevirtual 159, 3) := by decide +kernel
theorem dX6_waits_44 : decode cX6_waits 44 = .ok (.istore_n 3, 1) := by decide +kernel
theorem dX6_waits_45 : decode cX6_waits 45 = .ok (.iload_n 3, 1) := by decide +kernel
theorem dX6_waits_46 : decode cX6_waits 46 = .ok (.iconst (-1), 1) := by decide +kernel
theorem dX6_waits_47 : decode cX6_waits 47 = .ok (.if_icmp .eq 13, 3) := by decide +kernel
theorem dX6_waits_50 : decode cX6_waits 50 = .ok (.iload_n 1, 1) := by decide +kernel
theorem dX6_waits_51 : decode cX6_waits 51 = .ok (.ifCond .ne 7, 3) := by decide +kernel
theorem dX6_waits_54 : decode cX6_waits 54 = .ok (.iload_n 2, 1) := by decide +kernel
theorem dX6_waits_55 : decode cX6_waits 55 = .ok (.goto 4, 3) := by decide +kernel
theorem dX6_waits_58 : decode cX6_waits 58 = .ok (.iload_n 3, 1) := by decide +kernel
theorem dX6_waits_59 : decode cX6_waits 59 = .ok (.ireturn, 1) := by decide +kernel
theorem dX6_waits_60 : decode cX6_waits 60 = .ok (.iinc 2 1, 3) := by decide +kernel
theorem dX6_waits_63 : decode cX6_waits 63 = .ok (.goto (-36), 3) := by decide +kernel
theorem dX6_waits_66 : decode cX6_waits 66 = .ok (.bipush (-9), 2) := by decide +kernel
theorem dX6_waits_68 : decode cX6_waits 68 = .ok (.ireturn, 1) := by decide +kernel
theorem dX6_stands_0 : decode cX6_stands 0 = .ok (.aload_n 0, 1) := by decide +kernel
theorem dX6_stands_1 : decode cX6_stands 1 = .ok (.getfield 53, 3) := by decide +kernel
theorem dX6_stands_4 : decode cX6_stands 4 = .ok (.iload_n 1, 1) := by decide +kernel
theorem dX6_stands_5 : decode cX6_stands 5 = .ok (.invokevirtual 102, 3) := by decide +kernel
theorem dX6_stands_8 : decode cX6_stands 8 = .ok (.ifCond .ne 5, 3) := by decide +kernel
theorem dX6_stands_11 : decode cX6_stands 11 = .ok (.iconst (-1), 1) := by decide +kernel
theorem dX6_stands_12 : decode cX6_stands 12 = .ok (.ireturn, 1) := by decide +kernel
theorem dX6_stands_13 : decode cX6_stands 13 = .ok (.aload_n 0, 1) := by decide +kernel
theorem dX6_stands_14 : decode cX6_stands 14 = .ok (.getfield 40, 3) := by decide +kernel
theorem dX6_stands_17 : decode cX6_stands 17 = .ok (.getfield 105, 3) := by decide +kernel
theorem dX6_stands_20 : decode cX6_stands 20 = .ok (.iload_n 1, 1) := by decide +kernel
theorem dX6_stands_21 : decode cX6_stands 21 = .ok (.invokevirtual 129, 3) := by decide +kernel
theorem dX6_stands_24 : decode cX6_stands 24 = .ok (.ifCond .eq 6, 3) := by decide +kernel
theorem dX6_stands_27 : decode cX6_stands 27 = .ok (.bipush (-2), 2) := by decide +kernel
theorem dX6_stands_29 : decode cX6_stands 29 = .ok (.ireturn, 1) := by decide +kernel
theorem dX6_stands_30 : decode cX6_stands 30 = .ok (.aload_n 0, 1) := by decide +kernel
theorem dX6_stands_31 : decode cX6_stands 31 = .ok (.getfield 19, 3) := by decide +kernel
theorem dX6_stands_34 : decode cX6_stands 34 = .ok (.invokevirtual 188, 3) := by decide +kernel
theorem dX6_stands_37 : decode cX6_stands 37 = .ok (.bipush 30, 2) := by decide +kernel
theorem dX6_stands_39 : decode cX6_stands 39 = .ok (.bipush 99, 2) := by decide +kernel
theorem dX6_stands_41 : decode cX6_stands 41 = .ok (.aload_n 0, 1) := by decide +kernel
theorem dX6_stands_42 : decode cX6_stands 42 = .ok (.getfield 40, 3) := by decide +kernel
theorem dX6_stands_45 : decode cX6_stands 45 = .ok (.getfield 105, 3) := by decide +kernel
theorem dX6_stands_48 : decode cX6_stands 48 = .ok (.getfield 123, 3) := by decide +kernel
theorem dX6_stands_51 : decode cX6_stands 51 = .ok (.iload_n 1, 1) := by decide +kernel
theorem dX6_stands_52 : decode cX6_stands 52 = .ok (.iaload, 1) := by decide +kernel
theorem dX6_stands_53 : decode cX6_stands 53 = .ok (.isub, 1) := by decide +kernel
theorem dX6_stands_54 : decode cX6_stands 54 = .ok (.invokestatic 191, 3) := by decide +kernel
theorem dX6_stands_57 : decode cX6_stands 57 = .ok (.istore_n 2, 1) := by decide +kernel
theorem dX6_stands_58 : decode cX6_stands 58 = .ok (.iload_n 2, 1) := by decide +kernel
theorem dX6_stands_59 : decode cX6_stands 59 = .ok (.ifCond .lt 45, 3) := by decide +kernel
theorem dX6_stands_62 : decode cX6_stands 62 = .ok (.aload_n 0, 1) := by decide +kernel
theorem dX6_stands_63 : decode cX6_stands 63 = .ok (.getfield 33, 3) := by decide +kernel
theorem dX6_stands_66 : decode cX6_stands 66 = .ok (.aload_n 0, 1) := by decide +kernel
theorem dX6_stands_67 : decode cX6_stands 67 = .ok (.getfield 40, 3) := by decide +kernel
theorem dX6_stands_70 : decode cX6_stands 70 = .ok (.getfield 105, 3) := by decide +kernel
theorem dX6_stands_73 : decode cX6_stands 73 = .ok (.invokevirtual 182, 3) := by decide +kernel
theorem dX6_stands_76 : decode cX6_stands 76 = .ok (.aload_n 0, 1) := by decide +kernel
theorem dX6_stands_77 : decode cX6_stands 77 = .ok (.getfield 33, 3) := by decide +kernel
theorem dX6_stands_80 : decode cX6_stands 80 = .ok (.getfield 123, 3) := by decide +kernel
theorem dX6_stands_83 : decode cX6_stands 83 = .ok (.iload_n 1, 1) := by decide +kernel
theorem dX6_stands_84 : decode cX6_stands 84 = .ok (.dup2, 1) := by decide +kernel
theorem dX6_stands_85 : decode cX6_stands 85 = .ok (.iaload, 1) := by decide +kernel
theorem dX6_stands_86 : decode cX6_stands 86 = .ok (.iload_n 2, 1) := by decide +kernel
theorem dX6_stands_87 : decode cX6_stands 87 = .ok (.iadd, 1) := by decide +kernel
theorem dX6_stands_88 : decode cX6_stands 88 = .ok (.iastore, 1) := by decide +kernel
theorem dX6_stands_89 : decode cX6_stands 89 = .ok (.aload_n 0, 1) := by decide +kernel
theorem dX6_stands_90 : decode cX6_stands 90 = .ok (.invokevirtual 196, 3) := by decide +kernel
theorem dX6_stands_93 : decode cX6_stands 93 = .ok (.ifCond .eq 5, 3) := by decide +kernel
theorem dX6_stands_96 : decode cX6_stands 96 = .ok (.iload_n 2, 1) := by decide +kernel
theorem dX6_stands_97 : decode cX6_stands 97 = .ok (.ireturn, 1) := by decide +kernel
theorem dX6_stands_98 : decode cX6_stands 98 = .ok (.iinc 2 (-1), 3) := by decide +kernel
theorem dX6_stands_101 : decode cX6_stands 101 = .ok (.goto (-43), 3) := by decide +kernel
theorem dX6_stands_104 : decode cX6_stands 104 = .ok (.bipush (-9), 2) := by decide +kernel
theorem dX6_stands_106 : decode cX6_stands 106 = .ok (.ireturn, 1) := by decide +kernel
theorem dX6_starts_0 : decode cX6_starts 0 = .ok (.iload_n 1, 1) := by decide +kernel
theorem dX6_starts_1 : decode cX6_starts 1 = .ok (.iconst (-1), 1) := by decide +kernel
theorem dX6_starts_2 : decode cX6_starts 2 = .ok (.if_icmp .eq 16, 3) := by decide +kernel
theorem dX6_starts_5 : decode cX6_starts 5 = .ok (.aload_n 0, 1) := by decide +kernel
theorem dX6_starts_6 : decode cX6_starts 6 = .ok (.getfield 53, 3) := by decide +kernel
theorem dX6_starts_9 : decode cX6_starts 9 = .ok (.iload_n 1, 1) := by decide +kernel
theorem dX6_starts_10 : decode cX6_starts 10 = .ok (.invokevirtual 102, 3) := by decide +kernel
theorem dX6_starts_13 : decode cX6_starts 13 = .ok (.ifCond .ne 5, 3) := by decide +kernel
theorem dX6_starts_16 : decode cX6_starts 16 = .ok (.iconst (-1), 1) := by decide +kernel
theorem dX6_starts_17 : decode cX6_starts 17 = .ok (.ireturn, 1) := by decide +kernel
theorem dX6_starts_18 : decode cX6_starts 18 = .ok (.aload_n 0, 1) := by decide +kernel
theorem dX6_starts_19 : decode cX6_starts 19 = .ok (.getfield 19, 3) := by decide +kernel
theorem dX6_starts_22 : decode cX6_starts 22 = .ok (.aload_n 0, 1) := by decide +kernel
theorem dX6_starts_23 : decode cX6_starts 23 = .ok (.getfield 53, 3) := by decide +kernel
theorem dX6_starts_26 : decode cX6_starts 26 = .ok (.aload_n 0, 1) := by decide +kernel
theorem dX6_starts_27 : decode cX6_starts 27 = .ok (.getfield 40, 3) := by decide +kernel
theorem dX6_starts_30 : decode cX6_starts 30 = .ok (.getfield 105, 3) := by decide +kernel
theorem dX6_starts_33 : decode cX6_starts 33 = .ok (.invokevirtual 199, 3) := by decide +kernel
theorem dX6_starts_36 : decode cX6_starts 36 = .ok (.aload_n 0, 1) := by decide +kernel
theorem dX6_starts_37 : decode cX6_starts 37 = .ok (.invokevirtual 203, 3) := by decide +kernel
theorem dX6_starts_40 : decode cX6_starts 40 = .ok (.ifCond .ne 6, 3) := by decide +kernel
theorem dX6_starts_43 : decode cX6_starts 43 = .ok (.bipush (-9), 2) := by decide +kernel
theorem dX6_starts_45 : decode cX6_starts 45 = .ok (.ireturn, 1) := by decide +kernel
theorem dX6_starts_46 : decode cX6_starts 46 = .ok (.iload_n 1, 1) := by decide +kernel
theorem dX6_starts_47 : decode cX6_starts 47 = .ok (.iconst (-1), 1) := by decide +kernel
theorem dX6_starts_48 : decode cX6_starts 48 = .ok (.if_icmp .ne 13, 3) := by decide +kernel
theorem dX6_starts_51 : decode cX6_starts 51 = .ok (.aload_n 0, 1) := by decide +kernel
theorem dX6_starts_52 : decode cX6_starts 52 = .ok (.getfield 19, 3) := by decide +kernel
theorem dX6_starts_55 : decode cX6_starts 55 = .ok (.invokevirtual 206, 3) := by decide +kernel
theorem dX6_starts_58 : decode cX6_starts 58 = .ok (.goto 11, 3) := by decide +kernel
theorem dX6_starts_61 : decode cX6_starts 61 = .ok (.aload_n 0, 1) := by decide +kernel
theorem dX6_starts_62 : decode cX6_starts 62 = .ok (.getfield 19, 3) := by decide +kernel
theorem dX6_starts_65 : decode cX6_starts 65 = .ok (.iload_n 1, 1) := by decide +kernel
theorem dX6_starts_66 : decode cX6_starts 66 = .ok (.invokevirtual 210, 3) := by decide +kernel
theorem dX6_starts_69 : decode cX6_starts 69 = .ok (.ireturn, 1) := by decide +kernel
theorem dX6_bars_0 : decode cX6_bars 0 = .ok (.aload_n 0, 1) := by decide +kernel
theorem dX6_bars_1 : decode cX6_bars 1 = .ok (.getfield 19, 3) := by decide +kernel
theorem dX6_bars_4 : decode cX6_bars 4 = .ok (.aload_n 0, 1) := by decide +kernel
theorem dX6_bars_5 : decode cX6_bars 5 = .ok (.getfield 53, 3) := by decide +kernel
theorem dX6_bars_8 : decode cX6_bars 8 = .ok (.aload_n 0, 1) := by decide +kernel
theorem dX6_bars_9 : decode cX6_bars 9 = .ok (.getfield 40, 3) := by decide +kernel
theorem dX6_bars_12 : decode cX6_bars 12 = .ok (.getfield 105, 3) := by decide +kernel
theorem dX6_bars_15 : decode cX6_bars 15 = .ok (.invokevirtual 199, 3) := by decide +kernel
theorem dX6_bars_18 : decode cX6_bars 18 = .ok (.aload_n 0, 1) := by decide +kernel
theorem dX6_bars_19 : decode cX6_bars 19 = .ok (.invokevirtual 203, 3) := by decide +kernel
theorem dX6_bars_22 : decode cX6_bars 22 = .ok (.ifCond .eq 6, 3) := by decide +kernel
theorem dX6_bars_25 : decode cX6_bars 25 = .ok (.bipush (-9), 2) := by decide +kernel
theorem dX6_bars_27 : decode cX6_bars 27 = .ok (.ireturn, 1) := by decide +kernel
theorem dX6_bars_28 : decode cX6_bars 28 = .ok (.iconst 0, 1) := by decide +kernel
theorem dX6_bars_29 : decode cX6_bars 29 = .ok (.istore_n 1, 1) := by decide +kernel
theorem dX6_bars_30 : decode cX6_bars 30 = .ok (.iload_n 1, 1) := by decide +kernel
theorem dX6_bars_31 : decode cX6_bars 31 = .ok (.aload_n 0, 1) := by decide +kernel
theorem dX6_bars_32 : decode cX6_bars 32 = .ok (.getfield 19, 3) := by decide +kernel
theorem dX6_bars_35 : decode cX6_bars 35 = .ok (.getfield 213, 3) := by decide +kernel
theorem dX6_bars_38 : decode cX6_bars 38 = .ok (.if_icmp .ge 39, 3) := by decide +kernel
theorem dX6_bars_41 : decode cX6_bars 41 = .ok (.iload_n 1, 1) := by decide +kernel
theorem dX6_bars_42 : decode cX6_bars 42 = .ok (.iconst 3, 1) := by decide +kernel
theorem dX6_bars_43 : decode cX6_bars 43 = .ok (.if_icmp .ge 34, 3) := by decide +kernel
theorem dX6_bars_46 : decode cX6_bars 46 = .ok (.aload_n 0, 1) := by decide +kernel
theorem dX6_bars_47 : decode cX6_bars 47 = .ok (.getfield 19, 3) := by decide +kernel
theorem dX6_bars_50 : decode cX6_bars 50 = .ok (.iload_n 1, 1) := by decide +kernel
theorem dX6_bars_51 : decode cX6_bars 51 = .ok (.putfield 216, 3) := by decide +kernel
theorem dX6_bars_54 : decode cX6_bars 54 = .ok (.aload_n 0, 1) := by decide +kernel
theorem dX6_bars_55 : decode cX6_bars 55 = .ok (.invokevirtual 203, 3) := by decide +kernel
theorem dX6_bars_58 : decode cX6_bars 58 = .ok (.ifCond .eq 13, 3) := by decide +kernel
theorem dX6_bars_61 : decode cX6_bars 61 = .ok (.aload_n 0, 1) := by decide +kernel
theorem dX6_bars_62 : decode cX6_bars 62 = .ok (.getfield 19, 3) := by decide +kernel
theorem dX6_bars_65 : decode cX6_bars 65 = .ok (.getfield 219, 3) := by decide +kernel
theorem dX6_bars_68 : decode cX6_bars 68 = .ok (.iload_n 1, 1) := by decide +kernel
theorem dX6_bars_69 : decode cX6_bars 69 = .ok (.iaload, 1) := by decide +kernel
theorem dX6_bars_70 : decode cX6_bars 70 = .ok (.ireturn, 1) := by decide +kernel
theorem dX6_bars_71 : decode cX6_bars 71 = .ok (.iinc 1 1, 3) := by decide +kernel
theorem dX6_bars_74 : decode cX6_bars 74 = .ok (.goto (-44), 3) := by decide +kernel
theorem dX6_bars_77 : decode cX6_bars 77 = .ok (.bipush (-9), 2) := by decide +kernel
theorem dX6_bars_79 : decode cX6_bars 79 = .ok (.ireturn, 1) := by decide +kernel
theorem dX6_pieces_0 : decode cX6_pieces 0 = .ok (.iload_n 1, 1) := by decide +kernel
theorem dX6_pieces_1 : decode cX6_pieces 1 = .ok (.ifCond .lt 18, 3) := by decide +kernel
theorem dX6_pieces_4 : decode cX6_pieces 4 = .ok (.iload_n 1, 1) := by decide +kernel
theorem dX6_pieces_5 : decode cX6_pieces 5 = .ok (.iconst 2, 1) := by decide +kernel
theorem dX6_pieces_6 : decode cX6_pieces 6 = .ok (.if_icmp .gt 13, 3) := by decide +kernel
theorem dX6_pieces_9 : decode cX6_pieces 9 = .ok (.iload_n 2, 1) := by decide +kernel
theorem dX6_pieces_10 : decode cX6_pieces 10 = .ok (.ifCond .lt 9, 3) := by decide +kernel
theorem dX6_pieces_13 : decode cX6_pieces 13 = .ok (.iload_n 2, 1) := by decide +kernel
theorem dX6_pieces_14 : decode cX6_pieces 14 = .ok (.bipush 60, 2) := by decide +kernel
theorem dX6_pieces_16 : decode cX6_pieces 16 = .ok (.if_icmp .le 5, 3) := by decide +kernel
theorem dX6_pieces_19 : decode cX6_pieces 19 = .ok (.iconst (-1), 1) := by decide +kernel
theorem dX6_pieces_20 : decode cX6_pieces 20 = .ok (.ireturn, 1) := by decide +kernel
theorem dX6_pieces_21 : decode cX6_pieces 21 = .ok (.aload_n 0, 1) := by decide +kernel
theorem dX6_pieces_22 : decode cX6_pieces 22 = .ok (.getfield 33, 3) := by decide +kernel
theorem dX6_pieces_25 : decode cX6_pieces 25 = .ok (.aload_n 0, 1) := by decide +kernel
theorem dX6_pieces_26 : decode cX6_pieces 26 = .ok (.getfield 40, 3) := by decide +kernel
theorem dX6_pieces_29 : decode cX6_pieces 29 = .ok (.getfield 105, 3) := by decide +kernel
theorem dX6_pieces_32 : decode cX6_pieces 32 = .ok (.invokevirtual 182, 3) := by decide +kernel
theorem dX6_pieces_35 : decode cX6_pieces 35 = .ok (.aload_n 0, 1) := by decide +kernel
theorem dX6_pieces_36 : decode cX6_pieces 36 = .ok (.getfield 53, 3) := by decide +kernel
theorem dX6_pieces_39 : decode cX6_pieces 39 = .ok (.aload_n 0, 1) := by decide +kernel
theorem dX6_pieces_40 : decode cX6_pieces 40 = .ok (.getfield 33, 3) := by decide +kernel
theorem dX6_pieces_43 : decode cX6_pieces 43 = .ok (.iload_n 1, 1) := by decide +kernel
theorem dX6_pieces_44 : decode cX6_pieces 44 = .ok (.invokevirtual 222, 3) := by decide +kernel
theorem dX6_pieces_47 : decode cX6_pieces 47 = .ok (.istore_n 3, 1) := by decide +kernel
theorem dX6_pieces_48 : decode cX6_pieces 48 = .ok (.iconst 0, 1) := by decide +kernel
theorem dX6_pieces_49 : decode cX6_pieces 49 = .ok (.istore 4, 2) := by decide +kernel
theorem dX6_pieces_51 : decode cX6_pieces 51 = .ok (.iload 4, 2) := by decide +kernel
theorem dX6_pieces_53 : decode cX6_pieces 53 = .ok (.iload_n 2, 1) := by decide +kernel
theorem dX6_pieces_54 : decode cX6_pieces 54 = .ok (.if_icmp .ge 38, 3) := by decide +kernel
theorem dX6_pieces_57 : decode cX6_pieces 57 = .ok (.aload_n 0, 1) := by decide +kernel
theorem dX6_pieces_58 : decode cX6_pieces 58 = .ok (.getfield 53, 3) := by decide +kernel
theorem dX6_pieces_61 : decode cX6_pieces 61 = .ok (.aload_n 0, 1) := by decide +kernel
theorem dX6_pieces_62 : decode cX6_pieces 62 = .ok (.getfield 33, 3) := by decide +kernel
theorem dX6_pieces_65 : decode cX6_pieces 65 = .ok (.invokevirtual 159, 3) := by decide +kernel
theorem dX6_pieces_68 : decode cX6_pieces 68 = .ok (.pop, 1) := by decide +kernel
theorem dX6_pieces_69 : decode cX6_pieces 69 = .ok (.iload_n 3, 1) := by decide +kernel
theorem dX6_pieces_70 : decode cX6_pieces 70 = .ok (.aload_n 0, 1) := by decide +kernel
theorem dX6_pieces_71 : decode cX6_pieces 71 = .ok (.getfield 53, 3) := by decide +kernel
theorem dX6_pieces_74 : decode cX6_pieces 74 = .ok (.aload_n 0, 1) := by decide +kernel
theorem dX6_pieces_75 : decode cX6_pieces 75 = .ok (.getfield 33, 3) := by decide +kernel
theorem dX6_pieces_78 : decode cX6_pieces 78 = .ok (.iload_n 1, 1) := by decide +kernel
theorem dX6_pieces_79 : decode cX6_pieces 79 = .ok (.invokevirtual 222, 3) := by decide +kernel
theorem dX6_pieces_82 : decode cX6_pieces 82 = .ok (.invokestatic 226, 3) := by decide +kernel
theorem dX6_pieces_85 : decode cX6_pieces 85 = .ok (.istore_n 3, 1) := by decide +kernel
theorem dX6_pieces_86 : decode cX6_pieces 86 = .ok (.iinc 4 1, 3) := by decide +kernel
theorem dX6_pieces_89 : decode cX6_pieces 89 = .ok (.goto (-38), 3) := by decide +kernel
theorem dX6_pieces_92 : decode cX6_pieces 92 = .ok (.iload_n 3, 1) := by decide +kernel
theorem dX6_pieces_93 : decode cX6_pieces 93 = .ok (.ireturn, 1) := by decide +kernel
theorem dX6_met_0 : decode cX6_met 0 = .ok (.aload_n 0, 1) := by decide +kernel
theorem dX6_met_1 : decode cX6_met 1 = .ok (.getfield 53, 3) := by decide +kernel
theorem dX6_met_4 : decode cX6_met 4 = .ok (.iload_n 1, 1) := by decide +kernel
theorem dX6_met_5 : decode cX6_met 5 = .ok (.invokevirtual 89, 3) := by decide +kernel
theorem dX6_met_8 : decode cX6_met 8 = .ok (.ifCond .eq 13, 3) := by decide +kernel
theorem dX6_met_11 : decode cX6_met 11 = .ok (.iload_n 2, 1) := by decide +kernel
theorem dX6_met_12 : decode cX6_met 12 = .ok (.ifCond .lt 9, 3) := by decide +kernel
theorem dX6_met_15 : decode cX6_met 15 = .ok (.iload_n 2, 1) := by decide +kernel
theorem dX6_met_16 : decode cX6_met 16 = .ok (.bipush 99, 2) := by decide +kernel
theorem dX6_met_18 : decode cX6_met 18 = .ok (.if_icmp .le 5, 3) := by decide +kernel
theorem dX6_met_21 : decode cX6_met 21 = .ok (.iconst (-1), 1) := by decide +kernel
theorem dX6_met_22 : decode cX6_met 22 = .ok (.ireturn, 1) := by decide +kernel
theorem dX6_met_23 : decode cX6_met 23 = .ok (.aload_n 0, 1) := by decide +kernel
theorem dX6_met_24 : decode cX6_met 24 = .ok (.getfield 33, 3) := by decide +kernel
theorem dX6_met_27 : decode cX6_met 27 = .ok (.aload_n 0, 1) := by decide +kernel
theorem dX6_met_28 : decode cX6_met 28 = .ok (.getfield 53, 3) := by decide +kernel
theorem dX6_met_31 : decode cX6_met 31 = .ok (.getfield 78, 3) := by decide +kernel
theorem dX6_met_34 : decode cX6_met 34 = .ok (.invokevirtual 182, 3) := by decide +kernel
theorem dX6_met_37 : decode cX6_met 37 = .ok (.iconst 0, 1) := by decide +kernel
theorem dX6_met_38 : decode cX6_met 38 = .ok (.istore_n 3, 1) := by decide +kernel
theorem dX6_met_39 : decode cX6_met 39 = .ok (.iload_n 3, 1) := by decide +kernel
theorem dX6_met_40 : decode cX6_met 40 = .ok (.iload_n 2, 1) := by decide +kernel
theorem dX6_met_41 : decode cX6_met 41 = .ok (.if_icmp .ge 21, 3) := by decide +kernel
theorem dX6_met_44 : decode cX6_met 44 = .ok (.aload_n 0, 1) := by decide +kernel
theorem dX6_met_45 : decode cX6_met 45 = .ok (.getfield 53, 3) := by decide +kernel
theorem dX6_met_48 : decode cX6_met 48 = .ok (.aload_n 0, 1) := by decide +kernel
theorem dX6_met_49 : decode cX6_met 49 = .ok (.getfield 33, 3) := by decide +kernel
theorem dX6_met_52 : decode cX6_met 52 = .ok (.invokevirtual 159, 3) := by decide +kernel
theorem dX6_met_55 : decode cX6_met 55 = .ok (.pop, 1) := by decide +kernel
theorem dX6_met_56 : decode cX6_met 56 = .ok (.iinc 3 1, 3) := by decide +kernel
theorem dX6_met_59 : decode cX6_met 59 = .ok (.goto (-20), 3) := by decide +kernel
theorem dX6_met_62 : decode cX6_met 62 = .ok (.aload_n 0, 1) := by decide +kernel
theorem dX6_met_63 : decode cX6_met 63 = .ok (.getfield 53, 3) := by decide +kernel
theorem dX6_met_66 : decode cX6_met 66 = .ok (.aload_n 0, 1) := by decide +kernel
theorem dX6_met_67 : decode cX6_met 67 = .ok (.getfield 33, 3) := by decide +kernel
theorem dX6_met_70 : decode cX6_met 70 = .ok (.iload_n 1, 1) := by decide +kernel
theorem dX6_met_71 : decode cX6_met 71 = .ok (.invokevirtual 229, 3) := by decide +kernel
theorem dX6_met_74 : decode cX6_met 74 = .ok (.aload_n 0, 1) := by decide +kernel
theorem dX6_met_75 : decode cX6_met 75 = .ok (.getfield 33, 3) := by decide +kernel
theorem dX6_met_78 : decode cX6_met 78 = .ok (.getfield 144, 3) := by decide +kernel
theorem dX6_met_81 : decode cX6_met 81 = .ok (.iconst (-1), 1) := by decide +kernel
theorem dX6_met_82 : decode cX6_met 82 = .ok (.ixor, 1) := by decide +kernel
theorem dX6_met_83 : decode cX6_met 83 = .ok (.iand, 1) := by decide +kernel
theorem dX6_met_84 : decode cX6_met 84 = .ok (.ireturn, 1) := by decide +kernel
theorem dX6_odds_0 : decode cX6_odds 0 = .ok (.aload_n 0, 1) := by decide +kernel
theorem dX6_odds_1 : decode cX6_odds 1 = .ok (.iload_n 1, 1) := by decide +kernel
theorem dX6_odds_2 : decode cX6_odds 2 = .ok (.iload_n 2, 1) := by decide +kernel
theorem dX6_odds_3 : decode cX6_odds 3 = .ok (.iload_n 3, 1) := by decide +kernel
theorem dX6_odds_4 : decode cX6_odds 4 = .ok (.invokevirtual 232, 3) := by decide +kernel
theorem dX6_odds_7 : decode cX6_odds 7 = .ok (.ifCond .eq 14, 3) := by decide +kernel
theorem dX6_odds_10 : decode cX6_odds 10 = .ok (.iload 4, 2) := by decide +kernel
theorem dX6_odds_12 : decode cX6_odds 12 = .ok (.ifCond .lt 9, 3) := by decide +kernel
theorem dX6_odds_15 : decode cX6_odds 15 = .ok (.iload 4, 2) := by decide +kernel
theorem dX6_odds_17 : decode cX6_odds 17 = .ok (.iconst 1, 1) := by decide +kernel
theorem dX6_odds_18 : decode cX6_odds 18 = .ok (.if_icmp .le 7, 3) := by decide +kernel
theorem dX6_odds_21 : decode cX6_odds 21 = .ok (.ldc2_w 236, 3) := by decide +kernel
theorem dX6_odds_24 : decode cX6_odds 24 = .ok (.lreturn, 1) := by decide +kernel
theorem dX6_odds_25 : decode cX6_odds 25 = .ok (.aload_n 0, 1) := by decide +kernel
theorem dX6_odds_26 : decode cX6_odds 26 = .ok (.getfield 40, 3) := by decide +kernel
theorem dX6_odds_29 : decode cX6_odds 29 = .ok (.getfield 105, 3) := by decide +kernel
theorem dX6_odds_32 : decode cX6_odds 32 = .ok (.iload_n 1, 1) := by decide +kernel
theorem dX6_odds_33 : decode cX6_odds 33 = .ok (.invokevirtual 129, 3) := by decide +kernel
theorem dX6_odds_36 : decode cX6_odds 36 = .ok (.ifCond .eq 7, 3) := by decide +kernel
theorem dX6_odds_39 : decode cX6_odds 39 = .ok (.ldc2_w 238, 3) := by decide +kernel
theorem dX6_odds_42 : decode cX6_odds 42 = .ok (.lreturn, 1) := by decide +kernel
theorem dX6_odds_43 : decode cX6_odds 43 = .ok (.aload_n 0, 1) := by decide +kernel
theorem dX6_odds_44 : decode cX6_odds 44 = .ok (.getfield 26, 3) := by decide +kernel
theorem dX6_odds_47 : decode cX6_odds 47 = .ok (.aload_n 0, 1) := by decide +kernel
theorem dX6_odds_48 : decode cX6_odds 48 = .ok (.getfield 53, 3) := by decide +kernel
theorem dX6_odds_51 : decode cX6_odds 51 = .ok (.aload_n 0, 1) := by decide +kernel
theorem dX6_odds_52 : decode cX6_odds 52 = .ok (.getfield 40, 3) := by decide +kernel
theorem dX6_odds_55 : decode cX6_odds 55 = .ok (.getfield 105, 3) := by decide +kernel
theorem dX6_odds_58 : decode cX6_odds 58 = .ok (.iload_n 1, 1) := by decide +kernel
theorem dX6_odds_59 : decode cX6_odds 59 = .ok (.invokevirtual 240, 3) := by decide +kernel
theorem dX6_odds_62 : decode cX6_odds 62 = .ok (.aload_n 0, 1) := by decide +kernel
theorem dX6_odds_63 : decode cX6_odds 63 = .ok (.getfield 26, 3) := by decide +kernel
theorem dX6_odds_66 : decode cX6_odds 66 = .ok (.aload_n 0, 1) := by decide +kernel
theorem dX6_odds_67 : decode cX6_odds 67 = .ok (.getfield 53, 3) := by decide +kernel
theorem dX6_odds_70 : decode cX6_odds 70 = .ok (.iload_n 2, 1) := by decide +kernel
theorem dX6_odds_71 : decode cX6_odds 71 = .ok (.iload_n 3, 1) := by decide +kernel
theorem dX6_odds_72 : decode cX6_odds 72 = .ok (.aload_n 0, 1) := by decide +kernel
theorem dX6_odds_73 : decode cX6_odds 73 = .ok (.getfield 53, 3) := by decide +kernel
theorem dX6_odds_76 : decode cX6_odds 76 = .ok (.getfield 141, 3) := by decide +kernel
theorem dX6_odds_79 : decode cX6_odds 79 = .ok (.invokevirtual 244, 3) := by decide +kernel
theorem dX6_odds_82 : decode cX6_odds 82 = .ok (.lstore 5, 2) := by decide +kernel
theorem dX6_odds_84 : decode cX6_odds 84 = .ok (.iload_n 3, 1) := by decide +kernel
theorem dX6_odds_85 : decode cX6_odds 85 = .ok (.invokestatic 248, 3) := by decide +kernel
theorem dX6_odds_88 : decode cX6_odds 88 = .ok (.lstore 7, 2) := by decide +kernel
theorem dX6_odds_90 : decode cX6_odds 90 = .ok (.lconst 1, 1) := by decide +kernel
theorem dX6_odds_91 : decode cX6_odds 91 = .ok (.lload 7, 2) := by decide +kernel
theorem dX6_odds_93 : decode cX6_odds 93 = .ok (.lload 5, 2) := by decide +kernel
theorem dX6_odds_95 : decode cX6_odds 95 = .ok (.invokestatic 252, 3) := by decide +kernel
theorem dX6_odds_98 : decode cX6_odds 98 = .ok (.invokestatic 256, 3) := by decide +kernel
theorem dX6_odds_101 : decode cX6_odds 101 = .ok (.lstore 9, 2) := by decide +kernel
theorem dX6_odds_103 : decode cX6_odds 103 = .ok (.iload 4, 2) := by decide +kernel
theorem dX6_odds_105 : decode cX6_odds 105 = .ok (.ifCond .ne 8, 3) := by decide +kernel
theorem dX6_odds_108 : decode cX6_odds 108 = .ok (.lload 5, 2) := by decide +kernel
theorem dX6_odds_110 : decode cX6_odds 110 = .ok (.goto 5, 3) := by decide +kernel
theorem dX6_odds_113 : decode cX6_odds 113 = .ok (.lload 7, 2) := by decide +kernel
theorem dX6_odds_115 : decode cX6_odds 115 = .ok (.lload 9, 2) := by decide +kernel
theorem dX6_odds_117 : decode cX6_odds 117 = .ok (.ldiv, 1) := by decide +kernel
theorem dX6_odds_118 : decode cX6_odds 118 = .ok (.lreturn, 1) := by decide +kernel
theorem dX6_keepAhead_0 : decode cX6_keepAhead 0 = .ok (.aload_n 0, 1) := by decide +kernel
theorem dX6_keepAhead_1 : decode cX6_keepAhead 1 = .ok (.iload_n 1, 1) := by decide +kernel
theorem dX6_keepAhead_2 : decode cX6_keepAhead 2 = .ok (.iload_n 2, 1) := by decide +kernel
theorem dX6_keepAhead_3 : decode cX6_keepAhead 3 = .ok (.iload_n 3, 1) := by decide +kernel
theorem dX6_keepAhead_4 : decode cX6_keepAhead 4 = .ok (.invokevirtual 232, 3) := by decide +kernel
theorem dX6_keepAhead_7 : decode cX6_keepAhead 7 = .ok (.ifCond .eq 15, 3) := by decide +kernel
theorem dX6_keepAhead_10 : decode cX6_keepAhead 10 = .ok (.iload 4, 2) := by decide +kernel
theorem dX6_keepAhead_12 : decode cX6_keepAhead 12 = .ok (.ifCond .lt 10, 3) := by decide +kernel
theorem dX6_keepAhead_15 : decode cX6_keepAhead 15 = .ok (.iload 4, 2) := by decide +kernel
theorem dX6_keepAhead_17 : decode cX6_keepAhead 17 = .ok (.bipush 10, 2) := by decide +kernel
theorem dX6_keepAhead_19 : decode cX6_keepAhead 19 = .ok (.if_icmp .le 5, 3) := by decide +kernel
theorem dX6_keepAhead_22 : decode cX6_keepAhead 22 = .ok (.iconst (-1), 1) := by decide +kernel
theorem dX6_keepAhead_23 : decode cX6_keepAhead 23 = .ok (.ireturn, 1) := by decide +kernel
theorem dX6_keepAhead_24 : decode cX6_keepAhead 24 = .ok (.aload_n 0, 1) := by decide +kernel
theorem dX6_keepAhead_25 : decode cX6_keepAhead 25 = .ok (.getfield 40, 3) := by decide +kernel
theorem dX6_keepAhead_28 : decode cX6_keepAhead 28 = .ok (.getfield 105, 3) := by decide +kernel
theorem dX6_keepAhead_31 : decode cX6_keepAhead 31 = .ok (.iload_n 1, 1) := by decide +kernel
theorem dX6_keepAhead_32 : decode cX6_keepAhead 32 = .ok (.invokevirtual 129, 3) := by decide +kernel
theorem dX6_keepAhead_35 : decode cX6_keepAhead 35 = .ok (.ifCond .eq 6, 3) := by decide +kernel
theorem dX6_keepAhead_38 : decode cX6_keepAhead 38 = .ok (.bipush (-2), 2) := by decide +kernel
theorem dX6_keepAhead_40 : decode cX6_keepAhead 40 = .ok (.ireturn, 1) := by decide +kernel
theorem dX6_keepAhead_41 : decode cX6_keepAhead 41 = .ok (.aload_n 0, 1) := by decide +kernel
theorem dX6_keepAhead_42 : decode cX6_keepAhead 42 = .ok (.getfield 26, 3) := by decide +kernel
theorem dX6_keepAhead_45 : decode cX6_keepAhead 45 = .ok (.aload_n 0, 1) := by decide +kernel
theorem dX6_keepAhead_46 : decode cX6_keepAhead 46 = .ok (.getfield 53, 3) := by decide +kernel
theorem dX6_keepAhead_49 : decode cX6_keepAhead 49 = .ok (.aload_n 0, 1) := by decide +kernel
theorem dX6_keepAhead_50 : decode cX6_keepAhead 50 = .ok (.getfield 40, 3) := by decide +kernel
theorem dX6_keepAhead_53 : decode cX6_keepAhead 53 = .ok (.getfield 105, 3) := by decide +kernel
theorem dX6_keepAhead_56 : decode cX6_keepAhead 56 = .ok (.iload_n 1, 1) := by decide +kernel
theorem dX6_keepAhead_57 : decode cX6_keepAhead 57 = .ok (.invokevirtual 240, 3) := by decide +kernel
theorem dX6_keepAhead_60 : decode cX6_keepAhead 60 = .ok (.iload 4, 2) := by decide +kernel
theorem dX6_keepAhead_62 : decode cX6_keepAhead 62 = .ok (.i2l, 1) := by decide +kernel
theorem dX6_keepAhead_63 : decode cX6_keepAhead 63 = .ok (.iload_n 3, 1) := by decide +kernel
theorem dX6_keepAhead_64 : decode cX6_keepAhead 64 = .ok (.invokestatic 248, 3) := by decide +kernel
theorem dX6_keepAhead_67 : decode cX6_keepAhead 67 = .ok (.lmul, 1) := by decide +kernel
theorem dX6_keepAhead_68 : decode cX6_keepAhead 68 = .ok (.lstore 5, 2) := by decide +kernel
theorem dX6_keepAhead_70 : decode cX6_keepAhead 70 = .ok (.bipush 20, 2) := by decide +kernel
theorem dX6_keepAhead_72 : decode cX6_keepAhead 72 = .ok (.istore 7, 2) := by decide +kernel
theorem dX6_keepAhead_74 : decode cX6_keepAhead 74 = .ok (.iload 7, 2) := by decide +kernel
theorem dX6_keepAhead_76 : decode cX6_keepAhead 76 = .ok (.ifCond .lt 45, 3) := by decide +kernel
theorem dX6_keepAhead_79 : decode cX6_keepAhead 79 = .ok (.ldc2_w 258, 3) := by decide +kernel
theorem dX6_keepAhead_82 : decode cX6_keepAhead 82 = .ok (.aload_n 0, 1) := by decide +kernel
theorem dX6_keepAhead_83 : decode cX6_keepAhead 83 = .ok (.getfield 26, 3) := by decide +kernel
theorem dX6_keepAhead_86 : decode cX6_keepAhead 86 = .ok (.aload_n 0, 1) := by decide +kernel
theorem dX6_keepAhead_87 : decode cX6_keepAhead 87 = .ok (.getfield 53, 3) := by decide +kernel
theorem dX6_keepAhead_90 : decode cX6_keepAhead 90 = .ok (.iload_n 2, 1) := by decide +kernel
theorem dX6_keepAhead_91 : decode cX6_keepAhead 91 = .ok (.iload_n 3, 1) := by decide +kernel
theorem dX6_keepAhead_92 : decode cX6_keepAhead 92 = .ok (.aload_n 0, 1) := by decide +kernel
theorem dX6_keepAhead_93 : decode cX6_keepAhead 93 = .ok (.getfield 53, 3) := by decide +kernel
theorem dX6_keepAhead_96 : decode cX6_keepAhead 96 = .ok (.getfield 141, 3) := by decide +kernel
theorem dX6_keepAhead_99 : decode cX6_keepAhead 99 = .ok (.iload 7, 2) := by decide +kernel
theorem dX6_keepAhead_101 : decode cX6_keepAhead 101 = .ok (.isub, 1) := by decide +kernel
theorem dX6_keepAhead_102 : decode cX6_keepAhead 102 = .ok (.invokevirtual 244, 3) := by decide +kernel
theorem dX6_keepAhead_105 : decode cX6_keepAhead 105 = .ok (.lmul, 1) := by decide +kernel
theorem dX6_keepAhead_106 : decode cX6_keepAhead 106 = .ok (.lload 5, 2) := by decide +kernel
theorem dX6_keepAhead_108 : decode cX6_keepAhead 108 = .ok (.lcmp, 1) := by decide +kernel
theorem dX6_keepAhead_109 : decode cX6_keepAhead 109 = .ok (.ifCond .lt 6, 3) := by decide +kernel
theorem dX6_keepAhead_112 : decode cX6_keepAhead 112 = .ok (.iload 7, 2) := by decide +kernel
theorem dX6_keepAhead_114 : decode cX6_keepAhead 114 = .ok (.ireturn, 1) := by decide +kernel
theorem dX6_keepAhead_115 : decode cX6_keepAhead 115 = .ok (.iinc 7 (-1), 3) := by decide +kernel
theorem dX6_keepAhead_118 : decode cX6_keepAhead 118 = .ok (.goto (-44), 3) := by decide +kernel
theorem dX6_keepAhead_121 : decode cX6_keepAhead 121 = .ok (.bipush (-9), 2) := by decide +kernel
theorem dX6_keepAhead_123 : decode cX6_keepAhead 123 = .ok (.ireturn, 1) := by decide +kernel
theorem dX6_mark_0 : decode cX6_mark 0 = .ok (.iload_n 1, 1) := by decide +kernel
theorem dX6_mark_1 : decode cX6_mark 1 = .ok (.ifCond .lt 19, 3) := by decide +kernel
theorem dX6_mark_4 : decode cX6_mark 4 = .ok (.iload_n 1, 1) := by decide +kernel
theorem dX6_mark_5 : decode cX6_mark 5 = .ok (.iconst 5, 1) := by decide +kernel
theorem dX6_mark_6 : decode cX6_mark 6 = .ok (.if_icmp .gt 14, 3) := by decide +kernel
theorem dX6_mark_9 : decode cX6_mark 9 = .ok (.aload_n 0, 1) := by decide +kernel
theorem dX6_mark_10 : decode cX6_mark 10 = .ok (.getfield 53, 3) := by decide +kernel
theorem dX6_mark_13 : decode cX6_mark 13 = .ok (.iload_n 2, 1) := by decide +kernel
theorem dX6_mark_14 : decode cX6_mark 14 = .ok (.invokevirtual 102, 3) := by decide +kernel
theorem dX6_mark_17 : decode cX6_mark 17 = .ok (.ifCond .ne 6, 3) := by decide +kernel
theorem dX6_mark_20 : decode cX6_mark 20 = .ok (.ldc 151, 2) := by decide +kernel
theorem dX6_mark_22 : decode cX6_mark 22 = .ok (.ireturn, 1) := by decide +kernel
theorem dX6_mark_23 : decode cX6_mark 23 = .ok (.iload_n 1, 1) := by decide +kernel
theorem dX6_mark_24 : decode cX6_mark 24 = .ok (.tableswitch 66 0 4 #[36, 42, 48, 54, 60], 36) := by decide +kernel
theorem dX6_mark_60 : decode cX6_mark 60 = .ok (.aload_n 0, 1) := by decide +kernel
theorem dX6_mark_61 : decode cX6_mark 61 = .ok (.iload_n 2, 1) := by decide +kernel
theorem dX6_mark_62 : decode cX6_mark 62 = .ok (.invokevirtual 260, 3) := by decide +kernel
theorem dX6_mark_65 : decode cX6_mark 65 = .ok (.ireturn, 1) := by decide +kernel
theorem dX6_mark_66 : decode cX6_mark 66 = .ok (.aload_n 0, 1) := by decide +kernel
theorem dX6_mark_67 : decode cX6_mark 67 = .ok (.iload_n 2, 1) := by decide +kernel
theorem dX6_mark_68 : decode cX6_mark 68 = .ok (.invokevirtual 263, 3) := by decide +kernel
theorem dX6_mark_71 : decode cX6_mark 71 = .ok (.ireturn, 1) := by decide +kernel
theorem dX6_mark_72 : decode cX6_mark 72 = .ok (.aload_n 0, 1) := by decide +kernel
theorem dX6_mark_73 : decode cX6_mark 73 = .ok (.iload_n 2, 1) := by decide +kernel
theorem dX6_mark_74 : decode cX6_mark 74 = .ok (.invokevirtual 266, 3) := by decide +kernel
theorem dX6_mark_77 : decode cX6_mark 77 = .ok (.ireturn, 1) := by decide +kernel
theorem dX6_mark_78 : decode cX6_mark 78 = .ok (.aload_n 0, 1) := by decide +kernel
theorem dX6_mark_79 : decode cX6_mark 79 = .ok (.iload_n 2, 1) := by decide +kernel
theorem dX6_mark_80 : decode cX6_mark 80 = .ok (.invokevirtual 269, 3) := by decide +kernel
theorem dX6_mark_83 : decode cX6_mark 83 = .ok (.ireturn, 1) := by decide +kernel
theorem dX6_mark_84 : decode cX6_mark 84 = .ok (.aload_n 0, 1) := by decide +kernel
theorem dX6_mark_85 : decode cX6_mark 85 = .ok (.iload_n 2, 1) := by decide +kernel
theorem dX6_mark_86 : decode cX6_mark 86 = .ok (.invokevirtual 272, 3) := by decide +kernel
theorem dX6_mark_89 : decode cX6_mark 89 = .ok (.ireturn, 1) := by decide +kernel
theorem dX6_mark_90 : decode cX6_mark 90 = .ok (.aload_n 0, 1) := by decide +kernel
theorem dX6_mark_91 : decode cX6_mark 91 = .ok (.iload_n 2, 1) := by decide +kernel
theorem dX6_mark_92 : decode cX6_mark 92 = .ok (.invokevirtual 275, 3) := by decide +kernel
theorem dX6_mark_95 : decode cX6_mark 95 = .ok (.ireturn, 1) := by decide +kernel
theorem dX6_keep_0 : decode cX6_keep 0 = .ok (.iload_n 1, 1) := by decide +kernel
theorem dX6_keep_1 : decode cX6_keep 1 = .ok (.ifCond .lt 8, 3) := by decide +kernel
theorem dX6_keep_4 : decode cX6_keep 4 = .ok (.iload_n 1, 1) := by decide +kernel
theorem dX6_keep_5 : decode cX6_keep 5 = .ok (.iconst 1, 1) := by decide +kernel
theorem dX6_keep_6 : decode cX6_keep 6 = .ok (.if_icmp .le 5, 3) := by decide +kernel
theorem dX6_keep_9 : decode cX6_keep 9 = .ok (.iconst (-1), 1) := by decide +kernel
theorem dX6_keep_10 : decode cX6_keep 10 = .ok (.ireturn, 1) := by decide +kernel
theorem dX6_keep_11 : decode cX6_keep 11 = .ok (.iload_n 1, 1) := by decide +kernel
theorem dX6_keep_12 : decode cX6_keep 12 = .ok (.ifCond .ne 10, 3) := by decide +kernel
theorem dX6_keep_15 : decode cX6_keep 15 = .ok (.aload_n 0, 1) := by decide +kernel
theorem dX6_keep_16 : decode cX6_keep 16 = .ok (.getfield 44, 3) := by decide +kernel
theorem dX6_keep_19 : decode cX6_keep 19 = .ok (.goto 7, 3) := by decide +kernel
theorem dX6_keep_22 : decode cX6_keep 22 = .ok (.aload_n 0, 1) := by decide +kernel
theorem dX6_keep_23 : decode cX6_keep 23 = .ok (.getfield 47, 3) := by decide +kernel
theorem dX6_keep_26 : decode cX6_keep 26 = .ok (.astore_n 2, 1) := by decide +kernel
theorem dX6_keep_27 : decode cX6_keep 27 = .ok (.aload_n 2, 1) := by decide +kernel
theorem dX6_keep_28 : decode cX6_keep 28 = .ok (.aload_n 0, 1) := by decide +kernel
theorem dX6_keep_29 : decode cX6_keep 29 = .ok (.getfield 40, 3) := by decide +kernel
theorem dX6_keep_32 : decode cX6_keep 32 = .ok (.invokevirtual 278, 3) := by decide +kernel
theorem dX6_keep_35 : decode cX6_keep 35 = .ok (.aload_n 2, 1) := by decide +kernel
theorem dX6_keep_36 : decode cX6_keep 36 = .ok (.iconst 1, 1) := by decide +kernel
theorem dX6_keep_37 : decode cX6_keep 37 = .ok (.putfield 85, 3) := by decide +kernel
theorem dX6_keep_40 : decode cX6_keep 40 = .ok (.aload_n 0, 1) := by decide +kernel
theorem dX6_keep_41 : decode cX6_keep 41 = .ok (.getfield 40, 3) := by decide +kernel
theorem dX6_keep_44 : decode cX6_keep 44 = .ok (.getfield 105, 3) := by decide +kernel
theorem dX6_keep_47 : decode cX6_keep 47 = .ok (.getfield 132, 3) := by decide +kernel
theorem dX6_keep_50 : decode cX6_keep 50 = .ok (.ireturn, 1) := by decide +kernel
theorem dX6_back_0 : decode cX6_back 0 = .ok (.iload_n 1, 1) := by decide +kernel
theorem dX6_back_1 : decode cX6_back 1 = .ok (.ifCond .lt 8, 3) := by decide +kernel
theorem dX6_back_4 : decode cX6_back 4 = .ok (.iload_n 1, 1) := by decide +kernel
theorem dX6_back_5 : decode cX6_back 5 = .ok (.iconst 1, 1) := by decide +kernel
theorem dX6_back_6 : decode cX6_back 6 = .ok (.if_icmp .le 5, 3) := by decide +kernel
theorem dX6_back_9 : decode cX6_back 9 = .ok (.iconst (-1), 1) := by decide +kernel
theorem dX6_back_10 : decode cX6_back 10 = .ok (.ireturn, 1) := by decide +kernel
theorem dX6_back_11 : decode cX6_back 11 = .ok (.iload_n 1, 1) := by decide +kernel
theorem dX6_back_12 : decode cX6_back 12 = .ok (.ifCond .ne 10, 3) := by decide +kernel
theorem dX6_back_15 : decode cX6_back 15 = .ok (.aload_n 0, 1) := by decide +kernel
theorem dX6_back_16 : decode cX6_back 16 = .ok (.getfield 44, 3) := by decide +kernel
theorem dX6_back_19 : decode cX6_back 19 = .ok (.goto 7, 3) := by decide +kernel
theorem dX6_back_22 : decode cX6_back 22 = .ok (.aload_n 0, 1) := by decide +kernel
theorem dX6_back_23 : decode cX6_back 23 = .ok (.getfield 47, 3) := by decide +kernel
theorem dX6_back_26 : decode cX6_back 26 = .ok (.astore_n 2, 1) := by decide +kernel
theorem dX6_back_27 : decode cX6_back 27 = .ok (.aload_n 2, 1) := by decide +kernel
theorem dX6_back_28 : decode cX6_back 28 = .ok (.getfield 85, 3) := by decide +kernel
theorem dX6_back_31 : decode cX6_back 31 = .ok (.ifCond .ne 6, 3) := by decide +kernel
theorem dX6_back_34 : decode cX6_back 34 = .ok (.bipush (-2), 2) := by decide +kernel
theorem dX6_back_36 : decode cX6_back 36 = .ok (.ireturn, 1) := by decide +kernel
theorem dX6_back_37 : decode cX6_back 37 = .ok (.aload_n 0, 1) := by decide +kernel
theorem dX6_back_38 : decode cX6_back 38 = .ok (.getfield 40, 3) := by decide +kernel
theorem dX6_back_41 : decode cX6_back 41 = .ok (.aload_n 2, 1) := by decide +kernel
theorem dX6_back_42 : decode cX6_back 42 = .ok (.invokevirtual 278, 3) := by decide +kernel
theorem dX6_back_45 : decode cX6_back 45 = .ok (.aload_n 0, 1) := by decide +kernel
theorem dX6_back_46 : decode cX6_back 46 = .ok (.getfield 40, 3) := by decide +kernel
theorem dX6_back_49 : decode cX6_back 49 = .ok (.getfield 105, 3) := by decide +kernel
theorem dX6_back_52 : decode cX6_back 52 = .ok (.getfield 132, 3) := by decide +kernel
theorem dX6_back_55 : decode cX6_back 55 = .ok (.ireturn, 1) := by decide +kernel
theorem dX6_count_0 : decode cX6_count 0 = .ok (.iload_n 1, 1) := by decide +kernel
theorem dX6_count_1 : decode cX6_count 1 = .ok (.tableswitch 78 0 4 #[35, 43, 51, 62, 70], 35) := by decide +kernel
theorem dX6_count_36 : decode cX6_count 36 = .ok (.aload_n 0, 1) := by decide +kernel
theorem dX6_count_37 : decode cX6_count 37 = .ok (.getfield 53, 3) := by decide +kernel
theorem dX6_count_40 : decode cX6_count 40 = .ok (.getfield 281, 3) := by decide +kernel
theorem dX6_count_43 : decode cX6_count 43 = .ok (.ireturn, 1) := by decide +kernel
theorem dX6_count_44 : decode cX6_count 44 = .ok (.aload_n 0, 1) := by decide +kernel
theorem dX6_count_45 : decode cX6_count 45 = .ok (.getfield 53, 3) := by decide +kernel
theorem dX6_count_48 : decode cX6_count 48 = .ok (.getfield 284, 3) := by decide +kernel
theorem dX6_count_51 : decode cX6_count 51 = .ok (.ireturn, 1) := by decide +kernel
theorem dX6_count_52 : decode cX6_count 52 = .ok (.aload_n 0, 1) := by decide +kernel
theorem dX6_count_53 : decode cX6_count 53 = .ok (.getfield 53, 3) := by decide +kernel
theorem dX6_count_56 : decode cX6_count 56 = .ok (.getfield 96, 3) := by decide +kernel
theorem dX6_count_59 : decode cX6_count 59 = .ok (.invokestatic 162, 3) := by decide +kernel
theorem dX6_count_62 : decode cX6_count 62 = .ok (.ireturn, 1) := by decide +kernel
theorem dX6_count_63 : decode cX6_count 63 = .ok (.aload_n 0, 1) := by decide +kernel
theorem dX6_count_64 : decode cX6_count 64 = .ok (.getfield 40, 3) := by decide +kernel
theorem dX6_count_67 : decode cX6_count 67 = .ok (.getfield 179, 3) := by decide +kernel
theorem dX6_count_70 : decode cX6_count 70 = .ok (.ireturn, 1) := by decide +kernel
theorem dX6_count_71 : decode cX6_count 71 = .ok (.aload_n 0, 1) := by decide +kernel
theorem dX6_count_72 : decode cX6_count 72 = .ok (.getfield 10, 3) := by decide +kernel
theorem dX6_count_75 : decode cX6_count 75 = .ok (.getfield 64, 3) := by decide +kernel
theorem dX6_count_78 : decode cX6_count 78 = .ok (.ireturn, 1) := by decide +kernel
theorem dX6_count_79 : decode cX6_count 79 = .ok (.iconst (-1), 1) := by decide +kernel
theorem dX6_count_80 : decode cX6_count 80 = .ok (.ireturn, 1) := by decide +kernel
theorem dX6_trace_0 : decode cX6_trace 0 = .ok (.aload_n 0, 1) := by decide +kernel
theorem dX6_trace_1 : decode cX6_trace 1 = .ok (.getfield 287, 3) := by decide +kernel
theorem dX6_trace_4 : decode cX6_trace 4 = .ok (.lreturn, 1) := by decide +kernel
theorem dX6_leastOf_0 : decode cX6_leastOf 0 = .ok (.iconst 0, 1) := by decide +kernel
theorem dX6_leastOf_1 : decode cX6_leastOf 1 = .ok (.istore_n 1, 1) := by decide +kernel
theorem dX6_leastOf_2 : decode cX6_leastOf 2 = .ok (.iload_n 1, 1) := by decide +kernel
theorem dX6_leastOf_3 : decode cX6_leastOf 3 = .ok (.iconst 5, 1) := by decide +kernel
theorem dX6_leastOf_4 : decode cX6_leastOf 4 = .ok (.if_icmp .ge 20, 3) := by decide +kernel
theorem dX6_leastOf_7 : decode cX6_leastOf 7 = .ok (.iload_n 0, 1) := by decide +kernel
theorem dX6_leastOf_8 : decode cX6_leastOf 8 = .ok (.iload_n 1, 1) := by decide +kernel
theorem dX6_leastOf_9 : decode cX6_leastOf 9 = .ok (.ishr, 1) := by decide +kernel
theorem dX6_leastOf_10 : decode cX6_leastOf 10 = .ok (.iconst 1, 1) := by decide +kernel
theorem dX6_leastOf_11 : decode cX6_leastOf 11 = .ok (.iand, 1) := by decide +kernel
theorem dX6_leastOf_12 : decode cX6_leastOf 12 = .ok (.iconst 1, 1) := by decide +kernel
theorem dX6_leastOf_13 : decode cX6_leastOf 13 = .ok (.if_icmp .ne 5, 3) := by decide +kernel
theorem dX6_leastOf_16 : decode cX6_leastOf 16 = .ok (.iload_n 1, 1) := by decide +kernel
theorem dX6_leastOf_17 : decode cX6_leastOf 17 = .ok (.ireturn, 1) := by decide +kernel
theorem dX6_leastOf_18 : decode cX6_leastOf 18 = .ok (.iinc 1 1, 3) := by decide +kernel
theorem dX6_leastOf_21 : decode cX6_leastOf 21 = .ok (.goto (-19), 3) := by decide +kernel
theorem dX6_leastOf_24 : decode cX6_leastOf 24 = .ok (.bipush (-9), 2) := by decide +kernel
theorem dX6_leastOf_26 : decode cX6_leastOf 26 = .ok (.ireturn, 1) := by decide +kernel
theorem dX6_findStarts_0 : decode cX6_findStarts 0 = .ok (.aload_n 0, 1) := by decide +kernel
theorem dX6_findStarts_1 : decode cX6_findStarts 1 = .ok (.getfield 19, 3) := by decide +kernel
theorem dX6_findStarts_4 : decode cX6_findStarts 4 = .ok (.iconst 0, 1) := by decide +kernel
theorem dX6_findStarts_5 : decode cX6_findStarts 5 = .ok (.invokevirtual 291, 3) := by decide +kernel
theorem dX6_findStarts_8 : decode cX6_findStarts 8 = .ok (.istore_n 1, 1) := by decide +kernel
theorem dX6_findStarts_9 : decode cX6_findStarts 9 = .ok (.aload_n 0, 1) := by decide +kernel
theorem dX6_findStarts_10 : decode cX6_findStarts 10 = .ok (.getfield 19, 3) := by decide +kernel
theorem dX6_findStarts_13 : decode cX6_findStarts 13 = .ok (.iconst 1, 1) := by decide +kernel
theorem dX6_findStarts_14 : decode cX6_findStarts 14 = .ok (.invokevirtual 291, 3) := by decide +kernel
theorem dX6_findStarts_17 : decode cX6_findStarts 17 = .ok (.istore_n 2, 1) := by decide +kernel
theorem dX6_findStarts_18 : decode cX6_findStarts 18 = .ok (.aload_n 0, 1) := by decide +kernel
theorem dX6_findStarts_19 : decode cX6_findStarts 19 = .ok (.getfield 19, 3) := by decide +kernel
theorem dX6_findStarts_22 : decode cX6_findStarts 22 = .ok (.iconst 2, 1) := by decide +kernel
theorem dX6_findStarts_23 : decode cX6_findStarts 23 = .ok (.invokevirtual 291, 3) := by decide +kernel
theorem dX6_findStarts_26 : decode cX6_findStarts 26 = .ok (.istore_n 3, 1) := by decide +kernel
theorem dX6_findStarts_27 : decode cX6_findStarts 27 = .ok (.iconst 0, 1) := by decide +kernel
theorem dX6_findStarts_28 : decode cX6_findStarts 28 = .ok (.istore 4, 2) := by decide +kernel
theorem dX6_findStarts_30 : decode cX6_findStarts 30 = .ok (.iload 4, 2) := by decide +kernel
theorem dX6_findStarts_32 : decode cX6_findStarts 32 = .ok (.iload_n 1, 1) := by decide +kernel
theorem dX6_findStarts_33 : decode cX6_findStarts 33 = .ok (.iload_n 2, 1) := by decide +kernel
theorem dX6_findStarts_34 : decode cX6_findStarts 34 = .ok (.iadd, 1) := by decide +kernel
theorem dX6_findStarts_35 : decode cX6_findStarts 35 = .ok (.iload_n 3, 1) := by decide +kernel
theorem dX6_findStarts_36 : decode cX6_findStarts 36 = .ok (.iadd, 1) := by decide +kernel
theorem dX6_findStarts_37 : decode cX6_findStarts 37 = .ok (.if_icmp .gt 108, 3) := by decide +kernel
theorem dX6_findStarts_40 : decode cX6_findStarts 40 = .ok (.iconst 0, 1) := by decide +kernel
theorem dX6_findStarts_41 : decode cX6_findStarts 41 = .ok (.istore 5, 2) := by decide +kernel
theorem dX6_findStarts_43 : decode cX6_findStarts 43 = .ok (.iload 5, 2) := by decide +kernel
theorem dX6_findStarts_45 : decode cX6_findStarts 45 = .ok (.iload_n 1, 1) := by decide +kernel
theorem dX6_findStarts_46 : decode cX6_findStarts 46 = .ok (.if_icmp .gt 93, 3) := by decide +kernel
theorem dX6_findStarts_49 : decode cX6_findStarts 49 = .ok (.iload 5, 2) := by decide +kernel
theorem dX6_findStarts_51 : decode cX6_findStarts 51 = .ok (.iload 4, 2) := by decide +kernel
theorem dX6_findStarts_53 : decode cX6_findStarts 53 = .ok (.if_icmp .gt 86, 3) := by decide +kernel
theorem dX6_findStarts_56 : decode cX6_findStarts 56 = .ok (.iconst 0, 1) := by decide +kernel
theorem dX6_findStarts_57 : decode cX6_findStarts 57 = .ok (.iload 4, 2) := by decide +kernel
theorem dX6_findStarts_59 : decode cX6_findStarts 59 = .ok (.iload 5, 2) := by decide +kernel
theorem dX6_findStarts_61 : decode cX6_findStarts 61 = .ok (.isub, 1) := by decide +kernel
theorem dX6_findStarts_62 : decode cX6_findStarts 62 = .ok (.iload_n 3, 1) := by decide +kernel
theorem dX6_findStarts_63 : decode cX6_findStarts 63 = .ok (.isub, 1) := by decide +kernel
theorem dX6_findStarts_64 : decode cX6_findStarts 64 = .ok (.invokestatic 226, 3) := by decide +kernel
theorem dX6_findStarts_67 : decode cX6_findStarts 67 = .ok (.istore 6, 2) := by decide +kernel
theorem dX6_findStarts_69 : decode cX6_findStarts 69 = .ok (.iload 6, 2) := by decide +kernel
theorem dX6_findStarts_71 : decode cX6_findStarts 71 = .ok (.iload_n 2, 1) := by decide +kernel
theorem dX6_findStarts_72 : decode cX6_findStarts 72 = .ok (.if_icmp .gt 61, 3) := by decide +kernel
theorem dX6_findStarts_75 : decode cX6_findStarts 75 = .ok (.iload 5, 2) := by decide +kernel
theorem dX6_findStarts_77 : decode cX6_findStarts 77 = .ok (.iload 6, 2) := by decide +kernel
theorem dX6_findStarts_79 : decode cX6_findStarts 79 = .ok (.iadd, 1) := by decide +kernel
theorem dX6_findStarts_80 : decode cX6_findStarts 80 = .ok (.iload 4, 2) := by decide +kernel
theorem dX6_findStarts_82 : decode cX6_findStarts 82 = .ok (.if_icmp .gt 51, 3) := by decide +kernel
theorem dX6_findStarts_85 : decode cX6_findStarts 85 = .ok (.aload_n 0, 1) := by decide +kernel
theorem dX6_findStarts_86 : decode cX6_findStarts 86 = .ok (.getfield 19, 3) := by decide +kernel
theorem dX6_findStarts_89 : decode cX6_findStarts 89 = .ok (.iload 5, 2) := by decide +kernel
theorem dX6_findStarts_91 : decode cX6_findStarts 91 = .ok (.iload 6, 2) := by decide +kernel
theorem dX6_findStarts_93 : decode cX6_findStarts 93 = .ok (.iload 4, 2) := by decide +kernel
theorem dX6_findStarts_95 : decode cX6_findStarts 95 = .ok (.iload 5, 2) := by decide +kernel
theorem dX6_findStarts_97 : decode cX6_findStarts 97 = .ok (.isub, 1) := by decide +kernel
theorem dX6_findStarts_98 : decode cX6_findStarts 98 = .ok (.iload 6, 2) := by decide +kernel
theorem dX6_findStarts_100 : decode cX6_findStarts 100 = .ok (.isub, 1) := by decide +kernel
theorem dX6_findStarts_101 : decode cX6_findStarts 101 = .ok (.invokevirtual 294, 3) := by decide +kernel
theorem dX6_findStarts_104 : decode cX6_findStarts 104 = .ok (.aload_n 0, 1) := by decide +kernel
theorem dX6_findStarts_105 : decode cX6_findStarts 105 = .ok (.getfield 33, 3) := by decide +kernel
theorem dX6_findStarts_108 : decode cX6_findStarts 108 = .ok (.aload_n 0, 1) := by decide +kernel
theorem dX6_findStarts_109 : decode cX6_findStarts 109 = .ok (.getfield 40, 3) := by decide +kernel
theorem dX6_findStarts_112 : decode cX6_findStarts 112 = .ok (.getfield 105, 3) := by decide +kernel
theorem dX6_findStarts_115 : decode cX6_findStarts 115 = .ok (.invokevirtual 182, 3) := by decide +kernel
theorem dX6_findStarts_118 : decode cX6_findStarts 118 = .ok (.aload_n 0, 1) := by decide +kernel
theorem dX6_findStarts_119 : decode cX6_findStarts 119 = .ok (.invokevirtual 196, 3) := by decide +kernel
theorem dX6_findStarts_122 : decode cX6_findStarts 122 = .ok (.ifCond .eq 5, 3) := by decide +kernel
theorem dX6_findStarts_125 : decode cX6_findStarts 125 = .ok (.iconst 1, 1) := by decide +kernel
theorem dX6_findStarts_126 : decode cX6_findStarts 126 = .ok (.ireturn, 1) := by decide +kernel
theorem dX6_findStarts_127 : decode cX6_findStarts 127 = .ok (.iinc 6 1, 3) := by decide +kernel
theorem dX6_findStarts_130 : decode cX6_findStarts 130 = .ok (.goto (-61), 3) := by decide +kernel
theorem dX6_findStarts_133 : decode cX6_findStarts 133 = .ok (.iinc 5 1, 3) := by decide +kernel
theorem dX6_findStarts_136 : decode cX6_findStarts 136 = .ok (.goto (-93), 3) := by decide +kernel
theorem dX6_findStarts_139 : decode cX6_findStarts 139 = .ok (.iinc 4 1, 3) := by decide +kernel
theorem dX6_findStarts_142 : decode cX6_findStarts 142 = .ok (.goto (-112), 3) := by decide +kernel
theorem dX6_findStarts_145 : decode cX6_findStarts 145 = .ok (.iconst 0, 1) := by decide +kernel
theorem dX6_findStarts_146 : decode cX6_findStarts 146 = .ok (.ireturn, 1) := by decide +kernel
theorem dX6_isTrialSafe_0 : decode cX6_isTrialSafe 0 = .ok (.iconst 0, 1) := by decide +kernel
theorem dX6_isTrialSafe_1 : decode cX6_isTrialSafe 1 = .ok (.istore_n 1, 1) := by decide +kernel
theorem dX6_isTrialSafe_2 : decode cX6_isTrialSafe 2 = .ok (.iload_n 1, 1) := by decide +kernel
theorem dX6_isTrialSafe_3 : decode cX6_isTrialSafe 3 = .ok (.bipush 40, 2) := by decide +kernel
theorem dX6_isTrialSafe_5 : decode cX6_isTrialSafe 5 = .ok (.if_icmp .ge 55, 3) := by decide +kernel
theorem dX6_isTrialSafe_8 : decode cX6_isTrialSafe 8 = .ok (.aload_n 0, 1) := by decide +kernel
theorem dX6_isTrialSafe_9 : decode cX6_isTrialSafe 9 = .ok (.getfield 19, 3) := by decide +kernel
theorem dX6_isTrialSafe_12 : decode cX6_isTrialSafe 12 = .ok (.aload_n 0, 1) := by decide +kernel
theorem dX6_isTrialSafe_13 : decode cX6_isTrialSafe 13 = .ok (.getfield 33, 3) := by decide +kernel
theorem dX6_isTrialSafe_16 : decode cX6_isTrialSafe 16 = .ok (.iload_n 1, 1) := by decide +kernel
theorem dX6_isTrialSafe_17 : decode cX6_isTrialSafe 17 = .ok (.invokevirtual 298, 3) := by decide +kernel
theorem dX6_isTrialSafe_20 : decode cX6_isTrialSafe 20 = .ok (.aload_n 0, 1) := by decide +kernel
theorem dX6_isTrialSafe_21 : decode cX6_isTrialSafe 21 = .ok (.getfield 53, 3) := by decide +kernel
theorem dX6_isTrialSafe_24 : decode cX6_isTrialSafe 24 = .ok (.aload_n 0, 1) := by decide +kernel
theorem dX6_isTrialSafe_25 : decode cX6_isTrialSafe 25 = .ok (.getfield 33, 3) := by decide +kernel
theorem dX6_isTrialSafe_28 : decode cX6_isTrialSafe 28 = .ok (.invokevirtual 159, 3) := by decide +kernel
theorem dX6_isTrialSafe_31 : decode cX6_isTrialSafe 31 = .ok (.pop, 1) := by decide +kernel
theorem dX6_isTrialSafe_32 : decode cX6_isTrialSafe 32 = .ok (.aload_n 0, 1) := by decide +kernel
theorem dX6_isTrialSafe_33 : decode cX6_isTrialSafe 33 = .ok (.getfield 33, 3) := by decide +kernel
theorem dX6_isTrialSafe_36 : decode cX6_isTrialSafe 36 = .ok (.getfield 144, 3) := by decide +kernel
theorem dX6_isTrialSafe_39 : decode cX6_isTrialSafe 39 = .ok (.aload_n 0, 1) := by decide +kernel
theorem dX6_isTrialSafe_40 : decode cX6_isTrialSafe 40 = .ok (.getfield 40, 3) := by decide +kernel
theorem dX6_isTrialSafe_43 : decode cX6_isTrialSafe 43 = .ok (.getfield 105, 3) := by decide +kernel
theorem dX6_isTrialSafe_46 : decode cX6_isTrialSafe 46 = .ok (.getfield 144, 3) := by decide +kernel
theorem dX6_isTrialSafe_49 : decode cX6_isTrialSafe 49 = .ok (.if_icmp .eq 5, 3) := by decide +kernel
theorem dX6_isTrialSafe_52 : decode cX6_isTrialSafe 52 = .ok (.iconst 0, 1) := by decide +kernel
theorem dX6_isTrialSafe_53 : decode cX6_isTrialSafe 53 = .ok (.ireturn, 1) := by decide +kernel
theorem dX6_isTrialSafe_54 : decode cX6_isTrialSafe 54 = .ok (.iinc 1 1, 3) := by decide +kernel
theorem dX6_isTrialSafe_57 : decode cX6_isTrialSafe 57 = .ok (.goto (-55), 3) := by decide +kernel
theorem dX6_isTrialSafe_60 : decode cX6_isTrialSafe 60 = .ok (.iconst 1, 1) := by decide +kernel
theorem dX6_isTrialSafe_61 : decode cX6_isTrialSafe 61 = .ok (.ireturn, 1) := by decide +kernel
theorem dX6_isChance_0 : decode cX6_isChance 0 = .ok (.aload_n 0, 1) := by decide +kernel
theorem dX6_isChance_1 : decode cX6_isChance 1 = .ok (.getfield 53, 3) := by decide +kernel
theorem dX6_isChance_4 : decode cX6_isChance 4 = .ok (.iload_n 1, 1) := by decide +kernel
theorem dX6_isChance_5 : decode cX6_isChance 5 = .ok (.invokevirtual 102, 3) := by decide +kernel
theorem dX6_isChance_8 : decode cX6_isChance 8 = .ok (.ifCond .eq 27, 3) := by decide +kernel
theorem dX6_isChance_11 : decode cX6_isChance 11 = .ok (.iload_n 2, 1) := by decide +kernel
theorem dX6_isChance_12 : decode cX6_isChance 12 = .ok (.ifCond .lt 23, 3) := by decide +kernel
theorem dX6_isChance_15 : decode cX6_isChance 15 = .ok (.iload_n 2, 1) := by decide +kernel
theorem dX6_isChance_16 : decode cX6_isChance 16 = .ok (.bipush 10, 2) := by decide +kernel
theorem dX6_isChance_18 : decode cX6_isChance 18 = .ok (.if_icmp .gt 17, 3) := by decide +kernel
theorem dX6_isChance_21 : decode cX6_isChance 21 = .ok (.iload_n 3, 1) := by decide +kernel
theorem dX6_isChance_22 : decode cX6_isChance 22 = .ok (.ifCond .lt 13, 3) := by decide +kernel
theorem dX6_isChance_25 : decode cX6_isChance 25 = .ok (.iload_n 3, 1) := by decide +kernel
theorem dX6_isChance_26 : decode cX6_isChance 26 = .ok (.bipush 12, 2) := by decide +kernel
theorem dX6_isChance_28 : decode cX6_isChance 28 = .ok (.if_icmp .gt 7, 3) := by decide +kernel
theorem dX6_isChance_31 : decode cX6_isChance 31 = .ok (.iconst 1, 1) := by decide +kernel
theorem dX6_isChance_32 : decode cX6_isChance 32 = .ok (.goto 4, 3) := by decide +kernel
theorem dX6_isChance_35 : decode cX6_isChance 35 = .ok (.iconst 0, 1) := by decide +kernel
theorem dX6_isChance_36 : decode cX6_isChance 36 = .ok (.ireturn, 1) := by decide +kernel
theorem dX6_powerOfTen_0 : decode cX6_powerOfTen 0 = .ok (.lconst 1, 1) := by decide +kernel
theorem dX6_powerOfTen_1 : decode cX6_powerOfTen 1 = .ok (.lstore_n 1, 1) := by decide +kernel
theorem dX6_powerOfTen_2 : decode cX6_powerOfTen 2 = .ok (.iconst 0, 1) := by decide +kernel
theorem dX6_powerOfTen_3 : decode cX6_powerOfTen 3 = .ok (.istore_n 3, 1) := by decide +kernel
theorem dX6_powerOfTen_4 : decode cX6_powerOfTen 4 = .ok (.iload_n 3, 1) := by decide +kernel
theorem dX6_powerOfTen_5 : decode cX6_powerOfTen 5 = .ok (.iload_n 0, 1) := by decide +kernel
theorem dX6_powerOfTen_6 : decode cX6_powerOfTen 6 = .ok (.if_icmp .ge 21, 3) := by decide +kernel
theorem dX6_powerOfTen_9 : decode cX6_powerOfTen 9 = .ok (.iload_n 3, 1) := by decide +kernel
theorem dX6_powerOfTen_10 : decode cX6_powerOfTen 10 = .ok (.bipush 12, 2) := by decide +kernel
theorem dX6_powerOfTen_12 : decode cX6_powerOfTen 12 = .ok (.if_icmp .ge 15, 3) := by decide +kernel
theorem dX6_powerOfTen_15 : decode cX6_powerOfTen 15 = .ok (.lload_n 1, 1) := by decide +kernel
theorem dX6_powerOfTen_16 : decode cX6_powerOfTen 16 = .ok (.ldc2_w 258, 3) := by decide +kernel
theorem dX6_powerOfTen_19 : decode cX6_powerOfTen 19 = .ok (.lmul, 1) := by decide +kernel
theorem dX6_powerOfTen_20 : decode cX6_powerOfTen 20 = .ok (.lstore_n 1, 1) := by decide +kernel
theorem dX6_powerOfTen_21 : decode cX6_powerOfTen 21 = .ok (.iinc 3 1, 3) := by decide +kernel
theorem dX6_powerOfTen_24 : decode cX6_powerOfTen 24 = .ok (.goto (-20), 3) := by decide +kernel
theorem dX6_powerOfTen_27 : decode cX6_powerOfTen 27 = .ok (.lload_n 1, 1) := by decide +kernel
theorem dX6_powerOfTen_28 : decode cX6_powerOfTen 28 = .ok (.lreturn, 1) := by decide +kernel
theorem dX6_commonDivisor_0 : decode cX6_commonDivisor 0 = .ok (.lload_n 0, 1) := by decide +kernel
theorem dX6_commonDivisor_1 : decode cX6_commonDivisor 1 = .ok (.lstore 4, 2) := by decide +kernel
theorem dX6_commonDivisor_3 : decode cX6_commonDivisor 3 = .ok (.lload_n 2, 1) := by decide +kernel
theorem dX6_commonDivisor_4 : decode cX6_commonDivisor 4 = .ok (.lstore 6, 2) := by decide +kernel
theorem dX6_commonDivisor_6 : decode cX6_commonDivisor 6 = .ok (.iconst 0, 1) := by decide +kernel
theorem dX6_commonDivisor_7 : decode cX6_commonDivisor 7 = .ok (.istore 8, 2) := by decide +kernel
theorem dX6_commonDivisor_9 : decode cX6_commonDivisor 9 = .ok (.iload 8, 2) := by decide +kernel
theorem dX6_commonDivisor_11 : decode cX6_commonDivisor 11 = .ok (.bipush 100, 2) := by decide +kernel
theorem dX6_commonDivisor_13 : decode cX6_commonDivisor 13 = .ok (.if_icmp .ge 31, 3) := by decide +kernel
theorem dX6_commonDivisor_16 : decode cX6_commonDivisor 16 = .ok (.lload 6, 2) := by decide +kernel
theorem dX6_commonDivisor_18 : decode cX6_commonDivisor 18 = .ok (.lconst 0, 1) := by decide +kernel
theorem dX6_commonDivisor_19 : decode cX6_commonDivisor 19 = .ok (.lcmp, 1) := by decide +kernel
theorem dX6_commonDivisor_20 : decode cX6_commonDivisor 20 = .ok (.ifCond .eq 24, 3) := by decide +kernel
theorem dX6_commonDivisor_23 : decode cX6_commonDivisor 23 = .ok (.lload 4, 2) := by decide +kernel
theorem dX6_commonDivisor_25 : decode cX6_commonDivisor 25 = .ok (.lload 6, 2) := by decide +kernel
theorem dX6_commonDivisor_27 : decode cX6_commonDivisor 27 = .ok (.lrem, 1) := by decide +kernel
theorem dX6_commonDivisor_28 : decode cX6_commonDivisor 28 = .ok (.lstore 9, 2) := by decide +kernel
theorem dX6_commonDivisor_30 : decode cX6_commonDivisor 30 = .ok (.lload 6, 2) := by decide +kernel
theorem dX6_commonDivisor_32 : decode cX6_commonDivisor 32 = .ok (.lstore 4, 2) := by decide +kernel
theorem dX6_commonDivisor_34 : decode cX6_commonDivisor 34 = .ok (.lload 9, 2) := by decide +kernel
theorem dX6_commonDivisor_36 : decode cX6_commonDivisor 36 = .ok (.lstore 6, 2) := by decide +kernel
theorem dX6_commonDivisor_38 : decode cX6_commonDivisor 38 = .ok (.iinc 8 1, 3) := by decide +kernel
theorem dX6_commonDivisor_41 : decode cX6_commonDivisor 41 = .ok (.goto (-32), 3) := by decide +kernel
theorem dX6_commonDivisor_44 : decode cX6_commonDivisor 44 = .ok (.lload 4, 2) := by decide +kernel
theorem dX6_commonDivisor_46 : decode cX6_commonDivisor 46 = .ok (.lreturn, 1) := by decide +kernel
theorem dX6_wagonMark_0 : decode cX6_wagonMark 0 = .ok (.aload_n 0, 1) := by decide +kernel
theorem dX6_wagonMark_1 : decode cX6_wagonMark 1 = .ok (.dup, 1) := by decide +kernel
theorem dX6_wagonMark_2 : decode cX6_wagonMark 2 = .ok (.getfield 287, 3) := by decide +kernel
theorem dX6_wagonMark_5 : decode cX6_wagonMark 5 = .ok (.lconst 1, 1) := by decide +kernel
theorem dX6_wagonMark_6 : decode cX6_wagonMark 6 = .ok (.ladd, 1) := by decide +kernel
theorem dX6_wagonMark_7 : decode cX6_wagonMark 7 = .ok (.putfield 287, 3) := by decide +kernel
theorem dX6_wagonMark_10 : decode cX6_wagonMark 10 = .ok (.aload_n 0, 1) := by decide +kernel
theorem dX6_wagonMark_11 : decode cX6_wagonMark 11 = .ok (.getfield 40, 3) := by decide +kernel
theorem dX6_wagonMark_14 : decode cX6_wagonMark 14 = .ok (.getfield 105, 3) := by decide +kernel
theorem dX6_wagonMark_17 : decode cX6_wagonMark 17 = .ok (.getfield 108, 3) := by decide +kernel
theorem dX6_wagonMark_20 : decode cX6_wagonMark 20 = .ok (.iload_n 1, 1) := by decide +kernel
theorem dX6_wagonMark_21 : decode cX6_wagonMark 21 = .ok (.iaload, 1) := by decide +kernel
theorem dX6_wagonMark_22 : decode cX6_wagonMark 22 = .ok (.ireturn, 1) := by decide +kernel
theorem dX6_forgeMark_0 : decode cX6_forgeMark 0 = .ok (.aload_n 0, 1) := by decide +kernel
theorem dX6_forgeMark_1 : decode cX6_forgeMark 1 = .ok (.dup, 1) := by decide +kernel
theorem dX6_forgeMark_2 : decode cX6_forgeMark 2 = .ok (.getfield 287, 3) := by decide +kernel
theorem dX6_forgeMark_5 : decode cX6_forgeMark 5 = .ok (.ldc2_w 258, 3) := by decide +kernel
theorem dX6_forgeMark_8 : decode cX6_forgeMark 8 = .ok (.ladd, 1) := by decide +kernel
theorem dX6_forgeMark_9 : decode cX6_forgeMark 9 = .ok (.putfield 287, 3) := by decide +kernel
theorem dX6_forgeMark_12 : decode cX6_forgeMark 12 = .ok (.aload_n 0, 1) := by decide +kernel
theorem dX6_forgeMark_13 : decode cX6_forgeMark 13 = .ok (.iload_n 1, 1) := by decide +kernel
theorem dX6_forgeMark_14 : decode cX6_forgeMark 14 = .ok (.invokevirtual 260, 3) := by decide +kernel
theorem dX6_forgeMark_17 : decode cX6_forgeMark 17 = .ok (.aload_n 0, 1) := by decide +kernel
theorem dX6_forgeMark_18 : decode cX6_forgeMark 18 = .ok (.getfield 40, 3) := by decide +kernel
theorem dX6_forgeMark_21 : decode cX6_forgeMark 21 = .ok (.getfield 105, 3) := by decide +kernel
theorem dX6_forgeMark_24 : decode cX6_forgeMark 24 = .ok (.getfield 126, 3) := by decide +kernel
theorem dX6_forgeMark_27 : decode cX6_forgeMark 27 = .ok (.iload_n 1, 1) := by decide +kernel
theorem dX6_forgeMark_28 : decode cX6_forgeMark 28 = .ok (.iaload, 1) := by decide +kernel
theorem dX6_forgeMark_29 : decode cX6_forgeMark 29 = .ok (.iadd, 1) := by decide +kernel
theorem dX6_forgeMark_30 : decode cX6_forgeMark 30 = .ok (.ireturn, 1) := by decide +kernel
theorem dX6_chapelMark_0 : decode cX6_chapelMark 0 = .ok (.aload_n 0, 1) := by decide +kernel
theorem dX6_chapelMark_1 : decode cX6_chapelMark 1 = .ok (.dup, 1) := by decide +kernel
theorem dX6_chapelMark_2 : decode cX6_chapelMark 2 = .ok (.getfield 287, 3) := by decide +kernel
theorem dX6_chapelMark_5 : decode cX6_chapelMark 5 = .ok (.ldc2_w 302, 3) := by decide +kernel
theorem dX6_chapelMark_8 : decode cX6_chapelMark 8 = .ok (.ladd, 1) := by decide +kernel
theorem dX6_chapelMark_9 : decode cX6_chapelMark 9 = .ok (.putfield 287, 3) := by decide +kernel
theorem dX6_chapelMark_12 : decode cX6_chapelMark 12 = .ok (.aload_n 0, 1) := by decide +kernel
theorem dX6_chapelMark_13 : decode cX6_chapelMark 13 = .ok (.iload_n 1, 1) := by decide +kernel
theorem dX6_chapelMark_14 : decode cX6_chapelMark 14 = .ok (.invokevirtual 260, 3) := by decide +kernel
theorem dX6_chapelMark_17 : decode cX6_chapelMark 17 = .ok (.aload_n 0, 1) := by decide +kernel
theorem dX6_chapelMark_18 : decode cX6_chapelMark 18 = .ok (.getfield 53, 3) := by decide +kernel
theorem dX6_chapelMark_21 : decode cX6_chapelMark 21 = .ok (.getfield 111, 3) := by decide +kernel
theorem dX6_chapelMark_24 : decode cX6_chapelMark 24 = .ok (.iload_n 1, 1) := by decide +kernel
theorem dX6_chapelMark_25 : decode cX6_chapelMark 25 = .ok (.iaload, 1) := by decide +kernel
theorem dX6_chapelMark_26 : decode cX6_chapelMark 26 = .ok (.isub, 1) := by decide +kernel
theorem dX6_chapelMark_27 : decode cX6_chapelMark 27 = .ok (.ireturn, 1) := by decide +kernel
theorem dX6_tenderMark_0 : decode cX6_tenderMark 0 = .ok (.aload_n 0, 1) := by decide +kernel
theorem dX6_tenderMark_1 : decode cX6_tenderMark 1 = .ok (.dup, 1) := by decide +kernel
theorem dX6_tenderMark_2 : decode cX6_tenderMark 2 = .ok (.getfield 287, 3) := by decide +kernel
theorem dX6_tenderMark_5 : decode cX6_tenderMark 5 = .ok (.ldc2_w 304, 3) := by decide +kernel
theorem dX6_tenderMark_8 : decode cX6_tenderMark 8 = .ok (.ladd, 1) := by decide +kernel
theorem dX6_tenderMark_9 : decode cX6_tenderMark 9 = .ok (.putfield 287, 3) := by decide +kernel
theorem dX6_tenderMark_12 : decode cX6_tenderMark 12 = .ok (.aload_n 0, 1) := by decide +kernel
theorem dX6_tenderMark_13 : decode cX6_tenderMark 13 = .ok (.iload_n 1, 1) := by decide +kernel
theorem dX6_tenderMark_14 : decode cX6_tenderMark 14 = .ok (.invokevirtual 263, 3) := by decide +kernel
theorem dX6_tenderMark_17 : decode cX6_tenderMark 17 = .ok (.iconst 2, 1) := by decide +kernel
theorem dX6_tenderMark_18 : decode cX6_tenderMark 18 = .ok (.imul, 1) := by decide +kernel
theorem dX6_tenderMark_19 : decode cX6_tenderMark 19 = .ok (.ireturn, 1) := by decide +kernel
theorem dX6_houseMark_0 : decode cX6_houseMark 0 = .ok (.aload_n 0, 1) := by decide +kernel
theorem dX6_houseMark_1 : decode cX6_houseMark 1 = .ok (.dup, 1) := by decide +kernel
theorem dX6_houseMark_2 : decode cX6_houseMark 2 = .ok (.getfield 287, 3) := by decide +kernel
theorem dX6_houseMark_5 : decode cX6_houseMark 5 = .ok (.ldc2_w 306, 3) := by decide +kernel
theorem dX6_houseMark_8 : decode cX6_houseMark 8 = .ok (.ladd, 1) := by decide +kernel
theorem dX6_houseMark_9 : decode cX6_houseMark 9 = .ok (.putfield 287, 3) := by decide +kernel
theorem dX6_houseMark_12 : decode cX6_houseMark 12 = .ok (.aload_n 0, 1) := by decide +kernel
theorem dX6_houseMark_13 : decode cX6_houseMark 13 = .ok (.iload_n 1, 1) := by decide +kernel
theorem dX6_houseMark_14 : decode cX6_houseMark 14 = .ok (.invokevirtual 266, 3) := by decide +kernel
theorem dX6_houseMark_17 : decode cX6_houseMark 17 = .ok (.aload_n 0, 1) := by decide +kernel
theorem dX6_houseMark_18 : decode cX6_houseMark 18 = .ok (.getfield 40, 3) := by decide +kernel
theorem dX6_houseMark_21 : decode cX6_houseMark 21 = .ok (.getfield 105, 3) := by decide +kernel
theorem dX6_houseMark_24 : decode cX6_houseMark 24 = .ok (.getfield 117, 3) := by decide +kernel
theorem dX6_houseMark_27 : decode cX6_houseMark 27 = .ok (.iload_n 1, 1) := by decide +kernel
theorem dX6_houseMark_28 : decode cX6_houseMark 28 = .ok (.iaload, 1) := by decide +kernel
theorem dX6_houseMark_29 : decode cX6_houseMark 29 = .ok (.iadd, 1) := by decide +kernel
theorem dX6_houseMark_30 : decode cX6_houseMark 30 = .ok (.ireturn, 1) := by decide +kernel
theorem dX6_railcartMark_0 : decode cX6_railcartMark 0 = .ok (.aload_n 0, 1) := by decide +kernel
theorem dX6_railcartMark_1 : decode cX6_railcartMark 1 = .ok (.dup, 1) := by decide +kernel
theorem dX6_railcartMark_2 : decode cX6_railcartMark 2 = .ok (.getfield 287, 3) := by decide +kernel
theorem dX6_railcartMark_5 : decode cX6_railcartMark 5 = .ok (.ldc2_w 308, 3) := by decide +kernel
theorem dX6_railcartMark_8 : decode cX6_railcartMark 8 = .ok (.ladd, 1) := by decide +kernel
theorem dX6_railcartMark_9 : decode cX6_railcartMark 9 = .ok (.putfield 287, 3) := by decide +kernel
theorem dX6_railcartMark_12 : decode cX6_railcartMark 12 = .ok (.aload_n 0, 1) := by decide +kernel
theorem dX6_railcartMark_13 : decode cX6_railcartMark 13 = .ok (.getfield 53, 3) := by decide +kernel
theorem dX6_railcartMark_16 : decode cX6_railcartMark 16 = .ok (.aload_n 0, 1) := by decide +kernel
theorem dX6_railcartMark_17 : decode cX6_railcartMark 17 = .ok (.getfield 40, 3) := by decide +kernel
theorem dX6_railcartMark_20 : decode cX6_railcartMark 20 = .ok (.getfield 105, 3) := by decide +kernel
theorem dX6_railcartMark_23 : decode cX6_railcartMark 23 = .ok (.getfield 132, 3) := by decide +kernel
theorem dX6_railcartMark_26 : decode cX6_railcartMark 26 = .ok (.aload_n 0, 1) := by decide +kernel
theorem dX6_railcartMark_27 : decode cX6_railcartMark 27 = .ok (.getfield 53, 3) := by decide +kernel
theorem dX6_railcartMark_30 : decode cX6_railcartMark 30 = .ok (.getfield 141, 3) := by decide +kernel
theorem dX6_railcartMark_33 : decode cX6_railcartMark 33 = .ok (.invokevirtual 152, 3) := by decide +kernel
theorem dX6_railcartMark_36 : decode cX6_railcartMark 36 = .ok (.istore_n 2, 1) := by decide +kernel
theorem dX6_railcartMark_37 : decode cX6_railcartMark 37 = .ok (.aload_n 0, 1) := by decide +kernel
theorem dX6_railcartMark_38 : decode cX6_railcartMark 38 = .ok (.iload_n 1, 1) := by decide +kernel
theorem dX6_railcartMark_39 : decode cX6_railcartMark 39 = .ok (.invokevirtual 260, 3) := by decide +kernel
theorem dX6_railcartMark_42 : decode cX6_railcartMark 42 = .ok (.aload_n 0, 1) := by decide +kernel
theorem dX6_railcartMark_43 : decode cX6_railcartMark 43 = .ok (.getfield 40, 3) := by decide +kernel
theorem dX6_railcartMark_46 : decode cX6_railcartMark 46 = .ok (.getfield 105, 3) := by decide +kernel
theorem dX6_railcartMark_49 : decode cX6_railcartMark 49 = .ok (.getfield 108, 3) := by decide +kernel
theorem dX6_railcartMark_52 : decode cX6_railcartMark 52 = .ok (.iload_n 1, 1) := by decide +kernel
theorem dX6_railcartMark_53 : decode cX6_railcartMark 53 = .ok (.iaload, 1) := by decide +kernel
theorem dX6_railcartMark_54 : decode cX6_railcartMark 54 = .ok (.iadd, 1) := by decide +kernel
theorem dX6_railcartMark_55 : decode cX6_railcartMark 55 = .ok (.iload_n 2, 1) := by decide +kernel
theorem dX6_railcartMark_56 : decode cX6_railcartMark 56 = .ok (.isub, 1) := by decide +kernel
theorem dX6_railcartMark_57 : decode cX6_railcartMark 57 = .ok (.ireturn, 1) := by decide +kernel
theorem dX7_init_0 : decode cX7_init 0 = .ok (.aload_n 0, 1) := by decide +kernel
theorem dX7_init_1 : decode cX7_init 1 = .ok (.invokespecial 1, 3) := by decide +kernel
theorem dX7_init_4 : decode cX7_init 4 = .ok (.aload_n 0, 1) := by decide +kernel
theorem dX7_init_5 : decode cX7_init 5 = .ok (.sipush 200, 3) := by decide +kernel
theorem dX7_init_8 : decode cX7_init 8 = .ok (.newarray .byte, 2) := by decide +kernel
theorem dX7_init_10 : decode cX7_init 10 = .ok (.putfield 7, 3) := by decide +kernel
theorem dX7_init_13 : decode cX7_init 13 = .ok (.aload_n 0, 1) := by decide +kernel
theorem dX7_init_14 : decode cX7_init 14 = .ok (.iconst 2, 1) := by decide +kernel
theorem dX7_init_15 : decode cX7_init 15 = .ok (.newarray .int, 2) := by decide +kernel
theorem dX7_init_17 : decode cX7_init 17 = .ok (.putfield 13, 3) := by decide +kernel
theorem dX7_init_20 : decode cX7_init 20 = .ok (.aload_n 0, 1) := by decide +kernel
theorem dX7_init_21 : decode cX7_init 21 = .ok (.iconst 2, 1) := by decide +kernel
theorem dX7_init_22 : decode cX7_init 22 = .ok (.newarray .int, 2) := by decide +kernel
theorem dX7_init_24 : decode cX7_init 24 = .ok (.putfield 17, 3) := by decide +kernel
theorem dX7_init_27 : decode cX7_init 27 = .ok (.aload_n 0, 1) := by decide +kernel
theorem dX7_init_28 : decode cX7_init 28 = .ok (.iconst 2, 1) := by decide +kernel
theorem dX7_init_29 : decode cX7_init 29 = .ok (.newarray .int, 2) := by decide +kernel
theorem dX7_init_31 : decode cX7_init 31 = .ok (.putfield 20, 3) := by decide +kernel
theorem dX7_init_34 : decode cX7_init 34 = .ok (.aload_n 0, 1) := by decide +kernel
theorem dX7_init_35 : decode cX7_init 35 = .ok (.iconst 2, 1) := by decide +kernel
theorem dX7_init_36 : decode cX7_init 36 = .ok (.newarray .int, 2) := by decide +kernel
theorem dX7_init_38 : decode cX7_init 38 = .ok (.putfield 23, 3) := by decide +kernel
theorem dX7_init_41 : decode cX7_init 41 = .ok (.aload_n 0, 1) := by decide +kernel
theorem dX7_init_42 : decode cX7_init 42 = .ok (.iconst 2, 1) := by decide +kernel
theorem dX7_init_43 : decode cX7_init 43 = .ok (.newarray .int, 2) := by decide +kernel
theorem dX7_init_45 : decode cX7_init 45 = .ok (.putfield 26, 3) := by decide +kernel
theorem dX7_init_48 : decode cX7_init 48 = .ok (.aload_n 0, 1) := by decide +kernel
theorem dX7_init_49 : decode cX7_init 49 = .ok (.iconst 2, 1) := by decide +kernel
theorem dX7_init_50 : decode cX7_init 50 = .ok (.newarray .int, 2) := by decide +kernel
theorem dX7_init_52 : decode cX7_init 52 = .ok (.putfield 29, 3) := by decide +kernel
theorem dX7_init_55 : decode cX7_init 55 = .ok (.aload_n 0, 1) := by decide +kernel
theorem dX7_init_56 : decode cX7_init 56 = .ok (.iconst 2, 1) := by decide +kernel
theorem dX7_init_57 : decode cX7_init 57 = .ok (.newarray .int, 2) := by decide +kernel
theorem dX7_init_59 : decode cX7_init 59 = .ok (.putfield 32, 3) := by decide +kernel
theorem dX7_init_62 : decode cX7_init 62 = .ok (.aload_n 0, 1) := by decide +kernel
theorem dX7_init_63 : decode cX7_init 63 = .ok (.bipush 24, 2) := by decide +kernel
theorem dX7_init_65 : decode cX7_init 65 = .ok (.newarray .int, 2) := by decide +kernel
theorem dX7_init_67 : decode cX7_init 67 = .ok (.putfield 35, 3) := by decide +kernel
theorem dX7_init_70 : decode cX7_init 70 = .ok (.aload_n 0, 1) := by decide +kernel
theorem dX7_init_71 : decode cX7_init 71 = .ok (.bipush 10, 2) := by decide +kernel
theorem dX7_init_73 : decode cX7_init 73 = .ok (.newarray .int, 2) := by decide +kernel
theorem dX7_init_75 : decode cX7_init 75 = .ok (.putfield 38, 3) := by decide +kernel
theorem dX7_init_78 : decode cX7_init 78 = .ok (.aload_n 0, 1) := by decide +kernel
theorem dX7_init_79 : decode cX7_init 79 = .ok (.bipush 10, 2) := by decide +kernel
theorem dX7_init_81 : decode cX7_init 81 = .ok (.newarray .int, 2) := by decide +kernel
theorem dX7_init_83 : decode cX7_init 83 = .ok (.putfield 41, 3) := by decide +kernel
theorem dX7_init_86 : decode cX7_init 86 = .ok (.aload_n 0, 1) := by decide +kernel
theorem dX7_init_87 : decode cX7_init 87 = .ok (.bipush 10, 2) := by decide +kernel
theorem dX7_init_89 : decode cX7_init 89 = .ok (.newarray .int, 2) := by decide +kernel
theorem dX7_init_91 : decode cX7_init 91 = .ok (.putfield 44, 3) := by decide +kernel
theorem dX7_init_94 : decode cX7_init 94 = .ok (.aload_n 0, 1) := by decide +kernel
theorem dX7_init_95 : decode cX7_init 95 = .ok (.bipush 10, 2) := by decide +kernel
theorem dX7_init_97 : decode cX7_init 97 = .ok (.newarray .int, 2) := by decide +kernel
theorem dX7_init_99 : decode cX7_init 99 = .ok (.putfield 47, 3) := by decide +kernel
theorem dX7_init_102 : decode cX7_init 102 = .ok (.aload_n 0, 1) := by decide +kernel
theorem dX7_init_103 : decode cX7_init 103 = .ok (.bipush 8, 2) := by decide +kernel
theorem dX7_init_105 : decode cX7_init 105 = .ok (.newarray .int, 2) := by decide +kernel
theorem dX7_init_107 : decode cX7_init 107 = .ok (.putfield 50, 3) := by decide +kernel
theorem dX7_init_110 : decode cX7_init 110 = .ok (.aload_n 0, 1) := by decide +kernel
theorem dX7_init_111 : decode cX7_init 111 = .ok (.bipush 8, 2) := by decide +kernel
theorem dX7_init_113 : decode cX7_init 113 = .ok (.newarray .int, 2) := by decide +kernel
theorem dX7_init_115 : decode cX7_init 115 = .ok (.putfield 53, 3) := by decide +kernel
theorem dX7_init_118 : decode cX7_init 118 = .ok (.aload_n 0, 1) := by decide +kernel
theorem dX7_init_119 : decode cX7_init 119 = .ok (.iconst 5, 1) := by decide +kernel
theorem dX7_init_120 : decode cX7_init 120 = .ok (.newarray .int, 2) := by decide +kernel
theorem dX7_init_122 : decode cX7_init 122 = .ok (.putfield 56, 3) := by decide +kernel
theorem dX7_init_125 : decode cX7_init 125 = .ok (.aload_n 0, 1) := by decide +kernel
theorem dX7_init_126 : decode cX7_init 126 = .ok (.sipush 1026, 3) := by decide +kernel
theorem dX7_init_129 : decode cX7_init 129 = .ok (.newarray .int, 2) := by decide +kernel
theorem dX7_init_131 : decode cX7_init 131 = .ok (.putfield 59, 3) := by decide +kernel
theorem dX7_init_134 : decode cX7_init 134 = .ok (.aload_n 0, 1) := by decide +kernel
theorem dX7_init_135 : decode cX7_init 135 = .ok (.bipush 31, 2) := by decide +kernel
theorem dX7_init_137 : decode cX7_init 137 = .ok (.newarray .int, 2) := by decide +kernel
theorem dX7_init_139 : decode cX7_init 139 = .ok (.putfield 62, 3) := by decide +kernel
theorem dX7_init_142 : decode cX7_init 142 = .ok (.aload_n 0, 1) := by decide +kernel
theorem dX7_init_143 : decode cX7_init 143 = .ok (.iconst 2, 1) := by decide +kernel
theorem dX7_init_144 : decode cX7_init 144 = .ok (.newarray .boolean, 2) := by decide +kernel
theorem dX7_init_146 : decode cX7_init 146 = .ok (.putfield 65, 3) := by decide +kernel
theorem dX7_init_149 : decode cX7_init 149 = .ok (.aload_n 0, 1) := by decide +kernel
theorem dX7_init_150 : decode cX7_init 150 = .ok (.iconst 3, 1) := by decide +kernel
theorem dX7_init_151 : decode cX7_init 151 = .ok (.newarray .int, 2) := by decide +kernel
theorem dX7_init_153 : decode cX7_init 153 = .ok (.putfield 69, 3) := by decide +kernel
theorem dX7_init_156 : decode cX7_init 156 = .ok (.aload_n 0, 1) := by decide +kernel
theorem dX7_init_157 : decode cX7_init 157 = .ok (.iconst 3, 1) := by decide +kernel
theorem dX7_init_158 : decode cX7_init 158 = .ok (.newarray .int, 2) := by decide +kernel
theorem dX7_init_160 : decode cX7_init 160 = .ok (.putfield 72, 3) := by decide +kernel
theorem dX7_init_163 : decode cX7_init 163 = .ok (.aload_n 0, 1) := by decide +kernel
theorem dX7_init_164 : decode cX7_init 164 = .ok (.iconst 3, 1) := by decide +kernel
theorem dX7_init_165 : decode cX7_init 165 = .ok (.newarray .int, 2) := by decide +kernel
theorem dX7_init_167 : decode cX7_init 167 = .ok (.putfield 75, 3) := by decide +kernel
theorem dX7_init_170 : decode cX7_init 170 = .ok (.aload_n 0, 1) := by decide +kernel
theorem dX7_init_171 : decode cX7_init 171 = .ok (.iconst 3, 1) := by decide +kernel
theorem dX7_init_172 : decode cX7_init 172 = .ok (.newarray .int, 2) := by decide +kernel
theorem dX7_init_174 : decode cX7_init 174 = .ok (.putfield 78, 3) := by decide +kernel
theorem dX7_init_177 : decode cX7_init 177 = .ok (.aload_n 0, 1) := by decide +kernel
theorem dX7_init_178 : decode cX7_init 178 = .ok (.bipush 112, 2) := by decide +kernel
theorem dX7_init_180 : decode cX7_init 180 = .ok (.newarray .long, 2) := by decide +kernel
theorem dX7_init_182 : decode cX7_init 182 = .ok (.putfield 81, 3) := by decide +kernel
theorem dX7_init_185 : decode cX7_init 185 = .ok (.aload_n 0, 1) := by decide +kernel
theorem dX7_init_186 : decode cX7_init 186 = .ok (.bipush 112, 2) := by decide +kernel
theorem dX7_init_188 : decode cX7_init 188 = .ok (.newarray .long, 2) := by decide +kernel
theorem dX7_init_190 : decode cX7_init 190 = .ok (.putfield 85, 3) := by decide +kernel
theorem dX7_init_193 : decode cX7_init 193 = .ok (.aload_n 0, 1) := by decide +kernel
theorem dX7_init_194 : decode cX7_init 194 = .ok (.getfield 13, 3) := by decide +kernel
theorem dX7_init_197 : decode cX7_init 197 = .ok (.iconst 0, 1) := by decide +kernel
theorem dX7_init_198 : decode cX7_init 198 = .ok (.bipush 8, 2) := by decide +kernel
theorem dX7_init_200 : decode cX7_init 200 = .ok (.iastore, 1) := by decide +kernel
theorem dX7_init_201 : decode cX7_init 201 = .ok (.aload_n 0, 1) := by decide +kernel
theorem dX7_init_202 : decode cX7_init 202 = .ok (.getfield 17, 3) := by decide +kernel
theorem dX7_init_205 : decode cX7_init 205 = .ok (.iconst 0, 1) := by decide +kernel
theorem dX7_init_206 : decode cX7_init 206 = .ok (.iconst 3, 1) := by decide +kernel
theorem dX7_init_207 : decode cX7_init 207 = .ok (.iastore, 1) := by decide +kernel
theorem dX7_init_208 : decode cX7_init 208 = .ok (.aload_n 0, 1) := by decide +kernel
theorem dX7_init_209 : decode cX7_init 209 = .ok (.getfield 20, 3) := by decide +kernel
theorem dX7_init_212 : decode cX7_init 212 = .ok (.iconst 0, 1) := by decide +kernel
theorem dX7_init_213 : decode cX7_init 213 = .ok (.iconst 5, 1) := by decide +kernel
theorem dX7_init_214 : decode cX7_init 214 = .ok (.iastore, 1) := by decide +kernel
theorem dX7_init_215 : decode cX7_init 215 = .ok (.aload_n 0, 1) := by decide +kernel
theorem dX7_init_216 : decode cX7_init 216 = .ok (.getfield 23, 3) := by decide +kernel
theorem dX7_init_219 : decode cX7_init 219 = .ok (.iconst 0, 1) := by decide +kernel
theorem dX7_init_220 : decode cX7_init 220 = .ok (.bipush (-9), 2) := by decide +kernel
theorem dX7_init_222 : decode cX7_init 222 = .ok (.iastore, 1) := by decide +kernel
theorem dX7_init_223 : decode cX7_init 223 = .ok (.iconst 0, 1) := by decide +kernel
theorem dX7_init_224 : decode cX7_init 224 = .ok (.istore_n 1, 1) := by decide +kernel
theorem dX7_init_225 : decode cX7_init 225 = .ok (.iload_n 1, 1) := by decide +kernel
theorem dX7_init_226 : decode cX7_init 226 = .ok (.bipush 12, 2) := by decide +kernel
theorem dX7_init_228 : decode cX7_init 228 = .ok (.if_icmp .ge 16, 3) := by decide +kernel
theorem dX7_init_231 : decode cX7_init 231 = .ok (.aload_n 0, 1) := by decide +kernel
theorem dX7_init_232 : decode cX7_init 232 = .ok (.getfield 35, 3) := by decide +kernel
theorem dX7_init_235 : decode cX7_init 235 = .ok (.iload_n 1, 1) := by decide +kernel
theorem dX7_init_236 : decode cX7_init 236 = .ok (.iconst 1, 1) := by decide +kernel
theorem dX7_init_237 : decode cX7_init 237 = .ok (.iastore, 1) := by decide +kernel
theorem dX7_init_238 : decode cX7_init 238 = .ok (.iinc 1 1, 3) := by decide +kernel
theorem dX7_init_241 : decode cX7_init 241 = .ok (.goto (-16), 3) := by decide +kernel
theorem dX7_init_244 : decode cX7_init 244 = .ok (.return_, 1) := by decide +kernel
theorem dX7_in_0 : decode cX7_in 0 = .ok (.iload_n 0, 1) := by decide +kernel
theorem dX7_in_1 : decode cX7_in 1 = .ok (.iload_n 1, 1) := by decide +kernel
theorem dX7_in_2 : decode cX7_in 2 = .ok (.if_icmp .lt 12, 3) := by decide +kernel
theorem dX7_in_5 : decode cX7_in 5 = .ok (.iload_n 0, 1) := by decide +kernel
theorem dX7_in_6 : decode cX7_in 6 = .ok (.iload_n 2, 1) := by decide +kernel
theorem dX7_in_7 : decode cX7_in 7 = .ok (.if_icmp .gt 7, 3) := by decide +kernel
theorem dX7_in_10 : decode cX7_in 10 = .ok (.iconst 1, 1) := by decide +kernel
theorem dX7_in_11 : decode cX7_in 11 = .ok (.goto 4, 3) := by decide +kernel
theorem dX7_in_14 : decode cX7_in 14 = .ok (.iconst 0, 1) := by decide +kernel
theorem dX7_in_15 : decode cX7_in 15 = .ok (.ireturn, 1) := by decide +kernel
theorem dX7_type_0 : decode cX7_type 0 = .ok (.iload_n 1, 1) := by decide +kernel
theorem dX7_type_1 : decode cX7_type 1 = .ok (.iconst 0, 1) := by decide +kernel
theorem dX7_type_2 : decode cX7_type 2 = .ok (.sipush 255, 3) := by decide +kernel
theorem dX7_type_5 : decode cX7_type 5 = .ok (.invokestatic 88, 3) := by decide +kernel
theorem dX7_type_8 : decode cX7_type 8 = .ok (.ifCond .ne 5, 3) := by decide +kernel
theorem dX7_type_11 : decode cX7_type 11 = .ok (.iconst (-1), 1) := by decide +kernel
theorem dX7_type_12 : decode cX7_type 12 = .ok (.ireturn, 1) := by decide +kernel
theorem dX7_type_13 : decode cX7_type 13 = .ok (.aload_n 0, 1) := by decide +kernel
theorem dX7_type_14 : decode cX7_type 14 = .ok (.getfield 92, 3) := by decide +kernel
theorem dX7_type_17 : decode cX7_type 17 = .ok (.sipush 200, 3) := by decide +kernel
theorem dX7_type_20 : decode cX7_type 20 = .ok (.if_icmp .ne 6, 3) := by decide +kernel
theorem dX7_type_23 : decode cX7_type 23 = .ok (.bipush (-3), 2) := by decide +kernel
theorem dX7_type_25 : decode cX7_type 25 = .ok (.ireturn, 1) := by decide +kernel
theorem dX7_type_26 : decode cX7_type 26 = .ok (.aload_n 0, 1) := by decide +kernel
theorem dX7_type_27 : decode cX7_type 27 = .ok (.getfield 7, 3) := by decide +kernel
theorem dX7_type_30 : decode cX7_type 30 = .ok (.aload_n 0, 1) := by decide +kernel
theorem dX7_type_31 : decode cX7_type 31 = .ok (.getfield 92, 3) := by decide +kernel
theorem dX7_type_34 : decode cX7_type 34 = .ok (.iload_n 1, 1) := by decide +kernel
theorem dX7_type_35 : decode cX7_type 35 = .ok (.i2b, 1) := by decide +kernel
theorem dX7_type_36 : decode cX7_type 36 = .ok (.bastore, 1) := by decide +kernel
theorem dX7_type_37 : decode cX7_type 37 = .ok (.aload_n 0, 1) := by decide +kernel
theorem dX7_type_38 : decode cX7_type 38 = .ok (.dup, 1) := by decide +kernel
theorem dX7_type_39 : decode cX7_type 39 = .ok (.getfield 92, 3) := by decide +kernel
theorem dX7_type_42 : decode cX7_type 42 = .ok (.iconst 1, 1) := by decide +kernel
theorem dX7_type_43 : decode cX7_type 43 = .ok (.iadd, 1) := by decide +kernel
theorem dX7_type_44 : decode cX7_type 44 = .ok (.putfield 92, 3) := by decide +kernel
theorem dX7_type_47 : decode cX7_type 47 = .ok (.aload_n 0, 1) := by decide +kernel
theorem dX7_type_48 : decode cX7_type 48 = .ok (.getfield 92, 3) := by decide +kernel
theorem dX7_type_51 : decode cX7_type 51 = .ok (.ireturn, 1) := by decide +kernel
theorem dX7_clear_0 : decode cX7_clear 0 = .ok (.aload_n 0, 1) := by decide +kernel
theorem dX7_clear_1 : decode cX7_clear 1 = .ok (.getfield 92, 3) := by decide +kernel
theorem dX7_clear_4 : decode cX7_clear 4 = .ok (.istore_n 1, 1) := by decide +kernel
theorem dX7_clear_5 : decode cX7_clear 5 = .ok (.aload_n 0, 1) := by decide +kernel
theorem dX7_clear_6 : decode cX7_clear 6 = .ok (.iconst 0, 1) := by decide +kernel
theorem dX7_clear_7 : decode cX7_clear 7 = .ok (.putfield 92, 3) := by decide +kernel
theorem dX7_clear_10 : decode cX7_clear 10 = .ok (.iload_n 1, 1) := by decide +kernel
theorem dX7_clear_11 : decode cX7_clear 11 = .ok (.ireturn, 1) := by decide +kernel
theorem dX7_here_0 : decode cX7_here 0 = .ok (.aload_n 0, 1) := by decide +kernel
theorem dX7_here_1 : decode cX7_here 1 = .ok (.getfield 96, 3) := by decide +kernel
theorem dX7_here_4 : decode cX7_here 4 = .ok (.aload_n 0, 1) := by decide +kernel
theorem dX7_here_5 : decode cX7_here 5 = .ok (.getfield 92, 3) := by decide +kernel
theorem dX7_here_8 : decode cX7_here 8 = .ok (.if_icmp .ge 19, 3) := by decide +kernel
theorem dX7_here_11 : decode cX7_here 11 = .ok (.aload_n 0, 1) := by decide +kernel
theorem dX7_here_12 : decode cX7_here 12 = .ok (.getfield 7, 3) := by decide +kernel
theorem dX7_here_15 : decode cX7_here 15 = .ok (.aload_n 0, 1) := by decide +kernel
theorem dX7_here_16 : decode cX7_here 16 = .ok (.getfield 96, 3) := by decide +kernel
theorem dX7_here_19 : decode cX7_here 19 = .ok (.baload, 1) := by decide +kernel
theorem dX7_here_20 : decode cX7_here 20 = .ok (.sipush 255, 3) := by decide +kernel
theorem dX7_here_23 : decode cX7_here 23 = .ok (.iand, 1) := by decide +kernel
theorem dX7_here_24 : decode cX7_here 24 = .ok (.goto 4, 3) := by decide +kernel
theorem dX7_here_27 : decode cX7_here 27 = .ok (.iconst (-1), 1) := by decide +kernel
theorem dX7_here_28 : decode cX7_here 28 = .ok (.ireturn, 1) := by decide +kernel
theorem dX7_next_0 : decode cX7_next 0 = .ok (.aload_n 0, 1) := by decide +kernel
theorem dX7_next_1 : decode cX7_next 1 = .ok (.invokevirtual 99, 3) := by decide +kernel
theorem dX7_next_4 : decode cX7_next 4 = .ok (.bipush 32, 2) := by decide +kernel
theorem dX7_next_6 : decode cX7_next 6 = .ok (.if_icmp .ne 16, 3) := by decide +kernel
theorem dX7_next_9 : decode cX7_next 9 = .ok (.aload_n 0, 1) := by decide +kernel
theorem dX7_next_10 : decode cX7_next 10 = .ok (.dup, 1) := by decide +kernel
theorem dX7_next_11 : decode cX7_next 11 = .ok (.getfield 96, 3) := by decide +kernel
theorem dX7_next_14 : decode cX7_next 14 = .ok (.iconst 1, 1) := by decide +kernel
theorem dX7_next_15 : decode cX7_next 15 = .ok (.iadd, 1) := by decide +kernel
theorem dX7_next_16 : decode cX7_next 16 = .ok (.putfield 96, 3) := by decide +kernel
theorem dX7_next_19 : decode cX7_next 19 = .ok (.goto (-19), 3) := by decide +kernel
theorem dX7_next_22 : decode cX7_next 22 = .ok (.aload_n 0, 1) := by decide +kernel
theorem dX7_next_23 : decode cX7_next 23 = .ok (.aload_n 0, 1) := by decide +kernel
theorem dX7_next_24 : decode cX7_next 24 = .ok (.getfield 96, 3) := by decide +kernel
theorem dX7_next_27 : decode cX7_next 27 = .ok (.putfield 103, 3) := by decide +kernel
theorem dX7_next_30 : decode cX7_next 30 = .ok (.aload_n 0, 1) := by decide +kernel
theorem dX7_next_31 : decode cX7_next 31 = .ok (.iconst 0, 1) := by decide +kernel
theorem dX7_next_32 : decode cX7_next 32 = .ok (.putfield 106, 3) := by decide +kernel
theorem dX7_next_35 : decode cX7_next 35 = .ok (.aload_n 0, 1) := by decide +kernel
theorem dX7_next_36 : decode cX7_next 36 = .ok (.invokevirtual 99, 3) := by decide +kernel
theorem dX7_next_39 : decode cX7_next 39 = .ok (.istore_n 1, 1) := by decide +kernel
theorem dX7_next_40 : decode cX7_next 40 = .ok (.iload_n 1, 1) := by decide +kernel
theorem dX7_next_41 : decode cX7_next 41 = .ok (.ifCond .ge 11, 3) := by decide +kernel
theorem dX7_next_44 : decode cX7_next 44 = .ok (.aload_n 0, 1) := by decide +kernel
theorem dX7_next_45 : decode cX7_next 45 = .ok (.iconst 3, 1) := by decide +kernel
theorem dX7_next_46 : decode cX7_next 46 = .ok (.putfield 109, 3) := by decide +kernel
theorem dX7_next_49 : decode cX7_next 49 = .ok (.goto 204, 3) := by decide +kernel
theorem dX7_next_52 : decode cX7_next 52 = .ok (.iload_n 1, 1) := by decide +kernel
theorem dX7_next_53 : decode cX7_next 53 = .ok (.bipush 97, 2) := by decide +kernel
theorem dX7_next_55 : decode cX7_next 55 = .ok (.bipush 122, 2) := by decide +kernel
theorem dX7_next_57 : decode cX7_next 57 = .ok (.invokestatic 88, 3) := by decide +kernel
theorem dX7_next_60 : decode cX7_next 60 = .ok (.ifCond .eq 55, 3) := by decide +kernel
theorem dX7_next_63 : decode cX7_next 63 = .ok (.aload_n 0, 1) := by decide +kernel
theorem dX7_next_64 : decode cX7_next 64 = .ok (.invokevirtual 99, 3) := by decide +kernel
theorem dX7_next_67 : decode cX7_next 67 = .ok (.bipush 97, 2) := by decide +kernel
theorem dX7_next_69 : decode cX7_next 69 = .ok (.bipush 122, 2) := by decide +kernel
theorem dX7_next_71 : decode cX7_next 71 = .ok (.invokestatic 88, 3) := by decide +kernel
theorem dX7_next_74 : decode cX7_next 74 = .ok (.ifCond .eq 16, 3) := by decide +kernel
theorem dX7_next_77 : decode cX7_next 77 = .ok (.aload_n 0, 1) := by decide +kernel
theorem dX7_next_78 : decode cX7_next 78 = .ok (.dup, 1) := by decide +kernel
theorem dX7_next_79 : decode cX7_next 79 = .ok (.getfield 96, 3) := by decide +kernel
theorem dX7_next_82 : decode cX7_next 82 = .ok (.iconst 1, 1) := by decide +kernel
theorem dX7_next_83 : decode cX7_next 83 = .ok (.iadd, 1) := by decide +kernel
theorem dX7_next_84 : decode cX7_next 84 = .ok (.putfield 96, 3) := by decide +kernel
theorem dX7_next_87 : decode cX7_next 87 = .ok (.goto (-24), 3) := by decide +kernel
theorem dX7_next_90 : decode cX7_next 90 = .ok (.aload_n 0, 1) := by decide +kernel
theorem dX7_next_91 : decode cX7_next 91 = .ok (.aload_n 0, 1) := by decide +kernel
theorem dX7_next_92 : decode cX7_next 92 = .ok (.getfield 96, 3) := by decide +kernel
theorem dX7_next_95 : decode cX7_next 95 = .ok (.aload_n 0, 1) := by decide +kernel
theorem dX7_next_96 : decode cX7_next 96 = .ok (.getfield 103, 3) := by decide +kernel
theorem dX7_next_99 : decode cX7_next 99 = .ok (.isub, 1) := by decide +kernel
theorem dX7_next_100 : decode cX7_next 100 = .ok (.iconst 1, 1) := by decide +kernel
theorem dX7_next_101 : decode cX7_next 101 = .ok (.if_icmp .ne 7, 3) := by decide +kernel
theorem dX7_next_104 : decode cX7_next 104 = .ok (.iload_n 1, 1) := by decide +kernel
theorem dX7_next_105 : decode cX7_next 105 = .ok (.goto 4, 3) := by decide +kernel
theorem dX7_next_108 : decode cX7_next 108 = .ok (.iconst 4, 1) := by decide +kernel
theorem dX7_next_109 : decode cX7_next 109 = .ok (.putfield 109, 3) := by decide +kernel
theorem dX7_next_112 : decode cX7_next 112 = .ok (.goto 141, 3) := by decide +kernel
theorem dX7_next_115 : decode cX7_next 115 = .ok (.iload_n 1, 1) := by decide +kernel
theorem dX7_next_116 : decode cX7_next 116 = .ok (.bipush 48, 2) := by decide +kernel
theorem dX7_next_118 : decode cX7_next 118 = .ok (.bipush 57, 2) := by decide +kernel
theorem dX7_next_120 : decode cX7_next 120 = .ok (.invokestatic 88, 3) := by decide +kernel
theorem dX7_next_123 : decode cX7_next 123 = .ok (.ifCond .eq 105, 3) := by decide +kernel
theorem dX7_next_126 : decode cX7_next 126 = .ok (.aload_n 0, 1) := by decide +kernel
theorem dX7_next_127 : decode cX7_next 127 = .ok (.invokevirtual 99, 3) := by decide +kernel
theorem dX7_next_130 : decode cX7_next 130 = .ok (.bipush 48, 2) := by decide +kernel
theorem dX7_next_132 : decode cX7_next 132 = .ok (.bipush 57, 2) := by decide +kernel
theorem dX7_next_134 : decode cX7_next 134 = .ok (.invokestatic 88, 3) := by decide +kernel
theorem dX7_next_137 : decode cX7_next 137 = .ok (.ifCond .eq 51, 3) := by decide +kernel
theorem dX7_next_140 : decode cX7_next 140 = .ok (.aload_n 0, 1) := by decide +kernel
theorem dX7_next_141 : decode cX7_next 141 = .ok (.aload_n 0, 1) := by decide +kernel
theorem dX7_next_142 : decode cX7_next 142 = .ok (.getfield 106, 3) := by decide +kernel
theorem dX7_next_145 : decode cX7_next 145 = .ok (.bipush 99, 2) := by decide +kernel
theorem dX7_next_147 : decode cX7_next 147 = .ok (.if_icmp .le 10, 3) := by decide +kernel
theorem dX7_next_150 : decode cX7_next 150 = .ok (.aload_n 0, 1) := by decide +kernel
theorem dX7_next_151 : decode cX7_next 151 = .ok (.getfield 106, 3) := by decide +kernel
theorem dX7_next_154 : decode cX7_next 154 = .ok (.goto 18, 3) := by decide +kernel
theorem dX7_next_157 : decode cX7_next 157 = .ok (.bipush 10, 2) := by decide +kernel
theorem dX7_next_159 : decode cX7_next 159 = .ok (.aload_n 0, 1) := by decide +kernel
theorem dX7_next_160 : decode cX7_next 160 = .ok (.getfield 106, 3) := by decide +kernel
theorem dX7_next_163 : decode cX7_next 163 = .ok (.imul, 1) := by decide +kernel
theorem dX7_next_164 : decode cX7_next 164 = .ok (.aload_n 0, 1) := by decide +kernel
theorem dX7_next_165 : decode cX7_next 165 = .ok (.invokevirtual 99, 3) := by decide +kernel
theorem dX7_next_168 : decode cX7_next 168 = .ok (.iadd, 1) := by decide +kernel
theorem dX7_next_169 : decode cX7_next 169 = .ok (.bipush 48, 2) := by decide +kernel
theorem dX7_next_171 : decode cX7_next 171 = .ok (.isub, 1) := by decide +kernel
theorem dX7_next_172 : decode cX7_next 172 = .ok (.putfield 106, 3) := by decide +kernel
theorem dX7_next_175 : decode cX7_next 175 = .ok (.aload_n 0, 1) := by decide +kernel
theorem dX7_next_176 : decode cX7_next 176 = .ok (.dup, 1) := by decide +kernel
theorem dX7_next_177 : decode cX7_next 177 = .ok (.getfield 96, 3) := by decide +kernel
theorem dX7_next_180 : decode cX7_next 180 = .ok (.iconst 1, 1) := by decide +kernel
theorem dX7_next_181 : decode cX7_next 181 = .ok (.iadd, 1) := by decide +kernel
theorem dX7_next_182 : decode cX7_next 182 = .ok (.putfield 96, 3) := by decide +kernel
theorem dX7_next_185 : decode cX7_next 185 = .ok (.goto (-59), 3) := by decide +kernel
theorem dX7_next_188 : decode cX7_next 188 = .ok (.aload_n 0, 1) := by decide +kernel
theorem dX7_next_189 : decode cX7_next 189 = .ok (.aload_n 0, 1) := by decide +kernel
theorem dX7_next_190 : decode cX7_next 190 = .ok (.getfield 106, 3) := by decide +kernel
theorem dX7_next_193 : decode cX7_next 193 = .ok (.bipush 99, 2) := by decide +kernel
theorem dX7_next_195 : decode cX7_next 195 = .ok (.if_icmp .gt 22, 3) := by decide +kernel
theorem dX7_next_198 : decode cX7_next 198 = .ok (.iload_n 1, 1) := by decide +kernel
theorem dX7_next_199 : decode cX7_next 199 = .ok (.bipush 48, 2) := by decide +kernel
theorem dX7_next_201 : decode cX7_next 201 = .ok (.if_icmp .ne 20, 3) := by decide +kernel
theorem dX7_next_204 : decode cX7_next 204 = .ok (.aload_n 0, 1) := by decide +kernel
theorem dX7_next_205 : decode cX7_next 205 = .ok (.getfield 96, 3) := by decide +kernel
theorem dX7_next_208 : decode cX7_next 208 = .ok (.aload_n 0, 1) := by decide +kernel
theorem dX7_next_209 : decode cX7_next 209 = .ok (.getfield 103, 3) := by decide +kernel
theorem dX7_next_212 : decode cX7_next 212 = .ok (.isub, 1) := by decide +kernel
theorem dX7_next_213 : decode cX7_next 213 = .ok (.iconst 1, 1) := by decide +kernel
theorem dX7_next_214 : decode cX7_next 214 = .ok (.if_icmp .le 7, 3) := by decide +kernel
theorem dX7_next_217 : decode cX7_next 217 = .ok (.iconst 4, 1) := by decide +kernel
theorem dX7_next_218 : decode cX7_next 218 = .ok (.goto 4, 3) := by decide +kernel
theorem dX7_next_221 : decode cX7_next 221 = .ok (.iconst 1, 1) := by decide +kernel
theorem dX7_next_222 : decode cX7_next 222 = .ok (.putfield 109, 3) := by decide +kernel
theorem dX7_next_225 : decode cX7_next 225 = .ok (.goto 28, 3) := by decide +kernel
theorem dX7_next_228 : decode cX7_next 228 = .ok (.aload_n 0, 1) := by decide +kernel
theorem dX7_next_229 : decode cX7_next 229 = .ok (.dup, 1) := by decide +kernel
theorem dX7_next_230 : decode cX7_next 230 = .ok (.getfield 96, 3) := by decide +kernel
theorem dX7_next_233 : decode cX7_next 233 = .ok (.iconst 1, 1) := by decide +kernel
theorem dX7_next_234 : decode cX7_next 234 = .ok (.iadd, 1) := by decide +kernel
theorem dX7_next_235 : decode cX7_next 235 = .ok (.putfield 96, 3) := by decide +kernel
theorem dX7_next_238 : decode cX7_next 238 = .ok (.aload_n 0, 1) := by decide +kernel
theorem dX7_next_239 : decode cX7_next 239 = .ok (.iload_n 1, 1) := by decide +kernel
theorem dX7_next_240 : decode cX7_next 240 = .ok (.bipush 59, 2) := by decide +kernel
theorem dX7_next_242 : decode cX7_next 242 = .ok (.if_icmp .ne 7, 3) := by decide +kernel
theorem dX7_next_245 : decode cX7_next 245 = .ok (.iconst 2, 1) := by decide +kernel
theorem dX7_next_246 : decode cX7_next 246 = .ok (.goto 4, 3) := by decide +kernel
theorem dX7_next_249 : decode cX7_next 249 = .ok (.iconst 4, 1) := by decide +kernel
theorem dX7_next_250 : decode cX7_next 250 = .ok (.putfield 109, 3) := by decide +kernel
theorem dX7_next_253 : decode cX7_next 253 = .ok (.return_, 1) := by decide +kernel
theorem dX7_due_0 : decode cX7_due 0 = .ok (.aload_n 0, 1) := by decide +kernel
theorem dX7_due_1 : decode cX7_due 1 = .ok (.getfield 106, 3) := by decide +kernel
theorem dX7_due_4 : decode cX7_due 4 = .ok (.istore_n 2, 1) := by decide +kernel
theorem dX7_due_5 : decode cX7_due 5 = .ok (.aload_n 0, 1) := by decide +kernel
theorem dX7_due_6 : decode cX7_due 6 = .ok (.getfield 112, 3) := by decide +kernel
theorem dX7_due_9 : decode cX7_due 9 = .ok (.bipush (-9), 2) := by decide +kernel
theorem dX7_due_11 : decode cX7_due 11 = .ok (.if_icmp .ne 22, 3) := by decide +kernel
theorem dX7_due_14 : decode cX7_due 14 = .ok (.iload_n 1, 1) := by decide +kernel
theorem dX7_due_15 : decode cX7_due 15 = .ok (.ifCond .eq 10, 3) := by decide +kernel
theorem dX7_due_18 : decode cX7_due 18 = .ok (.aload_n 0, 1) := by decide +kernel
theorem dX7_due_19 : decode cX7_due 19 = .ok (.invokevirtual 115, 3) := by decide +kernel
theorem dX7_due_22 : decode cX7_due 22 = .ok (.goto 11, 3) := by decide +kernel
theorem dX7_due_25 : decode cX7_due 25 = .ok (.aload_n 0, 1) := by decide +kernel
theorem dX7_due_26 : decode cX7_due 26 = .ok (.aload_n 0, 1) := by decide +kernel
theorem dX7_due_27 : decode cX7_due 27 = .ok (.getfield 103, 3) := by decide +kernel
theorem dX7_due_30 : decode cX7_due 30 = .ok (.putfield 112, 3) := by decide +kernel
theorem dX7_due_33 : decode cX7_due 33 = .ok (.iload_n 2, 1) := by decide +kernel
theorem dX7_due_34 : decode cX7_due 34 = .ok (.ireturn, 1) := by decide +kernel
theorem dX7_number_0 : decode cX7_number 0 = .ok (.aload_n 0, 1) := by decide +kernel
theorem dX7_number_1 : decode cX7_number 1 = .ok (.aload_n 0, 1) := by decide +kernel
theorem dX7_number_2 : decode cX7_number 2 = .ok (.getfield 109, 3) := by decide +kernel
theorem dX7_number_5 : decode cX7_number 5 = .ok (.iconst 1, 1) := by decide +kernel
theorem dX7_number_6 : decode cX7_number 6 = .ok (.if_icmp .ne 19, 3) := by decide +kernel
theorem dX7_number_9 : decode cX7_number 9 = .ok (.aload_n 0, 1) := by decide +kernel
theorem dX7_number_10 : decode cX7_number 10 = .ok (.getfield 106, 3) := by decide +kernel
theorem dX7_number_13 : decode cX7_number 13 = .ok (.iload_n 1, 1) := by decide +kernel
theorem dX7_number_14 : decode cX7_number 14 = .ok (.iload_n 2, 1) := by decide +kernel
theorem dX7_number_15 : decode cX7_number 15 = .ok (.invokestatic 88, 3) := by decide +kernel
theorem dX7_number_18 : decode cX7_number 18 = .ok (.ifCond .eq 7, 3) := by decide +kernel
theorem dX7_number_21 : decode cX7_number 21 = .ok (.iconst 1, 1) := by decide +kernel
theorem dX7_number_22 : decode cX7_number 22 = .ok (.goto 4, 3) := by decide +kernel
theorem dX7_number_25 : decode cX7_number 25 = .ok (.iconst 0, 1) := by decide +kernel
theorem dX7_number_26 : decode cX7_number 26 = .ok (.invokevirtual 118, 3) := by decide +kernel
theorem dX7_number_29 : decode cX7_number 29 = .ok (.ireturn, 1) := by decide +kernel
theorem dX7_placeTold_0 : decode cX7_placeTold 0 = .ok (.aload_n 0, 1) := by decide +kernel
theorem dX7_placeTold_1 : decode cX7_placeTold 1 = .ok (.iconst 0, 1) := by decide +kernel
theorem dX7_placeTold_2 : decode cX7_placeTold 2 = .ok (.aload_n 0, 1) := by decide +kernel
theorem dX7_placeTold_3 : decode cX7_placeTold 3 = .ok (.getfield 13, 3) := by decide +kernel
theorem dX7_placeTold_6 : decode cX7_placeTold 6 = .ok (.iconst 1, 1) := by decide +kernel
theorem dX7_placeTold_7 : decode cX7_placeTold 7 = .ok (.iaload, 1) := by decide +kernel
theorem dX7_placeTold_8 : decode cX7_placeTold 8 = .ok (.iconst 1, 1) := by decide +kernel
theorem dX7_placeTold_9 : decode cX7_placeTold 9 = .ok (.isub, 1) := by decide +kernel
theorem dX7_placeTold_10 : decode cX7_placeTold 10 = .ok (.invokevirtual 122, 3) := by decide +kernel
theorem dX7_placeTold_13 : decode cX7_placeTold 13 = .ok (.ireturn, 1) := by decide +kernel
theorem dX7_mayBe_0 : decode cX7_mayBe 0 = .ok (.iload_n 1, 1) := by decide +kernel
theorem dX7_mayBe_1 : decode cX7_mayBe 1 = .ok (.tableswitch 176 98 119 #[131, 116, 176, 176, 176, 176, 160, 176, 176, 176, 176, 176, 176, 176, 116, 176, 103, 118, 176, 176, 176, 144], 103) := by decide +kernel
theorem dX7_mayBe_104 : decode cX7_mayBe 104 = .ok (.aload_n 0, 1) := by decide +kernel
theorem dX7_mayBe_105 : decode cX7_mayBe 105 = .ok (.getfield 126, 3) := by decide +kernel
theorem dX7_mayBe_108 : decode cX7_mayBe 108 = .ok (.ifCond .ne 7, 3) := by decide +kernel
theorem dX7_mayBe_111 : decode cX7_mayBe 111 = .ok (.iconst 1, 1) := by decide +kernel
theorem dX7_mayBe_112 : decode cX7_mayBe 112 = .ok (.goto 4, 3) := by decide +kernel
theorem dX7_mayBe_115 : decode cX7_mayBe 115 = .ok (.iconst 0, 1) := by decide +kernel
theorem dX7_mayBe_116 : decode cX7_mayBe 116 = .ok (.ireturn, 1) := by decide +kernel
theorem dX7_mayBe_117 : decode cX7_mayBe 117 = .ok (.iconst 1, 1) := by decide +kernel
theorem dX7_mayBe_118 : decode cX7_mayBe 118 = .ok (.ireturn, 1) := by decide +kernel
theorem dX7_mayBe_119 : decode cX7_mayBe 119 = .ok (.aload_n 0, 1) := by decide +kernel
theorem dX7_mayBe_120 : decode cX7_mayBe 120 = .ok (.getfield 129, 3) := by decide +kernel
theorem dX7_mayBe_123 : decode cX7_mayBe 123 = .ok (.ifCond .ne 7, 3) := by decide +kernel
theorem dX7_mayBe_126 : decode cX7_mayBe 126 = .ok (.iconst 1, 1) := by decide +kernel
theorem dX7_mayBe_127 : decode cX7_mayBe 127 = .ok (.goto 4, 3) := by decide +kernel
theorem dX7_mayBe_130 : decode cX7_mayBe 130 = .ok (.iconst 0, 1) := by decide +kernel
theorem dX7_mayBe_131 : decode cX7_mayBe 131 = .ok (.ireturn, 1) := by decide +kernel
theorem dX7_mayBe_132 : decode cX7_mayBe 132 = .ok (.aload_n 0, 1) := by decide +kernel
theorem dX7_mayBe_133 : decode cX7_mayBe 133 = .ok (.getfield 133, 3) := by decide +kernel
theorem dX7_mayBe_136 : decode cX7_mayBe 136 = .ok (.ifCond .ne 7, 3) := by decide +kernel
theorem dX7_mayBe_139 : decode cX7_mayBe 139 = .ok (.iconst 1, 1) := by decide +kernel
theorem dX7_mayBe_140 : decode cX7_mayBe 140 = .ok (.goto 4, 3) := by decide +kernel
theorem dX7_mayBe_143 : decode cX7_mayBe 143 = .ok (.iconst 0, 1) := by decide +kernel
theorem dX7_mayBe_144 : decode cX7_mayBe 144 = .ok (.ireturn, 1) := by decide +kernel
theorem dX7_mayBe_145 : decode cX7_mayBe 145 = .ok (.aload_n 0, 1) := by decide +kernel
theorem dX7_mayBe_146 : decode cX7_mayBe 146 = .ok (.getfield 29, 3) := by decide +kernel
theorem dX7_mayBe_149 : decode cX7_mayBe 149 = .ok (.iconst 1, 1) := by decide +kernel
theorem dX7_mayBe_150 : decode cX7_mayBe 150 = .ok (.iaload, 1) := by decide +kernel
theorem dX7_mayBe_151 : decode cX7_mayBe 151 = .ok (.iconst 5, 1) := by decide +kernel
theorem dX7_mayBe_152 : decode cX7_mayBe 152 = .ok (.if_icmp .ge 7, 3) := by decide +kernel
theorem dX7_mayBe_155 : decode cX7_mayBe 155 = .ok (.iconst 1, 1) := by decide +kernel
theorem dX7_mayBe_156 : decode cX7_mayBe 156 = .ok (.goto 4, 3) := by decide +kernel
theorem dX7_mayBe_159 : decode cX7_mayBe 159 = .ok (.iconst 0, 1) := by decide +kernel
theorem dX7_mayBe_160 : decode cX7_mayBe 160 = .ok (.ireturn, 1) := by decide +kernel
theorem dX7_mayBe_161 : decode cX7_mayBe 161 = .ok (.aload_n 0, 1) := by decide +kernel
theorem dX7_mayBe_162 : decode cX7_mayBe 162 = .ok (.getfield 32, 3) := by decide +kernel
theorem dX7_mayBe_165 : decode cX7_mayBe 165 = .ok (.iconst 1, 1) := by decide +kernel
theorem dX7_mayBe_166 : decode cX7_mayBe 166 = .ok (.iaload, 1) := by decide +kernel
theorem dX7_mayBe_167 : decode cX7_mayBe 167 = .ok (.iconst 4, 1) := by decide +kernel
theorem dX7_mayBe_168 : decode cX7_mayBe 168 = .ok (.if_icmp .ge 7, 3) := by decide +kernel
theorem dX7_mayBe_171 : decode cX7_mayBe 171 = .ok (.iconst 1, 1) := by decide +kernel
theorem dX7_mayBe_172 : decode cX7_mayBe 172 = .ok (.goto 4, 3) := by decide +kernel
theorem dX7_mayBe_175 : decode cX7_mayBe 175 = .ok (.iconst 0, 1) := by decide +kernel
theorem dX7_mayBe_176 : decode cX7_mayBe 176 = .ok (.ireturn, 1) := by decide +kernel
theorem dX7_mayBe_177 : decode cX7_mayBe 177 = .ok (.iconst 0, 1) := by decide +kernel
theorem dX7_mayBe_178 : decode cX7_mayBe 178 = .ok (.ireturn, 1) := by decide +kernel
theorem dX7_isFreeAtFirst_0 : decode cX7_isFreeAtFirst 0 = .ok (.iconst 1, 1) := by decide +kernel
theorem dX7_isFreeAtFirst_1 : decode cX7_isFreeAtFirst 1 = .ok (.istore_n 3, 1) := by decide +kernel
theorem dX7_isFreeAtFirst_2 : decode cX7_isFreeAtFirst 2 = .ok (.iconst 0, 1) := by decide +kernel
theorem dX7_isFreeAtFirst_3 : decode cX7_isFreeAtFirst 3 = .ok (.istore 4, 2) := by decide +kernel
theorem dX7_isFreeAtFirst_5 : decode cX7_isFreeAtFirst 5 = .ok (.iload 4, 2) := by decide +kernel
theorem dX7_isFreeAtFirst_7 : decode cX7_isFreeAtFirst 7 = .ok (.aload_n 0, 1) := by decide +kernel
theorem dX7_isFreeAtFirst_8 : decode cX7_isFreeAtFirst 8 = .ok (.getfield 29, 3) := by decide +kernel
theorem dX7_isFreeAtFirst_11 : decode cX7_isFreeAtFirst 11 = .ok (.iconst 1, 1) := by decide +kernel
theorem dX7_isFreeAtFirst_12 : decode cX7_isFreeAtFirst 12 = .ok (.iaload, 1) := by decide +kernel
theorem dX7_isFreeAtFirst_13 : decode cX7_isFreeAtFirst 13 = .ok (.if_icmp .ge 45, 3) := by decide +kernel
theorem dX7_isFreeAtFirst_16 : decode cX7_isFreeAtFirst 16 = .ok (.iload_n 3, 1) := by decide +kernel
theorem dX7_isFreeAtFirst_17 : decode cX7_isFreeAtFirst 17 = .ok (.ifCond .eq 33, 3) := by decide +kernel
theorem dX7_isFreeAtFirst_20 : decode cX7_isFreeAtFirst 20 = .ok (.aload_n 0, 1) := by decide +kernel
theorem dX7_isFreeAtFirst_21 : decode cX7_isFreeAtFirst 21 = .ok (.getfield 38, 3) := by decide +kernel
theorem dX7_isFreeAtFirst_24 : decode cX7_isFreeAtFirst 24 = .ok (.iconst 5, 1) := by decide +kernel
theorem dX7_isFreeAtFirst_25 : decode cX7_isFreeAtFirst 25 = .ok (.iload 4, 2) := by decide +kernel
theorem dX7_isFreeAtFirst_27 : decode cX7_isFreeAtFirst 27 = .ok (.iadd, 1) := by decide +kernel
theorem dX7_isFreeAtFirst_28 : decode cX7_isFreeAtFirst 28 = .ok (.iaload, 1) := by decide +kernel
theorem dX7_isFreeAtFirst_29 : decode cX7_isFreeAtFirst 29 = .ok (.iload_n 1, 1) := by decide +kernel
theorem dX7_isFreeAtFirst_30 : decode cX7_isFreeAtFirst 30 = .ok (.if_icmp .ne 16, 3) := by decide +kernel
theorem dX7_isFreeAtFirst_33 : decode cX7_isFreeAtFirst 33 = .ok (.aload_n 0, 1) := by decide +kernel
theorem dX7_isFreeAtFirst_34 : decode cX7_isFreeAtFirst 34 = .ok (.getfield 47, 3) := by decide +kernel
theorem dX7_isFreeAtFirst_37 : decode cX7_isFreeAtFirst 37 = .ok (.iconst 5, 1) := by decide +kernel
theorem dX7_isFreeAtFirst_38 : decode cX7_isFreeAtFirst 38 = .ok (.iload 4, 2) := by decide +kernel
theorem dX7_isFreeAtFirst_40 : decode cX7_isFreeAtFirst 40 = .ok (.iadd, 1) := by decide +kernel
theorem dX7_isFreeAtFirst_41 : decode cX7_isFreeAtFirst 41 = .ok (.iaload, 1) := by decide +kernel
theorem dX7_isFreeAtFirst_42 : decode cX7_isFreeAtFirst 42 = .ok (.iload_n 2, 1) := by decide +kernel
theorem dX7_isFreeAtFirst_43 : decode cX7_isFreeAtFirst 43 = .ok (.if_icmp .eq 7, 3) := by decide +kernel
theorem dX7_isFreeAtFirst_46 : decode cX7_isFreeAtFirst 46 = .ok (.iconst 1, 1) := by decide +kernel
theorem dX7_isFreeAtFirst_47 : decode cX7_isFreeAtFirst 47 = .ok (.goto 4, 3) := by decide +kernel
theorem dX7_isFreeAtFirst_50 : decode cX7_isFreeAtFirst 50 = .ok (.iconst 0, 1) := by decide +kernel
theorem dX7_isFreeAtFirst_51 : decode cX7_isFreeAtFirst 51 = .ok (.istore_n 3, 1) := by decide +kernel
theorem dX7_isFreeAtFirst_52 : decode cX7_isFreeAtFirst 52 = .ok (.iinc 4 1, 3) := by decide +kernel
theorem dX7_isFreeAtFirst_55 : decode cX7_isFreeAtFirst 55 = .ok (.goto (-50), 3) := by decide +kernel
theorem dX7_isFreeAtFirst_58 : decode cX7_isFreeAtFirst 58 = .ok (.iload_n 3, 1) := by decide +kernel
theorem dX7_isFreeAtFirst_59 : decode cX7_isFreeAtFirst 59 = .ok (.ireturn, 1) := by decide +kernel
theorem dX7_readWagon_0 : decode cX7_readWagon 0 = .ok (.iconst 5, 1) := by decide +kernel
theorem dX7_readWagon_1 : decode cX7_readWagon 1 = .ok (.aload_n 0, 1) := by decide +kernel
theorem dX7_readWagon_2 : decode cX7_readWagon 2 = .ok (.getfield 29, 3) := by decide +kernel
theorem dX7_readWagon_5 : decode cX7_readWagon 5 = .ok (.iconst 1, 1) := by decide +kernel
theorem dX7_readWagon_6 : decode cX7_readWagon 6 = .ok (.iaload, 1) := by decide +kernel
theorem dX7_readWagon_7 : decode cX7_readWagon 7 = .ok (.iadd, 1) := by decide +kernel
theorem dX7_readWagon_8 : decode cX7_readWagon 8 = .ok (.istore_n 1, 1) := by decide +kernel
theorem dX7_readWagon_9 : decode cX7_readWagon 9 = .ok (.aload_n 0, 1) := by decide +kernel
theorem dX7_readWagon_10 : decode cX7_readWagon 10 = .ok (.iconst 0, 1) := by decide +kernel
theorem dX7_readWagon_11 : decode cX7_readWagon 11 = .ok (.bipush 20, 2) := by decide +kernel
theorem dX7_readWagon_13 : decode cX7_readWagon 13 = .ok (.invokevirtual 122, 3) := by decide +kernel
theorem dX7_readWagon_16 : decode cX7_readWagon 16 = .ok (.istore_n 2, 1) := by decide +kernel
theorem dX7_readWagon_17 : decode cX7_readWagon 17 = .ok (.aload_n 0, 1) := by decide +kernel
theorem dX7_readWagon_18 : decode cX7_readWagon 18 = .ok (.getfield 41, 3) := by decide +kernel
theorem dX7_readWagon_21 : decode cX7_readWagon 21 = .ok (.iload_n 1, 1) := by decide +kernel
theorem dX7_readWagon_22 : decode cX7_readWagon 22 = .ok (.aload_n 0, 1) := by decide +kernel
theorem dX7_readWagon_23 : decode cX7_readWagon 23 = .ok (.iconst 0, 1) := by decide +kernel
theorem dX7_readWagon_24 : decode cX7_readWagon 24 = .ok (.iconst 3, 1) := by decide +kernel
theorem dX7_readWagon_25 : decode cX7_readWagon 25 = .ok (.invokevirtual 122, 3) := by decide +kernel
theorem dX7_readWagon_28 : decode cX7_readWagon 28 = .ok (.iastore, 1) := by decide +kernel
theorem dX7_readWagon_29 : decode cX7_readWagon 29 = .ok (.aload_n 0, 1) := by decide +kernel
theorem dX7_readWagon_30 : decode cX7_readWagon 30 = .ok (.getfield 44, 3) := by decide +kernel
theorem dX7_readWagon_33 : decode cX7_readWagon 33 = .ok (.iload_n 1, 1) := by decide +kernel
theorem dX7_readWagon_34 : decode cX7_readWagon 34 = .ok (.aload_n 0, 1) := by decide +kernel
theorem dX7_readWagon_35 : decode cX7_readWagon 35 = .ok (.iconst 0, 1) := by decide +kernel
theorem dX7_readWagon_36 : decode cX7_readWagon 36 = .ok (.bipush 9, 2) := by decide +kernel
theorem dX7_readWagon_38 : decode cX7_readWagon 38 = .ok (.invokevirtual 122, 3) := by decide +kernel
theorem dX7_readWagon_41 : decode cX7_readWagon 41 = .ok (.iastore, 1) := by decide +kernel
theorem dX7_readWagon_42 : decode cX7_readWagon 42 = .ok (.aload_n 0, 1) := by decide +kernel
theorem dX7_readWagon_43 : decode cX7_readWagon 43 = .ok (.getfield 47, 3) := by decide +kernel
theorem dX7_readWagon_46 : decode cX7_readWagon 46 = .ok (.iload_n 1, 1) := by decide +kernel
theorem dX7_readWagon_47 : decode cX7_readWagon 47 = .ok (.aload_n 0, 1) := by decide +kernel
theorem dX7_readWagon_48 : decode cX7_readWagon 48 = .ok (.aload_n 0, 1) := by decide +kernel
theorem dX7_readWagon_49 : decode cX7_readWagon 49 = .ok (.getfield 109, 3) := by decide +kernel
theorem dX7_readWagon_52 : decode cX7_readWagon 52 = .ok (.iconst 1, 1) := by decide +kernel
theorem dX7_readWagon_53 : decode cX7_readWagon 53 = .ok (.if_icmp .ne 27, 3) := by decide +kernel
theorem dX7_readWagon_56 : decode cX7_readWagon 56 = .ok (.aload_n 0, 1) := by decide +kernel
theorem dX7_readWagon_57 : decode cX7_readWagon 57 = .ok (.getfield 106, 3) := by decide +kernel
theorem dX7_readWagon_60 : decode cX7_readWagon 60 = .ok (.iconst 3, 1) := by decide +kernel
theorem dX7_readWagon_61 : decode cX7_readWagon 61 = .ok (.if_icmp .ge 19, 3) := by decide +kernel
theorem dX7_readWagon_64 : decode cX7_readWagon 64 = .ok (.aload_n 0, 1) := by decide +kernel
theorem dX7_readWagon_65 : decode cX7_readWagon 65 = .ok (.iload_n 2, 1) := by decide +kernel
theorem dX7_readWagon_66 : decode cX7_readWagon 66 = .ok (.aload_n 0, 1) := by decide +kernel
theorem dX7_readWagon_67 : decode cX7_readWagon 67 = .ok (.getfield 106, 3) := by decide +kernel
theorem dX7_readWagon_70 : decode cX7_readWagon 70 = .ok (.invokevirtual 136, 3) := by decide +kernel
theorem dX7_readWagon_73 : decode cX7_readWagon 73 = .ok (.ifCond .eq 7, 3) := by decide +kernel
theorem dX7_readWagon_76 : decode cX7_readWagon 76 = .ok (.iconst 1, 1) := by decide +kernel
theorem dX7_readWagon_77 : decode cX7_readWagon 77 = .ok (.goto 4, 3) := by decide +kernel
theorem dX7_readWagon_80 : decode cX7_readWagon 80 = .ok (.iconst 0, 1) := by decide +kernel
theorem dX7_readWagon_81 : decode cX7_readWagon 81 = .ok (.invokevirtual 118, 3) := by decide +kernel
theorem dX7_readWagon_84 : decode cX7_readWagon 84 = .ok (.iastore, 1) := by decide +kernel
theorem dX7_readWagon_85 : decode cX7_readWagon 85 = .ok (.aload_n 0, 1) := by decide +kernel
theorem dX7_readWagon_86 : decode cX7_readWagon 86 = .ok (.getfield 38, 3) := by decide +kernel
theorem dX7_readWagon_89 : decode cX7_readWagon 89 = .ok (.iload_n 1, 1) := by decide +kernel
theorem dX7_readWagon_90 : decode cX7_readWagon 90 = .ok (.iload_n 2, 1) := by decide +kernel
theorem dX7_readWagon_91 : decode cX7_readWagon 91 = .ok (.iastore, 1) := by decide +kernel
theorem dX7_readWagon_92 : decode cX7_readWagon 92 = .ok (.aload_n 0, 1) := by decide +kernel
theorem dX7_readWagon_93 : decode cX7_readWagon 93 = .ok (.getfield 29, 3) := by decide +kernel
theorem dX7_readWagon_96 : decode cX7_readWagon 96 = .ok (.iconst 1, 1) := by decide +kernel
theorem dX7_readWagon_97 : decode cX7_readWagon 97 = .ok (.dup2, 1) := by decide +kernel
theorem dX7_readWagon_98 : decode cX7_readWagon 98 = .ok (.iaload, 1) := by decide +kernel
theorem dX7_readWagon_99 : decode cX7_readWagon 99 = .ok (.iconst 1, 1) := by decide +kernel
theorem dX7_readWagon_100 : decode cX7_readWagon 100 = .ok (.iadd, 1) := by decide +kernel
theorem dX7_readWagon_101 : decode cX7_readWagon 101 = .ok (.iastore, 1) := by decide +kernel
theorem dX7_readWagon_102 : decode cX7_readWagon 102 = .ok (.return_, 1) := by decide +kernel
theorem dX7_readRow_0 : decode cX7_readRow 0 = .ok (.iload_n 1, 1) := by decide +kernel
theorem dX7_readRow_1 : decode cX7_readRow 1 = .ok (.bipush 114, 2) := by decide +kernel
theorem dX7_readRow_3 : decode cX7_readRow 3 = .ok (.if_icmp .ne 19, 3) := by decide +kernel
theorem dX7_readRow_6 : decode cX7_readRow 6 = .ok (.aload_n 0, 1) := by decide +kernel
theorem dX7_readRow_7 : decode cX7_readRow 7 = .ok (.getfield 13, 3) := by decide +kernel
theorem dX7_readRow_10 : decode cX7_readRow 10 = .ok (.iconst 1, 1) := by decide +kernel
theorem dX7_readRow_11 : decode cX7_readRow 11 = .ok (.aload_n 0, 1) := by decide +kernel
theorem dX7_readRow_12 : decode cX7_readRow 12 = .ok (.iconst 4, 1) := by decide +kernel
theorem dX7_readRow_13 : decode cX7_readRow 13 = .ok (.bipush 12, 2) := by decide +kernel
theorem dX7_readRow_15 : decode cX7_readRow 15 = .ok (.invokevirtual 122, 3) := by decide +kernel
theorem dX7_readRow_18 : decode cX7_readRow 18 = .ok (.iastore, 1) := by decide +kernel
theorem dX7_readRow_19 : decode cX7_readRow 19 = .ok (.goto 246, 3) := by decide +kernel
theorem dX7_readRow_22 : decode cX7_readRow 22 = .ok (.iload_n 1, 1) := by decide +kernel
theorem dX7_readRow_23 : decode cX7_readRow 23 = .ok (.bipush 99, 2) := by decide +kernel
theorem dX7_readRow_25 : decode cX7_readRow 25 = .ok (.if_icmp .ne 37, 3) := by decide +kernel
theorem dX7_readRow_28 : decode cX7_readRow 28 = .ok (.aload_n 0, 1) := by decide +kernel
theorem dX7_readRow_29 : decode cX7_readRow 29 = .ok (.invokevirtual 140, 3) := by decide +kernel
theorem dX7_readRow_32 : decode cX7_readRow 32 = .ok (.istore_n 2, 1) := by decide +kernel
theorem dX7_readRow_33 : decode cX7_readRow 33 = .ok (.aload_n 0, 1) := by decide +kernel
theorem dX7_readRow_34 : decode cX7_readRow 34 = .ok (.iconst 1, 1) := by decide +kernel
theorem dX7_readRow_35 : decode cX7_readRow 35 = .ok (.iconst 4, 1) := by decide +kernel
theorem dX7_readRow_36 : decode cX7_readRow 36 = .ok (.invokevirtual 122, 3) := by decide +kernel
theorem dX7_readRow_39 : decode cX7_readRow 39 = .ok (.istore_n 3, 1) := by decide +kernel
theorem dX7_readRow_40 : decode cX7_readRow 40 = .ok (.aload_n 0, 1) := by decide +kernel
theorem dX7_readRow_41 : decode cX7_readRow 41 = .ok (.getfield 112, 3) := by decide +kernel
theorem dX7_readRow_44 : decode cX7_readRow 44 = .ok (.bipush (-9), 2) := by decide +kernel
theorem dX7_readRow_46 : decode cX7_readRow 46 = .ok (.if_icmp .ne 13, 3) := by decide +kernel
theorem dX7_readRow_49 : decode cX7_readRow 49 = .ok (.aload_n 0, 1) := by decide +kernel
theorem dX7_readRow_50 : decode cX7_readRow 50 = .ok (.getfield 35, 3) := by decide +kernel
theorem dX7_readRow_53 : decode cX7_readRow 53 = .ok (.bipush 12, 2) := by decide +kernel
theorem dX7_readRow_55 : decode cX7_readRow 55 = .ok (.iload_n 2, 1) := by decide +kernel
theorem dX7_readRow_56 : decode cX7_readRow 56 = .ok (.iadd, 1) := by decide +kernel
theorem dX7_readRow_57 : decode cX7_readRow 57 = .ok (.iload_n 3, 1) := by decide +kernel
theorem dX7_readRow_58 : decode cX7_readRow 58 = .ok (.iastore, 1) := by decide +kernel
theorem dX7_readRow_59 : decode cX7_readRow 59 = .ok (.goto 206, 3) := by decide +kernel
theorem dX7_readRow_62 : decode cX7_readRow 62 = .ok (.iload_n 1, 1) := by decide +kernel
theorem dX7_readRow_63 : decode cX7_readRow 63 = .ok (.bipush 112, 2) := by decide +kernel
theorem dX7_readRow_65 : decode cX7_readRow 65 = .ok (.if_icmp .ne 36, 3) := by decide +kernel
theorem dX7_readRow_68 : decode cX7_readRow 68 = .ok (.aload_n 0, 1) := by decide +kernel
theorem dX7_readRow_69 : decode cX7_readRow 69 = .ok (.invokevirtual 140, 3) := by decide +kernel
theorem dX7_readRow_72 : decode cX7_readRow 72 = .ok (.istore_n 2, 1) := by decide +kernel
theorem dX7_readRow_73 : decode cX7_readRow 73 = .ok (.aload_n 0, 1) := by decide +kernel
theorem dX7_readRow_74 : decode cX7_readRow 74 = .ok (.getfield 26, 3) := by decide +kernel
theorem dX7_readRow_77 : decode cX7_readRow 77 = .ok (.iconst 1, 1) := by decide +kernel
theorem dX7_readRow_78 : decode cX7_readRow 78 = .ok (.dup2, 1) := by decide +kernel
theorem dX7_readRow_79 : decode cX7_readRow 79 = .ok (.iaload, 1) := by decide +kernel
theorem dX7_readRow_80 : decode cX7_readRow 80 = .ok (.aload_n 0, 1) := by decide +kernel
theorem dX7_readRow_81 : decode cX7_readRow 81 = .ok (.getfield 112, 3) := by decide +kernel
theorem dX7_readRow_84 : decode cX7_readRow 84 = .ok (.bipush (-9), 2) := by decide +kernel
theorem dX7_readRow_86 : decode cX7_readRow 86 = .ok (.if_icmp .ne 9, 3) := by decide +kernel
theorem dX7_readRow_89 : decode cX7_readRow 89 = .ok (.iconst 1, 1) := by decide +kernel
theorem dX7_readRow_90 : decode cX7_readRow 90 = .ok (.iload_n 2, 1) := by decide +kernel
theorem dX7_readRow_91 : decode cX7_readRow 91 = .ok (.ishl, 1) := by decide +kernel
theorem dX7_readRow_92 : decode cX7_readRow 92 = .ok (.goto 4, 3) := by decide +kernel
theorem dX7_readRow_95 : decode cX7_readRow 95 = .ok (.iconst 0, 1) := by decide +kernel
theorem dX7_readRow_96 : decode cX7_readRow 96 = .ok (.ior, 1) := by decide +kernel
theorem dX7_readRow_97 : decode cX7_readRow 97 = .ok (.iastore, 1) := by decide +kernel
theorem dX7_readRow_98 : decode cX7_readRow 98 = .ok (.goto 167, 3) := by decide +kernel
theorem dX7_readRow_101 : decode cX7_readRow 101 = .ok (.iload_n 1, 1) := by decide +kernel
theorem dX7_readRow_102 : decode cX7_readRow 102 = .ok (.bipush 115, 2) := by decide +kernel
theorem dX7_readRow_104 : decode cX7_readRow 104 = .ok (.if_icmp .ne 37, 3) := by decide +kernel
theorem dX7_readRow_107 : decode cX7_readRow 107 = .ok (.aload_n 0, 1) := by decide +kernel
theorem dX7_readRow_108 : decode cX7_readRow 108 = .ok (.getfield 17, 3) := by decide +kernel
theorem dX7_readRow_111 : decode cX7_readRow 111 = .ok (.iconst 1, 1) := by decide +kernel
theorem dX7_readRow_112 : decode cX7_readRow 112 = .ok (.aload_n 0, 1) := by decide +kernel
theorem dX7_readRow_113 : decode cX7_readRow 113 = .ok (.iconst 1, 1) := by decide +kernel
theorem dX7_readRow_114 : decode cX7_readRow 114 = .ok (.bipush 9, 2) := by decide +kernel
theorem dX7_readRow_116 : decode cX7_readRow 116 = .ok (.invokevirtual 122, 3) := by decide +kernel
theorem dX7_readRow_119 : decode cX7_readRow 119 = .ok (.iastore, 1) := by decide +kernel
theorem dX7_readRow_120 : decode cX7_readRow 120 = .ok (.aload_n 0, 1) := by decide +kernel
theorem dX7_readRow_121 : decode cX7_readRow 121 = .ok (.getfield 20, 3) := by decide +kernel
theorem dX7_readRow_124 : decode cX7_readRow 124 = .ok (.iconst 1, 1) := by decide +kernel
theorem dX7_readRow_125 : decode cX7_readRow 125 = .ok (.aload_n 0, 1) := by decide +kernel
theorem dX7_readRow_126 : decode cX7_readRow 126 = .ok (.iconst 1, 1) := by decide +kernel
theorem dX7_readRow_127 : decode cX7_readRow 127 = .ok (.bipush 20, 2) := by decide +kernel
theorem dX7_readRow_129 : decode cX7_readRow 129 = .ok (.invokevirtual 122, 3) := by decide +kernel
theorem dX7_readRow_132 : decode cX7_readRow 132 = .ok (.iastore, 1) := by decide +kernel
theorem dX7_readRow_133 : decode cX7_readRow 133 = .ok (.aload_n 0, 1) := by decide +kernel
theorem dX7_readRow_134 : decode cX7_readRow 134 = .ok (.iconst 1, 1) := by decide +kernel
theorem dX7_readRow_135 : decode cX7_readRow 135 = .ok (.putfield 129, 3) := by decide +kernel
theorem dX7_readRow_138 : decode cX7_readRow 138 = .ok (.goto 127, 3) := by decide +kernel
theorem dX7_readRow_141 : decode cX7_readRow 141 = .ok (.iload_n 1, 1) := by decide +kernel
theorem dX7_readRow_142 : decode cX7_readRow 142 = .ok (.bipush 98, 2) := by decide +kernel
theorem dX7_readRow_144 : decode cX7_readRow 144 = .ok (.if_icmp .ne 21, 3) := by decide +kernel
theorem dX7_readRow_147 : decode cX7_readRow 147 = .ok (.aload_n 0, 1) := by decide +kernel
theorem dX7_readRow_148 : decode cX7_readRow 148 = .ok (.getfield 23, 3) := by decide +kernel
theorem dX7_readRow_151 : decode cX7_readRow 151 = .ok (.iconst 1, 1) := by decide +kernel
theorem dX7_readRow_152 : decode cX7_readRow 152 = .ok (.aload_n 0, 1) := by decide +kernel
theorem dX7_readRow_153 : decode cX7_readRow 153 = .ok (.invokevirtual 140, 3) := by decide +kernel
theorem dX7_readRow_156 : decode cX7_readRow 156 = .ok (.iastore, 1) := by decide +kernel
theorem dX7_readRow_157 : decode cX7_readRow 157 = .ok (.aload_n 0, 1) := by decide +kernel
theorem dX7_readRow_158 : decode cX7_readRow 158 = .ok (.iconst 1, 1) := by decide +kernel
theorem dX7_readRow_159 : decode cX7_readRow 159 = .ok (.putfield 133, 3) := by decide +kernel
theorem dX7_readRow_162 : decode cX7_readRow 162 = .ok (.goto 103, 3) := by decide +kernel
theorem dX7_readRow_165 : decode cX7_readRow 165 = .ok (.iload_n 1, 1) := by decide +kernel
theorem dX7_readRow_166 : decode cX7_readRow 166 = .ok (.bipush 119, 2) := by decide +kernel
theorem dX7_readRow_168 : decode cX7_readRow 168 = .ok (.if_icmp .ne 10, 3) := by decide +kernel
theorem dX7_readRow_171 : decode cX7_readRow 171 = .ok (.aload_n 0, 1) := by decide +kernel
theorem dX7_readRow_172 : decode cX7_readRow 172 = .ok (.invokevirtual 143, 3) := by decide +kernel
theorem dX7_readRow_175 : decode cX7_readRow 175 = .ok (.goto 90, 3) := by decide +kernel
theorem dX7_readRow_178 : decode cX7_readRow 178 = .ok (.iconst 4, 1) := by decide +kernel
theorem dX7_readRow_179 : decode cX7_readRow 179 = .ok (.aload_n 0, 1) := by decide +kernel
theorem dX7_readRow_180 : decode cX7_readRow 180 = .ok (.getfield 32, 3) := by decide +kernel
theorem dX7_readRow_183 : decode cX7_readRow 183 = .ok (.iconst 1, 1) := by decide +kernel
theorem dX7_readRow_184 : decode cX7_readRow 184 = .ok (.iaload, 1) := by decide +kernel
theorem dX7_readRow_185 : decode cX7_readRow 185 = .ok (.iadd, 1) := by decide +kernel
theorem dX7_readRow_186 : decode cX7_readRow 186 = .ok (.istore_n 2, 1) := by decide +kernel
theorem dX7_readRow_187 : decode cX7_readRow 187 = .ok (.aload_n 0, 1) := by decide +kernel
theorem dX7_readRow_188 : decode cX7_readRow 188 = .ok (.getfield 50, 3) := by decide +kernel
theorem dX7_readRow_191 : decode cX7_readRow 191 = .ok (.iload_n 2, 1) := by decide +kernel
theorem dX7_readRow_192 : decode cX7_readRow 192 = .ok (.aload_n 0, 1) := by decide +kernel
theorem dX7_readRow_193 : decode cX7_readRow 193 = .ok (.iconst 0, 1) := by decide +kernel
theorem dX7_readRow_194 : decode cX7_readRow 194 = .ok (.aload_n 0, 1) := by decide +kernel
theorem dX7_readRow_195 : decode cX7_readRow 195 = .ok (.getfield 29, 3) := by decide +kernel
theorem dX7_readRow_198 : decode cX7_readRow 198 = .ok (.iconst 1, 1) := by decide +kernel
theorem dX7_readRow_199 : decode cX7_readRow 199 = .ok (.iaload, 1) := by decide +kernel
theorem dX7_readRow_200 : decode cX7_readRow 200 = .ok (.iconst 1, 1) := by decide +kernel
theorem dX7_readRow_201 : decode cX7_readRow 201 = .ok (.isub, 1) := by decide +kernel
theorem dX7_readRow_202 : decode cX7_readRow 202 = .ok (.invokevirtual 122, 3) := by decide +kernel
theorem dX7_readRow_205 : decode cX7_readRow 205 = .ok (.iastore, 1) := by decide +kernel
theorem dX7_readRow_206 : decode cX7_readRow 206 = .ok (.aload_n 0, 1) := by decide +kernel
theorem dX7_readRow_207 : decode cX7_readRow 207 = .ok (.getfield 53, 3) := by decide +kernel
theorem dX7_readRow_210 : decode cX7_readRow 210 = .ok (.iload_n 2, 1) := by decide +kernel
theorem dX7_readRow_211 : decode cX7_readRow 211 = .ok (.aload_n 0, 1) := by decide +kernel
theorem dX7_readRow_212 : decode cX7_readRow 212 = .ok (.aload_n 0, 1) := by decide +kernel
theorem dX7_readRow_213 : decode cX7_readRow 213 = .ok (.getfield 109, 3) := by decide +kernel
theorem dX7_readRow_216 : decode cX7_readRow 216 = .ok (.iconst 1, 1) := by decide +kernel
theorem dX7_readRow_217 : decode cX7_readRow 217 = .ok (.if_icmp .ne 33, 3) := by decide +kernel
theorem dX7_readRow_220 : decode cX7_readRow 220 = .ok (.aload_n 0, 1) := by decide +kernel
theorem dX7_readRow_221 : decode cX7_readRow 221 = .ok (.getfield 106, 3) := by decide +kernel
theorem dX7_readRow_224 : decode cX7_readRow 224 = .ok (.aload_n 0, 1) := by decide +kernel
theorem dX7_readRow_225 : decode cX7_readRow 225 = .ok (.getfield 29, 3) := by decide +kernel
theorem dX7_readRow_228 : decode cX7_readRow 228 = .ok (.iconst 1, 1) := by decide +kernel
theorem dX7_readRow_229 : decode cX7_readRow 229 = .ok (.iaload, 1) := by decide +kernel
theorem dX7_readRow_230 : decode cX7_readRow 230 = .ok (.if_icmp .ge 20, 3) := by decide +kernel
theorem dX7_readRow_233 : decode cX7_readRow 233 = .ok (.aload_n 0, 1) := by decide +kernel
theorem dX7_readRow_234 : decode cX7_readRow 234 = .ok (.getfield 106, 3) := by decide +kernel
theorem dX7_readRow_237 : decode cX7_readRow 237 = .ok (.aload_n 0, 1) := by decide +kernel
theorem dX7_readRow_238 : decode cX7_readRow 238 = .ok (.getfield 50, 3) := by decide +kernel
theorem dX7_readRow_241 : decode cX7_readRow 241 = .ok (.iload_n 2, 1) := by decide +kernel
theorem dX7_readRow_242 : decode cX7_readRow 242 = .ok (.iaload, 1) := by decide +kernel
theorem dX7_readRow_243 : decode cX7_readRow 243 = .ok (.if_icmp .eq 7, 3) := by decide +kernel
theorem dX7_readRow_246 : decode cX7_readRow 246 = .ok (.iconst 1, 1) := by decide +kernel
theorem dX7_readRow_247 : decode cX7_readRow 247 = .ok (.goto 4, 3) := by decide +kernel
theorem dX7_readRow_250 : decode cX7_readRow 250 = .ok (.iconst 0, 1) := by decide +kernel
theorem dX7_readRow_251 : decode cX7_readRow 251 = .ok (.invokevirtual 118, 3) := by decide +kernel
theorem dX7_readRow_254 : decode cX7_readRow 254 = .ok (.iastore, 1) := by decide +kernel
theorem dX7_readRow_255 : decode cX7_readRow 255 = .ok (.aload_n 0, 1) := by decide +kernel
theorem dX7_readRow_256 : decode cX7_readRow 256 = .ok (.getfield 32, 3) := by decide +kernel
theorem dX7_readRow_259 : decode cX7_readRow 259 = .ok (.iconst 1, 1) := by decide +kernel
theorem dX7_readRow_260 : decode cX7_readRow 260 = .ok (.dup2, 1) := by decide +kernel
theorem dX7_readRow_261 : decode cX7_readRow 261 = .ok (.iaload, 1) := by decide +kernel
theorem dX7_readRow_262 : decode cX7_readRow 262 = .ok (.iconst 1, 1) := by decide +kernel
theorem dX7_readRow_263 : decode cX7_readRow 263 = .ok (.iadd, 1) := by decide +kernel
theorem dX7_readRow_264 : decode cX7_readRow 264 = .ok (.iastore, 1) := by decide +kernel
theorem dX7_readRow_265 : decode cX7_readRow 265 = .ok (.return_, 1) := by decide +kernel
theorem dX7_world_0 : decode cX7_world 0 = .ok (.aload_n 0, 1) := by decide +kernel
theorem dX7_world_1 : decode cX7_world 1 = .ok (.iconst 0, 1) := by decide +kernel
theorem dX7_world_2 : decode cX7_world 2 = .ok (.putfield 96, 3) := by decide +kernel
theorem dX7_world_5 : decode cX7_world 5 = .ok (.aload_n 0, 1) := by decide +kernel
theorem dX7_world_6 : decode cX7_world 6 = .ok (.bipush (-9), 2) := by decide +kernel
theorem dX7_world_8 : decode cX7_world 8 = .ok (.putfield 112, 3) := by decide +kernel
theorem dX7_world_11 : decode cX7_world 11 = .ok (.aload_n 0, 1) := by decide +kernel
theorem dX7_world_12 : decode cX7_world 12 = .ok (.iconst 0, 1) := by decide +kernel
theorem dX7_world_13 : decode cX7_world 13 = .ok (.putfield 126, 3) := by decide +kernel
theorem dX7_world_16 : decode cX7_world 16 = .ok (.aload_n 0, 1) := by decide +kernel
theorem dX7_world_17 : decode cX7_world 17 = .ok (.iconst 0, 1) := by decide +kernel
theorem dX7_world_18 : decode cX7_world 18 = .ok (.putfield 129, 3) := by decide +kernel
theorem dX7_world_21 : decode cX7_world 21 = .ok (.aload_n 0, 1) := by decide +kernel
theorem dX7_world_22 : decode cX7_world 22 = .ok (.iconst 0, 1) := by decide +kernel
theorem dX7_world_23 : decode cX7_world 23 = .ok (.putfield 133, 3) := by decide +kernel
theorem dX7_world_26 : decode cX7_world 26 = .ok (.aload_n 0, 1) := by decide +kernel
theorem dX7_world_27 : decode cX7_world 27 = .ok (.getfield 13, 3) := by decide +kernel
theorem dX7_world_30 : decode cX7_world 30 = .ok (.iconst 1, 1) := by decide +kernel
theorem dX7_world_31 : decode cX7_world 31 = .ok (.bipush 8, 2) := by decide +kernel
theorem dX7_world_33 : decode cX7_world 33 = .ok (.iastore, 1) := by decide +kernel
theorem dX7_world_34 : decode cX7_world 34 = .ok (.aload_n 0, 1) := by decide +kernel
theorem dX7_world_35 : decode cX7_world 35 = .ok (.getfield 17, 3) := by decide +kernel
theorem dX7_world_38 : decode cX7_world 38 = .ok (.iconst 1, 1) := by decide +kernel
theorem dX7_world_39 : decode cX7_world 39 = .ok (.iconst 3, 1) := by decide +kernel
theorem dX7_world_40 : decode cX7_world 40 = .ok (.iastore, 1) := by decide +kernel
theorem dX7_world_41 : decode cX7_world 41 = .ok (.aload_n 0, 1) := by decide +kernel
theorem dX7_world_42 : decode cX7_world 42 = .ok (.getfield 20, 3) := by decide +kernel
theorem dX7_world_45 : decode cX7_world 45 = .ok (.iconst 1, 1) := by decide +kernel
theorem dX7_world_46 : decode cX7_world 46 = .ok (.iconst 5, 1) := by decide +kernel
theorem dX7_world_47 : decode cX7_world 47 = .ok (.iastore, 1) := by decide +kernel
theorem dX7_world_48 : decode cX7_world 48 = .ok (.aload_n 0, 1) := by decide +kernel
theorem dX7_world_49 : decode cX7_world 49 = .ok (.getfield 23, 3) := by decide +kernel
theorem dX7_world_52 : decode cX7_world 52 = .ok (.iconst 1, 1) := by decide +kernel
theorem dX7_world_53 : decode cX7_world 53 = .ok (.bipush (-9), 2) := by decide +kernel
theorem dX7_world_55 : decode cX7_world 55 = .ok (.iastore, 1) := by decide +kernel
theorem dX7_world_56 : decode cX7_world 56 = .ok (.aload_n 0, 1) := by decide +kernel
theorem dX7_world_57 : decode cX7_world 57 = .ok (.getfield 26, 3) := by decide +kernel
theorem dX7_world_60 : decode cX7_world 60 = .ok (.iconst 1, 1) := by decide +kernel
theorem dX7_world_61 : decode cX7_world 61 = .ok (.iconst 0, 1) := by decide +kernel
theorem dX7_world_62 : decode cX7_world 62 = .ok (.iastore, 1) := by decide +kernel
theorem dX7_world_63 : decode cX7_world 63 = .ok (.aload_n 0, 1) := by decide +kernel
theorem dX7_world_64 : decode cX7_world 64 = .ok (.getfield 29, 3) := by decide +kernel
theorem dX7_world_67 : decode cX7_world 67 = .ok (.iconst 1, 1) := by decide +kernel
theorem dX7_world_68 : decode cX7_world 68 = .ok (.iconst 0, 1) := by decide +kernel
theorem dX7_world_69 : decode cX7_world 69 = .ok (.iastore, 1) := by decide +kernel
theorem dX7_world_70 : decode cX7_world 70 = .ok (.aload_n 0, 1) := by decide +kernel
theorem dX7_world_71 : decode cX7_world 71 = .ok (.getfield 32, 3) := by decide +kernel
theorem dX7_world_74 : decode cX7_world 74 = .ok (.iconst 1, 1) := by decide +kernel
theorem dX7_world_75 : decode cX7_world 75 = .ok (.iconst 0, 1) := by decide +kernel
theorem dX7_world_76 : decode cX7_world 76 = .ok (.iastore, 1) := by decide +kernel
theorem dX7_world_77 : decode cX7_world 77 = .ok (.iconst 0, 1) := by decide +kernel
theorem dX7_world_78 : decode cX7_world 78 = .ok (.istore_n 1, 1) := by decide +kernel
theorem dX7_world_79 : decode cX7_world 79 = .ok (.iload_n 1, 1) := by decide +kernel
theorem dX7_world_80 : decode cX7_world 80 = .ok (.bipush 12, 2) := by decide +kernel
theorem dX7_world_82 : decode cX7_world 82 = .ok (.if_icmp .ge 19, 3) := by decide +kernel
theorem dX7_world_85 : decode cX7_world 85 = .ok (.aload_n 0, 1) := by decide +kernel
theorem dX7_world_86 : decode cX7_world 86 = .ok (.getfield 35, 3) := by decide +kernel
theorem dX7_world_89 : decode cX7_world 89 = .ok (.bipush 12, 2) := by decide +kernel
theorem dX7_world_91 : decode cX7_world 91 = .ok (.iload_n 1, 1) := by decide +kernel
theorem dX7_world_92 : decode cX7_world 92 = .ok (.iadd, 1) := by decide +kernel
theorem dX7_world_93 : decode cX7_world 93 = .ok (.iconst 1, 1) := by decide +kernel
theorem dX7_world_94 : decode cX7_world 94 = .ok (.iastore, 1) := by decide +kernel
theorem dX7_world_95 : decode cX7_world 95 = .ok (.iinc 1 1, 3) := by decide +kernel
theorem dX7_world_98 : decode cX7_world 98 = .ok (.goto (-19), 3) := by decide +kernel
theorem dX7_world_101 : decode cX7_world 101 = .ok (.aload_n 0, 1) := by decide +kernel
theorem dX7_world_102 : decode cX7_world 102 = .ok (.invokevirtual 115, 3) := by decide +kernel
theorem dX7_world_105 : decode cX7_world 105 = .ok (.aload_n 0, 1) := by decide +kernel
theorem dX7_world_106 : decode cX7_world 106 = .ok (.getfield 112, 3) := by decide +kernel
theorem dX7_world_109 : decode cX7_world 109 = .ok (.bipush (-9), 2) := by decide +kernel
theorem dX7_world_111 : decode cX7_world 111 = .ok (.if_icmp .ne 71, 3) := by decide +kernel
theorem dX7_world_114 : decode cX7_world 114 = .ok (.aload_n 0, 1) := by decide +kernel
theorem dX7_world_115 : decode cX7_world 115 = .ok (.getfield 109, 3) := by decide +kernel
theorem dX7_world_118 : decode cX7_world 118 = .ok (.iconst 3, 1) := by decide +kernel
theorem dX7_world_119 : decode cX7_world 119 = .ok (.if_icmp .eq 63, 3) := by decide +kernel
theorem dX7_world_122 : decode cX7_world 122 = .ok (.aload_n 0, 1) := by decide +kernel
theorem dX7_world_123 : decode cX7_world 123 = .ok (.getfield 109, 3) := by decide +kernel
theorem dX7_world_126 : decode cX7_world 126 = .ok (.istore_n 1, 1) := by decide +kernel
theorem dX7_world_127 : decode cX7_world 127 = .ok (.aload_n 0, 1) := by decide +kernel
theorem dX7_world_128 : decode cX7_world 128 = .ok (.aload_n 0, 1) := by decide +kernel
theorem dX7_world_129 : decode cX7_world 129 = .ok (.iload_n 1, 1) := by decide +kernel
theorem dX7_world_130 : decode cX7_world 130 = .ok (.invokevirtual 146, 3) := by decide +kernel
theorem dX7_world_133 : decode cX7_world 133 = .ok (.invokevirtual 118, 3) := by decide +kernel
theorem dX7_world_136 : decode cX7_world 136 = .ok (.pop, 1) := by decide +kernel
theorem dX7_world_137 : decode cX7_world 137 = .ok (.aload_n 0, 1) := by decide +kernel
theorem dX7_world_138 : decode cX7_world 138 = .ok (.getfield 112, 3) := by decide +kernel
theorem dX7_world_141 : decode cX7_world 141 = .ok (.bipush (-9), 2) := by decide +kernel
theorem dX7_world_143 : decode cX7_world 143 = .ok (.if_icmp .ne 36, 3) := by decide +kernel
theorem dX7_world_146 : decode cX7_world 146 = .ok (.aload_n 0, 1) := by decide +kernel
theorem dX7_world_147 : decode cX7_world 147 = .ok (.iload_n 1, 1) := by decide +kernel
theorem dX7_world_148 : decode cX7_world 148 = .ok (.invokevirtual 150, 3) := by decide +kernel
theorem dX7_world_151 : decode cX7_world 151 = .ok (.aload_n 0, 1) := by decide +kernel
theorem dX7_world_152 : decode cX7_world 152 = .ok (.aload_n 0, 1) := by decide +kernel
theorem dX7_world_153 : decode cX7_world 153 = .ok (.getfield 109, 3) := by decide +kernel
theorem dX7_world_156 : decode cX7_world 156 = .ok (.iconst 2, 1) := by decide +kernel
theorem dX7_world_157 : decode cX7_world 157 = .ok (.if_icmp .ne 7, 3) := by decide +kernel
theorem dX7_world_160 : decode cX7_world 160 = .ok (.iconst 1, 1) := by decide +kernel
theorem dX7_world_161 : decode cX7_world 161 = .ok (.goto 4, 3) := by decide +kernel
theorem dX7_world_164 : decode cX7_world 164 = .ok (.iconst 0, 1) := by decide +kernel
theorem dX7_world_165 : decode cX7_world 165 = .ok (.invokevirtual 118, 3) := by decide +kernel
theorem dX7_world_168 : decode cX7_world 168 = .ok (.pop, 1) := by decide +kernel
theorem dX7_world_169 : decode cX7_world 169 = .ok (.aload_n 0, 1) := by decide +kernel
theorem dX7_world_170 : decode cX7_world 170 = .ok (.dup, 1) := by decide +kernel
theorem dX7_world_171 : decode cX7_world 171 = .ok (.getfield 126, 3) := by decide +kernel
theorem dX7_world_174 : decode cX7_world 174 = .ok (.iconst 1, 1) := by decide +kernel
theorem dX7_world_175 : decode cX7_world 175 = .ok (.iadd, 1) := by decide +kernel
theorem dX7_world_176 : decode cX7_world 176 = .ok (.putfield 126, 3) := by decide +kernel
theorem dX7_world_179 : decode cX7_world 179 = .ok (.goto (-74), 3) := by decide +kernel
theorem dX7_world_182 : decode cX7_world 182 = .ok (.aload_n 0, 1) := by decide +kernel
theorem dX7_world_183 : decode cX7_world 183 = .ok (.getfield 112, 3) := by decide +kernel
theorem dX7_world_186 : decode cX7_world 186 = .ok (.bipush (-9), 2) := by decide +kernel
theorem dX7_world_188 : decode cX7_world 188 = .ok (.if_icmp .eq 11, 3) := by decide +kernel
theorem dX7_world_191 : decode cX7_world 191 = .ok (.bipush (-10), 2) := by decide +kernel
theorem dX7_world_193 : decode cX7_world 193 = .ok (.aload_n 0, 1) := by decide +kernel
theorem dX7_world_194 : decode cX7_world 194 = .ok (.getfield 112, 3) := by decide +kernel
theorem dX7_world_197 : decode cX7_world 197 = .ok (.isub, 1) := by decide +kernel
theorem dX7_world_198 : decode cX7_world 198 = .ok (.ireturn, 1) := by decide +kernel
theorem dX7_world_199 : decode cX7_world 199 = .ok (.aload_n 0, 1) := by decide +kernel
theorem dX7_world_200 : decode cX7_world 200 = .ok (.invokevirtual 154, 3) := by decide +kernel
theorem dX7_world_203 : decode cX7_world 203 = .ok (.aload_n 0, 1) := by decide +kernel
theorem dX7_world_204 : decode cX7_world 204 = .ok (.invokevirtual 157, 3) := by decide +kernel
theorem dX7_world_207 : decode cX7_world 207 = .ok (.aload_n 0, 1) := by decide +kernel
theorem dX7_world_208 : decode cX7_world 208 = .ok (.getfield 59, 3) := by decide +kernel
theorem dX7_world_211 : decode cX7_world 211 = .ok (.bipush 31, 2) := by decide +kernel
theorem dX7_world_213 : decode cX7_world 213 = .ok (.iconst 0, 1) := by decide +kernel
theorem dX7_world_214 : decode cX7_world 214 = .ok (.iastore, 1) := by decide +kernel
theorem dX7_world_215 : decode cX7_world 215 = .ok (.aload_n 0, 1) := by decide +kernel
theorem dX7_world_216 : decode cX7_world 216 = .ok (.getfield 65, 3) := by decide +kernel
theorem dX7_world_219 : decode cX7_world 219 = .ok (.iconst 0, 1) := by decide +kernel
theorem dX7_world_220 : decode cX7_world 220 = .ok (.iconst 0, 1) := by decide +kernel
theorem dX7_world_221 : decode cX7_world 221 = .ok (.bastore, 1) := by decide +kernel
theorem dX7_world_222 : decode cX7_world 222 = .ok (.aload_n 0, 1) := by decide +kernel
theorem dX7_world_223 : decode cX7_world 223 = .ok (.getfield 65, 3) := by decide +kernel
theorem dX7_world_226 : decode cX7_world 226 = .ok (.iconst 1, 1) := by decide +kernel
theorem dX7_world_227 : decode cX7_world 227 = .ok (.iconst 0, 1) := by decide +kernel
theorem dX7_world_228 : decode cX7_world 228 = .ok (.bastore, 1) := by decide +kernel
theorem dX7_world_229 : decode cX7_world 229 = .ok (.aload_n 0, 1) := by decide +kernel
theorem dX7_world_230 : decode cX7_world 230 = .ok (.iconst 0, 1) := by decide +kernel
theorem dX7_world_231 : decode cX7_world 231 = .ok (.putfield 92, 3) := by decide +kernel
theorem dX7_world_234 : decode cX7_world 234 = .ok (.aload_n 0, 1) := by decide +kernel
theorem dX7_world_235 : decode cX7_world 235 = .ok (.getfield 126, 3) := by decide +kernel
theorem dX7_world_238 : decode cX7_world 238 = .ok (.ireturn, 1) := by decide +kernel
theorem dX7_take_0 : decode cX7_take 0 = .ok (.aload_n 0, 1) := by decide +kernel
theorem dX7_take_1 : decode cX7_take 1 = .ok (.getfield 13, 3) := by decide +kernel
theorem dX7_take_4 : decode cX7_take 4 = .ok (.iconst 0, 1) := by decide +kernel
theorem dX7_take_5 : decode cX7_take 5 = .ok (.aload_n 0, 1) := by decide +kernel
theorem dX7_take_6 : decode cX7_take 6 = .ok (.getfield 13, 3) := by decide +kernel
theorem dX7_take_9 : decode cX7_take 9 = .ok (.iconst 1, 1) := by decide +kernel
theorem dX7_take_10 : decode cX7_take 10 = .ok (.iaload, 1) := by decide +kernel
theorem dX7_take_11 : decode cX7_take 11 = .ok (.iastore, 1) := by decide +kernel
theorem dX7_take_12 : decode cX7_take 12 = .ok (.aload_n 0, 1) := by decide +kernel
theorem dX7_take_13 : decode cX7_take 13 = .ok (.getfield 17, 3) := by decide +kernel
theorem dX7_take_16 : decode cX7_take 16 = .ok (.iconst 0, 1) := by decide +kernel
theorem dX7_take_17 : decode cX7_take 17 = .ok (.aload_n 0, 1) := by decide +kernel
theorem dX7_take_18 : decode cX7_take 18 = .ok (.getfield 17, 3) := by decide +kernel
theorem dX7_take_21 : decode cX7_take 21 = .ok (.iconst 1, 1) := by decide +kernel
theorem dX7_take_22 : decode cX7_take 22 = .ok (.iaload, 1) := by decide +kernel
theorem dX7_take_23 : decode cX7_take 23 = .ok (.iastore, 1) := by decide +kernel
theorem dX7_take_24 : decode cX7_take 24 = .ok (.aload_n 0, 1) := by decide +kernel
theorem dX7_take_25 : decode cX7_take 25 = .ok (.getfield 20, 3) := by decide +kernel
theorem dX7_take_28 : decode cX7_take 28 = .ok (.iconst 0, 1) := by decide +kernel
theorem dX7_take_29 : decode cX7_take 29 = .ok (.aload_n 0, 1) := by decide +kernel
theorem dX7_take_30 : decode cX7_take 30 = .ok (.getfield 20, 3) := by decide +kernel
theorem dX7_take_33 : decode cX7_take 33 = .ok (.iconst 1, 1) := by decide +kernel
theorem dX7_take_34 : decode cX7_take 34 = .ok (.iaload, 1) := by decide +kernel
theorem dX7_take_35 : decode cX7_take 35 = .ok (.iastore, 1) := by decide +kernel
theorem dX7_take_36 : decode cX7_take 36 = .ok (.aload_n 0, 1) := by decide +kernel
theorem dX7_take_37 : decode cX7_take 37 = .ok (.getfield 23, 3) := by decide +kernel
theorem dX7_take_40 : decode cX7_take 40 = .ok (.iconst 0, 1) := by decide +kernel
theorem dX7_take_41 : decode cX7_take 41 = .ok (.aload_n 0, 1) := by decide +kernel
theorem dX7_take_42 : decode cX7_take 42 = .ok (.getfield 23, 3) := by decide +kernel
theorem dX7_take_45 : decode cX7_take 45 = .ok (.iconst 1, 1) := by decide +kernel
theorem dX7_take_46 : decode cX7_take 46 = .ok (.iaload, 1) := by decide +kernel
theorem dX7_take_47 : decode cX7_take 47 = .ok (.iastore, 1) := by decide +kernel
theorem dX7_take_48 : decode cX7_take 48 = .ok (.aload_n 0, 1) := by decide +kernel
theorem dX7_take_49 : decode cX7_take 49 = .ok (.getfield 26, 3) := by decide +kernel
theorem dX7_take_52 : decode cX7_take 52 = .ok (.iconst 0, 1) := by decide +kernel
theorem dX7_take_53 : decode cX7_take 53 = .ok (.aload_n 0, 1) := by decide +kernel
theorem dX7_take_54 : decode cX7_take 54 = .ok (.getfield 26, 3) := by decide +kernel
theorem dX7_take_57 : decode cX7_take 57 = .ok (.iconst 1, 1) := by decide +kernel
theorem dX7_take_58 : decode cX7_take 58 = .ok (.iaload, 1) := by decide +kernel
theorem dX7_take_59 : decode cX7_take 59 = .ok (.iastore, 1) := by decide +kernel
theorem dX7_take_60 : decode cX7_take 60 = .ok (.aload_n 0, 1) := by decide +kernel
theorem dX7_take_61 : decode cX7_take 61 = .ok (.getfield 29, 3) := by decide +kernel
theorem dX7_take_64 : decode cX7_take 64 = .ok (.iconst 0, 1) := by decide +kernel
theorem dX7_take_65 : decode cX7_take 65 = .ok (.aload_n 0, 1) := by decide +kernel
theorem dX7_take_66 : decode cX7_take 66 = .ok (.getfield 29, 3) := by decide +kernel
theorem dX7_take_69 : decode cX7_take 69 = .ok (.iconst 1, 1) := by decide +kernel
theorem dX7_take_70 : decode cX7_take 70 = .ok (.iaload, 1) := by decide +kernel
theorem dX7_take_71 : decode cX7_take 71 = .ok (.iastore, 1) := by decide +kernel
theorem dX7_take_72 : decode cX7_take 72 = .ok (.aload_n 0, 1) := by decide +kernel
theorem dX7_take_73 : decode cX7_take 73 = .ok (.getfield 32, 3) := by decide +kernel
theorem dX7_take_76 : decode cX7_take 76 = .ok (.iconst 0, 1) := by decide +kernel
theorem dX7_take_77 : decode cX7_take 77 = .ok (.aload_n 0, 1) := by decide +kernel
theorem dX7_take_78 : decode cX7_take 78 = .ok (.getfield 32, 3) := by decide +kernel
theorem dX7_take_81 : decode cX7_take 81 = .ok (.iconst 1, 1) := by decide +kernel
theorem dX7_take_82 : decode cX7_take 82 = .ok (.iaload, 1) := by decide +kernel
theorem dX7_take_83 : decode cX7_take 83 = .ok (.iastore, 1) := by decide +kernel
theorem dX7_take_84 : decode cX7_take 84 = .ok (.iconst 0, 1) := by decide +kernel
theorem dX7_take_85 : decode cX7_take 85 = .ok (.istore_n 1, 1) := by decide +kernel
theorem dX7_take_86 : decode cX7_take 86 = .ok (.iload_n 1, 1) := by decide +kernel
theorem dX7_take_87 : decode cX7_take 87 = .ok (.bipush 12, 2) := by decide +kernel
theorem dX7_take_89 : decode cX7_take 89 = .ok (.if_icmp .ge 24, 3) := by decide +kernel
theorem dX7_take_92 : decode cX7_take 92 = .ok (.aload_n 0, 1) := by decide +kernel
theorem dX7_take_93 : decode cX7_take 93 = .ok (.getfield 35, 3) := by decide +kernel
theorem dX7_take_96 : decode cX7_take 96 = .ok (.iload_n 1, 1) := by decide +kernel
theorem dX7_take_97 : decode cX7_take 97 = .ok (.aload_n 0, 1) := by decide +kernel
theorem dX7_take_98 : decode cX7_take 98 = .ok (.getfield 35, 3) := by decide +kernel
theorem dX7_take_101 : decode cX7_take 101 = .ok (.bipush 12, 2) := by decide +kernel
theorem dX7_take_103 : decode cX7_take 103 = .ok (.iload_n 1, 1) := by decide +kernel
theorem dX7_take_104 : decode cX7_take 104 = .ok (.iadd, 1) := by decide +kernel
theorem dX7_take_105 : decode cX7_take 105 = .ok (.iaload, 1) := by decide +kernel
theorem dX7_take_106 : decode cX7_take 106 = .ok (.iastore, 1) := by decide +kernel
theorem dX7_take_107 : decode cX7_take 107 = .ok (.iinc 1 1, 3) := by decide +kernel
theorem dX7_take_110 : decode cX7_take 110 = .ok (.goto (-24), 3) := by decide +kernel
theorem dX7_take_113 : decode cX7_take 113 = .ok (.iconst 0, 1) := by decide +kernel
theorem dX7_take_114 : decode cX7_take 114 = .ok (.istore_n 1, 1) := by decide +kernel
theorem dX7_take_115 : decode cX7_take 115 = .ok (.iload_n 1, 1) := by decide +kernel
theorem dX7_take_116 : decode cX7_take 116 = .ok (.iconst 5, 1) := by decide +kernel
theorem dX7_take_117 : decode cX7_take 117 = .ok (.if_icmp .ge 77, 3) := by decide +kernel
theorem dX7_take_120 : decode cX7_take 120 = .ok (.aload_n 0, 1) := by decide +kernel
theorem dX7_take_121 : decode cX7_take 121 = .ok (.getfield 38, 3) := by decide +kernel
theorem dX7_take_124 : decode cX7_take 124 = .ok (.iload_n 1, 1) := by decide +kernel
theorem dX7_take_125 : decode cX7_take 125 = .ok (.aload_n 0, 1) := by decide +kernel
theorem dX7_take_126 : decode cX7_take 126 = .ok (.getfield 38, 3) := by decide +kernel
theorem dX7_take_129 : decode cX7_take 129 = .ok (.iconst 5, 1) := by decide +kernel
theorem dX7_take_130 : decode cX7_take 130 = .ok (.iload_n 1, 1) := by decide +kernel
theorem dX7_take_131 : decode cX7_take 131 = .ok (.iadd, 1) := by decide +kernel
theorem dX7_take_132 : decode cX7_take 132 = .ok (.iaload, 1) := by decide +kernel
theorem dX7_take_133 : decode cX7_take 133 = .ok (.iastore, 1) := by decide +kernel
theorem dX7_take_134 : decode cX7_take 134 = .ok (.aload_n 0, 1) := by decide +kernel
theorem dX7_take_135 : decode cX7_take 135 = .ok (.getfield 41, 3) := by decide +kernel
theorem dX7_take_138 : decode cX7_take 138 = .ok (.iload_n 1, 1) := by decide +kernel
theorem dX7_take_139 : decode cX7_take 139 = .ok (.aload_n 0, 1) := by decide +kernel
theorem dX7_take_140 : decode cX7_take 140 = .ok (.getfield 41, 3) := by decide +kernel
theorem dX7_take_143 : decode cX7_take 143 = .ok (.iconst 5, 1) := by decide +kernel
theorem dX7_take_144 : decode cX7_take 144 = .ok (.iload_n 1, 1) := by decide +kernel
theorem dX7_take_145 : decode cX7_take 145 = .ok (.iadd, 1) := by decide +kernel
theorem dX7_take_146 : decode cX7_take 146 = .ok (.iaload, 1) := by decide +kernel
theorem dX7_take_147 : decode cX7_take 147 = .ok (.iastore, 1) := by decide +kernel
theorem dX7_take_148 : decode cX7_take 148 = .ok (.aload_n 0, 1) := by decide +kernel
theorem dX7_take_149 : decode cX7_take 149 = .ok (.getfield 44, 3) := by decide +kernel
theorem dX7_take_152 : decode cX7_take 152 = .ok (.iload_n 1, 1) := by decide +kernel
theorem dX7_take_153 : decode cX7_take 153 = .ok (.aload_n 0, 1) := by decide +kernel
theorem dX7_take_154 : decode cX7_take 154 = .ok (.getfield 44, 3) := by decide +kernel
theorem dX7_take_157 : decode cX7_take 157 = .ok (.iconst 5, 1) := by decide +kernel
theorem dX7_take_158 : decode cX7_take 158 = .ok (.iload_n 1, 1) := by decide +kernel
theorem dX7_take_159 : decode cX7_take 159 = .ok (.iadd, 1) := by decide +kernel
theorem dX7_take_160 : decode cX7_take 160 = .ok (.iaload, 1) := by decide +kernel
theorem dX7_take_161 : decode cX7_take 161 = .ok (.iastore, 1) := by decide +kernel
theorem dX7_take_162 : decode cX7_take 162 = .ok (.aload_n 0, 1) := by decide +kernel
theorem dX7_take_163 : decode cX7_take 163 = .ok (.getfield 47, 3) := by decide +kernel
theorem dX7_take_166 : decode cX7_take 166 = .ok (.iload_n 1, 1) := by decide +kernel
theorem dX7_take_167 : decode cX7_take 167 = .ok (.aload_n 0, 1) := by decide +kernel
theorem dX7_take_168 : decode cX7_take 168 = .ok (.getfield 47, 3) := by decide +kernel
theorem dX7_take_171 : decode cX7_take 171 = .ok (.iconst 5, 1) := by decide +kernel
theorem dX7_take_172 : decode cX7_take 172 = .ok (.iload_n 1, 1) := by decide +kernel
theorem dX7_take_173 : decode cX7_take 173 = .ok (.iadd, 1) := by decide +kernel
theorem dX7_take_174 : decode cX7_take 174 = .ok (.iaload, 1) := by decide +kernel
theorem dX7_take_175 : decode cX7_take 175 = .ok (.iastore, 1) := by decide +kernel
theorem dX7_take_176 : decode cX7_take 176 = .ok (.aload_n 0, 1) := by decide +kernel
theorem dX7_take_177 : decode cX7_take 177 = .ok (.getfield 56, 3) := by decide +kernel
theorem dX7_take_180 : decode cX7_take 180 = .ok (.iload_n 1, 1) := by decide +kernel
theorem dX7_take_181 : decode cX7_take 181 = .ok (.aload_n 0, 1) := by decide +kernel
theorem dX7_take_182 : decode cX7_take 182 = .ok (.getfield 41, 3) := by decide +kernel
theorem dX7_take_185 : decode cX7_take 185 = .ok (.iload_n 1, 1) := by decide +kernel
theorem dX7_take_186 : decode cX7_take 186 = .ok (.iaload, 1) := by decide +kernel
theorem dX7_take_187 : decode cX7_take 187 = .ok (.iastore, 1) := by decide +kernel
theorem dX7_take_188 : decode cX7_take 188 = .ok (.iinc 1 1, 3) := by decide +kernel
theorem dX7_take_191 : decode cX7_take 191 = .ok (.goto (-76), 3) := by decide +kernel
theorem dX7_take_194 : decode cX7_take 194 = .ok (.iconst 0, 1) := by decide +kernel
theorem dX7_take_195 : decode cX7_take 195 = .ok (.istore_n 1, 1) := by decide +kernel
theorem dX7_take_196 : decode cX7_take 196 = .ok (.iload_n 1, 1) := by decide +kernel
theorem dX7_take_197 : decode cX7_take 197 = .ok (.iconst 5, 1) := by decide +kernel
theorem dX7_take_198 : decode cX7_take 198 = .ok (.if_icmp .ge 97, 3) := by decide +kernel
theorem dX7_take_201 : decode cX7_take 201 = .ok (.iconst 0, 1) := by decide +kernel
theorem dX7_take_202 : decode cX7_take 202 = .ok (.istore_n 2, 1) := by decide +kernel
theorem dX7_take_203 : decode cX7_take 203 = .ok (.iload_n 2, 1) := by decide +kernel
theorem dX7_take_204 : decode cX7_take 204 = .ok (.aload_n 0, 1) := by decide +kernel
theorem dX7_take_205 : decode cX7_take 205 = .ok (.getfield 32, 3) := by decide +kernel
theorem dX7_take_208 : decode cX7_take 208 = .ok (.iconst 0, 1) := by decide +kernel
theorem dX7_take_209 : decode cX7_take 209 = .ok (.iaload, 1) := by decide +kernel
theorem dX7_take_210 : decode cX7_take 210 = .ok (.if_icmp .ge 79, 3) := by decide +kernel
theorem dX7_take_213 : decode cX7_take 213 = .ok (.aload_n 0, 1) := by decide +kernel
theorem dX7_take_214 : decode cX7_take 214 = .ok (.getfield 50, 3) := by decide +kernel
theorem dX7_take_217 : decode cX7_take 217 = .ok (.iconst 4, 1) := by decide +kernel
theorem dX7_take_218 : decode cX7_take 218 = .ok (.iload_n 2, 1) := by decide +kernel
theorem dX7_take_219 : decode cX7_take 219 = .ok (.iadd, 1) := by decide +kernel
theorem dX7_take_220 : decode cX7_take 220 = .ok (.iaload, 1) := by decide +kernel
theorem dX7_take_221 : decode cX7_take 221 = .ok (.istore_n 3, 1) := by decide +kernel
theorem dX7_take_222 : decode cX7_take 222 = .ok (.aload_n 0, 1) := by decide +kernel
theorem dX7_take_223 : decode cX7_take 223 = .ok (.getfield 53, 3) := by decide +kernel
theorem dX7_take_226 : decode cX7_take 226 = .ok (.iconst 4, 1) := by decide +kernel
theorem dX7_take_227 : decode cX7_take 227 = .ok (.iload_n 2, 1) := by decide +kernel
theorem dX7_take_228 : decode cX7_take 228 = .ok (.iadd, 1) := by decide +kernel
theorem dX7_take_229 : decode cX7_take 229 = .ok (.iaload, 1) := by decide +kernel
theorem dX7_take_230 : decode cX7_take 230 = .ok (.istore 4, 2) := by decide +kernel
theorem dX7_take_232 : decode cX7_take 232 = .ok (.aload_n 0, 1) := by decide +kernel
theorem dX7_take_233 : decode cX7_take 233 = .ok (.getfield 56, 3) := by decide +kernel
theorem dX7_take_236 : decode cX7_take 236 = .ok (.iload_n 3, 1) := by decide +kernel
theorem dX7_take_237 : decode cX7_take 237 = .ok (.iaload, 1) := by decide +kernel
theorem dX7_take_238 : decode cX7_take 238 = .ok (.aload_n 0, 1) := by decide +kernel
theorem dX7_take_239 : decode cX7_take 239 = .ok (.getfield 56, 3) := by decide +kernel
theorem dX7_take_242 : decode cX7_take 242 = .ok (.iload 4, 2) := by decide +kernel
theorem dX7_take_244 : decode cX7_take 244 = .ok (.iaload, 1) := by decide +kernel
theorem dX7_take_245 : decode cX7_take 245 = .ok (.if_icmp .le 12, 3) := by decide +kernel
theorem dX7_take_248 : decode cX7_take 248 = .ok (.aload_n 0, 1) := by decide +kernel
theorem dX7_take_249 : decode cX7_take 249 = .ok (.getfield 56, 3) := by decide +kernel
theorem dX7_take_252 : decode cX7_take 252 = .ok (.iload_n 3, 1) := by decide +kernel
theorem dX7_take_253 : decode cX7_take 253 = .ok (.iaload, 1) := by decide +kernel
theorem dX7_take_254 : decode cX7_take 254 = .ok (.goto 10, 3) := by decide +kernel
theorem dX7_take_257 : decode cX7_take 257 = .ok (.aload_n 0, 1) := by decide +kernel
theorem dX7_take_258 : decode cX7_take 258 = .ok (.getfield 56, 3) := by decide +kernel
theorem dX7_take_261 : decode cX7_take 261 = .ok (.iload 4, 2) := by decide +kernel
theorem dX7_take_263 : decode cX7_take 263 = .ok (.iaload, 1) := by decide +kernel
theorem dX7_take_264 : decode cX7_take 264 = .ok (.istore 5, 2) := by decide +kernel
theorem dX7_take_266 : decode cX7_take 266 = .ok (.aload_n 0, 1) := by decide +kernel
theorem dX7_take_267 : decode cX7_take 267 = .ok (.getfield 56, 3) := by decide +kernel
theorem dX7_take_270 : decode cX7_take 270 = .ok (.iload_n 3, 1) := by decide +kernel
theorem dX7_take_271 : decode cX7_take 271 = .ok (.iload 5, 2) := by decide +kernel
theorem dX7_take_273 : decode cX7_take 273 = .ok (.iastore, 1) := by decide +kernel
theorem dX7_take_274 : decode cX7_take 274 = .ok (.aload_n 0, 1) := by decide +kernel
theorem dX7_take_275 : decode cX7_take 275 = .ok (.getfield 56, 3) := by decide +kernel
theorem dX7_take_278 : decode cX7_take 278 = .ok (.iload 4, 2) := by decide +kernel
theorem dX7_take_280 : decode cX7_take 280 = .ok (.iload 5, 2) := by decide +kernel
theorem dX7_take_282 : decode cX7_take 282 = .ok (.iastore, 1) := by decide +kernel
theorem dX7_take_283 : decode cX7_take 283 = .ok (.iinc 2 1, 3) := by decide +kernel
theorem dX7_take_286 : decode cX7_take 286 = .ok (.goto (-83), 3) := by decide +kernel
theorem dX7_take_289 : decode cX7_take 289 = .ok (.iinc 1 1, 3) := by decide +kernel
theorem dX7_take_292 : decode cX7_take 292 = .ok (.goto (-96), 3) := by decide +kernel
theorem dX7_take_295 : decode cX7_take 295 = .ok (.return_, 1) := by decide +kernel
theorem dX7_costAt_0 : decode cX7_costAt 0 = .ok (.aload_n 0, 1) := by decide +kernel
theorem dX7_costAt_1 : decode cX7_costAt 1 = .ok (.getfield 35, 3) := by decide +kernel
theorem dX7_costAt_4 : decode cX7_costAt 4 = .ok (.iload_n 1, 1) := by decide +kernel
theorem dX7_costAt_5 : decode cX7_costAt 5 = .ok (.aload_n 0, 1) := by decide +kernel
theorem dX7_costAt_6 : decode cX7_costAt 6 = .ok (.getfield 13, 3) := by decide +kernel
theorem dX7_costAt_9 : decode cX7_costAt 9 = .ok (.iconst 0, 1) := by decide +kernel
theorem dX7_costAt_10 : decode cX7_costAt 10 = .ok (.iaload, 1) := by decide +kernel
theorem dX7_costAt_11 : decode cX7_costAt 11 = .ok (.irem, 1) := by decide +kernel
theorem dX7_costAt_12 : decode cX7_costAt 12 = .ok (.iaload, 1) := by decide +kernel
theorem dX7_costAt_13 : decode cX7_costAt 13 = .ok (.ireturn, 1) := by decide +kernel
theorem dX7_beginThen_0 : decode cX7_beginThen 0 = .ok (.aload_n 0, 1) := by decide +kernel
theorem dX7_beginThen_1 : decode cX7_beginThen 1 = .ok (.getfield 62, 3) := by decide +kernel
theorem dX7_beginThen_4 : decode cX7_beginThen 4 = .ok (.iconst 0, 1) := by decide +kernel
theorem dX7_beginThen_5 : decode cX7_beginThen 5 = .ok (.iconst 0, 1) := by decide +kernel
theorem dX7_beginThen_6 : decode cX7_beginThen 6 = .ok (.iastore, 1) := by decide +kernel
theorem dX7_beginThen_7 : decode cX7_beginThen 7 = .ok (.iconst 0, 1) := by decide +kernel
theorem dX7_beginThen_8 : decode cX7_beginThen 8 = .ok (.istore_n 1, 1) := by decide +kernel
theorem dX7_beginThen_9 : decode cX7_beginThen 9 = .ok (.iload_n 1, 1) := by decide +kernel
theorem dX7_beginThen_10 : decode cX7_beginThen 10 = .ok (.iconst 5, 1) := by decide +kernel
theorem dX7_beginThen_11 : decode cX7_beginThen 11 = .ok (.if_icmp .ge 94, 3) := by decide +kernel
theorem dX7_beginThen_14 : decode cX7_beginThen 14 = .ok (.aload_n 0, 1) := by decide +kernel
theorem dX7_beginThen_15 : decode cX7_beginThen 15 = .ok (.getfield 62, 3) := by decide +kernel
theorem dX7_beginThen_18 : decode cX7_beginThen 18 = .ok (.iconst 1, 1) := by decide +kernel
theorem dX7_beginThen_19 : decode cX7_beginThen 19 = .ok (.iload_n 1, 1) := by decide +kernel
theorem dX7_beginThen_20 : decode cX7_beginThen 20 = .ok (.iadd, 1) := by decide +kernel
theorem dX7_beginThen_21 : decode cX7_beginThen 21 = .ok (.aload_n 0, 1) := by decide +kernel
theorem dX7_beginThen_22 : decode cX7_beginThen 22 = .ok (.getfield 38, 3) := by decide +kernel
theorem dX7_beginThen_25 : decode cX7_beginThen 25 = .ok (.iload_n 1, 1) := by decide +kernel
theorem dX7_beginThen_26 : decode cX7_beginThen 26 = .ok (.iaload, 1) := by decide +kernel
theorem dX7_beginThen_27 : decode cX7_beginThen 27 = .ok (.iastore, 1) := by decide +kernel
theorem dX7_beginThen_28 : decode cX7_beginThen 28 = .ok (.aload_n 0, 1) := by decide +kernel
theorem dX7_beginThen_29 : decode cX7_beginThen 29 = .ok (.getfield 62, 3) := by decide +kernel
theorem dX7_beginThen_32 : decode cX7_beginThen 32 = .ok (.bipush 6, 2) := by decide +kernel
theorem dX7_beginThen_34 : decode cX7_beginThen 34 = .ok (.iload_n 1, 1) := by decide +kernel
theorem dX7_beginThen_35 : decode cX7_beginThen 35 = .ok (.iadd, 1) := by decide +kernel
theorem dX7_beginThen_36 : decode cX7_beginThen 36 = .ok (.aload_n 0, 1) := by decide +kernel
theorem dX7_beginThen_37 : decode cX7_beginThen 37 = .ok (.aload_n 0, 1) := by decide +kernel
theorem dX7_beginThen_38 : decode cX7_beginThen 38 = .ok (.getfield 38, 3) := by decide +kernel
theorem dX7_beginThen_41 : decode cX7_beginThen 41 = .ok (.iload_n 1, 1) := by decide +kernel
theorem dX7_beginThen_42 : decode cX7_beginThen 42 = .ok (.iaload, 1) := by decide +kernel
theorem dX7_beginThen_43 : decode cX7_beginThen 43 = .ok (.invokevirtual 160, 3) := by decide +kernel
theorem dX7_beginThen_46 : decode cX7_beginThen 46 = .ok (.aload_n 0, 1) := by decide +kernel
theorem dX7_beginThen_47 : decode cX7_beginThen 47 = .ok (.getfield 56, 3) := by decide +kernel
theorem dX7_beginThen_50 : decode cX7_beginThen 50 = .ok (.iload_n 1, 1) := by decide +kernel
theorem dX7_beginThen_51 : decode cX7_beginThen 51 = .ok (.iaload, 1) := by decide +kernel
theorem dX7_beginThen_52 : decode cX7_beginThen 52 = .ok (.iadd, 1) := by decide +kernel
theorem dX7_beginThen_53 : decode cX7_beginThen 53 = .ok (.iastore, 1) := by decide +kernel
theorem dX7_beginThen_54 : decode cX7_beginThen 54 = .ok (.aload_n 0, 1) := by decide +kernel
theorem dX7_beginThen_55 : decode cX7_beginThen 55 = .ok (.getfield 62, 3) := by decide +kernel
theorem dX7_beginThen_58 : decode cX7_beginThen 58 = .ok (.bipush 11, 2) := by decide +kernel
theorem dX7_beginThen_60 : decode cX7_beginThen 60 = .ok (.iload_n 1, 1) := by decide +kernel
theorem dX7_beginThen_61 : decode cX7_beginThen 61 = .ok (.iadd, 1) := by decide +kernel
theorem dX7_beginThen_62 : decode cX7_beginThen 62 = .ok (.iconst 0, 1) := by decide +kernel
theorem dX7_beginThen_63 : decode cX7_beginThen 63 = .ok (.iastore, 1) := by decide +kernel
theorem dX7_beginThen_64 : decode cX7_beginThen 64 = .ok (.aload_n 0, 1) := by decide +kernel
theorem dX7_beginThen_65 : decode cX7_beginThen 65 = .ok (.getfield 62, 3) := by decide +kernel
theorem dX7_beginThen_68 : decode cX7_beginThen 68 = .ok (.bipush 16, 2) := by decide +kernel
theorem dX7_beginThen_70 : decode cX7_beginThen 70 = .ok (.iload_n 1, 1) := by decide +kernel
theorem dX7_beginThen_71 : decode cX7_beginThen 71 = .ok (.iadd, 1) := by decide +kernel
theorem dX7_beginThen_72 : decode cX7_beginThen 72 = .ok (.iconst 0, 1) := by decide +kernel
theorem dX7_beginThen_73 : decode cX7_beginThen 73 = .ok (.iastore, 1) := by decide +kernel
theorem dX7_beginThen_74 : decode cX7_beginThen 74 = .ok (.aload_n 0, 1) := by decide +kernel
theorem dX7_beginThen_75 : decode cX7_beginThen 75 = .ok (.getfield 62, 3) := by decide +kernel
theorem dX7_beginThen_78 : decode cX7_beginThen 78 = .ok (.bipush 21, 2) := by decide +kernel
theorem dX7_beginThen_80 : decode cX7_beginThen 80 = .ok (.iload_n 1, 1) := by decide +kernel
theorem dX7_beginThen_81 : decode cX7_beginThen 81 = .ok (.iadd, 1) := by decide +kernel
theorem dX7_beginThen_82 : decode cX7_beginThen 82 = .ok (.iconst 0, 1) := by decide +kernel
theorem dX7_beginThen_83 : decode cX7_beginThen 83 = .ok (.iastore, 1) := by decide +kernel
theorem dX7_beginThen_84 : decode cX7_beginThen 84 = .ok (.aload_n 0, 1) := by decide +kernel
theorem dX7_beginThen_85 : decode cX7_beginThen 85 = .ok (.getfield 62, 3) := by decide +kernel
theorem dX7_beginThen_88 : decode cX7_beginThen 88 = .ok (.bipush 26, 2) := by decide +kernel
theorem dX7_beginThen_90 : decode cX7_beginThen 90 = .ok (.iload_n 1, 1) := by decide +kernel
theorem dX7_beginThen_91 : decode cX7_beginThen 91 = .ok (.iadd, 1) := by decide +kernel
theorem dX7_beginThen_92 : decode cX7_beginThen 92 = .ok (.aload_n 0, 1) := by decide +kernel
theorem dX7_beginThen_93 : decode cX7_beginThen 93 = .ok (.getfield 47, 3) := by decide +kernel
theorem dX7_beginThen_96 : decode cX7_beginThen 96 = .ok (.iload_n 1, 1) := by decide +kernel
theorem dX7_beginThen_97 : decode cX7_beginThen 97 = .ok (.iaload, 1) := by decide +kernel
theorem dX7_beginThen_98 : decode cX7_beginThen 98 = .ok (.iastore, 1) := by decide +kernel
theorem dX7_beginThen_99 : decode cX7_beginThen 99 = .ok (.iinc 1 1, 3) := by decide +kernel
theorem dX7_beginThen_102 : decode cX7_beginThen 102 = .ok (.goto (-93), 3) := by decide +kernel
theorem dX7_beginThen_105 : decode cX7_beginThen 105 = .ok (.return_, 1) := by decide +kernel
theorem dX7_begin_0 : decode cX7_begin 0 = .ok (.aload_n 0, 1) := by decide +kernel
theorem dX7_begin_1 : decode cX7_begin 1 = .ok (.invokevirtual 164, 3) := by decide +kernel
theorem dX7_begin_4 : decode cX7_begin 4 = .ok (.aload_n 0, 1) := by decide +kernel
theorem dX7_begin_5 : decode cX7_begin 5 = .ok (.invokevirtual 167, 3) := by decide +kernel
theorem dX7_begin_8 : decode cX7_begin 8 = .ok (.return_, 1) := by decide +kernel
theorem dX7_toNow_0 : decode cX7_toNow 0 = .ok (.iconst 0, 1) := by decide +kernel
theorem dX7_toNow_1 : decode cX7_toNow 1 = .ok (.istore_n 1, 1) := by decide +kernel
theorem dX7_toNow_2 : decode cX7_toNow 2 = .ok (.iload_n 1, 1) := by decide +kernel
theorem dX7_toNow_3 : decode cX7_toNow 3 = .ok (.bipush 31, 2) := by decide +kernel
theorem dX7_toNow_5 : decode cX7_toNow 5 = .ok (.if_icmp .ge 21, 3) := by decide +kernel
theorem dX7_toNow_8 : decode cX7_toNow 8 = .ok (.aload_n 0, 1) := by decide +kernel
theorem dX7_toNow_9 : decode cX7_toNow 9 = .ok (.getfield 59, 3) := by decide +kernel
theorem dX7_toNow_12 : decode cX7_toNow 12 = .ok (.iload_n 1, 1) := by decide +kernel
theorem dX7_toNow_13 : decode cX7_toNow 13 = .ok (.aload_n 0, 1) := by decide +kernel
theorem dX7_toNow_14 : decode cX7_toNow 14 = .ok (.getfield 62, 3) := by decide +kernel
theorem dX7_toNow_17 : decode cX7_toNow 17 = .ok (.iload_n 1, 1) := by decide +kernel
theorem dX7_toNow_18 : decode cX7_toNow 18 = .ok (.iaload, 1) := by decide +kernel
theorem dX7_toNow_19 : decode cX7_toNow 19 = .ok (.iastore, 1) := by decide +kernel
theorem dX7_toNow_20 : decode cX7_toNow 20 = .ok (.iinc 1 1, 3) := by decide +kernel
theorem dX7_toNow_23 : decode cX7_toNow 23 = .ok (.goto (-21), 3) := by decide +kernel
theorem dX7_toNow_26 : decode cX7_toNow 26 = .ok (.return_, 1) := by decide +kernel
theorem dX7_toThen_0 : decode cX7_toThen 0 = .ok (.iconst 0, 1) := by decide +kernel
theorem dX7_toThen_1 : decode cX7_toThen 1 = .ok (.istore_n 1, 1) := by decide +kernel
theorem dX7_toThen_2 : decode cX7_toThen 2 = .ok (.iload_n 1, 1) := by decide +kernel
theorem dX7_toThen_3 : decode cX7_toThen 3 = .ok (.bipush 31, 2) := by decide +kernel
theorem dX7_toThen_5 : decode cX7_toThen 5 = .ok (.if_icmp .ge 21, 3) := by decide +kernel
theorem dX7_toThen_8 : decode cX7_toThen 8 = .ok (.aload_n 0, 1) := by decide +kernel
theorem dX7_toThen_9 : decode cX7_toThen 9 = .ok (.getfield 62, 3) := by decide +kernel
theorem dX7_toThen_12 : decode cX7_toThen 12 = .ok (.iload_n 1, 1) := by decide +kernel
theorem dX7_toThen_13 : decode cX7_toThen 13 = .ok (.aload_n 0, 1) := by decide +kernel
theorem dX7_toThen_14 : decode cX7_toThen 14 = .ok (.getfield 59, 3) := by decide +kernel
theorem dX7_toThen_17 : decode cX7_toThen 17 = .ok (.iload_n 1, 1) := by decide +kernel
theorem dX7_toThen_18 : decode cX7_toThen 18 = .ok (.iaload, 1) := by decide +kernel
theorem dX7_toThen_19 : decode cX7_toThen 19 = .ok (.iastore, 1) := by decide +kernel
theorem dX7_toThen_20 : decode cX7_toThen 20 = .ok (.iinc 1 1, 3) := by decide +kernel
theorem dX7_toThen_23 : decode cX7_toThen 23 = .ok (.goto (-21), 3) := by decide +kernel
theorem dX7_toThen_26 : decode cX7_toThen 26 = .ok (.return_, 1) := by decide +kernel
theorem dX7_isWagon_0 : decode cX7_isWagon 0 = .ok (.iload_n 1, 1) := by decide +kernel
theorem dX7_isWagon_1 : decode cX7_isWagon 1 = .ok (.iconst 0, 1) := by decide +kernel
theorem dX7_isWagon_2 : decode cX7_isWagon 2 = .ok (.aload_n 0, 1) := by decide +kernel
theorem dX7_isWagon_3 : decode cX7_isWagon 3 = .ok (.getfield 29, 3) := by decide +kernel
theorem dX7_isWagon_6 : decode cX7_isWagon 6 = .ok (.iconst 0, 1) := by decide +kernel
theorem dX7_isWagon_7 : decode cX7_isWagon 7 = .ok (.iaload, 1) := by decide +kernel
theorem dX7_isWagon_8 : decode cX7_isWagon 8 = .ok (.iconst 1, 1) := by decide +kernel
theorem dX7_isWagon_9 : decode cX7_isWagon 9 = .ok (.isub, 1) := by decide +kernel
theorem dX7_isWagon_10 : decode cX7_isWagon 10 = .ok (.invokestatic 88, 3) := by decide +kernel
theorem dX7_isWagon_13 : decode cX7_isWagon 13 = .ok (.ireturn, 1) := by decide +kernel
theorem dX7_place_0 : decode cX7_place 0 = .ok (.iload_n 1, 1) := by decide +kernel
theorem dX7_place_1 : decode cX7_place 1 = .ok (.iconst 0, 1) := by decide +kernel
theorem dX7_place_2 : decode cX7_place 2 = .ok (.aload_n 0, 1) := by decide +kernel
theorem dX7_place_3 : decode cX7_place 3 = .ok (.getfield 13, 3) := by decide +kernel
theorem dX7_place_6 : decode cX7_place 6 = .ok (.iconst 0, 1) := by decide +kernel
theorem dX7_place_7 : decode cX7_place 7 = .ok (.iaload, 1) := by decide +kernel
theorem dX7_place_8 : decode cX7_place 8 = .ok (.iconst 1, 1) := by decide +kernel
theorem dX7_place_9 : decode cX7_place 9 = .ok (.isub, 1) := by decide +kernel
theorem dX7_place_10 : decode cX7_place 10 = .ok (.invokestatic 88, 3) := by decide +kernel
theorem dX7_place_13 : decode cX7_place 13 = .ok (.ifCond .ne 5, 3) := by decide +kernel
theorem dX7_place_16 : decode cX7_place 16 = .ok (.iconst (-1), 1) := by decide +kernel
theorem dX7_place_17 : decode cX7_place 17 = .ok (.ireturn, 1) := by decide +kernel
theorem dX7_place_18 : decode cX7_place 18 = .ok (.iload_n 2, 1) := by decide +kernel
theorem dX7_place_19 : decode cX7_place 19 = .ok (.ifCond .ne 12, 3) := by decide +kernel
theorem dX7_place_22 : decode cX7_place 22 = .ok (.aload_n 0, 1) := by decide +kernel
theorem dX7_place_23 : decode cX7_place 23 = .ok (.getfield 35, 3) := by decide +kernel
theorem dX7_place_26 : decode cX7_place 26 = .ok (.iload_n 1, 1) := by decide +kernel
theorem dX7_place_27 : decode cX7_place 27 = .ok (.iaload, 1) := by decide +kernel
theorem dX7_place_28 : decode cX7_place 28 = .ok (.goto 45, 3) := by decide +kernel
theorem dX7_place_31 : decode cX7_place 31 = .ok (.iload_n 2, 1) := by decide +kernel
theorem dX7_place_32 : decode cX7_place 32 = .ok (.iconst 1, 1) := by decide +kernel
theorem dX7_place_33 : decode cX7_place 33 = .ok (.if_icmp .ne 16, 3) := by decide +kernel
theorem dX7_place_36 : decode cX7_place 36 = .ok (.aload_n 0, 1) := by decide +kernel
theorem dX7_place_37 : decode cX7_place 37 = .ok (.getfield 26, 3) := by decide +kernel
theorem dX7_place_40 : decode cX7_place 40 = .ok (.iconst 0, 1) := by decide +kernel
theorem dX7_place_41 : decode cX7_place 41 = .ok (.iaload, 1) := by decide +kernel
theorem dX7_place_42 : decode cX7_place 42 = .ok (.iload_n 1, 1) := by decide +kernel
theorem dX7_place_43 : decode cX7_place 43 = .ok (.ishr, 1) := by decide +kernel
theorem dX7_place_44 : decode cX7_place 44 = .ok (.iconst 1, 1) := by decide +kernel
theorem dX7_place_45 : decode cX7_place 45 = .ok (.iand, 1) := by decide +kernel
theorem dX7_place_46 : decode cX7_place 46 = .ok (.goto 27, 3) := by decide +kernel
theorem dX7_place_49 : decode cX7_place 49 = .ok (.iload_n 2, 1) := by decide +kernel
theorem dX7_place_50 : decode cX7_place 50 = .ok (.iconst 2, 1) := by decide +kernel
theorem dX7_place_51 : decode cX7_place 51 = .ok (.if_icmp .ne 21, 3) := by decide +kernel
theorem dX7_place_54 : decode cX7_place 54 = .ok (.iload_n 1, 1) := by decide +kernel
theorem dX7_place_55 : decode cX7_place 55 = .ok (.aload_n 0, 1) := by decide +kernel
theorem dX7_place_56 : decode cX7_place 56 = .ok (.getfield 23, 3) := by decide +kernel
theorem dX7_place_59 : decode cX7_place 59 = .ok (.iconst 0, 1) := by decide +kernel
theorem dX7_place_60 : decode cX7_place 60 = .ok (.iaload, 1) := by decide +kernel
theorem dX7_place_61 : decode cX7_place 61 = .ok (.if_icmp .ne 7, 3) := by decide +kernel
theorem dX7_place_64 : decode cX7_place 64 = .ok (.iconst 1, 1) := by decide +kernel
theorem dX7_place_65 : decode cX7_place 65 = .ok (.goto 8, 3) := by decide +kernel
theorem dX7_place_68 : decode cX7_place 68 = .ok (.iconst 0, 1) := by decide +kernel
theorem dX7_place_69 : decode cX7_place 69 = .ok (.goto 4, 3) := by decide +kernel
theorem dX7_place_72 : decode cX7_place 72 = .ok (.iconst (-1), 1) := by decide +kernel
theorem dX7_place_73 : decode cX7_place 73 = .ok (.ireturn, 1) := by decide +kernel
theorem dX7_wagon_0 : decode cX7_wagon 0 = .ok (.aload_n 0, 1) := by decide +kernel
theorem dX7_wagon_1 : decode cX7_wagon 1 = .ok (.iload_n 1, 1) := by decide +kernel
theorem dX7_wagon_2 : decode cX7_wagon 2 = .ok (.invokevirtual 170, 3) := by decide +kernel
theorem dX7_wagon_5 : decode cX7_wagon 5 = .ok (.ifCond .ne 5, 3) := by decide +kernel
theorem dX7_wagon_8 : decode cX7_wagon 8 = .ok (.iconst (-1), 1) := by decide +kernel
theorem dX7_wagon_9 : decode cX7_wagon 9 = .ok (.ireturn, 1) := by decide +kernel
theorem dX7_wagon_10 : decode cX7_wagon 10 = .ok (.iload_n 2, 1) := by decide +kernel
theorem dX7_wagon_11 : decode cX7_wagon 11 = .ok (.tableswitch 118 0 7 #[45, 54, 61, 68, 78, 88, 98, 108], 45) := by decide +kernel
theorem dX7_wagon_56 : decode cX7_wagon 56 = .ok (.aload_n 0, 1) := by decide +kernel
theorem dX7_wagon_57 : decode cX7_wagon 57 = .ok (.getfield 59, 3) := by decide +kernel
theorem dX7_wagon_60 : decode cX7_wagon 60 = .ok (.iconst 1, 1) := by decide +kernel
theorem dX7_wagon_61 : decode cX7_wagon 61 = .ok (.iload_n 1, 1) := by decide +kernel
theorem dX7_wagon_62 : decode cX7_wagon 62 = .ok (.iadd, 1) := by decide +kernel
theorem dX7_wagon_63 : decode cX7_wagon 63 = .ok (.iaload, 1) := by decide +kernel
theorem dX7_wagon_64 : decode cX7_wagon 64 = .ok (.ireturn, 1) := by decide +kernel
theorem dX7_wagon_65 : decode cX7_wagon 65 = .ok (.aload_n 0, 1) := by decide +kernel
theorem dX7_wagon_66 : decode cX7_wagon 66 = .ok (.getfield 56, 3) := by decide +kernel
theorem dX7_wagon_69 : decode cX7_wagon 69 = .ok (.iload_n 1, 1) := by decide +kernel
theorem dX7_wagon_70 : decode cX7_wagon 70 = .ok (.iaload, 1) := by decide +kernel
theorem dX7_wagon_71 : decode cX7_wagon 71 = .ok (.ireturn, 1) := by decide +kernel
theorem dX7_wagon_72 : decode cX7_wagon 72 = .ok (.aload_n 0, 1) := by decide +kernel
theorem dX7_wagon_73 : decode cX7_wagon 73 = .ok (.getfield 44, 3) := by decide +kernel
theorem dX7_wagon_76 : decode cX7_wagon 76 = .ok (.iload_n 1, 1) := by decide +kernel
theorem dX7_wagon_77 : decode cX7_wagon 77 = .ok (.iaload, 1) := by decide +kernel
theorem dX7_wagon_78 : decode cX7_wagon 78 = .ok (.ireturn, 1) := by decide +kernel
theorem dX7_wagon_79 : decode cX7_wagon 79 = .ok (.aload_n 0, 1) := by decide +kernel
theorem dX7_wagon_80 : decode cX7_wagon 80 = .ok (.getfield 59, 3) := by decide +kernel
theorem dX7_wagon_83 : decode cX7_wagon 83 = .ok (.bipush 26, 2) := by decide +kernel
theorem dX7_wagon_85 : decode cX7_wagon 85 = .ok (.iload_n 1, 1) := by decide +kernel
theorem dX7_wagon_86 : decode cX7_wagon 86 = .ok (.iadd, 1) := by decide +kernel
theorem dX7_wagon_87 : decode cX7_wagon 87 = .ok (.iaload, 1) := by decide +kernel
theorem dX7_wagon_88 : decode cX7_wagon 88 = .ok (.ireturn, 1) := by decide +kernel
theorem dX7_wagon_89 : decode cX7_wagon 89 = .ok (.aload_n 0, 1) := by decide +kernel
theorem dX7_wagon_90 : decode cX7_wagon 90 = .ok (.getfield 59, 3) := by decide +kernel
theorem dX7_wagon_93 : decode cX7_wagon 93 = .ok (.bipush 6, 2) := by decide +kernel
theorem dX7_wagon_95 : decode cX7_wagon 95 = .ok (.iload_n 1, 1) := by decide +kernel
theorem dX7_wagon_96 : decode cX7_wagon 96 = .ok (.iadd, 1) := by decide +kernel
theorem dX7_wagon_97 : decode cX7_wagon 97 = .ok (.iaload, 1) := by decide +kernel
theorem dX7_wagon_98 : decode cX7_wagon 98 = .ok (.ireturn, 1) := by decide +kernel
theorem dX7_wagon_99 : decode cX7_wagon 99 = .ok (.aload_n 0, 1) := by decide +kernel
theorem dX7_wagon_100 : decode cX7_wagon 100 = .ok (.getfield 59, 3) := by decide +kernel
theorem dX7_wagon_103 : decode cX7_wagon 103 = .ok (.bipush 11, 2) := by decide +kernel
theorem dX7_wagon_105 : decode cX7_wagon 105 = .ok (.iload_n 1, 1) := by decide +kernel
theorem dX7_wagon_106 : decode cX7_wagon 106 = .ok (.iadd, 1) := by decide +kernel
theorem dX7_wagon_107 : decode cX7_wagon 107 = .ok (.iaload, 1) := by decide +kernel
theorem dX7_wagon_108 : decode cX7_wagon 108 = .ok (.ireturn, 1) := by decide +kernel
theorem dX7_wagon_109 : decode cX7_wagon 109 = .ok (.aload_n 0, 1) := by decide +kernel
theorem dX7_wagon_110 : decode cX7_wagon 110 = .ok (.getfield 59, 3) := by decide +kernel
theorem dX7_wagon_113 : decode cX7_wagon 113 = .ok (.bipush 16, 2) := by decide +kernel
theorem dX7_wagon_115 : decode cX7_wagon 115 = .ok (.iload_n 1, 1) := by decide +kernel
theorem dX7_wagon_116 : decode cX7_wagon 116 = .ok (.iadd, 1) := by decide +kernel
theorem dX7_wagon_117 : decode cX7_wagon 117 = .ok (.iaload, 1) := by decide +kernel
theorem dX7_wagon_118 : decode cX7_wagon 118 = .ok (.ireturn, 1) := by decide +kernel
theorem dX7_wagon_119 : decode cX7_wagon 119 = .ok (.aload_n 0, 1) := by decide +kernel
theorem dX7_wagon_120 : decode cX7_wagon 120 = .ok (.getfield 59, 3) := by decide +kernel
theorem dX7_wagon_123 : decode cX7_wagon 123 = .ok (.bipush 21, 2) := by decide +kernel
theorem dX7_wagon_125 : decode cX7_wagon 125 = .ok (.iload_n 1, 1) := by decide +kernel
theorem dX7_wagon_126 : decode cX7_wagon 126 = .ok (.iadd, 1) := by decide +kernel
theorem dX7_wagon_127 : decode cX7_wagon 127 = .ok (.iaload, 1) := by decide +kernel
theorem dX7_wagon_128 : decode cX7_wagon 128 = .ok (.ireturn, 1) := by decide +kernel
theorem dX7_wagon_129 : decode cX7_wagon 129 = .ok (.iconst (-1), 1) := by decide +kernel
theorem dX7_wagon_130 : decode cX7_wagon 130 = .ok (.ireturn, 1) := by decide +kernel
theorem dX7_sunAt_0 : decode cX7_sunAt 0 = .ok (.iload_n 1, 1) := by decide +kernel
theorem dX7_sunAt_1 : decode cX7_sunAt 1 = .ok (.aload_n 0, 1) := by decide +kernel
theorem dX7_sunAt_2 : decode cX7_sunAt 2 = .ok (.getfield 17, 3) := by decide +kernel
theorem dX7_sunAt_5 : decode cX7_sunAt 5 = .ok (.iconst 0, 1) := by decide +kernel
theorem dX7_sunAt_6 : decode cX7_sunAt 6 = .ok (.iaload, 1) := by decide +kernel
theorem dX7_sunAt_7 : decode cX7_sunAt 7 = .ok (.idiv, 1) := by decide +kernel
theorem dX7_sunAt_8 : decode cX7_sunAt 8 = .ok (.aload_n 0, 1) := by decide +kernel
theorem dX7_sunAt_9 : decode cX7_sunAt 9 = .ok (.getfield 20, 3) := by decide +kernel
theorem dX7_sunAt_12 : decode cX7_sunAt 12 = .ok (.iconst 0, 1) := by decide +kernel
theorem dX7_sunAt_13 : decode cX7_sunAt 13 = .ok (.iaload, 1) := by decide +kernel
theorem dX7_sunAt_14 : decode cX7_sunAt 14 = .ok (.isub, 1) := by decide +kernel
theorem dX7_sunAt_15 : decode cX7_sunAt 15 = .ok (.ireturn, 1) := by decide +kernel
theorem dX7_sun_0 : decode cX7_sun 0 = .ok (.iload_n 1, 1) := by decide +kernel
theorem dX7_sun_1 : decode cX7_sun 1 = .ok (.iconst 0, 1) := by decide +kernel
theorem dX7_sun_2 : decode cX7_sun 2 = .ok (.sipush 1100, 3) := by decide +kernel
theorem dX7_sun_5 : decode cX7_sun 5 = .ok (.invokestatic 88, 3) := by decide +kernel
theorem dX7_sun_8 : decode cX7_sun 8 = .ok (.ifCond .eq 11, 3) := by decide +kernel
theorem dX7_sun_11 : decode cX7_sun 11 = .ok (.aload_n 0, 1) := by decide +kernel
theorem dX7_sun_12 : decode cX7_sun 12 = .ok (.iload_n 1, 1) := by decide +kernel
theorem dX7_sun_13 : decode cX7_sun 13 = .ok (.invokevirtual 173, 3) := by decide +kernel
theorem dX7_sun_16 : decode cX7_sun 16 = .ok (.goto 5, 3) := by decide +kernel
theorem dX7_sun_19 : decode cX7_sun 19 = .ok (.ldc 176, 2) := by decide +kernel
theorem dX7_sun_21 : decode cX7_sun 21 = .ok (.ireturn, 1) := by decide +kernel
theorem dX7_caughtThen_0 : decode cX7_caughtThen 0 = .ok (.iconst 0, 1) := by decide +kernel
theorem dX7_caughtThen_1 : decode cX7_caughtThen 1 = .ok (.istore_n 1, 1) := by decide +kernel
theorem dX7_caughtThen_2 : decode cX7_caughtThen 2 = .ok (.iconst 0, 1) := by decide +kernel
theorem dX7_caughtThen_3 : decode cX7_caughtThen 3 = .ok (.istore_n 2, 1) := by decide +kernel
theorem dX7_caughtThen_4 : decode cX7_caughtThen 4 = .ok (.iload_n 2, 1) := by decide +kernel
theorem dX7_caughtThen_5 : decode cX7_caughtThen 5 = .ok (.aload_n 0, 1) := by decide +kernel
theorem dX7_caughtThen_6 : decode cX7_caughtThen 6 = .ok (.getfield 29, 3) := by decide +kernel
theorem dX7_caughtThen_9 : decode cX7_caughtThen 9 = .ok (.iconst 0, 1) := by decide +kernel
theorem dX7_caughtThen_10 : decode cX7_caughtThen 10 = .ok (.iaload, 1) := by decide +kernel
theorem dX7_caughtThen_11 : decode cX7_caughtThen 11 = .ok (.if_icmp .ge 23, 3) := by decide +kernel
theorem dX7_caughtThen_14 : decode cX7_caughtThen 14 = .ok (.iload_n 1, 1) := by decide +kernel
theorem dX7_caughtThen_15 : decode cX7_caughtThen 15 = .ok (.aload_n 0, 1) := by decide +kernel
theorem dX7_caughtThen_16 : decode cX7_caughtThen 16 = .ok (.getfield 62, 3) := by decide +kernel
theorem dX7_caughtThen_19 : decode cX7_caughtThen 19 = .ok (.bipush 21, 2) := by decide +kernel
theorem dX7_caughtThen_21 : decode cX7_caughtThen 21 = .ok (.iload_n 2, 1) := by decide +kernel
theorem dX7_caughtThen_22 : decode cX7_caughtThen 22 = .ok (.iadd, 1) := by decide +kernel
theorem dX7_caughtThen_23 : decode cX7_caughtThen 23 = .ok (.iaload, 1) := by decide +kernel
theorem dX7_caughtThen_24 : decode cX7_caughtThen 24 = .ok (.iload_n 2, 1) := by decide +kernel
theorem dX7_caughtThen_25 : decode cX7_caughtThen 25 = .ok (.ishl, 1) := by decide +kernel
theorem dX7_caughtThen_26 : decode cX7_caughtThen 26 = .ok (.ior, 1) := by decide +kernel
theorem dX7_caughtThen_27 : decode cX7_caughtThen 27 = .ok (.istore_n 1, 1) := by decide +kernel
theorem dX7_caughtThen_28 : decode cX7_caughtThen 28 = .ok (.iinc 2 1, 3) := by decide +kernel
theorem dX7_caughtThen_31 : decode cX7_caughtThen 31 = .ok (.goto (-27), 3) := by decide +kernel
theorem dX7_caughtThen_34 : decode cX7_caughtThen 34 = .ok (.iload_n 1, 1) := by decide +kernel
theorem dX7_caughtThen_35 : decode cX7_caughtThen 35 = .ok (.ireturn, 1) := by decide +kernel
theorem dX7_manyOf_0 : decode cX7_manyOf 0 = .ok (.iconst 0, 1) := by decide +kernel
theorem dX7_manyOf_1 : decode cX7_manyOf 1 = .ok (.istore_n 1, 1) := by decide +kernel
theorem dX7_manyOf_2 : decode cX7_manyOf 2 = .ok (.iconst 0, 1) := by decide +kernel
theorem dX7_manyOf_3 : decode cX7_manyOf 3 = .ok (.istore_n 2, 1) := by decide +kernel
theorem dX7_manyOf_4 : decode cX7_manyOf 4 = .ok (.iload_n 2, 1) := by decide +kernel
theorem dX7_manyOf_5 : decode cX7_manyOf 5 = .ok (.iconst 5, 1) := by decide +kernel
theorem dX7_manyOf_6 : decode cX7_manyOf 6 = .ok (.if_icmp .ge 17, 3) := by decide +kernel
theorem dX7_manyOf_9 : decode cX7_manyOf 9 = .ok (.iload_n 1, 1) := by decide +kernel
theorem dX7_manyOf_10 : decode cX7_manyOf 10 = .ok (.iload_n 0, 1) := by decide +kernel
theorem dX7_manyOf_11 : decode cX7_manyOf 11 = .ok (.iload_n 2, 1) := by decide +kernel
theorem dX7_manyOf_12 : decode cX7_manyOf 12 = .ok (.ishr, 1) := by decide +kernel
theorem dX7_manyOf_13 : decode cX7_manyOf 13 = .ok (.iconst 1, 1) := by decide +kernel
theorem dX7_manyOf_14 : decode cX7_manyOf 14 = .ok (.iand, 1) := by decide +kernel
theorem dX7_manyOf_15 : decode cX7_manyOf 15 = .ok (.iadd, 1) := by decide +kernel
theorem dX7_manyOf_16 : decode cX7_manyOf 16 = .ok (.istore_n 1, 1) := by decide +kernel
theorem dX7_manyOf_17 : decode cX7_manyOf 17 = .ok (.iinc 2 1, 3) := by decide +kernel
theorem dX7_manyOf_20 : decode cX7_manyOf 20 = .ok (.goto (-16), 3) := by decide +kernel
theorem dX7_manyOf_23 : decode cX7_manyOf 23 = .ok (.iload_n 1, 1) := by decide +kernel
theorem dX7_manyOf_24 : decode cX7_manyOf 24 = .ok (.ireturn, 1) := by decide +kernel
theorem dX7_now_0 : decode cX7_now 0 = .ok (.iconst 0, 1) := by decide +kernel
theorem dX7_now_1 : decode cX7_now 1 = .ok (.istore_n 2, 1) := by decide +kernel
theorem dX7_now_2 : decode cX7_now 2 = .ok (.iconst 0, 1) := by decide +kernel
theorem dX7_now_3 : decode cX7_now 3 = .ok (.istore_n 3, 1) := by decide +kernel
theorem dX7_now_4 : decode cX7_now 4 = .ok (.iload_n 3, 1) := by decide +kernel
theorem dX7_now_5 : decode cX7_now 5 = .ok (.aload_n 0, 1) := by decide +kernel
theorem dX7_now_6 : decode cX7_now 6 = .ok (.getfield 29, 3) := by decide +kernel
theorem dX7_now_9 : decode cX7_now 9 = .ok (.iconst 0, 1) := by decide +kernel
theorem dX7_now_10 : decode cX7_now 10 = .ok (.iaload, 1) := by decide +kernel
theorem dX7_now_11 : decode cX7_now 11 = .ok (.if_icmp .ge 37, 3) := by decide +kernel
theorem dX7_now_14 : decode cX7_now 14 = .ok (.iload_n 2, 1) := by decide +kernel
theorem dX7_now_15 : decode cX7_now 15 = .ok (.aload_n 0, 1) := by decide +kernel
theorem dX7_now_16 : decode cX7_now 16 = .ok (.getfield 59, 3) := by decide +kernel
theorem dX7_now_19 : decode cX7_now 19 = .ok (.bipush 16, 2) := by decide +kernel
theorem dX7_now_21 : decode cX7_now 21 = .ok (.iload_n 3, 1) := by decide +kernel
theorem dX7_now_22 : decode cX7_now 22 = .ok (.iadd, 1) := by decide +kernel
theorem dX7_now_23 : decode cX7_now 23 = .ok (.iaload, 1) := by decide +kernel
theorem dX7_now_24 : decode cX7_now 24 = .ok (.aload_n 0, 1) := by decide +kernel
theorem dX7_now_25 : decode cX7_now 25 = .ok (.getfield 44, 3) := by decide +kernel
theorem dX7_now_28 : decode cX7_now 28 = .ok (.iload_n 3, 1) := by decide +kernel
theorem dX7_now_29 : decode cX7_now 29 = .ok (.iaload, 1) := by decide +kernel
theorem dX7_now_30 : decode cX7_now 30 = .ok (.if_icmp .lt 9, 3) := by decide +kernel
theorem dX7_now_33 : decode cX7_now 33 = .ok (.iconst 1, 1) := by decide +kernel
theorem dX7_now_34 : decode cX7_now 34 = .ok (.iload_n 3, 1) := by decide +kernel
theorem dX7_now_35 : decode cX7_now 35 = .ok (.ishl, 1) := by decide +kernel
theorem dX7_now_36 : decode cX7_now 36 = .ok (.goto 4, 3) := by decide +kernel
theorem dX7_now_39 : decode cX7_now 39 = .ok (.iconst 0, 1) := by decide +kernel
theorem dX7_now_40 : decode cX7_now 40 = .ok (.ior, 1) := by decide +kernel
theorem dX7_now_41 : decode cX7_now 41 = .ok (.istore_n 2, 1) := by decide +kernel
theorem dX7_now_42 : decode cX7_now 42 = .ok (.iinc 3 1, 3) := by decide +kernel
theorem dX7_now_45 : decode cX7_now 45 = .ok (.goto (-41), 3) := by decide +kernel
theorem dX7_now_48 : decode cX7_now 48 = .ok (.aload_n 0, 1) := by decide +kernel
theorem dX7_now_49 : decode cX7_now 49 = .ok (.invokevirtual 177, 3) := by decide +kernel
theorem dX7_now_52 : decode cX7_now 52 = .ok (.iload_n 1, 1) := by decide +kernel
theorem dX7_now_53 : decode cX7_now 53 = .ok (.tableswitch 74 0 5 #[39, 46, 53, 60, 67, 72], 39) := by decide +kernel
theorem dX7_now_92 : decode cX7_now 92 = .ok (.aload_n 0, 1) := by decide +kernel
theorem dX7_now_93 : decode cX7_now 93 = .ok (.getfield 59, 3) := by decide +kernel
theorem dX7_now_96 : decode cX7_now 96 = .ok (.iconst 0, 1) := by decide +kernel
theorem dX7_now_97 : decode cX7_now 97 = .ok (.iaload, 1) := by decide +kernel
theorem dX7_now_98 : decode cX7_now 98 = .ok (.ireturn, 1) := by decide +kernel
theorem dX7_now_99 : decode cX7_now 99 = .ok (.aload_n 0, 1) := by decide +kernel
theorem dX7_now_100 : decode cX7_now 100 = .ok (.getfield 13, 3) := by decide +kernel
theorem dX7_now_103 : decode cX7_now 103 = .ok (.iconst 0, 1) := by decide +kernel
theorem dX7_now_104 : decode cX7_now 104 = .ok (.iaload, 1) := by decide +kernel
theorem dX7_now_105 : decode cX7_now 105 = .ok (.ireturn, 1) := by decide +kernel
theorem dX7_now_106 : decode cX7_now 106 = .ok (.aload_n 0, 1) := by decide +kernel
theorem dX7_now_107 : decode cX7_now 107 = .ok (.getfield 17, 3) := by decide +kernel
theorem dX7_now_110 : decode cX7_now 110 = .ok (.iconst 0, 1) := by decide +kernel
theorem dX7_now_111 : decode cX7_now 111 = .ok (.iaload, 1) := by decide +kernel
theorem dX7_now_112 : decode cX7_now 112 = .ok (.ireturn, 1) := by decide +kernel
theorem dX7_now_113 : decode cX7_now 113 = .ok (.aload_n 0, 1) := by decide +kernel
theorem dX7_now_114 : decode cX7_now 114 = .ok (.getfield 20, 3) := by decide +kernel
theorem dX7_now_117 : decode cX7_now 117 = .ok (.iconst 0, 1) := by decide +kernel
theorem dX7_now_118 : decode cX7_now 118 = .ok (.iaload, 1) := by decide +kernel
theorem dX7_now_119 : decode cX7_now 119 = .ok (.ireturn, 1) := by decide +kernel
theorem dX7_now_120 : decode cX7_now 120 = .ok (.aload_n 0, 1) := by decide +kernel
theorem dX7_now_121 : decode cX7_now 121 = .ok (.invokevirtual 180, 3) := by decide +kernel
theorem dX7_now_124 : decode cX7_now 124 = .ok (.ireturn, 1) := by decide +kernel
theorem dX7_now_125 : decode cX7_now 125 = .ok (.iload_n 2, 1) := by decide +kernel
theorem dX7_now_126 : decode cX7_now 126 = .ok (.ireturn, 1) := by decide +kernel
theorem dX7_now_127 : decode cX7_now 127 = .ok (.iconst (-1), 1) := by decide +kernel
theorem dX7_now_128 : decode cX7_now 128 = .ok (.ireturn, 1) := by decide +kernel
theorem dX7_isFree_0 : decode cX7_isFree 0 = .ok (.iconst 1, 1) := by decide +kernel
theorem dX7_isFree_1 : decode cX7_isFree 1 = .ok (.istore_n 3, 1) := by decide +kernel
theorem dX7_isFree_2 : decode cX7_isFree 2 = .ok (.iconst 0, 1) := by decide +kernel
theorem dX7_isFree_3 : decode cX7_isFree 3 = .ok (.istore 4, 2) := by decide +kernel
theorem dX7_isFree_5 : decode cX7_isFree 5 = .ok (.iload 4, 2) := by decide +kernel
theorem dX7_isFree_7 : decode cX7_isFree 7 = .ok (.aload_n 0, 1) := by decide +kernel
theorem dX7_isFree_8 : decode cX7_isFree 8 = .ok (.getfield 29, 3) := by decide +kernel
theorem dX7_isFree_11 : decode cX7_isFree 11 = .ok (.iconst 0, 1) := by decide +kernel
theorem dX7_isFree_12 : decode cX7_isFree 12 = .ok (.iaload, 1) := by decide +kernel
theorem dX7_isFree_13 : decode cX7_isFree 13 = .ok (.if_icmp .ge 86, 3) := by decide +kernel
theorem dX7_isFree_16 : decode cX7_isFree 16 = .ok (.aload_n 0, 1) := by decide +kernel
theorem dX7_isFree_17 : decode cX7_isFree 17 = .ok (.getfield 23, 3) := by decide +kernel
theorem dX7_isFree_20 : decode cX7_isFree 20 = .ok (.iconst 0, 1) := by decide +kernel
theorem dX7_isFree_21 : decode cX7_isFree 21 = .ok (.iaload, 1) := by decide +kernel
theorem dX7_isFree_22 : decode cX7_isFree 22 = .ok (.bipush (-9), 2) := by decide +kernel
theorem dX7_isFree_24 : decode cX7_isFree 24 = .ok (.if_icmp .eq 24, 3) := by decide +kernel
theorem dX7_isFree_27 : decode cX7_isFree 27 = .ok (.iload_n 1, 1) := by decide +kernel
theorem dX7_isFree_28 : decode cX7_isFree 28 = .ok (.aload_n 0, 1) := by decide +kernel
theorem dX7_isFree_29 : decode cX7_isFree 29 = .ok (.getfield 13, 3) := by decide +kernel
theorem dX7_isFree_32 : decode cX7_isFree 32 = .ok (.iconst 0, 1) := by decide +kernel
theorem dX7_isFree_33 : decode cX7_isFree 33 = .ok (.iaload, 1) := by decide +kernel
theorem dX7_isFree_34 : decode cX7_isFree 34 = .ok (.irem, 1) := by decide +kernel
theorem dX7_isFree_35 : decode cX7_isFree 35 = .ok (.aload_n 0, 1) := by decide +kernel
theorem dX7_isFree_36 : decode cX7_isFree 36 = .ok (.getfield 23, 3) := by decide +kernel
theorem dX7_isFree_39 : decode cX7_isFree 39 = .ok (.iconst 0, 1) := by decide +kernel
theorem dX7_isFree_40 : decode cX7_isFree 40 = .ok (.iaload, 1) := by decide +kernel
theorem dX7_isFree_41 : decode cX7_isFree 41 = .ok (.if_icmp .ne 7, 3) := by decide +kernel
theorem dX7_isFree_44 : decode cX7_isFree 44 = .ok (.iconst 1, 1) := by decide +kernel
theorem dX7_isFree_45 : decode cX7_isFree 45 = .ok (.goto 4, 3) := by decide +kernel
theorem dX7_isFree_48 : decode cX7_isFree 48 = .ok (.iconst 0, 1) := by decide +kernel
theorem dX7_isFree_49 : decode cX7_isFree 49 = .ok (.istore 5, 2) := by decide +kernel
theorem dX7_isFree_51 : decode cX7_isFree 51 = .ok (.iload_n 3, 1) := by decide +kernel
theorem dX7_isFree_52 : decode cX7_isFree 52 = .ok (.ifCond .eq 39, 3) := by decide +kernel
theorem dX7_isFree_55 : decode cX7_isFree 55 = .ok (.aload_n 0, 1) := by decide +kernel
theorem dX7_isFree_56 : decode cX7_isFree 56 = .ok (.getfield 62, 3) := by decide +kernel
theorem dX7_isFree_59 : decode cX7_isFree 59 = .ok (.iconst 1, 1) := by decide +kernel
theorem dX7_isFree_60 : decode cX7_isFree 60 = .ok (.iload 4, 2) := by decide +kernel
theorem dX7_isFree_62 : decode cX7_isFree 62 = .ok (.iadd, 1) := by decide +kernel
theorem dX7_isFree_63 : decode cX7_isFree 63 = .ok (.iaload, 1) := by decide +kernel
theorem dX7_isFree_64 : decode cX7_isFree 64 = .ok (.iload_n 1, 1) := by decide +kernel
theorem dX7_isFree_65 : decode cX7_isFree 65 = .ok (.if_icmp .ne 22, 3) := by decide +kernel
theorem dX7_isFree_68 : decode cX7_isFree 68 = .ok (.aload_n 0, 1) := by decide +kernel
theorem dX7_isFree_69 : decode cX7_isFree 69 = .ok (.getfield 62, 3) := by decide +kernel
theorem dX7_isFree_72 : decode cX7_isFree 72 = .ok (.bipush 26, 2) := by decide +kernel
theorem dX7_isFree_74 : decode cX7_isFree 74 = .ok (.iload 4, 2) := by decide +kernel
theorem dX7_isFree_76 : decode cX7_isFree 76 = .ok (.iadd, 1) := by decide +kernel
theorem dX7_isFree_77 : decode cX7_isFree 77 = .ok (.iaload, 1) := by decide +kernel
theorem dX7_isFree_78 : decode cX7_isFree 78 = .ok (.iload_n 2, 1) := by decide +kernel
theorem dX7_isFree_79 : decode cX7_isFree 79 = .ok (.if_icmp .eq 12, 3) := by decide +kernel
theorem dX7_isFree_82 : decode cX7_isFree 82 = .ok (.iload 5, 2) := by decide +kernel
theorem dX7_isFree_84 : decode cX7_isFree 84 = .ok (.ifCond .ne 7, 3) := by decide +kernel
theorem dX7_isFree_87 : decode cX7_isFree 87 = .ok (.iconst 1, 1) := by decide +kernel
theorem dX7_isFree_88 : decode cX7_isFree 88 = .ok (.goto 4, 3) := by decide +kernel
theorem dX7_isFree_91 : decode cX7_isFree 91 = .ok (.iconst 0, 1) := by decide +kernel
theorem dX7_isFree_92 : decode cX7_isFree 92 = .ok (.istore_n 3, 1) := by decide +kernel
theorem dX7_isFree_93 : decode cX7_isFree 93 = .ok (.iinc 4 1, 3) := by decide +kernel
theorem dX7_isFree_96 : decode cX7_isFree 96 = .ok (.goto (-91), 3) := by decide +kernel
theorem dX7_isFree_99 : decode cX7_isFree 99 = .ok (.iload_n 3, 1) := by decide +kernel
theorem dX7_isFree_100 : decode cX7_isFree 100 = .ok (.ireturn, 1) := by decide +kernel
theorem dX7_move_0 : decode cX7_move 0 = .ok (.aload_n 0, 1) := by decide +kernel
theorem dX7_move_1 : decode cX7_move 1 = .ok (.getfield 62, 3) := by decide +kernel
theorem dX7_move_4 : decode cX7_move 4 = .ok (.bipush 21, 2) := by decide +kernel
theorem dX7_move_6 : decode cX7_move 6 = .ok (.iload_n 1, 1) := by decide +kernel
theorem dX7_move_7 : decode cX7_move 7 = .ok (.iadd, 1) := by decide +kernel
theorem dX7_move_8 : decode cX7_move 8 = .ok (.iaload, 1) := by decide +kernel
theorem dX7_move_9 : decode cX7_move 9 = .ok (.iconst 1, 1) := by decide +kernel
theorem dX7_move_10 : decode cX7_move 10 = .ok (.if_icmp .ne 4, 3) := by decide +kernel
theorem dX7_move_13 : decode cX7_move 13 = .ok (.return_, 1) := by decide +kernel
theorem dX7_move_14 : decode cX7_move 14 = .ok (.aload_n 0, 1) := by decide +kernel
theorem dX7_move_15 : decode cX7_move 15 = .ok (.getfield 62, 3) := by decide +kernel
theorem dX7_move_18 : decode cX7_move 18 = .ok (.bipush 11, 2) := by decide +kernel
theorem dX7_move_20 : decode cX7_move 20 = .ok (.iload_n 1, 1) := by decide +kernel
theorem dX7_move_21 : decode cX7_move 21 = .ok (.iadd, 1) := by decide +kernel
theorem dX7_move_22 : decode cX7_move 22 = .ok (.iaload, 1) := by decide +kernel
theorem dX7_move_23 : decode cX7_move 23 = .ok (.ifCond .le 30, 3) := by decide +kernel
theorem dX7_move_26 : decode cX7_move 26 = .ok (.aload_n 0, 1) := by decide +kernel
theorem dX7_move_27 : decode cX7_move 27 = .ok (.getfield 62, 3) := by decide +kernel
theorem dX7_move_30 : decode cX7_move 30 = .ok (.bipush 11, 2) := by decide +kernel
theorem dX7_move_32 : decode cX7_move 32 = .ok (.iload_n 1, 1) := by decide +kernel
theorem dX7_move_33 : decode cX7_move 33 = .ok (.iadd, 1) := by decide +kernel
theorem dX7_move_34 : decode cX7_move 34 = .ok (.dup2, 1) := by decide +kernel
theorem dX7_move_35 : decode cX7_move 35 = .ok (.iaload, 1) := by decide +kernel
theorem dX7_move_36 : decode cX7_move 36 = .ok (.iconst 1, 1) := by decide +kernel
theorem dX7_move_37 : decode cX7_move 37 = .ok (.isub, 1) := by decide +kernel
theorem dX7_move_38 : decode cX7_move 38 = .ok (.iastore, 1) := by decide +kernel
theorem dX7_move_39 : decode cX7_move 39 = .ok (.aload_n 0, 1) := by decide +kernel
theorem dX7_move_40 : decode cX7_move 40 = .ok (.getfield 62, 3) := by decide +kernel
theorem dX7_move_43 : decode cX7_move 43 = .ok (.bipush 16, 2) := by decide +kernel
theorem dX7_move_45 : decode cX7_move 45 = .ok (.iload_n 1, 1) := by decide +kernel
theorem dX7_move_46 : decode cX7_move 46 = .ok (.iadd, 1) := by decide +kernel
theorem dX7_move_47 : decode cX7_move 47 = .ok (.dup2, 1) := by decide +kernel
theorem dX7_move_48 : decode cX7_move 48 = .ok (.iaload, 1) := by decide +kernel
theorem dX7_move_49 : decode cX7_move 49 = .ok (.iconst 1, 1) := by decide +kernel
theorem dX7_move_50 : decode cX7_move 50 = .ok (.iadd, 1) := by decide +kernel
theorem dX7_move_51 : decode cX7_move 51 = .ok (.iastore, 1) := by decide +kernel
theorem dX7_move_52 : decode cX7_move 52 = .ok (.return_, 1) := by decide +kernel
theorem dX7_move_53 : decode cX7_move 53 = .ok (.aload_n 0, 1) := by decide +kernel
theorem dX7_move_54 : decode cX7_move 54 = .ok (.getfield 62, 3) := by decide +kernel
theorem dX7_move_57 : decode cX7_move 57 = .ok (.bipush 6, 2) := by decide +kernel
theorem dX7_move_59 : decode cX7_move 59 = .ok (.iload_n 1, 1) := by decide +kernel
theorem dX7_move_60 : decode cX7_move 60 = .ok (.iadd, 1) := by decide +kernel
theorem dX7_move_61 : decode cX7_move 61 = .ok (.dup2, 1) := by decide +kernel
theorem dX7_move_62 : decode cX7_move 62 = .ok (.iaload, 1) := by decide +kernel
theorem dX7_move_63 : decode cX7_move 63 = .ok (.aload_n 0, 1) := by decide +kernel
theorem dX7_move_64 : decode cX7_move 64 = .ok (.getfield 62, 3) := by decide +kernel
theorem dX7_move_67 : decode cX7_move 67 = .ok (.bipush 6, 2) := by decide +kernel
theorem dX7_move_69 : decode cX7_move 69 = .ok (.iload_n 1, 1) := by decide +kernel
theorem dX7_move_70 : decode cX7_move 70 = .ok (.iadd, 1) := by decide +kernel
theorem dX7_move_71 : decode cX7_move 71 = .ok (.iaload, 1) := by decide +kernel
theorem dX7_move_72 : decode cX7_move 72 = .ok (.ifCond .le 7, 3) := by decide +kernel
theorem dX7_move_75 : decode cX7_move 75 = .ok (.iconst 1, 1) := by decide +kernel
theorem dX7_move_76 : decode cX7_move 76 = .ok (.goto 4, 3) := by decide +kernel
theorem dX7_move_79 : decode cX7_move 79 = .ok (.iconst 0, 1) := by decide +kernel
theorem dX7_move_80 : decode cX7_move 80 = .ok (.isub, 1) := by decide +kernel
theorem dX7_move_81 : decode cX7_move 81 = .ok (.iastore, 1) := by decide +kernel
theorem dX7_move_82 : decode cX7_move 82 = .ok (.aload_n 0, 1) := by decide +kernel
theorem dX7_move_83 : decode cX7_move 83 = .ok (.getfield 62, 3) := by decide +kernel
theorem dX7_move_86 : decode cX7_move 86 = .ok (.bipush 6, 2) := by decide +kernel
theorem dX7_move_88 : decode cX7_move 88 = .ok (.iload_n 1, 1) := by decide +kernel
theorem dX7_move_89 : decode cX7_move 89 = .ok (.iadd, 1) := by decide +kernel
theorem dX7_move_90 : decode cX7_move 90 = .ok (.iaload, 1) := by decide +kernel
theorem dX7_move_91 : decode cX7_move 91 = .ok (.ifCond .le 4, 3) := by decide +kernel
theorem dX7_move_94 : decode cX7_move 94 = .ok (.return_, 1) := by decide +kernel
theorem dX7_move_95 : decode cX7_move 95 = .ok (.aload_n 0, 1) := by decide +kernel
theorem dX7_move_96 : decode cX7_move 96 = .ok (.getfield 62, 3) := by decide +kernel
theorem dX7_move_99 : decode cX7_move 99 = .ok (.iconst 1, 1) := by decide +kernel
theorem dX7_move_100 : decode cX7_move 100 = .ok (.iload_n 1, 1) := by decide +kernel
theorem dX7_move_101 : decode cX7_move 101 = .ok (.iadd, 1) := by decide +kernel
theorem dX7_move_102 : decode cX7_move 102 = .ok (.iaload, 1) := by decide +kernel
theorem dX7_move_103 : decode cX7_move 103 = .ok (.iconst 1, 1) := by decide +kernel
theorem dX7_move_104 : decode cX7_move 104 = .ok (.iadd, 1) := by decide +kernel
theorem dX7_move_105 : decode cX7_move 105 = .ok (.istore_n 2, 1) := by decide +kernel
theorem dX7_move_106 : decode cX7_move 106 = .ok (.aload_n 0, 1) := by decide +kernel
theorem dX7_move_107 : decode cX7_move 107 = .ok (.iload_n 2, 1) := by decide +kernel
theorem dX7_move_108 : decode cX7_move 108 = .ok (.aload_n 0, 1) := by decide +kernel
theorem dX7_move_109 : decode cX7_move 109 = .ok (.getfield 62, 3) := by decide +kernel
theorem dX7_move_112 : decode cX7_move 112 = .ok (.bipush 26, 2) := by decide +kernel
theorem dX7_move_114 : decode cX7_move 114 = .ok (.iload_n 1, 1) := by decide +kernel
theorem dX7_move_115 : decode cX7_move 115 = .ok (.iadd, 1) := by decide +kernel
theorem dX7_move_116 : decode cX7_move 116 = .ok (.iaload, 1) := by decide +kernel
theorem dX7_move_117 : decode cX7_move 117 = .ok (.invokevirtual 183, 3) := by decide +kernel
theorem dX7_move_120 : decode cX7_move 120 = .ok (.ifCond .eq 36, 3) := by decide +kernel
theorem dX7_move_123 : decode cX7_move 123 = .ok (.aload_n 0, 1) := by decide +kernel
theorem dX7_move_124 : decode cX7_move 124 = .ok (.getfield 62, 3) := by decide +kernel
theorem dX7_move_127 : decode cX7_move 127 = .ok (.iconst 1, 1) := by decide +kernel
theorem dX7_move_128 : decode cX7_move 128 = .ok (.iload_n 1, 1) := by decide +kernel
theorem dX7_move_129 : decode cX7_move 129 = .ok (.iadd, 1) := by decide +kernel
theorem dX7_move_130 : decode cX7_move 130 = .ok (.iload_n 2, 1) := by decide +kernel
theorem dX7_move_131 : decode cX7_move 131 = .ok (.iastore, 1) := by decide +kernel
theorem dX7_move_132 : decode cX7_move 132 = .ok (.aload_n 0, 1) := by decide +kernel
theorem dX7_move_133 : decode cX7_move 133 = .ok (.getfield 62, 3) := by decide +kernel
theorem dX7_move_136 : decode cX7_move 136 = .ok (.bipush 6, 2) := by decide +kernel
theorem dX7_move_138 : decode cX7_move 138 = .ok (.iload_n 1, 1) := by decide +kernel
theorem dX7_move_139 : decode cX7_move 139 = .ok (.iadd, 1) := by decide +kernel
theorem dX7_move_140 : decode cX7_move 140 = .ok (.aload_n 0, 1) := by decide +kernel
theorem dX7_move_141 : decode cX7_move 141 = .ok (.iload_n 2, 1) := by decide +kernel
theorem dX7_move_142 : decode cX7_move 142 = .ok (.invokevirtual 160, 3) := by decide +kernel
theorem dX7_move_145 : decode cX7_move 145 = .ok (.aload_n 0, 1) := by decide +kernel
theorem dX7_move_146 : decode cX7_move 146 = .ok (.getfield 56, 3) := by decide +kernel
theorem dX7_move_149 : decode cX7_move 149 = .ok (.iload_n 1, 1) := by decide +kernel
theorem dX7_move_150 : decode cX7_move 150 = .ok (.iaload, 1) := by decide +kernel
theorem dX7_move_151 : decode cX7_move 151 = .ok (.iadd, 1) := by decide +kernel
theorem dX7_move_152 : decode cX7_move 152 = .ok (.iastore, 1) := by decide +kernel
theorem dX7_move_153 : decode cX7_move 153 = .ok (.goto 24, 3) := by decide +kernel
theorem dX7_move_156 : decode cX7_move 156 = .ok (.aload_n 0, 1) := by decide +kernel
theorem dX7_move_157 : decode cX7_move 157 = .ok (.aload_n 0, 1) := by decide +kernel
theorem dX7_move_158 : decode cX7_move 158 = .ok (.getfield 186, 3) := by decide +kernel
theorem dX7_move_161 : decode cX7_move 161 = .ok (.bipush (-9), 2) := by decide +kernel
theorem dX7_move_163 : decode cX7_move 163 = .ok (.if_icmp .ne 7, 3) := by decide +kernel
theorem dX7_move_166 : decode cX7_move 166 = .ok (.iload_n 1, 1) := by decide +kernel
theorem dX7_move_167 : decode cX7_move 167 = .ok (.goto 7, 3) := by decide +kernel
theorem dX7_move_170 : decode cX7_move 170 = .ok (.aload_n 0, 1) := by decide +kernel
theorem dX7_move_171 : decode cX7_move 171 = .ok (.getfield 186, 3) := by decide +kernel
theorem dX7_move_174 : decode cX7_move 174 = .ok (.putfield 186, 3) := by decide +kernel
theorem dX7_move_177 : decode cX7_move 177 = .ok (.return_, 1) := by decide +kernel
theorem dX7_pass_0 : decode cX7_pass 0 = .ok (.aload_n 0, 1) := by decide +kernel
theorem dX7_pass_1 : decode cX7_pass 1 = .ok (.bipush (-9), 2) := by decide +kernel
theorem dX7_pass_3 : decode cX7_pass 3 = .ok (.putfield 186, 3) := by decide +kernel
theorem dX7_pass_6 : decode cX7_pass 6 = .ok (.iconst 0, 1) := by decide +kernel
theorem dX7_pass_7 : decode cX7_pass 7 = .ok (.istore_n 1, 1) := by decide +kernel
theorem dX7_pass_8 : decode cX7_pass 8 = .ok (.iconst 0, 1) := by decide +kernel
theorem dX7_pass_9 : decode cX7_pass 9 = .ok (.istore_n 2, 1) := by decide +kernel
theorem dX7_pass_10 : decode cX7_pass 10 = .ok (.iload_n 2, 1) := by decide +kernel
theorem dX7_pass_11 : decode cX7_pass 11 = .ok (.aload_n 0, 1) := by decide +kernel
theorem dX7_pass_12 : decode cX7_pass 12 = .ok (.getfield 29, 3) := by decide +kernel
theorem dX7_pass_15 : decode cX7_pass 15 = .ok (.iconst 0, 1) := by decide +kernel
theorem dX7_pass_16 : decode cX7_pass 16 = .ok (.iaload, 1) := by decide +kernel
theorem dX7_pass_17 : decode cX7_pass 17 = .ok (.if_icmp .ge 81, 3) := by decide +kernel
theorem dX7_pass_20 : decode cX7_pass 20 = .ok (.bipush (-9), 2) := by decide +kernel
theorem dX7_pass_22 : decode cX7_pass 22 = .ok (.istore_n 3, 1) := by decide +kernel
theorem dX7_pass_23 : decode cX7_pass 23 = .ok (.iconst 0, 1) := by decide +kernel
theorem dX7_pass_24 : decode cX7_pass 24 = .ok (.istore 4, 2) := by decide +kernel
theorem dX7_pass_26 : decode cX7_pass 26 = .ok (.iload 4, 2) := by decide +kernel
theorem dX7_pass_28 : decode cX7_pass 28 = .ok (.aload_n 0, 1) := by decide +kernel
theorem dX7_pass_29 : decode cX7_pass 29 = .ok (.getfield 29, 3) := by decide +kernel
theorem dX7_pass_32 : decode cX7_pass 32 = .ok (.iconst 0, 1) := by decide +kernel
theorem dX7_pass_33 : decode cX7_pass 33 = .ok (.iaload, 1) := by decide +kernel
theorem dX7_pass_34 : decode cX7_pass 34 = .ok (.if_icmp .ge 47, 3) := by decide +kernel
theorem dX7_pass_37 : decode cX7_pass 37 = .ok (.iload_n 1, 1) := by decide +kernel
theorem dX7_pass_38 : decode cX7_pass 38 = .ok (.iload 4, 2) := by decide +kernel
theorem dX7_pass_40 : decode cX7_pass 40 = .ok (.ishr, 1) := by decide +kernel
theorem dX7_pass_41 : decode cX7_pass 41 = .ok (.iconst 1, 1) := by decide +kernel
theorem dX7_pass_42 : decode cX7_pass 42 = .ok (.iand, 1) := by decide +kernel
theorem dX7_pass_43 : decode cX7_pass 43 = .ok (.ifCond .ne 32, 3) := by decide +kernel
theorem dX7_pass_46 : decode cX7_pass 46 = .ok (.iload_n 3, 1) := by decide +kernel
theorem dX7_pass_47 : decode cX7_pass 47 = .ok (.bipush (-9), 2) := by decide +kernel
theorem dX7_pass_49 : decode cX7_pass 49 = .ok (.if_icmp .eq 23, 3) := by decide +kernel
theorem dX7_pass_52 : decode cX7_pass 52 = .ok (.aload_n 0, 1) := by decide +kernel
theorem dX7_pass_53 : decode cX7_pass 53 = .ok (.getfield 62, 3) := by decide +kernel
theorem dX7_pass_56 : decode cX7_pass 56 = .ok (.iconst 1, 1) := by decide +kernel
theorem dX7_pass_57 : decode cX7_pass 57 = .ok (.iload 4, 2) := by decide +kernel
theorem dX7_pass_59 : decode cX7_pass 59 = .ok (.iadd, 1) := by decide +kernel
theorem dX7_pass_60 : decode cX7_pass 60 = .ok (.iaload, 1) := by decide +kernel
theorem dX7_pass_61 : decode cX7_pass 61 = .ok (.aload_n 0, 1) := by decide +kernel
theorem dX7_pass_62 : decode cX7_pass 62 = .ok (.getfield 62, 3) := by decide +kernel
theorem dX7_pass_65 : decode cX7_pass 65 = .ok (.iconst 1, 1) := by decide +kernel
theorem dX7_pass_66 : decode cX7_pass 66 = .ok (.iload_n 3, 1) := by decide +kernel
theorem dX7_pass_67 : decode cX7_pass 67 = .ok (.iadd, 1) := by decide +kernel
theorem dX7_pass_68 : decode cX7_pass 68 = .ok (.iaload, 1) := by decide +kernel
theorem dX7_pass_69 : decode cX7_pass 69 = .ok (.if_icmp .le 6, 3) := by decide +kernel
theorem dX7_pass_72 : decode cX7_pass 72 = .ok (.iload 4, 2) := by decide +kernel
theorem dX7_pass_74 : decode cX7_pass 74 = .ok (.istore_n 3, 1) := by decide +kernel
theorem dX7_pass_75 : decode cX7_pass 75 = .ok (.iinc 4 1, 3) := by decide +kernel
theorem dX7_pass_78 : decode cX7_pass 78 = .ok (.goto (-52), 3) := by decide +kernel
theorem dX7_pass_81 : decode cX7_pass 81 = .ok (.iload_n 1, 1) := by decide +kernel
theorem dX7_pass_82 : decode cX7_pass 82 = .ok (.iconst 1, 1) := by decide +kernel
theorem dX7_pass_83 : decode cX7_pass 83 = .ok (.iload_n 3, 1) := by decide +kernel
theorem dX7_pass_84 : decode cX7_pass 84 = .ok (.ishl, 1) := by decide +kernel
theorem dX7_pass_85 : decode cX7_pass 85 = .ok (.ior, 1) := by decide +kernel
theorem dX7_pass_86 : decode cX7_pass 86 = .ok (.istore_n 1, 1) := by decide +kernel
theorem dX7_pass_87 : decode cX7_pass 87 = .ok (.aload_n 0, 1) := by decide +kernel
theorem dX7_pass_88 : decode cX7_pass 88 = .ok (.iload_n 3, 1) := by decide +kernel
theorem dX7_pass_89 : decode cX7_pass 89 = .ok (.invokevirtual 189, 3) := by decide +kernel
theorem dX7_pass_92 : decode cX7_pass 92 = .ok (.iinc 2 1, 3) := by decide +kernel
theorem dX7_pass_95 : decode cX7_pass 95 = .ok (.goto (-85), 3) := by decide +kernel
theorem dX7_pass_98 : decode cX7_pass 98 = .ok (.aload_n 0, 1) := by decide +kernel
theorem dX7_pass_99 : decode cX7_pass 99 = .ok (.getfield 62, 3) := by decide +kernel
theorem dX7_pass_102 : decode cX7_pass 102 = .ok (.iconst 0, 1) := by decide +kernel
theorem dX7_pass_103 : decode cX7_pass 103 = .ok (.dup2, 1) := by decide +kernel
theorem dX7_pass_104 : decode cX7_pass 104 = .ok (.iaload, 1) := by decide +kernel
theorem dX7_pass_105 : decode cX7_pass 105 = .ok (.iconst 1, 1) := by decide +kernel
theorem dX7_pass_106 : decode cX7_pass 106 = .ok (.iadd, 1) := by decide +kernel
theorem dX7_pass_107 : decode cX7_pass 107 = .ok (.iastore, 1) := by decide +kernel
theorem dX7_pass_108 : decode cX7_pass 108 = .ok (.iconst 0, 1) := by decide +kernel
theorem dX7_pass_109 : decode cX7_pass 109 = .ok (.istore_n 2, 1) := by decide +kernel
theorem dX7_pass_110 : decode cX7_pass 110 = .ok (.iload_n 2, 1) := by decide +kernel
theorem dX7_pass_111 : decode cX7_pass 111 = .ok (.aload_n 0, 1) := by decide +kernel
theorem dX7_pass_112 : decode cX7_pass 112 = .ok (.getfield 29, 3) := by decide +kernel
theorem dX7_pass_115 : decode cX7_pass 115 = .ok (.iconst 0, 1) := by decide +kernel
theorem dX7_pass_116 : decode cX7_pass 116 = .ok (.iaload, 1) := by decide +kernel
theorem dX7_pass_117 : decode cX7_pass 117 = .ok (.if_icmp .ge 52, 3) := by decide +kernel
theorem dX7_pass_120 : decode cX7_pass 120 = .ok (.aload_n 0, 1) := by decide +kernel
theorem dX7_pass_121 : decode cX7_pass 121 = .ok (.getfield 62, 3) := by decide +kernel
theorem dX7_pass_124 : decode cX7_pass 124 = .ok (.bipush 21, 2) := by decide +kernel
theorem dX7_pass_126 : decode cX7_pass 126 = .ok (.iload_n 2, 1) := by decide +kernel
theorem dX7_pass_127 : decode cX7_pass 127 = .ok (.iadd, 1) := by decide +kernel
theorem dX7_pass_128 : decode cX7_pass 128 = .ok (.aload_n 0, 1) := by decide +kernel
theorem dX7_pass_129 : decode cX7_pass 129 = .ok (.getfield 62, 3) := by decide +kernel
theorem dX7_pass_132 : decode cX7_pass 132 = .ok (.iconst 1, 1) := by decide +kernel
theorem dX7_pass_133 : decode cX7_pass 133 = .ok (.iload_n 2, 1) := by decide +kernel
theorem dX7_pass_134 : decode cX7_pass 134 = .ok (.iadd, 1) := by decide +kernel
theorem dX7_pass_135 : decode cX7_pass 135 = .ok (.iaload, 1) := by decide +kernel
theorem dX7_pass_136 : decode cX7_pass 136 = .ok (.aload_n 0, 1) := by decide +kernel
theorem dX7_pass_137 : decode cX7_pass 137 = .ok (.aload_n 0, 1) := by decide +kernel
theorem dX7_pass_138 : decode cX7_pass 138 = .ok (.getfield 62, 3) := by decide +kernel
theorem dX7_pass_141 : decode cX7_pass 141 = .ok (.iconst 0, 1) := by decide +kernel
theorem dX7_pass_142 : decode cX7_pass 142 = .ok (.iaload, 1) := by decide +kernel
theorem dX7_pass_143 : decode cX7_pass 143 = .ok (.invokevirtual 173, 3) := by decide +kernel
theorem dX7_pass_146 : decode cX7_pass 146 = .ok (.if_icmp .gt 7, 3) := by decide +kernel
theorem dX7_pass_149 : decode cX7_pass 149 = .ok (.iconst 1, 1) := by decide +kernel
theorem dX7_pass_150 : decode cX7_pass 150 = .ok (.goto 12, 3) := by decide +kernel
theorem dX7_pass_153 : decode cX7_pass 153 = .ok (.aload_n 0, 1) := by decide +kernel
theorem dX7_pass_154 : decode cX7_pass 154 = .ok (.getfield 62, 3) := by decide +kernel
theorem dX7_pass_157 : decode cX7_pass 157 = .ok (.bipush 21, 2) := by decide +kernel
theorem dX7_pass_159 : decode cX7_pass 159 = .ok (.iload_n 2, 1) := by decide +kernel
theorem dX7_pass_160 : decode cX7_pass 160 = .ok (.iadd, 1) := by decide +kernel
theorem dX7_pass_161 : decode cX7_pass 161 = .ok (.iaload, 1) := by decide +kernel
theorem dX7_pass_162 : decode cX7_pass 162 = .ok (.iastore, 1) := by decide +kernel
theorem dX7_pass_163 : decode cX7_pass 163 = .ok (.iinc 2 1, 3) := by decide +kernel
theorem dX7_pass_166 : decode cX7_pass 166 = .ok (.goto (-56), 3) := by decide +kernel
theorem dX7_pass_169 : decode cX7_pass 169 = .ok (.return_, 1) := by decide +kernel
theorem dX7_know_0 : decode cX7_know 0 = .ok (.aload_n 0, 1) := by decide +kernel
theorem dX7_know_1 : decode cX7_know 1 = .ok (.getfield 59, 3) := by decide +kernel
theorem dX7_know_4 : decode cX7_know 4 = .ok (.bipush 31, 2) := by decide +kernel
theorem dX7_know_6 : decode cX7_know 6 = .ok (.iaload, 1) := by decide +kernel
theorem dX7_know_7 : decode cX7_know 7 = .ok (.bipush 10, 2) := by decide +kernel
theorem dX7_know_9 : decode cX7_know 9 = .ok (.if_icmp .ne 47, 3) := by decide +kernel
theorem dX7_know_12 : decode cX7_know 12 = .ok (.iconst 0, 1) := by decide +kernel
theorem dX7_know_13 : decode cX7_know 13 = .ok (.istore_n 1, 1) := by decide +kernel
theorem dX7_know_14 : decode cX7_know 14 = .ok (.iload_n 1, 1) := by decide +kernel
theorem dX7_know_15 : decode cX7_know 15 = .ok (.sipush 279, 3) := by decide +kernel
theorem dX7_know_18 : decode cX7_know 18 = .ok (.if_icmp .ge 27, 3) := by decide +kernel
theorem dX7_know_21 : decode cX7_know 21 = .ok (.aload_n 0, 1) := by decide +kernel
theorem dX7_know_22 : decode cX7_know 22 = .ok (.getfield 59, 3) := by decide +kernel
theorem dX7_know_25 : decode cX7_know 25 = .ok (.bipush 32, 2) := by decide +kernel
theorem dX7_know_27 : decode cX7_know 27 = .ok (.iload_n 1, 1) := by decide +kernel
theorem dX7_know_28 : decode cX7_know 28 = .ok (.iadd, 1) := by decide +kernel
theorem dX7_know_29 : decode cX7_know 29 = .ok (.aload_n 0, 1) := by decide +kernel
theorem dX7_know_30 : decode cX7_know 30 = .ok (.getfield 59, 3) := by decide +kernel
theorem dX7_know_33 : decode cX7_know 33 = .ok (.bipush 63, 2) := by decide +kernel
theorem dX7_know_35 : decode cX7_know 35 = .ok (.iload_n 1, 1) := by decide +kernel
theorem dX7_know_36 : decode cX7_know 36 = .ok (.iadd, 1) := by decide +kernel
theorem dX7_know_37 : decode cX7_know 37 = .ok (.iaload, 1) := by decide +kernel
theorem dX7_know_38 : decode cX7_know 38 = .ok (.iastore, 1) := by decide +kernel
theorem dX7_know_39 : decode cX7_know 39 = .ok (.iinc 1 1, 3) := by decide +kernel
theorem dX7_know_42 : decode cX7_know 42 = .ok (.goto (-28), 3) := by decide +kernel
theorem dX7_know_45 : decode cX7_know 45 = .ok (.aload_n 0, 1) := by decide +kernel
theorem dX7_know_46 : decode cX7_know 46 = .ok (.getfield 59, 3) := by decide +kernel
theorem dX7_know_49 : decode cX7_know 49 = .ok (.bipush 31, 2) := by decide +kernel
theorem dX7_know_51 : decode cX7_know 51 = .ok (.dup2, 1) := by decide +kernel
theorem dX7_know_52 : decode cX7_know 52 = .ok (.iaload, 1) := by decide +kernel
theorem dX7_know_53 : decode cX7_know 53 = .ok (.iconst 1, 1) := by decide +kernel
theorem dX7_know_54 : decode cX7_know 54 = .ok (.isub, 1) := by decide +kernel
theorem dX7_know_55 : decode cX7_know 55 = .ok (.iastore, 1) := by decide +kernel
theorem dX7_know_56 : decode cX7_know 56 = .ok (.iconst 0, 1) := by decide +kernel
theorem dX7_know_57 : decode cX7_know 57 = .ok (.istore_n 1, 1) := by decide +kernel
theorem dX7_know_58 : decode cX7_know 58 = .ok (.iload_n 1, 1) := by decide +kernel
theorem dX7_know_59 : decode cX7_know 59 = .ok (.bipush 31, 2) := by decide +kernel
theorem dX7_know_61 : decode cX7_know 61 = .ok (.if_icmp .ge 35, 3) := by decide +kernel
theorem dX7_know_64 : decode cX7_know 64 = .ok (.aload_n 0, 1) := by decide +kernel
theorem dX7_know_65 : decode cX7_know 65 = .ok (.getfield 59, 3) := by decide +kernel
theorem dX7_know_68 : decode cX7_know 68 = .ok (.bipush 32, 2) := by decide +kernel
theorem dX7_know_70 : decode cX7_know 70 = .ok (.bipush 31, 2) := by decide +kernel
theorem dX7_know_72 : decode cX7_know 72 = .ok (.aload_n 0, 1) := by decide +kernel
theorem dX7_know_73 : decode cX7_know 73 = .ok (.getfield 59, 3) := by decide +kernel
theorem dX7_know_76 : decode cX7_know 76 = .ok (.bipush 31, 2) := by decide +kernel
theorem dX7_know_78 : decode cX7_know 78 = .ok (.iaload, 1) := by decide +kernel
theorem dX7_know_79 : decode cX7_know 79 = .ok (.imul, 1) := by decide +kernel
theorem dX7_know_80 : decode cX7_know 80 = .ok (.iadd, 1) := by decide +kernel
theorem dX7_know_81 : decode cX7_know 81 = .ok (.iload_n 1, 1) := by decide +kernel
theorem dX7_know_82 : decode cX7_know 82 = .ok (.iadd, 1) := by decide +kernel
theorem dX7_know_83 : decode cX7_know 83 = .ok (.aload_n 0, 1) := by decide +kernel
theorem dX7_know_84 : decode cX7_know 84 = .ok (.getfield 59, 3) := by decide +kernel
theorem dX7_know_87 : decode cX7_know 87 = .ok (.iload_n 1, 1) := by decide +kernel
theorem dX7_know_88 : decode cX7_know 88 = .ok (.iaload, 1) := by decide +kernel
theorem dX7_know_89 : decode cX7_know 89 = .ok (.iastore, 1) := by decide +kernel
theorem dX7_know_90 : decode cX7_know 90 = .ok (.iinc 1 1, 3) := by decide +kernel
theorem dX7_know_93 : decode cX7_know 93 = .ok (.goto (-35), 3) := by decide +kernel
theorem dX7_know_96 : decode cX7_know 96 = .ok (.aload_n 0, 1) := by decide +kernel
theorem dX7_know_97 : decode cX7_know 97 = .ok (.getfield 59, 3) := by decide +kernel
theorem dX7_know_100 : decode cX7_know 100 = .ok (.bipush 31, 2) := by decide +kernel
theorem dX7_know_102 : decode cX7_know 102 = .ok (.dup2, 1) := by decide +kernel
theorem dX7_know_103 : decode cX7_know 103 = .ok (.iaload, 1) := by decide +kernel
theorem dX7_know_104 : decode cX7_know 104 = .ok (.iconst 1, 1) := by decide +kernel
theorem dX7_know_105 : decode cX7_know 105 = .ok (.iadd, 1) := by decide +kernel
theorem dX7_know_106 : decode cX7_know 106 = .ok (.iastore, 1) := by decide +kernel
theorem dX7_know_107 : decode cX7_know 107 = .ok (.return_, 1) := by decide +kernel
theorem dX7_minute_0 : decode cX7_minute 0 = .ok (.aload_n 0, 1) := by decide +kernel
theorem dX7_minute_1 : decode cX7_minute 1 = .ok (.getfield 59, 3) := by decide +kernel
theorem dX7_minute_4 : decode cX7_minute 4 = .ok (.iconst 0, 1) := by decide +kernel
theorem dX7_minute_5 : decode cX7_minute 5 = .ok (.iaload, 1) := by decide +kernel
theorem dX7_minute_6 : decode cX7_minute 6 = .ok (.sipush 999, 3) := by decide +kernel
theorem dX7_minute_9 : decode cX7_minute 9 = .ok (.if_icmp .ne 6, 3) := by decide +kernel
theorem dX7_minute_12 : decode cX7_minute 12 = .ok (.bipush (-2), 2) := by decide +kernel
theorem dX7_minute_14 : decode cX7_minute 14 = .ok (.ireturn, 1) := by decide +kernel
theorem dX7_minute_15 : decode cX7_minute 15 = .ok (.aload_n 0, 1) := by decide +kernel
theorem dX7_minute_16 : decode cX7_minute 16 = .ok (.invokevirtual 192, 3) := by decide +kernel
theorem dX7_minute_19 : decode cX7_minute 19 = .ok (.aload_n 0, 1) := by decide +kernel
theorem dX7_minute_20 : decode cX7_minute 20 = .ok (.invokevirtual 177, 3) := by decide +kernel
theorem dX7_minute_23 : decode cX7_minute 23 = .ok (.aload_n 0, 1) := by decide +kernel
theorem dX7_minute_24 : decode cX7_minute 24 = .ok (.invokevirtual 195, 3) := by decide +kernel
theorem dX7_minute_27 : decode cX7_minute 27 = .ok (.aload_n 0, 1) := by decide +kernel
theorem dX7_minute_28 : decode cX7_minute 28 = .ok (.invokevirtual 167, 3) := by decide +kernel
theorem dX7_minute_31 : decode cX7_minute 31 = .ok (.aload_n 0, 1) := by decide +kernel
theorem dX7_minute_32 : decode cX7_minute 32 = .ok (.invokevirtual 180, 3) := by decide +kernel
theorem dX7_minute_35 : decode cX7_minute 35 = .ok (.invokestatic 198, 3) := by decide +kernel
theorem dX7_minute_38 : decode cX7_minute 38 = .ok (.ireturn, 1) := by decide +kernel
theorem dX7_stand_0 : decode cX7_stand 0 = .ok (.aload_n 0, 1) := by decide +kernel
theorem dX7_stand_1 : decode cX7_stand 1 = .ok (.iload_n 1, 1) := by decide +kernel
theorem dX7_stand_2 : decode cX7_stand 2 = .ok (.invokevirtual 170, 3) := by decide +kernel
theorem dX7_stand_5 : decode cX7_stand 5 = .ok (.ifCond .eq 13, 3) := by decide +kernel
theorem dX7_stand_8 : decode cX7_stand 8 = .ok (.iload_n 2, 1) := by decide +kernel
theorem dX7_stand_9 : decode cX7_stand 9 = .ok (.iconst 1, 1) := by decide +kernel
theorem dX7_stand_10 : decode cX7_stand 10 = .ok (.bipush 30, 2) := by decide +kernel
theorem dX7_stand_12 : decode cX7_stand 12 = .ok (.invokestatic 88, 3) := by decide +kernel
theorem dX7_stand_15 : decode cX7_stand 15 = .ok (.ifCond .ne 5, 3) := by decide +kernel
theorem dX7_stand_18 : decode cX7_stand 18 = .ok (.iconst (-1), 1) := by decide +kernel
theorem dX7_stand_19 : decode cX7_stand 19 = .ok (.ireturn, 1) := by decide +kernel
theorem dX7_stand_20 : decode cX7_stand 20 = .ok (.aload_n 0, 1) := by decide +kernel
theorem dX7_stand_21 : decode cX7_stand 21 = .ok (.getfield 59, 3) := by decide +kernel
theorem dX7_stand_24 : decode cX7_stand 24 = .ok (.bipush 21, 2) := by decide +kernel
theorem dX7_stand_26 : decode cX7_stand 26 = .ok (.iload_n 1, 1) := by decide +kernel
theorem dX7_stand_27 : decode cX7_stand 27 = .ok (.iadd, 1) := by decide +kernel
theorem dX7_stand_28 : decode cX7_stand 28 = .ok (.iaload, 1) := by decide +kernel
theorem dX7_stand_29 : decode cX7_stand 29 = .ok (.iconst 1, 1) := by decide +kernel
theorem dX7_stand_30 : decode cX7_stand 30 = .ok (.if_icmp .eq 19, 3) := by decide +kernel
theorem dX7_stand_33 : decode cX7_stand 33 = .ok (.aload_n 0, 1) := by decide +kernel
theorem dX7_stand_34 : decode cX7_stand 34 = .ok (.getfield 59, 3) := by decide +kernel
theorem dX7_stand_37 : decode cX7_stand 37 = .ok (.bipush 11, 2) := by decide +kernel
theorem dX7_stand_39 : decode cX7_stand 39 = .ok (.iload_n 1, 1) := by decide +kernel
theorem dX7_stand_40 : decode cX7_stand 40 = .ok (.iadd, 1) := by decide +kernel
theorem dX7_stand_41 : decode cX7_stand 41 = .ok (.iaload, 1) := by decide +kernel
theorem dX7_stand_42 : decode cX7_stand 42 = .ok (.iload_n 2, 1) := by decide +kernel
theorem dX7_stand_43 : decode cX7_stand 43 = .ok (.iadd, 1) := by decide +kernel
theorem dX7_stand_44 : decode cX7_stand 44 = .ok (.bipush 99, 2) := by decide +kernel
theorem dX7_stand_46 : decode cX7_stand 46 = .ok (.if_icmp .le 6, 3) := by decide +kernel
theorem dX7_stand_49 : decode cX7_stand 49 = .ok (.bipush (-2), 2) := by decide +kernel
theorem dX7_stand_51 : decode cX7_stand 51 = .ok (.ireturn, 1) := by decide +kernel
theorem dX7_stand_52 : decode cX7_stand 52 = .ok (.aload_n 0, 1) := by decide +kernel
theorem dX7_stand_53 : decode cX7_stand 53 = .ok (.invokevirtual 192, 3) := by decide +kernel
theorem dX7_stand_56 : decode cX7_stand 56 = .ok (.aload_n 0, 1) := by decide +kernel
theorem dX7_stand_57 : decode cX7_stand 57 = .ok (.getfield 59, 3) := by decide +kernel
theorem dX7_stand_60 : decode cX7_stand 60 = .ok (.bipush 11, 2) := by decide +kernel
theorem dX7_stand_62 : decode cX7_stand 62 = .ok (.iload_n 1, 1) := by decide +kernel
theorem dX7_stand_63 : decode cX7_stand 63 = .ok (.iadd, 1) := by decide +kernel
theorem dX7_stand_64 : decode cX7_stand 64 = .ok (.dup2, 1) := by decide +kernel
theorem dX7_stand_65 : decode cX7_stand 65 = .ok (.iaload, 1) := by decide +kernel
theorem dX7_stand_66 : decode cX7_stand 66 = .ok (.iload_n 2, 1) := by decide +kernel
theorem dX7_stand_67 : decode cX7_stand 67 = .ok (.iadd, 1) := by decide +kernel
theorem dX7_stand_68 : decode cX7_stand 68 = .ok (.iastore, 1) := by decide +kernel
theorem dX7_stand_69 : decode cX7_stand 69 = .ok (.aload_n 0, 1) := by decide +kernel
theorem dX7_stand_70 : decode cX7_stand 70 = .ok (.getfield 59, 3) := by decide +kernel
theorem dX7_stand_73 : decode cX7_stand 73 = .ok (.bipush 11, 2) := by decide +kernel
theorem dX7_stand_75 : decode cX7_stand 75 = .ok (.iload_n 1, 1) := by decide +kernel
theorem dX7_stand_76 : decode cX7_stand 76 = .ok (.iadd, 1) := by decide +kernel
theorem dX7_stand_77 : decode cX7_stand 77 = .ok (.iaload, 1) := by decide +kernel
theorem dX7_stand_78 : decode cX7_stand 78 = .ok (.ireturn, 1) := by decide +kernel
theorem dX7_isThere_0 : decode cX7_isThere 0 = .ok (.iconst 0, 1) := by decide +kernel
theorem dX7_isThere_1 : decode cX7_isThere 1 = .ok (.istore_n 3, 1) := by decide +kernel
theorem dX7_isThere_2 : decode cX7_isThere 2 = .ok (.iconst 0, 1) := by decide +kernel
theorem dX7_isThere_3 : decode cX7_isThere 3 = .ok (.istore 4, 2) := by decide +kernel
theorem dX7_isThere_5 : decode cX7_isThere 5 = .ok (.iload 4, 2) := by decide +kernel
theorem dX7_isThere_7 : decode cX7_isThere 7 = .ok (.aload_n 0, 1) := by decide +kernel
theorem dX7_isThere_8 : decode cX7_isThere 8 = .ok (.getfield 29, 3) := by decide +kernel
theorem dX7_isThere_11 : decode cX7_isThere 11 = .ok (.iconst 0, 1) := by decide +kernel
theorem dX7_isThere_12 : decode cX7_isThere 12 = .ok (.iaload, 1) := by decide +kernel
theorem dX7_isThere_13 : decode cX7_isThere 13 = .ok (.if_icmp .ge 46, 3) := by decide +kernel
theorem dX7_isThere_16 : decode cX7_isThere 16 = .ok (.iload_n 3, 1) := by decide +kernel
theorem dX7_isThere_17 : decode cX7_isThere 17 = .ok (.ifCond .ne 30, 3) := by decide +kernel
theorem dX7_isThere_20 : decode cX7_isThere 20 = .ok (.aload_n 0, 1) := by decide +kernel
theorem dX7_isThere_21 : decode cX7_isThere 21 = .ok (.getfield 59, 3) := by decide +kernel
theorem dX7_isThere_24 : decode cX7_isThere 24 = .ok (.iconst 1, 1) := by decide +kernel
theorem dX7_isThere_25 : decode cX7_isThere 25 = .ok (.iload 4, 2) := by decide +kernel
theorem dX7_isThere_27 : decode cX7_isThere 27 = .ok (.iadd, 1) := by decide +kernel
theorem dX7_isThere_28 : decode cX7_isThere 28 = .ok (.iaload, 1) := by decide +kernel
theorem dX7_isThere_29 : decode cX7_isThere 29 = .ok (.iload_n 1, 1) := by decide +kernel
theorem dX7_isThere_30 : decode cX7_isThere 30 = .ok (.if_icmp .ne 21, 3) := by decide +kernel
theorem dX7_isThere_33 : decode cX7_isThere 33 = .ok (.aload_n 0, 1) := by decide +kernel
theorem dX7_isThere_34 : decode cX7_isThere 34 = .ok (.getfield 59, 3) := by decide +kernel
theorem dX7_isThere_37 : decode cX7_isThere 37 = .ok (.bipush 26, 2) := by decide +kernel
theorem dX7_isThere_39 : decode cX7_isThere 39 = .ok (.iload 4, 2) := by decide +kernel
theorem dX7_isThere_41 : decode cX7_isThere 41 = .ok (.iadd, 1) := by decide +kernel
theorem dX7_isThere_42 : decode cX7_isThere 42 = .ok (.iaload, 1) := by decide +kernel
theorem dX7_isThere_43 : decode cX7_isThere 43 = .ok (.iload_n 2, 1) := by decide +kernel
theorem dX7_isThere_44 : decode cX7_isThere 44 = .ok (.if_icmp .ne 7, 3) := by decide +kernel
theorem dX7_isThere_47 : decode cX7_isThere 47 = .ok (.iconst 1, 1) := by decide +kernel
theorem dX7_isThere_48 : decode cX7_isThere 48 = .ok (.goto 4, 3) := by decide +kernel
theorem dX7_isThere_51 : decode cX7_isThere 51 = .ok (.iconst 0, 1) := by decide +kernel
theorem dX7_isThere_52 : decode cX7_isThere 52 = .ok (.istore_n 3, 1) := by decide +kernel
theorem dX7_isThere_53 : decode cX7_isThere 53 = .ok (.iinc 4 1, 3) := by decide +kernel
theorem dX7_isThere_56 : decode cX7_isThere 56 = .ok (.goto (-51), 3) := by decide +kernel
theorem dX7_isThere_59 : decode cX7_isThere 59 = .ok (.iload_n 3, 1) := by decide +kernel
theorem dX7_isThere_60 : decode cX7_isThere 60 = .ok (.ireturn, 1) := by decide +kernel
theorem dX7_change_0 : decode cX7_change 0 = .ok (.aload_n 0, 1) := by decide +kernel
theorem dX7_change_1 : decode cX7_change 1 = .ok (.iload_n 1, 1) := by decide +kernel
theorem dX7_change_2 : decode cX7_change 2 = .ok (.invokevirtual 170, 3) := by decide +kernel
theorem dX7_change_5 : decode cX7_change 5 = .ok (.ifCond .eq 12, 3) := by decide +kernel
theorem dX7_change_8 : decode cX7_change 8 = .ok (.iload_n 2, 1) := by decide +kernel
theorem dX7_change_9 : decode cX7_change 9 = .ok (.iconst 0, 1) := by decide +kernel
theorem dX7_change_10 : decode cX7_change 10 = .ok (.iconst 2, 1) := by decide +kernel
theorem dX7_change_11 : decode cX7_change 11 = .ok (.invokestatic 88, 3) := by decide +kernel
theorem dX7_change_14 : decode cX7_change 14 = .ok (.ifCond .ne 5, 3) := by decide +kernel
theorem dX7_change_17 : decode cX7_change 17 = .ok (.iconst (-1), 1) := by decide +kernel
theorem dX7_change_18 : decode cX7_change 18 = .ok (.ireturn, 1) := by decide +kernel
theorem dX7_change_19 : decode cX7_change 19 = .ok (.aload_n 0, 1) := by decide +kernel
theorem dX7_change_20 : decode cX7_change 20 = .ok (.getfield 59, 3) := by decide +kernel
theorem dX7_change_23 : decode cX7_change 23 = .ok (.bipush 26, 2) := by decide +kernel
theorem dX7_change_25 : decode cX7_change 25 = .ok (.iload_n 1, 1) := by decide +kernel
theorem dX7_change_26 : decode cX7_change 26 = .ok (.iadd, 1) := by decide +kernel
theorem dX7_change_27 : decode cX7_change 27 = .ok (.iaload, 1) := by decide +kernel
theorem dX7_change_28 : decode cX7_change 28 = .ok (.istore_n 3, 1) := by decide +kernel
theorem dX7_change_29 : decode cX7_change 29 = .ok (.aload_n 0, 1) := by decide +kernel
theorem dX7_change_30 : decode cX7_change 30 = .ok (.getfield 26, 3) := by decide +kernel
theorem dX7_change_33 : decode cX7_change 33 = .ok (.iconst 0, 1) := by decide +kernel
theorem dX7_change_34 : decode cX7_change 34 = .ok (.iaload, 1) := by decide +kernel
theorem dX7_change_35 : decode cX7_change 35 = .ok (.aload_n 0, 1) := by decide +kernel
theorem dX7_change_36 : decode cX7_change 36 = .ok (.getfield 59, 3) := by decide +kernel
theorem dX7_change_39 : decode cX7_change 39 = .ok (.iconst 1, 1) := by decide +kernel
theorem dX7_change_40 : decode cX7_change 40 = .ok (.iload_n 1, 1) := by decide +kernel
theorem dX7_change_41 : decode cX7_change 41 = .ok (.iadd, 1) := by decide +kernel
theorem dX7_change_42 : decode cX7_change 42 = .ok (.iaload, 1) := by decide +kernel
theorem dX7_change_43 : decode cX7_change 43 = .ok (.aload_n 0, 1) := by decide +kernel
theorem dX7_change_44 : decode cX7_change 44 = .ok (.getfield 13, 3) := by decide +kernel
theorem dX7_change_47 : decode cX7_change 47 = .ok (.iconst 0, 1) := by decide +kernel
theorem dX7_change_48 : decode cX7_change 48 = .ok (.iaload, 1) := by decide +kernel
theorem dX7_change_49 : decode cX7_change 49 = .ok (.irem, 1) := by decide +kernel
theorem dX7_change_50 : decode cX7_change 50 = .ok (.ishr, 1) := by decide +kernel
theorem dX7_change_51 : decode cX7_change 51 = .ok (.iconst 1, 1) := by decide +kernel
theorem dX7_change_52 : decode cX7_change 52 = .ok (.iand, 1) := by decide +kernel
theorem dX7_change_53 : decode cX7_change 53 = .ok (.iconst 1, 1) := by decide +kernel
theorem dX7_change_54 : decode cX7_change 54 = .ok (.if_icmp .ne 7, 3) := by decide +kernel
theorem dX7_change_57 : decode cX7_change 57 = .ok (.iconst 1, 1) := by decide +kernel
theorem dX7_change_58 : decode cX7_change 58 = .ok (.goto 4, 3) := by decide +kernel
theorem dX7_change_61 : decode cX7_change 61 = .ok (.iconst 0, 1) := by decide +kernel
theorem dX7_change_62 : decode cX7_change 62 = .ok (.istore 4, 2) := by decide +kernel
theorem dX7_change_64 : decode cX7_change 64 = .ok (.aload_n 0, 1) := by decide +kernel
theorem dX7_change_65 : decode cX7_change 65 = .ok (.getfield 59, 3) := by decide +kernel
theorem dX7_change_68 : decode cX7_change 68 = .ok (.bipush 21, 2) := by decide +kernel
theorem dX7_change_70 : decode cX7_change 70 = .ok (.iload_n 1, 1) := by decide +kernel
theorem dX7_change_71 : decode cX7_change 71 = .ok (.iadd, 1) := by decide +kernel
theorem dX7_change_72 : decode cX7_change 72 = .ok (.iaload, 1) := by decide +kernel
theorem dX7_change_73 : decode cX7_change 73 = .ok (.iconst 1, 1) := by decide +kernel
theorem dX7_change_74 : decode cX7_change 74 = .ok (.if_icmp .eq 29, 3) := by decide +kernel
theorem dX7_change_77 : decode cX7_change 77 = .ok (.iload_n 3, 1) := by decide +kernel
theorem dX7_change_78 : decode cX7_change 78 = .ok (.iload_n 2, 1) := by decide +kernel
theorem dX7_change_79 : decode cX7_change 79 = .ok (.if_icmp .eq 24, 3) := by decide +kernel
theorem dX7_change_82 : decode cX7_change 82 = .ok (.iload 4, 2) := by decide +kernel
theorem dX7_change_84 : decode cX7_change 84 = .ok (.ifCond .eq 19, 3) := by decide +kernel
theorem dX7_change_87 : decode cX7_change 87 = .ok (.aload_n 0, 1) := by decide +kernel
theorem dX7_change_88 : decode cX7_change 88 = .ok (.aload_n 0, 1) := by decide +kernel
theorem dX7_change_89 : decode cX7_change 89 = .ok (.getfield 59, 3) := by decide +kernel
theorem dX7_change_92 : decode cX7_change 92 = .ok (.iconst 1, 1) := by decide +kernel
theorem dX7_change_93 : decode cX7_change 93 = .ok (.iload_n 1, 1) := by decide +kernel
theorem dX7_change_94 : decode cX7_change 94 = .ok (.iadd, 1) := by decide +kernel
theorem dX7_change_95 : decode cX7_change 95 = .ok (.iaload, 1) := by decide +kernel
theorem dX7_change_96 : decode cX7_change 96 = .ok (.iload_n 2, 1) := by decide +kernel
theorem dX7_change_97 : decode cX7_change 97 = .ok (.invokevirtual 201, 3) := by decide +kernel
theorem dX7_change_100 : decode cX7_change 100 = .ok (.ifCond .eq 6, 3) := by decide +kernel
theorem dX7_change_103 : decode cX7_change 103 = .ok (.bipush (-2), 2) := by decide +kernel
theorem dX7_change_105 : decode cX7_change 105 = .ok (.ireturn, 1) := by decide +kernel
theorem dX7_change_106 : decode cX7_change 106 = .ok (.aload_n 0, 1) := by decide +kernel
theorem dX7_change_107 : decode cX7_change 107 = .ok (.invokevirtual 192, 3) := by decide +kernel
theorem dX7_change_110 : decode cX7_change 110 = .ok (.aload_n 0, 1) := by decide +kernel
theorem dX7_change_111 : decode cX7_change 111 = .ok (.getfield 59, 3) := by decide +kernel
theorem dX7_change_114 : decode cX7_change 114 = .ok (.bipush 26, 2) := by decide +kernel
theorem dX7_change_116 : decode cX7_change 116 = .ok (.iload_n 1, 1) := by decide +kernel
theorem dX7_change_117 : decode cX7_change 117 = .ok (.iadd, 1) := by decide +kernel
theorem dX7_change_118 : decode cX7_change 118 = .ok (.iload_n 2, 1) := by decide +kernel
theorem dX7_change_119 : decode cX7_change 119 = .ok (.iastore, 1) := by decide +kernel
theorem dX7_change_120 : decode cX7_change 120 = .ok (.iload_n 3, 1) := by decide +kernel
theorem dX7_change_121 : decode cX7_change 121 = .ok (.ireturn, 1) := by decide +kernel
theorem dX7_undo_0 : decode cX7_undo 0 = .ok (.aload_n 0, 1) := by decide +kernel
theorem dX7_undo_1 : decode cX7_undo 1 = .ok (.getfield 59, 3) := by decide +kernel
theorem dX7_undo_4 : decode cX7_undo 4 = .ok (.bipush 31, 2) := by decide +kernel
theorem dX7_undo_6 : decode cX7_undo 6 = .ok (.iaload, 1) := by decide +kernel
theorem dX7_undo_7 : decode cX7_undo 7 = .ok (.ifCond .ne 6, 3) := by decide +kernel
theorem dX7_undo_10 : decode cX7_undo 10 = .ok (.bipush (-2), 2) := by decide +kernel
theorem dX7_undo_12 : decode cX7_undo 12 = .ok (.ireturn, 1) := by decide +kernel
theorem dX7_undo_13 : decode cX7_undo 13 = .ok (.aload_n 0, 1) := by decide +kernel
theorem dX7_undo_14 : decode cX7_undo 14 = .ok (.getfield 59, 3) := by decide +kernel
theorem dX7_undo_17 : decode cX7_undo 17 = .ok (.bipush 31, 2) := by decide +kernel
theorem dX7_undo_19 : decode cX7_undo 19 = .ok (.dup2, 1) := by decide +kernel
theorem dX7_undo_20 : decode cX7_undo 20 = .ok (.iaload, 1) := by decide +kernel
theorem dX7_undo_21 : decode cX7_undo 21 = .ok (.iconst 1, 1) := by decide +kernel
theorem dX7_undo_22 : decode cX7_undo 22 = .ok (.isub, 1) := by decide +kernel
theorem dX7_undo_23 : decode cX7_undo 23 = .ok (.iastore, 1) := by decide +kernel
theorem dX7_undo_24 : decode cX7_undo 24 = .ok (.iconst 0, 1) := by decide +kernel
theorem dX7_undo_25 : decode cX7_undo 25 = .ok (.istore_n 1, 1) := by decide +kernel
theorem dX7_undo_26 : decode cX7_undo 26 = .ok (.iload_n 1, 1) := by decide +kernel
theorem dX7_undo_27 : decode cX7_undo 27 = .ok (.bipush 31, 2) := by decide +kernel
theorem dX7_undo_29 : decode cX7_undo 29 = .ok (.if_icmp .ge 35, 3) := by decide +kernel
theorem dX7_undo_32 : decode cX7_undo 32 = .ok (.aload_n 0, 1) := by decide +kernel
theorem dX7_undo_33 : decode cX7_undo 33 = .ok (.getfield 59, 3) := by decide +kernel
theorem dX7_undo_36 : decode cX7_undo 36 = .ok (.iload_n 1, 1) := by decide +kernel
theorem dX7_undo_37 : decode cX7_undo 37 = .ok (.aload_n 0, 1) := by decide +kernel
theorem dX7_undo_38 : decode cX7_undo 38 = .ok (.getfield 59, 3) := by decide +kernel
theorem dX7_undo_41 : decode cX7_undo 41 = .ok (.bipush 32, 2) := by decide +kernel
theorem dX7_undo_43 : decode cX7_undo 43 = .ok (.bipush 31, 2) := by decide +kernel
theorem dX7_undo_45 : decode cX7_undo 45 = .ok (.aload_n 0, 1) := by decide +kernel
theorem dX7_undo_46 : decode cX7_undo 46 = .ok (.getfield 59, 3) := by decide +kernel
theorem dX7_undo_49 : decode cX7_undo 49 = .ok (.bipush 31, 2) := by decide +kernel
theorem dX7_undo_51 : decode cX7_undo 51 = .ok (.iaload, 1) := by decide +kernel
theorem dX7_undo_52 : decode cX7_undo 52 = .ok (.imul, 1) := by decide +kernel
theorem dX7_undo_53 : decode cX7_undo 53 = .ok (.iadd, 1) := by decide +kernel
theorem dX7_undo_54 : decode cX7_undo 54 = .ok (.iload_n 1, 1) := by decide +kernel
theorem dX7_undo_55 : decode cX7_undo 55 = .ok (.iadd, 1) := by decide +kernel
theorem dX7_undo_56 : decode cX7_undo 56 = .ok (.iaload, 1) := by decide +kernel
theorem dX7_undo_57 : decode cX7_undo 57 = .ok (.iastore, 1) := by decide +kernel
theorem dX7_undo_58 : decode cX7_undo 58 = .ok (.iinc 1 1, 3) := by decide +kernel
theorem dX7_undo_61 : decode cX7_undo 61 = .ok (.goto (-35), 3) := by decide +kernel
theorem dX7_undo_64 : decode cX7_undo 64 = .ok (.aload_n 0, 1) := by decide +kernel
theorem dX7_undo_65 : decode cX7_undo 65 = .ok (.getfield 59, 3) := by decide +kernel
theorem dX7_undo_68 : decode cX7_undo 68 = .ok (.bipush 31, 2) := by decide +kernel
theorem dX7_undo_70 : decode cX7_undo 70 = .ok (.iaload, 1) := by decide +kernel
theorem dX7_undo_71 : decode cX7_undo 71 = .ok (.ireturn, 1) := by decide +kernel
theorem dX7_passMany_0 : decode cX7_passMany 0 = .ok (.iconst 0, 1) := by decide +kernel
theorem dX7_passMany_1 : decode cX7_passMany 1 = .ok (.istore_n 2, 1) := by decide +kernel
theorem dX7_passMany_2 : decode cX7_passMany 2 = .ok (.iload_n 2, 1) := by decide +kernel
theorem dX7_passMany_3 : decode cX7_passMany 3 = .ok (.iload_n 1, 1) := by decide +kernel
theorem dX7_passMany_4 : decode cX7_passMany 4 = .ok (.if_icmp .ge 13, 3) := by decide +kernel
theorem dX7_passMany_7 : decode cX7_passMany 7 = .ok (.aload_n 0, 1) := by decide +kernel
theorem dX7_passMany_8 : decode cX7_passMany 8 = .ok (.invokevirtual 195, 3) := by decide +kernel
theorem dX7_passMany_11 : decode cX7_passMany 11 = .ok (.iinc 2 1, 3) := by decide +kernel
theorem dX7_passMany_14 : decode cX7_passMany 14 = .ok (.goto (-12), 3) := by decide +kernel
theorem dX7_passMany_17 : decode cX7_passMany 17 = .ok (.return_, 1) := by decide +kernel
theorem dX7_behind_0 : decode cX7_behind 0 = .ok (.iload_n 1, 1) := by decide +kernel
theorem dX7_behind_1 : decode cX7_behind 1 = .ok (.iconst 0, 1) := by decide +kernel
theorem dX7_behind_2 : decode cX7_behind 2 = .ok (.bipush 60, 2) := by decide +kernel
theorem dX7_behind_4 : decode cX7_behind 4 = .ok (.invokestatic 88, 3) := by decide +kernel
theorem dX7_behind_7 : decode cX7_behind 7 = .ok (.ifCond .eq 20, 3) := by decide +kernel
theorem dX7_behind_10 : decode cX7_behind 10 = .ok (.aload_n 0, 1) := by decide +kernel
theorem dX7_behind_11 : decode cX7_behind 11 = .ok (.iload_n 2, 1) := by decide +kernel
theorem dX7_behind_12 : decode cX7_behind 12 = .ok (.invokevirtual 170, 3) := by decide +kernel
theorem dX7_behind_15 : decode cX7_behind 15 = .ok (.ifCond .eq 12, 3) := by decide +kernel
theorem dX7_behind_18 : decode cX7_behind 18 = .ok (.iload_n 3, 1) := by decide +kernel
theorem dX7_behind_19 : decode cX7_behind 19 = .ok (.iconst 0, 1) := by decide +kernel
theorem dX7_behind_20 : decode cX7_behind 20 = .ok (.iconst 1, 1) := by decide +kernel
theorem dX7_behind_21 : decode cX7_behind 21 = .ok (.invokestatic 88, 3) := by decide +kernel
theorem dX7_behind_24 : decode cX7_behind 24 = .ok (.ifCond .ne 5, 3) := by decide +kernel
theorem dX7_behind_27 : decode cX7_behind 27 = .ok (.iconst (-1), 1) := by decide +kernel
theorem dX7_behind_28 : decode cX7_behind 28 = .ok (.ireturn, 1) := by decide +kernel
theorem dX7_behind_29 : decode cX7_behind 29 = .ok (.aload_n 0, 1) := by decide +kernel
theorem dX7_behind_30 : decode cX7_behind 30 = .ok (.invokevirtual 177, 3) := by decide +kernel
theorem dX7_behind_33 : decode cX7_behind 33 = .ok (.aload_n 0, 1) := by decide +kernel
theorem dX7_behind_34 : decode cX7_behind 34 = .ok (.iload_n 1, 1) := by decide +kernel
theorem dX7_behind_35 : decode cX7_behind 35 = .ok (.invokevirtual 204, 3) := by decide +kernel
theorem dX7_behind_38 : decode cX7_behind 38 = .ok (.iload_n 3, 1) := by decide +kernel
theorem dX7_behind_39 : decode cX7_behind 39 = .ok (.ifCond .ne 14, 3) := by decide +kernel
theorem dX7_behind_42 : decode cX7_behind 42 = .ok (.aload_n 0, 1) := by decide +kernel
theorem dX7_behind_43 : decode cX7_behind 43 = .ok (.getfield 62, 3) := by decide +kernel
theorem dX7_behind_46 : decode cX7_behind 46 = .ok (.iconst 1, 1) := by decide +kernel
theorem dX7_behind_47 : decode cX7_behind 47 = .ok (.iload_n 2, 1) := by decide +kernel
theorem dX7_behind_48 : decode cX7_behind 48 = .ok (.iadd, 1) := by decide +kernel
theorem dX7_behind_49 : decode cX7_behind 49 = .ok (.iaload, 1) := by decide +kernel
theorem dX7_behind_50 : decode cX7_behind 50 = .ok (.goto 12, 3) := by decide +kernel
theorem dX7_behind_53 : decode cX7_behind 53 = .ok (.aload_n 0, 1) := by decide +kernel
theorem dX7_behind_54 : decode cX7_behind 54 = .ok (.getfield 62, 3) := by decide +kernel
theorem dX7_behind_57 : decode cX7_behind 57 = .ok (.bipush 21, 2) := by decide +kernel
theorem dX7_behind_59 : decode cX7_behind 59 = .ok (.iload_n 2, 1) := by decide +kernel
theorem dX7_behind_60 : decode cX7_behind 60 = .ok (.iadd, 1) := by decide +kernel
theorem dX7_behind_61 : decode cX7_behind 61 = .ok (.iaload, 1) := by decide +kernel
theorem dX7_behind_62 : decode cX7_behind 62 = .ok (.ireturn, 1) := by decide +kernel
theorem dX7_caught_0 : decode cX7_caught 0 = .ok (.iload_n 1, 1) := by decide +kernel
theorem dX7_caught_1 : decode cX7_caught 1 = .ok (.iconst 0, 1) := by decide +kernel
theorem dX7_caught_2 : decode cX7_caught 2 = .ok (.iconst 1, 1) := by decide +kernel
theorem dX7_caught_3 : decode cX7_caught 3 = .ok (.invokestatic 88, 3) := by decide +kernel
theorem dX7_caught_6 : decode cX7_caught 6 = .ok (.ifCond .ne 5, 3) := by decide +kernel
theorem dX7_caught_9 : decode cX7_caught 9 = .ok (.iconst (-1), 1) := by decide +kernel
theorem dX7_caught_10 : decode cX7_caught 10 = .ok (.ireturn, 1) := by decide +kernel
theorem dX7_caught_11 : decode cX7_caught 11 = .ok (.aload_n 0, 1) := by decide +kernel
theorem dX7_caught_12 : decode cX7_caught 12 = .ok (.invokevirtual 177, 3) := by decide +kernel
theorem dX7_caught_15 : decode cX7_caught 15 = .ok (.aload_n 0, 1) := by decide +kernel
theorem dX7_caught_16 : decode cX7_caught 16 = .ok (.invokevirtual 180, 3) := by decide +kernel
theorem dX7_caught_19 : decode cX7_caught 19 = .ok (.istore_n 2, 1) := by decide +kernel
theorem dX7_caught_20 : decode cX7_caught 20 = .ok (.iconst 1, 1) := by decide +kernel
theorem dX7_caught_21 : decode cX7_caught 21 = .ok (.istore_n 3, 1) := by decide +kernel
theorem dX7_caught_22 : decode cX7_caught 22 = .ok (.iload_n 3, 1) := by decide +kernel
theorem dX7_caught_23 : decode cX7_caught 23 = .ok (.bipush 60, 2) := by decide +kernel
theorem dX7_caught_25 : decode cX7_caught 25 = .ok (.if_icmp .gt 58, 3) := by decide +kernel
theorem dX7_caught_28 : decode cX7_caught 28 = .ok (.aload_n 0, 1) := by decide +kernel
theorem dX7_caught_29 : decode cX7_caught 29 = .ok (.invokevirtual 195, 3) := by decide +kernel
theorem dX7_caught_32 : decode cX7_caught 32 = .ok (.aload_n 0, 1) := by decide +kernel
theorem dX7_caught_33 : decode cX7_caught 33 = .ok (.invokevirtual 180, 3) := by decide +kernel
theorem dX7_caught_36 : decode cX7_caught 36 = .ok (.iload_n 2, 1) := by decide +kernel
theorem dX7_caught_37 : decode cX7_caught 37 = .ok (.iconst (-1), 1) := by decide +kernel
theorem dX7_caught_38 : decode cX7_caught 38 = .ok (.ixor, 1) := by decide +kernel
theorem dX7_caught_39 : decode cX7_caught 39 = .ok (.iand, 1) := by decide +kernel
theorem dX7_caught_40 : decode cX7_caught 40 = .ok (.istore 4, 2) := by decide +kernel
theorem dX7_caught_42 : decode cX7_caught 42 = .ok (.iload 4, 2) := by decide +kernel
theorem dX7_caught_44 : decode cX7_caught 44 = .ok (.ifCond .eq 33, 3) := by decide +kernel
theorem dX7_caught_47 : decode cX7_caught 47 = .ok (.iconst 0, 1) := by decide +kernel
theorem dX7_caught_48 : decode cX7_caught 48 = .ok (.istore 5, 2) := by decide +kernel
theorem dX7_caught_50 : decode cX7_caught 50 = .ok (.iload 4, 2) := by decide +kernel
theorem dX7_caught_52 : decode cX7_caught 52 = .ok (.iload 5, 2) := by decide +kernel
theorem dX7_caught_54 : decode cX7_caught 54 = .ok (.ishr, 1) := by decide +kernel
theorem dX7_caught_55 : decode cX7_caught 55 = .ok (.iconst 1, 1) := by decide +kernel
theorem dX7_caught_56 : decode cX7_caught 56 = .ok (.iand, 1) := by decide +kernel
theorem dX7_caught_57 : decode cX7_caught 57 = .ok (.ifCond .ne 9, 3) := by decide +kernel
theorem dX7_caught_60 : decode cX7_caught 60 = .ok (.iinc 5 1, 3) := by decide +kernel
theorem dX7_caught_63 : decode cX7_caught 63 = .ok (.goto (-13), 3) := by decide +kernel
theorem dX7_caught_66 : decode cX7_caught 66 = .ok (.iload_n 1, 1) := by decide +kernel
theorem dX7_caught_67 : decode cX7_caught 67 = .ok (.ifCond .ne 7, 3) := by decide +kernel
theorem dX7_caught_70 : decode cX7_caught 70 = .ok (.iload_n 3, 1) := by decide +kernel
theorem dX7_caught_71 : decode cX7_caught 71 = .ok (.goto 5, 3) := by decide +kernel
theorem dX7_caught_74 : decode cX7_caught 74 = .ok (.iload 5, 2) := by decide +kernel
theorem dX7_caught_76 : decode cX7_caught 76 = .ok (.ireturn, 1) := by decide +kernel
theorem dX7_caught_77 : decode cX7_caught 77 = .ok (.iinc 3 1, 3) := by decide +kernel
theorem dX7_caught_80 : decode cX7_caught 80 = .ok (.goto (-58), 3) := by decide +kernel
theorem dX7_caught_83 : decode cX7_caught 83 = .ok (.bipush (-9), 2) := by decide +kernel
theorem dX7_caught_85 : decode cX7_caught 85 = .ok (.ireturn, 1) := by decide +kernel
theorem dX7_waits_0 : decode cX7_waits 0 = .ok (.iload_n 1, 1) := by decide +kernel
theorem dX7_waits_1 : decode cX7_waits 1 = .ok (.iconst 0, 1) := by decide +kernel
theorem dX7_waits_2 : decode cX7_waits 2 = .ok (.iconst 1, 1) := by decide +kernel
theorem dX7_waits_3 : decode cX7_waits 3 = .ok (.invokestatic 88, 3) := by decide +kernel
theorem dX7_waits_6 : decode cX7_waits 6 = .ok (.ifCond .ne 5, 3) := by decide +kernel
theorem dX7_waits_9 : decode cX7_waits 9 = .ok (.iconst (-1), 1) := by decide +kernel
theorem dX7_waits_10 : decode cX7_waits 10 = .ok (.ireturn, 1) := by decide +kernel
theorem dX7_waits_11 : decode cX7_waits 11 = .ok (.aload_n 0, 1) := by decide +kernel
theorem dX7_waits_12 : decode cX7_waits 12 = .ok (.invokevirtual 177, 3) := by decide +kernel
theorem dX7_waits_15 : decode cX7_waits 15 = .ok (.iconst 1, 1) := by decide +kernel
theorem dX7_waits_16 : decode cX7_waits 16 = .ok (.istore_n 2, 1) := by decide +kernel
theorem dX7_waits_17 : decode cX7_waits 17 = .ok (.iload_n 2, 1) := by decide +kernel
theorem dX7_waits_18 : decode cX7_waits 18 = .ok (.bipush 60, 2) := by decide +kernel
theorem dX7_waits_20 : decode cX7_waits 20 = .ok (.if_icmp .gt 35, 3) := by decide +kernel
theorem dX7_waits_23 : decode cX7_waits 23 = .ok (.aload_n 0, 1) := by decide +kernel
theorem dX7_waits_24 : decode cX7_waits 24 = .ok (.invokevirtual 195, 3) := by decide +kernel
theorem dX7_waits_27 : decode cX7_waits 27 = .ok (.aload_n 0, 1) := by decide +kernel
theorem dX7_waits_28 : decode cX7_waits 28 = .ok (.getfield 186, 3) := by decide +kernel
theorem dX7_waits_31 : decode cX7_waits 31 = .ok (.bipush (-9), 2) := by decide +kernel
theorem dX7_waits_33 : decode cX7_waits 33 = .ok (.if_icmp .eq 16, 3) := by decide +kernel
theorem dX7_waits_36 : decode cX7_waits 36 = .ok (.iload_n 1, 1) := by decide +kernel
theorem dX7_waits_37 : decode cX7_waits 37 = .ok (.ifCond .ne 7, 3) := by decide +kernel
theorem dX7_waits_40 : decode cX7_waits 40 = .ok (.iload_n 2, 1) := by decide +kernel
theorem dX7_waits_41 : decode cX7_waits 41 = .ok (.goto 7, 3) := by decide +kernel
theorem dX7_waits_44 : decode cX7_waits 44 = .ok (.aload_n 0, 1) := by decide +kernel
theorem dX7_waits_45 : decode cX7_waits 45 = .ok (.getfield 186, 3) := by decide +kernel
theorem dX7_waits_48 : decode cX7_waits 48 = .ok (.ireturn, 1) := by decide +kernel
theorem dX7_waits_49 : decode cX7_waits 49 = .ok (.iinc 2 1, 3) := by decide +kernel
theorem dX7_waits_52 : decode cX7_waits 52 = .ok (.goto (-35), 3) := by decide +kernel
theorem dX7_waits_55 : decode cX7_waits 55 = .ok (.bipush (-9), 2) := by decide +kernel
theorem dX7_waits_57 : decode cX7_waits 57 = .ok (.ireturn, 1) := by decide +kernel
theorem dX7_stands_0 : decode cX7_stands 0 = .ok (.aload_n 0, 1) := by decide +kernel
theorem dX7_stands_1 : decode cX7_stands 1 = .ok (.iload_n 1, 1) := by decide +kernel
theorem dX7_stands_2 : decode cX7_stands 2 = .ok (.invokevirtual 170, 3) := by decide +kernel
theorem dX7_stands_5 : decode cX7_stands 5 = .ok (.ifCond .ne 5, 3) := by decide +kernel
theorem dX7_stands_8 : decode cX7_stands 8 = .ok (.iconst (-1), 1) := by decide +kernel
theorem dX7_stands_9 : decode cX7_stands 9 = .ok (.ireturn, 1) := by decide +kernel
theorem dX7_stands_10 : decode cX7_stands 10 = .ok (.aload_n 0, 1) := by decide +kernel
theorem dX7_stands_11 : decode cX7_stands 11 = .ok (.getfield 59, 3) := by decide +kernel
theorem dX7_stands_14 : decode cX7_stands 14 = .ok (.bipush 21, 2) := by decide +kernel
theorem dX7_stands_16 : decode cX7_stands 16 = .ok (.iload_n 1, 1) := by decide +kernel
theorem dX7_stands_17 : decode cX7_stands 17 = .ok (.iadd, 1) := by decide +kernel
theorem dX7_stands_18 : decode cX7_stands 18 = .ok (.iaload, 1) := by decide +kernel
theorem dX7_stands_19 : decode cX7_stands 19 = .ok (.iconst 1, 1) := by decide +kernel
theorem dX7_stands_20 : decode cX7_stands 20 = .ok (.if_icmp .ne 6, 3) := by decide +kernel
theorem dX7_stands_23 : decode cX7_stands 23 = .ok (.bipush (-2), 2) := by decide +kernel
theorem dX7_stands_25 : decode cX7_stands 25 = .ok (.ireturn, 1) := by decide +kernel
theorem dX7_stands_26 : decode cX7_stands 26 = .ok (.bipush 30, 2) := by decide +kernel
theorem dX7_stands_28 : decode cX7_stands 28 = .ok (.istore_n 2, 1) := by decide +kernel
theorem dX7_stands_29 : decode cX7_stands 29 = .ok (.iload_n 2, 1) := by decide +kernel
theorem dX7_stands_30 : decode cX7_stands 30 = .ok (.ifCond .lt 63, 3) := by decide +kernel
theorem dX7_stands_33 : decode cX7_stands 33 = .ok (.aload_n 0, 1) := by decide +kernel
theorem dX7_stands_34 : decode cX7_stands 34 = .ok (.getfield 59, 3) := by decide +kernel
theorem dX7_stands_37 : decode cX7_stands 37 = .ok (.bipush 11, 2) := by decide +kernel
theorem dX7_stands_39 : decode cX7_stands 39 = .ok (.iload_n 1, 1) := by decide +kernel
theorem dX7_stands_40 : decode cX7_stands 40 = .ok (.iadd, 1) := by decide +kernel
theorem dX7_stands_41 : decode cX7_stands 41 = .ok (.iaload, 1) := by decide +kernel
theorem dX7_stands_42 : decode cX7_stands 42 = .ok (.iload_n 2, 1) := by decide +kernel
theorem dX7_stands_43 : decode cX7_stands 43 = .ok (.iadd, 1) := by decide +kernel
theorem dX7_stands_44 : decode cX7_stands 44 = .ok (.bipush 99, 2) := by decide +kernel
theorem dX7_stands_46 : decode cX7_stands 46 = .ok (.if_icmp .gt 41, 3) := by decide +kernel
theorem dX7_stands_49 : decode cX7_stands 49 = .ok (.aload_n 0, 1) := by decide +kernel
theorem dX7_stands_50 : decode cX7_stands 50 = .ok (.invokevirtual 177, 3) := by decide +kernel
theorem dX7_stands_53 : decode cX7_stands 53 = .ok (.aload_n 0, 1) := by decide +kernel
theorem dX7_stands_54 : decode cX7_stands 54 = .ok (.invokevirtual 180, 3) := by decide +kernel
theorem dX7_stands_57 : decode cX7_stands 57 = .ok (.istore_n 3, 1) := by decide +kernel
theorem dX7_stands_58 : decode cX7_stands 58 = .ok (.aload_n 0, 1) := by decide +kernel
theorem dX7_stands_59 : decode cX7_stands 59 = .ok (.getfield 62, 3) := by decide +kernel
theorem dX7_stands_62 : decode cX7_stands 62 = .ok (.bipush 11, 2) := by decide +kernel
theorem dX7_stands_64 : decode cX7_stands 64 = .ok (.iload_n 1, 1) := by decide +kernel
theorem dX7_stands_65 : decode cX7_stands 65 = .ok (.iadd, 1) := by decide +kernel
theorem dX7_stands_66 : decode cX7_stands 66 = .ok (.dup2, 1) := by decide +kernel
theorem dX7_stands_67 : decode cX7_stands 67 = .ok (.iaload, 1) := by decide +kernel
theorem dX7_stands_68 : decode cX7_stands 68 = .ok (.iload_n 2, 1) := by decide +kernel
theorem dX7_stands_69 : decode cX7_stands 69 = .ok (.iadd, 1) := by decide +kernel
theorem dX7_stands_70 : decode cX7_stands 70 = .ok (.iastore, 1) := by decide +kernel
theorem dX7_stands_71 : decode cX7_stands 71 = .ok (.aload_n 0, 1) := by decide +kernel
theorem dX7_stands_72 : decode cX7_stands 72 = .ok (.bipush 40, 2) := by decide +kernel
theorem dX7_stands_74 : decode cX7_stands 74 = .ok (.invokevirtual 204, 3) := by decide +kernel
theorem dX7_stands_77 : decode cX7_stands 77 = .ok (.aload_n 0, 1) := by decide +kernel
theorem dX7_stands_78 : decode cX7_stands 78 = .ok (.invokevirtual 180, 3) := by decide +kernel
theorem dX7_stands_81 : decode cX7_stands 81 = .ok (.iload_n 3, 1) := by decide +kernel
theorem dX7_stands_82 : decode cX7_stands 82 = .ok (.if_icmp .ne 5, 3) := by decide +kernel
theorem dX7_stands_85 : decode cX7_stands 85 = .ok (.iload_n 2, 1) := by decide +kernel
theorem dX7_stands_86 : decode cX7_stands 86 = .ok (.ireturn, 1) := by decide +kernel
theorem dX7_stands_87 : decode cX7_stands 87 = .ok (.iinc 2 (-1), 3) := by decide +kernel
theorem dX7_stands_90 : decode cX7_stands 90 = .ok (.goto (-61), 3) := by decide +kernel
theorem dX7_stands_93 : decode cX7_stands 93 = .ok (.bipush (-9), 2) := by decide +kernel
theorem dX7_stands_95 : decode cX7_stands 95 = .ok (.ireturn, 1) := by decide +kernel
theorem dX7_findLacking_0 : decode cX7_findLacking 0 = .ok (.aload_n 0, 1) := by decide +kernel
theorem dX7_findLacking_1 : decode cX7_findLacking 1 = .ok (.iconst 0, 1) := by decide +kernel
theorem dX7_findLacking_2 : decode cX7_findLacking 2 = .ok (.putfield 207, 3) := by decide +kernel
theorem dX7_findLacking_5 : decode cX7_findLacking 5 = .ok (.iconst 0, 1) := by decide +kernel
theorem dX7_findLacking_6 : decode cX7_findLacking 6 = .ok (.istore_n 1, 1) := by decide +kernel
theorem dX7_findLacking_7 : decode cX7_findLacking 7 = .ok (.iload_n 1, 1) := by decide +kernel
theorem dX7_findLacking_8 : decode cX7_findLacking 8 = .ok (.aload_n 0, 1) := by decide +kernel
theorem dX7_findLacking_9 : decode cX7_findLacking 9 = .ok (.getfield 29, 3) := by decide +kernel
theorem dX7_findLacking_12 : decode cX7_findLacking 12 = .ok (.iconst 0, 1) := by decide +kernel
theorem dX7_findLacking_13 : decode cX7_findLacking 13 = .ok (.iaload, 1) := by decide +kernel
theorem dX7_findLacking_14 : decode cX7_findLacking 14 = .ok (.if_icmp .ge 90, 3) := by decide +kernel
theorem dX7_findLacking_17 : decode cX7_findLacking 17 = .ok (.aload_n 0, 1) := by decide +kernel
theorem dX7_findLacking_18 : decode cX7_findLacking 18 = .ok (.getfield 207, 3) := by decide +kernel
theorem dX7_findLacking_21 : decode cX7_findLacking 21 = .ok (.iconst 3, 1) := by decide +kernel
theorem dX7_findLacking_22 : decode cX7_findLacking 22 = .ok (.if_icmp .ge 82, 3) := by decide +kernel
theorem dX7_findLacking_25 : decode cX7_findLacking 25 = .ok (.aload_n 0, 1) := by decide +kernel
theorem dX7_findLacking_26 : decode cX7_findLacking 26 = .ok (.getfield 44, 3) := by decide +kernel
theorem dX7_findLacking_29 : decode cX7_findLacking 29 = .ok (.iload_n 1, 1) := by decide +kernel
theorem dX7_findLacking_30 : decode cX7_findLacking 30 = .ok (.iaload, 1) := by decide +kernel
theorem dX7_findLacking_31 : decode cX7_findLacking 31 = .ok (.aload_n 0, 1) := by decide +kernel
theorem dX7_findLacking_32 : decode cX7_findLacking 32 = .ok (.getfield 59, 3) := by decide +kernel
theorem dX7_findLacking_35 : decode cX7_findLacking 35 = .ok (.bipush 16, 2) := by decide +kernel
theorem dX7_findLacking_37 : decode cX7_findLacking 37 = .ok (.iload_n 1, 1) := by decide +kernel
theorem dX7_findLacking_38 : decode cX7_findLacking 38 = .ok (.iadd, 1) := by decide +kernel
theorem dX7_findLacking_39 : decode cX7_findLacking 39 = .ok (.iaload, 1) := by decide +kernel
theorem dX7_findLacking_40 : decode cX7_findLacking 40 = .ok (.isub, 1) := by decide +kernel
theorem dX7_findLacking_41 : decode cX7_findLacking 41 = .ok (.aload_n 0, 1) := by decide +kernel
theorem dX7_findLacking_42 : decode cX7_findLacking 42 = .ok (.getfield 59, 3) := by decide +kernel
theorem dX7_findLacking_45 : decode cX7_findLacking 45 = .ok (.bipush 11, 2) := by decide +kernel
theorem dX7_findLacking_47 : decode cX7_findLacking 47 = .ok (.iload_n 1, 1) := by decide +kernel
theorem dX7_findLacking_48 : decode cX7_findLacking 48 = .ok (.iadd, 1) := by decide +kernel
theorem dX7_findLacking_49 : decode cX7_findLacking 49 = .ok (.iaload, 1) := by decide +kernel
theorem dX7_findLacking_50 : decode cX7_findLacking 50 = .ok (.isub, 1) := by decide +kernel
theorem dX7_findLacking_51 : decode cX7_findLacking 51 = .ok (.istore_n 2, 1) := by decide +kernel
theorem dX7_findLacking_52 : decode cX7_findLacking 52 = .ok (.aload_n 0, 1) := by decide +kernel
theorem dX7_findLacking_53 : decode cX7_findLacking 53 = .ok (.getfield 59, 3) := by decide +kernel
theorem dX7_findLacking_56 : decode cX7_findLacking 56 = .ok (.bipush 21, 2) := by decide +kernel
theorem dX7_findLacking_58 : decode cX7_findLacking 58 = .ok (.iload_n 1, 1) := by decide +kernel
theorem dX7_findLacking_59 : decode cX7_findLacking 59 = .ok (.iadd, 1) := by decide +kernel
theorem dX7_findLacking_60 : decode cX7_findLacking 60 = .ok (.iaload, 1) := by decide +kernel
theorem dX7_findLacking_61 : decode cX7_findLacking 61 = .ok (.ifCond .ne 37, 3) := by decide +kernel
theorem dX7_findLacking_64 : decode cX7_findLacking 64 = .ok (.iload_n 2, 1) := by decide +kernel
theorem dX7_findLacking_65 : decode cX7_findLacking 65 = .ok (.ifCond .le 33, 3) := by decide +kernel
theorem dX7_findLacking_68 : decode cX7_findLacking 68 = .ok (.aload_n 0, 1) := by decide +kernel
theorem dX7_findLacking_69 : decode cX7_findLacking 69 = .ok (.getfield 69, 3) := by decide +kernel
theorem dX7_findLacking_72 : decode cX7_findLacking 72 = .ok (.aload_n 0, 1) := by decide +kernel
theorem dX7_findLacking_73 : decode cX7_findLacking 73 = .ok (.getfield 207, 3) := by decide +kernel
theorem dX7_findLacking_76 : decode cX7_findLacking 76 = .ok (.iload_n 1, 1) := by decide +kernel
theorem dX7_findLacking_77 : decode cX7_findLacking 77 = .ok (.iastore, 1) := by decide +kernel
theorem dX7_findLacking_78 : decode cX7_findLacking 78 = .ok (.aload_n 0, 1) := by decide +kernel
theorem dX7_findLacking_79 : decode cX7_findLacking 79 = .ok (.getfield 72, 3) := by decide +kernel
theorem dX7_findLacking_82 : decode cX7_findLacking 82 = .ok (.aload_n 0, 1) := by decide +kernel
theorem dX7_findLacking_83 : decode cX7_findLacking 83 = .ok (.getfield 207, 3) := by decide +kernel
theorem dX7_findLacking_86 : decode cX7_findLacking 86 = .ok (.iload_n 2, 1) := by decide +kernel
theorem dX7_findLacking_87 : decode cX7_findLacking 87 = .ok (.iastore, 1) := by decide +kernel
theorem dX7_findLacking_88 : decode cX7_findLacking 88 = .ok (.aload_n 0, 1) := by decide +kernel
theorem dX7_findLacking_89 : decode cX7_findLacking 89 = .ok (.dup, 1) := by decide +kernel
theorem dX7_findLacking_90 : decode cX7_findLacking 90 = .ok (.getfield 207, 3) := by decide +kernel
theorem dX7_findLacking_93 : decode cX7_findLacking 93 = .ok (.iconst 1, 1) := by decide +kernel
theorem dX7_findLacking_94 : decode cX7_findLacking 94 = .ok (.iadd, 1) := by decide +kernel
theorem dX7_findLacking_95 : decode cX7_findLacking 95 = .ok (.putfield 207, 3) := by decide +kernel
theorem dX7_findLacking_98 : decode cX7_findLacking 98 = .ok (.iinc 1 1, 3) := by decide +kernel
theorem dX7_findLacking_101 : decode cX7_findLacking 101 = .ok (.goto (-94), 3) := by decide +kernel
theorem dX7_findLacking_104 : decode cX7_findLacking 104 = .ok (.return_, 1) := by decide +kernel
theorem dX7_isWell_0 : decode cX7_isWell 0 = .ok (.aload_n 0, 1) := by decide +kernel
theorem dX7_isWell_1 : decode cX7_isWell 1 = .ok (.invokevirtual 177, 3) := by decide +kernel
theorem dX7_isWell_4 : decode cX7_isWell 4 = .ok (.aload_n 0, 1) := by decide +kernel
theorem dX7_isWell_5 : decode cX7_isWell 5 = .ok (.invokevirtual 180, 3) := by decide +kernel
theorem dX7_isWell_8 : decode cX7_isWell 8 = .ok (.istore_n 2, 1) := by decide +kernel
theorem dX7_isWell_9 : decode cX7_isWell 9 = .ok (.iconst 0, 1) := by decide +kernel
theorem dX7_isWell_10 : decode cX7_isWell 10 = .ok (.istore_n 3, 1) := by decide +kernel
theorem dX7_isWell_11 : decode cX7_isWell 11 = .ok (.iload_n 3, 1) := by decide +kernel
theorem dX7_isWell_12 : decode cX7_isWell 12 = .ok (.bipush 40, 2) := by decide +kernel
theorem dX7_isWell_14 : decode cX7_isWell 14 = .ok (.if_icmp .ge 94, 3) := by decide +kernel
theorem dX7_isWell_17 : decode cX7_isWell 17 = .ok (.iconst 0, 1) := by decide +kernel
theorem dX7_isWell_18 : decode cX7_isWell 18 = .ok (.istore 4, 2) := by decide +kernel
theorem dX7_isWell_20 : decode cX7_isWell 20 = .ok (.iload 4, 2) := by decide +kernel
theorem dX7_isWell_22 : decode cX7_isWell 22 = .ok (.aload_n 0, 1) := by decide +kernel
theorem dX7_isWell_23 : decode cX7_isWell 23 = .ok (.getfield 207, 3) := by decide +kernel
theorem dX7_isWell_26 : decode cX7_isWell 26 = .ok (.if_icmp .ge 72, 3) := by decide +kernel
theorem dX7_isWell_29 : decode cX7_isWell 29 = .ok (.aload_n 0, 1) := by decide +kernel
theorem dX7_isWell_30 : decode cX7_isWell 30 = .ok (.getfield 69, 3) := by decide +kernel
theorem dX7_isWell_33 : decode cX7_isWell 33 = .ok (.iload 4, 2) := by decide +kernel
theorem dX7_isWell_35 : decode cX7_isWell 35 = .ok (.iaload, 1) := by decide +kernel
theorem dX7_isWell_36 : decode cX7_isWell 36 = .ok (.istore 5, 2) := by decide +kernel
theorem dX7_isWell_38 : decode cX7_isWell 38 = .ok (.aload_n 0, 1) := by decide +kernel
theorem dX7_isWell_39 : decode cX7_isWell 39 = .ok (.getfield 62, 3) := by decide +kernel
theorem dX7_isWell_42 : decode cX7_isWell 42 = .ok (.bipush 11, 2) := by decide +kernel
theorem dX7_isWell_44 : decode cX7_isWell 44 = .ok (.iload 5, 2) := by decide +kernel
theorem dX7_isWell_46 : decode cX7_isWell 46 = .ok (.iadd, 1) := by decide +kernel
theorem dX7_isWell_47 : decode cX7_isWell 47 = .ok (.dup2, 1) := by decide +kernel
theorem dX7_isWell_48 : decode cX7_isWell 48 = .ok (.iaload, 1) := by decide +kernel
theorem dX7_isWell_49 : decode cX7_isWell 49 = .ok (.iload 4, 2) := by decide +kernel
theorem dX7_isWell_51 : decode cX7_isWell 51 = .ok (.iload_n 1, 1) := by decide +kernel
theorem dX7_isWell_52 : decode cX7_isWell 52 = .ok (.if_icmp .eq 37, 3) := by decide +kernel
theorem dX7_isWell_55 : decode cX7_isWell 55 = .ok (.aload_n 0, 1) := by decide +kernel
theorem dX7_isWell_56 : decode cX7_isWell 56 = .ok (.getfield 75, 3) := by decide +kernel
theorem dX7_isWell_59 : decode cX7_isWell 59 = .ok (.iload 4, 2) := by decide +kernel
theorem dX7_isWell_61 : decode cX7_isWell 61 = .ok (.iaload, 1) := by decide +kernel
theorem dX7_isWell_62 : decode cX7_isWell 62 = .ok (.iload_n 3, 1) := by decide +kernel
theorem dX7_isWell_63 : decode cX7_isWell 63 = .ok (.if_icmp .ne 26, 3) := by decide +kernel
theorem dX7_isWell_66 : decode cX7_isWell 66 = .ok (.aload_n 0, 1) := by decide +kernel
theorem dX7_isWell_67 : decode cX7_isWell 67 = .ok (.getfield 62, 3) := by decide +kernel
theorem dX7_isWell_70 : decode cX7_isWell 70 = .ok (.bipush 21, 2) := by decide +kernel
theorem dX7_isWell_72 : decode cX7_isWell 72 = .ok (.iload 5, 2) := by decide +kernel
theorem dX7_isWell_74 : decode cX7_isWell 74 = .ok (.iadd, 1) := by decide +kernel
theorem dX7_isWell_75 : decode cX7_isWell 75 = .ok (.iaload, 1) := by decide +kernel
theorem dX7_isWell_76 : decode cX7_isWell 76 = .ok (.ifCond .ne 13, 3) := by decide +kernel
theorem dX7_isWell_79 : decode cX7_isWell 79 = .ok (.aload_n 0, 1) := by decide +kernel
theorem dX7_isWell_80 : decode cX7_isWell 80 = .ok (.getfield 72, 3) := by decide +kernel
theorem dX7_isWell_83 : decode cX7_isWell 83 = .ok (.iload 4, 2) := by decide +kernel
theorem dX7_isWell_85 : decode cX7_isWell 85 = .ok (.iaload, 1) := by decide +kernel
theorem dX7_isWell_86 : decode cX7_isWell 86 = .ok (.goto 4, 3) := by decide +kernel
theorem dX7_isWell_89 : decode cX7_isWell 89 = .ok (.iconst 0, 1) := by decide +kernel
theorem dX7_isWell_90 : decode cX7_isWell 90 = .ok (.iadd, 1) := by decide +kernel
theorem dX7_isWell_91 : decode cX7_isWell 91 = .ok (.iastore, 1) := by decide +kernel
theorem dX7_isWell_92 : decode cX7_isWell 92 = .ok (.iinc 4 1, 3) := by decide +kernel
theorem dX7_isWell_95 : decode cX7_isWell 95 = .ok (.goto (-75), 3) := by decide +kernel
theorem dX7_isWell_98 : decode cX7_isWell 98 = .ok (.aload_n 0, 1) := by decide +kernel
theorem dX7_isWell_99 : decode cX7_isWell 99 = .ok (.invokevirtual 195, 3) := by decide +kernel
theorem dX7_isWell_102 : decode cX7_isWell 102 = .ok (.iinc 3 1, 3) := by decide +kernel
theorem dX7_isWell_105 : decode cX7_isWell 105 = .ok (.goto (-94), 3) := by decide +kernel
theorem dX7_isWell_108 : decode cX7_isWell 108 = .ok (.aload_n 0, 1) := by decide +kernel
theorem dX7_isWell_109 : decode cX7_isWell 109 = .ok (.invokevirtual 180, 3) := by decide +kernel
theorem dX7_isWell_112 : decode cX7_isWell 112 = .ok (.iload_n 2, 1) := by decide +kernel
theorem dX7_isWell_113 : decode cX7_isWell 113 = .ok (.if_icmp .ne 7, 3) := by decide +kernel
theorem dX7_isWell_116 : decode cX7_isWell 116 = .ok (.iconst 1, 1) := by decide +kernel
theorem dX7_isWell_117 : decode cX7_isWell 117 = .ok (.goto 4, 3) := by decide +kernel
theorem dX7_isWell_120 : decode cX7_isWell 120 = .ok (.iconst 0, 1) := by decide +kernel
theorem dX7_isWell_121 : decode cX7_isWell 121 = .ok (.ireturn, 1) := by decide +kernel
theorem dX7_findStarts_0 : decode cX7_findStarts 0 = .ok (.aload_n 0, 1) := by decide +kernel
theorem dX7_findStarts_1 : decode cX7_findStarts 1 = .ok (.invokevirtual 210, 3) := by decide +kernel
theorem dX7_findStarts_4 : decode cX7_findStarts 4 = .ok (.bipush (-9), 2) := by decide +kernel
theorem dX7_findStarts_6 : decode cX7_findStarts 6 = .ok (.istore_n 2, 1) := by decide +kernel
theorem dX7_findStarts_7 : decode cX7_findStarts 7 = .ok (.iconst 1, 1) := by decide +kernel
theorem dX7_findStarts_8 : decode cX7_findStarts 8 = .ok (.istore_n 3, 1) := by decide +kernel
theorem dX7_findStarts_9 : decode cX7_findStarts 9 = .ok (.iconst 0, 1) := by decide +kernel
theorem dX7_findStarts_10 : decode cX7_findStarts 10 = .ok (.istore 4, 2) := by decide +kernel
theorem dX7_findStarts_12 : decode cX7_findStarts 12 = .ok (.iload 4, 2) := by decide +kernel
theorem dX7_findStarts_14 : decode cX7_findStarts 14 = .ok (.aload_n 0, 1) := by decide +kernel
theorem dX7_findStarts_15 : decode cX7_findStarts 15 = .ok (.getfield 207, 3) := by decide +kernel
theorem dX7_findStarts_18 : decode cX7_findStarts 18 = .ok (.if_icmp .ge 14, 3) := by decide +kernel
theorem dX7_findStarts_21 : decode cX7_findStarts 21 = .ok (.iload_n 3, 1) := by decide +kernel
theorem dX7_findStarts_22 : decode cX7_findStarts 22 = .ok (.bipush 7, 2) := by decide +kernel
theorem dX7_findStarts_24 : decode cX7_findStarts 24 = .ok (.imul, 1) := by decide +kernel
theorem dX7_findStarts_25 : decode cX7_findStarts 25 = .ok (.istore_n 3, 1) := by decide +kernel
theorem dX7_findStarts_26 : decode cX7_findStarts 26 = .ok (.iinc 4 1, 3) := by decide +kernel
theorem dX7_findStarts_29 : decode cX7_findStarts 29 = .ok (.goto (-17), 3) := by decide +kernel
theorem dX7_findStarts_32 : decode cX7_findStarts 32 = .ok (.iconst 0, 1) := by decide +kernel
theorem dX7_findStarts_33 : decode cX7_findStarts 33 = .ok (.istore 4, 2) := by decide +kernel
theorem dX7_findStarts_35 : decode cX7_findStarts 35 = .ok (.iload 4, 2) := by decide +kernel
theorem dX7_findStarts_37 : decode cX7_findStarts 37 = .ok (.iload_n 3, 1) := by decide +kernel
theorem dX7_findStarts_38 : decode cX7_findStarts 38 = .ok (.if_icmp .ge 148, 3) := by decide +kernel
theorem dX7_findStarts_41 : decode cX7_findStarts 41 = .ok (.iload 4, 2) := by decide +kernel
theorem dX7_findStarts_43 : decode cX7_findStarts 43 = .ok (.istore 5, 2) := by decide +kernel
theorem dX7_findStarts_45 : decode cX7_findStarts 45 = .ok (.iconst 0, 1) := by decide +kernel
theorem dX7_findStarts_46 : decode cX7_findStarts 46 = .ok (.istore 6, 2) := by decide +kernel
theorem dX7_findStarts_48 : decode cX7_findStarts 48 = .ok (.aload_n 0, 1) := by decide +kernel
theorem dX7_findStarts_49 : decode cX7_findStarts 49 = .ok (.getfield 207, 3) := by decide +kernel
theorem dX7_findStarts_52 : decode cX7_findStarts 52 = .ok (.iconst 1, 1) := by decide +kernel
theorem dX7_findStarts_53 : decode cX7_findStarts 53 = .ok (.isub, 1) := by decide +kernel
theorem dX7_findStarts_54 : decode cX7_findStarts 54 = .ok (.istore 7, 2) := by decide +kernel
theorem dX7_findStarts_56 : decode cX7_findStarts 56 = .ok (.iload 7, 2) := by decide +kernel
theorem dX7_findStarts_58 : decode cX7_findStarts 58 = .ok (.ifCond .lt 40, 3) := by decide +kernel
theorem dX7_findStarts_61 : decode cX7_findStarts 61 = .ok (.aload_n 0, 1) := by decide +kernel
theorem dX7_findStarts_62 : decode cX7_findStarts 62 = .ok (.getfield 75, 3) := by decide +kernel
theorem dX7_findStarts_65 : decode cX7_findStarts 65 = .ok (.iload 7, 2) := by decide +kernel
theorem dX7_findStarts_67 : decode cX7_findStarts 67 = .ok (.iload 5, 2) := by decide +kernel
theorem dX7_findStarts_69 : decode cX7_findStarts 69 = .ok (.bipush 7, 2) := by decide +kernel
theorem dX7_findStarts_71 : decode cX7_findStarts 71 = .ok (.irem, 1) := by decide +kernel
theorem dX7_findStarts_72 : decode cX7_findStarts 72 = .ok (.iastore, 1) := by decide +kernel
theorem dX7_findStarts_73 : decode cX7_findStarts 73 = .ok (.iload 6, 2) := by decide +kernel
theorem dX7_findStarts_75 : decode cX7_findStarts 75 = .ok (.aload_n 0, 1) := by decide +kernel
theorem dX7_findStarts_76 : decode cX7_findStarts 76 = .ok (.getfield 75, 3) := by decide +kernel
theorem dX7_findStarts_79 : decode cX7_findStarts 79 = .ok (.iload 7, 2) := by decide +kernel
theorem dX7_findStarts_81 : decode cX7_findStarts 81 = .ok (.iaload, 1) := by decide +kernel
theorem dX7_findStarts_82 : decode cX7_findStarts 82 = .ok (.iadd, 1) := by decide +kernel
theorem dX7_findStarts_83 : decode cX7_findStarts 83 = .ok (.istore 6, 2) := by decide +kernel
theorem dX7_findStarts_85 : decode cX7_findStarts 85 = .ok (.iload 5, 2) := by decide +kernel
theorem dX7_findStarts_87 : decode cX7_findStarts 87 = .ok (.bipush 7, 2) := by decide +kernel
theorem dX7_findStarts_89 : decode cX7_findStarts 89 = .ok (.idiv, 1) := by decide +kernel
theorem dX7_findStarts_90 : decode cX7_findStarts 90 = .ok (.istore 5, 2) := by decide +kernel
theorem dX7_findStarts_92 : decode cX7_findStarts 92 = .ok (.iinc 7 (-1), 3) := by decide +kernel
theorem dX7_findStarts_95 : decode cX7_findStarts 95 = .ok (.goto (-39), 3) := by decide +kernel
theorem dX7_findStarts_98 : decode cX7_findStarts 98 = .ok (.iload_n 1, 1) := by decide +kernel
theorem dX7_findStarts_99 : decode cX7_findStarts 99 = .ok (.bipush (-9), 2) := by decide +kernel
theorem dX7_findStarts_101 : decode cX7_findStarts 101 = .ok (.if_icmp .eq 12, 3) := by decide +kernel
theorem dX7_findStarts_104 : decode cX7_findStarts 104 = .ok (.aload_n 0, 1) := by decide +kernel
theorem dX7_findStarts_105 : decode cX7_findStarts 105 = .ok (.getfield 75, 3) := by decide +kernel
theorem dX7_findStarts_108 : decode cX7_findStarts 108 = .ok (.iload_n 1, 1) := by decide +kernel
theorem dX7_findStarts_109 : decode cX7_findStarts 109 = .ok (.iaload, 1) := by decide +kernel
theorem dX7_findStarts_110 : decode cX7_findStarts 110 = .ok (.ifCond .ne 7, 3) := by decide +kernel
theorem dX7_findStarts_113 : decode cX7_findStarts 113 = .ok (.iconst 1, 1) := by decide +kernel
theorem dX7_findStarts_114 : decode cX7_findStarts 114 = .ok (.goto 4, 3) := by decide +kernel
theorem dX7_findStarts_117 : decode cX7_findStarts 117 = .ok (.iconst 0, 1) := by decide +kernel
theorem dX7_findStarts_118 : decode cX7_findStarts 118 = .ok (.istore 7, 2) := by decide +kernel
theorem dX7_findStarts_120 : decode cX7_findStarts 120 = .ok (.iload 7, 2) := by decide +kernel
theorem dX7_findStarts_122 : decode cX7_findStarts 122 = .ok (.ifCond .eq 58, 3) := by decide +kernel
theorem dX7_findStarts_125 : decode cX7_findStarts 125 = .ok (.iload_n 2, 1) := by decide +kernel
theorem dX7_findStarts_126 : decode cX7_findStarts 126 = .ok (.bipush (-9), 2) := by decide +kernel
theorem dX7_findStarts_128 : decode cX7_findStarts 128 = .ok (.if_icmp .eq 9, 3) := by decide +kernel
theorem dX7_findStarts_131 : decode cX7_findStarts 131 = .ok (.iload 6, 2) := by decide +kernel
theorem dX7_findStarts_133 : decode cX7_findStarts 133 = .ok (.iload_n 2, 1) := by decide +kernel
theorem dX7_findStarts_134 : decode cX7_findStarts 134 = .ok (.if_icmp .ge 46, 3) := by decide +kernel
theorem dX7_findStarts_137 : decode cX7_findStarts 137 = .ok (.aload_n 0, 1) := by decide +kernel
theorem dX7_findStarts_138 : decode cX7_findStarts 138 = .ok (.iload_n 1, 1) := by decide +kernel
theorem dX7_findStarts_139 : decode cX7_findStarts 139 = .ok (.invokevirtual 213, 3) := by decide +kernel
theorem dX7_findStarts_142 : decode cX7_findStarts 142 = .ok (.ifCond .eq 38, 3) := by decide +kernel
theorem dX7_findStarts_145 : decode cX7_findStarts 145 = .ok (.iload 6, 2) := by decide +kernel
theorem dX7_findStarts_147 : decode cX7_findStarts 147 = .ok (.istore_n 2, 1) := by decide +kernel
theorem dX7_findStarts_148 : decode cX7_findStarts 148 = .ok (.iconst 0, 1) := by decide +kernel
theorem dX7_findStarts_149 : decode cX7_findStarts 149 = .ok (.istore 8, 2) := by decide +kernel
theorem dX7_findStarts_151 : decode cX7_findStarts 151 = .ok (.iload 8, 2) := by decide +kernel
theorem dX7_findStarts_153 : decode cX7_findStarts 153 = .ok (.aload_n 0, 1) := by decide +kernel
theorem dX7_findStarts_154 : decode cX7_findStarts 154 = .ok (.getfield 207, 3) := by decide +kernel
theorem dX7_findStarts_157 : decode cX7_findStarts 157 = .ok (.if_icmp .ge 23, 3) := by decide +kernel
theorem dX7_findStarts_160 : decode cX7_findStarts 160 = .ok (.aload_n 0, 1) := by decide +kernel
theorem dX7_findStarts_161 : decode cX7_findStarts 161 = .ok (.getfield 78, 3) := by decide +kernel
theorem dX7_findStarts_164 : decode cX7_findStarts 164 = .ok (.iload 8, 2) := by decide +kernel
theorem dX7_findStarts_166 : decode cX7_findStarts 166 = .ok (.aload_n 0, 1) := by decide +kernel
theorem dX7_findStarts_167 : decode cX7_findStarts 167 = .ok (.getfield 75, 3) := by decide +kernel
theorem dX7_findStarts_170 : decode cX7_findStarts 170 = .ok (.iload 8, 2) := by decide +kernel
theorem dX7_findStarts_172 : decode cX7_findStarts 172 = .ok (.iaload, 1) := by decide +kernel
theorem dX7_findStarts_173 : decode cX7_findStarts 173 = .ok (.iastore, 1) := by decide +kernel
theorem dX7_findStarts_174 : decode cX7_findStarts 174 = .ok (.iinc 8 1, 3) := by decide +kernel
theorem dX7_findStarts_177 : decode cX7_findStarts 177 = .ok (.goto (-26), 3) := by decide +kernel
theorem dX7_findStarts_180 : decode cX7_findStarts 180 = .ok (.iinc 4 1, 3) := by decide +kernel
theorem dX7_findStarts_183 : decode cX7_findStarts 183 = .ok (.goto (-148), 3) := by decide +kernel
theorem dX7_findStarts_186 : decode cX7_findStarts 186 = .ok (.iload_n 2, 1) := by decide +kernel
theorem dX7_findStarts_187 : decode cX7_findStarts 187 = .ok (.ireturn, 1) := by decide +kernel
theorem dX7_starts_0 : decode cX7_starts 0 = .ok (.iload_n 1, 1) := by decide +kernel
theorem dX7_starts_1 : decode cX7_starts 1 = .ok (.iconst (-1), 1) := by decide +kernel
theorem dX7_starts_2 : decode cX7_starts 2 = .ok (.if_icmp .eq 13, 3) := by decide +kernel
theorem dX7_starts_5 : decode cX7_starts 5 = .ok (.aload_n 0, 1) := by decide +kernel
theorem dX7_starts_6 : decode cX7_starts 6 = .ok (.iload_n 1, 1) := by decide +kernel
theorem dX7_starts_7 : decode cX7_starts 7 = .ok (.invokevirtual 170, 3) := by decide +kernel
theorem dX7_starts_10 : decode cX7_starts 10 = .ok (.ifCond .ne 5, 3) := by decide +kernel
theorem dX7_starts_13 : decode cX7_starts 13 = .ok (.iconst (-1), 1) := by decide +kernel
theorem dX7_starts_14 : decode cX7_starts 14 = .ok (.ireturn, 1) := by decide +kernel
theorem dX7_starts_15 : decode cX7_starts 15 = .ok (.aload_n 0, 1) := by decide +kernel
theorem dX7_starts_16 : decode cX7_starts 16 = .ok (.bipush (-9), 2) := by decide +kernel
theorem dX7_starts_18 : decode cX7_starts 18 = .ok (.invokevirtual 216, 3) := by decide +kernel
theorem dX7_starts_21 : decode cX7_starts 21 = .ok (.istore_n 2, 1) := by decide +kernel
theorem dX7_starts_22 : decode cX7_starts 22 = .ok (.iload_n 2, 1) := by decide +kernel
theorem dX7_starts_23 : decode cX7_starts 23 = .ok (.bipush (-9), 2) := by decide +kernel
theorem dX7_starts_25 : decode cX7_starts 25 = .ok (.if_icmp .eq 8, 3) := by decide +kernel
theorem dX7_starts_28 : decode cX7_starts 28 = .ok (.iload_n 1, 1) := by decide +kernel
theorem dX7_starts_29 : decode cX7_starts 29 = .ok (.iconst (-1), 1) := by decide +kernel
theorem dX7_starts_30 : decode cX7_starts 30 = .ok (.if_icmp .ne 5, 3) := by decide +kernel
theorem dX7_starts_33 : decode cX7_starts 33 = .ok (.iload_n 2, 1) := by decide +kernel
theorem dX7_starts_34 : decode cX7_starts 34 = .ok (.ireturn, 1) := by decide +kernel
theorem dX7_starts_35 : decode cX7_starts 35 = .ok (.iconst 0, 1) := by decide +kernel
theorem dX7_starts_36 : decode cX7_starts 36 = .ok (.istore_n 3, 1) := by decide +kernel
theorem dX7_starts_37 : decode cX7_starts 37 = .ok (.iconst 0, 1) := by decide +kernel
theorem dX7_starts_38 : decode cX7_starts 38 = .ok (.istore 4, 2) := by decide +kernel
theorem dX7_starts_40 : decode cX7_starts 40 = .ok (.iload 4, 2) := by decide +kernel
theorem dX7_starts_42 : decode cX7_starts 42 = .ok (.aload_n 0, 1) := by decide +kernel
theorem dX7_starts_43 : decode cX7_starts 43 = .ok (.getfield 207, 3) := by decide +kernel
theorem dX7_starts_46 : decode cX7_starts 46 = .ok (.if_icmp .ge 32, 3) := by decide +kernel
theorem dX7_starts_49 : decode cX7_starts 49 = .ok (.aload_n 0, 1) := by decide +kernel
theorem dX7_starts_50 : decode cX7_starts 50 = .ok (.getfield 69, 3) := by decide +kernel
theorem dX7_starts_53 : decode cX7_starts 53 = .ok (.iload 4, 2) := by decide +kernel
theorem dX7_starts_55 : decode cX7_starts 55 = .ok (.iaload, 1) := by decide +kernel
theorem dX7_starts_56 : decode cX7_starts 56 = .ok (.iload_n 1, 1) := by decide +kernel
theorem dX7_starts_57 : decode cX7_starts 57 = .ok (.if_icmp .ne 13, 3) := by decide +kernel
theorem dX7_starts_60 : decode cX7_starts 60 = .ok (.aload_n 0, 1) := by decide +kernel
theorem dX7_starts_61 : decode cX7_starts 61 = .ok (.getfield 78, 3) := by decide +kernel
theorem dX7_starts_64 : decode cX7_starts 64 = .ok (.iload 4, 2) := by decide +kernel
theorem dX7_starts_66 : decode cX7_starts 66 = .ok (.iaload, 1) := by decide +kernel
theorem dX7_starts_67 : decode cX7_starts 67 = .ok (.goto 4, 3) := by decide +kernel
theorem dX7_starts_70 : decode cX7_starts 70 = .ok (.iload_n 3, 1) := by decide +kernel
theorem dX7_starts_71 : decode cX7_starts 71 = .ok (.istore_n 3, 1) := by decide +kernel
theorem dX7_starts_72 : decode cX7_starts 72 = .ok (.iinc 4 1, 3) := by decide +kernel
theorem dX7_starts_75 : decode cX7_starts 75 = .ok (.goto (-35), 3) := by decide +kernel
theorem dX7_starts_78 : decode cX7_starts 78 = .ok (.iload_n 3, 1) := by decide +kernel
theorem dX7_starts_79 : decode cX7_starts 79 = .ok (.ireturn, 1) := by decide +kernel
theorem dX7_bars_0 : decode cX7_bars 0 = .ok (.aload_n 0, 1) := by decide +kernel
theorem dX7_bars_1 : decode cX7_bars 1 = .ok (.bipush (-9), 2) := by decide +kernel
theorem dX7_bars_3 : decode cX7_bars 3 = .ok (.invokevirtual 216, 3) := by decide +kernel
theorem dX7_bars_6 : decode cX7_bars 6 = .ok (.bipush (-9), 2) := by decide +kernel
theorem dX7_bars_8 : decode cX7_bars 8 = .ok (.if_icmp .eq 6, 3) := by decide +kernel
theorem dX7_bars_11 : decode cX7_bars 11 = .ok (.bipush (-9), 2) := by decide +kernel
theorem dX7_bars_13 : decode cX7_bars 13 = .ok (.ireturn, 1) := by decide +kernel
theorem dX7_bars_14 : decode cX7_bars 14 = .ok (.iconst 0, 1) := by decide +kernel
theorem dX7_bars_15 : decode cX7_bars 15 = .ok (.istore_n 1, 1) := by decide +kernel
theorem dX7_bars_16 : decode cX7_bars 16 = .ok (.iload_n 1, 1) := by decide +kernel
theorem dX7_bars_17 : decode cX7_bars 17 = .ok (.aload_n 0, 1) := by decide +kernel
theorem dX7_bars_18 : decode cX7_bars 18 = .ok (.getfield 207, 3) := by decide +kernel
theorem dX7_bars_21 : decode cX7_bars 21 = .ok (.if_icmp .ge 26, 3) := by decide +kernel
theorem dX7_bars_24 : decode cX7_bars 24 = .ok (.aload_n 0, 1) := by decide +kernel
theorem dX7_bars_25 : decode cX7_bars 25 = .ok (.iload_n 1, 1) := by decide +kernel
theorem dX7_bars_26 : decode cX7_bars 26 = .ok (.invokevirtual 216, 3) := by decide +kernel
theorem dX7_bars_29 : decode cX7_bars 29 = .ok (.bipush (-9), 2) := by decide +kernel
theorem dX7_bars_31 : decode cX7_bars 31 = .ok (.if_icmp .eq 10, 3) := by decide +kernel
theorem dX7_bars_34 : decode cX7_bars 34 = .ok (.aload_n 0, 1) := by decide +kernel
theorem dX7_bars_35 : decode cX7_bars 35 = .ok (.getfield 69, 3) := by decide +kernel
theorem dX7_bars_38 : decode cX7_bars 38 = .ok (.iload_n 1, 1) := by decide +kernel
theorem dX7_bars_39 : decode cX7_bars 39 = .ok (.iaload, 1) := by decide +kernel
theorem dX7_bars_40 : decode cX7_bars 40 = .ok (.ireturn, 1) := by decide +kernel
theorem dX7_bars_41 : decode cX7_bars 41 = .ok (.iinc 1 1, 3) := by decide +kernel
theorem dX7_bars_44 : decode cX7_bars 44 = .ok (.goto (-28), 3) := by decide +kernel
theorem dX7_bars_47 : decode cX7_bars 47 = .ok (.bipush (-9), 2) := by decide +kernel
theorem dX7_bars_49 : decode cX7_bars 49 = .ok (.ireturn, 1) := by decide +kernel
theorem dX7_pieces_0 : decode cX7_pieces 0 = .ok (.iload_n 1, 1) := by decide +kernel
theorem dX7_pieces_1 : decode cX7_pieces 1 = .ok (.iconst 0, 1) := by decide +kernel
theorem dX7_pieces_2 : decode cX7_pieces 2 = .ok (.iconst 2, 1) := by decide +kernel
theorem dX7_pieces_3 : decode cX7_pieces 3 = .ok (.invokestatic 88, 3) := by decide +kernel
theorem dX7_pieces_6 : decode cX7_pieces 6 = .ok (.ifCond .eq 13, 3) := by decide +kernel
theorem dX7_pieces_9 : decode cX7_pieces 9 = .ok (.iload_n 2, 1) := by decide +kernel
theorem dX7_pieces_10 : decode cX7_pieces 10 = .ok (.iconst 0, 1) := by decide +kernel
theorem dX7_pieces_11 : decode cX7_pieces 11 = .ok (.bipush 60, 2) := by decide +kernel
theorem dX7_pieces_13 : decode cX7_pieces 13 = .ok (.invokestatic 88, 3) := by decide +kernel
theorem dX7_pieces_16 : decode cX7_pieces 16 = .ok (.ifCond .ne 5, 3) := by decide +kernel
theorem dX7_pieces_19 : decode cX7_pieces 19 = .ok (.iconst (-1), 1) := by decide +kernel
theorem dX7_pieces_20 : decode cX7_pieces 20 = .ok (.ireturn, 1) := by decide +kernel
theorem dX7_pieces_21 : decode cX7_pieces 21 = .ok (.aload_n 0, 1) := by decide +kernel
theorem dX7_pieces_22 : decode cX7_pieces 22 = .ok (.invokevirtual 177, 3) := by decide +kernel
theorem dX7_pieces_25 : decode cX7_pieces 25 = .ok (.iconst 0, 1) := by decide +kernel
theorem dX7_pieces_26 : decode cX7_pieces 26 = .ok (.istore_n 3, 1) := by decide +kernel
theorem dX7_pieces_27 : decode cX7_pieces 27 = .ok (.iconst 0, 1) := by decide +kernel
theorem dX7_pieces_28 : decode cX7_pieces 28 = .ok (.istore 4, 2) := by decide +kernel
theorem dX7_pieces_30 : decode cX7_pieces 30 = .ok (.iload 4, 2) := by decide +kernel
theorem dX7_pieces_32 : decode cX7_pieces 32 = .ok (.iload_n 2, 1) := by decide +kernel
theorem dX7_pieces_33 : decode cX7_pieces 33 = .ok (.if_icmp .gt 162, 3) := by decide +kernel
theorem dX7_pieces_36 : decode cX7_pieces 36 = .ok (.bipush (-9), 2) := by decide +kernel
theorem dX7_pieces_38 : decode cX7_pieces 38 = .ok (.istore 5, 2) := by decide +kernel
theorem dX7_pieces_40 : decode cX7_pieces 40 = .ok (.bipush (-9), 2) := by decide +kernel
theorem dX7_pieces_42 : decode cX7_pieces 42 = .ok (.istore 6, 2) := by decide +kernel
theorem dX7_pieces_44 : decode cX7_pieces 44 = .ok (.iconst 0, 1) := by decide +kernel
theorem dX7_pieces_45 : decode cX7_pieces 45 = .ok (.istore 7, 2) := by decide +kernel
theorem dX7_pieces_47 : decode cX7_pieces 47 = .ok (.iload 7, 2) := by decide +kernel
theorem dX7_pieces_49 : decode cX7_pieces 49 = .ok (.aload_n 0, 1) := by decide +kernel
theorem dX7_pieces_50 : decode cX7_pieces 50 = .ok (.getfield 29, 3) := by decide +kernel
theorem dX7_pieces_53 : decode cX7_pieces 53 = .ok (.iconst 0, 1) := by decide +kernel
theorem dX7_pieces_54 : decode cX7_pieces 54 = .ok (.iaload, 1) := by decide +kernel
theorem dX7_pieces_55 : decode cX7_pieces 55 = .ok (.if_icmp .ge 97, 3) := by decide +kernel
theorem dX7_pieces_58 : decode cX7_pieces 58 = .ok (.aload_n 0, 1) := by decide +kernel
theorem dX7_pieces_59 : decode cX7_pieces 59 = .ok (.getfield 62, 3) := by decide +kernel
theorem dX7_pieces_62 : decode cX7_pieces 62 = .ok (.bipush 26, 2) := by decide +kernel
theorem dX7_pieces_64 : decode cX7_pieces 64 = .ok (.iload 7, 2) := by decide +kernel
theorem dX7_pieces_66 : decode cX7_pieces 66 = .ok (.iadd, 1) := by decide +kernel
theorem dX7_pieces_67 : decode cX7_pieces 67 = .ok (.iaload, 1) := by decide +kernel
theorem dX7_pieces_68 : decode cX7_pieces 68 = .ok (.iload_n 1, 1) := by decide +kernel
theorem dX7_pieces_69 : decode cX7_pieces 69 = .ok (.if_icmp .ne 77, 3) := by decide +kernel
theorem dX7_pieces_72 : decode cX7_pieces 72 = .ok (.iload 5, 2) := by decide +kernel
theorem dX7_pieces_74 : decode cX7_pieces 74 = .ok (.bipush (-9), 2) := by decide +kernel
theorem dX7_pieces_76 : decode cX7_pieces 76 = .ok (.if_icmp .eq 17, 3) := by decide +kernel
theorem dX7_pieces_79 : decode cX7_pieces 79 = .ok (.aload_n 0, 1) := by decide +kernel
theorem dX7_pieces_80 : decode cX7_pieces 80 = .ok (.getfield 62, 3) := by decide +kernel
theorem dX7_pieces_83 : decode cX7_pieces 83 = .ok (.iconst 1, 1) := by decide +kernel
theorem dX7_pieces_84 : decode cX7_pieces 84 = .ok (.iload 7, 2) := by decide +kernel
theorem dX7_pieces_86 : decode cX7_pieces 86 = .ok (.iadd, 1) := by decide +kernel
theorem dX7_pieces_87 : decode cX7_pieces 87 = .ok (.iaload, 1) := by decide +kernel
theorem dX7_pieces_88 : decode cX7_pieces 88 = .ok (.iload 5, 2) := by decide +kernel
theorem dX7_pieces_90 : decode cX7_pieces 90 = .ok (.if_icmp .le 15, 3) := by decide +kernel
theorem dX7_pieces_93 : decode cX7_pieces 93 = .ok (.aload_n 0, 1) := by decide +kernel
theorem dX7_pieces_94 : decode cX7_pieces 94 = .ok (.getfield 62, 3) := by decide +kernel
theorem dX7_pieces_97 : decode cX7_pieces 97 = .ok (.iconst 1, 1) := by decide +kernel
theorem dX7_pieces_98 : decode cX7_pieces 98 = .ok (.iload 7, 2) := by decide +kernel
theorem dX7_pieces_100 : decode cX7_pieces 100 = .ok (.iadd, 1) := by decide +kernel
theorem dX7_pieces_101 : decode cX7_pieces 101 = .ok (.iaload, 1) := by decide +kernel
theorem dX7_pieces_102 : decode cX7_pieces 102 = .ok (.goto 5, 3) := by decide +kernel
theorem dX7_pieces_105 : decode cX7_pieces 105 = .ok (.iload 5, 2) := by decide +kernel
theorem dX7_pieces_107 : decode cX7_pieces 107 = .ok (.istore 5, 2) := by decide +kernel
theorem dX7_pieces_109 : decode cX7_pieces 109 = .ok (.iload 6, 2) := by decide +kernel
theorem dX7_pieces_111 : decode cX7_pieces 111 = .ok (.bipush (-9), 2) := by decide +kernel
theorem dX7_pieces_113 : decode cX7_pieces 113 = .ok (.if_icmp .eq 17, 3) := by decide +kernel
theorem dX7_pieces_116 : decode cX7_pieces 116 = .ok (.aload_n 0, 1) := by decide +kernel
theorem dX7_pieces_117 : decode cX7_pieces 117 = .ok (.getfield 62, 3) := by decide +kernel
theorem dX7_pieces_120 : decode cX7_pieces 120 = .ok (.iconst 1, 1) := by decide +kernel
theorem dX7_pieces_121 : decode cX7_pieces 121 = .ok (.iload 7, 2) := by decide +kernel
theorem dX7_pieces_123 : decode cX7_pieces 123 = .ok (.iadd, 1) := by decide +kernel
theorem dX7_pieces_124 : decode cX7_pieces 124 = .ok (.iaload, 1) := by decide +kernel
theorem dX7_pieces_125 : decode cX7_pieces 125 = .ok (.iload 6, 2) := by decide +kernel
theorem dX7_pieces_127 : decode cX7_pieces 127 = .ok (.if_icmp .ge 15, 3) := by decide +kernel
theorem dX7_pieces_130 : decode cX7_pieces 130 = .ok (.aload_n 0, 1) := by decide +kernel
theorem dX7_pieces_131 : decode cX7_pieces 131 = .ok (.getfield 62, 3) := by decide +kernel
theorem dX7_pieces_134 : decode cX7_pieces 134 = .ok (.iconst 1, 1) := by decide +kernel
theorem dX7_pieces_135 : decode cX7_pieces 135 = .ok (.iload 7, 2) := by decide +kernel
theorem dX7_pieces_137 : decode cX7_pieces 137 = .ok (.iadd, 1) := by decide +kernel
theorem dX7_pieces_138 : decode cX7_pieces 138 = .ok (.iaload, 1) := by decide +kernel
theorem dX7_pieces_139 : decode cX7_pieces 139 = .ok (.goto 5, 3) := by decide +kernel
theorem dX7_pieces_142 : decode cX7_pieces 142 = .ok (.iload 6, 2) := by decide +kernel
theorem dX7_pieces_144 : decode cX7_pieces 144 = .ok (.istore 6, 2) := by decide +kernel
theorem dX7_pieces_146 : decode cX7_pieces 146 = .ok (.iinc 7 1, 3) := by decide +kernel
theorem dX7_pieces_149 : decode cX7_pieces 149 = .ok (.goto (-102), 3) := by decide +kernel
theorem dX7_pieces_152 : decode cX7_pieces 152 = .ok (.iload 5, 2) := by decide +kernel
theorem dX7_pieces_154 : decode cX7_pieces 154 = .ok (.bipush (-9), 2) := by decide +kernel
theorem dX7_pieces_156 : decode cX7_pieces 156 = .ok (.if_icmp .ne 7, 3) := by decide +kernel
theorem dX7_pieces_159 : decode cX7_pieces 159 = .ok (.iconst 0, 1) := by decide +kernel
theorem dX7_pieces_160 : decode cX7_pieces 160 = .ok (.goto 10, 3) := by decide +kernel
theorem dX7_pieces_163 : decode cX7_pieces 163 = .ok (.iload 5, 2) := by decide +kernel
theorem dX7_pieces_165 : decode cX7_pieces 165 = .ok (.iload 6, 2) := by decide +kernel
theorem dX7_pieces_167 : decode cX7_pieces 167 = .ok (.isub, 1) := by decide +kernel
theorem dX7_pieces_168 : decode cX7_pieces 168 = .ok (.iconst 1, 1) := by decide +kernel
theorem dX7_pieces_169 : decode cX7_pieces 169 = .ok (.iadd, 1) := by decide +kernel
theorem dX7_pieces_170 : decode cX7_pieces 170 = .ok (.istore 7, 2) := by decide +kernel
theorem dX7_pieces_172 : decode cX7_pieces 172 = .ok (.iload 7, 2) := by decide +kernel
theorem dX7_pieces_174 : decode cX7_pieces 174 = .ok (.iload_n 3, 1) := by decide +kernel
theorem dX7_pieces_175 : decode cX7_pieces 175 = .ok (.if_icmp .le 8, 3) := by decide +kernel
theorem dX7_pieces_178 : decode cX7_pieces 178 = .ok (.iload 7, 2) := by decide +kernel
theorem dX7_pieces_180 : decode cX7_pieces 180 = .ok (.goto 4, 3) := by decide +kernel
theorem dX7_pieces_183 : decode cX7_pieces 183 = .ok (.iload_n 3, 1) := by decide +kernel
theorem dX7_pieces_184 : decode cX7_pieces 184 = .ok (.istore_n 3, 1) := by decide +kernel
theorem dX7_pieces_185 : decode cX7_pieces 185 = .ok (.aload_n 0, 1) := by decide +kernel
theorem dX7_pieces_186 : decode cX7_pieces 186 = .ok (.invokevirtual 195, 3) := by decide +kernel
theorem dX7_pieces_189 : decode cX7_pieces 189 = .ok (.iinc 4 1, 3) := by decide +kernel
theorem dX7_pieces_192 : decode cX7_pieces 192 = .ok (.goto (-162), 3) := by decide +kernel
theorem dX7_pieces_195 : decode cX7_pieces 195 = .ok (.iload_n 3, 1) := by decide +kernel
theorem dX7_pieces_196 : decode cX7_pieces 196 = .ok (.ireturn, 1) := by decide +kernel
theorem dX7_met_0 : decode cX7_met 0 = .ok (.iload_n 1, 1) := by decide +kernel
theorem dX7_met_1 : decode cX7_met 1 = .ok (.iconst 0, 1) := by decide +kernel
theorem dX7_met_2 : decode cX7_met 2 = .ok (.aload_n 0, 1) := by decide +kernel
theorem dX7_met_3 : decode cX7_met 3 = .ok (.getfield 13, 3) := by decide +kernel
theorem dX7_met_6 : decode cX7_met 6 = .ok (.iconst 0, 1) := by decide +kernel
theorem dX7_met_7 : decode cX7_met 7 = .ok (.iaload, 1) := by decide +kernel
theorem dX7_met_8 : decode cX7_met 8 = .ok (.iconst 1, 1) := by decide +kernel
theorem dX7_met_9 : decode cX7_met 9 = .ok (.isub, 1) := by decide +kernel
theorem dX7_met_10 : decode cX7_met 10 = .ok (.invokestatic 88, 3) := by decide +kernel
theorem dX7_met_13 : decode cX7_met 13 = .ok (.ifCond .eq 13, 3) := by decide +kernel
theorem dX7_met_16 : decode cX7_met 16 = .ok (.iload_n 2, 1) := by decide +kernel
theorem dX7_met_17 : decode cX7_met 17 = .ok (.iconst 0, 1) := by decide +kernel
theorem dX7_met_18 : decode cX7_met 18 = .ok (.bipush 99, 2) := by decide +kernel
theorem dX7_met_20 : decode cX7_met 20 = .ok (.invokestatic 88, 3) := by decide +kernel
theorem dX7_met_23 : decode cX7_met 23 = .ok (.ifCond .ne 5, 3) := by decide +kernel
theorem dX7_met_26 : decode cX7_met 26 = .ok (.iconst (-1), 1) := by decide +kernel
theorem dX7_met_27 : decode cX7_met 27 = .ok (.ireturn, 1) := by decide +kernel
theorem dX7_met_28 : decode cX7_met 28 = .ok (.aload_n 0, 1) := by decide +kernel
theorem dX7_met_29 : decode cX7_met 29 = .ok (.invokevirtual 164, 3) := by decide +kernel
theorem dX7_met_32 : decode cX7_met 32 = .ok (.aload_n 0, 1) := by decide +kernel
theorem dX7_met_33 : decode cX7_met 33 = .ok (.iload_n 2, 1) := by decide +kernel
theorem dX7_met_34 : decode cX7_met 34 = .ok (.invokevirtual 204, 3) := by decide +kernel
theorem dX7_met_37 : decode cX7_met 37 = .ok (.iconst 0, 1) := by decide +kernel
theorem dX7_met_38 : decode cX7_met 38 = .ok (.istore_n 3, 1) := by decide +kernel
theorem dX7_met_39 : decode cX7_met 39 = .ok (.iconst 0, 1) := by decide +kernel
theorem dX7_met_40 : decode cX7_met 40 = .ok (.istore 4, 2) := by decide +kernel
theorem dX7_met_42 : decode cX7_met 42 = .ok (.iload 4, 2) := by decide +kernel
theorem dX7_met_44 : decode cX7_met 44 = .ok (.aload_n 0, 1) := by decide +kernel
theorem dX7_met_45 : decode cX7_met 45 = .ok (.getfield 29, 3) := by decide +kernel
theorem dX7_met_48 : decode cX7_met 48 = .ok (.iconst 0, 1) := by decide +kernel
theorem dX7_met_49 : decode cX7_met 49 = .ok (.iaload, 1) := by decide +kernel
theorem dX7_met_50 : decode cX7_met 50 = .ok (.if_icmp .ge 53, 3) := by decide +kernel
theorem dX7_met_53 : decode cX7_met 53 = .ok (.iload_n 3, 1) := by decide +kernel
theorem dX7_met_54 : decode cX7_met 54 = .ok (.aload_n 0, 1) := by decide +kernel
theorem dX7_met_55 : decode cX7_met 55 = .ok (.getfield 62, 3) := by decide +kernel
theorem dX7_met_58 : decode cX7_met 58 = .ok (.bipush 21, 2) := by decide +kernel
theorem dX7_met_60 : decode cX7_met 60 = .ok (.iload 4, 2) := by decide +kernel
theorem dX7_met_62 : decode cX7_met 62 = .ok (.iadd, 1) := by decide +kernel
theorem dX7_met_63 : decode cX7_met 63 = .ok (.iaload, 1) := by decide +kernel
theorem dX7_met_64 : decode cX7_met 64 = .ok (.ifCond .ne 30, 3) := by decide +kernel
theorem dX7_met_67 : decode cX7_met 67 = .ok (.aload_n 0, 1) := by decide +kernel
theorem dX7_met_68 : decode cX7_met 68 = .ok (.getfield 62, 3) := by decide +kernel
theorem dX7_met_71 : decode cX7_met 71 = .ok (.iconst 1, 1) := by decide +kernel
theorem dX7_met_72 : decode cX7_met 72 = .ok (.iload 4, 2) := by decide +kernel
theorem dX7_met_74 : decode cX7_met 74 = .ok (.iadd, 1) := by decide +kernel
theorem dX7_met_75 : decode cX7_met 75 = .ok (.iaload, 1) := by decide +kernel
theorem dX7_met_76 : decode cX7_met 76 = .ok (.aload_n 0, 1) := by decide +kernel
theorem dX7_met_77 : decode cX7_met 77 = .ok (.getfield 13, 3) := by decide +kernel
theorem dX7_met_80 : decode cX7_met 80 = .ok (.iconst 0, 1) := by decide +kernel
theorem dX7_met_81 : decode cX7_met 81 = .ok (.iaload, 1) := by decide +kernel
theorem dX7_met_82 : decode cX7_met 82 = .ok (.irem, 1) := by decide +kernel
theorem dX7_met_83 : decode cX7_met 83 = .ok (.iload_n 1, 1) := by decide +kernel
theorem dX7_met_84 : decode cX7_met 84 = .ok (.if_icmp .ne 10, 3) := by decide +kernel
theorem dX7_met_87 : decode cX7_met 87 = .ok (.iconst 1, 1) := by decide +kernel
theorem dX7_met_88 : decode cX7_met 88 = .ok (.iload 4, 2) := by decide +kernel
theorem dX7_met_90 : decode cX7_met 90 = .ok (.ishl, 1) := by decide +kernel
theorem dX7_met_91 : decode cX7_met 91 = .ok (.goto 4, 3) := by decide +kernel
theorem dX7_met_94 : decode cX7_met 94 = .ok (.iconst 0, 1) := by decide +kernel
theorem dX7_met_95 : decode cX7_met 95 = .ok (.ior, 1) := by decide +kernel
theorem dX7_met_96 : decode cX7_met 96 = .ok (.istore_n 3, 1) := by decide +kernel
theorem dX7_met_97 : decode cX7_met 97 = .ok (.iinc 4 1, 3) := by decide +kernel
theorem dX7_met_100 : decode cX7_met 100 = .ok (.goto (-58), 3) := by decide +kernel
theorem dX7_met_103 : decode cX7_met 103 = .ok (.iload_n 3, 1) := by decide +kernel
theorem dX7_met_104 : decode cX7_met 104 = .ok (.ireturn, 1) := by decide +kernel
theorem dX7_findOdds_0 : decode cX7_findOdds 0 = .ok (.iconst 0, 1) := by decide +kernel
theorem dX7_findOdds_1 : decode cX7_findOdds 1 = .ok (.istore 5, 2) := by decide +kernel
theorem dX7_findOdds_3 : decode cX7_findOdds 3 = .ok (.iload 5, 2) := by decide +kernel
theorem dX7_findOdds_5 : decode cX7_findOdds 5 = .ok (.bipush 112, 2) := by decide +kernel
theorem dX7_findOdds_7 : decode cX7_findOdds 7 = .ok (.if_icmp .ge 17, 3) := by decide +kernel
theorem dX7_findOdds_10 : decode cX7_findOdds 10 = .ok (.aload_n 0, 1) := by decide +kernel
theorem dX7_findOdds_11 : decode cX7_findOdds 11 = .ok (.getfield 81, 3) := by decide +kernel
theorem dX7_findOdds_14 : decode cX7_findOdds 14 = .ok (.iload 5, 2) := by decide +kernel
theorem dX7_findOdds_16 : decode cX7_findOdds 16 = .ok (.lconst 0, 1) := by decide +kernel
theorem dX7_findOdds_17 : decode cX7_findOdds 17 = .ok (.lastore, 1) := by decide +kernel
theorem dX7_findOdds_18 : decode cX7_findOdds 18 = .ok (.iinc 5 1, 3) := by decide +kernel
theorem dX7_findOdds_21 : decode cX7_findOdds 21 = .ok (.goto (-18), 3) := by decide +kernel
theorem dX7_findOdds_24 : decode cX7_findOdds 24 = .ok (.aload_n 0, 1) := by decide +kernel
theorem dX7_findOdds_25 : decode cX7_findOdds 25 = .ok (.getfield 81, 3) := by decide +kernel
theorem dX7_findOdds_28 : decode cX7_findOdds 28 = .ok (.aload_n 0, 1) := by decide +kernel
theorem dX7_findOdds_29 : decode cX7_findOdds 29 = .ok (.getfield 59, 3) := by decide +kernel
theorem dX7_findOdds_32 : decode cX7_findOdds 32 = .ok (.bipush 6, 2) := by decide +kernel
theorem dX7_findOdds_34 : decode cX7_findOdds 34 = .ok (.iload_n 1, 1) := by decide +kernel
theorem dX7_findOdds_35 : decode cX7_findOdds 35 = .ok (.iadd, 1) := by decide +kernel
theorem dX7_findOdds_36 : decode cX7_findOdds 36 = .ok (.iaload, 1) := by decide +kernel
theorem dX7_findOdds_37 : decode cX7_findOdds 37 = .ok (.lconst 1, 1) := by decide +kernel
theorem dX7_findOdds_38 : decode cX7_findOdds 38 = .ok (.lastore, 1) := by decide +kernel
theorem dX7_findOdds_39 : decode cX7_findOdds 39 = .ok (.aload_n 0, 1) := by decide +kernel
theorem dX7_findOdds_40 : decode cX7_findOdds 40 = .ok (.lconst 1, 1) := by decide +kernel
theorem dX7_findOdds_41 : decode cX7_findOdds 41 = .ok (.putfield 219, 3) := by decide +kernel
theorem dX7_findOdds_44 : decode cX7_findOdds 44 = .ok (.aload_n 0, 1) := by decide +kernel
theorem dX7_findOdds_45 : decode cX7_findOdds 45 = .ok (.getfield 59, 3) := by decide +kernel
theorem dX7_findOdds_48 : decode cX7_findOdds 48 = .ok (.iconst 1, 1) := by decide +kernel
theorem dX7_findOdds_49 : decode cX7_findOdds 49 = .ok (.iload_n 1, 1) := by decide +kernel
theorem dX7_findOdds_50 : decode cX7_findOdds 50 = .ok (.iadd, 1) := by decide +kernel
theorem dX7_findOdds_51 : decode cX7_findOdds 51 = .ok (.iaload, 1) := by decide +kernel
theorem dX7_findOdds_52 : decode cX7_findOdds 52 = .ok (.istore 5, 2) := by decide +kernel
theorem dX7_findOdds_54 : decode cX7_findOdds 54 = .ok (.iconst 1, 1) := by decide +kernel
theorem dX7_findOdds_55 : decode cX7_findOdds 55 = .ok (.istore 6, 2) := by decide +kernel
theorem dX7_findOdds_57 : decode cX7_findOdds 57 = .ok (.iload 6, 2) := by decide +kernel
theorem dX7_findOdds_59 : decode cX7_findOdds 59 = .ok (.iload_n 3, 1) := by decide +kernel
theorem dX7_findOdds_60 : decode cX7_findOdds 60 = .ok (.if_icmp .gt 254, 3) := by decide +kernel
theorem dX7_findOdds_63 : decode cX7_findOdds 63 = .ok (.aload_n 0, 1) := by decide +kernel
theorem dX7_findOdds_64 : decode cX7_findOdds 64 = .ok (.aload_n 0, 1) := by decide +kernel
theorem dX7_findOdds_65 : decode cX7_findOdds 65 = .ok (.getfield 59, 3) := by decide +kernel
theorem dX7_findOdds_68 : decode cX7_findOdds 68 = .ok (.iconst 0, 1) := by decide +kernel
theorem dX7_findOdds_69 : decode cX7_findOdds 69 = .ok (.iaload, 1) := by decide +kernel
theorem dX7_findOdds_70 : decode cX7_findOdds 70 = .ok (.iload 6, 2) := by decide +kernel
theorem dX7_findOdds_72 : decode cX7_findOdds 72 = .ok (.iadd, 1) := by decide +kernel
theorem dX7_findOdds_73 : decode cX7_findOdds 73 = .ok (.invokevirtual 173, 3) := by decide +kernel
theorem dX7_findOdds_76 : decode cX7_findOdds 76 = .ok (.iload 4, 2) := by decide +kernel
theorem dX7_findOdds_78 : decode cX7_findOdds 78 = .ok (.iadd, 1) := by decide +kernel
theorem dX7_findOdds_79 : decode cX7_findOdds 79 = .ok (.istore 7, 2) := by decide +kernel
theorem dX7_findOdds_81 : decode cX7_findOdds 81 = .ok (.iconst 0, 1) := by decide +kernel
theorem dX7_findOdds_82 : decode cX7_findOdds 82 = .ok (.istore 8, 2) := by decide +kernel
theorem dX7_findOdds_84 : decode cX7_findOdds 84 = .ok (.iload 8, 2) := by decide +kernel
theorem dX7_findOdds_86 : decode cX7_findOdds 86 = .ok (.bipush 112, 2) := by decide +kernel
theorem dX7_findOdds_88 : decode cX7_findOdds 88 = .ok (.if_icmp .ge 17, 3) := by decide +kernel
theorem dX7_findOdds_91 : decode cX7_findOdds 91 = .ok (.aload_n 0, 1) := by decide +kernel
theorem dX7_findOdds_92 : decode cX7_findOdds 92 = .ok (.getfield 85, 3) := by decide +kernel
theorem dX7_findOdds_95 : decode cX7_findOdds 95 = .ok (.iload 8, 2) := by decide +kernel
theorem dX7_findOdds_97 : decode cX7_findOdds 97 = .ok (.lconst 0, 1) := by decide +kernel
theorem dX7_findOdds_98 : decode cX7_findOdds 98 = .ok (.lastore, 1) := by decide +kernel
theorem dX7_findOdds_99 : decode cX7_findOdds 99 = .ok (.iinc 8 1, 3) := by decide +kernel
theorem dX7_findOdds_102 : decode cX7_findOdds 102 = .ok (.goto (-18), 3) := by decide +kernel
theorem dX7_findOdds_105 : decode cX7_findOdds 105 = .ok (.iconst 0, 1) := by decide +kernel
theorem dX7_findOdds_106 : decode cX7_findOdds 106 = .ok (.istore 8, 2) := by decide +kernel
theorem dX7_findOdds_108 : decode cX7_findOdds 108 = .ok (.iload 8, 2) := by decide +kernel
theorem dX7_findOdds_110 : decode cX7_findOdds 110 = .ok (.bipush 104, 2) := by decide +kernel
theorem dX7_findOdds_112 : decode cX7_findOdds 112 = .ok (.if_icmp .ge 154, 3) := by decide +kernel
theorem dX7_findOdds_115 : decode cX7_findOdds 115 = .ok (.aload_n 0, 1) := by decide +kernel
theorem dX7_findOdds_116 : decode cX7_findOdds 116 = .ok (.getfield 81, 3) := by decide +kernel
theorem dX7_findOdds_119 : decode cX7_findOdds 119 = .ok (.iload 8, 2) := by decide +kernel
theorem dX7_findOdds_121 : decode cX7_findOdds 121 = .ok (.laload, 1) := by decide +kernel
theorem dX7_findOdds_122 : decode cX7_findOdds 122 = .ok (.lconst 0, 1) := by decide +kernel
theorem dX7_findOdds_123 : decode cX7_findOdds 123 = .ok (.lcmp, 1) := by decide +kernel
theorem dX7_findOdds_124 : decode cX7_findOdds 124 = .ok (.ifCond .le 136, 3) := by decide +kernel
theorem dX7_findOdds_127 : decode cX7_findOdds 127 = .ok (.iload 8, 2) := by decide +kernel
theorem dX7_findOdds_129 : decode cX7_findOdds 129 = .ok (.bipush 8, 2) := by decide +kernel
theorem dX7_findOdds_131 : decode cX7_findOdds 131 = .ok (.idiv, 1) := by decide +kernel
theorem dX7_findOdds_132 : decode cX7_findOdds 132 = .ok (.istore 9, 2) := by decide +kernel
theorem dX7_findOdds_134 : decode cX7_findOdds 134 = .ok (.iload 8, 2) := by decide +kernel
theorem dX7_findOdds_136 : decode cX7_findOdds 136 = .ok (.bipush 8, 2) := by decide +kernel
theorem dX7_findOdds_138 : decode cX7_findOdds 138 = .ok (.irem, 1) := by decide +kernel
theorem dX7_findOdds_139 : decode cX7_findOdds 139 = .ok (.istore 10, 2) := by decide +kernel
theorem dX7_findOdds_141 : decode cX7_findOdds 141 = .ok (.iload 5, 2) := by decide +kernel
theorem dX7_findOdds_143 : decode cX7_findOdds 143 = .ok (.iload 9, 2) := by decide +kernel
theorem dX7_findOdds_145 : decode cX7_findOdds 145 = .ok (.iadd, 1) := by decide +kernel
theorem dX7_findOdds_146 : decode cX7_findOdds 146 = .ok (.iload 7, 2) := by decide +kernel
theorem dX7_findOdds_148 : decode cX7_findOdds 148 = .ok (.if_icmp .le 23, 3) := by decide +kernel
theorem dX7_findOdds_151 : decode cX7_findOdds 151 = .ok (.aload_n 0, 1) := by decide +kernel
theorem dX7_findOdds_152 : decode cX7_findOdds 152 = .ok (.getfield 85, 3) := by decide +kernel
theorem dX7_findOdds_155 : decode cX7_findOdds 155 = .ok (.iload 8, 2) := by decide +kernel
theorem dX7_findOdds_157 : decode cX7_findOdds 157 = .ok (.dup2, 1) := by decide +kernel
theorem dX7_findOdds_158 : decode cX7_findOdds 158 = .ok (.laload, 1) := by decide +kernel
theorem dX7_findOdds_159 : decode cX7_findOdds 159 = .ok (.aload_n 0, 1) := by decide +kernel
theorem dX7_findOdds_160 : decode cX7_findOdds 160 = .ok (.getfield 81, 3) := by decide +kernel
theorem dX7_findOdds_163 : decode cX7_findOdds 163 = .ok (.iload 8, 2) := by decide +kernel
theorem dX7_findOdds_165 : decode cX7_findOdds 165 = .ok (.laload, 1) := by decide +kernel
theorem dX7_findOdds_166 : decode cX7_findOdds 166 = .ok (.iload_n 2, 1) := by decide +kernel
theorem dX7_findOdds_167 : decode cX7_findOdds 167 = .ok (.i2l, 1) := by decide +kernel
theorem dX7_findOdds_168 : decode cX7_findOdds 168 = .ok (.lmul, 1) := by decide +kernel
theorem dX7_findOdds_169 : decode cX7_findOdds 169 = .ok (.ladd, 1) := by decide +kernel
theorem dX7_findOdds_170 : decode cX7_findOdds 170 = .ok (.lastore, 1) := by decide +kernel
theorem dX7_findOdds_171 : decode cX7_findOdds 171 = .ok (.iload 10, 2) := by decide +kernel
theorem dX7_findOdds_173 : decode cX7_findOdds 173 = .ok (.iconst 2, 1) := by decide +kernel
theorem dX7_findOdds_174 : decode cX7_findOdds 174 = .ok (.if_icmp .ge 7, 3) := by decide +kernel
theorem dX7_findOdds_177 : decode cX7_findOdds 177 = .ok (.iconst 1, 1) := by decide +kernel
theorem dX7_findOdds_178 : decode cX7_findOdds 178 = .ok (.goto 4, 3) := by decide +kernel
theorem dX7_findOdds_181 : decode cX7_findOdds 181 = .ok (.iconst 0, 1) := by decide +kernel
theorem dX7_findOdds_182 : decode cX7_findOdds 182 = .ok (.istore 11, 2) := by decide +kernel
theorem dX7_findOdds_184 : decode cX7_findOdds 184 = .ok (.iload 11, 2) := by decide +kernel
theorem dX7_findOdds_186 : decode cX7_findOdds 186 = .ok (.ifCond .eq 32, 3) := by decide +kernel
theorem dX7_findOdds_189 : decode cX7_findOdds 189 = .ok (.bipush 8, 2) := by decide +kernel
theorem dX7_findOdds_191 : decode cX7_findOdds 191 = .ok (.iload 9, 2) := by decide +kernel
theorem dX7_findOdds_193 : decode cX7_findOdds 193 = .ok (.iconst 1, 1) := by decide +kernel
theorem dX7_findOdds_194 : decode cX7_findOdds 194 = .ok (.iadd, 1) := by decide +kernel
theorem dX7_findOdds_195 : decode cX7_findOdds 195 = .ok (.imul, 1) := by decide +kernel
theorem dX7_findOdds_196 : decode cX7_findOdds 196 = .ok (.aload_n 0, 1) := by decide +kernel
theorem dX7_findOdds_197 : decode cX7_findOdds 197 = .ok (.iload 5, 2) := by decide +kernel
theorem dX7_findOdds_199 : decode cX7_findOdds 199 = .ok (.iload 9, 2) := by decide +kernel
theorem dX7_findOdds_201 : decode cX7_findOdds 201 = .ok (.iadd, 1) := by decide +kernel
theorem dX7_findOdds_202 : decode cX7_findOdds 202 = .ok (.iconst 1, 1) := by decide +kernel
theorem dX7_findOdds_203 : decode cX7_findOdds 203 = .ok (.iadd, 1) := by decide +kernel
theorem dX7_findOdds_204 : decode cX7_findOdds 204 = .ok (.invokevirtual 160, 3) := by decide +kernel
theorem dX7_findOdds_207 : decode cX7_findOdds 207 = .ok (.iadd, 1) := by decide +kernel
theorem dX7_findOdds_208 : decode cX7_findOdds 208 = .ok (.aload_n 0, 1) := by decide +kernel
theorem dX7_findOdds_209 : decode cX7_findOdds 209 = .ok (.getfield 56, 3) := by decide +kernel
theorem dX7_findOdds_212 : decode cX7_findOdds 212 = .ok (.iload_n 1, 1) := by decide +kernel
theorem dX7_findOdds_213 : decode cX7_findOdds 213 = .ok (.iaload, 1) := by decide +kernel
theorem dX7_findOdds_214 : decode cX7_findOdds 214 = .ok (.iadd, 1) := by decide +kernel
theorem dX7_findOdds_215 : decode cX7_findOdds 215 = .ok (.goto 7, 3) := by decide +kernel
theorem dX7_findOdds_218 : decode cX7_findOdds 218 = .ok (.iload 8, 2) := by decide +kernel
theorem dX7_findOdds_220 : decode cX7_findOdds 220 = .ok (.iconst 1, 1) := by decide +kernel
theorem dX7_findOdds_221 : decode cX7_findOdds 221 = .ok (.isub, 1) := by decide +kernel
theorem dX7_findOdds_222 : decode cX7_findOdds 222 = .ok (.istore 12, 2) := by decide +kernel
theorem dX7_findOdds_224 : decode cX7_findOdds 224 = .ok (.iload 5, 2) := by decide +kernel
theorem dX7_findOdds_226 : decode cX7_findOdds 226 = .ok (.iload 12, 2) := by decide +kernel
theorem dX7_findOdds_228 : decode cX7_findOdds 228 = .ok (.bipush 8, 2) := by decide +kernel
theorem dX7_findOdds_230 : decode cX7_findOdds 230 = .ok (.idiv, 1) := by decide +kernel
theorem dX7_findOdds_231 : decode cX7_findOdds 231 = .ok (.iadd, 1) := by decide +kernel
theorem dX7_findOdds_232 : decode cX7_findOdds 232 = .ok (.iload 7, 2) := by decide +kernel
theorem dX7_findOdds_234 : decode cX7_findOdds 234 = .ok (.if_icmp .le 26, 3) := by decide +kernel
theorem dX7_findOdds_237 : decode cX7_findOdds 237 = .ok (.aload_n 0, 1) := by decide +kernel
theorem dX7_findOdds_238 : decode cX7_findOdds 238 = .ok (.getfield 85, 3) := by decide +kernel
theorem dX7_findOdds_241 : decode cX7_findOdds 241 = .ok (.iload 12, 2) := by decide +kernel
theorem dX7_findOdds_243 : decode cX7_findOdds 243 = .ok (.dup2, 1) := by decide +kernel
theorem dX7_findOdds_244 : decode cX7_findOdds 244 = .ok (.laload, 1) := by decide +kernel
theorem dX7_findOdds_245 : decode cX7_findOdds 245 = .ok (.aload_n 0, 1) := by decide +kernel
theorem dX7_findOdds_246 : decode cX7_findOdds 246 = .ok (.getfield 81, 3) := by decide +kernel
theorem dX7_findOdds_249 : decode cX7_findOdds 249 = .ok (.iload 8, 2) := by decide +kernel
theorem dX7_findOdds_251 : decode cX7_findOdds 251 = .ok (.laload, 1) := by decide +kernel
theorem dX7_findOdds_252 : decode cX7_findOdds 252 = .ok (.bipush 10, 2) := by decide +kernel
theorem dX7_findOdds_254 : decode cX7_findOdds 254 = .ok (.iload_n 2, 1) := by decide +kernel
theorem dX7_findOdds_255 : decode cX7_findOdds 255 = .ok (.isub, 1) := by decide +kernel
theorem dX7_findOdds_256 : decode cX7_findOdds 256 = .ok (.i2l, 1) := by decide +kernel
theorem dX7_findOdds_257 : decode cX7_findOdds 257 = .ok (.lmul, 1) := by decide +kernel
theorem dX7_findOdds_258 : decode cX7_findOdds 258 = .ok (.ladd, 1) := by decide +kernel
theorem dX7_findOdds_259 : decode cX7_findOdds 259 = .ok (.lastore, 1) := by decide +kernel
theorem dX7_findOdds_260 : decode cX7_findOdds 260 = .ok (.iinc 8 1, 3) := by decide +kernel
theorem dX7_findOdds_263 : decode cX7_findOdds 263 = .ok (.goto (-155), 3) := by decide +kernel
theorem dX7_findOdds_266 : decode cX7_findOdds 266 = .ok (.iconst 0, 1) := by decide +kernel
theorem dX7_findOdds_267 : decode cX7_findOdds 267 = .ok (.istore 8, 2) := by decide +kernel
theorem dX7_findOdds_269 : decode cX7_findOdds 269 = .ok (.iload 8, 2) := by decide +kernel
theorem dX7_findOdds_271 : decode cX7_findOdds 271 = .ok (.bipush 112, 2) := by decide +kernel
theorem dX7_findOdds_273 : decode cX7_findOdds 273 = .ok (.if_icmp .ge 23, 3) := by decide +kernel
theorem dX7_findOdds_276 : decode cX7_findOdds 276 = .ok (.aload_n 0, 1) := by decide +kernel
theorem dX7_findOdds_277 : decode cX7_findOdds 277 = .ok (.getfield 81, 3) := by decide +kernel
theorem dX7_findOdds_280 : decode cX7_findOdds 280 = .ok (.iload 8, 2) := by decide +kernel
theorem dX7_findOdds_282 : decode cX7_findOdds 282 = .ok (.aload_n 0, 1) := by decide +kernel
theorem dX7_findOdds_283 : decode cX7_findOdds 283 = .ok (.getfield 85, 3) := by decide +kernel
theorem dX7_findOdds_286 : decode cX7_findOdds 286 = .ok (.iload 8, 2) := by decide +kernel
theorem dX7_findOdds_288 : decode cX7_findOdds 288 = .ok (.laload, 1) := by decide +kernel
theorem dX7_findOdds_289 : decode cX7_findOdds 289 = .ok (.lastore, 1) := by decide +kernel
theorem dX7_findOdds_290 : decode cX7_findOdds 290 = .ok (.iinc 8 1, 3) := by decide +kernel
theorem dX7_findOdds_293 : decode cX7_findOdds 293 = .ok (.goto (-24), 3) := by decide +kernel
theorem dX7_findOdds_296 : decode cX7_findOdds 296 = .ok (.aload_n 0, 1) := by decide +kernel
theorem dX7_findOdds_297 : decode cX7_findOdds 297 = .ok (.dup, 1) := by decide +kernel
theorem dX7_findOdds_298 : decode cX7_findOdds 298 = .ok (.getfield 219, 3) := by decide +kernel
theorem dX7_findOdds_301 : decode cX7_findOdds 301 = .ok (.ldc2_w 223, 3) := by decide +kernel
theorem dX7_findOdds_304 : decode cX7_findOdds 304 = .ok (.lmul, 1) := by decide +kernel
theorem dX7_findOdds_305 : decode cX7_findOdds 305 = .ok (.putfield 219, 3) := by decide +kernel
theorem dX7_findOdds_308 : decode cX7_findOdds 308 = .ok (.iinc 6 1, 3) := by decide +kernel
theorem dX7_findOdds_311 : decode cX7_findOdds 311 = .ok (.goto (-254), 3) := by decide +kernel
theorem dX7_findOdds_314 : decode cX7_findOdds 314 = .ok (.aload_n 0, 1) := by decide +kernel
theorem dX7_findOdds_315 : decode cX7_findOdds 315 = .ok (.lconst 0, 1) := by decide +kernel
theorem dX7_findOdds_316 : decode cX7_findOdds 316 = .ok (.putfield 225, 3) := by decide +kernel
theorem dX7_findOdds_319 : decode cX7_findOdds 319 = .ok (.iconst 0, 1) := by decide +kernel
theorem dX7_findOdds_320 : decode cX7_findOdds 320 = .ok (.istore 6, 2) := by decide +kernel
theorem dX7_findOdds_322 : decode cX7_findOdds 322 = .ok (.iload 6, 2) := by decide +kernel
theorem dX7_findOdds_324 : decode cX7_findOdds 324 = .ok (.bipush 112, 2) := by decide +kernel
theorem dX7_findOdds_326 : decode cX7_findOdds 326 = .ok (.if_icmp .ge 25, 3) := by decide +kernel
theorem dX7_findOdds_329 : decode cX7_findOdds 329 = .ok (.aload_n 0, 1) := by decide +kernel
theorem dX7_findOdds_330 : decode cX7_findOdds 330 = .ok (.dup, 1) := by decide +kernel
theorem dX7_findOdds_331 : decode cX7_findOdds 331 = .ok (.getfield 225, 3) := by decide +kernel
theorem dX7_findOdds_334 : decode cX7_findOdds 334 = .ok (.aload_n 0, 1) := by decide +kernel
theorem dX7_findOdds_335 : decode cX7_findOdds 335 = .ok (.getfield 81, 3) := by decide +kernel
theorem dX7_findOdds_338 : decode cX7_findOdds 338 = .ok (.iload 6, 2) := by decide +kernel
theorem dX7_findOdds_340 : decode cX7_findOdds 340 = .ok (.laload, 1) := by decide +kernel
theorem dX7_findOdds_341 : decode cX7_findOdds 341 = .ok (.ladd, 1) := by decide +kernel
theorem dX7_findOdds_342 : decode cX7_findOdds 342 = .ok (.putfield 225, 3) := by decide +kernel
theorem dX7_findOdds_345 : decode cX7_findOdds 345 = .ok (.iinc 6 1, 3) := by decide +kernel
theorem dX7_findOdds_348 : decode cX7_findOdds 348 = .ok (.goto (-26), 3) := by decide +kernel
theorem dX7_findOdds_351 : decode cX7_findOdds 351 = .ok (.return_, 1) := by decide +kernel
theorem dX7_isAsked_0 : decode cX7_isAsked 0 = .ok (.aload_n 0, 1) := by decide +kernel
theorem dX7_isAsked_1 : decode cX7_isAsked 1 = .ok (.iload_n 1, 1) := by decide +kernel
theorem dX7_isAsked_2 : decode cX7_isAsked 2 = .ok (.invokevirtual 170, 3) := by decide +kernel
theorem dX7_isAsked_5 : decode cX7_isAsked 5 = .ok (.ifCond .eq 27, 3) := by decide +kernel
theorem dX7_isAsked_8 : decode cX7_isAsked 8 = .ok (.iload_n 2, 1) := by decide +kernel
theorem dX7_isAsked_9 : decode cX7_isAsked 9 = .ok (.iconst 0, 1) := by decide +kernel
theorem dX7_isAsked_10 : decode cX7_isAsked 10 = .ok (.bipush 10, 2) := by decide +kernel
theorem dX7_isAsked_12 : decode cX7_isAsked 12 = .ok (.invokestatic 88, 3) := by decide +kernel
theorem dX7_isAsked_15 : decode cX7_isAsked 15 = .ok (.ifCond .eq 17, 3) := by decide +kernel
theorem dX7_isAsked_18 : decode cX7_isAsked 18 = .ok (.iload_n 3, 1) := by decide +kernel
theorem dX7_isAsked_19 : decode cX7_isAsked 19 = .ok (.iconst 0, 1) := by decide +kernel
theorem dX7_isAsked_20 : decode cX7_isAsked 20 = .ok (.bipush 12, 2) := by decide +kernel
theorem dX7_isAsked_22 : decode cX7_isAsked 22 = .ok (.invokestatic 88, 3) := by decide +kernel
theorem dX7_isAsked_25 : decode cX7_isAsked 25 = .ok (.ifCond .eq 7, 3) := by decide +kernel
theorem dX7_isAsked_28 : decode cX7_isAsked 28 = .ok (.iconst 1, 1) := by decide +kernel
theorem dX7_isAsked_29 : decode cX7_isAsked 29 = .ok (.goto 4, 3) := by decide +kernel
theorem dX7_isAsked_32 : decode cX7_isAsked 32 = .ok (.iconst 0, 1) := by decide +kernel
theorem dX7_isAsked_33 : decode cX7_isAsked 33 = .ok (.ireturn, 1) := by decide +kernel
theorem dX7_odds_0 : decode cX7_odds 0 = .ok (.aload_n 0, 1) := by decide +kernel
theorem dX7_odds_1 : decode cX7_odds 1 = .ok (.iload_n 1, 1) := by decide +kernel
theorem dX7_odds_2 : decode cX7_odds 2 = .ok (.iload_n 2, 1) := by decide +kernel
theorem dX7_odds_3 : decode cX7_odds 3 = .ok (.iload_n 3, 1) := by decide +kernel
theorem dX7_odds_4 : decode cX7_odds 4 = .ok (.invokevirtual 228, 3) := by decide +kernel
theorem dX7_odds_7 : decode cX7_odds 7 = .ok (.ifCond .eq 13, 3) := by decide +kernel
theorem dX7_odds_10 : decode cX7_odds 10 = .ok (.iload 4, 2) := by decide +kernel
theorem dX7_odds_12 : decode cX7_odds 12 = .ok (.iconst 0, 1) := by decide +kernel
theorem dX7_odds_13 : decode cX7_odds 13 = .ok (.iconst 1, 1) := by decide +kernel
theorem dX7_odds_14 : decode cX7_odds 14 = .ok (.invokestatic 88, 3) := by decide +kernel
theorem dX7_odds_17 : decode cX7_odds 17 = .ok (.ifCond .ne 7, 3) := by decide +kernel
theorem dX7_odds_20 : decode cX7_odds 20 = .ok (.ldc2_w 231, 3) := by decide +kernel
theorem dX7_odds_23 : decode cX7_odds 23 = .ok (.lreturn, 1) := by decide +kernel
theorem dX7_odds_24 : decode cX7_odds 24 = .ok (.aload_n 0, 1) := by decide +kernel
theorem dX7_odds_25 : decode cX7_odds 25 = .ok (.getfield 59, 3) := by decide +kernel
theorem dX7_odds_28 : decode cX7_odds 28 = .ok (.bipush 21, 2) := by decide +kernel
theorem dX7_odds_30 : decode cX7_odds 30 = .ok (.iload_n 1, 1) := by decide +kernel
theorem dX7_odds_31 : decode cX7_odds 31 = .ok (.iadd, 1) := by decide +kernel
theorem dX7_odds_32 : decode cX7_odds 32 = .ok (.iaload, 1) := by decide +kernel
theorem dX7_odds_33 : decode cX7_odds 33 = .ok (.iconst 1, 1) := by decide +kernel
theorem dX7_odds_34 : decode cX7_odds 34 = .ok (.if_icmp .ne 7, 3) := by decide +kernel
theorem dX7_odds_37 : decode cX7_odds 37 = .ok (.ldc2_w 233, 3) := by decide +kernel
theorem dX7_odds_40 : decode cX7_odds 40 = .ok (.lreturn, 1) := by decide +kernel
theorem dX7_odds_41 : decode cX7_odds 41 = .ok (.aload_n 0, 1) := by decide +kernel
theorem dX7_odds_42 : decode cX7_odds 42 = .ok (.iload_n 1, 1) := by decide +kernel
theorem dX7_odds_43 : decode cX7_odds 43 = .ok (.iload_n 2, 1) := by decide +kernel
theorem dX7_odds_44 : decode cX7_odds 44 = .ok (.iload_n 3, 1) := by decide +kernel
theorem dX7_odds_45 : decode cX7_odds 45 = .ok (.iconst 0, 1) := by decide +kernel
theorem dX7_odds_46 : decode cX7_odds 46 = .ok (.invokevirtual 235, 3) := by decide +kernel
theorem dX7_odds_49 : decode cX7_odds 49 = .ok (.aload_n 0, 1) := by decide +kernel
theorem dX7_odds_50 : decode cX7_odds 50 = .ok (.getfield 225, 3) := by decide +kernel
theorem dX7_odds_53 : decode cX7_odds 53 = .ok (.lstore 5, 2) := by decide +kernel
theorem dX7_odds_55 : decode cX7_odds 55 = .ok (.aload_n 0, 1) := by decide +kernel
theorem dX7_odds_56 : decode cX7_odds 56 = .ok (.getfield 219, 3) := by decide +kernel
theorem dX7_odds_59 : decode cX7_odds 59 = .ok (.lstore 7, 2) := by decide +kernel
theorem dX7_odds_61 : decode cX7_odds 61 = .ok (.lload 7, 2) := by decide +kernel
theorem dX7_odds_63 : decode cX7_odds 63 = .ok (.lconst 0, 1) := by decide +kernel
theorem dX7_odds_64 : decode cX7_odds 64 = .ok (.lcmp, 1) := by decide +kernel
theorem dX7_odds_65 : decode cX7_odds 65 = .ok (.ifCond .eq 21, 3) := by decide +kernel
theorem dX7_odds_68 : decode cX7_odds 68 = .ok (.lload 5, 2) := by decide +kernel
theorem dX7_odds_70 : decode cX7_odds 70 = .ok (.lload 7, 2) := by decide +kernel
theorem dX7_odds_72 : decode cX7_odds 72 = .ok (.lrem, 1) := by decide +kernel
theorem dX7_odds_73 : decode cX7_odds 73 = .ok (.lstore 9, 2) := by decide +kernel
theorem dX7_odds_75 : decode cX7_odds 75 = .ok (.lload 7, 2) := by decide +kernel
theorem dX7_odds_77 : decode cX7_odds 77 = .ok (.lstore 5, 2) := by decide +kernel
theorem dX7_odds_79 : decode cX7_odds 79 = .ok (.lload 9, 2) := by decide +kernel
theorem dX7_odds_81 : decode cX7_odds 81 = .ok (.lstore 7, 2) := by decide +kernel
theorem dX7_odds_83 : decode cX7_odds 83 = .ok (.goto (-22), 3) := by decide +kernel
theorem dX7_odds_86 : decode cX7_odds 86 = .ok (.iload 4, 2) := by decide +kernel
theorem dX7_odds_88 : decode cX7_odds 88 = .ok (.ifCond .ne 13, 3) := by decide +kernel
theorem dX7_odds_91 : decode cX7_odds 91 = .ok (.aload_n 0, 1) := by decide +kernel
theorem dX7_odds_92 : decode cX7_odds 92 = .ok (.getfield 225, 3) := by decide +kernel
theorem dX7_odds_95 : decode cX7_odds 95 = .ok (.lload 5, 2) := by decide +kernel
theorem dX7_odds_97 : decode cX7_odds 97 = .ok (.ldiv, 1) := by decide +kernel
theorem dX7_odds_98 : decode cX7_odds 98 = .ok (.goto 10, 3) := by decide +kernel
theorem dX7_odds_101 : decode cX7_odds 101 = .ok (.aload_n 0, 1) := by decide +kernel
theorem dX7_odds_102 : decode cX7_odds 102 = .ok (.getfield 219, 3) := by decide +kernel
theorem dX7_odds_105 : decode cX7_odds 105 = .ok (.lload 5, 2) := by decide +kernel
theorem dX7_odds_107 : decode cX7_odds 107 = .ok (.ldiv, 1) := by decide +kernel
theorem dX7_odds_108 : decode cX7_odds 108 = .ok (.lreturn, 1) := by decide +kernel
theorem dX7_keepAhead_0 : decode cX7_keepAhead 0 = .ok (.aload_n 0, 1) := by decide +kernel
theorem dX7_keepAhead_1 : decode cX7_keepAhead 1 = .ok (.iload_n 1, 1) := by decide +kernel
theorem dX7_keepAhead_2 : decode cX7_keepAhead 2 = .ok (.iload_n 2, 1) := by decide +kernel
theorem dX7_keepAhead_3 : decode cX7_keepAhead 3 = .ok (.iload_n 3, 1) := by decide +kernel
theorem dX7_keepAhead_4 : decode cX7_keepAhead 4 = .ok (.invokevirtual 228, 3) := by decide +kernel
theorem dX7_keepAhead_7 : decode cX7_keepAhead 7 = .ok (.ifCond .eq 14, 3) := by decide +kernel
theorem dX7_keepAhead_10 : decode cX7_keepAhead 10 = .ok (.iload 4, 2) := by decide +kernel
theorem dX7_keepAhead_12 : decode cX7_keepAhead 12 = .ok (.iconst 0, 1) := by decide +kernel
theorem dX7_keepAhead_13 : decode cX7_keepAhead 13 = .ok (.bipush 10, 2) := by decide +kernel
theorem dX7_keepAhead_15 : decode cX7_keepAhead 15 = .ok (.invokestatic 88, 3) := by decide +kernel
theorem dX7_keepAhead_18 : decode cX7_keepAhead 18 = .ok (.ifCond .ne 5, 3) := by decide +kernel
theorem dX7_keepAhead_21 : decode cX7_keepAhead 21 = .ok (.iconst (-1), 1) := by decide +kernel
theorem dX7_keepAhead_22 : decode cX7_keepAhead 22 = .ok (.ireturn, 1) := by decide +kernel
theorem dX7_keepAhead_23 : decode cX7_keepAhead 23 = .ok (.aload_n 0, 1) := by decide +kernel
theorem dX7_keepAhead_24 : decode cX7_keepAhead 24 = .ok (.getfield 59, 3) := by decide +kernel
theorem dX7_keepAhead_27 : decode cX7_keepAhead 27 = .ok (.bipush 21, 2) := by decide +kernel
theorem dX7_keepAhead_29 : decode cX7_keepAhead 29 = .ok (.iload_n 1, 1) := by decide +kernel
theorem dX7_keepAhead_30 : decode cX7_keepAhead 30 = .ok (.iadd, 1) := by decide +kernel
theorem dX7_keepAhead_31 : decode cX7_keepAhead 31 = .ok (.iaload, 1) := by decide +kernel
theorem dX7_keepAhead_32 : decode cX7_keepAhead 32 = .ok (.iconst 1, 1) := by decide +kernel
theorem dX7_keepAhead_33 : decode cX7_keepAhead 33 = .ok (.if_icmp .ne 6, 3) := by decide +kernel
theorem dX7_keepAhead_36 : decode cX7_keepAhead 36 = .ok (.bipush (-2), 2) := by decide +kernel
theorem dX7_keepAhead_38 : decode cX7_keepAhead 38 = .ok (.ireturn, 1) := by decide +kernel
theorem dX7_keepAhead_39 : decode cX7_keepAhead 39 = .ok (.bipush 20, 2) := by decide +kernel
theorem dX7_keepAhead_41 : decode cX7_keepAhead 41 = .ok (.istore 5, 2) := by decide +kernel
theorem dX7_keepAhead_43 : decode cX7_keepAhead 43 = .ok (.iload 5, 2) := by decide +kernel
theorem dX7_keepAhead_45 : decode cX7_keepAhead 45 = .ok (.ifCond .lt 41, 3) := by decide +kernel
theorem dX7_keepAhead_48 : decode cX7_keepAhead 48 = .ok (.aload_n 0, 1) := by decide +kernel
theorem dX7_keepAhead_49 : decode cX7_keepAhead 49 = .ok (.iload_n 1, 1) := by decide +kernel
theorem dX7_keepAhead_50 : decode cX7_keepAhead 50 = .ok (.iload_n 2, 1) := by decide +kernel
theorem dX7_keepAhead_51 : decode cX7_keepAhead 51 = .ok (.iload_n 3, 1) := by decide +kernel
theorem dX7_keepAhead_52 : decode cX7_keepAhead 52 = .ok (.iload 5, 2) := by decide +kernel
theorem dX7_keepAhead_54 : decode cX7_keepAhead 54 = .ok (.invokevirtual 235, 3) := by decide +kernel
theorem dX7_keepAhead_57 : decode cX7_keepAhead 57 = .ok (.ldc2_w 223, 3) := by decide +kernel
theorem dX7_keepAhead_60 : decode cX7_keepAhead 60 = .ok (.aload_n 0, 1) := by decide +kernel
theorem dX7_keepAhead_61 : decode cX7_keepAhead 61 = .ok (.getfield 225, 3) := by decide +kernel
theorem dX7_keepAhead_64 : decode cX7_keepAhead 64 = .ok (.lmul, 1) := by decide +kernel
theorem dX7_keepAhead_65 : decode cX7_keepAhead 65 = .ok (.iload 4, 2) := by decide +kernel
theorem dX7_keepAhead_67 : decode cX7_keepAhead 67 = .ok (.i2l, 1) := by decide +kernel
theorem dX7_keepAhead_68 : decode cX7_keepAhead 68 = .ok (.aload_n 0, 1) := by decide +kernel
theorem dX7_keepAhead_69 : decode cX7_keepAhead 69 = .ok (.getfield 219, 3) := by decide +kernel
theorem dX7_keepAhead_72 : decode cX7_keepAhead 72 = .ok (.lmul, 1) := by decide +kernel
theorem dX7_keepAhead_73 : decode cX7_keepAhead 73 = .ok (.lcmp, 1) := by decide +kernel
theorem dX7_keepAhead_74 : decode cX7_keepAhead 74 = .ok (.ifCond .lt 6, 3) := by decide +kernel
theorem dX7_keepAhead_77 : decode cX7_keepAhead 77 = .ok (.iload 5, 2) := by decide +kernel
theorem dX7_keepAhead_79 : decode cX7_keepAhead 79 = .ok (.ireturn, 1) := by decide +kernel
theorem dX7_keepAhead_80 : decode cX7_keepAhead 80 = .ok (.iinc 5 (-1), 3) := by decide +kernel
theorem dX7_keepAhead_83 : decode cX7_keepAhead 83 = .ok (.goto (-40), 3) := by decide +kernel
theorem dX7_keepAhead_86 : decode cX7_keepAhead 86 = .ok (.bipush (-9), 2) := by decide +kernel
theorem dX7_keepAhead_88 : decode cX7_keepAhead 88 = .ok (.ireturn, 1) := by decide +kernel
theorem dX7_mark_0 : decode cX7_mark 0 = .ok (.iload_n 1, 1) := by decide +kernel
theorem dX7_mark_1 : decode cX7_mark 1 = .ok (.iconst 0, 1) := by decide +kernel
theorem dX7_mark_2 : decode cX7_mark 2 = .ok (.iconst 5, 1) := by decide +kernel
theorem dX7_mark_3 : decode cX7_mark 3 = .ok (.invokestatic 88, 3) := by decide +kernel
theorem dX7_mark_6 : decode cX7_mark 6 = .ok (.ifCond .eq 11, 3) := by decide +kernel
theorem dX7_mark_9 : decode cX7_mark 9 = .ok (.aload_n 0, 1) := by decide +kernel
theorem dX7_mark_10 : decode cX7_mark 10 = .ok (.iload_n 2, 1) := by decide +kernel
theorem dX7_mark_11 : decode cX7_mark 11 = .ok (.invokevirtual 170, 3) := by decide +kernel
theorem dX7_mark_14 : decode cX7_mark 14 = .ok (.ifCond .ne 6, 3) := by decide +kernel
theorem dX7_mark_17 : decode cX7_mark 17 = .ok (.ldc 176, 2) := by decide +kernel
theorem dX7_mark_19 : decode cX7_mark 19 = .ok (.ireturn, 1) := by decide +kernel
theorem dX7_mark_20 : decode cX7_mark 20 = .ok (.aload_n 0, 1) := by decide +kernel
theorem dX7_mark_21 : decode cX7_mark 21 = .ok (.getfield 59, 3) := by decide +kernel
theorem dX7_mark_24 : decode cX7_mark 24 = .ok (.iconst 1, 1) := by decide +kernel
theorem dX7_mark_25 : decode cX7_mark 25 = .ok (.iload_n 2, 1) := by decide +kernel
theorem dX7_mark_26 : decode cX7_mark 26 = .ok (.iadd, 1) := by decide +kernel
theorem dX7_mark_27 : decode cX7_mark 27 = .ok (.iaload, 1) := by decide +kernel
theorem dX7_mark_28 : decode cX7_mark 28 = .ok (.istore_n 3, 1) := by decide +kernel
theorem dX7_mark_29 : decode cX7_mark 29 = .ok (.iload_n 1, 1) := by decide +kernel
theorem dX7_mark_30 : decode cX7_mark 30 = .ok (.tableswitch 148 0 4 #[34, 46, 70, 91, 117], 34) := by decide +kernel
theorem dX7_mark_64 : decode cX7_mark 64 = .ok (.aload_n 0, 1) := by decide +kernel
theorem dX7_mark_65 : decode cX7_mark 65 = .ok (.dup, 1) := by decide +kernel
theorem dX7_mark_66 : decode cX7_mark 66 = .ok (.getfield 239, 3) := by decide +kernel
theorem dX7_mark_69 : decode cX7_mark 69 = .ok (.lconst 1, 1) := by decide +kernel
theorem dX7_mark_70 : decode cX7_mark 70 = .ok (.ladd, 1) := by decide +kernel
theorem dX7_mark_71 : decode cX7_mark 71 = .ok (.putfield 239, 3) := by decide +kernel
theorem dX7_mark_74 : decode cX7_mark 74 = .ok (.iload_n 3, 1) := by decide +kernel
theorem dX7_mark_75 : decode cX7_mark 75 = .ok (.ireturn, 1) := by decide +kernel
theorem dX7_mark_76 : decode cX7_mark 76 = .ok (.aload_n 0, 1) := by decide +kernel
theorem dX7_mark_77 : decode cX7_mark 77 = .ok (.dup, 1) := by decide +kernel
theorem dX7_mark_78 : decode cX7_mark 78 = .ok (.getfield 239, 3) := by decide +kernel
theorem dX7_mark_81 : decode cX7_mark 81 = .ok (.ldc2_w 242, 3) := by decide +kernel
theorem dX7_mark_84 : decode cX7_mark 84 = .ok (.ladd, 1) := by decide +kernel
theorem dX7_mark_85 : decode cX7_mark 85 = .ok (.putfield 239, 3) := by decide +kernel
theorem dX7_mark_88 : decode cX7_mark 88 = .ok (.iload_n 3, 1) := by decide +kernel
theorem dX7_mark_89 : decode cX7_mark 89 = .ok (.aload_n 0, 1) := by decide +kernel
theorem dX7_mark_90 : decode cX7_mark 90 = .ok (.getfield 59, 3) := by decide +kernel
theorem dX7_mark_93 : decode cX7_mark 93 = .ok (.bipush 16, 2) := by decide +kernel
theorem dX7_mark_95 : decode cX7_mark 95 = .ok (.iload_n 2, 1) := by decide +kernel
theorem dX7_mark_96 : decode cX7_mark 96 = .ok (.iadd, 1) := by decide +kernel
theorem dX7_mark_97 : decode cX7_mark 97 = .ok (.iaload, 1) := by decide +kernel
theorem dX7_mark_98 : decode cX7_mark 98 = .ok (.iadd, 1) := by decide +kernel
theorem dX7_mark_99 : decode cX7_mark 99 = .ok (.ireturn, 1) := by decide +kernel
theorem dX7_mark_100 : decode cX7_mark 100 = .ok (.aload_n 0, 1) := by decide +kernel
theorem dX7_mark_101 : decode cX7_mark 101 = .ok (.dup, 1) := by decide +kernel
theorem dX7_mark_102 : decode cX7_mark 102 = .ok (.getfield 239, 3) := by decide +kernel
theorem dX7_mark_105 : decode cX7_mark 105 = .ok (.ldc2_w 244, 3) := by decide +kernel
theorem dX7_mark_108 : decode cX7_mark 108 = .ok (.ladd, 1) := by decide +kernel
theorem dX7_mark_109 : decode cX7_mark 109 = .ok (.putfield 239, 3) := by decide +kernel
theorem dX7_mark_112 : decode cX7_mark 112 = .ok (.iload_n 3, 1) := by decide +kernel
theorem dX7_mark_113 : decode cX7_mark 113 = .ok (.aload_n 0, 1) := by decide +kernel
theorem dX7_mark_114 : decode cX7_mark 114 = .ok (.getfield 56, 3) := by decide +kernel
theorem dX7_mark_117 : decode cX7_mark 117 = .ok (.iload_n 2, 1) := by decide +kernel
theorem dX7_mark_118 : decode cX7_mark 118 = .ok (.iaload, 1) := by decide +kernel
theorem dX7_mark_119 : decode cX7_mark 119 = .ok (.isub, 1) := by decide +kernel
theorem dX7_mark_120 : decode cX7_mark 120 = .ok (.ireturn, 1) := by decide +kernel
theorem dX7_mark_121 : decode cX7_mark 121 = .ok (.aload_n 0, 1) := by decide +kernel
theorem dX7_mark_122 : decode cX7_mark 122 = .ok (.dup, 1) := by decide +kernel
theorem dX7_mark_123 : decode cX7_mark 123 = .ok (.getfield 239, 3) := by decide +kernel
theorem dX7_mark_126 : decode cX7_mark 126 = .ok (.ldc2_w 246, 3) := by decide +kernel
theorem dX7_mark_129 : decode cX7_mark 129 = .ok (.ladd, 1) := by decide +kernel
theorem dX7_mark_130 : decode cX7_mark 130 = .ok (.putfield 239, 3) := by decide +kernel
theorem dX7_mark_133 : decode cX7_mark 133 = .ok (.iconst 2, 1) := by decide +kernel
theorem dX7_mark_134 : decode cX7_mark 134 = .ok (.iload_n 3, 1) := by decide +kernel
theorem dX7_mark_135 : decode cX7_mark 135 = .ok (.aload_n 0, 1) := by decide +kernel
theorem dX7_mark_136 : decode cX7_mark 136 = .ok (.getfield 59, 3) := by decide +kernel
theorem dX7_mark_139 : decode cX7_mark 139 = .ok (.bipush 16, 2) := by decide +kernel
theorem dX7_mark_141 : decode cX7_mark 141 = .ok (.iload_n 2, 1) := by decide +kernel
theorem dX7_mark_142 : decode cX7_mark 142 = .ok (.iadd, 1) := by decide +kernel
theorem dX7_mark_143 : decode cX7_mark 143 = .ok (.iaload, 1) := by decide +kernel
theorem dX7_mark_144 : decode cX7_mark 144 = .ok (.iadd, 1) := by decide +kernel
theorem dX7_mark_145 : decode cX7_mark 145 = .ok (.imul, 1) := by decide +kernel
theorem dX7_mark_146 : decode cX7_mark 146 = .ok (.ireturn, 1) := by decide +kernel
theorem dX7_mark_147 : decode cX7_mark 147 = .ok (.aload_n 0, 1) := by decide +kernel
theorem dX7_mark_148 : decode cX7_mark 148 = .ok (.dup, 1) := by decide +kernel
theorem dX7_mark_149 : decode cX7_mark 149 = .ok (.getfield 239, 3) := by decide +kernel
theorem dX7_mark_152 : decode cX7_mark 152 = .ok (.ldc2_w 248, 3) := by decide +kernel
theorem dX7_mark_155 : decode cX7_mark 155 = .ok (.ladd, 1) := by decide +kernel
theorem dX7_mark_156 : decode cX7_mark 156 = .ok (.putfield 239, 3) := by decide +kernel
theorem dX7_mark_159 : decode cX7_mark 159 = .ok (.iload_n 3, 1) := by decide +kernel
theorem dX7_mark_160 : decode cX7_mark 160 = .ok (.aload_n 0, 1) := by decide +kernel
theorem dX7_mark_161 : decode cX7_mark 161 = .ok (.getfield 56, 3) := by decide +kernel
theorem dX7_mark_164 : decode cX7_mark 164 = .ok (.iload_n 2, 1) := by decide +kernel
theorem dX7_mark_165 : decode cX7_mark 165 = .ok (.iaload, 1) := by decide +kernel
theorem dX7_mark_166 : decode cX7_mark 166 = .ok (.isub, 1) := by decide +kernel
theorem dX7_mark_167 : decode cX7_mark 167 = .ok (.aload_n 0, 1) := by decide +kernel
theorem dX7_mark_168 : decode cX7_mark 168 = .ok (.getfield 59, 3) := by decide +kernel
theorem dX7_mark_171 : decode cX7_mark 171 = .ok (.bipush 26, 2) := by decide +kernel
theorem dX7_mark_173 : decode cX7_mark 173 = .ok (.iload_n 2, 1) := by decide +kernel
theorem dX7_mark_174 : decode cX7_mark 174 = .ok (.iadd, 1) := by decide +kernel
theorem dX7_mark_175 : decode cX7_mark 175 = .ok (.iaload, 1) := by decide +kernel
theorem dX7_mark_176 : decode cX7_mark 176 = .ok (.iadd, 1) := by decide +kernel
theorem dX7_mark_177 : decode cX7_mark 177 = .ok (.ireturn, 1) := by decide +kernel
theorem dX7_mark_178 : decode cX7_mark 178 = .ok (.aload_n 0, 1) := by decide +kernel
theorem dX7_mark_179 : decode cX7_mark 179 = .ok (.dup, 1) := by decide +kernel
theorem dX7_mark_180 : decode cX7_mark 180 = .ok (.getfield 239, 3) := by decide +kernel
theorem dX7_mark_183 : decode cX7_mark 183 = .ok (.ldc2_w 250, 3) := by decide +kernel
theorem dX7_mark_186 : decode cX7_mark 186 = .ok (.ladd, 1) := by decide +kernel
theorem dX7_mark_187 : decode cX7_mark 187 = .ok (.putfield 239, 3) := by decide +kernel
theorem dX7_mark_190 : decode cX7_mark 190 = .ok (.iload_n 3, 1) := by decide +kernel
theorem dX7_mark_191 : decode cX7_mark 191 = .ok (.iload_n 3, 1) := by decide +kernel
theorem dX7_mark_192 : decode cX7_mark 192 = .ok (.iadd, 1) := by decide +kernel
theorem dX7_mark_193 : decode cX7_mark 193 = .ok (.aload_n 0, 1) := by decide +kernel
theorem dX7_mark_194 : decode cX7_mark 194 = .ok (.aload_n 0, 1) := by decide +kernel
theorem dX7_mark_195 : decode cX7_mark 195 = .ok (.getfield 59, 3) := by decide +kernel
theorem dX7_mark_198 : decode cX7_mark 198 = .ok (.iconst 0, 1) := by decide +kernel
theorem dX7_mark_199 : decode cX7_mark 199 = .ok (.iaload, 1) := by decide +kernel
theorem dX7_mark_200 : decode cX7_mark 200 = .ok (.invokevirtual 173, 3) := by decide +kernel
theorem dX7_mark_203 : decode cX7_mark 203 = .ok (.isub, 1) := by decide +kernel
theorem dX7_mark_204 : decode cX7_mark 204 = .ok (.ireturn, 1) := by decide +kernel
theorem dX7_copy_0 : decode cX7_copy 0 = .ok (.iconst 0, 1) := by decide +kernel
theorem dX7_copy_1 : decode cX7_copy 1 = .ok (.istore_n 3, 1) := by decide +kernel
theorem dX7_copy_2 : decode cX7_copy 2 = .ok (.iload_n 3, 1) := by decide +kernel
theorem dX7_copy_3 : decode cX7_copy 3 = .ok (.sipush 342, 3) := by decide +kernel
theorem dX7_copy_6 : decode cX7_copy 6 = .ok (.if_icmp .ge 25, 3) := by decide +kernel
theorem dX7_copy_9 : decode cX7_copy 9 = .ok (.aload_n 0, 1) := by decide +kernel
theorem dX7_copy_10 : decode cX7_copy 10 = .ok (.getfield 59, 3) := by decide +kernel
theorem dX7_copy_13 : decode cX7_copy 13 = .ok (.iload_n 2, 1) := by decide +kernel
theorem dX7_copy_14 : decode cX7_copy 14 = .ok (.iload_n 3, 1) := by decide +kernel
theorem dX7_copy_15 : decode cX7_copy 15 = .ok (.iadd, 1) := by decide +kernel
theorem dX7_copy_16 : decode cX7_copy 16 = .ok (.aload_n 0, 1) := by decide +kernel
theorem dX7_copy_17 : decode cX7_copy 17 = .ok (.getfield 59, 3) := by decide +kernel
theorem dX7_copy_20 : decode cX7_copy 20 = .ok (.iload_n 1, 1) := by decide +kernel
theorem dX7_copy_21 : decode cX7_copy 21 = .ok (.iload_n 3, 1) := by decide +kernel
theorem dX7_copy_22 : decode cX7_copy 22 = .ok (.iadd, 1) := by decide +kernel
theorem dX7_copy_23 : decode cX7_copy 23 = .ok (.iaload, 1) := by decide +kernel
theorem dX7_copy_24 : decode cX7_copy 24 = .ok (.iastore, 1) := by decide +kernel
theorem dX7_copy_25 : decode cX7_copy 25 = .ok (.iinc 3 1, 3) := by decide +kernel
theorem dX7_copy_28 : decode cX7_copy 28 = .ok (.goto (-26), 3) := by decide +kernel
theorem dX7_copy_31 : decode cX7_copy 31 = .ok (.return_, 1) := by decide +kernel
theorem dX7_keep_0 : decode cX7_keep 0 = .ok (.iload_n 1, 1) := by decide +kernel
theorem dX7_keep_1 : decode cX7_keep 1 = .ok (.iconst 0, 1) := by decide +kernel
theorem dX7_keep_2 : decode cX7_keep 2 = .ok (.iconst 1, 1) := by decide +kernel
theorem dX7_keep_3 : decode cX7_keep 3 = .ok (.invokestatic 88, 3) := by decide +kernel
theorem dX7_keep_6 : decode cX7_keep 6 = .ok (.ifCond .ne 5, 3) := by decide +kernel
theorem dX7_keep_9 : decode cX7_keep 9 = .ok (.iconst (-1), 1) := by decide +kernel
theorem dX7_keep_10 : decode cX7_keep 10 = .ok (.ireturn, 1) := by decide +kernel
theorem dX7_keep_11 : decode cX7_keep 11 = .ok (.aload_n 0, 1) := by decide +kernel
theorem dX7_keep_12 : decode cX7_keep 12 = .ok (.iconst 0, 1) := by decide +kernel
theorem dX7_keep_13 : decode cX7_keep 13 = .ok (.sipush 342, 3) := by decide +kernel
theorem dX7_keep_16 : decode cX7_keep 16 = .ok (.iconst 1, 1) := by decide +kernel
theorem dX7_keep_17 : decode cX7_keep 17 = .ok (.iload_n 1, 1) := by decide +kernel
theorem dX7_keep_18 : decode cX7_keep 18 = .ok (.iadd, 1) := by decide +kernel
theorem dX7_keep_19 : decode cX7_keep 19 = .ok (.imul, 1) := by decide +kernel
theorem dX7_keep_20 : decode cX7_keep 20 = .ok (.invokevirtual 252, 3) := by decide +kernel
theorem dX7_keep_23 : decode cX7_keep 23 = .ok (.aload_n 0, 1) := by decide +kernel
theorem dX7_keep_24 : decode cX7_keep 24 = .ok (.getfield 65, 3) := by decide +kernel
theorem dX7_keep_27 : decode cX7_keep 27 = .ok (.iload_n 1, 1) := by decide +kernel
theorem dX7_keep_28 : decode cX7_keep 28 = .ok (.iconst 1, 1) := by decide +kernel
theorem dX7_keep_29 : decode cX7_keep 29 = .ok (.bastore, 1) := by decide +kernel
theorem dX7_keep_30 : decode cX7_keep 30 = .ok (.aload_n 0, 1) := by decide +kernel
theorem dX7_keep_31 : decode cX7_keep 31 = .ok (.getfield 59, 3) := by decide +kernel
theorem dX7_keep_34 : decode cX7_keep 34 = .ok (.iconst 0, 1) := by decide +kernel
theorem dX7_keep_35 : decode cX7_keep 35 = .ok (.iaload, 1) := by decide +kernel
theorem dX7_keep_36 : decode cX7_keep 36 = .ok (.ireturn, 1) := by decide +kernel
theorem dX7_back_0 : decode cX7_back 0 = .ok (.iload_n 1, 1) := by decide +kernel
theorem dX7_back_1 : decode cX7_back 1 = .ok (.iconst 0, 1) := by decide +kernel
theorem dX7_back_2 : decode cX7_back 2 = .ok (.iconst 1, 1) := by decide +kernel
theorem dX7_back_3 : decode cX7_back 3 = .ok (.invokestatic 88, 3) := by decide +kernel
theorem dX7_back_6 : decode cX7_back 6 = .ok (.ifCond .ne 5, 3) := by decide +kernel
theorem dX7_back_9 : decode cX7_back 9 = .ok (.iconst (-1), 1) := by decide +kernel
theorem dX7_back_10 : decode cX7_back 10 = .ok (.ireturn, 1) := by decide +kernel
theorem dX7_back_11 : decode cX7_back 11 = .ok (.aload_n 0, 1) := by decide +kernel
theorem dX7_back_12 : decode cX7_back 12 = .ok (.getfield 65, 3) := by decide +kernel
theorem dX7_back_15 : decode cX7_back 15 = .ok (.iload_n 1, 1) := by decide +kernel
theorem dX7_back_16 : decode cX7_back 16 = .ok (.baload, 1) := by decide +kernel
theorem dX7_back_17 : decode cX7_back 17 = .ok (.ifCond .ne 6, 3) := by decide +kernel
theorem dX7_back_20 : decode cX7_back 20 = .ok (.bipush (-2), 2) := by decide +kernel
theorem dX7_back_22 : decode cX7_back 22 = .ok (.ireturn, 1) := by decide +kernel
theorem dX7_back_23 : decode cX7_back 23 = .ok (.aload_n 0, 1) := by decide +kernel
theorem dX7_back_24 : decode cX7_back 24 = .ok (.sipush 342, 3) := by decide +kernel
theorem dX7_back_27 : decode cX7_back 27 = .ok (.iconst 1, 1) := by decide +kernel
theorem dX7_back_28 : decode cX7_back 28 = .ok (.iload_n 1, 1) := by decide +kernel
theorem dX7_back_29 : decode cX7_back 29 = .ok (.iadd, 1) := by decide +kernel
theorem dX7_back_30 : decode cX7_back 30 = .ok (.imul, 1) := by decide +kernel
theorem dX7_back_31 : decode cX7_back 31 = .ok (.iconst 0, 1) := by decide +kernel
theorem dX7_back_32 : decode cX7_back 32 = .ok (.invokevirtual 252, 3) := by decide +kernel
theorem dX7_back_35 : decode cX7_back 35 = .ok (.aload_n 0, 1) := by decide +kernel
theorem dX7_back_36 : decode cX7_back 36 = .ok (.getfield 59, 3) := by decide +kernel
theorem dX7_back_39 : decode cX7_back 39 = .ok (.iconst 0, 1) := by decide +kernel
theorem dX7_back_40 : decode cX7_back 40 = .ok (.iaload, 1) := by decide +kernel
theorem dX7_back_41 : decode cX7_back 41 = .ok (.ireturn, 1) := by decide +kernel
theorem dX7_count_0 : decode cX7_count 0 = .ok (.iconst 0, 1) := by decide +kernel
theorem dX7_count_1 : decode cX7_count 1 = .ok (.istore_n 2, 1) := by decide +kernel
theorem dX7_count_2 : decode cX7_count 2 = .ok (.iconst 0, 1) := by decide +kernel
theorem dX7_count_3 : decode cX7_count 3 = .ok (.istore_n 3, 1) := by decide +kernel
theorem dX7_count_4 : decode cX7_count 4 = .ok (.iload_n 3, 1) := by decide +kernel
theorem dX7_count_5 : decode cX7_count 5 = .ok (.bipush 12, 2) := by decide +kernel
theorem dX7_count_7 : decode cX7_count 7 = .ok (.if_icmp .ge 22, 3) := by decide +kernel
theorem dX7_count_10 : decode cX7_count 10 = .ok (.iload_n 2, 1) := by decide +kernel
theorem dX7_count_11 : decode cX7_count 11 = .ok (.aload_n 0, 1) := by decide +kernel
theorem dX7_count_12 : decode cX7_count 12 = .ok (.getfield 26, 3) := by decide +kernel
theorem dX7_count_15 : decode cX7_count 15 = .ok (.iconst 0, 1) := by decide +kernel
theorem dX7_count_16 : decode cX7_count 16 = .ok (.iaload, 1) := by decide +kernel
theorem dX7_count_17 : decode cX7_count 17 = .ok (.iload_n 3, 1) := by decide +kernel
theorem dX7_count_18 : decode cX7_count 18 = .ok (.ishr, 1) := by decide +kernel
theorem dX7_count_19 : decode cX7_count 19 = .ok (.iconst 1, 1) := by decide +kernel
theorem dX7_count_20 : decode cX7_count 20 = .ok (.iand, 1) := by decide +kernel
theorem dX7_count_21 : decode cX7_count 21 = .ok (.iadd, 1) := by decide +kernel
theorem dX7_count_22 : decode cX7_count 22 = .ok (.istore_n 2, 1) := by decide +kernel
theorem dX7_count_23 : decode cX7_count 23 = .ok (.iinc 3 1, 3) := by decide +kernel
theorem dX7_count_26 : decode cX7_count 26 = .ok (.goto (-22), 3) := by decide +kernel
theorem dX7_count_29 : decode cX7_count 29 = .ok (.iload_n 1, 1) := by decide +kernel
theorem dX7_count_30 : decode cX7_count 30 = .ok (.tableswitch 63 0 4 #[34, 41, 48, 50, 58], 34) := by decide +kernel
theorem dX7_count_64 : decode cX7_count 64 = .ok (.aload_n 0, 1) := by decide +kernel
theorem dX7_count_65 : decode cX7_count 65 = .ok (.getfield 29, 3) := by decide +kernel
theorem dX7_count_68 : decode cX7_count 68 = .ok (.iconst 0, 1) := by decide +kernel
theorem dX7_count_69 : decode cX7_count 69 = .ok (.iaload, 1) := by decide +kernel
theorem dX7_count_70 : decode cX7_count 70 = .ok (.ireturn, 1) := by decide +kernel
theorem dX7_count_71 : decode cX7_count 71 = .ok (.aload_n 0, 1) := by decide +kernel
theorem dX7_count_72 : decode cX7_count 72 = .ok (.getfield 32, 3) := by decide +kernel
theorem dX7_count_75 : decode cX7_count 75 = .ok (.iconst 0, 1) := by decide +kernel
theorem dX7_count_76 : decode cX7_count 76 = .ok (.iaload, 1) := by decide +kernel
theorem dX7_count_77 : decode cX7_count 77 = .ok (.ireturn, 1) := by decide +kernel
theorem dX7_count_78 : decode cX7_count 78 = .ok (.iload_n 2, 1) := by decide +kernel
theorem dX7_count_79 : decode cX7_count 79 = .ok (.ireturn, 1) := by decide +kernel
theorem dX7_count_80 : decode cX7_count 80 = .ok (.aload_n 0, 1) := by decide +kernel
theorem dX7_count_81 : decode cX7_count 81 = .ok (.getfield 59, 3) := by decide +kernel
theorem dX7_count_84 : decode cX7_count 84 = .ok (.bipush 31, 2) := by decide +kernel
theorem dX7_count_86 : decode cX7_count 86 = .ok (.iaload, 1) := by decide +kernel
theorem dX7_count_87 : decode cX7_count 87 = .ok (.ireturn, 1) := by decide +kernel
theorem dX7_count_88 : decode cX7_count 88 = .ok (.aload_n 0, 1) := by decide +kernel
theorem dX7_count_89 : decode cX7_count 89 = .ok (.getfield 92, 3) := by decide +kernel
theorem dX7_count_92 : decode cX7_count 92 = .ok (.ireturn, 1) := by decide +kernel
theorem dX7_count_93 : decode cX7_count 93 = .ok (.iconst (-1), 1) := by decide +kernel
theorem dX7_count_94 : decode cX7_count 94 = .ok (.ireturn, 1) := by decide +kernel
theorem dX7_trace_0 : decode cX7_trace 0 = .ok (.aload_n 0, 1) := by decide +kernel
theorem dX7_trace_1 : decode cX7_trace 1 = .ok (.getfield 239, 3) := by decide +kernel
theorem dX7_trace_4 : decode cX7_trace 4 = .ok (.lreturn, 1) := by decide +kernel
theorem dJ6_bitCount_0f7a4_0 : decode cJ6_bitCount_0f7a4 0 = .ok (.iload_n 0, 1) := by decide +kernel
theorem dJ6_bitCount_0f7a4_1 : decode cJ6_bitCount_0f7a4 1 = .ok (.iload_n 0, 1) := by decide +kernel
theorem dJ6_bitCount_0f7a4_2 : decode cJ6_bitCount_0f7a4 2 = .ok (.iconst 1, 1) := by decide +kernel
theorem dJ6_bitCount_0f7a4_3 : decode cJ6_bitCount_0f7a4 3 = .ok (.iushr, 1) := by decide +kernel
theorem dJ6_bitCount_0f7a4_4 : decode cJ6_bitCount_0f7a4 4 = .ok (.ldc_w 265, 3) := by decide +kernel
theorem dJ6_bitCount_0f7a4_7 : decode cJ6_bitCount_0f7a4 7 = .ok (.iand, 1) := by decide +kernel
theorem dJ6_bitCount_0f7a4_8 : decode cJ6_bitCount_0f7a4 8 = .ok (.isub, 1) := by decide +kernel
theorem dJ6_bitCount_0f7a4_9 : decode cJ6_bitCount_0f7a4 9 = .ok (.istore_n 0, 1) := by decide +kernel
theorem dJ6_bitCount_0f7a4_10 : decode cJ6_bitCount_0f7a4 10 = .ok (.iload_n 0, 1) := by decide +kernel
theorem dJ6_bitCount_0f7a4_11 : decode cJ6_bitCount_0f7a4 11 = .ok (.ldc_w 266, 3) := by decide +kernel
theorem dJ6_bitCount_0f7a4_14 : decode cJ6_bitCount_0f7a4 14 = .ok (.iand, 1) := by decide +kernel
theorem dJ6_bitCount_0f7a4_15 : decode cJ6_bitCount_0f7a4 15 = .ok (.iload_n 0, 1) := by decide +kernel
theorem dJ6_bitCount_0f7a4_16 : decode cJ6_bitCount_0f7a4 16 = .ok (.iconst 2, 1) := by decide +kernel
theorem dJ6_bitCount_0f7a4_17 : decode cJ6_bitCount_0f7a4 17 = .ok (.iushr, 1) := by decide +kernel
theorem dJ6_bitCount_0f7a4_18 : decode cJ6_bitCount_0f7a4 18 = .ok (.ldc_w 266, 3) := by decide +kernel
theorem dJ6_bitCount_0f7a4_21 : decode cJ6_bitCount_0f7a4 21 = .ok (.iand, 1) := by decide +kernel
theorem dJ6_bitCount_0f7a4_22 : decode cJ6_bitCount_0f7a4 22 = .ok (.iadd, 1) := by decide +kernel
theorem dJ6_bitCount_0f7a4_23 : decode cJ6_bitCount_0f7a4 23 = .ok (.istore_n 0, 1) := by decide +kernel
theorem dJ6_bitCount_0f7a4_24 : decode cJ6_bitCount_0f7a4 24 = .ok (.iload_n 0, 1) := by decide +kernel
theorem dJ6_bitCount_0f7a4_25 : decode cJ6_bitCount_0f7a4 25 = .ok (.iload_n 0, 1) := by decide +kernel
theorem dJ6_bitCount_0f7a4_26 : decode cJ6_bitCount_0f7a4 26 = .ok (.iconst 4, 1) := by decide +kernel
theorem dJ6_bitCount_0f7a4_27 : decode cJ6_bitCount_0f7a4 27 = .ok (.iushr, 1) := by decide +kernel
theorem dJ6_bitCount_0f7a4_28 : decode cJ6_bitCount_0f7a4 28 = .ok (.iadd, 1) := by decide +kernel
theorem dJ6_bitCount_0f7a4_29 : decode cJ6_bitCount_0f7a4 29 = .ok (.ldc_w 267, 3) := by decide +kernel
theorem dJ6_bitCount_0f7a4_32 : decode cJ6_bitCount_0f7a4 32 = .ok (.iand, 1) := by decide +kernel
theorem dJ6_bitCount_0f7a4_33 : decode cJ6_bitCount_0f7a4 33 = .ok (.istore_n 0, 1) := by decide +kernel
theorem dJ6_bitCount_0f7a4_34 : decode cJ6_bitCount_0f7a4 34 = .ok (.iload_n 0, 1) := by decide +kernel
theorem dJ6_bitCount_0f7a4_35 : decode cJ6_bitCount_0f7a4 35 = .ok (.iload_n 0, 1) := by decide +kernel
theorem dJ6_bitCount_0f7a4_36 : decode cJ6_bitCount_0f7a4 36 = .ok (.bipush 8, 2) := by decide +kernel
theorem dJ6_bitCount_0f7a4_38 : decode cJ6_bitCount_0f7a4 38 = .ok (.iushr, 1) := by decide +kernel
theorem dJ6_bitCount_0f7a4_39 : decode cJ6_bitCount_0f7a4 39 = .ok (.iadd, 1) := by decide +kernel
theorem dJ6_bitCount_0f7a4_40 : decode cJ6_bitCount_0f7a4 40 = .ok (.istore_n 0, 1) := by decide +kernel
theorem dJ6_bitCount_0f7a4_41 : decode cJ6_bitCount_0f7a4 41 = .ok (.iload_n 0, 1) := by decide +kernel
theorem dJ6_bitCount_0f7a4_42 : decode cJ6_bitCount_0f7a4 42 = .ok (.iload_n 0, 1) := by decide +kernel
theorem dJ6_bitCount_0f7a4_43 : decode cJ6_bitCount_0f7a4 43 = .ok (.bipush 16, 2) := by decide +kernel
theorem dJ6_bitCount_0f7a4_45 : decode cJ6_bitCount_0f7a4 45 = .ok (.iushr, 1) := by decide +kernel
theorem dJ6_bitCount_0f7a4_46 : decode cJ6_bitCount_0f7a4 46 = .ok (.iadd, 1) := by decide +kernel
theorem dJ6_bitCount_0f7a4_47 : decode cJ6_bitCount_0f7a4 47 = .ok (.istore_n 0, 1) := by decide +kernel
theorem dJ6_bitCount_0f7a4_48 : decode cJ6_bitCount_0f7a4 48 = .ok (.iload_n 0, 1) := by decide +kernel
theorem dJ6_bitCount_0f7a4_49 : decode cJ6_bitCount_0f7a4 49 = .ok (.bipush 63, 2) := by decide +kernel
theorem dJ6_bitCount_0f7a4_51 : decode cJ6_bitCount_0f7a4 51 = .ok (.iand, 1) := by decide +kernel
theorem dJ6_bitCount_0f7a4_52 : decode cJ6_bitCount_0f7a4 52 = .ok (.ireturn, 1) := by decide +kernel
theorem dJ9_max_7cf53_0 : decode cJ9_max_7cf53 0 = .ok (.iload_n 0, 1) := by decide +kernel
theorem dJ9_max_7cf53_1 : decode cJ9_max_7cf53 1 = .ok (.iload_n 1, 1) := by decide +kernel
theorem dJ9_max_7cf53_2 : decode cJ9_max_7cf53 2 = .ok (.if_icmp .lt 7, 3) := by decide +kernel
theorem dJ9_max_7cf53_5 : decode cJ9_max_7cf53 5 = .ok (.iload_n 0, 1) := by decide +kernel
theorem dJ9_max_7cf53_6 : decode cJ9_max_7cf53 6 = .ok (.goto 4, 3) := by decide +kernel
theorem dJ9_max_7cf53_9 : decode cJ9_max_7cf53 9 = .ok (.iload_n 1, 1) := by decide +kernel
theorem dJ9_max_7cf53_10 : decode cJ9_max_7cf53 10 = .ok (.ireturn, 1) := by decide +kernel
theorem dJ9_max_f86c9_0 : decode cJ9_max_f86c9 0 = .ok (.lload_n 0, 1) := by decide +kernel
theorem dJ9_max_f86c9_1 : decode cJ9_max_f86c9 1 = .ok (.lload_n 2, 1) := by decide +kernel
theorem dJ9_max_f86c9_2 : decode cJ9_max_f86c9 2 = .ok (.lcmp, 1) := by decide +kernel
theorem dJ9_max_f86c9_3 : decode cJ9_max_f86c9 3 = .ok (.ifCond .lt 7, 3) := by decide +kernel
theorem dJ9_max_f86c9_6 : decode cJ9_max_f86c9 6 = .ok (.lload_n 0, 1) := by decide +kernel
theorem dJ9_max_f86c9_7 : decode cJ9_max_f86c9 7 = .ok (.goto 4, 3) := by decide +kernel
theorem dJ9_max_f86c9_10 : decode cJ9_max_f86c9 10 = .ok (.lload_n 2, 1) := by decide +kernel
theorem dJ9_max_f86c9_11 : decode cJ9_max_f86c9 11 = .ok (.lreturn, 1) := by decide +kernel
theorem dJ9_min_7cf53_0 : decode cJ9_min_7cf53 0 = .ok (.iload_n 0, 1) := by decide +kernel
theorem dJ9_min_7cf53_1 : decode cJ9_min_7cf53 1 = .ok (.iload_n 1, 1) := by decide +kernel
theorem dJ9_min_7cf53_2 : decode cJ9_min_7cf53 2 = .ok (.if_icmp .gt 7, 3) := by decide +kernel
theorem dJ9_min_7cf53_5 : decode cJ9_min_7cf53 5 = .ok (.iload_n 0, 1) := by decide +kernel
theorem dJ9_min_7cf53_6 : decode cJ9_min_7cf53 6 = .ok (.goto 4, 3) := by decide +kernel
theorem dJ9_min_7cf53_9 : decode cJ9_min_7cf53 9 = .ok (.iload_n 1, 1) := by decide +kernel
theorem dJ9_min_7cf53_10 : decode cJ9_min_7cf53 10 = .ok (.ireturn, 1) := by decide +kernel
theorem dL_law_0 : decode cL_law 0 = .ok (.new 7, 3) := by decide +kernel
theorem dL_law_3 : decode cL_law 3 = .ok (.dup, 1) := by decide +kernel
theorem dL_law_4 : decode cL_law 4 = .ok (.invokespecial 9, 3) := by decide +kernel
theorem dL_law_7 : decode cL_law 7 = .ok (.astore_n 1, 1) := by decide +kernel
theorem dL_law_8 : decode cL_law 8 = .ok (.new 10, 3) := by decide +kernel
theorem dL_law_11 : decode cL_law 11 = .ok (.dup, 1) := by decide +kernel
theorem dL_law_12 : decode cL_law 12 = .ok (.invokespecial 12, 3) := by decide +kernel
theorem dL_law_15 : decode cL_law 15 = .ok (.astore_n 2, 1) := by decide +kernel
theorem dL_law_16 : decode cL_law 16 = .ok (.iconst 0, 1) := by decide +kernel
theorem dL_law_17 : decode cL_law 17 = .ok (.istore_n 3, 1) := by decide +kernel
theorem dL_law_18 : decode cL_law 18 = .ok (.iload_n 3, 1) := by decide +kernel
theorem dL_law_19 : decode cL_law 19 = .ok (.aload_n 0, 1) := by decide +kernel
theorem dL_law_20 : decode cL_law 20 = .ok (.arraylength, 1) := by decide +kernel
theorem dL_law_21 : decode cL_law 21 = .ok (.iconst 5, 1) := by decide +kernel
theorem dL_law_22 : decode cL_law 22 = .ok (.isub, 1) := by decide +kernel
theorem dL_law_23 : decode cL_law 23 = .ok (.if_icmp .gt 825, 3) := by decide +kernel
theorem dL_law_26 : decode cL_law 26 = .ok (.aload_n 0, 1) := by decide +kernel
theorem dL_law_27 : decode cL_law 27 = .ok (.iload_n 3, 1) := by decide +kernel
theorem dL_law_28 : decode cL_law 28 = .ok (.iaload, 1) := by decide +kernel
theorem dL_law_29 : decode cL_law 29 = .ok (.bipush 31, 2) := by decide +kernel
theorem dL_law_31 : decode cL_law 31 = .ok (.iand, 1) := by decide +kernel
theorem dL_law_32 : decode cL_law 32 = .ok (.tableswitch 810 0 25 #[120, 143, 156, 169, 202, 235, 258, 281, 294, 327, 360, 373, 416, 439, 462, 485, 508, 521, 554, 587, 641, 694, 727, 750, 773, 796], 120) := by decide +kernel
theorem dL_law_152 : decode cL_law 152 = .ok (.aload_n 1, 1) := by decide +kernel
theorem dL_law_153 : decode cL_law 153 = .ok (.aload_n 0, 1) := by decide +kernel
theorem dL_law_154 : decode cL_law 154 = .ok (.iload_n 3, 1) := by decide +kernel
theorem dL_law_155 : decode cL_law 155 = .ok (.iconst 1, 1) := by decide +kernel
theorem dL_law_156 : decode cL_law 156 = .ok (.iadd, 1) := by decide +kernel
theorem dL_law_157 : decode cL_law 157 = .ok (.iaload, 1) := by decide +kernel
theorem dL_law_158 : decode cL_law 158 = .ok (.invokevirtual 13, 3) := by decide +kernel
theorem dL_law_161 : decode cL_law 161 = .ok (.aload_n 2, 1) := by decide +kernel
theorem dL_law_162 : decode cL_law 162 = .ok (.aload_n 0, 1) := by decide +kernel
theorem dL_law_163 : decode cL_law 163 = .ok (.iload_n 3, 1) := by decide +kernel
theorem dL_law_164 : decode cL_law 164 = .ok (.iconst 1, 1) := by decide +kernel
theorem dL_law_165 : decode cL_law 165 = .ok (.iadd, 1) := by decide +kernel
theorem dL_law_166 : decode cL_law 166 = .ok (.iaload, 1) := by decide +kernel
theorem dL_law_167 : decode cL_law 167 = .ok (.invokevirtual 17, 3) := by decide +kernel
theorem dL_law_170 : decode cL_law 170 = .ok (.if_icmp .eq 672, 3) := by decide +kernel
theorem dL_law_173 : decode cL_law 173 = .ok (.iconst 0, 1) := by decide +kernel
theorem dL_law_174 : decode cL_law 174 = .ok (.ireturn, 1) := by decide +kernel
theorem dL_law_175 : decode cL_law 175 = .ok (.aload_n 1, 1) := by decide +kernel
theorem dL_law_176 : decode cL_law 176 = .ok (.invokevirtual 18, 3) := by decide +kernel
theorem dL_law_179 : decode cL_law 179 = .ok (.aload_n 2, 1) := by decide +kernel
theorem dL_law_180 : decode cL_law 180 = .ok (.invokevirtual 22, 3) := by decide +kernel
theorem dL_law_183 : decode cL_law 183 = .ok (.if_icmp .eq 659, 3) := by decide +kernel
theorem dL_law_186 : decode cL_law 186 = .ok (.iconst 0, 1) := by decide +kernel
theorem dL_law_187 : decode cL_law 187 = .ok (.ireturn, 1) := by decide +kernel
theorem dL_law_188 : decode cL_law 188 = .ok (.aload_n 1, 1) := by decide +kernel
theorem dL_law_189 : decode cL_law 189 = .ok (.invokevirtual 23, 3) := by decide +kernel
theorem dL_law_192 : decode cL_law 192 = .ok (.aload_n 2, 1) := by decide +kernel
theorem dL_law_193 : decode cL_law 193 = .ok (.invokevirtual 26, 3) := by decide +kernel
theorem dL_law_196 : decode cL_law 196 = .ok (.if_icmp .eq 646, 3) := by decide +kernel
theorem dL_law_199 : decode cL_law 199 = .ok (.iconst 0, 1) := by decide +kernel
theorem dL_law_200 : decode cL_law 200 = .ok (.ireturn, 1) := by decide +kernel
theorem dL_law_201 : decode cL_law 201 = .ok (.aload_n 1, 1) := by decide +kernel
theorem dL_law_202 : decode cL_law 202 = .ok (.aload_n 0, 1) := by decide +kernel
theorem dL_law_203 : decode cL_law 203 = .ok (.iload_n 3, 1) := by decide +kernel
theorem dL_law_204 : decode cL_law 204 = .ok (.iconst 1, 1) := by decide +kernel
theorem dL_law_205 : decode cL_law 205 = .ok (.iadd, 1) := by decide +kernel
theorem dL_law_206 : decode cL_law 206 = .ok (.iaload, 1) := by decide +kernel
theorem dL_law_207 : decode cL_law 207 = .ok (.aload_n 0, 1) := by decide +kernel
theorem dL_law_208 : decode cL_law 208 = .ok (.iload_n 3, 1) := by decide +kernel
theorem dL_law_209 : decode cL_law 209 = .ok (.iconst 2, 1) := by decide +kernel
theorem dL_law_210 : decode cL_law 210 = .ok (.iadd, 1) := by decide +kernel
theorem dL_law_211 : decode cL_law 211 = .ok (.iaload, 1) := by decide +kernel
theorem dL_law_212 : decode cL_law 212 = .ok (.invokevirtual 27, 3) := by decide +kernel
theorem dL_law_215 : decode cL_law 215 = .ok (.aload_n 2, 1) := by decide +kernel
theorem dL_law_216 : decode cL_law 216 = .ok (.aload_n 0, 1) := by decide +kernel
theorem dL_law_217 : decode cL_law 217 = .ok (.iload_n 3, 1) := by decide +kernel
theorem dL_law_218 : decode cL_law 218 = .ok (.iconst 1, 1) := by decide +kernel
theorem dL_law_219 : decode cL_law 219 = .ok (.iadd, 1) := by decide +kernel
theorem dL_law_220 : decode cL_law 220 = .ok (.iaload, 1) := by decide +kernel
theorem dL_law_221 : decode cL_law 221 = .ok (.aload_n 0, 1) := by decide +kernel
theorem dL_law_222 : decode cL_law 222 = .ok (.iload_n 3, 1) := by decide +kernel
theorem dL_law_223 : decode cL_law 223 = .ok (.iconst 2, 1) := by decide +kernel
theorem dL_law_224 : decode cL_law 224 = .ok (.iadd, 1) := by decide +kernel
theorem dL_law_225 : decode cL_law 225 = .ok (.iaload, 1) := by decide +kernel
theorem dL_law_226 : decode cL_law 226 = .ok (.invokevirtual 31, 3) := by decide +kernel
theorem dL_law_229 : decode cL_law 229 = .ok (.if_icmp .eq 613, 3) := by decide +kernel
theorem dL_law_232 : decode cL_law 232 = .ok (.iconst 0, 1) := by decide +kernel
theorem dL_law_233 : decode cL_law 233 = .ok (.ireturn, 1) := by decide +kernel
theorem dL_law_234 : decode cL_law 234 = .ok (.aload_n 1, 1) := by decide +kernel
theorem dL_law_235 : decode cL_law 235 = .ok (.aload_n 0, 1) := by decide +kernel
theorem dL_law_236 : decode cL_law 236 = .ok (.iload_n 3, 1) := by decide +kernel
theorem dL_law_237 : decode cL_law 237 = .ok (.iconst 1, 1) := by decide +kernel
theorem dL_law_238 : decode cL_law 238 = .ok (.iadd, 1) := by decide +kernel
theorem dL_law_239 : decode cL_law 239 = .ok (.iaload, 1) := by decide +kernel
theorem dL_law_240 : decode cL_law 240 = .ok (.aload_n 0, 1) := by decide +kernel
theorem dL_law_241 : decode cL_law 241 = .ok (.iload_n 3, 1) := by decide +kernel
theorem dL_law_242 : decode cL_law 242 = .ok (.iconst 2, 1) := by decide +kernel
theorem dL_law_243 : decode cL_law 243 = .ok (.iadd, 1) := by decide +kernel
theorem dL_law_244 : decode cL_law 244 = .ok (.iaload, 1) := by decide +kernel
theorem dL_law_245 : decode cL_law 245 = .ok (.invokevirtual 32, 3) := by decide +kernel
theorem dL_law_248 : decode cL_law 248 = .ok (.aload_n 2, 1) := by decide +kernel
theorem dL_law_249 : decode cL_law 249 = .ok (.aload_n 0, 1) := by decide +kernel
theorem dL_law_250 : decode cL_law 250 = .ok (.iload_n 3, 1) := by decide +kernel
theorem dL_law_251 : decode cL_law 251 = .ok (.iconst 1, 1) := by decide +kernel
theorem dL_law_252 : decode cL_law 252 = .ok (.iadd, 1) := by decide +kernel
theorem dL_law_253 : decode cL_law 253 = .ok (.iaload, 1) := by decide +kernel
theorem dL_law_254 : decode cL_law 254 = .ok (.aload_n 0, 1) := by decide +kernel
theorem dL_law_255 : decode cL_law 255 = .ok (.iload_n 3, 1) := by decide +kernel
theorem dL_law_256 : decode cL_law 256 = .ok (.iconst 2, 1) := by decide +kernel
theorem dL_law_257 : decode cL_law 257 = .ok (.iadd, 1) := by decide +kernel
theorem dL_law_258 : decode cL_law 258 = .ok (.iaload, 1) := by decide +kernel
theorem dL_law_259 : decode cL_law 259 = .ok (.invokevirtual 35, 3) := by decide +kernel
theorem dL_law_262 : decode cL_law 262 = .ok (.if_icmp .eq 580, 3) := by decide +kernel
theorem dL_law_265 : decode cL_law 265 = .ok (.iconst 0, 1) := by decide +kernel
theorem dL_law_266 : decode cL_law 266 = .ok (.ireturn, 1) := by decide +kernel
theorem dL_law_267 : decode cL_law 267 = .ok (.aload_n 1, 1) := by decide +kernel
theorem dL_law_268 : decode cL_law 268 = .ok (.aload_n 0, 1) := by decide +kernel
theorem dL_law_269 : decode cL_law 269 = .ok (.iload_n 3, 1) := by decide +kernel
theorem dL_law_270 : decode cL_law 270 = .ok (.iconst 1, 1) := by decide +kernel
theorem dL_law_271 : decode cL_law 271 = .ok (.iadd, 1) := by decide +kernel
theorem dL_law_272 : decode cL_law 272 = .ok (.iaload, 1) := by decide +kernel
theorem dL_law_273 : decode cL_law 273 = .ok (.invokevirtual 36, 3) := by decide +kernel
theorem dL_law_276 : decode cL_law 276 = .ok (.aload_n 2, 1) := by decide +kernel
theorem dL_law_277 : decode cL_law 277 = .ok (.aload_n 0, 1) := by decide +kernel
theorem dL_law_278 : decode cL_law 278 = .ok (.iload_n 3, 1) := by decide +kernel
theorem dL_law_279 : decode cL_law 279 = .ok (.iconst 1, 1) := by decide +kernel
theorem dL_law_280 : decode cL_law 280 = .ok (.iadd, 1) := by decide +kernel
theorem dL_law_281 : decode cL_law 281 = .ok (.iaload, 1) := by decide +kernel
theorem dL_law_282 : decode cL_law 282 = .ok (.invokevirtual 39, 3) := by decide +kernel
theorem dL_law_285 : decode cL_law 285 = .ok (.if_icmp .eq 557, 3) := by decide +kernel
theorem dL_law_288 : decode cL_law 288 = .ok (.iconst 0, 1) := by decide +kernel
theorem dL_law_289 : decode cL_law 289 = .ok (.ireturn, 1) := by decide +kernel
theorem dL_law_290 : decode cL_law 290 = .ok (.aload_n 1, 1) := by decide +kernel
theorem dL_law_291 : decode cL_law 291 = .ok (.aload_n 0, 1) := by decide +kernel
theorem dL_law_292 : decode cL_law 292 = .ok (.iload_n 3, 1) := by decide +kernel
theorem dL_law_293 : decode cL_law 293 = .ok (.iconst 1, 1) := by decide +kernel
theorem dL_law_294 : decode cL_law 294 = .ok (.iadd, 1) := by decide +kernel
theorem dL_law_295 : decode cL_law 295 = .ok (.iaload, 1) := by decide +kernel
theorem dL_law_296 : decode cL_law 296 = .ok (.invokevirtual 40, 3) := by decide +kernel
theorem dL_law_299 : decode cL_law 299 = .ok (.aload_n 2, 1) := by decide +kernel
theorem dL_law_300 : decode cL_law 300 = .ok (.aload_n 0, 1) := by decide +kernel
theorem dL_law_301 : decode cL_law 301 = .ok (.iload_n 3, 1) := by decide +kernel
theorem dL_law_302 : decode cL_law 302 = .ok (.iconst 1, 1) := by decide +kernel
theorem dL_law_303 : decode cL_law 303 = .ok (.iadd, 1) := by decide +kernel
theorem dL_law_304 : decode cL_law 304 = .ok (.iaload, 1) := by decide +kernel
theorem dL_law_305 : decode cL_law 305 = .ok (.invokevirtual 43, 3) := by decide +kernel
theorem dL_law_308 : decode cL_law 308 = .ok (.if_icmp .eq 534, 3) := by decide +kernel
theorem dL_law_311 : decode cL_law 311 = .ok (.iconst 0, 1) := by decide +kernel
theorem dL_law_312 : decode cL_law 312 = .ok (.ireturn, 1) := by decide +kernel
theorem dL_law_313 : decode cL_law 313 = .ok (.aload_n 1, 1) := by decide +kernel
theorem dL_law_314 : decode cL_law 314 = .ok (.invokevirtual 44, 3) := by decide +kernel
theorem dL_law_317 : decode cL_law 317 = .ok (.aload_n 2, 1) := by decide +kernel
theorem dL_law_318 : decode cL_law 318 = .ok (.invokevirtual 47, 3) := by decide +kernel
theorem dL_law_321 : decode cL_law 321 = .ok (.if_icmp .eq 521, 3) := by decide +kernel
theorem dL_law_324 : decode cL_law 324 = .ok (.iconst 0, 1) := by decide +kernel
theorem dL_law_325 : decode cL_law 325 = .ok (.ireturn, 1) := by decide +kernel
theorem dL_law_326 : decode cL_law 326 = .ok (.aload_n 1, 1) := by decide +kernel
theorem dL_law_327 : decode cL_law 327 = .ok (.aload_n 0, 1) := by decide +kernel
theorem dL_law_328 : decode cL_law 328 = .ok (.iload_n 3, 1) := by decide +kernel
theorem dL_law_329 : decode cL_law 329 = .ok (.iconst 1, 1) := by decide +kernel
theorem dL_law_330 : decode cL_law 330 = .ok (.iadd, 1) := by decide +kernel
theorem dL_law_331 : decode cL_law 331 = .ok (.iaload, 1) := by decide +kernel
theorem dL_law_332 : decode cL_law 332 = .ok (.aload_n 0, 1) := by decide +kernel
theorem dL_law_333 : decode cL_law 333 = .ok (.iload_n 3, 1) := by decide +kernel
theorem dL_law_334 : decode cL_law 334 = .ok (.iconst 2, 1) := by decide +kernel
theorem dL_law_335 : decode cL_law 335 = .ok (.iadd, 1) := by decide +kernel
theorem dL_law_336 : decode cL_law 336 = .ok (.iaload, 1) := by decide +kernel
theorem dL_law_337 : decode cL_law 337 = .ok (.invokevirtual 48, 3) := by decide +kernel
theorem dL_law_340 : decode cL_law 340 = .ok (.aload_n 2, 1) := by decide +kernel
theorem dL_law_341 : decode cL_law 341 = .ok (.aload_n 0, 1) := by decide +kernel
theorem dL_law_342 : decode cL_law 342 = .ok (.iload_n 3, 1) := by decide +kernel
theorem dL_law_343 : decode cL_law 343 = .ok (.iconst 1, 1) := by decide +kernel
theorem dL_law_344 : decode cL_law 344 = .ok (.iadd, 1) := by decide +kernel
theorem dL_law_345 : decode cL_law 345 = .ok (.iaload, 1) := by decide +kernel
theorem dL_law_346 : decode cL_law 346 = .ok (.aload_n 0, 1) := by decide +kernel
theorem dL_law_347 : decode cL_law 347 = .ok (.iload_n 3, 1) := by decide +kernel
theorem dL_law_348 : decode cL_law 348 = .ok (.iconst 2, 1) := by decide +kernel
theorem dL_law_349 : decode cL_law 349 = .ok (.iadd, 1) := by decide +kernel
theorem dL_law_350 : decode cL_law 350 = .ok (.iaload, 1) := by decide +kernel
theorem dL_law_351 : decode cL_law 351 = .ok (.invokevirtual 51, 3) := by decide +kernel
theorem dL_law_354 : decode cL_law 354 = .ok (.if_icmp .eq 488, 3) := by decide +kernel
theorem dL_law_357 : decode cL_law 357 = .ok (.iconst 0, 1) := by decide +kernel
theorem dL_law_358 : decode cL_law 358 = .ok (.ireturn, 1) := by decide +kernel
theorem dL_law_359 : decode cL_law 359 = .ok (.aload_n 1, 1) := by decide +kernel
theorem dL_law_360 : decode cL_law 360 = .ok (.aload_n 0, 1) := by decide +kernel
theorem dL_law_361 : decode cL_law 361 = .ok (.iload_n 3, 1) := by decide +kernel
theorem dL_law_362 : decode cL_law 362 = .ok (.iconst 1, 1) := by decide +kernel
theorem dL_law_363 : decode cL_law 363 = .ok (.iadd, 1) := by decide +kernel
theorem dL_law_364 : decode cL_law 364 = .ok (.iaload, 1) := by decide +kernel
theorem dL_law_365 : decode cL_law 365 = .ok (.aload_n 0, 1) := by decide +kernel
theorem dL_law_366 : decode cL_law 366 = .ok (.iload_n 3, 1) := by decide +kernel
theorem dL_law_367 : decode cL_law 367 = .ok (.iconst 2, 1) := by decide +kernel
theorem dL_law_368 : decode cL_law 368 = .ok (.iadd, 1) := by decide +kernel
theorem dL_law_369 : decode cL_law 369 = .ok (.iaload, 1) := by decide +kernel
theorem dL_law_370 : decode cL_law 370 = .ok (.invokevirtual 52, 3) := by decide +kernel
theorem dL_law_373 : decode cL_law 373 = .ok (.aload_n 2, 1) := by decide +kernel
theorem dL_law_374 : decode cL_law 374 = .ok (.aload_n 0, 1) := by decide +kernel
theorem dL_law_375 : decode cL_law 375 = .ok (.iload_n 3, 1) := by decide +kernel
theorem dL_law_376 : decode cL_law 376 = .ok (.iconst 1, 1) := by decide +kernel
theorem dL_law_377 : decode cL_law 377 = .ok (.iadd, 1) := by decide +kernel
theorem dL_law_378 : decode cL_law 378 = .ok (.iaload, 1) := by decide +kernel
theorem dL_law_379 : decode cL_law 379 = .ok (.aload_n 0, 1) := by decide +kernel
theorem dL_law_380 : decode cL_law 380 = .ok (.iload_n 3, 1) := by decide +kernel
theorem dL_law_381 : decode cL_law 381 = .ok (.iconst 2, 1) := by decide +kernel
theorem dL_law_382 : decode cL_law 382 = .ok (.iadd, 1) := by decide +kernel
theorem dL_law_383 : decode cL_law 383 = .ok (.iaload, 1) := by decide +kernel
theorem dL_law_384 : decode cL_law 384 = .ok (.invokevirtual 55, 3) := by decide +kernel
theorem dL_law_387 : decode cL_law 387 = .ok (.if_icmp .eq 455, 3) := by decide +kernel
theorem dL_law_390 : decode cL_law 390 = .ok (.iconst 0, 1) := by decide +kernel
theorem dL_law_391 : decode cL_law 391 = .ok (.ireturn, 1) := by decide +kernel
theorem dL_law_392 : decode cL_law 392 = .ok (.aload_n 1, 1) := by decide +kernel
theorem dL_law_393 : decode cL_law 393 = .ok (.invokevirtual 56, 3) := by decide +kernel
theorem dL_law_396 : decode cL_law 396 = .ok (.aload_n 2, 1) := by decide +kernel
theorem dL_law_397 : decode cL_law 397 = .ok (.invokevirtual 59, 3) := by decide +kernel
theorem dL_law_400 : decode cL_law 400 = .ok (.if_icmp .eq 442, 3) := by decide +kernel
theorem dL_law_403 : decode cL_law 403 = .ok (.iconst 0, 1) := by decide +kernel
theorem dL_law_404 : decode cL_law 404 = .ok (.ireturn, 1) := by decide +kernel
theorem dL_law_405 : decode cL_law 405 = .ok (.aload_n 1, 1) := by decide +kernel
theorem dL_law_406 : decode cL_law 406 = .ok (.aload_n 0, 1) := by decide +kernel
theorem dL_law_407 : decode cL_law 407 = .ok (.iload_n 3, 1) := by decide +kernel
theorem dL_law_408 : decode cL_law 408 = .ok (.iconst 1, 1) := by decide +kernel
theorem dL_law_409 : decode cL_law 409 = .ok (.iadd, 1) := by decide +kernel
theorem dL_law_410 : decode cL_law 410 = .ok (.iaload, 1) := by decide +kernel
theorem dL_law_411 : decode cL_law 411 = .ok (.aload_n 0, 1) := by decide +kernel
theorem dL_law_412 : decode cL_law 412 = .ok (.iload_n 3, 1) := by decide +kernel
theorem dL_law_413 : decode cL_law 413 = .ok (.iconst 2, 1) := by decide +kernel
theorem dL_law_414 : decode cL_law 414 = .ok (.iadd, 1) := by decide +kernel
theorem dL_law_415 : decode cL_law 415 = .ok (.iaload, 1) := by decide +kernel
theorem dL_law_416 : decode cL_law 416 = .ok (.aload_n 0, 1) := by decide +kernel
theorem dL_law_417 : decode cL_law 417 = .ok (.iload_n 3, 1) := by decide +kernel
theorem dL_law_418 : decode cL_law 418 = .ok (.iconst 3, 1) := by decide +kernel
theorem dL_law_419 : decode cL_law 419 = .ok (.iadd, 1) := by decide +kernel
theorem dL_law_420 : decode cL_law 420 = .ok (.iaload, 1) := by decide +kernel
theorem dL_law_421 : decode cL_law 421 = .ok (.invokevirtual 60, 3) := by decide +kernel
theorem dL_law_424 : decode cL_law 424 = .ok (.aload_n 2, 1) := by decide +kernel
theorem dL_law_425 : decode cL_law 425 = .ok (.aload_n 0, 1) := by decide +kernel
theorem dL_law_426 : decode cL_law 426 = .ok (.iload_n 3, 1) := by decide +kernel
theorem dL_law_427 : decode cL_law 427 = .ok (.iconst 1, 1) := by decide +kernel
theorem dL_law_428 : decode cL_law 428 = .ok (.iadd, 1) := by decide +kernel
theorem dL_law_429 : decode cL_law 429 = .ok (.iaload, 1) := by decide +kernel
theorem dL_law_430 : decode cL_law 430 = .ok (.aload_n 0, 1) := by decide +kernel
theorem dL_law_431 : decode cL_law 431 = .ok (.iload_n 3, 1) := by decide +kernel
theorem dL_law_432 : decode cL_law 432 = .ok (.iconst 2, 1) := by decide +kernel
theorem dL_law_433 : decode cL_law 433 = .ok (.iadd, 1) := by decide +kernel
theorem dL_law_434 : decode cL_law 434 = .ok (.iaload, 1) := by decide +kernel
theorem dL_law_435 : decode cL_law 435 = .ok (.aload_n 0, 1) := by decide +kernel
theorem dL_law_436 : decode cL_law 436 = .ok (.iload_n 3, 1) := by decide +kernel
theorem dL_law_437 : decode cL_law 437 = .ok (.iconst 3, 1) := by decide +kernel
theorem dL_law_438 : decode cL_law 438 = .ok (.iadd, 1) := by decide +kernel
theorem dL_law_439 : decode cL_law 439 = .ok (.iaload, 1) := by decide +kernel
theorem dL_law_440 : decode cL_law 440 = .ok (.invokevirtual 64, 3) := by decide +kernel
theorem dL_law_443 : decode cL_law 443 = .ok (.if_icmp .eq 399, 3) := by decide +kernel
theorem dL_law_446 : decode cL_law 446 = .ok (.iconst 0, 1) := by decide +kernel
theorem dL_law_447 : decode cL_law 447 = .ok (.ireturn, 1) := by decide +kernel
theorem dL_law_448 : decode cL_law 448 = .ok (.aload_n 1, 1) := by decide +kernel
theorem dL_law_449 : decode cL_law 449 = .ok (.aload_n 0, 1) := by decide +kernel
theorem dL_law_450 : decode cL_law 450 = .ok (.iload_n 3, 1) := by decide +kernel
theorem dL_law_451 : decode cL_law 451 = .ok (.iconst 1, 1) := by decide +kernel
theorem dL_law_452 : decode cL_law 452 = .ok (.iadd, 1) := by decide +kernel
theorem dL_law_453 : decode cL_law 453 = .ok (.iaload, 1) := by decide +kernel
theorem dL_law_454 : decode cL_law 454 = .ok (.invokevirtual 65, 3) := by decide +kernel
theorem dL_law_457 : decode cL_law 457 = .ok (.aload_n 2, 1) := by decide +kernel
theorem dL_law_458 : decode cL_law 458 = .ok (.aload_n 0, 1) := by decide +kernel
theorem dL_law_459 : decode cL_law 459 = .ok (.iload_n 3, 1) := by decide +kernel
theorem dL_law_460 : decode cL_law 460 = .ok (.iconst 1, 1) := by decide +kernel
theorem dL_law_461 : decode cL_law 461 = .ok (.iadd, 1) := by decide +kernel
theorem dL_law_462 : decode cL_law 462 = .ok (.iaload, 1) := by decide +kernel
theorem dL_law_463 : decode cL_law 463 = .ok (.invokevirtual 68, 3) := by decide +kernel
theorem dL_law_466 : decode cL_law 466 = .ok (.if_icmp .eq 376, 3) := by decide +kernel
theorem dL_law_469 : decode cL_law 469 = .ok (.iconst 0, 1) := by decide +kernel
theorem dL_law_470 : decode cL_law 470 = .ok (.ireturn, 1) := by decide +kernel
theorem dL_law_471 : decode cL_law 471 = .ok (.aload_n 1, 1) := by decide +kernel
theorem dL_law_472 : decode cL_law 472 = .ok (.aload_n 0, 1) := by decide +kernel
theorem dL_law_473 : decode cL_law 473 = .ok (.iload_n 3, 1) := by decide +kernel
theorem dL_law_474 : decode cL_law 474 = .ok (.iconst 1, 1) := by decide +kernel
theorem dL_law_475 : decode cL_law 475 = .ok (.iadd, 1) := by decide +kernel
theorem dL_law_476 : decode cL_law 476 = .ok (.iaload, 1) := by decide +kernel
theorem dL_law_477 : decode cL_law 477 = .ok (.invokevirtual 69, 3) := by decide +kernel
theorem dL_law_480 : decode cL_law 480 = .ok (.aload_n 2, 1) := by decide +kernel
theorem dL_law_481 : decode cL_law 481 = .ok (.aload_n 0, 1) := by decide +kernel
theorem dL_law_482 : decode cL_law 482 = .ok (.iload_n 3, 1) := by decide +kernel
theorem dL_law_483 : decode cL_law 483 = .ok (.iconst 1, 1) := by decide +kernel
theorem dL_law_484 : decode cL_law 484 = .ok (.iadd, 1) := by decide +kernel
theorem dL_law_485 : decode cL_law 485 = .ok (.iaload, 1) := by decide +kernel
theorem dL_law_486 : decode cL_law 486 = .ok (.invokevirtual 72, 3) := by decide +kernel
theorem dL_law_489 : decode cL_law 489 = .ok (.if_icmp .eq 353, 3) := by decide +kernel
theorem dL_law_492 : decode cL_law 492 = .ok (.iconst 0, 1) := by decide +kernel
theorem dL_law_493 : decode cL_law 493 = .ok (.ireturn, 1) := by decide +kernel
theorem dL_law_494 : decode cL_law 494 = .ok (.aload_n 1, 1) := by decide +kernel
theorem dL_law_495 : decode cL_law 495 = .ok (.aload_n 0, 1) := by decide +kernel
theorem dL_law_496 : decode cL_law 496 = .ok (.iload_n 3, 1) := by decide +kernel
theorem dL_law_497 : decode cL_law 497 = .ok (.iconst 1, 1) := by decide +kernel
theorem dL_law_498 : decode cL_law 498 = .ok (.iadd, 1) := by decide +kernel
theorem dL_law_499 : decode cL_law 499 = .ok (.iaload, 1) := by decide +kernel
theorem dL_law_500 : decode cL_law 500 = .ok (.invokevirtual 73, 3) := by decide +kernel
theorem dL_law_503 : decode cL_law 503 = .ok (.aload_n 2, 1) := by decide +kernel
theorem dL_law_504 : decode cL_law 504 = .ok (.aload_n 0, 1) := by decide +kernel
theorem dL_law_505 : decode cL_law 505 = .ok (.iload_n 3, 1) := by decide +kernel
theorem dL_law_506 : decode cL_law 506 = .ok (.iconst 1, 1) := by decide +kernel
theorem dL_law_507 : decode cL_law 507 = .ok (.iadd, 1) := by decide +kernel
theorem dL_law_508 : decode cL_law 508 = .ok (.iaload, 1) := by decide +kernel
theorem dL_law_509 : decode cL_law 509 = .ok (.invokevirtual 76, 3) := by decide +kernel
theorem dL_law_512 : decode cL_law 512 = .ok (.if_icmp .eq 330, 3) := by decide +kernel
theorem dL_law_515 : decode cL_law 515 = .ok (.iconst 0, 1) := by decide +kernel
theorem dL_law_516 : decode cL_law 516 = .ok (.ireturn, 1) := by decide +kernel
theorem dL_law_517 : decode cL_law 517 = .ok (.aload_n 1, 1) := by decide +kernel
theorem dL_law_518 : decode cL_law 518 = .ok (.aload_n 0, 1) := by decide +kernel
theorem dL_law_519 : decode cL_law 519 = .ok (.iload_n 3, 1) := by decide +kernel
theorem dL_law_520 : decode cL_law 520 = .ok (.iconst 1, 1) := by decide +kernel
theorem dL_law_521 : decode cL_law 521 = .ok (.iadd, 1) := by decide +kernel
theorem dL_law_522 : decode cL_law 522 = .ok (.iaload, 1) := by decide +kernel
theorem dL_law_523 : decode cL_law 523 = .ok (.invokevirtual 77, 3) := by decide +kernel
theorem dL_law_526 : decode cL_law 526 = .ok (.aload_n 2, 1) := by decide +kernel
theorem dL_law_527 : decode cL_law 527 = .ok (.aload_n 0, 1) := by decide +kernel
theorem dL_law_528 : decode cL_law 528 = .ok (.iload_n 3, 1) := by decide +kernel
theorem dL_law_529 : decode cL_law 529 = .ok (.iconst 1, 1) := by decide +kernel
theorem dL_law_530 : decode cL_law 530 = .ok (.iadd, 1) := by decide +kernel
theorem dL_law_531 : decode cL_law 531 = .ok (.iaload, 1) := by decide +kernel
theorem dL_law_532 : decode cL_law 532 = .ok (.invokevirtual 80, 3) := by decide +kernel
theorem dL_law_535 : decode cL_law 535 = .ok (.if_icmp .eq 307, 3) := by decide +kernel
theorem dL_law_538 : decode cL_law 538 = .ok (.iconst 0, 1) := by decide +kernel
theorem dL_law_539 : decode cL_law 539 = .ok (.ireturn, 1) := by decide +kernel
theorem dL_law_540 : decode cL_law 540 = .ok (.aload_n 1, 1) := by decide +kernel
theorem dL_law_541 : decode cL_law 541 = .ok (.invokevirtual 81, 3) := by decide +kernel
theorem dL_law_544 : decode cL_law 544 = .ok (.aload_n 2, 1) := by decide +kernel
theorem dL_law_545 : decode cL_law 545 = .ok (.invokevirtual 84, 3) := by decide +kernel
theorem dL_law_548 : decode cL_law 548 = .ok (.if_icmp .eq 294, 3) := by decide +kernel
theorem dL_law_551 : decode cL_law 551 = .ok (.iconst 0, 1) := by decide +kernel
theorem dL_law_552 : decode cL_law 552 = .ok (.ireturn, 1) := by decide +kernel
theorem dL_law_553 : decode cL_law 553 = .ok (.aload_n 1, 1) := by decide +kernel
theorem dL_law_554 : decode cL_law 554 = .ok (.aload_n 0, 1) := by decide +kernel
theorem dL_law_555 : decode cL_law 555 = .ok (.iload_n 3, 1) := by decide +kernel
theorem dL_law_556 : decode cL_law 556 = .ok (.iconst 1, 1) := by decide +kernel
theorem dL_law_557 : decode cL_law 557 = .ok (.iadd, 1) := by decide +kernel
theorem dL_law_558 : decode cL_law 558 = .ok (.iaload, 1) := by decide +kernel
theorem dL_law_559 : decode cL_law 559 = .ok (.aload_n 0, 1) := by decide +kernel
theorem dL_law_560 : decode cL_law 560 = .ok (.iload_n 3, 1) := by decide +kernel
theorem dL_law_561 : decode cL_law 561 = .ok (.iconst 2, 1) := by decide +kernel
theorem dL_law_562 : decode cL_law 562 = .ok (.iadd, 1) := by decide +kernel
theorem dL_law_563 : decode cL_law 563 = .ok (.iaload, 1) := by decide +kernel
theorem dL_law_564 : decode cL_law 564 = .ok (.invokevirtual 85, 3) := by decide +kernel
theorem dL_law_567 : decode cL_law 567 = .ok (.aload_n 2, 1) := by decide +kernel
theorem dL_law_568 : decode cL_law 568 = .ok (.aload_n 0, 1) := by decide +kernel
theorem dL_law_569 : decode cL_law 569 = .ok (.iload_n 3, 1) := by decide +kernel
theorem dL_law_570 : decode cL_law 570 = .ok (.iconst 1, 1) := by decide +kernel
theorem dL_law_571 : decode cL_law 571 = .ok (.iadd, 1) := by decide +kernel
theorem dL_law_572 : decode cL_law 572 = .ok (.iaload, 1) := by decide +kernel
theorem dL_law_573 : decode cL_law 573 = .ok (.aload_n 0, 1) := by decide +kernel
theorem dL_law_574 : decode cL_law 574 = .ok (.iload_n 3, 1) := by decide +kernel
theorem dL_law_575 : decode cL_law 575 = .ok (.iconst 2, 1) := by decide +kernel
theorem dL_law_576 : decode cL_law 576 = .ok (.iadd, 1) := by decide +kernel
theorem dL_law_577 : decode cL_law 577 = .ok (.iaload, 1) := by decide +kernel
theorem dL_law_578 : decode cL_law 578 = .ok (.invokevirtual 88, 3) := by decide +kernel
theorem dL_law_581 : decode cL_law 581 = .ok (.if_icmp .eq 261, 3) := by decide +kernel
theorem dL_law_584 : decode cL_law 584 = .ok (.iconst 0, 1) := by decide +kernel
theorem dL_law_585 : decode cL_law 585 = .ok (.ireturn, 1) := by decide +kernel
theorem dL_law_586 : decode cL_law 586 = .ok (.aload_n 1, 1) := by decide +kernel
theorem dL_law_587 : decode cL_law 587 = .ok (.aload_n 0, 1) := by decide +kernel
theorem dL_law_588 : decode cL_law 588 = .ok (.iload_n 3, 1) := by decide +kernel
theorem dL_law_589 : decode cL_law 589 = .ok (.iconst 1, 1) := by decide +kernel
theorem dL_law_590 : decode cL_law 590 = .ok (.iadd, 1) := by decide +kernel
theorem dL_law_591 : decode cL_law 591 = .ok (.iaload, 1) := by decide +kernel
theorem dL_law_592 : decode cL_law 592 = .ok (.aload_n 0, 1) := by decide +kernel
theorem dL_law_593 : decode cL_law 593 = .ok (.iload_n 3, 1) := by decide +kernel
theorem dL_law_594 : decode cL_law 594 = .ok (.iconst 2, 1) := by decide +kernel
theorem dL_law_595 : decode cL_law 595 = .ok (.iadd, 1) := by decide +kernel
theorem dL_law_596 : decode cL_law 596 = .ok (.iaload, 1) := by decide +kernel
theorem dL_law_597 : decode cL_law 597 = .ok (.invokevirtual 89, 3) := by decide +kernel
theorem dL_law_600 : decode cL_law 600 = .ok (.aload_n 2, 1) := by decide +kernel
theorem dL_law_601 : decode cL_law 601 = .ok (.aload_n 0, 1) := by decide +kernel
theorem dL_law_602 : decode cL_law 602 = .ok (.iload_n 3, 1) := by decide +kernel
theorem dL_law_603 : decode cL_law 603 = .ok (.iconst 1, 1) := by decide +kernel
theorem dL_law_604 : decode cL_law 604 = .ok (.iadd, 1) := by decide +kernel
theorem dL_law_605 : decode cL_law 605 = .ok (.iaload, 1) := by decide +kernel
theorem dL_law_606 : decode cL_law 606 = .ok (.aload_n 0, 1) := by decide +kernel
theorem dL_law_607 : decode cL_law 607 = .ok (.iload_n 3, 1) := by decide +kernel
theorem dL_law_608 : decode cL_law 608 = .ok (.iconst 2, 1) := by decide +kernel
theorem dL_law_609 : decode cL_law 609 = .ok (.iadd, 1) := by decide +kernel
theorem dL_law_610 : decode cL_law 610 = .ok (.iaload, 1) := by decide +kernel
theorem dL_law_611 : decode cL_law 611 = .ok (.invokevirtual 92, 3) := by decide +kernel
theorem dL_law_614 : decode cL_law 614 = .ok (.if_icmp .eq 228, 3) := by decide +kernel
theorem dL_law_617 : decode cL_law 617 = .ok (.iconst 0, 1) := by decide +kernel
theorem dL_law_618 : decode cL_law 618 = .ok (.ireturn, 1) := by decide +kernel
theorem dL_law_619 : decode cL_law 619 = .ok (.aload_n 1, 1) := by decide +kernel
theorem dL_law_620 : decode cL_law 620 = .ok (.aload_n 0, 1) := by decide +kernel
theorem dL_law_621 : decode cL_law 621 = .ok (.iload_n 3, 1) := by decide +kernel
theorem dL_law_622 : decode cL_law 622 = .ok (.iconst 1, 1) := by decide +kernel
theorem dL_law_623 : decode cL_law 623 = .ok (.iadd, 1) := by decide +kernel
theorem dL_law_624 : decode cL_law 624 = .ok (.iaload, 1) := by decide +kernel
theorem dL_law_625 : decode cL_law 625 = .ok (.aload_n 0, 1) := by decide +kernel
theorem dL_law_626 : decode cL_law 626 = .ok (.iload_n 3, 1) := by decide +kernel
theorem dL_law_627 : decode cL_law 627 = .ok (.iconst 2, 1) := by decide +kernel
theorem dL_law_628 : decode cL_law 628 = .ok (.iadd, 1) := by decide +kernel
theorem dL_law_629 : decode cL_law 629 = .ok (.iaload, 1) := by decide +kernel
theorem dL_law_630 : decode cL_law 630 = .ok (.aload_n 0, 1) := by decide +kernel
theorem dL_law_631 : decode cL_law 631 = .ok (.iload_n 3, 1) := by decide +kernel
theorem dL_law_632 : decode cL_law 632 = .ok (.iconst 3, 1) := by decide +kernel
theorem dL_law_633 : decode cL_law 633 = .ok (.iadd, 1) := by decide +kernel
theorem dL_law_634 : decode cL_law 634 = .ok (.iaload, 1) := by decide +kernel
theorem dL_law_635 : decode cL_law 635 = .ok (.aload_n 0, 1) := by decide +kernel
theorem dL_law_636 : decode cL_law 636 = .ok (.iload_n 3, 1) := by decide +kernel
theorem dL_law_637 : decode cL_law 637 = .ok (.iconst 4, 1) := by decide +kernel
theorem dL_law_638 : decode cL_law 638 = .ok (.iadd, 1) := by decide +kernel
theorem dL_law_639 : decode cL_law 639 = .ok (.iaload, 1) := by decide +kernel
theorem dL_law_640 : decode cL_law 640 = .ok (.invokevirtual 93, 3) := by decide +kernel
theorem dL_law_643 : decode cL_law 643 = .ok (.aload_n 2, 1) := by decide +kernel
theorem dL_law_644 : decode cL_law 644 = .ok (.aload_n 0, 1) := by decide +kernel
theorem dL_law_645 : decode cL_law 645 = .ok (.iload_n 3, 1) := by decide +kernel
theorem dL_law_646 : decode cL_law 646 = .ok (.iconst 1, 1) := by decide +kernel
theorem dL_law_647 : decode cL_law 647 = .ok (.iadd, 1) := by decide +kernel
theorem dL_law_648 : decode cL_law 648 = .ok (.iaload, 1) := by decide +kernel
theorem dL_law_649 : decode cL_law 649 = .ok (.aload_n 0, 1) := by decide +kernel
theorem dL_law_650 : decode cL_law 650 = .ok (.iload_n 3, 1) := by decide +kernel
theorem dL_law_651 : decode cL_law 651 = .ok (.iconst 2, 1) := by decide +kernel
theorem dL_law_652 : decode cL_law 652 = .ok (.iadd, 1) := by decide +kernel
theorem dL_law_653 : decode cL_law 653 = .ok (.iaload, 1) := by decide +kernel
theorem dL_law_654 : decode cL_law 654 = .ok (.aload_n 0, 1) := by decide +kernel
theorem dL_law_655 : decode cL_law 655 = .ok (.iload_n 3, 1) := by decide +kernel
theorem dL_law_656 : decode cL_law 656 = .ok (.iconst 3, 1) := by decide +kernel
theorem dL_law_657 : decode cL_law 657 = .ok (.iadd, 1) := by decide +kernel
theorem dL_law_658 : decode cL_law 658 = .ok (.iaload, 1) := by decide +kernel
theorem dL_law_659 : decode cL_law 659 = .ok (.aload_n 0, 1) := by decide +kernel
theorem dL_law_660 : decode cL_law 660 = .ok (.iload_n 3, 1) := by decide +kernel
theorem dL_law_661 : decode cL_law 661 = .ok (.iconst 4, 1) := by decide +kernel
theorem dL_law_662 : decode cL_law 662 = .ok (.iadd, 1) := by decide +kernel
theorem dL_law_663 : decode cL_law 663 = .ok (.iaload, 1) := by decide +kernel
theorem dL_law_664 : decode cL_law 664 = .ok (.invokevirtual 97, 3) := by decide +kernel
theorem dL_law_667 : decode cL_law 667 = .ok (.lcmp, 1) := by decide +kernel
theorem dL_law_668 : decode cL_law 668 = .ok (.ifCond .eq 174, 3) := by decide +kernel
theorem dL_law_671 : decode cL_law 671 = .ok (.iconst 0, 1) := by decide +kernel
theorem dL_law_672 : decode cL_law 672 = .ok (.ireturn, 1) := by decide +kernel
theorem dL_law_673 : decode cL_law 673 = .ok (.aload_n 1, 1) := by decide +kernel
theorem dL_law_674 : decode cL_law 674 = .ok (.aload_n 0, 1) := by decide +kernel
theorem dL_law_675 : decode cL_law 675 = .ok (.iload_n 3, 1) := by decide +kernel
theorem dL_law_676 : decode cL_law 676 = .ok (.iconst 1, 1) := by decide +kernel
theorem dL_law_677 : decode cL_law 677 = .ok (.iadd, 1) := by decide +kernel
theorem dL_law_678 : decode cL_law 678 = .ok (.iaload, 1) := by decide +kernel
theorem dL_law_679 : decode cL_law 679 = .ok (.aload_n 0, 1) := by decide +kernel
theorem dL_law_680 : decode cL_law 680 = .ok (.iload_n 3, 1) := by decide +kernel
theorem dL_law_681 : decode cL_law 681 = .ok (.iconst 2, 1) := by decide +kernel
theorem dL_law_682 : decode cL_law 682 = .ok (.iadd, 1) := by decide +kernel
theorem dL_law_683 : decode cL_law 683 = .ok (.iaload, 1) := by decide +kernel
theorem dL_law_684 : decode cL_law 684 = .ok (.aload_n 0, 1) := by decide +kernel
theorem dL_law_685 : decode cL_law 685 = .ok (.iload_n 3, 1) := by decide +kernel
theorem dL_law_686 : decode cL_law 686 = .ok (.iconst 3, 1) := by decide +kernel
theorem dL_law_687 : decode cL_law 687 = .ok (.iadd, 1) := by decide +kernel
theorem dL_law_688 : decode cL_law 688 = .ok (.iaload, 1) := by decide +kernel
theorem dL_law_689 : decode cL_law 689 = .ok (.aload_n 0, 1) := by decide +kernel
theorem dL_law_690 : decode cL_law 690 = .ok (.iload_n 3, 1) := by decide +kernel
theorem dL_law_691 : decode cL_law 691 = .ok (.iconst 4, 1) := by decide +kernel
theorem dL_law_692 : decode cL_law 692 = .ok (.iadd, 1) := by decide +kernel
theorem dL_law_693 : decode cL_law 693 = .ok (.iaload, 1) := by decide +kernel
theorem dL_law_694 : decode cL_law 694 = .ok (.invokevirtual 98, 3) := by decide +kernel
theorem dL_law_697 : decode cL_law 697 = .ok (.aload_n 2, 1) := by decide +kernel
theorem dL_law_698 : decode cL_law 698 = .ok (.aload_n 0, 1) := by decide +kernel
theorem dL_law_699 : decode cL_law 699 = .ok (.iload_n 3, 1) := by decide +kernel
theorem dL_law_700 : decode cL_law 700 = .ok (.iconst 1, 1) := by decide +kernel
theorem dL_law_701 : decode cL_law 701 = .ok (.iadd, 1) := by decide +kernel
theorem dL_law_702 : decode cL_law 702 = .ok (.iaload, 1) := by decide +kernel
theorem dL_law_703 : decode cL_law 703 = .ok (.aload_n 0, 1) := by decide +kernel
theorem dL_law_704 : decode cL_law 704 = .ok (.iload_n 3, 1) := by decide +kernel
theorem dL_law_705 : decode cL_law 705 = .ok (.iconst 2, 1) := by decide +kernel
theorem dL_law_706 : decode cL_law 706 = .ok (.iadd, 1) := by decide +kernel
theorem dL_law_707 : decode cL_law 707 = .ok (.iaload, 1) := by decide +kernel
theorem dL_law_708 : decode cL_law 708 = .ok (.aload_n 0, 1) := by decide +kernel
theorem dL_law_709 : decode cL_law 709 = .ok (.iload_n 3, 1) := by decide +kernel
theorem dL_law_710 : decode cL_law 710 = .ok (.iconst 3, 1) := by decide +kernel
theorem dL_law_711 : decode cL_law 711 = .ok (.iadd, 1) := by decide +kernel
theorem dL_law_712 : decode cL_law 712 = .ok (.iaload, 1) := by decide +kernel
theorem dL_law_713 : decode cL_law 713 = .ok (.aload_n 0, 1) := by decide +kernel
theorem dL_law_714 : decode cL_law 714 = .ok (.iload_n 3, 1) := by decide +kernel
theorem dL_law_715 : decode cL_law 715 = .ok (.iconst 4, 1) := by decide +kernel
theorem dL_law_716 : decode cL_law 716 = .ok (.iadd, 1) := by decide +kernel
theorem dL_law_717 : decode cL_law 717 = .ok (.iaload, 1) := by decide +kernel
theorem dL_law_718 : decode cL_law 718 = .ok (.invokevirtual 102, 3) := by decide +kernel
theorem dL_law_721 : decode cL_law 721 = .ok (.if_icmp .eq 121, 3) := by decide +kernel
theorem dL_law_724 : decode cL_law 724 = .ok (.iconst 0, 1) := by decide +kernel
theorem dL_law_725 : decode cL_law 725 = .ok (.ireturn, 1) := by decide +kernel
theorem dL_law_726 : decode cL_law 726 = .ok (.aload_n 1, 1) := by decide +kernel
theorem dL_law_727 : decode cL_law 727 = .ok (.aload_n 0, 1) := by decide +kernel
theorem dL_law_728 : decode cL_law 728 = .ok (.iload_n 3, 1) := by decide +kernel
theorem dL_law_729 : decode cL_law 729 = .ok (.iconst 1, 1) := by decide +kernel
theorem dL_law_730 : decode cL_law 730 = .ok (.iadd, 1) := by decide +kernel
theorem dL_law_731 : decode cL_law 731 = .ok (.iaload, 1) := by decide +kernel
theorem dL_law_732 : decode cL_law 732 = .ok (.aload_n 0, 1) := by decide +kernel
theorem dL_law_733 : decode cL_law 733 = .ok (.iload_n 3, 1) := by decide +kernel
theorem dL_law_734 : decode cL_law 734 = .ok (.iconst 2, 1) := by decide +kernel
theorem dL_law_735 : decode cL_law 735 = .ok (.iadd, 1) := by decide +kernel
theorem dL_law_736 : decode cL_law 736 = .ok (.iaload, 1) := by decide +kernel
theorem dL_law_737 : decode cL_law 737 = .ok (.invokevirtual 103, 3) := by decide +kernel
theorem dL_law_740 : decode cL_law 740 = .ok (.aload_n 2, 1) := by decide +kernel
theorem dL_law_741 : decode cL_law 741 = .ok (.aload_n 0, 1) := by decide +kernel
theorem dL_law_742 : decode cL_law 742 = .ok (.iload_n 3, 1) := by decide +kernel
theorem dL_law_743 : decode cL_law 743 = .ok (.iconst 1, 1) := by decide +kernel
theorem dL_law_744 : decode cL_law 744 = .ok (.iadd, 1) := by decide +kernel
theorem dL_law_745 : decode cL_law 745 = .ok (.iaload, 1) := by decide +kernel
theorem dL_law_746 : decode cL_law 746 = .ok (.aload_n 0, 1) := by decide +kernel
theorem dL_law_747 : decode cL_law 747 = .ok (.iload_n 3, 1) := by decide +kernel
theorem dL_law_748 : decode cL_law 748 = .ok (.iconst 2, 1) := by decide +kernel
theorem dL_law_749 : decode cL_law 749 = .ok (.iadd, 1) := by decide +kernel
theorem dL_law_750 : decode cL_law 750 = .ok (.iaload, 1) := by decide +kernel
theorem dL_law_751 : decode cL_law 751 = .ok (.invokevirtual 106, 3) := by decide +kernel
theorem dL_law_754 : decode cL_law 754 = .ok (.if_icmp .eq 88, 3) := by decide +kernel
theorem dL_law_757 : decode cL_law 757 = .ok (.iconst 0, 1) := by decide +kernel
theorem dL_law_758 : decode cL_law 758 = .ok (.ireturn, 1) := by decide +kernel
theorem dL_law_759 : decode cL_law 759 = .ok (.aload_n 1, 1) := by decide +kernel
theorem dL_law_760 : decode cL_law 760 = .ok (.aload_n 0, 1) := by decide +kernel
theorem dL_law_761 : decode cL_law 761 = .ok (.iload_n 3, 1) := by decide +kernel
theorem dL_law_762 : decode cL_law 762 = .ok (.iconst 1, 1) := by decide +kernel
theorem dL_law_763 : decode cL_law 763 = .ok (.iadd, 1) := by decide +kernel
theorem dL_law_764 : decode cL_law 764 = .ok (.iaload, 1) := by decide +kernel
theorem dL_law_765 : decode cL_law 765 = .ok (.invokevirtual 107, 3) := by decide +kernel
theorem dL_law_768 : decode cL_law 768 = .ok (.aload_n 2, 1) := by decide +kernel
theorem dL_law_769 : decode cL_law 769 = .ok (.aload_n 0, 1) := by decide +kernel
theorem dL_law_770 : decode cL_law 770 = .ok (.iload_n 3, 1) := by decide +kernel
theorem dL_law_771 : decode cL_law 771 = .ok (.iconst 1, 1) := by decide +kernel
theorem dL_law_772 : decode cL_law 772 = .ok (.iadd, 1) := by decide +kernel
theorem dL_law_773 : decode cL_law 773 = .ok (.iaload, 1) := by decide +kernel
theorem dL_law_774 : decode cL_law 774 = .ok (.invokevirtual 110, 3) := by decide +kernel
theorem dL_law_777 : decode cL_law 777 = .ok (.if_icmp .eq 65, 3) := by decide +kernel
theorem dL_law_780 : decode cL_law 780 = .ok (.iconst 0, 1) := by decide +kernel
theorem dL_law_781 : decode cL_law 781 = .ok (.ireturn, 1) := by decide +kernel
theorem dL_law_782 : decode cL_law 782 = .ok (.aload_n 1, 1) := by decide +kernel
theorem dL_law_783 : decode cL_law 783 = .ok (.aload_n 0, 1) := by decide +kernel
theorem dL_law_784 : decode cL_law 784 = .ok (.iload_n 3, 1) := by decide +kernel
theorem dL_law_785 : decode cL_law 785 = .ok (.iconst 1, 1) := by decide +kernel
theorem dL_law_786 : decode cL_law 786 = .ok (.iadd, 1) := by decide +kernel
theorem dL_law_787 : decode cL_law 787 = .ok (.iaload, 1) := by decide +kernel
theorem dL_law_788 : decode cL_law 788 = .ok (.invokevirtual 111, 3) := by decide +kernel
theorem dL_law_791 : decode cL_law 791 = .ok (.aload_n 2, 1) := by decide +kernel
theorem dL_law_792 : decode cL_law 792 = .ok (.aload_n 0, 1) := by decide +kernel
theorem dL_law_793 : decode cL_law 793 = .ok (.iload_n 3, 1) := by decide +kernel
theorem dL_law_794 : decode cL_law 794 = .ok (.iconst 1, 1) := by decide +kernel
theorem dL_law_795 : decode cL_law 795 = .ok (.iadd, 1) := by decide +kernel
theorem dL_law_796 : decode cL_law 796 = .ok (.iaload, 1) := by decide +kernel
theorem dL_law_797 : decode cL_law 797 = .ok (.invokevirtual 114, 3) := by decide +kernel
theorem dL_law_800 : decode cL_law 800 = .ok (.if_icmp .eq 42, 3) := by decide +kernel
theorem dL_law_803 : decode cL_law 803 = .ok (.iconst 0, 1) := by decide +kernel
theorem dL_law_804 : decode cL_law 804 = .ok (.ireturn, 1) := by decide +kernel
theorem dL_law_805 : decode cL_law 805 = .ok (.aload_n 1, 1) := by decide +kernel
theorem dL_law_806 : decode cL_law 806 = .ok (.aload_n 0, 1) := by decide +kernel
theorem dL_law_807 : decode cL_law 807 = .ok (.iload_n 3, 1) := by decide +kernel
theorem dL_law_808 : decode cL_law 808 = .ok (.iconst 1, 1) := by decide +kernel
theorem dL_law_809 : decode cL_law 809 = .ok (.iadd, 1) := by decide +kernel
theorem dL_law_810 : decode cL_law 810 = .ok (.iaload, 1) := by decide +kernel
theorem dL_law_811 : decode cL_law 811 = .ok (.invokevirtual 115, 3) := by decide +kernel
theorem dL_law_814 : decode cL_law 814 = .ok (.aload_n 2, 1) := by decide +kernel
theorem dL_law_815 : decode cL_law 815 = .ok (.aload_n 0, 1) := by decide +kernel
theorem dL_law_816 : decode cL_law 816 = .ok (.iload_n 3, 1) := by decide +kernel
theorem dL_law_817 : decode cL_law 817 = .ok (.iconst 1, 1) := by decide +kernel
theorem dL_law_818 : decode cL_law 818 = .ok (.iadd, 1) := by decide +kernel
theorem dL_law_819 : decode cL_law 819 = .ok (.iaload, 1) := by decide +kernel
theorem dL_law_820 : decode cL_law 820 = .ok (.invokevirtual 118, 3) := by decide +kernel
theorem dL_law_823 : decode cL_law 823 = .ok (.if_icmp .eq 19, 3) := by decide +kernel
theorem dL_law_826 : decode cL_law 826 = .ok (.iconst 0, 1) := by decide +kernel
theorem dL_law_827 : decode cL_law 827 = .ok (.ireturn, 1) := by decide +kernel
theorem dL_law_828 : decode cL_law 828 = .ok (.aload_n 1, 1) := by decide +kernel
theorem dL_law_829 : decode cL_law 829 = .ok (.invokevirtual 119, 3) := by decide +kernel
theorem dL_law_832 : decode cL_law 832 = .ok (.aload_n 2, 1) := by decide +kernel
theorem dL_law_833 : decode cL_law 833 = .ok (.invokevirtual 123, 3) := by decide +kernel
theorem dL_law_836 : decode cL_law 836 = .ok (.lcmp, 1) := by decide +kernel
theorem dL_law_837 : decode cL_law 837 = .ok (.ifCond .eq 5, 3) := by decide +kernel
theorem dL_law_840 : decode cL_law 840 = .ok (.iconst 0, 1) := by decide +kernel
theorem dL_law_841 : decode cL_law 841 = .ok (.ireturn, 1) := by decide +kernel
theorem dL_law_842 : decode cL_law 842 = .ok (.iinc 3 5, 3) := by decide +kernel
theorem dL_law_845 : decode cL_law 845 = .ok (.goto (-827), 3) := by decide +kernel
theorem dL_law_848 : decode cL_law 848 = .ok (.iconst 1, 1) := by decide +kernel
theorem dL_law_849 : decode cL_law 849 = .ok (.ireturn, 1) := by decide +kernel
end
