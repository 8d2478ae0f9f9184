section
-- ===== PART A: goes FIRST, ahead of the names: the tables' words, and 'selects' of the private methods out of them =====
/-- a private method of a class that the tables say can be made, by its rows of tables_1 -/
def lw_okq (q : MethodName × Nat) : Prop := (q.1.cls ≠ "java/lang/invoke/MethodHandle" ∧ q.1.cls ≠ "java/lang/invoke/VarHandle") ∧ Cond.instantiable q.1.cls q.2 ∈ tables_1 ∧ Cond.privateMethod q.1 ∈ tables_1 ∧ Cond.instanceMethod q.1 ∈ tables_1
theorem lw_p0 : lw_okq (⟨"WheelTown$Reader", "readToken", "()V"⟩, 7) := ⟨⟨by decide +kernel, by decide +kernel⟩, List.mem_of_getElem? (i := 21) (by decide +kernel), List.mem_of_getElem? (i := 294) (by decide +kernel), List.mem_of_getElem? (i := 295) (by decide +kernel)⟩
theorem lw_p1 : lw_okq (⟨"WheelTown$Reader", "readLetters", "()V"⟩, 7) := ⟨⟨by decide +kernel, by decide +kernel⟩, List.mem_of_getElem? (i := 21) (by decide +kernel), List.mem_of_getElem? (i := 301) (by decide +kernel), List.mem_of_getElem? (i := 302) (by decide +kernel)⟩
theorem lw_p2 : lw_okq (⟨"WheelTown$Reader", "readDigits", "()V"⟩, 7) := ⟨⟨by decide +kernel, by decide +kernel⟩, List.mem_of_getElem? (i := 21) (by decide +kernel), List.mem_of_getElem? (i := 308) (by decide +kernel), List.mem_of_getElem? (i := 309) (by decide +kernel)⟩
theorem lw_p3 : lw_okq (⟨"WheelTown$Reader", "tellItem", "(LWheelTown$Ground;I)V"⟩, 7) := ⟨⟨by decide +kernel, by decide +kernel⟩, List.mem_of_getElem? (i := 21) (by decide +kernel), List.mem_of_getElem? (i := 315) (by decide +kernel), List.mem_of_getElem? (i := 316) (by decide +kernel)⟩
theorem lw_p4 : lw_okq (⟨"WheelTown$Reader", "tellRing", "(LWheelTown$Ground;I)V"⟩, 7) := ⟨⟨by decide +kernel, by decide +kernel⟩, List.mem_of_getElem? (i := 21) (by decide +kernel), List.mem_of_getElem? (i := 319) (by decide +kernel), List.mem_of_getElem? (i := 320) (by decide +kernel)⟩
theorem lw_p5 : lw_okq (⟨"WheelTown$Reader", "readNumber", "(II)I"⟩, 7) := ⟨⟨by decide +kernel, by decide +kernel⟩, List.mem_of_getElem? (i := 21) (by decide +kernel), List.mem_of_getElem? (i := 323) (by decide +kernel), List.mem_of_getElem? (i := 324) (by decide +kernel)⟩
theorem lw_p6 : lw_okq (⟨"WheelTown$Reader", "tellCost", "(LWheelTown$Ground;)V"⟩, 7) := ⟨⟨by decide +kernel, by decide +kernel⟩, List.mem_of_getElem? (i := 21) (by decide +kernel), List.mem_of_getElem? (i := 327) (by decide +kernel), List.mem_of_getElem? (i := 328) (by decide +kernel)⟩
theorem lw_p7 : lw_okq (⟨"WheelTown$Reader", "tellSun", "(LWheelTown$Ground;)V"⟩, 7) := ⟨⟨by decide +kernel, by decide +kernel⟩, List.mem_of_getElem? (i := 21) (by decide +kernel), List.mem_of_getElem? (i := 335) (by decide +kernel), List.mem_of_getElem? (i := 336) (by decide +kernel)⟩
theorem lw_p8 : lw_okq (⟨"WheelTown$Reader", "tellBridge", "(LWheelTown$Ground;)V"⟩, 7) := ⟨⟨by decide +kernel, by decide +kernel⟩, List.mem_of_getElem? (i := 21) (by decide +kernel), List.mem_of_getElem? (i := 339) (by decide +kernel), List.mem_of_getElem? (i := 340) (by decide +kernel)⟩
theorem lw_p9 : lw_okq (⟨"WheelTown$Reader", "tellWagon", "(LWheelTown$Ground;)V"⟩, 7) := ⟨⟨by decide +kernel, by decide +kernel⟩, List.mem_of_getElem? (i := 21) (by decide +kernel), List.mem_of_getElem? (i := 343) (by decide +kernel), List.mem_of_getElem? (i := 344) (by decide +kernel)⟩
theorem lw_p10 : lw_okq (⟨"WheelTown$Reader", "tellPair", "(LWheelTown$Ground;)V"⟩, 7) := ⟨⟨by decide +kernel, by decide +kernel⟩, List.mem_of_getElem? (i := 21) (by decide +kernel), List.mem_of_getElem? (i := 355) (by decide +kernel), List.mem_of_getElem? (i := 356) (by decide +kernel)⟩
theorem lw_p11 : lw_okq (⟨"WheelTown$Reader", "readStop", "()V"⟩, 7) := ⟨⟨by decide +kernel, by decide +kernel⟩, List.mem_of_getElem? (i := 21) (by decide +kernel), List.mem_of_getElem? (i := 363) (by decide +kernel), List.mem_of_getElem? (i := 364) (by decide +kernel)⟩
theorem lw_p12 : lw_okq (⟨"WheelTown$Ground", "joinPaces", "()V"⟩, 14) := ⟨⟨by decide +kernel, by decide +kernel⟩, List.mem_of_getElem? (i := 164) (by decide +kernel), List.mem_of_getElem? (i := 371) (by decide +kernel), List.mem_of_getElem? (i := 372) (by decide +kernel)⟩
theorem lw_p13 : lw_okq (⟨"WheelTown$Story", "loseOldest", "()V"⟩, 4) := ⟨⟨by decide +kernel, by decide +kernel⟩, List.mem_of_getElem? (i := 140) (by decide +kernel), List.mem_of_getElem? (i := 441) (by decide +kernel), List.mem_of_getElem? (i := 442) (by decide +kernel)⟩
theorem lw_p14 : lw_okq (⟨"WheelTown$Ground", "foremost", "(LWheelTown$Moment;I)I"⟩, 14) := ⟨⟨by decide +kernel, by decide +kernel⟩, List.mem_of_getElem? (i := 164) (by decide +kernel), List.mem_of_getElem? (i := 449) (by decide +kernel), List.mem_of_getElem? (i := 450) (by decide +kernel)⟩
theorem lw_p15 : lw_okq (⟨"WheelTown$Ground", "goOn", "(LWheelTown$Moment;I)Z"⟩, 14) := ⟨⟨by decide +kernel, by decide +kernel⟩, List.mem_of_getElem? (i := 164) (by decide +kernel), List.mem_of_getElem? (i := 453) (by decide +kernel), List.mem_of_getElem? (i := 454) (by decide +kernel)⟩
def lw_privs_1 : List (MethodName × Nat) := [(⟨"WheelTown$Reader", "readToken", "()V"⟩, 7), (⟨"WheelTown$Reader", "readLetters", "()V"⟩, 7), (⟨"WheelTown$Reader", "readDigits", "()V"⟩, 7), (⟨"WheelTown$Reader", "tellItem", "(LWheelTown$Ground;I)V"⟩, 7), (⟨"WheelTown$Reader", "tellRing", "(LWheelTown$Ground;I)V"⟩, 7), (⟨"WheelTown$Reader", "readNumber", "(II)I"⟩, 7), (⟨"WheelTown$Reader", "tellCost", "(LWheelTown$Ground;)V"⟩, 7), (⟨"WheelTown$Reader", "tellSun", "(LWheelTown$Ground;)V"⟩, 7), (⟨"WheelTown$Reader", "tellBridge", "(LWheelTown$Ground;)V"⟩, 7), (⟨"WheelTown$Reader", "tellWagon", "(LWheelTown$Ground;)V"⟩, 7), (⟨"WheelTown$Reader", "tellPair", "(LWheelTown$Ground;)V"⟩, 7), (⟨"WheelTown$Reader", "readStop", "()V"⟩, 7), (⟨"WheelTown$Ground", "joinPaces", "()V"⟩, 14), (⟨"WheelTown$Story", "loseOldest", "()V"⟩, 4), (⟨"WheelTown$Ground", "foremost", "(LWheelTown$Moment;I)I"⟩, 14), (⟨"WheelTown$Ground", "goOn", "(LWheelTown$Moment;I)Z"⟩, 14)]
theorem lw_r1 : ∀ q ∈ lw_privs_1, lw_okq q := List.forall_mem_cons.mpr ⟨lw_p0, List.forall_mem_cons.mpr ⟨lw_p1, List.forall_mem_cons.mpr ⟨lw_p2, List.forall_mem_cons.mpr ⟨lw_p3, List.forall_mem_cons.mpr ⟨lw_p4, List.forall_mem_cons.mpr ⟨lw_p5, List.forall_mem_cons.mpr ⟨lw_p6, List.forall_mem_cons.mpr ⟨lw_p7, List.forall_mem_cons.mpr ⟨lw_p8, List.forall_mem_cons.mpr ⟨lw_p9, List.forall_mem_cons.mpr ⟨lw_p10, List.forall_mem_cons.mpr ⟨lw_p11, List.forall_mem_cons.mpr ⟨lw_p12, List.forall_mem_cons.mpr ⟨lw_p13, List.forall_mem_cons.mpr ⟨lw_p14, List.forall_mem_cons.mpr ⟨lw_p15, fun _ h => absurd h List.not_mem_nil⟩⟩⟩⟩⟩⟩⟩⟩⟩⟩⟩⟩⟩⟩⟩⟩
theorem lw_p16 : lw_okq (⟨"WheelTown$Ground", "isBarred", "(LWheelTown$Moment;II)Z"⟩, 14) := ⟨⟨by decide +kernel, by decide +kernel⟩, List.mem_of_getElem? (i := 164) (by decide +kernel), List.mem_of_getElem? (i := 458) (by decide +kernel), List.mem_of_getElem? (i := 459) (by decide +kernel)⟩
theorem lw_p17 : lw_okq (⟨"WheelTown$Ground", "catchLate", "(LWheelTown$Moment;)V"⟩, 14) := ⟨⟨by decide +kernel, by decide +kernel⟩, List.mem_of_getElem? (i := 164) (by decide +kernel), List.mem_of_getElem? (i := 462) (by decide +kernel), List.mem_of_getElem? (i := 463) (by decide +kernel)⟩
theorem lw_p18 : lw_okq (⟨"WheelTown", "isTrialSafe", "()Z"⟩, 10) := ⟨⟨by decide +kernel, by decide +kernel⟩, List.mem_of_getElem? (i := 13) (by decide +kernel), List.mem_of_getElem? (i := 519) (by decide +kernel), List.mem_of_getElem? (i := 520) (by decide +kernel)⟩
theorem lw_p19 : lw_okq (⟨"WheelTown", "findStarts", "()Z"⟩, 10) := ⟨⟨by decide +kernel, by decide +kernel⟩, List.mem_of_getElem? (i := 13) (by decide +kernel), List.mem_of_getElem? (i := 537) (by decide +kernel), List.mem_of_getElem? (i := 538) (by decide +kernel)⟩
theorem lw_p20 : lw_okq (⟨"WheelTown", "isChance", "(III)Z"⟩, 10) := ⟨⟨by decide +kernel, by decide +kernel⟩, List.mem_of_getElem? (i := 13) (by decide +kernel), List.mem_of_getElem? (i := 583) (by decide +kernel), List.mem_of_getElem? (i := 584) (by decide +kernel)⟩
theorem lw_p21 : lw_okq (⟨"WheelTown$Chance", "chanceMinute", "(III)V"⟩, 3) := ⟨⟨by decide +kernel, by decide +kernel⟩, List.mem_of_getElem? (i := 76) (by decide +kernel), List.mem_of_getElem? (i := 600) (by decide +kernel), List.mem_of_getElem? (i := 601) (by decide +kernel)⟩
theorem lw_p22 : lw_okq (⟨"WheelTown", "wagonMark", "(I)I"⟩, 10) := ⟨⟨by decide +kernel, by decide +kernel⟩, List.mem_of_getElem? (i := 13) (by decide +kernel), List.mem_of_getElem? (i := 623) (by decide +kernel), List.mem_of_getElem? (i := 624) (by decide +kernel)⟩
theorem lw_p23 : lw_okq (⟨"WheelTown", "forgeMark", "(I)I"⟩, 10) := ⟨⟨by decide +kernel, by decide +kernel⟩, List.mem_of_getElem? (i := 13) (by decide +kernel), List.mem_of_getElem? (i := 627) (by decide +kernel), List.mem_of_getElem? (i := 628) (by decide +kernel)⟩
theorem lw_p24 : lw_okq (⟨"WheelTown", "chapelMark", "(I)I"⟩, 10) := ⟨⟨by decide +kernel, by decide +kernel⟩, List.mem_of_getElem? (i := 13) (by decide +kernel), List.mem_of_getElem? (i := 631) (by decide +kernel), List.mem_of_getElem? (i := 632) (by decide +kernel)⟩
theorem lw_p25 : lw_okq (⟨"WheelTown", "tenderMark", "(I)I"⟩, 10) := ⟨⟨by decide +kernel, by decide +kernel⟩, List.mem_of_getElem? (i := 13) (by decide +kernel), List.mem_of_getElem? (i := 636) (by decide +kernel), List.mem_of_getElem? (i := 637) (by decide +kernel)⟩
theorem lw_p26 : lw_okq (⟨"WheelTown", "houseMark", "(I)I"⟩, 10) := ⟨⟨by decide +kernel, by decide +kernel⟩, List.mem_of_getElem? (i := 13) (by decide +kernel), List.mem_of_getElem? (i := 641) (by decide +kernel), List.mem_of_getElem? (i := 642) (by decide +kernel)⟩
theorem lw_p27 : lw_okq (⟨"WheelTown", "railcartMark", "(I)I"⟩, 10) := ⟨⟨by decide +kernel, by decide +kernel⟩, List.mem_of_getElem? (i := 13) (by decide +kernel), List.mem_of_getElem? (i := 646) (by decide +kernel), List.mem_of_getElem? (i := 647) (by decide +kernel)⟩
theorem lw_p28 : lw_okq (⟨"WheelTownModel", "next", "()V"⟩, 39) := ⟨⟨by decide +kernel, by decide +kernel⟩, List.mem_of_getElem? (i := 671) (by decide +kernel), List.mem_of_getElem? (i := 812) (by decide +kernel), List.mem_of_getElem? (i := 813) (by decide +kernel)⟩
theorem lw_p29 : lw_okq (⟨"WheelTownModel", "here", "()I"⟩, 39) := ⟨⟨by decide +kernel, by decide +kernel⟩, List.mem_of_getElem? (i := 671) (by decide +kernel), List.mem_of_getElem? (i := 816) (by decide +kernel), List.mem_of_getElem? (i := 817) (by decide +kernel)⟩
theorem lw_p30 : lw_okq (⟨"WheelTownModel", "mayBe", "(I)Z"⟩, 39) := ⟨⟨by decide +kernel, by decide +kernel⟩, List.mem_of_getElem? (i := 671) (by decide +kernel), List.mem_of_getElem? (i := 820) (by decide +kernel), List.mem_of_getElem? (i := 821) (by decide +kernel)⟩
theorem lw_p31 : lw_okq (⟨"WheelTownModel", "due", "(Z)I"⟩, 39) := ⟨⟨by decide +kernel, by decide +kernel⟩, List.mem_of_getElem? (i := 671) (by decide +kernel), List.mem_of_getElem? (i := 824) (by decide +kernel), List.mem_of_getElem? (i := 825) (by decide +kernel)⟩
def lw_privs_2 : List (MethodName × Nat) := [(⟨"WheelTown$Ground", "isBarred", "(LWheelTown$Moment;II)Z"⟩, 14), (⟨"WheelTown$Ground", "catchLate", "(LWheelTown$Moment;)V"⟩, 14), (⟨"WheelTown", "isTrialSafe", "()Z"⟩, 10), (⟨"WheelTown", "findStarts", "()Z"⟩, 10), (⟨"WheelTown", "isChance", "(III)Z"⟩, 10), (⟨"WheelTown$Chance", "chanceMinute", "(III)V"⟩, 3), (⟨"WheelTown", "wagonMark", "(I)I"⟩, 10), (⟨"WheelTown", "forgeMark", "(I)I"⟩, 10), (⟨"WheelTown", "chapelMark", "(I)I"⟩, 10), (⟨"WheelTown", "tenderMark", "(I)I"⟩, 10), (⟨"WheelTown", "houseMark", "(I)I"⟩, 10), (⟨"WheelTown", "railcartMark", "(I)I"⟩, 10), (⟨"WheelTownModel", "next", "()V"⟩, 39), (⟨"WheelTownModel", "here", "()I"⟩, 39), (⟨"WheelTownModel", "mayBe", "(I)Z"⟩, 39), (⟨"WheelTownModel", "due", "(Z)I"⟩, 39)]
theorem lw_r2 : ∀ q ∈ lw_privs_2, lw_okq q := List.forall_mem_cons.mpr ⟨lw_p16, List.forall_mem_cons.mpr ⟨lw_p17, List.forall_mem_cons.mpr ⟨lw_p18, List.forall_mem_cons.mpr ⟨lw_p19, List.forall_mem_cons.mpr ⟨lw_p20, List.forall_mem_cons.mpr ⟨lw_p21, List.forall_mem_cons.mpr ⟨lw_p22, List.forall_mem_cons.mpr ⟨lw_p23, List.forall_mem_cons.mpr ⟨lw_p24, List.forall_mem_cons.mpr ⟨lw_p25, List.forall_mem_cons.mpr ⟨lw_p26, List.forall_mem_cons.mpr ⟨lw_p27, List.forall_mem_cons.mpr ⟨lw_p28, List.forall_mem_cons.mpr ⟨lw_p29, List.forall_mem_cons.mpr ⟨lw_p30, List.forall_mem_cons.mpr ⟨lw_p31, fun _ h => absurd h List.not_mem_nil⟩⟩⟩⟩⟩⟩⟩⟩⟩⟩⟩⟩⟩⟩⟩⟩
theorem lw_p32 : lw_okq (⟨"WheelTownModel", "readRow", "(I)V"⟩, 39) := ⟨⟨by decide +kernel, by decide +kernel⟩, List.mem_of_getElem? (i := 671) (by decide +kernel), List.mem_of_getElem? (i := 828) (by decide +kernel), List.mem_of_getElem? (i := 829) (by decide +kernel)⟩
theorem lw_p33 : lw_okq (⟨"WheelTownModel", "number", "(II)I"⟩, 39) := ⟨⟨by decide +kernel, by decide +kernel⟩, List.mem_of_getElem? (i := 671) (by decide +kernel), List.mem_of_getElem? (i := 832) (by decide +kernel), List.mem_of_getElem? (i := 833) (by decide +kernel)⟩
theorem lw_p34 : lw_okq (⟨"WheelTownModel", "placeTold", "()I"⟩, 39) := ⟨⟨by decide +kernel, by decide +kernel⟩, List.mem_of_getElem? (i := 671) (by decide +kernel), List.mem_of_getElem? (i := 836) (by decide +kernel), List.mem_of_getElem? (i := 837) (by decide +kernel)⟩
theorem lw_p35 : lw_okq (⟨"WheelTownModel", "readWagon", "()V"⟩, 39) := ⟨⟨by decide +kernel, by decide +kernel⟩, List.mem_of_getElem? (i := 671) (by decide +kernel), List.mem_of_getElem? (i := 840) (by decide +kernel), List.mem_of_getElem? (i := 841) (by decide +kernel)⟩
theorem lw_p36 : lw_okq (⟨"WheelTownModel", "isFreeAtFirst", "(II)Z"⟩, 39) := ⟨⟨by decide +kernel, by decide +kernel⟩, List.mem_of_getElem? (i := 671) (by decide +kernel), List.mem_of_getElem? (i := 844) (by decide +kernel), List.mem_of_getElem? (i := 845) (by decide +kernel)⟩
theorem lw_p37 : lw_okq (⟨"WheelTownModel", "take", "()V"⟩, 39) := ⟨⟨by decide +kernel, by decide +kernel⟩, List.mem_of_getElem? (i := 671) (by decide +kernel), List.mem_of_getElem? (i := 848) (by decide +kernel), List.mem_of_getElem? (i := 849) (by decide +kernel)⟩
theorem lw_p38 : lw_okq (⟨"WheelTownModel", "begin", "()V"⟩, 39) := ⟨⟨by decide +kernel, by decide +kernel⟩, List.mem_of_getElem? (i := 671) (by decide +kernel), List.mem_of_getElem? (i := 852) (by decide +kernel), List.mem_of_getElem? (i := 853) (by decide +kernel)⟩
theorem lw_p39 : lw_okq (⟨"WheelTownModel", "beginThen", "()V"⟩, 39) := ⟨⟨by decide +kernel, by decide +kernel⟩, List.mem_of_getElem? (i := 671) (by decide +kernel), List.mem_of_getElem? (i := 856) (by decide +kernel), List.mem_of_getElem? (i := 857) (by decide +kernel)⟩
theorem lw_p40 : lw_okq (⟨"WheelTownModel", "costAt", "(I)I"⟩, 39) := ⟨⟨by decide +kernel, by decide +kernel⟩, List.mem_of_getElem? (i := 671) (by decide +kernel), List.mem_of_getElem? (i := 860) (by decide +kernel), List.mem_of_getElem? (i := 861) (by decide +kernel)⟩
theorem lw_p41 : lw_okq (⟨"WheelTownModel", "toNow", "()V"⟩, 39) := ⟨⟨by decide +kernel, by decide +kernel⟩, List.mem_of_getElem? (i := 671) (by decide +kernel), List.mem_of_getElem? (i := 864) (by decide +kernel), List.mem_of_getElem? (i := 865) (by decide +kernel)⟩
theorem lw_p42 : lw_okq (⟨"WheelTownModel", "isWagon", "(I)Z"⟩, 39) := ⟨⟨by decide +kernel, by decide +kernel⟩, List.mem_of_getElem? (i := 671) (by decide +kernel), List.mem_of_getElem? (i := 876) (by decide +kernel), List.mem_of_getElem? (i := 877) (by decide +kernel)⟩
theorem lw_p43 : lw_okq (⟨"WheelTownModel", "sunAt", "(I)I"⟩, 39) := ⟨⟨by decide +kernel, by decide +kernel⟩, List.mem_of_getElem? (i := 671) (by decide +kernel), List.mem_of_getElem? (i := 884) (by decide +kernel), List.mem_of_getElem? (i := 885) (by decide +kernel)⟩
theorem lw_p44 : lw_okq (⟨"WheelTownModel", "toThen", "()V"⟩, 39) := ⟨⟨by decide +kernel, by decide +kernel⟩, List.mem_of_getElem? (i := 671) (by decide +kernel), List.mem_of_getElem? (i := 893) (by decide +kernel), List.mem_of_getElem? (i := 894) (by decide +kernel)⟩
theorem lw_p45 : lw_okq (⟨"WheelTownModel", "caughtThen", "()I"⟩, 39) := ⟨⟨by decide +kernel, by decide +kernel⟩, List.mem_of_getElem? (i := 671) (by decide +kernel), List.mem_of_getElem? (i := 897) (by decide +kernel), List.mem_of_getElem? (i := 898) (by decide +kernel)⟩
theorem lw_p46 : lw_okq (⟨"WheelTownModel", "know", "()V"⟩, 39) := ⟨⟨by decide +kernel, by decide +kernel⟩, List.mem_of_getElem? (i := 671) (by decide +kernel), List.mem_of_getElem? (i := 905) (by decide +kernel), List.mem_of_getElem? (i := 906) (by decide +kernel)⟩
theorem lw_p47 : lw_okq (⟨"WheelTownModel", "pass", "()V"⟩, 39) := ⟨⟨by decide +kernel, by decide +kernel⟩, List.mem_of_getElem? (i := 671) (by decide +kernel), List.mem_of_getElem? (i := 909) (by decide +kernel), List.mem_of_getElem? (i := 910) (by decide +kernel)⟩
def lw_privs_3 : List (MethodName × Nat) := [(⟨"WheelTownModel", "readRow", "(I)V"⟩, 39), (⟨"WheelTownModel", "number", "(II)I"⟩, 39), (⟨"WheelTownModel", "placeTold", "()I"⟩, 39), (⟨"WheelTownModel", "readWagon", "()V"⟩, 39), (⟨"WheelTownModel", "isFreeAtFirst", "(II)Z"⟩, 39), (⟨"WheelTownModel", "take", "()V"⟩, 39), (⟨"WheelTownModel", "begin", "()V"⟩, 39), (⟨"WheelTownModel", "beginThen", "()V"⟩, 39), (⟨"WheelTownModel", "costAt", "(I)I"⟩, 39), (⟨"WheelTownModel", "toNow", "()V"⟩, 39), (⟨"WheelTownModel", "isWagon", "(I)Z"⟩, 39), (⟨"WheelTownModel", "sunAt", "(I)I"⟩, 39), (⟨"WheelTownModel", "toThen", "()V"⟩, 39), (⟨"WheelTownModel", "caughtThen", "()I"⟩, 39), (⟨"WheelTownModel", "know", "()V"⟩, 39), (⟨"WheelTownModel", "pass", "()V"⟩, 39)]
theorem lw_r3 : ∀ q ∈ lw_privs_3, lw_okq q := List.forall_mem_cons.mpr ⟨lw_p32, List.forall_mem_cons.mpr ⟨lw_p33, List.forall_mem_cons.mpr ⟨lw_p34, List.forall_mem_cons.mpr ⟨lw_p35, List.forall_mem_cons.mpr ⟨lw_p36, List.forall_mem_cons.mpr ⟨lw_p37, List.forall_mem_cons.mpr ⟨lw_p38, List.forall_mem_cons.mpr ⟨lw_p39, List.forall_mem_cons.mpr ⟨lw_p40, List.forall_mem_cons.mpr ⟨lw_p41, List.forall_mem_cons.mpr ⟨lw_p42, List.forall_mem_cons.mpr ⟨lw_p43, List.forall_mem_cons.mpr ⟨lw_p44, List.forall_mem_cons.mpr ⟨lw_p45, List.forall_mem_cons.mpr ⟨lw_p46, List.forall_mem_cons.mpr ⟨lw_p47, fun _ h => absurd h List.not_mem_nil⟩⟩⟩⟩⟩⟩⟩⟩⟩⟩⟩⟩⟩⟩⟩⟩
theorem lw_p48 : lw_okq (⟨"WheelTownModel", "move", "(I)V"⟩, 39) := ⟨⟨by decide +kernel, by decide +kernel⟩, List.mem_of_getElem? (i := 671) (by decide +kernel), List.mem_of_getElem? (i := 913) (by decide +kernel), List.mem_of_getElem? (i := 914) (by decide +kernel)⟩
theorem lw_p49 : lw_okq (⟨"WheelTownModel", "isFree", "(II)Z"⟩, 39) := ⟨⟨by decide +kernel, by decide +kernel⟩, List.mem_of_getElem? (i := 671) (by decide +kernel), List.mem_of_getElem? (i := 917) (by decide +kernel), List.mem_of_getElem? (i := 918) (by decide +kernel)⟩
theorem lw_p50 : lw_okq (⟨"WheelTownModel", "isThere", "(II)Z"⟩, 39) := ⟨⟨by decide +kernel, by decide +kernel⟩, List.mem_of_getElem? (i := 671) (by decide +kernel), List.mem_of_getElem? (i := 932) (by decide +kernel), List.mem_of_getElem? (i := 933) (by decide +kernel)⟩
theorem lw_p51 : lw_okq (⟨"WheelTownModel", "passMany", "(I)V"⟩, 39) := ⟨⟨by decide +kernel, by decide +kernel⟩, List.mem_of_getElem? (i := 671) (by decide +kernel), List.mem_of_getElem? (i := 944) (by decide +kernel), List.mem_of_getElem? (i := 945) (by decide +kernel)⟩
theorem lw_p52 : lw_okq (⟨"WheelTownModel", "findStarts", "(I)I"⟩, 39) := ⟨⟨by decide +kernel, by decide +kernel⟩, List.mem_of_getElem? (i := 671) (by decide +kernel), List.mem_of_getElem? (i := 964) (by decide +kernel), List.mem_of_getElem? (i := 965) (by decide +kernel)⟩
theorem lw_p53 : lw_okq (⟨"WheelTownModel", "findLacking", "()V"⟩, 39) := ⟨⟨by decide +kernel, by decide +kernel⟩, List.mem_of_getElem? (i := 671) (by decide +kernel), List.mem_of_getElem? (i := 968) (by decide +kernel), List.mem_of_getElem? (i := 969) (by decide +kernel)⟩
theorem lw_p54 : lw_okq (⟨"WheelTownModel", "isWell", "(I)Z"⟩, 39) := ⟨⟨by decide +kernel, by decide +kernel⟩, List.mem_of_getElem? (i := 671) (by decide +kernel), List.mem_of_getElem? (i := 972) (by decide +kernel), List.mem_of_getElem? (i := 973) (by decide +kernel)⟩
theorem lw_p55 : lw_okq (⟨"WheelTownModel", "isAsked", "(III)Z"⟩, 39) := ⟨⟨by decide +kernel, by decide +kernel⟩, List.mem_of_getElem? (i := 671) (by decide +kernel), List.mem_of_getElem? (i := 992) (by decide +kernel), List.mem_of_getElem? (i := 993) (by decide +kernel)⟩
theorem lw_p56 : lw_okq (⟨"WheelTownModel", "findOdds", "(IIII)V"⟩, 39) := ⟨⟨by decide +kernel, by decide +kernel⟩, List.mem_of_getElem? (i := 671) (by decide +kernel), List.mem_of_getElem? (i := 998) (by decide +kernel), List.mem_of_getElem? (i := 999) (by decide +kernel)⟩
theorem lw_p57 : lw_okq (⟨"WheelTownModel", "copy", "(II)V"⟩, 39) := ⟨⟨by decide +kernel, by decide +kernel⟩, List.mem_of_getElem? (i := 671) (by decide +kernel), List.mem_of_getElem? (i := 1020) (by decide +kernel), List.mem_of_getElem? (i := 1021) (by decide +kernel)⟩
def lw_privs_4 : List (MethodName × Nat) := [(⟨"WheelTownModel", "move", "(I)V"⟩, 39), (⟨"WheelTownModel", "isFree", "(II)Z"⟩, 39), (⟨"WheelTownModel", "isThere", "(II)Z"⟩, 39), (⟨"WheelTownModel", "passMany", "(I)V"⟩, 39), (⟨"WheelTownModel", "findStarts", "(I)I"⟩, 39), (⟨"WheelTownModel", "findLacking", "()V"⟩, 39), (⟨"WheelTownModel", "isWell", "(I)Z"⟩, 39), (⟨"WheelTownModel", "isAsked", "(III)Z"⟩, 39), (⟨"WheelTownModel", "findOdds", "(IIII)V"⟩, 39), (⟨"WheelTownModel", "copy", "(II)V"⟩, 39)]
theorem lw_r4 : ∀ q ∈ lw_privs_4, lw_okq q := List.forall_mem_cons.mpr ⟨lw_p48, List.forall_mem_cons.mpr ⟨lw_p49, List.forall_mem_cons.mpr ⟨lw_p50, List.forall_mem_cons.mpr ⟨lw_p51, List.forall_mem_cons.mpr ⟨lw_p52, List.forall_mem_cons.mpr ⟨lw_p53, List.forall_mem_cons.mpr ⟨lw_p54, List.forall_mem_cons.mpr ⟨lw_p55, List.forall_mem_cons.mpr ⟨lw_p56, List.forall_mem_cons.mpr ⟨lw_p57, fun _ h => absurd h List.not_mem_nil⟩⟩⟩⟩⟩⟩⟩⟩⟩⟩
def lw_privs : List (MethodName × Nat) := lw_privs_1 ++ (lw_privs_2 ++ (lw_privs_3 ++ (lw_privs_4)))
def lw_tbl : List Cond := k2_sels lw_privs ++ tables_1
theorem lw_privs_ok : ∀ q ∈ lw_privs, lw_okq q := by
  show ∀ q ∈ lw_privs_1 ++ (lw_privs_2 ++ (lw_privs_3 ++ (lw_privs_4))), lw_okq q
  exact List.forall_mem_append.mpr ⟨lw_r1, List.forall_mem_append.mpr ⟨lw_r2, List.forall_mem_append.mpr ⟨lw_r3, lw_r4⟩⟩⟩
def RX0 : String := "WheelTown$Chance"
def TX0 : u_T := fun k => match k with
  | 0 => ("WheelTown$Chance", "minute", "I", false)
  | 1 => ("WheelTown$Chance", "wayBy", "[I", true)
  | _ => ("WheelTown$Chance", "runs", "[J", true)
def tyX0 : Nat → FieldType := fun k => match k with
  | 0 => .int
  | 1 => .array .int
  | _ => .array .long
abbrev wsX00 : List Cond := u_ws RX0 TX0 3
theorem nmX0 : ∀ a, a < 3 → ∀ b, b < 3 → a ≠ b → (TX0 a).2.1 ≠ (TX0 b).2.1 := by decide +kernel
theorem tyX0_ok : ∀ k, k < 3 → parseFieldDescriptor (TX0 k).2.2.1 = some (tyX0 k) := by decide +kernel
abbrev cX0_init : ByteArray := prog_2_method_1_code
def yX0_init : MethodName := ⟨RX0, "<init>", "()V"⟩
abbrev cX0_foresee : ByteArray := prog_2_method_2_code
def yX0_foresee : MethodName := ⟨RX0, "foresee", "(LWheelTown$Ground;LWheelTown$Moment;I)V"⟩
abbrev cX0_runsAhead : ByteArray := prog_2_method_3_code
def yX0_runsAhead : MethodName := ⟨RX0, "runsAhead", "(LWheelTown$Ground;III)J"⟩
abbrev cX0_chanceMinute : ByteArray := prog_2_method_4_code
def yX0_chanceMinute : MethodName := ⟨RX0, "chanceMinute", "(III)V"⟩
def RX1 : String := "WheelTown$Ground"
def TX1 : u_T := fun k => match k with
  | 0 => ("WheelTown$Ground", "places", "I", false)
  | 1 => ("WheelTown$Ground", "each", "I", false)
  | 2 => ("WheelTown$Ground", "lead", "I", false)
  | 3 => ("WheelTown$Ground", "sunTold", "Z", false)
  | 4 => ("WheelTown$Ground", "bridge", "I", false)
  | 5 => ("WheelTown$Ground", "points", "I", false)
  | 6 => ("WheelTown$Ground", "wagons", "I", false)
  | 7 => ("WheelTown$Ground", "pairs", "I", false)
  | 8 => ("WheelTown$Ground", "cost", "[I", true)
  | 9 => ("WheelTown$Ground", "pace", "[I", true)
  | 10 => ("WheelTown$Ground", "work", "[I", true)
  | 11 => ("WheelTown$Ground", "hitchedA", "[I", true)
  | 12 => ("WheelTown$Ground", "hitchedB", "[I", true)
  | _ => ("WheelTown$Ground", "first", "LWheelTown$Moment;", true)
def tyX1 : Nat → FieldType := fun k => match k with
  | 0 => .int
  | 1 => .int
  | 2 => .int
  | 3 => .boolean
  | 4 => .int
  | 5 => .int
  | 6 => .int
  | 7 => .int
  | 8 => .array .int
  | 9 => .array .int
  | 10 => .array .int
  | 11 => .array .int
  | 12 => .array .int
  | _ => .object "WheelTown$Moment"
abbrev wsX10 : List Cond := u_ws RX1 TX1 14
theorem nmX1 : ∀ a, a < 14 → ∀ b, b < 14 → a ≠ b → (TX1 a).2.1 ≠ (TX1 b).2.1 := by decide +kernel
theorem tyX1_ok : ∀ k, k < 14 → parseFieldDescriptor (TX1 k).2.2.1 = some (tyX1 k) := by decide +kernel
abbrev cX1_init : ByteArray := prog_3_method_1_code
def yX1_init : MethodName := ⟨RX1, "<init>", "()V"⟩
abbrev cX1_reset : ByteArray := prog_3_method_2_code
def yX1_reset : MethodName := ⟨RX1, "reset", "()V"⟩
abbrev cX1_addWagon : ByteArray := prog_3_method_3_code
def yX1_addWagon : MethodName := ⟨RX1, "addWagon", "(IIII)V"⟩
abbrev cX1_addPair : ByteArray := prog_3_method_4_code
def yX1_addPair : MethodName := ⟨RX1, "addPair", "(II)V"⟩
abbrev cX1_settle : ByteArray := prog_3_method_5_code
def yX1_settle : MethodName := ⟨RX1, "settle", "()V"⟩
abbrev cX1_joinPaces : ByteArray := prog_3_method_6_code
def yX1_joinPaces : MethodName := ⟨RX1, "joinPaces", "()V"⟩
abbrev cX1_hasPlace : ByteArray := prog_3_method_7_code
def yX1_hasPlace : MethodName := ⟨RX1, "hasPlace", "(I)Z"⟩
abbrev cX1_hasWagon : ByteArray := prog_3_method_8_code
def yX1_hasWagon : MethodName := ⟨RX1, "hasWagon", "(I)Z"⟩
abbrev cX1_hasPoints : ByteArray := prog_3_method_9_code
def yX1_hasPoints : MethodName := ⟨RX1, "hasPoints", "(I)Z"⟩
abbrev cX1_placeOf : ByteArray := prog_3_method_10_code
def yX1_placeOf : MethodName := ⟨RX1, "placeOf", "(I)I"⟩
abbrev cX1_minutesFor : ByteArray := prog_3_method_11_code
def yX1_minutesFor : MethodName := ⟨RX1, "minutesFor", "(II)I"⟩
abbrev cX1_sunWay : ByteArray := prog_3_method_12_code
def yX1_sunWay : MethodName := ⟨RX1, "sunWay", "(II)I"⟩
abbrev cX1_isTaken : ByteArray := prog_3_method_13_code
def yX1_isTaken : MethodName := ⟨RX1, "isTaken", "(LWheelTown$Moment;II)Z"⟩
abbrev cX1_pass : ByteArray := prog_3_method_14_code
def yX1_pass : MethodName := ⟨RX1, "pass", "(LWheelTown$Moment;)I"⟩
abbrev cX1_foremost : ByteArray := prog_3_method_15_code
def yX1_foremost : MethodName := ⟨RX1, "foremost", "(LWheelTown$Moment;I)I"⟩
abbrev cX1_goOn : ByteArray := prog_3_method_16_code
def yX1_goOn : MethodName := ⟨RX1, "goOn", "(LWheelTown$Moment;I)Z"⟩
abbrev cX1_isBarred : ByteArray := prog_3_method_17_code
def yX1_isBarred : MethodName := ⟨RX1, "isBarred", "(LWheelTown$Moment;II)Z"⟩
abbrev cX1_catchLate : ByteArray := prog_3_method_18_code
def yX1_catchLate : MethodName := ⟨RX1, "catchLate", "(LWheelTown$Moment;)V"⟩
abbrev cX1_withWorkDone : ByteArray := prog_3_method_19_code
def yX1_withWorkDone : MethodName := ⟨RX1, "withWorkDone", "(LWheelTown$Moment;)I"⟩
abbrev cX1_wagonsAt : ByteArray := prog_3_method_20_code
def yX1_wagonsAt : MethodName := ⟨RX1, "wagonsAt", "(LWheelTown$Moment;I)I"⟩
abbrev cX1_lengthOn : ByteArray := prog_3_method_21_code
def yX1_lengthOn : MethodName := ⟨RX1, "lengthOn", "(LWheelTown$Moment;I)I"⟩
def RX2 : String := "WheelTown$Moment"
def TX2 : u_T := fun k => match k with
  | 0 => ("WheelTown$Moment", "minute", "I", false)
  | 1 => ("WheelTown$Moment", "caught", "I", false)
  | 2 => ("WheelTown$Moment", "way", "[I", true)
  | 3 => ("WheelTown$Moment", "rail", "[I", true)
  | 4 => ("WheelTown$Moment", "left", "[I", true)
  | 5 => ("WheelTown$Moment", "stand", "[I", true)
  | _ => ("WheelTown$Moment", "done", "[I", true)
def tyX2 : Nat → FieldType := fun k => match k with
  | 0 => .int
  | 1 => .int
  | 2 => .array .int
  | 3 => .array .int
  | 4 => .array .int
  | 5 => .array .int
  | _ => .array .int
abbrev wsX20 : List Cond := u_ws RX2 TX2 7
theorem nmX2 : ∀ a, a < 7 → ∀ b, b < 7 → a ≠ b → (TX2 a).2.1 ≠ (TX2 b).2.1 := by decide +kernel
theorem tyX2_ok : ∀ k, k < 7 → parseFieldDescriptor (TX2 k).2.2.1 = some (tyX2 k) := by decide +kernel
abbrev cX2_init : ByteArray := prog_4_method_1_code
def yX2_init : MethodName := ⟨RX2, "<init>", "()V"⟩
abbrev cX2_copyFrom : ByteArray := prog_4_method_2_code
def yX2_copyFrom : MethodName := ⟨RX2, "copyFrom", "(LWheelTown$Moment;)V"⟩
abbrev cX2_isCaught : ByteArray := prog_4_method_3_code
def yX2_isCaught : MethodName := ⟨RX2, "isCaught", "(I)Z"⟩
def RX3 : String := "WheelTown$Plan"
def TX3 : u_T := fun k => match k with
  | 0 => ("WheelTown$Plan", "size", "I", false)
  | 1 => ("WheelTown$Plan", "spared", "I", false)
  | 2 => ("WheelTown$Plan", "who", "[I", true)
  | 3 => ("WheelTown$Plan", "lack", "[I", true)
  | _ => ("WheelTown$Plan", "start", "[I", true)
def tyX3 : Nat → FieldType := fun k => match k with
  | 0 => .int
  | 1 => .int
  | 2 => .array .int
  | 3 => .array .int
  | _ => .array .int
abbrev wsX30 : List Cond := u_ws RX3 TX3 5
theorem nmX3 : ∀ a, a < 5 → ∀ b, b < 5 → a ≠ b → (TX3 a).2.1 ≠ (TX3 b).2.1 := by decide +kernel
theorem tyX3_ok : ∀ k, k < 5 → parseFieldDescriptor (TX3 k).2.2.1 = some (tyX3 k) := by decide +kernel
abbrev cX3_init : ByteArray := prog_5_method_1_code
def yX3_init : MethodName := ⟨RX3, "<init>", "()V"⟩
abbrev cX3_gatherNone : ByteArray := prog_5_method_2_code
def yX3_gatherNone : MethodName := ⟨RX3, "gatherNone", "()V"⟩
abbrev cX3_gather : ByteArray := prog_5_method_3_code
def yX3_gather : MethodName := ⟨RX3, "gather", "(LWheelTown$Ground;LWheelTown$Moment;)V"⟩
abbrev cX3_setStarts : ByteArray := prog_5_method_4_code
def yX3_setStarts : MethodName := ⟨RX3, "setStarts", "(III)V"⟩
abbrev cX3_latest : ByteArray := prog_5_method_5_code
def yX3_latest : MethodName := ⟨RX3, "latest", "(I)I"⟩
abbrev cX3_order : ByteArray := prog_5_method_6_code
def yX3_order : MethodName := ⟨RX3, "order", "(LWheelTown$Moment;I)V"⟩
abbrev cX3_sum : ByteArray := prog_5_method_7_code
def yX3_sum : MethodName := ⟨RX3, "sum", "()I"⟩
abbrev cX3_startOf : ByteArray := prog_5_method_8_code
def yX3_startOf : MethodName := ⟨RX3, "startOf", "(I)I"⟩
def RX4 : String := "WheelTown$Reader"
def TX4 : u_T := fun k => match k with
  | 0 => ("WheelTown$Reader", "bytes", "[I", true)
  | 1 => ("WheelTown$Reader", "length", "I", false)
  | 2 => ("WheelTown$Reader", "at", "I", false)
  | 3 => ("WheelTown$Reader", "token", "I", false)
  | 4 => ("WheelTown$Reader", "first", "I", false)
  | 5 => ("WheelTown$Reader", "value", "I", false)
  | _ => ("WheelTown$Reader", "faulty", "Z", false)
def tyX4 : Nat → FieldType := fun k => match k with
  | 0 => .array .int
  | 1 => .int
  | 2 => .int
  | 3 => .int
  | 4 => .int
  | 5 => .int
  | _ => .boolean
abbrev wsX40 : List Cond := u_ws RX4 TX4 7
theorem nmX4 : ∀ a, a < 7 → ∀ b, b < 7 → a ≠ b → (TX4 a).2.1 ≠ (TX4 b).2.1 := by decide +kernel
theorem tyX4_ok : ∀ k, k < 7 → parseFieldDescriptor (TX4 k).2.2.1 = some (tyX4 k) := by decide +kernel
abbrev cX4_init : ByteArray := prog_6_method_1_code
def yX4_init : MethodName := ⟨RX4, "<init>", "()V"⟩
abbrev cX4_add : ByteArray := prog_6_method_2_code
def yX4_add : MethodName := ⟨RX4, "add", "(I)Z"⟩
abbrev cX4_tell : ByteArray := prog_6_method_3_code
def yX4_tell : MethodName := ⟨RX4, "tell", "(LWheelTown$Ground;)I"⟩
abbrev cX4_tellItem : ByteArray := prog_6_method_4_code
def yX4_tellItem : MethodName := ⟨RX4, "tellItem", "(LWheelTown$Ground;I)V"⟩
abbrev cX4_tellRing : ByteArray := prog_6_method_5_code
def yX4_tellRing : MethodName := ⟨RX4, "tellRing", "(LWheelTown$Ground;I)V"⟩
abbrev cX4_tellCost : ByteArray := prog_6_method_6_code
def yX4_tellCost : MethodName := ⟨RX4, "tellCost", "(LWheelTown$Ground;)V"⟩
abbrev cX4_tellSun : ByteArray := prog_6_method_7_code
def yX4_tellSun : MethodName := ⟨RX4, "tellSun", "(LWheelTown$Ground;)V"⟩
abbrev cX4_tellBridge : ByteArray := prog_6_method_8_code
def yX4_tellBridge : MethodName := ⟨RX4, "tellBridge", "(LWheelTown$Ground;)V"⟩
abbrev cX4_tellWagon : ByteArray := prog_6_method_9_code
def yX4_tellWagon : MethodName := ⟨RX4, "tellWagon", "(LWheelTown$Ground;)V"⟩
abbrev cX4_tellPair : ByteArray := prog_6_method_10_code
def yX4_tellPair : MethodName := ⟨RX4, "tellPair", "(LWheelTown$Ground;)V"⟩
abbrev cX4_readNumber : ByteArray := prog_6_method_11_code
def yX4_readNumber : MethodName := ⟨RX4, "readNumber", "(II)I"⟩
abbrev cX4_readStop : ByteArray := prog_6_method_12_code
def yX4_readStop : MethodName := ⟨RX4, "readStop", "()V"⟩
abbrev cX4_readToken : ByteArray := prog_6_method_13_code
def yX4_readToken : MethodName := ⟨RX4, "readToken", "()V"⟩
abbrev cX4_readLetters : ByteArray := prog_6_method_14_code
def yX4_readLetters : MethodName := ⟨RX4, "readLetters", "()V"⟩
abbrev cX4_readDigits : ByteArray := prog_6_method_15_code
def yX4_readDigits : MethodName := ⟨RX4, "readDigits", "()V"⟩
abbrev cX4_isLetter : ByteArray := prog_6_method_16_code
def yX4_isLetter : MethodName := ⟨RX4, "isLetter", "(I)Z"⟩
abbrev cX4_isDigit : ByteArray := prog_6_method_17_code
def yX4_isDigit : MethodName := ⟨RX4, "isDigit", "(I)Z"⟩
def RX5 : String := "WheelTown$Story"
def TX5 : u_T := fun k => match k with
  | 0 => ("WheelTown$Story", "now", "LWheelTown$Moment;", true)
  | 1 => ("WheelTown$Story", "past", "[LWheelTown$Moment;", true)
  | 2 => ("WheelTown$Story", "known", "I", false)
  | _ => ("WheelTown$Story", "kept", "Z", false)
def tyX5 : Nat → FieldType := fun k => match k with
  | 0 => .object "WheelTown$Moment"
  | 1 => .array (.object "WheelTown$Moment")
  | 2 => .int
  | _ => .boolean
abbrev wsX50 : List Cond := u_ws RX5 TX5 4
theorem nmX5 : ∀ a, a < 4 → ∀ b, b < 4 → a ≠ b → (TX5 a).2.1 ≠ (TX5 b).2.1 := by decide +kernel
theorem tyX5_ok : ∀ k, k < 4 → parseFieldDescriptor (TX5 k).2.2.1 = some (tyX5 k) := by decide +kernel
abbrev cX5_init : ByteArray := prog_7_method_1_code
def yX5_init : MethodName := ⟨RX5, "<init>", "()V"⟩
abbrev cX5_begin : ByteArray := prog_7_method_2_code
def yX5_begin : MethodName := ⟨RX5, "begin", "(LWheelTown$Moment;)V"⟩
abbrev cX5_remember : ByteArray := prog_7_method_3_code
def yX5_remember : MethodName := ⟨RX5, "remember", "()V"⟩
abbrev cX5_loseOldest : ByteArray := prog_7_method_4_code
def yX5_loseOldest : MethodName := ⟨RX5, "loseOldest", "()V"⟩
abbrev cX5_takeBack : ByteArray := prog_7_method_5_code
def yX5_takeBack : MethodName := ⟨RX5, "takeBack", "()Z"⟩
abbrev cX5_copyFrom : ByteArray := prog_7_method_6_code
def yX5_copyFrom : MethodName := ⟨RX5, "copyFrom", "(LWheelTown$Story;)V"⟩
def RX6 : String := "WheelTown"
def TX6 : u_T := fun k => match k with
  | 0 => ("WheelTown", "reader", "LWheelTown$Reader;", true)
  | 1 => ("WheelTown", "plan", "LWheelTown$Plan;", true)
  | 2 => ("WheelTown", "chance", "LWheelTown$Chance;", true)
  | 3 => ("WheelTown", "trial", "LWheelTown$Moment;", true)
  | 4 => ("WheelTown", "story", "LWheelTown$Story;", true)
  | 5 => ("WheelTown", "image0", "LWheelTown$Story;", true)
  | 6 => ("WheelTown", "image1", "LWheelTown$Story;", true)
  | 7 => ("WheelTown", "ground", "LWheelTown$Ground;", false)
  | 8 => ("WheelTown", "draft", "LWheelTown$Ground;", false)
  | _ => ("WheelTown", "trace", "J", false)
def tyX6 : Nat → FieldType := fun k => match k with
  | 0 => .object "WheelTown$Reader"
  | 1 => .object "WheelTown$Plan"
  | 2 => .object "WheelTown$Chance"
  | 3 => .object "WheelTown$Moment"
  | 4 => .object "WheelTown$Story"
  | 5 => .object "WheelTown$Story"
  | 6 => .object "WheelTown$Story"
  | 7 => .object "WheelTown$Ground"
  | 8 => .object "WheelTown$Ground"
  | _ => .long
abbrev wsX60 : List Cond := u_ws RX6 TX6 10
theorem nmX6 : ∀ a, a < 10 → ∀ b, b < 10 → a ≠ b → (TX6 a).2.1 ≠ (TX6 b).2.1 := by decide +kernel
theorem tyX6_ok : ∀ k, k < 10 → parseFieldDescriptor (TX6 k).2.2.1 = some (tyX6 k) := by decide +kernel
abbrev cX6_init : ByteArray := prog_1_method_1_code
def yX6_init : MethodName := ⟨RX6, "<init>", "()V"⟩
abbrev cX6_type : ByteArray := prog_1_method_2_code
def yX6_type : MethodName := ⟨RX6, "type", "(I)I"⟩
abbrev cX6_clear : ByteArray := prog_1_method_3_code
def yX6_clear : MethodName := ⟨RX6, "clear", "()I"⟩
abbrev cX6_world : ByteArray := prog_1_method_4_code
def yX6_world : MethodName := ⟨RX6, "world", "()I"⟩
abbrev cX6_place : ByteArray := prog_1_method_5_code
def yX6_place : MethodName := ⟨RX6, "place", "(II)I"⟩
abbrev cX6_wagon : ByteArray := prog_1_method_6_code
def yX6_wagon : MethodName := ⟨RX6, "wagon", "(II)I"⟩
abbrev cX6_now : ByteArray := prog_1_method_7_code
def yX6_now : MethodName := ⟨RX6, "now", "(I)I"⟩
abbrev cX6_sun : ByteArray := prog_1_method_8_code
def yX6_sun : MethodName := ⟨RX6, "sun", "(I)I"⟩
abbrev cX6_minute : ByteArray := prog_1_method_9_code
def yX6_minute : MethodName := ⟨RX6, "minute", "()I"⟩
abbrev cX6_stand : ByteArray := prog_1_method_10_code
def yX6_stand : MethodName := ⟨RX6, "stand", "(II)I"⟩
abbrev cX6_change : ByteArray := prog_1_method_11_code
def yX6_change : MethodName := ⟨RX6, "change", "(II)I"⟩
abbrev cX6_undo : ByteArray := prog_1_method_12_code
def yX6_undo : MethodName := ⟨RX6, "undo", "()I"⟩
abbrev cX6_behind : ByteArray := prog_1_method_13_code
def yX6_behind : MethodName := ⟨RX6, "behind", "(III)I"⟩
abbrev cX6_caught : ByteArray := prog_1_method_14_code
def yX6_caught : MethodName := ⟨RX6, "caught", "(I)I"⟩
abbrev cX6_waits : ByteArray := prog_1_method_15_code
def yX6_waits : MethodName := ⟨RX6, "waits", "(I)I"⟩
abbrev cX6_stands : ByteArray := prog_1_method_16_code
def yX6_stands : MethodName := ⟨RX6, "stands", "(I)I"⟩
abbrev cX6_starts : ByteArray := prog_1_method_17_code
def yX6_starts : MethodName := ⟨RX6, "starts", "(I)I"⟩
abbrev cX6_bars : ByteArray := prog_1_method_18_code
def yX6_bars : MethodName := ⟨RX6, "bars", "()I"⟩
abbrev cX6_pieces : ByteArray := prog_1_method_19_code
def yX6_pieces : MethodName := ⟨RX6, "pieces", "(II)I"⟩
abbrev cX6_met : ByteArray := prog_1_method_20_code
def yX6_met : MethodName := ⟨RX6, "met", "(II)I"⟩
abbrev cX6_odds : ByteArray := prog_1_method_21_code
def yX6_odds : MethodName := ⟨RX6, "odds", "(IIII)J"⟩
abbrev cX6_keepAhead : ByteArray := prog_1_method_22_code
def yX6_keepAhead : MethodName := ⟨RX6, "keepAhead", "(IIII)I"⟩
abbrev cX6_mark : ByteArray := prog_1_method_23_code
def yX6_mark : MethodName := ⟨RX6, "mark", "(II)I"⟩
abbrev cX6_keep : ByteArray := prog_1_method_24_code
def yX6_keep : MethodName := ⟨RX6, "keep", "(I)I"⟩
abbrev cX6_back : ByteArray := prog_1_method_25_code
def yX6_back : MethodName := ⟨RX6, "back", "(I)I"⟩
abbrev cX6_count : ByteArray := prog_1_method_26_code
def yX6_count : MethodName := ⟨RX6, "count", "(I)I"⟩
abbrev cX6_trace : ByteArray := prog_1_method_27_code
def yX6_trace : MethodName := ⟨RX6, "trace", "()J"⟩
abbrev cX6_leastOf : ByteArray := prog_1_method_28_code
def yX6_leastOf : MethodName := ⟨RX6, "leastOf", "(I)I"⟩
abbrev cX6_findStarts : ByteArray := prog_1_method_29_code
def yX6_findStarts : MethodName := ⟨RX6, "findStarts", "()Z"⟩
abbrev cX6_isTrialSafe : ByteArray := prog_1_method_30_code
def yX6_isTrialSafe : MethodName := ⟨RX6, "isTrialSafe", "()Z"⟩
abbrev cX6_isChance : ByteArray := prog_1_method_31_code
def yX6_isChance : MethodName := ⟨RX6, "isChance", "(III)Z"⟩
abbrev cX6_powerOfTen : ByteArray := prog_1_method_32_code
def yX6_powerOfTen : MethodName := ⟨RX6, "powerOfTen", "(I)J"⟩
abbrev cX6_commonDivisor : ByteArray := prog_1_method_33_code
def yX6_commonDivisor : MethodName := ⟨RX6, "commonDivisor", "(JJ)J"⟩
abbrev cX6_wagonMark : ByteArray := prog_1_method_34_code
def yX6_wagonMark : MethodName := ⟨RX6, "wagonMark", "(I)I"⟩
abbrev cX6_forgeMark : ByteArray := prog_1_method_35_code
def yX6_forgeMark : MethodName := ⟨RX6, "forgeMark", "(I)I"⟩
abbrev cX6_chapelMark : ByteArray := prog_1_method_36_code
def yX6_chapelMark : MethodName := ⟨RX6, "chapelMark", "(I)I"⟩
abbrev cX6_tenderMark : ByteArray := prog_1_method_37_code
def yX6_tenderMark : MethodName := ⟨RX6, "tenderMark", "(I)I"⟩
abbrev cX6_houseMark : ByteArray := prog_1_method_38_code
def yX6_houseMark : MethodName := ⟨RX6, "houseMark", "(I)I"⟩
abbrev cX6_railcartMark : ByteArray := prog_1_method_39_code
def yX6_railcartMark : MethodName := ⟨RX6, "railcartMark", "(I)I"⟩
def RX7 : String := "WheelTownModel"
def TX7 : u_T := fun k => match k with
  | 0 => ("WheelTownModel", "trace", "J", false)
  | 1 => ("WheelTownModel", "text", "[B", true)
  | 2 => ("WheelTownModel", "typed", "I", false)
  | 3 => ("WheelTownModel", "size", "[I", true)
  | 4 => ("WheelTownModel", "each", "[I", true)
  | 5 => ("WheelTownModel", "lead", "[I", true)
  | 6 => ("WheelTownModel", "bridge", "[I", true)
  | 7 => ("WheelTownModel", "points", "[I", true)
  | 8 => ("WheelTownModel", "wagons", "[I", true)
  | 9 => ("WheelTownModel", "pairs", "[I", true)
  | 10 => ("WheelTownModel", "costs", "[I", true)
  | 11 => ("WheelTownModel", "firstWay", "[I", true)
  | 12 => ("WheelTownModel", "paces", "[I", true)
  | 13 => ("WheelTownModel", "works", "[I", true)
  | 14 => ("WheelTownModel", "firstRail", "[I", true)
  | 15 => ("WheelTownModel", "pairA", "[I", true)
  | 16 => ("WheelTownModel", "pairB", "[I", true)
  | 17 => ("WheelTownModel", "pace", "[I", true)
  | 18 => ("WheelTownModel", "at", "I", false)
  | 19 => ("WheelTownModel", "start", "I", false)
  | 20 => ("WheelTownModel", "sort", "I", false)
  | 21 => ("WheelTownModel", "value", "I", false)
  | 22 => ("WheelTownModel", "fault", "I", false)
  | 23 => ("WheelTownModel", "items", "I", false)
  | 24 => ("WheelTownModel", "hasSun", "Z", false)
  | 25 => ("WheelTownModel", "hasBridge", "Z", false)
  | 26 => ("WheelTownModel", "now", "[I", true)
  | 27 => ("WheelTownModel", "then", "[I", true)
  | 28 => ("WheelTownModel", "isKept", "[Z", true)
  | 29 => ("WheelTownModel", "waiting", "I", false)
  | 30 => ("WheelTownModel", "lacking", "[I", true)
  | 31 => ("WheelTownModel", "lackingMany", "I", false)
  | 32 => ("WheelTownModel", "lacks", "[I", true)
  | 33 => ("WheelTownModel", "tried", "[I", true)
  | 34 => ("WheelTownModel", "best", "[I", true)
  | 35 => ("WheelTownModel", "ways", "[J", true)
  | 36 => ("WheelTownModel", "onward", "[J", true)
  | 37 => ("WheelTownModel", "upper", "J", false)
  | _ => ("WheelTownModel", "lower", "J", false)
def tyX7 : Nat → FieldType := fun k => match k with
  | 0 => .long
  | 1 => .array .byte
  | 2 => .int
  | 3 => .array .int
  | 4 => .array .int
  | 5 => .array .int
  | 6 => .array .int
  | 7 => .array .int
  | 8 => .array .int
  | 9 => .array .int
  | 10 => .array .int
  | 11 => .array .int
  | 12 => .array .int
  | 13 => .array .int
  | 14 => .array .int
  | 15 => .array .int
  | 16 => .array .int
  | 17 => .array .int
  | 18 => .int
  | 19 => .int
  | 20 => .int
  | 21 => .int
  | 22 => .int
  | 23 => .int
  | 24 => .boolean
  | 25 => .boolean
  | 26 => .array .int
  | 27 => .array .int
  | 28 => .array .boolean
  | 29 => .int
  | 30 => .array .int
  | 31 => .int
  | 32 => .array .int
  | 33 => .array .int
  | 34 => .array .int
  | 35 => .array .long
  | 36 => .array .long
  | 37 => .long
  | _ => .long
abbrev wsX70 : List Cond := u_ws RX7 TX7 39
theorem nmX7 : ∀ a, a < 39 → ∀ b, b < 39 → a ≠ b → (TX7 a).2.1 ≠ (TX7 b).2.1 := by decide +kernel
theorem tyX7_ok : ∀ k, k < 39 → parseFieldDescriptor (TX7 k).2.2.1 = some (tyX7 k) := by decide +kernel
abbrev cX7_init : ByteArray := prog_9_method_1_code
def yX7_init : MethodName := ⟨RX7, "<init>", "()V"⟩
abbrev cX7_in : ByteArray := prog_9_method_3_code
def yX7_in : MethodName := ⟨RX7, "in", "(III)Z"⟩
abbrev cX7_type : ByteArray := prog_9_method_4_code
def yX7_type : MethodName := ⟨RX7, "type", "(I)I"⟩
abbrev cX7_clear : ByteArray := prog_9_method_5_code
def yX7_clear : MethodName := ⟨RX7, "clear", "()I"⟩
abbrev cX7_here : ByteArray := prog_9_method_6_code
def yX7_here : MethodName := ⟨RX7, "here", "()I"⟩
abbrev cX7_next : ByteArray := prog_9_method_7_code
def yX7_next : MethodName := ⟨RX7, "next", "()V"⟩
abbrev cX7_due : ByteArray := prog_9_method_8_code
def yX7_due : MethodName := ⟨RX7, "due", "(Z)I"⟩
abbrev cX7_number : ByteArray := prog_9_method_9_code
def yX7_number : MethodName := ⟨RX7, "number", "(II)I"⟩
abbrev cX7_placeTold : ByteArray := prog_9_method_10_code
def yX7_placeTold : MethodName := ⟨RX7, "placeTold", "()I"⟩
abbrev cX7_mayBe : ByteArray := prog_9_method_11_code
def yX7_mayBe : MethodName := ⟨RX7, "mayBe", "(I)Z"⟩
abbrev cX7_isFreeAtFirst : ByteArray := prog_9_method_12_code
def yX7_isFreeAtFirst : MethodName := ⟨RX7, "isFreeAtFirst", "(II)Z"⟩
abbrev cX7_readWagon : ByteArray := prog_9_method_13_code
def yX7_readWagon : MethodName := ⟨RX7, "readWagon", "()V"⟩
abbrev cX7_readRow : ByteArray := prog_9_method_14_code
def yX7_readRow : MethodName := ⟨RX7, "readRow", "(I)V"⟩
abbrev cX7_world : ByteArray := prog_9_method_15_code
def yX7_world : MethodName := ⟨RX7, "world", "()I"⟩
abbrev cX7_take : ByteArray := prog_9_method_16_code
def yX7_take : MethodName := ⟨RX7, "take", "()V"⟩
abbrev cX7_costAt : ByteArray := prog_9_method_17_code
def yX7_costAt : MethodName := ⟨RX7, "costAt", "(I)I"⟩
abbrev cX7_beginThen : ByteArray := prog_9_method_18_code
def yX7_beginThen : MethodName := ⟨RX7, "beginThen", "()V"⟩
abbrev cX7_begin : ByteArray := prog_9_method_19_code
def yX7_begin : MethodName := ⟨RX7, "begin", "()V"⟩
abbrev cX7_toNow : ByteArray := prog_9_method_20_code
def yX7_toNow : MethodName := ⟨RX7, "toNow", "()V"⟩
abbrev cX7_toThen : ByteArray := prog_9_method_21_code
def yX7_toThen : MethodName := ⟨RX7, "toThen", "()V"⟩
abbrev cX7_isWagon : ByteArray := prog_9_method_22_code
def yX7_isWagon : MethodName := ⟨RX7, "isWagon", "(I)Z"⟩
abbrev cX7_place : ByteArray := prog_9_method_23_code
def yX7_place : MethodName := ⟨RX7, "place", "(II)I"⟩
abbrev cX7_wagon : ByteArray := prog_9_method_24_code
def yX7_wagon : MethodName := ⟨RX7, "wagon", "(II)I"⟩
abbrev cX7_sunAt : ByteArray := prog_9_method_25_code
def yX7_sunAt : MethodName := ⟨RX7, "sunAt", "(I)I"⟩
abbrev cX7_sun : ByteArray := prog_9_method_26_code
def yX7_sun : MethodName := ⟨RX7, "sun", "(I)I"⟩
abbrev cX7_caughtThen : ByteArray := prog_9_method_27_code
def yX7_caughtThen : MethodName := ⟨RX7, "caughtThen", "()I"⟩
abbrev cX7_manyOf : ByteArray := prog_9_method_28_code
def yX7_manyOf : MethodName := ⟨RX7, "manyOf", "(I)I"⟩
abbrev cX7_now : ByteArray := prog_9_method_29_code
def yX7_now : MethodName := ⟨RX7, "now", "(I)I"⟩
abbrev cX7_isFree : ByteArray := prog_9_method_30_code
def yX7_isFree : MethodName := ⟨RX7, "isFree", "(II)Z"⟩
abbrev cX7_move : ByteArray := prog_9_method_31_code
def yX7_move : MethodName := ⟨RX7, "move", "(I)V"⟩
abbrev cX7_pass : ByteArray := prog_9_method_32_code
def yX7_pass : MethodName := ⟨RX7, "pass", "()V"⟩
abbrev cX7_know : ByteArray := prog_9_method_33_code
def yX7_know : MethodName := ⟨RX7, "know", "()V"⟩
abbrev cX7_minute : ByteArray := prog_9_method_34_code
def yX7_minute : MethodName := ⟨RX7, "minute", "()I"⟩
abbrev cX7_stand : ByteArray := prog_9_method_35_code
def yX7_stand : MethodName := ⟨RX7, "stand", "(II)I"⟩
abbrev cX7_isThere : ByteArray := prog_9_method_36_code
def yX7_isThere : MethodName := ⟨RX7, "isThere", "(II)Z"⟩
abbrev cX7_change : ByteArray := prog_9_method_37_code
def yX7_change : MethodName := ⟨RX7, "change", "(II)I"⟩
abbrev cX7_undo : ByteArray := prog_9_method_38_code
def yX7_undo : MethodName := ⟨RX7, "undo", "()I"⟩
abbrev cX7_passMany : ByteArray := prog_9_method_39_code
def yX7_passMany : MethodName := ⟨RX7, "passMany", "(I)V"⟩
abbrev cX7_behind : ByteArray := prog_9_method_40_code
def yX7_behind : MethodName := ⟨RX7, "behind", "(III)I"⟩
abbrev cX7_caught : ByteArray := prog_9_method_41_code
def yX7_caught : MethodName := ⟨RX7, "caught", "(I)I"⟩
abbrev cX7_waits : ByteArray := prog_9_method_42_code
def yX7_waits : MethodName := ⟨RX7, "waits", "(I)I"⟩
abbrev cX7_stands : ByteArray := prog_9_method_43_code
def yX7_stands : MethodName := ⟨RX7, "stands", "(I)I"⟩
abbrev cX7_findLacking : ByteArray := prog_9_method_44_code
def yX7_findLacking : MethodName := ⟨RX7, "findLacking", "()V"⟩
abbrev cX7_isWell : ByteArray := prog_9_method_45_code
def yX7_isWell : MethodName := ⟨RX7, "isWell", "(I)Z"⟩
abbrev cX7_findStarts : ByteArray := prog_9_method_46_code
def yX7_findStarts : MethodName := ⟨RX7, "findStarts", "(I)I"⟩
abbrev cX7_starts : ByteArray := prog_9_method_47_code
def yX7_starts : MethodName := ⟨RX7, "starts", "(I)I"⟩
abbrev cX7_bars : ByteArray := prog_9_method_48_code
def yX7_bars : MethodName := ⟨RX7, "bars", "()I"⟩
abbrev cX7_pieces : ByteArray := prog_9_method_49_code
def yX7_pieces : MethodName := ⟨RX7, "pieces", "(II)I"⟩
abbrev cX7_met : ByteArray := prog_9_method_50_code
def yX7_met : MethodName := ⟨RX7, "met", "(II)I"⟩
abbrev cX7_findOdds : ByteArray := prog_9_method_51_code
def yX7_findOdds : MethodName := ⟨RX7, "findOdds", "(IIII)V"⟩
abbrev cX7_isAsked : ByteArray := prog_9_method_52_code
def yX7_isAsked : MethodName := ⟨RX7, "isAsked", "(III)Z"⟩
abbrev cX7_odds : ByteArray := prog_9_method_53_code
def yX7_odds : MethodName := ⟨RX7, "odds", "(IIII)J"⟩
abbrev cX7_keepAhead : ByteArray := prog_9_method_54_code
def yX7_keepAhead : MethodName := ⟨RX7, "keepAhead", "(IIII)I"⟩
abbrev cX7_mark : ByteArray := prog_9_method_55_code
def yX7_mark : MethodName := ⟨RX7, "mark", "(II)I"⟩
abbrev cX7_copy : ByteArray := prog_9_method_56_code
def yX7_copy : MethodName := ⟨RX7, "copy", "(II)V"⟩
abbrev cX7_keep : ByteArray := prog_9_method_57_code
def yX7_keep : MethodName := ⟨RX7, "keep", "(I)I"⟩
abbrev cX7_back : ByteArray := prog_9_method_58_code
def yX7_back : MethodName := ⟨RX7, "back", "(I)I"⟩
abbrev cX7_count : ByteArray := prog_9_method_59_code
def yX7_count : MethodName := ⟨RX7, "count", "(I)I"⟩
abbrev cX7_trace : ByteArray := prog_9_method_60_code
def yX7_trace : MethodName := ⟨RX7, "trace", "()J"⟩
def RJ6 : String := "java/lang/Integer"
abbrev cJ6_bitCount_0f7a4 : ByteArray := prog_10_method_49_code
def yJ6_bitCount_0f7a4 : MethodName := ⟨RJ6, "bitCount", "(I)I"⟩
def RJ9 : String := "java/lang/Math"
abbrev cJ9_max_7cf53 : ByteArray := prog_11_method_65_code
def yJ9_max_7cf53 : MethodName := ⟨RJ9, "max", "(II)I"⟩
abbrev cJ9_max_f86c9 : ByteArray := prog_11_method_66_code
def yJ9_max_f86c9 : MethodName := ⟨RJ9, "max", "(JJ)J"⟩
abbrev cJ9_min_7cf53 : ByteArray := prog_11_method_69_code
def yJ9_min_7cf53 : MethodName := ⟨RJ9, "min", "(II)I"⟩
def RJ10 : String := "java/lang/System"
def RL : String := "WheelTownLaw"
abbrev cL_law : ByteArray := code
def yL_law : MethodName := ⟨RL, "law", "([I)Z"⟩
abbrev vwCl : List vw_C := [(RX0, TX0, 3), (RX1, TX1, 14), (RX2, TX2, 7), (RX3, TX3, 5), (RX4, TX4, 7), (RX5, TX5, 4), (RX6, TX6, 10), (RX7, TX7, 39)]
def wsA : List Cond := lw_tbl.filter goodWord
theorem wsA_in {w : Cond} (h : w ∈ lw_tbl) (hg : goodWord w = true) : w ∈ wsA := List.mem_filter.mpr ⟨h, hg⟩
theorem wsA_tbl {w : Cond} (h : w ∈ wsA) : w ∈ lw_tbl := (List.mem_filter.mp h).1
theorem inX0 : ∀ w ∈ wsX00, w ∈ lw_tbl := by decide +kernel
theorem iaX0 : ∀ w ∈ wsX00, w ∈ wsA := fun w h => List.mem_filter.mpr ⟨inX0 w h, (List.all_eq_true.mp (by decide +kernel : wsX00.all goodWord = true)) w h⟩
theorem inX1 : ∀ w ∈ wsX10, w ∈ lw_tbl := by decide +kernel
theorem iaX1 : ∀ w ∈ wsX10, w ∈ wsA := fun w h => List.mem_filter.mpr ⟨inX1 w h, (List.all_eq_true.mp (by decide +kernel : wsX10.all goodWord = true)) w h⟩
theorem inX2 : ∀ w ∈ wsX20, w ∈ lw_tbl := by decide +kernel
theorem iaX2 : ∀ w ∈ wsX20, w ∈ wsA := fun w h => List.mem_filter.mpr ⟨inX2 w h, (List.all_eq_true.mp (by decide +kernel : wsX20.all goodWord = true)) w h⟩
theorem inX3 : ∀ w ∈ wsX30, w ∈ lw_tbl := by decide +kernel
theorem iaX3 : ∀ w ∈ wsX30, w ∈ wsA := fun w h => List.mem_filter.mpr ⟨inX3 w h, (List.all_eq_true.mp (by decide +kernel : wsX30.all goodWord = true)) w h⟩
theorem inX4 : ∀ w ∈ wsX40, w ∈ lw_tbl := by decide +kernel
theorem iaX4 : ∀ w ∈ wsX40, w ∈ wsA := fun w h => List.mem_filter.mpr ⟨inX4 w h, (List.all_eq_true.mp (by decide +kernel : wsX40.all goodWord = true)) w h⟩
theorem inX5 : ∀ w ∈ wsX50, w ∈ lw_tbl := by decide +kernel
theorem iaX5 : ∀ w ∈ wsX50, w ∈ wsA := fun w h => List.mem_filter.mpr ⟨inX5 w h, (List.all_eq_true.mp (by decide +kernel : wsX50.all goodWord = true)) w h⟩
theorem inX6 : ∀ w ∈ wsX60, w ∈ lw_tbl := by decide +kernel
theorem iaX6 : ∀ w ∈ wsX60, w ∈ wsA := fun w h => List.mem_filter.mpr ⟨inX6 w h, (List.all_eq_true.mp (by decide +kernel : wsX60.all goodWord = true)) w h⟩
theorem inX7 : ∀ w ∈ wsX70, w ∈ lw_tbl := by decide +kernel
theorem iaX7 : ∀ w ∈ wsX70, w ∈ wsA := fun w h => List.mem_filter.mpr ⟨inX7 w h, (List.all_eq_true.mp (by decide +kernel : wsX70.all goodWord = true)) w h⟩
end
section
/-- the instructions of a method, by their places; a row of it by its number -/
def dchk (b : ByteArray) (l : List (Nat × Instr × Nat)) : Bool := l.all (fun q => decide (decode b q.1 = .ok q.2))
theorem dg {b : ByteArray} {l : List (Nat × Instr × Nat)} (h : dchk b l = true) (k : Nat) {pc : Nat} {x : Instr × Nat} (hk : l[k]? = some (pc, x)) : decode b pc = .ok x := of_decide_eq_true (List.all_eq_true.mp h (pc, x) (List.mem_of_getElem? hk))
abbrev eX0_init : List (Nat × Instr × Nat) := [(0, .aload_n 0, 1), (1, .invokespecial 3, 3), (4, .aload_n 0, 1), (5, .bipush 13, 2), (7, .newarray .int, 2), (9, .putfield 9, 3), (12, .aload_n 0, 1), (13, .bipush 13, 2), (15, .newarray .long, 2), (17, .putfield 15, 3), (20, .return_, 1)]
theorem tX0_init : dchk cX0_init eX0_init = true := by decide +kernel
abbrev eX0_foresee : List (Nat × Instr × Nat) := [(0, .aload_n 0, 1), (1, .aload_n 2, 1), (2, .getfield 19, 3), (5, .putfield 25, 3), (8, .aload_n 2, 1), (9, .getfield 26, 3), (12, .iload_n 3, 1), (13, .iaload, 1), (14, .istore 4, 2), (16, .aload_n 2, 1), (17, .getfield 29, 3), (20, .iload_n 3, 1), (21, .iaload, 1), (22, .istore 5, 2), (24, .aload_n 0, 1), (25, .getfield 9, 3), (28, .iconst 0, 1), (29, .iload 4, 2), (31, .iastore, 1), (32, .iconst 1, 1), (33, .istore 6, 2), (35, .iload 6, 2), (37, .bipush 12, 2), (39, .if_icmp .gt 45, 3), (42, .iconst 0, 1), (43, .iload 5, 2), (45, .iconst 1, 1), (46, .isub, 1), (47, .invokestatic 32, 3), (50, .istore 5, 2), (52, .iload 5, 2), (54, .ifCond .ne 15, 3), (57, .iinc 4 1, 3), (60, .aload_n 1, 1), (61, .iload_n 3, 1), (62, .iload 4, 2), (64, .invokevirtual 38, 3), (67, .istore 5, 2), (69, .aload_n 0, 1), (70, .getfield 9, 3), (73, .iload 6, 2), (75, .iload 4, 2), (77, .iastore, 1), (78, .iinc 6 1, 3), (81, .goto (-46), 3), (84, .return_, 1)]
theorem tX0_foresee : dchk cX0_foresee eX0_foresee = true := by decide +kernel
abbrev eX0_runsAhead : List (Nat × Instr × Nat) := [(0, .iconst 0, 1), (1, .istore 5, 2), (3, .iload 5, 2), (5, .bipush 12, 2), (7, .if_icmp .gt 26, 3), (10, .aload_n 0, 1), (11, .getfield 15, 3), (14, .iload 5, 2), (16, .iload 5, 2), (18, .ifCond .ne 7, 3), (21, .lconst 1, 1), (22, .goto 4, 3), (25, .lconst 0, 1), (26, .lastore, 1), (27, .iinc 5 1, 3), (30, .goto (-27), 3), (33, .iconst 1, 1), (34, .istore 5, 2), (36, .iload 5, 2), (38, .iload_n 3, 1), (39, .if_icmp .gt 36, 3), (42, .iload 5, 2), (44, .bipush 12, 2), (46, .if_icmp .gt 29, 3), (49, .aload_n 0, 1), (50, .iload_n 2, 1), (51, .iload 5, 2), (53, .aload_n 1, 1), (54, .aload_n 0, 1), (55, .getfield 25, 3), (58, .iload 5, 2), (60, .iadd, 1), (61, .iload 4, 2), (63, .invokevirtual 43, 3), (66, .invokevirtual 46, 3), (69, .iinc 5 1, 3), (72, .goto (-36), 3), (75, .lconst 0, 1), (76, .lstore 5, 2), (78, .iconst 0, 1), (79, .istore 7, 2), (81, .iload 7, 2), (83, .bipush 12, 2), (85, .if_icmp .gt 21, 3), (88, .lload 5, 2), (90, .aload_n 0, 1), (91, .getfield 15, 3), (94, .iload 7, 2), (96, .laload, 1), (97, .ladd, 1), (98, .lstore 5, 2), (100, .iinc 7 1, 3), (103, .goto (-22), 3), (106, .lload 5, 2), (108, .lreturn, 1)]
theorem tX0_runsAhead : dchk cX0_runsAhead eX0_runsAhead = true := by decide +kernel
abbrev eX0_chanceMinute : List (Nat × Instr × Nat) := [(0, .iload_n 2, 1), (1, .bipush 12, 2), (3, .invokestatic 50, 3), (6, .istore 4, 2), (8, .iload 4, 2), (10, .ifCond .lt 74, 3), (13, .aload_n 0, 1), (14, .getfield 15, 3), (17, .iload 4, 2), (19, .laload, 1), (20, .iload_n 1, 1), (21, .i2l, 1), (22, .lmul, 1), (23, .lstore 5, 2), (25, .iload 4, 2), (27, .ifCond .le 21, 3), (30, .aload_n 0, 1), (31, .getfield 15, 3), (34, .iload 4, 2), (36, .iconst 1, 1), (37, .isub, 1), (38, .laload, 1), (39, .bipush 10, 2), (41, .iload_n 1, 1), (42, .isub, 1), (43, .i2l, 1), (44, .lmul, 1), (45, .goto 4, 3), (48, .lconst 0, 1), (49, .lstore 7, 2), (51, .aload_n 0, 1), (52, .getfield 15, 3), (55, .iload 4, 2), (57, .aload_n 0, 1), (58, .getfield 9, 3), (61, .iload 4, 2), (63, .iaload, 1), (64, .iload_n 3, 1), (65, .if_icmp .le 11, 3), (68, .lload 5, 2), (70, .lload 7, 2), (72, .ladd, 1), (73, .goto 4, 3), (76, .lconst 0, 1), (77, .lastore, 1), (78, .iinc 4 (-1), 3), (81, .goto (-73), 3), (84, .return_, 1)]
theorem tX0_chanceMinute : dchk cX0_chanceMinute eX0_chanceMinute = true := by decide +kernel
abbrev eX1_init : List (Nat × Instr × Nat) := [(0, .aload_n 0, 1), (1, .invokespecial 3, 3), (4, .aload_n 0, 1), (5, .bipush 12, 2), (7, .newarray .int, 2), (9, .putfield 9, 3), (12, .aload_n 0, 1), (13, .iconst 5, 1), (14, .newarray .int, 2), (16, .putfield 15, 3), (19, .aload_n 0, 1), (20, .iconst 5, 1), (21, .newarray .int, 2), (23, .putfield 18, 3), (26, .aload_n 0, 1), (27, .iconst 4, 1), (28, .newarray .int, 2), (30, .putfield 21, 3), (33, .aload_n 0, 1), (34, .iconst 4, 1), (35, .newarray .int, 2), (37, .putfield 24, 3), (40, .aload_n 0, 1), (41, .new 27, 3), (44, .dup, 1), (45, .invokespecial 29, 3), (48, .putfield 30, 3), (51, .aload_n 0, 1), (52, .invokevirtual 34, 3), (55, .return_, 1)]
theorem tX1_init : dchk cX1_init eX1_init = true := by decide +kernel
abbrev eX1_reset : List (Nat × Instr × Nat) := [(0, .aload_n 0, 1), (1, .bipush 8, 2), (3, .putfield 37, 3), (6, .aload_n 0, 1), (7, .iconst 3, 1), (8, .putfield 41, 3), (11, .aload_n 0, 1), (12, .iconst 5, 1), (13, .putfield 44, 3), (16, .aload_n 0, 1), (17, .iconst 0, 1), (18, .putfield 47, 3), (21, .aload_n 0, 1), (22, .bipush (-9), 2), (24, .putfield 51, 3), (27, .aload_n 0, 1), (28, .iconst 0, 1), (29, .putfield 54, 3), (32, .aload_n 0, 1), (33, .iconst 0, 1), (34, .putfield 57, 3), (37, .aload_n 0, 1), (38, .iconst 0, 1), (39, .putfield 60, 3), (42, .iconst 0, 1), (43, .istore_n 1, 1), (44, .iload_n 1, 1), (45, .bipush 12, 2), (47, .if_icmp .ge 16, 3), (50, .aload_n 0, 1), (51, .getfield 9, 3), (54, .iload_n 1, 1), (55, .iconst 1, 1), (56, .iastore, 1), (57, .iinc 1 1, 3), (60, .goto (-16), 3), (63, .return_, 1)]
theorem tX1_reset : dchk cX1_reset eX1_reset = true := by decide +kernel
abbrev eX1_addWagon : List (Nat × Instr × Nat) := [(0, .aload_n 0, 1), (1, .getfield 57, 3), (4, .ifCond .lt 11, 3), (7, .aload_n 0, 1), (8, .getfield 57, 3), (11, .iconst 5, 1), (12, .if_icmp .lt 4, 3), (15, .return_, 1), (16, .aload_n 0, 1), (17, .getfield 15, 3), (20, .aload_n 0, 1), (21, .getfield 57, 3), (24, .iload_n 2, 1), (25, .iastore, 1), (26, .aload_n 0, 1), (27, .getfield 18, 3), (30, .aload_n 0, 1), (31, .getfield 57, 3), (34, .iload_n 3, 1), (35, .iastore, 1), (36, .aload_n 0, 1), (37, .getfield 30, 3), (40, .getfield 63, 3), (43, .aload_n 0, 1), (44, .getfield 57, 3), (47, .iload_n 1, 1), (48, .iastore, 1), (49, .aload_n 0, 1), (50, .getfield 30, 3), (53, .getfield 66, 3), (56, .aload_n 0, 1), (57, .getfield 57, 3), (60, .iload 4, 2), (62, .iastore, 1), (63, .aload_n 0, 1), (64, .dup, 1), (65, .getfield 57, 3), (68, .iconst 1, 1), (69, .iadd, 1), (70, .putfield 57, 3), (73, .return_, 1)]
theorem tX1_addWagon : dchk cX1_addWagon eX1_addWagon = true := by decide +kernel
abbrev eX1_addPair : List (Nat × Instr × Nat) := [(0, .aload_n 0, 1), (1, .getfield 60, 3), (4, .ifCond .lt 11, 3), (7, .aload_n 0, 1), (8, .getfield 60, 3), (11, .iconst 4, 1), (12, .if_icmp .lt 4, 3), (15, .return_, 1), (16, .aload_n 0, 1), (17, .getfield 21, 3), (20, .aload_n 0, 1), (21, .getfield 60, 3), (24, .iload_n 1, 1), (25, .iastore, 1), (26, .aload_n 0, 1), (27, .getfield 24, 3), (30, .aload_n 0, 1), (31, .getfield 60, 3), (34, .iload_n 2, 1), (35, .iastore, 1), (36, .aload_n 0, 1), (37, .dup, 1), (38, .getfield 60, 3), (41, .iconst 1, 1), (42, .iadd, 1), (43, .putfield 60, 3), (46, .return_, 1)]
theorem tX1_addPair : dchk cX1_addPair eX1_addPair = true := by decide +kernel
abbrev eX1_settle : List (Nat × Instr × Nat) := [(0, .iconst 0, 1), (1, .istore_n 1, 1), (2, .iload_n 1, 1), (3, .aload_n 0, 1), (4, .getfield 60, 3), (7, .if_icmp .ge 18, 3), (10, .iload_n 1, 1), (11, .iconst 4, 1), (12, .if_icmp .ge 13, 3), (15, .aload_n 0, 1), (16, .invokevirtual 69, 3), (19, .iinc 1 1, 3), (22, .goto (-20), 3), (25, .iconst 0, 1), (26, .istore_n 1, 1), (27, .iload_n 1, 1), (28, .aload_n 0, 1), (29, .getfield 57, 3), (32, .if_icmp .ge 37, 3), (35, .iload_n 1, 1), (36, .iconst 5, 1), (37, .if_icmp .ge 32, 3), (40, .aload_n 0, 1), (41, .getfield 30, 3), (44, .getfield 72, 3), (47, .iload_n 1, 1), (48, .aload_n 0, 1), (49, .iload_n 1, 1), (50, .aload_n 0, 1), (51, .getfield 30, 3), (54, .getfield 63, 3), (57, .iload_n 1, 1), (58, .iaload, 1), (59, .invokevirtual 75, 3), (62, .iastore, 1), (63, .iinc 1 1, 3), (66, .goto (-39), 3), (69, .return_, 1)]
theorem tX1_settle : dchk cX1_settle eX1_settle = true := by decide +kernel
abbrev eX1_joinPaces : List (Nat × Instr × Nat) := [(0, .iconst 0, 1), (1, .istore_n 1, 1), (2, .iload_n 1, 1), (3, .aload_n 0, 1), (4, .getfield 60, 3), (7, .if_icmp .ge 77, 3), (10, .iload_n 1, 1), (11, .iconst 4, 1), (12, .if_icmp .ge 72, 3), (15, .aload_n 0, 1), (16, .getfield 21, 3), (19, .iload_n 1, 1), (20, .iaload, 1), (21, .istore_n 2, 1), (22, .aload_n 0, 1), (23, .getfield 24, 3), (26, .iload_n 1, 1), (27, .iaload, 1), (28, .istore_n 3, 1), (29, .aload_n 0, 1), (30, .iload_n 2, 1), (31, .invokevirtual 79, 3), (34, .ifCond .eq 44, 3), (37, .aload_n 0, 1), (38, .iload_n 3, 1), (39, .invokevirtual 79, 3), (42, .ifCond .eq 36, 3), (45, .aload_n 0, 1), (46, .getfield 15, 3), (49, .iload_n 2, 1), (50, .iaload, 1), (51, .aload_n 0, 1), (52, .getfield 15, 3), (55, .iload_n 3, 1), (56, .iaload, 1), (57, .invokestatic 83, 3), (60, .istore 4, 2), (62, .aload_n 0, 1), (63, .getfield 15, 3), (66, .iload_n 2, 1), (67, .iload 4, 2), (69, .iastore, 1), (70, .aload_n 0, 1), (71, .getfield 15, 3), (74, .iload_n 3, 1), (75, .iload 4, 2), (77, .iastore, 1), (78, .iinc 1 1, 3), (81, .goto (-79), 3), (84, .return_, 1)]
theorem tX1_joinPaces : dchk cX1_joinPaces eX1_joinPaces = true := by decide +kernel
abbrev eX1_hasPlace : List (Nat × Instr × Nat) := [(0, .iload_n 1, 1), (1, .ifCond .lt 21, 3), (4, .iload_n 1, 1), (5, .aload_n 0, 1), (6, .getfield 37, 3), (9, .if_icmp .ge 13, 3), (12, .iload_n 1, 1), (13, .bipush 12, 2), (15, .if_icmp .ge 7, 3), (18, .iconst 1, 1), (19, .goto 4, 3), (22, .iconst 0, 1), (23, .ireturn, 1)]
theorem tX1_hasPlace : dchk cX1_hasPlace eX1_hasPlace = true := by decide +kernel
abbrev eX1_hasWagon : List (Nat × Instr × Nat) := [(0, .iload_n 1, 1), (1, .ifCond .lt 20, 3), (4, .iload_n 1, 1), (5, .aload_n 0, 1), (6, .getfield 57, 3), (9, .if_icmp .ge 12, 3), (12, .iload_n 1, 1), (13, .iconst 5, 1), (14, .if_icmp .ge 7, 3), (17, .iconst 1, 1), (18, .goto 4, 3), (21, .iconst 0, 1), (22, .ireturn, 1)]
theorem tX1_hasWagon : dchk cX1_hasWagon eX1_hasWagon = true := by decide +kernel
abbrev eX1_hasPoints : List (Nat × Instr × Nat) := [(0, .aload_n 0, 1), (1, .getfield 54, 3), (4, .aload_n 0, 1), (5, .iload_n 1, 1), (6, .invokevirtual 88, 3), (9, .ishr, 1), (10, .iconst 1, 1), (11, .iand, 1), (12, .iconst 1, 1), (13, .if_icmp .ne 7, 3), (16, .iconst 1, 1), (17, .goto 4, 3), (20, .iconst 0, 1), (21, .ireturn, 1)]
theorem tX1_hasPoints : dchk cX1_hasPoints eX1_hasPoints = true := by decide +kernel
abbrev eX1_placeOf : List (Nat × Instr × Nat) := [(0, .aload_n 0, 1), (1, .getfield 37, 3), (4, .iconst 1, 1), (5, .if_icmp .ge 7, 3), (8, .iconst 0, 1), (9, .goto 9, 3), (12, .iload_n 1, 1), (13, .aload_n 0, 1), (14, .getfield 37, 3), (17, .irem, 1), (18, .ireturn, 1)]
theorem tX1_placeOf : dchk cX1_placeOf eX1_placeOf = true := by decide +kernel
abbrev eX1_minutesFor : List (Nat × Instr × Nat) := [(0, .aload_n 0, 1), (1, .iload_n 2, 1), (2, .invokevirtual 88, 3), (5, .istore_n 3, 1), (6, .aload_n 0, 1), (7, .iload_n 3, 1), (8, .invokevirtual 92, 3), (11, .ifCond .eq 12, 3), (14, .aload_n 0, 1), (15, .getfield 9, 3), (18, .iload_n 3, 1), (19, .iaload, 1), (20, .goto 4, 3), (23, .iconst 1, 1), (24, .aload_n 0, 1), (25, .iload_n 1, 1), (26, .invokevirtual 79, 3), (29, .ifCond .eq 12, 3), (32, .aload_n 0, 1), (33, .getfield 15, 3), (36, .iload_n 1, 1), (37, .iaload, 1), (38, .goto 4, 3), (41, .iconst 0, 1), (42, .iadd, 1), (43, .ireturn, 1)]
theorem tX1_minutesFor : dchk cX1_minutesFor eX1_minutesFor = true := by decide +kernel
abbrev eX1_sunWay : List (Nat × Instr × Nat) := [(0, .aload_n 0, 1), (1, .getfield 41, 3), (4, .iconst 1, 1), (5, .if_icmp .ge 8, 3), (8, .iload_n 2, 1), (9, .ineg, 1), (10, .goto 11, 3), (13, .iload_n 1, 1), (14, .aload_n 0, 1), (15, .getfield 41, 3), (18, .idiv, 1), (19, .iload_n 2, 1), (20, .isub, 1), (21, .ireturn, 1)]
theorem tX1_sunWay : dchk cX1_sunWay eX1_sunWay = true := by decide +kernel
abbrev eX1_isTaken : List (Nat × Instr × Nat) := [(0, .iconst 0, 1), (1, .istore 4, 2), (3, .iload 4, 2), (5, .aload_n 0, 1), (6, .getfield 57, 3), (9, .if_icmp .ge 39, 3), (12, .iload 4, 2), (14, .iconst 5, 1), (15, .if_icmp .ge 33, 3), (18, .aload_n 1, 1), (19, .getfield 63, 3), (22, .iload 4, 2), (24, .iaload, 1), (25, .iload_n 3, 1), (26, .if_icmp .ne 16, 3), (29, .aload_n 1, 1), (30, .getfield 66, 3), (33, .iload 4, 2), (35, .iaload, 1), (36, .iload_n 2, 1), (37, .if_icmp .ne 5, 3), (40, .iconst 1, 1), (41, .ireturn, 1), (42, .iinc 4 1, 3), (45, .goto (-42), 3), (48, .iconst 0, 1), (49, .ireturn, 1)]
theorem tX1_isTaken : dchk cX1_isTaken eX1_isTaken = true := by decide +kernel
abbrev eX1_pass : List (Nat × Instr × Nat) := [(0, .iconst (-1), 1), (1, .istore_n 2, 1), (2, .iconst 0, 1), (3, .istore_n 3, 1), (4, .iconst 0, 1), (5, .istore 4, 2), (7, .iload 4, 2), (9, .aload_n 0, 1), (10, .getfield 57, 3), (13, .if_icmp .ge 54, 3), (16, .iload 4, 2), (18, .iconst 5, 1), (19, .if_icmp .ge 48, 3), (22, .aload_n 0, 1), (23, .aload_n 1, 1), (24, .iload_n 3, 1), (25, .invokevirtual 95, 3), (28, .istore 5, 2), (30, .iload 5, 2), (32, .iconst (-1), 1), (33, .if_icmp .eq 28, 3), (36, .iload_n 3, 1), (37, .iconst 1, 1), (38, .iload 5, 2), (40, .ishl, 1), (41, .ior, 1), (42, .istore_n 3, 1), (43, .aload_n 0, 1), (44, .aload_n 1, 1), (45, .iload 5, 2), (47, .invokevirtual 99, 3), (50, .ifCond .ne 11, 3), (53, .iload_n 2, 1), (54, .iconst (-1), 1), (55, .if_icmp .ne 6, 3), (58, .iload 5, 2), (60, .istore_n 2, 1), (61, .iinc 4 1, 3), (64, .goto (-57), 3), (67, .aload_n 1, 1), (68, .dup, 1), (69, .getfield 103, 3), (72, .iconst 1, 1), (73, .iadd, 1), (74, .putfield 103, 3), (77, .aload_n 0, 1), (78, .aload_n 1, 1), (79, .invokevirtual 106, 3), (82, .iload_n 2, 1), (83, .ireturn, 1)]
theorem tX1_pass : dchk cX1_pass eX1_pass = true := by decide +kernel
abbrev eX1_foremost : List (Nat × Instr × Nat) := [(0, .iconst (-1), 1), (1, .istore_n 3, 1), (2, .iconst 0, 1), (3, .istore 4, 2), (5, .iload 4, 2), (7, .aload_n 0, 1), (8, .getfield 57, 3), (11, .if_icmp .ge 48, 3), (14, .iload 4, 2), (16, .iconst 5, 1), (17, .if_icmp .ge 42, 3), (20, .iload_n 2, 1), (21, .iload 4, 2), (23, .ishr, 1), (24, .iconst 1, 1), (25, .iand, 1), (26, .ifCond .ne 27, 3), (29, .iload_n 3, 1), (30, .iconst (-1), 1), (31, .if_icmp .eq 19, 3), (34, .aload_n 1, 1), (35, .getfield 63, 3), (38, .iload 4, 2), (40, .iaload, 1), (41, .aload_n 1, 1), (42, .getfield 63, 3), (45, .iload_n 3, 1), (46, .iaload, 1), (47, .if_icmp .le 6, 3), (50, .iload 4, 2), (52, .istore_n 3, 1), (53, .iinc 4 1, 3), (56, .goto (-51), 3), (59, .iload_n 3, 1), (60, .ireturn, 1)]
theorem tX1_foremost : dchk cX1_foremost eX1_foremost = true := by decide +kernel
abbrev eX1_goOn : List (Nat × Instr × Nat) := [(0, .aload_n 1, 1), (1, .iload_n 2, 1), (2, .invokevirtual 110, 3), (5, .ifCond .eq 5, 3), (8, .iconst 1, 1), (9, .ireturn, 1), (10, .aload_n 1, 1), (11, .getfield 113, 3), (14, .iload_n 2, 1), (15, .iaload, 1), (16, .ifCond .le 25, 3), (19, .aload_n 1, 1), (20, .getfield 113, 3), (23, .iload_n 2, 1), (24, .dup2, 1), (25, .iaload, 1), (26, .iconst 1, 1), (27, .isub, 1), (28, .iastore, 1), (29, .aload_n 1, 1), (30, .getfield 116, 3), (33, .iload_n 2, 1), (34, .dup2, 1), (35, .iaload, 1), (36, .iconst 1, 1), (37, .iadd, 1), (38, .iastore, 1), (39, .iconst 1, 1), (40, .ireturn, 1), (41, .aload_n 1, 1), (42, .getfield 72, 3), (45, .iload_n 2, 1), (46, .iconst 0, 1), (47, .aload_n 1, 1), (48, .getfield 72, 3), (51, .iload_n 2, 1), (52, .iaload, 1), (53, .iconst 1, 1), (54, .isub, 1), (55, .invokestatic 83, 3), (58, .iastore, 1), (59, .aload_n 1, 1), (60, .getfield 72, 3), (63, .iload_n 2, 1), (64, .iaload, 1), (65, .ifCond .le 5, 3), (68, .iconst 1, 1), (69, .ireturn, 1), (70, .aload_n 1, 1), (71, .getfield 63, 3), (74, .iload_n 2, 1), (75, .iaload, 1), (76, .iconst 1, 1), (77, .iadd, 1), (78, .istore_n 3, 1), (79, .aload_n 0, 1), (80, .aload_n 1, 1), (81, .aload_n 1, 1), (82, .getfield 66, 3), (85, .iload_n 2, 1), (86, .iaload, 1), (87, .iload_n 3, 1), (88, .invokevirtual 119, 3), (91, .ifCond .eq 5, 3), (94, .iconst 0, 1), (95, .ireturn, 1), (96, .aload_n 1, 1), (97, .getfield 63, 3), (100, .iload_n 2, 1), (101, .iload_n 3, 1), (102, .iastore, 1), (103, .aload_n 1, 1), (104, .getfield 72, 3), (107, .iload_n 2, 1), (108, .aload_n 0, 1), (109, .iload_n 2, 1), (110, .iload_n 3, 1), (111, .invokevirtual 75, 3), (114, .iastore, 1), (115, .iconst 1, 1), (116, .ireturn, 1)]
theorem tX1_goOn : dchk cX1_goOn eX1_goOn = true := by decide +kernel
abbrev eX1_isBarred : List (Nat × Instr × Nat) := [(0, .aload_n 0, 1), (1, .iload_n 3, 1), (2, .invokevirtual 88, 3), (5, .aload_n 0, 1), (6, .getfield 51, 3), (9, .if_icmp .ne 7, 3), (12, .iconst 1, 1), (13, .goto 4, 3), (16, .iconst 0, 1), (17, .istore 4, 2), (19, .iconst 0, 1), (20, .istore 5, 2), (22, .iload 5, 2), (24, .aload_n 0, 1), (25, .getfield 57, 3), (28, .if_icmp .ge 44, 3), (31, .iload 5, 2), (33, .iconst 5, 1), (34, .if_icmp .ge 38, 3), (37, .aload_n 1, 1), (38, .getfield 63, 3), (41, .iload 5, 2), (43, .iaload, 1), (44, .iload_n 3, 1), (45, .if_icmp .ne 21, 3), (48, .iload 4, 2), (50, .ifCond .ne 14, 3), (53, .aload_n 1, 1), (54, .getfield 66, 3), (57, .iload 5, 2), (59, .iaload, 1), (60, .iload_n 2, 1), (61, .if_icmp .ne 5, 3), (64, .iconst 1, 1), (65, .ireturn, 1), (66, .iinc 5 1, 3), (69, .goto (-47), 3), (72, .iconst 0, 1), (73, .ireturn, 1)]
theorem tX1_isBarred : dchk cX1_isBarred eX1_isBarred = true := by decide +kernel
abbrev eX1_catchLate : List (Nat × Instr × Nat) := [(0, .aload_n 0, 1), (1, .aload_n 1, 1), (2, .getfield 103, 3), (5, .aload_n 0, 1), (6, .getfield 44, 3), (9, .invokevirtual 123, 3), (12, .istore_n 2, 1), (13, .iconst 0, 1), (14, .istore_n 3, 1), (15, .iload_n 3, 1), (16, .aload_n 0, 1), (17, .getfield 57, 3), (20, .if_icmp .ge 36, 3), (23, .iload_n 3, 1), (24, .iconst 5, 1), (25, .if_icmp .ge 31, 3), (28, .aload_n 1, 1), (29, .getfield 63, 3), (32, .iload_n 3, 1), (33, .iaload, 1), (34, .iload_n 2, 1), (35, .if_icmp .gt 15, 3), (38, .aload_n 1, 1), (39, .dup, 1), (40, .getfield 126, 3), (43, .iconst 1, 1), (44, .iload_n 3, 1), (45, .ishl, 1), (46, .ior, 1), (47, .putfield 126, 3), (50, .iinc 3 1, 3), (53, .goto (-38), 3), (56, .return_, 1)]
theorem tX1_catchLate : dchk cX1_catchLate eX1_catchLate = true := by decide +kernel
abbrev eX1_withWorkDone : List (Nat × Instr × Nat) := [(0, .iconst 0, 1), (1, .istore_n 2, 1), (2, .iconst 0, 1), (3, .istore_n 3, 1), (4, .iload_n 3, 1), (5, .aload_n 0, 1), (6, .getfield 57, 3), (9, .if_icmp .ge 35, 3), (12, .iload_n 3, 1), (13, .iconst 5, 1), (14, .if_icmp .ge 30, 3), (17, .aload_n 1, 1), (18, .getfield 116, 3), (21, .iload_n 3, 1), (22, .iaload, 1), (23, .aload_n 0, 1), (24, .getfield 18, 3), (27, .iload_n 3, 1), (28, .iaload, 1), (29, .if_icmp .lt 9, 3), (32, .iload_n 2, 1), (33, .iconst 1, 1), (34, .iload_n 3, 1), (35, .ishl, 1), (36, .ior, 1), (37, .istore_n 2, 1), (38, .iinc 3 1, 3), (41, .goto (-37), 3), (44, .iload_n 2, 1), (45, .ireturn, 1)]
theorem tX1_withWorkDone : dchk cX1_withWorkDone eX1_withWorkDone = true := by decide +kernel
abbrev eX1_wagonsAt : List (Nat × Instr × Nat) := [(0, .iconst 0, 1), (1, .istore_n 3, 1), (2, .iconst 0, 1), (3, .istore 4, 2), (5, .iload 4, 2), (7, .aload_n 0, 1), (8, .getfield 57, 3), (11, .if_icmp .ge 37, 3), (14, .iload 4, 2), (16, .iconst 5, 1), (17, .if_icmp .ge 31, 3), (20, .aload_n 0, 1), (21, .aload_n 1, 1), (22, .getfield 63, 3), (25, .iload 4, 2), (27, .iaload, 1), (28, .invokevirtual 88, 3), (31, .iload_n 2, 1), (32, .if_icmp .ne 10, 3), (35, .iload_n 3, 1), (36, .iconst 1, 1), (37, .iload 4, 2), (39, .ishl, 1), (40, .ior, 1), (41, .istore_n 3, 1), (42, .iinc 4 1, 3), (45, .goto (-40), 3), (48, .iload_n 3, 1), (49, .ireturn, 1)]
theorem tX1_wagonsAt : dchk cX1_wagonsAt eX1_wagonsAt = true := by decide +kernel
abbrev eX1_lengthOn : List (Nat × Instr × Nat) := [(0, .iconst (-1), 1), (1, .istore_n 3, 1), (2, .iconst (-1), 1), (3, .istore 4, 2), (5, .iconst 0, 1), (6, .istore 5, 2), (8, .iload 5, 2), (10, .aload_n 0, 1), (11, .getfield 57, 3), (14, .if_icmp .ge 67, 3), (17, .iload 5, 2), (19, .iconst 5, 1), (20, .if_icmp .ge 61, 3), (23, .aload_n 1, 1), (24, .getfield 66, 3), (27, .iload 5, 2), (29, .iaload, 1), (30, .iload_n 2, 1), (31, .if_icmp .ne 44, 3), (34, .iload_n 3, 1), (35, .iconst (-1), 1), (36, .if_icmp .ne 13, 3), (39, .aload_n 1, 1), (40, .getfield 63, 3), (43, .iload 5, 2), (45, .iaload, 1), (46, .goto 14, 3), (49, .iload_n 3, 1), (50, .aload_n 1, 1), (51, .getfield 63, 3), (54, .iload 5, 2), (56, .iaload, 1), (57, .invokestatic 129, 3), (60, .istore_n 3, 1), (61, .iload 4, 2), (63, .aload_n 1, 1), (64, .getfield 63, 3), (67, .iload 5, 2), (69, .iaload, 1), (70, .invokestatic 83, 3), (73, .istore 4, 2), (75, .iinc 5 1, 3), (78, .goto (-70), 3), (81, .iload_n 3, 1), (82, .iconst (-1), 1), (83, .if_icmp .ne 7, 3), (86, .iconst 0, 1), (87, .goto 9, 3), (90, .iload 4, 2), (92, .iload_n 3, 1), (93, .isub, 1), (94, .iconst 1, 1), (95, .iadd, 1), (96, .ireturn, 1)]
theorem tX1_lengthOn : dchk cX1_lengthOn eX1_lengthOn = true := by decide +kernel
abbrev eX2_init : List (Nat × Instr × Nat) := [(0, .aload_n 0, 1), (1, .invokespecial 3, 3), (4, .aload_n 0, 1), (5, .iconst 5, 1), (6, .newarray .int, 2), (8, .putfield 9, 3), (11, .aload_n 0, 1), (12, .iconst 5, 1), (13, .newarray .int, 2), (15, .putfield 15, 3), (18, .aload_n 0, 1), (19, .iconst 5, 1), (20, .newarray .int, 2), (22, .putfield 18, 3), (25, .aload_n 0, 1), (26, .iconst 5, 1), (27, .newarray .int, 2), (29, .putfield 21, 3), (32, .aload_n 0, 1), (33, .iconst 5, 1), (34, .newarray .int, 2), (36, .putfield 24, 3), (39, .return_, 1)]
theorem tX2_init : dchk cX2_init eX2_init = true := by decide +kernel
abbrev eX2_copyFrom : List (Nat × Instr × Nat) := [(0, .aload_n 0, 1), (1, .aload_n 1, 1), (2, .getfield 27, 3), (5, .putfield 27, 3), (8, .aload_n 0, 1), (9, .aload_n 1, 1), (10, .getfield 31, 3), (13, .putfield 31, 3), (16, .aload_n 1, 1), (17, .getfield 9, 3), (20, .iconst 0, 1), (21, .aload_n 0, 1), (22, .getfield 9, 3), (25, .iconst 0, 1), (26, .iconst 5, 1), (27, .invokestatic 34, 3), (30, .aload_n 1, 1), (31, .getfield 15, 3), (34, .iconst 0, 1), (35, .aload_n 0, 1), (36, .getfield 15, 3), (39, .iconst 0, 1), (40, .iconst 5, 1), (41, .invokestatic 34, 3), (44, .aload_n 1, 1), (45, .getfield 18, 3), (48, .iconst 0, 1), (49, .aload_n 0, 1), (50, .getfield 18, 3), (53, .iconst 0, 1), (54, .iconst 5, 1), (55, .invokestatic 34, 3), (58, .aload_n 1, 1), (59, .getfield 21, 3), (62, .iconst 0, 1), (63, .aload_n 0, 1), (64, .getfield 21, 3), (67, .iconst 0, 1), (68, .iconst 5, 1), (69, .invokestatic 34, 3), (72, .aload_n 1, 1), (73, .getfield 24, 3), (76, .iconst 0, 1), (77, .aload_n 0, 1), (78, .getfield 24, 3), (81, .iconst 0, 1), (82, .iconst 5, 1), (83, .invokestatic 34, 3), (86, .return_, 1)]
theorem tX2_copyFrom : dchk cX2_copyFrom eX2_copyFrom = true := by decide +kernel
abbrev eX2_isCaught : List (Nat × Instr × Nat) := [(0, .aload_n 0, 1), (1, .getfield 31, 3), (4, .iload_n 1, 1), (5, .ishr, 1), (6, .iconst 1, 1), (7, .iand, 1), (8, .iconst 1, 1), (9, .if_icmp .ne 7, 3), (12, .iconst 1, 1), (13, .goto 4, 3), (16, .iconst 0, 1), (17, .ireturn, 1)]
theorem tX2_isCaught : dchk cX2_isCaught eX2_isCaught = true := by decide +kernel
abbrev eX3_init : List (Nat × Instr × Nat) := [(0, .aload_n 0, 1), (1, .invokespecial 3, 3), (4, .aload_n 0, 1), (5, .iconst 3, 1), (6, .newarray .int, 2), (8, .putfield 9, 3), (11, .aload_n 0, 1), (12, .iconst 3, 1), (13, .newarray .int, 2), (15, .putfield 15, 3), (18, .aload_n 0, 1), (19, .iconst 3, 1), (20, .newarray .int, 2), (22, .putfield 18, 3), (25, .return_, 1)]
theorem tX3_init : dchk cX3_init eX3_init = true := by decide +kernel
abbrev eX3_gatherNone : List (Nat × Instr × Nat) := [(0, .aload_n 0, 1), (1, .iconst 0, 1), (2, .putfield 21, 3), (5, .aload_n 0, 1), (6, .iconst (-1), 1), (7, .putfield 25, 3), (10, .return_, 1)]
theorem tX3_gatherNone : dchk cX3_gatherNone eX3_gatherNone = true := by decide +kernel
abbrev eX3_gather : List (Nat × Instr × Nat) := [(0, .aload_n 0, 1), (1, .invokevirtual 28, 3), (4, .iconst 0, 1), (5, .istore_n 3, 1), (6, .iload_n 3, 1), (7, .aload_n 1, 1), (8, .getfield 31, 3), (11, .if_icmp .ge 88, 3), (14, .iload_n 3, 1), (15, .iconst 5, 1), (16, .if_icmp .ge 83, 3), (19, .aload_n 0, 1), (20, .getfield 21, 3), (23, .iconst 3, 1), (24, .if_icmp .ge 75, 3), (27, .aload_n 1, 1), (28, .getfield 36, 3), (31, .iload_n 3, 1), (32, .iaload, 1), (33, .aload_n 2, 1), (34, .getfield 39, 3), (37, .iload_n 3, 1), (38, .iaload, 1), (39, .isub, 1), (40, .aload_n 2, 1), (41, .getfield 44, 3), (44, .iload_n 3, 1), (45, .iaload, 1), (46, .isub, 1), (47, .istore 4, 2), (49, .iload 4, 2), (51, .ifCond .le 42, 3), (54, .aload_n 2, 1), (55, .iload_n 3, 1), (56, .invokevirtual 47, 3), (59, .ifCond .ne 34, 3), (62, .aload_n 0, 1), (63, .getfield 9, 3), (66, .aload_n 0, 1), (67, .getfield 21, 3), (70, .iload_n 3, 1), (71, .iastore, 1), (72, .aload_n 0, 1), (73, .getfield 15, 3), (76, .aload_n 0, 1), (77, .getfield 21, 3), (80, .iload 4, 2), (82, .iastore, 1), (83, .aload_n 0, 1), (84, .dup, 1), (85, .getfield 21, 3), (88, .iconst 1, 1), (89, .iadd, 1), (90, .putfield 21, 3), (93, .iinc 3 1, 3), (96, .goto (-90), 3), (99, .return_, 1)]
theorem tX3_gather : dchk cX3_gather eX3_gather = true := by decide +kernel
abbrev eX3_setStarts : List (Nat × Instr × Nat) := [(0, .aload_n 0, 1), (1, .getfield 18, 3), (4, .iconst 0, 1), (5, .iload_n 1, 1), (6, .iastore, 1), (7, .aload_n 0, 1), (8, .getfield 18, 3), (11, .iconst 1, 1), (12, .iload_n 2, 1), (13, .iastore, 1), (14, .aload_n 0, 1), (15, .getfield 18, 3), (18, .iconst 2, 1), (19, .iload_n 3, 1), (20, .iastore, 1), (21, .return_, 1)]
theorem tX3_setStarts : dchk cX3_setStarts eX3_setStarts = true := by decide +kernel
abbrev eX3_latest : List (Nat × Instr × Nat) := [(0, .iload_n 1, 1), (1, .aload_n 0, 1), (2, .getfield 21, 3), (5, .if_icmp .ge 16, 3), (8, .iload_n 1, 1), (9, .aload_n 0, 1), (10, .getfield 25, 3), (13, .if_icmp .eq 8, 3), (16, .bipush 6, 2), (18, .goto 4, 3), (21, .iconst 0, 1), (22, .ireturn, 1)]
theorem tX3_latest : dchk cX3_latest eX3_latest = true := by decide +kernel
abbrev eX3_order : List (Nat × Instr × Nat) := [(0, .iconst 0, 1), (1, .istore_n 3, 1), (2, .iload_n 3, 1), (3, .aload_n 0, 1), (4, .getfield 21, 3), (7, .if_icmp .ge 65, 3), (10, .iload_n 3, 1), (11, .iconst 3, 1), (12, .if_icmp .ge 60, 3), (15, .aload_n 0, 1), (16, .getfield 18, 3), (19, .iload_n 3, 1), (20, .iaload, 1), (21, .iload_n 2, 1), (22, .if_icmp .ne 44, 3), (25, .iload_n 3, 1), (26, .aload_n 0, 1), (27, .getfield 25, 3), (30, .if_icmp .eq 36, 3), (33, .aload_n 1, 1), (34, .aload_n 0, 1), (35, .getfield 9, 3), (38, .iload_n 3, 1), (39, .iaload, 1), (40, .invokevirtual 47, 3), (43, .ifCond .ne 23, 3), (46, .aload_n 1, 1), (47, .getfield 44, 3), (50, .aload_n 0, 1), (51, .getfield 9, 3), (54, .iload_n 3, 1), (55, .iaload, 1), (56, .dup2, 1), (57, .iaload, 1), (58, .aload_n 0, 1), (59, .getfield 15, 3), (62, .iload_n 3, 1), (63, .iaload, 1), (64, .iadd, 1), (65, .iastore, 1), (66, .iinc 3 1, 3), (69, .goto (-67), 3), (72, .return_, 1)]
theorem tX3_order : dchk cX3_order eX3_order = true := by decide +kernel
abbrev eX3_sum : List (Nat × Instr × Nat) := [(0, .iconst 0, 1), (1, .istore_n 1, 1), (2, .iconst 0, 1), (3, .istore_n 2, 1), (4, .iload_n 2, 1), (5, .aload_n 0, 1), (6, .getfield 21, 3), (9, .if_icmp .ge 23, 3), (12, .iload_n 2, 1), (13, .iconst 3, 1), (14, .if_icmp .ge 18, 3), (17, .iload_n 1, 1), (18, .aload_n 0, 1), (19, .getfield 18, 3), (22, .iload_n 2, 1), (23, .iaload, 1), (24, .iadd, 1), (25, .istore_n 1, 1), (26, .iinc 2 1, 3), (29, .goto (-25), 3), (32, .iload_n 1, 1), (33, .ireturn, 1)]
theorem tX3_sum : dchk cX3_sum eX3_sum = true := by decide +kernel
abbrev eX3_startOf : List (Nat × Instr × Nat) := [(0, .iconst 0, 1), (1, .istore_n 2, 1), (2, .iload_n 2, 1), (3, .aload_n 0, 1), (4, .getfield 21, 3), (7, .if_icmp .ge 31, 3), (10, .iload_n 2, 1), (11, .iconst 3, 1), (12, .if_icmp .ge 26, 3), (15, .aload_n 0, 1), (16, .getfield 9, 3), (19, .iload_n 2, 1), (20, .iaload, 1), (21, .iload_n 1, 1), (22, .if_icmp .ne 10, 3), (25, .aload_n 0, 1), (26, .getfield 18, 3), (29, .iload_n 2, 1), (30, .iaload, 1), (31, .ireturn, 1), (32, .iinc 2 1, 3), (35, .goto (-33), 3), (38, .iconst 0, 1), (39, .ireturn, 1)]
theorem tX3_startOf : dchk cX3_startOf eX3_startOf = true := by decide +kernel
abbrev eX4_init : List (Nat × Instr × Nat) := [(0, .aload_n 0, 1), (1, .invokespecial 3, 3), (4, .aload_n 0, 1), (5, .sipush 200, 3), (8, .newarray .int, 2), (10, .putfield 9, 3), (13, .return_, 1)]
theorem tX4_init : dchk cX4_init eX4_init = true := by decide +kernel
abbrev eX4_add : List (Nat × Instr × Nat) := [(0, .aload_n 0, 1), (1, .getfield 15, 3), (4, .ifCond .lt 13, 3), (7, .aload_n 0, 1), (8, .getfield 15, 3), (11, .sipush 200, 3), (14, .if_icmp .lt 5, 3), (17, .iconst 0, 1), (18, .ireturn, 1), (19, .aload_n 0, 1), (20, .getfield 9, 3), (23, .aload_n 0, 1), (24, .getfield 15, 3), (27, .iload_n 1, 1), (28, .iastore, 1), (29, .aload_n 0, 1), (30, .dup, 1), (31, .getfield 15, 3), (34, .iconst 1, 1), (35, .iadd, 1), (36, .putfield 15, 3), (39, .iconst 1, 1), (40, .ireturn, 1)]
theorem tX4_add : dchk cX4_add eX4_add = true := by decide +kernel
abbrev eX4_tell : List (Nat × Instr × Nat) := [(0, .aload_n 0, 1), (1, .iconst 0, 1), (2, .putfield 19, 3), (5, .aload_n 0, 1), (6, .iconst 0, 1), (7, .putfield 22, 3), (10, .iconst 0, 1), (11, .istore_n 2, 1), (12, .aload_n 0, 1), (13, .invokevirtual 26, 3), (16, .iconst 0, 1), (17, .istore_n 3, 1), (18, .iload_n 3, 1), (19, .sipush 200, 3), (22, .if_icmp .gt 47, 3), (25, .aload_n 0, 1), (26, .getfield 29, 3), (29, .ifCond .eq 40, 3), (32, .aload_n 0, 1), (33, .getfield 22, 3), (36, .ifCond .ne 33, 3), (39, .aload_n 0, 1), (40, .aload_n 1, 1), (41, .iload_n 2, 1), (42, .invokevirtual 32, 3), (45, .aload_n 0, 1), (46, .invokevirtual 36, 3), (49, .iinc 2 1, 3), (52, .aload_n 0, 1), (53, .getfield 22, 3), (56, .ifCond .ne 7, 3), (59, .aload_n 0, 1), (60, .invokevirtual 26, 3), (63, .iinc 3 1, 3), (66, .goto (-48), 3), (69, .aload_n 0, 1), (70, .getfield 22, 3), (73, .ifCond .eq 13, 3), (76, .bipush (-10), 2), (78, .aload_n 0, 1), (79, .getfield 39, 3), (82, .isub, 1), (83, .goto 4, 3), (86, .iload_n 2, 1), (87, .ireturn, 1)]
theorem tX4_tell : dchk cX4_tell eX4_tell = true := by decide +kernel
abbrev eX4_tellItem : List (Nat × Instr × Nat) := [(0, .aload_n 0, 1), (1, .getfield 29, 3), (4, .iconst 1, 1), (5, .if_icmp .ne 10, 3), (8, .aload_n 0, 1), (9, .getfield 42, 3), (12, .goto 4, 3), (15, .iconst 0, 1), (16, .tableswitch 178 98 119 #[129, 113, 178, 178, 178, 178, 170, 178, 178, 178, 178, 178, 178, 178, 137, 178, 104, 121, 178, 178, 178, 162], 104), (120, .aload_n 0, 1), (121, .aload_n 1, 1), (122, .iload_n 2, 1), (123, .invokevirtual 45, 3), (126, .goto 73, 3), (129, .aload_n 0, 1), (130, .aload_n 1, 1), (131, .invokevirtual 48, 3), (134, .goto 65, 3), (137, .aload_n 0, 1), (138, .aload_n 1, 1), (139, .invokevirtual 52, 3), (142, .goto 57, 3), (145, .aload_n 0, 1), (146, .aload_n 1, 1), (147, .invokevirtual 55, 3), (150, .goto 49, 3), (153, .aload_n 1, 1), (154, .dup, 1), (155, .getfield 58, 3), (158, .iconst 1, 1), (159, .aload_n 0, 1), (160, .iconst 0, 1), (161, .aload_n 1, 1), (162, .getfield 63, 3), (165, .iconst 1, 1), (166, .isub, 1), (167, .invokevirtual 66, 3), (170, .ishl, 1), (171, .ior, 1), (172, .putfield 58, 3), (175, .goto 24, 3), (178, .aload_n 0, 1), (179, .aload_n 1, 1), (180, .invokevirtual 70, 3), (183, .goto 16, 3), (186, .aload_n 0, 1), (187, .aload_n 1, 1), (188, .invokevirtual 73, 3), (191, .goto 8, 3), (194, .aload_n 0, 1), (195, .iconst 1, 1), (196, .putfield 22, 3), (199, .return_, 1)]
theorem tX4_tellItem : dchk cX4_tellItem eX4_tellItem = true := by decide +kernel
abbrev eX4_tellRing : List (Nat × Instr × Nat) := [(0, .aload_n 0, 1), (1, .iload_n 2, 1), (2, .ifCond .le 7, 3), (5, .iconst 1, 1), (6, .goto 4, 3), (9, .iconst 0, 1), (10, .putfield 22, 3), (13, .aload_n 1, 1), (14, .aload_n 0, 1), (15, .iconst 4, 1), (16, .bipush 12, 2), (18, .invokevirtual 66, 3), (21, .putfield 63, 3), (24, .return_, 1)]
theorem tX4_tellRing : dchk cX4_tellRing eX4_tellRing = true := by decide +kernel
abbrev eX4_tellCost : List (Nat × Instr × Nat) := [(0, .aload_n 0, 1), (1, .iconst 0, 1), (2, .aload_n 1, 1), (3, .getfield 63, 3), (6, .iconst 1, 1), (7, .isub, 1), (8, .invokevirtual 66, 3), (11, .istore_n 2, 1), (12, .aload_n 0, 1), (13, .iconst 1, 1), (14, .iconst 4, 1), (15, .invokevirtual 66, 3), (18, .istore_n 3, 1), (19, .aload_n 1, 1), (20, .iload_n 2, 1), (21, .invokevirtual 76, 3), (24, .ifCond .eq 10, 3), (27, .aload_n 1, 1), (28, .getfield 80, 3), (31, .iload_n 2, 1), (32, .iload_n 3, 1), (33, .iastore, 1), (34, .return_, 1)]
theorem tX4_tellCost : dchk cX4_tellCost eX4_tellCost = true := by decide +kernel
abbrev eX4_tellSun : List (Nat × Instr × Nat) := [(0, .aload_n 0, 1), (1, .aload_n 1, 1), (2, .getfield 83, 3), (5, .putfield 22, 3), (8, .aload_n 1, 1), (9, .iconst 1, 1), (10, .putfield 83, 3), (13, .aload_n 1, 1), (14, .aload_n 0, 1), (15, .iconst 1, 1), (16, .bipush 9, 2), (18, .invokevirtual 66, 3), (21, .putfield 86, 3), (24, .aload_n 1, 1), (25, .aload_n 0, 1), (26, .iconst 1, 1), (27, .bipush 20, 2), (29, .invokevirtual 66, 3), (32, .putfield 89, 3), (35, .return_, 1)]
theorem tX4_tellSun : dchk cX4_tellSun eX4_tellSun = true := by decide +kernel
abbrev eX4_tellBridge : List (Nat × Instr × Nat) := [(0, .aload_n 0, 1), (1, .aload_n 1, 1), (2, .getfield 92, 3), (5, .bipush (-9), 2), (7, .if_icmp .eq 7, 3), (10, .iconst 1, 1), (11, .goto 4, 3), (14, .iconst 0, 1), (15, .putfield 22, 3), (18, .aload_n 1, 1), (19, .aload_n 0, 1), (20, .iconst 0, 1), (21, .aload_n 1, 1), (22, .getfield 63, 3), (25, .iconst 1, 1), (26, .isub, 1), (27, .invokevirtual 66, 3), (30, .putfield 92, 3), (33, .return_, 1)]
theorem tX4_tellBridge : dchk cX4_tellBridge eX4_tellBridge = true := by decide +kernel
abbrev eX4_tellWagon : List (Nat × Instr × Nat) := [(0, .aload_n 0, 1), (1, .aload_n 1, 1), (2, .getfield 95, 3), (5, .iconst 5, 1), (6, .if_icmp .lt 7, 3), (9, .iconst 1, 1), (10, .goto 4, 3), (13, .iconst 0, 1), (14, .putfield 22, 3), (17, .aload_n 0, 1), (18, .iconst 0, 1), (19, .bipush 20, 2), (21, .invokevirtual 66, 3), (24, .istore_n 2, 1), (25, .aload_n 0, 1), (26, .iconst 0, 1), (27, .iconst 3, 1), (28, .invokevirtual 66, 3), (31, .istore_n 3, 1), (32, .aload_n 0, 1), (33, .iconst 0, 1), (34, .bipush 9, 2), (36, .invokevirtual 66, 3), (39, .istore 4, 2), (41, .aload_n 0, 1), (42, .iconst 0, 1), (43, .iconst 2, 1), (44, .invokevirtual 66, 3), (47, .istore 5, 2), (49, .aload_n 0, 1), (50, .getfield 22, 3), (53, .ifCond .ne 18, 3), (56, .aload_n 0, 1), (57, .aload_n 1, 1), (58, .aload_n 1, 1), (59, .getfield 98, 3), (62, .iload 5, 2), (64, .iload_n 2, 1), (65, .invokevirtual 101, 3), (68, .putfield 22, 3), (71, .aload_n 0, 1), (72, .getfield 22, 3), (75, .ifCond .ne 13, 3), (78, .aload_n 1, 1), (79, .iload_n 2, 1), (80, .iload_n 3, 1), (81, .iload 4, 2), (83, .iload 5, 2), (85, .invokevirtual 105, 3), (88, .return_, 1)]
theorem tX4_tellWagon : dchk cX4_tellWagon eX4_tellWagon = true := by decide +kernel
abbrev eX4_tellPair : List (Nat × Instr × Nat) := [(0, .aload_n 0, 1), (1, .aload_n 1, 1), (2, .getfield 109, 3), (5, .iconst 4, 1), (6, .if_icmp .lt 7, 3), (9, .iconst 1, 1), (10, .goto 4, 3), (13, .iconst 0, 1), (14, .putfield 22, 3), (17, .aload_n 0, 1), (18, .iconst 0, 1), (19, .aload_n 1, 1), (20, .getfield 95, 3), (23, .iconst 1, 1), (24, .isub, 1), (25, .invokevirtual 66, 3), (28, .istore_n 2, 1), (29, .aload_n 0, 1), (30, .iconst 0, 1), (31, .aload_n 1, 1), (32, .getfield 95, 3), (35, .iconst 1, 1), (36, .isub, 1), (37, .invokevirtual 66, 3), (40, .istore_n 3, 1), (41, .aload_n 0, 1), (42, .getfield 22, 3), (45, .ifCond .ne 17, 3), (48, .aload_n 0, 1), (49, .iload_n 2, 1), (50, .iload_n 3, 1), (51, .if_icmp .ne 7, 3), (54, .iconst 1, 1), (55, .goto 4, 3), (58, .iconst 0, 1), (59, .putfield 22, 3), (62, .aload_n 0, 1), (63, .getfield 22, 3), (66, .ifCond .ne 9, 3), (69, .aload_n 1, 1), (70, .iload_n 2, 1), (71, .iload_n 3, 1), (72, .invokevirtual 112, 3), (75, .return_, 1)]
theorem tX4_tellPair : dchk cX4_tellPair eX4_tellPair = true := by decide +kernel
abbrev eX4_readNumber : List (Nat × Instr × Nat) := [(0, .aload_n 0, 1), (1, .getfield 22, 3), (4, .ifCond .eq 5, 3), (7, .iload_n 1, 1), (8, .ireturn, 1), (9, .aload_n 0, 1), (10, .invokevirtual 26, 3), (13, .aload_n 0, 1), (14, .getfield 29, 3), (17, .iconst 2, 1), (18, .if_icmp .ne 19, 3), (21, .aload_n 0, 1), (22, .getfield 42, 3), (25, .iload_n 1, 1), (26, .if_icmp .lt 11, 3), (29, .aload_n 0, 1), (30, .getfield 42, 3), (33, .iload_n 2, 1), (34, .if_icmp .le 10, 3), (37, .aload_n 0, 1), (38, .iconst 1, 1), (39, .putfield 22, 3), (42, .iload_n 1, 1), (43, .ireturn, 1), (44, .aload_n 0, 1), (45, .getfield 42, 3), (48, .ireturn, 1)]
theorem tX4_readNumber : dchk cX4_readNumber eX4_readNumber = true := by decide +kernel
abbrev eX4_readStop : List (Nat × Instr × Nat) := [(0, .aload_n 0, 1), (1, .getfield 22, 3), (4, .ifCond .ne 24, 3), (7, .aload_n 0, 1), (8, .invokevirtual 26, 3), (11, .aload_n 0, 1), (12, .aload_n 0, 1), (13, .getfield 29, 3), (16, .iconst 3, 1), (17, .if_icmp .eq 7, 3), (20, .iconst 1, 1), (21, .goto 4, 3), (24, .iconst 0, 1), (25, .putfield 22, 3), (28, .return_, 1)]
theorem tX4_readStop : dchk cX4_readStop eX4_readStop = true := by decide +kernel
abbrev eX4_readToken : List (Nat × Instr × Nat) := [(0, .aload_n 0, 1), (1, .getfield 19, 3), (4, .aload_n 0, 1), (5, .getfield 15, 3), (8, .if_icmp .ge 40, 3), (11, .aload_n 0, 1), (12, .getfield 19, 3), (15, .sipush 200, 3), (18, .if_icmp .ge 30, 3), (21, .aload_n 0, 1), (22, .getfield 9, 3), (25, .aload_n 0, 1), (26, .getfield 19, 3), (29, .iaload, 1), (30, .bipush 32, 2), (32, .if_icmp .ne 16, 3), (35, .aload_n 0, 1), (36, .dup, 1), (37, .getfield 19, 3), (40, .iconst 1, 1), (41, .iadd, 1), (42, .putfield 19, 3), (45, .goto (-45), 3), (48, .aload_n 0, 1), (49, .aload_n 0, 1), (50, .getfield 19, 3), (53, .putfield 39, 3), (56, .aload_n 0, 1), (57, .iconst 0, 1), (58, .putfield 42, 3), (61, .aload_n 0, 1), (62, .getfield 19, 3), (65, .aload_n 0, 1), (66, .getfield 15, 3), (69, .if_icmp .ge 13, 3), (72, .aload_n 0, 1), (73, .getfield 19, 3), (76, .sipush 200, 3), (79, .if_icmp .lt 11, 3), (82, .aload_n 0, 1), (83, .iconst 0, 1), (84, .putfield 29, 3), (87, .goto 80, 3), (90, .aload_n 0, 1), (91, .getfield 9, 3), (94, .aload_n 0, 1), (95, .getfield 19, 3), (98, .iaload, 1), (99, .invokestatic 116, 3), (102, .ifCond .eq 10, 3), (105, .aload_n 0, 1), (106, .invokevirtual 119, 3), (109, .goto 58, 3), (112, .aload_n 0, 1), (113, .getfield 9, 3), (116, .aload_n 0, 1), (117, .getfield 19, 3), (120, .iaload, 1), (121, .invokestatic 122, 3), (124, .ifCond .eq 10, 3), (127, .aload_n 0, 1), (128, .invokevirtual 125, 3), (131, .goto 36, 3), (134, .aload_n 0, 1), (135, .aload_n 0, 1), (136, .getfield 9, 3), (139, .aload_n 0, 1), (140, .getfield 19, 3), (143, .iaload, 1), (144, .bipush 59, 2), (146, .if_icmp .ne 7, 3), (149, .iconst 3, 1), (150, .goto 4, 3), (153, .iconst 4, 1), (154, .putfield 29, 3), (157, .aload_n 0, 1), (158, .dup, 1), (159, .getfield 19, 3), (162, .iconst 1, 1), (163, .iadd, 1), (164, .putfield 19, 3), (167, .return_, 1)]
theorem tX4_readToken : dchk cX4_readToken eX4_readToken = true := by decide +kernel
abbrev eX4_readLetters : List (Nat × Instr × Nat) := [(0, .aload_n 0, 1), (1, .iconst 1, 1), (2, .putfield 29, 3), (5, .aload_n 0, 1), (6, .aload_n 0, 1), (7, .getfield 9, 3), (10, .aload_n 0, 1), (11, .getfield 39, 3), (14, .iaload, 1), (15, .putfield 42, 3), (18, .aload_n 0, 1), (19, .aload_n 0, 1), (20, .getfield 39, 3), (23, .iconst 1, 1), (24, .iadd, 1), (25, .putfield 19, 3), (28, .aload_n 0, 1), (29, .getfield 19, 3), (32, .aload_n 0, 1), (33, .getfield 15, 3), (36, .if_icmp .ge 46, 3), (39, .aload_n 0, 1), (40, .getfield 19, 3), (43, .sipush 200, 3), (46, .if_icmp .ge 36, 3), (49, .aload_n 0, 1), (50, .getfield 9, 3), (53, .aload_n 0, 1), (54, .getfield 19, 3), (57, .iaload, 1), (58, .invokestatic 116, 3), (61, .ifCond .eq 21, 3), (64, .aload_n 0, 1), (65, .iconst 0, 1), (66, .putfield 42, 3), (69, .aload_n 0, 1), (70, .dup, 1), (71, .getfield 19, 3), (74, .iconst 1, 1), (75, .iadd, 1), (76, .putfield 19, 3), (79, .goto (-51), 3), (82, .return_, 1)]
theorem tX4_readLetters : dchk cX4_readLetters eX4_readLetters = true := by decide +kernel
abbrev eX4_readDigits : List (Nat × Instr × Nat) := [(0, .aload_n 0, 1), (1, .aload_n 0, 1), (2, .getfield 9, 3), (5, .aload_n 0, 1), (6, .getfield 39, 3), (9, .iaload, 1), (10, .bipush 48, 2), (12, .if_icmp .ne 49, 3), (15, .aload_n 0, 1), (16, .getfield 39, 3), (19, .iconst 1, 1), (20, .iadd, 1), (21, .aload_n 0, 1), (22, .getfield 15, 3), (25, .if_icmp .ge 36, 3), (28, .aload_n 0, 1), (29, .getfield 39, 3), (32, .iconst 1, 1), (33, .iadd, 1), (34, .sipush 200, 3), (37, .if_icmp .ge 24, 3), (40, .aload_n 0, 1), (41, .getfield 9, 3), (44, .aload_n 0, 1), (45, .getfield 39, 3), (48, .iconst 1, 1), (49, .iadd, 1), (50, .iaload, 1), (51, .invokestatic 122, 3), (54, .ifCond .eq 7, 3), (57, .iconst 4, 1), (58, .goto 4, 3), (61, .iconst 2, 1), (62, .putfield 29, 3), (65, .aload_n 0, 1), (66, .aload_n 0, 1), (67, .getfield 39, 3), (70, .putfield 19, 3), (73, .aload_n 0, 1), (74, .getfield 19, 3), (77, .aload_n 0, 1), (78, .getfield 15, 3), (81, .if_icmp .ge 70, 3), (84, .aload_n 0, 1), (85, .getfield 19, 3), (88, .sipush 200, 3), (91, .if_icmp .ge 60, 3), (94, .aload_n 0, 1), (95, .getfield 9, 3), (98, .aload_n 0, 1), (99, .getfield 19, 3), (102, .iaload, 1), (103, .invokestatic 122, 3), (106, .ifCond .eq 45, 3), (109, .aload_n 0, 1), (110, .bipush 100, 2), (112, .aload_n 0, 1), (113, .getfield 42, 3), (116, .bipush 10, 2), (118, .imul, 1), (119, .aload_n 0, 1), (120, .getfield 9, 3), (123, .aload_n 0, 1), (124, .getfield 19, 3), (127, .iaload, 1), (128, .iadd, 1), (129, .bipush 48, 2), (131, .isub, 1), (132, .invokestatic 128, 3), (135, .putfield 42, 3), (138, .aload_n 0, 1), (139, .dup, 1), (140, .getfield 19, 3), (143, .iconst 1, 1), (144, .iadd, 1), (145, .putfield 19, 3), (148, .goto (-75), 3), (151, .return_, 1)]
theorem tX4_readDigits : dchk cX4_readDigits eX4_readDigits = true := by decide +kernel
abbrev eX4_isLetter : List (Nat × Instr × Nat) := [(0, .iload_n 0, 1), (1, .bipush 97, 2), (3, .if_icmp .lt 13, 3), (6, .iload_n 0, 1), (7, .bipush 122, 2), (9, .if_icmp .gt 7, 3), (12, .iconst 1, 1), (13, .goto 4, 3), (16, .iconst 0, 1), (17, .ireturn, 1)]
theorem tX4_isLetter : dchk cX4_isLetter eX4_isLetter = true := by decide +kernel
abbrev eX4_isDigit : List (Nat × Instr × Nat) := [(0, .iload_n 0, 1), (1, .bipush 48, 2), (3, .if_icmp .lt 13, 3), (6, .iload_n 0, 1), (7, .bipush 57, 2), (9, .if_icmp .gt 7, 3), (12, .iconst 1, 1), (13, .goto 4, 3), (16, .iconst 0, 1), (17, .ireturn, 1)]
theorem tX4_isDigit : dchk cX4_isDigit eX4_isDigit = true := by decide +kernel
abbrev eX5_init : List (Nat × Instr × Nat) := [(0, .aload_n 0, 1), (1, .invokespecial 3, 3), (4, .aload_n 0, 1), (5, .new 9, 3), (8, .dup, 1), (9, .invokespecial 11, 3), (12, .putfield 12, 3), (15, .aload_n 0, 1), (16, .bipush 10, 2), (18, .anewarray 9, 3), (21, .putfield 18, 3), (24, .iconst 0, 1), (25, .istore_n 1, 1), (26, .iload_n 1, 1), (27, .bipush 10, 2), (29, .if_icmp .ge 22, 3), (32, .aload_n 0, 1), (33, .getfield 18, 3), (36, .iload_n 1, 1), (37, .new 9, 3), (40, .dup, 1), (41, .invokespecial 11, 3), (44, .aastore, 1), (45, .iinc 1 1, 3), (48, .goto (-22), 3), (51, .return_, 1)]
theorem tX5_init : dchk cX5_init eX5_init = true := by decide +kernel
abbrev eX5_begin : List (Nat × Instr × Nat) := [(0, .aload_n 0, 1), (1, .getfield 12, 3), (4, .aload_n 1, 1), (5, .invokevirtual 22, 3), (8, .aload_n 0, 1), (9, .iconst 0, 1), (10, .putfield 26, 3), (13, .return_, 1)]
theorem tX5_begin : dchk cX5_begin eX5_begin = true := by decide +kernel
abbrev eX5_remember : List (Nat × Instr × Nat) := [(0, .aload_n 0, 1), (1, .getfield 26, 3), (4, .bipush 10, 2), (6, .if_icmp .lt 7, 3), (9, .aload_n 0, 1), (10, .invokevirtual 30, 3), (13, .aload_n 0, 1), (14, .getfield 26, 3), (17, .ifCond .lt 50, 3), (20, .aload_n 0, 1), (21, .getfield 26, 3), (24, .bipush 10, 2), (26, .if_icmp .ge 41, 3), (29, .aload_n 0, 1), (30, .getfield 18, 3), (33, .aload_n 0, 1), (34, .getfield 26, 3), (37, .aaload, 1), (38, .ifnull 29, 3), (41, .aload_n 0, 1), (42, .getfield 18, 3), (45, .aload_n 0, 1), (46, .getfield 26, 3), (49, .aaload, 1), (50, .aload_n 0, 1), (51, .getfield 12, 3), (54, .invokevirtual 22, 3), (57, .aload_n 0, 1), (58, .dup, 1), (59, .getfield 26, 3), (62, .iconst 1, 1), (63, .iadd, 1), (64, .putfield 26, 3), (67, .return_, 1)]
theorem tX5_remember : dchk cX5_remember eX5_remember = true := by decide +kernel
abbrev eX5_loseOldest : List (Nat × Instr × Nat) := [(0, .aload_n 0, 1), (1, .getfield 18, 3), (4, .iconst 0, 1), (5, .aaload, 1), (6, .astore_n 1, 1), (7, .iconst 1, 1), (8, .istore_n 2, 1), (9, .iload_n 2, 1), (10, .bipush 10, 2), (12, .if_icmp .ge 23, 3), (15, .aload_n 0, 1), (16, .getfield 18, 3), (19, .iload_n 2, 1), (20, .iconst 1, 1), (21, .isub, 1), (22, .aload_n 0, 1), (23, .getfield 18, 3), (26, .iload_n 2, 1), (27, .aaload, 1), (28, .aastore, 1), (29, .iinc 2 1, 3), (32, .goto (-23), 3), (35, .aload_n 0, 1), (36, .getfield 18, 3), (39, .bipush 9, 2), (41, .aload_n 1, 1), (42, .aastore, 1), (43, .aload_n 0, 1), (44, .bipush 9, 2), (46, .putfield 26, 3), (49, .return_, 1)]
theorem tX5_loseOldest : dchk cX5_loseOldest eX5_loseOldest = true := by decide +kernel
abbrev eX5_takeBack : List (Nat × Instr × Nat) := [(0, .aload_n 0, 1), (1, .getfield 26, 3), (4, .iconst 1, 1), (5, .if_icmp .lt 26, 3), (8, .aload_n 0, 1), (9, .getfield 26, 3), (12, .bipush 10, 2), (14, .if_icmp .gt 17, 3), (17, .aload_n 0, 1), (18, .getfield 18, 3), (21, .aload_n 0, 1), (22, .getfield 26, 3), (25, .iconst 1, 1), (26, .isub, 1), (27, .aaload, 1), (28, .ifnonnull 5, 3), (31, .iconst 0, 1), (32, .ireturn, 1), (33, .aload_n 0, 1), (34, .dup, 1), (35, .getfield 26, 3), (38, .iconst 1, 1), (39, .isub, 1), (40, .putfield 26, 3), (43, .aload_n 0, 1), (44, .getfield 12, 3), (47, .aload_n 0, 1), (48, .getfield 18, 3), (51, .aload_n 0, 1), (52, .getfield 26, 3), (55, .aaload, 1), (56, .invokevirtual 22, 3), (59, .iconst 1, 1), (60, .ireturn, 1)]
theorem tX5_takeBack : dchk cX5_takeBack eX5_takeBack = true := by decide +kernel
abbrev eX5_copyFrom : List (Nat × Instr × Nat) := [(0, .aload_n 0, 1), (1, .getfield 12, 3), (4, .aload_n 1, 1), (5, .getfield 12, 3), (8, .invokevirtual 22, 3), (11, .aload_n 0, 1), (12, .aload_n 1, 1), (13, .getfield 26, 3), (16, .putfield 26, 3), (19, .iconst 0, 1), (20, .istore_n 2, 1), (21, .iload_n 2, 1), (22, .aload_n 0, 1), (23, .getfield 26, 3), (26, .if_icmp .ge 48, 3), (29, .iload_n 2, 1), (30, .bipush 10, 2), (32, .if_icmp .ge 42, 3), (35, .aload_n 0, 1), (36, .getfield 18, 3), (39, .iload_n 2, 1), (40, .aaload, 1), (41, .ifnull 27, 3), (44, .aload_n 1, 1), (45, .getfield 18, 3), (48, .iload_n 2, 1), (49, .aaload, 1), (50, .ifnull 18, 3), (53, .aload_n 0, 1), (54, .getfield 18, 3), (57, .iload_n 2, 1), (58, .aaload, 1), (59, .aload_n 1, 1), (60, .getfield 18, 3), (63, .iload_n 2, 1), (64, .aaload, 1), (65, .invokevirtual 22, 3), (68, .iinc 2 1, 3), (71, .goto (-50), 3), (74, .return_, 1)]
theorem tX5_copyFrom : dchk cX5_copyFrom eX5_copyFrom = true := by decide +kernel
abbrev eX6_init : List (Nat × Instr × Nat) := [(0, .aload_n 0, 1), (1, .invokespecial 1, 3), (4, .aload_n 0, 1), (5, .new 7, 3), (8, .dup, 1), (9, .invokespecial 9, 3), (12, .putfield 10, 3), (15, .aload_n 0, 1), (16, .new 16, 3), (19, .dup, 1), (20, .invokespecial 18, 3), (23, .putfield 19, 3), (26, .aload_n 0, 1), (27, .new 23, 3), (30, .dup, 1), (31, .invokespecial 25, 3), (34, .putfield 26, 3), (37, .aload_n 0, 1), (38, .new 30, 3), (41, .dup, 1), (42, .invokespecial 32, 3), (45, .putfield 33, 3), (48, .aload_n 0, 1), (49, .new 37, 3), (52, .dup, 1), (53, .invokespecial 39, 3), (56, .putfield 40, 3), (59, .aload_n 0, 1), (60, .new 37, 3), (63, .dup, 1), (64, .invokespecial 39, 3), (67, .putfield 44, 3), (70, .aload_n 0, 1), (71, .new 37, 3), (74, .dup, 1), (75, .invokespecial 39, 3), (78, .putfield 47, 3), (81, .aload_n 0, 1), (82, .new 50, 3), (85, .dup, 1), (86, .invokespecial 52, 3), (89, .putfield 53, 3), (92, .aload_n 0, 1), (93, .new 50, 3), (96, .dup, 1), (97, .invokespecial 52, 3), (100, .putfield 57, 3), (103, .return_, 1)]
theorem tX6_init : dchk cX6_init eX6_init = true := by decide +kernel
abbrev eX6_type : List (Nat × Instr × Nat) := [(0, .iload_n 1, 1), (1, .ifCond .lt 10, 3), (4, .iload_n 1, 1), (5, .sipush 255, 3), (8, .if_icmp .le 5, 3), (11, .iconst (-1), 1), (12, .ireturn, 1), (13, .aload_n 0, 1), (14, .getfield 10, 3), (17, .iload_n 1, 1), (18, .invokevirtual 60, 3), (21, .ifCond .eq 13, 3), (24, .aload_n 0, 1), (25, .getfield 10, 3), (28, .getfield 64, 3), (31, .goto 5, 3), (34, .bipush (-3), 2), (36, .ireturn, 1)]
theorem tX6_type : dchk cX6_type eX6_type = true := by decide +kernel
abbrev eX6_clear : List (Nat × Instr × Nat) := [(0, .aload_n 0, 1), (1, .getfield 10, 3), (4, .getfield 64, 3), (7, .istore_n 1, 1), (8, .aload_n 0, 1), (9, .getfield 10, 3), (12, .iconst 0, 1), (13, .putfield 64, 3), (16, .iload_n 1, 1), (17, .ireturn, 1)]
theorem tX6_clear : dchk cX6_clear eX6_clear = true := by decide +kernel
abbrev eX6_world : List (Nat × Instr × Nat) := [(0, .aload_n 0, 1), (1, .getfield 57, 3), (4, .invokevirtual 68, 3), (7, .aload_n 0, 1), (8, .getfield 10, 3), (11, .aload_n 0, 1), (12, .getfield 57, 3), (15, .invokevirtual 71, 3), (18, .istore_n 1, 1), (19, .iload_n 1, 1), (20, .ifCond .ge 5, 3), (23, .iload_n 1, 1), (24, .ireturn, 1), (25, .aload_n 0, 1), (26, .getfield 57, 3), (29, .invokevirtual 75, 3), (32, .aload_n 0, 1), (33, .getfield 53, 3), (36, .astore_n 2, 1), (37, .aload_n 0, 1), (38, .aload_n 0, 1), (39, .getfield 57, 3), (42, .putfield 53, 3), (45, .aload_n 0, 1), (46, .aload_n 2, 1), (47, .putfield 57, 3), (50, .aload_n 0, 1), (51, .getfield 10, 3), (54, .iconst 0, 1), (55, .putfield 64, 3), (58, .aload_n 0, 1), (59, .getfield 40, 3), (62, .aload_n 0, 1), (63, .getfield 53, 3), (66, .getfield 78, 3), (69, .invokevirtual 81, 3), (72, .aload_n 0, 1), (73, .getfield 44, 3), (76, .iconst 0, 1), (77, .putfield 85, 3), (80, .aload_n 0, 1), (81, .getfield 47, 3), (84, .iconst 0, 1), (85, .putfield 85, 3), (88, .iload_n 1, 1), (89, .ireturn, 1)]
theorem tX6_world : dchk cX6_world eX6_world = true := by decide +kernel
abbrev eX6_place : List (Nat × Instr × Nat) := [(0, .aload_n 0, 1), (1, .getfield 53, 3), (4, .iload_n 1, 1), (5, .invokevirtual 89, 3), (8, .ifCond .ne 5, 3), (11, .iconst (-1), 1), (12, .ireturn, 1), (13, .iload_n 2, 1), (14, .tableswitch 65 0 2 #[26, 36, 48], 26), (40, .aload_n 0, 1), (41, .getfield 53, 3), (44, .getfield 92, 3), (47, .iload_n 1, 1), (48, .iaload, 1), (49, .ireturn, 1), (50, .aload_n 0, 1), (51, .getfield 53, 3), (54, .getfield 96, 3), (57, .iload_n 1, 1), (58, .ishr, 1), (59, .iconst 1, 1), (60, .iand, 1), (61, .ireturn, 1), (62, .aload_n 0, 1), (63, .getfield 53, 3), (66, .getfield 99, 3), (69, .iload_n 1, 1), (70, .if_icmp .ne 7, 3), (73, .iconst 1, 1), (74, .goto 4, 3), (77, .iconst 0, 1), (78, .ireturn, 1), (79, .iconst (-1), 1), (80, .ireturn, 1)]
theorem tX6_place : dchk cX6_place eX6_place = true := by decide +kernel
abbrev eX6_wagon : List (Nat × Instr × Nat) := [(0, .aload_n 0, 1), (1, .getfield 53, 3), (4, .iload_n 1, 1), (5, .invokevirtual 102, 3), (8, .ifCond .ne 5, 3), (11, .iconst (-1), 1), (12, .ireturn, 1), (13, .aload_n 0, 1), (14, .getfield 40, 3), (17, .getfield 105, 3), (20, .astore_n 3, 1), (21, .iload_n 2, 1), (22, .tableswitch 115 0 7 #[46, 53, 63, 73, 80, 87, 94, 101], 46), (68, .aload_n 3, 1), (69, .getfield 108, 3), (72, .iload_n 1, 1), (73, .iaload, 1), (74, .ireturn, 1), (75, .aload_n 0, 1), (76, .getfield 53, 3), (79, .getfield 111, 3), (82, .iload_n 1, 1), (83, .iaload, 1), (84, .ireturn, 1), (85, .aload_n 0, 1), (86, .getfield 53, 3), (89, .getfield 114, 3), (92, .iload_n 1, 1), (93, .iaload, 1), (94, .ireturn, 1), (95, .aload_n 3, 1), (96, .getfield 117, 3), (99, .iload_n 1, 1), (100, .iaload, 1), (101, .ireturn, 1), (102, .aload_n 3, 1), (103, .getfield 120, 3), (106, .iload_n 1, 1), (107, .iaload, 1), (108, .ireturn, 1), (109, .aload_n 3, 1), (110, .getfield 123, 3), (113, .iload_n 1, 1), (114, .iaload, 1), (115, .ireturn, 1), (116, .aload_n 3, 1), (117, .getfield 126, 3), (120, .iload_n 1, 1), (121, .iaload, 1), (122, .ireturn, 1), (123, .aload_n 3, 1), (124, .iload_n 1, 1), (125, .invokevirtual 129, 3), (128, .ifCond .eq 7, 3), (131, .iconst 1, 1), (132, .goto 4, 3), (135, .iconst 0, 1), (136, .ireturn, 1), (137, .iconst (-1), 1), (138, .ireturn, 1)]
theorem tX6_wagon : dchk cX6_wagon eX6_wagon = true := by decide +kernel
abbrev eX6_now : List (Nat × Instr × Nat) := [(0, .iload_n 1, 1), (1, .tableswitch 100 0 5 #[39, 50, 58, 66, 74, 85], 39), (40, .aload_n 0, 1), (41, .getfield 40, 3), (44, .getfield 105, 3), (47, .getfield 132, 3), (50, .ireturn, 1), (51, .aload_n 0, 1), (52, .getfield 53, 3), (55, .getfield 135, 3), (58, .ireturn, 1), (59, .aload_n 0, 1), (60, .getfield 53, 3), (63, .getfield 138, 3), (66, .ireturn, 1), (67, .aload_n 0, 1), (68, .getfield 53, 3), (71, .getfield 141, 3), (74, .ireturn, 1), (75, .aload_n 0, 1), (76, .getfield 40, 3), (79, .getfield 105, 3), (82, .getfield 144, 3), (85, .ireturn, 1), (86, .aload_n 0, 1), (87, .getfield 53, 3), (90, .aload_n 0, 1), (91, .getfield 40, 3), (94, .getfield 105, 3), (97, .invokevirtual 147, 3), (100, .ireturn, 1), (101, .iconst (-1), 1), (102, .ireturn, 1)]
theorem tX6_now : dchk cX6_now eX6_now = true := by decide +kernel
abbrev eX6_sun : List (Nat × Instr × Nat) := [(0, .iload_n 1, 1), (1, .ifCond .lt 10, 3), (4, .iload_n 1, 1), (5, .sipush 1100, 3), (8, .if_icmp .le 8, 3), (11, .ldc 151, 2), (13, .goto 18, 3), (16, .aload_n 0, 1), (17, .getfield 53, 3), (20, .iload_n 1, 1), (21, .aload_n 0, 1), (22, .getfield 53, 3), (25, .getfield 141, 3), (28, .invokevirtual 152, 3), (31, .ireturn, 1)]
theorem tX6_sun : dchk cX6_sun eX6_sun = true := by decide +kernel
abbrev eX6_minute : List (Nat × Instr × Nat) := [(0, .aload_n 0, 1), (1, .getfield 40, 3), (4, .getfield 105, 3), (7, .getfield 132, 3), (10, .sipush 999, 3), (13, .if_icmp .lt 6, 3), (16, .bipush (-2), 2), (18, .ireturn, 1), (19, .aload_n 0, 1), (20, .getfield 40, 3), (23, .invokevirtual 156, 3), (26, .aload_n 0, 1), (27, .getfield 53, 3), (30, .aload_n 0, 1), (31, .getfield 40, 3), (34, .getfield 105, 3), (37, .invokevirtual 159, 3), (40, .pop, 1), (41, .aload_n 0, 1), (42, .getfield 40, 3), (45, .getfield 105, 3), (48, .getfield 144, 3), (51, .invokestatic 162, 3), (54, .ireturn, 1)]
theorem tX6_minute : dchk cX6_minute eX6_minute = true := by decide +kernel
abbrev eX6_stand : List (Nat × Instr × Nat) := [(0, .aload_n 0, 1), (1, .getfield 53, 3), (4, .iload_n 1, 1), (5, .invokevirtual 102, 3), (8, .ifCond .eq 14, 3), (11, .iload_n 2, 1), (12, .iconst 1, 1), (13, .if_icmp .lt 9, 3), (16, .iload_n 2, 1), (17, .bipush 30, 2), (19, .if_icmp .le 5, 3), (22, .iconst (-1), 1), (23, .ireturn, 1), (24, .aload_n 0, 1), (25, .getfield 40, 3), (28, .getfield 105, 3), (31, .astore_n 3, 1), (32, .aload_n 3, 1), (33, .iload_n 1, 1), (34, .invokevirtual 129, 3), (37, .ifCond .ne 16, 3), (40, .aload_n 3, 1), (41, .getfield 123, 3), (44, .iload_n 1, 1), (45, .iaload, 1), (46, .iload_n 2, 1), (47, .iadd, 1), (48, .bipush 99, 2), (50, .if_icmp .le 6, 3), (53, .bipush (-2), 2), (55, .ireturn, 1), (56, .aload_n 0, 1), (57, .getfield 40, 3), (60, .invokevirtual 156, 3), (63, .aload_n 3, 1), (64, .getfield 123, 3), (67, .iload_n 1, 1), (68, .dup2, 1), (69, .iaload, 1), (70, .iload_n 2, 1), (71, .iadd, 1), (72, .iastore, 1), (73, .aload_n 3, 1), (74, .getfield 123, 3), (77, .iload_n 1, 1), (78, .iaload, 1), (79, .ireturn, 1)]
theorem tX6_stand : dchk cX6_stand eX6_stand = true := by decide +kernel
abbrev eX6_change : List (Nat × Instr × Nat) := [(0, .aload_n 0, 1), (1, .getfield 53, 3), (4, .iload_n 1, 1), (5, .invokevirtual 102, 3), (8, .ifCond .eq 12, 3), (11, .iload_n 2, 1), (12, .ifCond .lt 8, 3), (15, .iload_n 2, 1), (16, .iconst 2, 1), (17, .if_icmp .le 5, 3), (20, .iconst (-1), 1), (21, .ireturn, 1), (22, .aload_n 0, 1), (23, .getfield 40, 3), (26, .getfield 105, 3), (29, .astore_n 3, 1), (30, .aload_n 3, 1), (31, .iload_n 1, 1), (32, .invokevirtual 129, 3), (35, .ifCond .ne 37, 3), (38, .aload_n 0, 1), (39, .getfield 53, 3), (42, .aload_n 3, 1), (43, .getfield 108, 3), (46, .iload_n 1, 1), (47, .iaload, 1), (48, .invokevirtual 168, 3), (51, .ifCond .eq 21, 3), (54, .aload_n 0, 1), (55, .getfield 53, 3), (58, .aload_n 3, 1), (59, .iload_n 2, 1), (60, .aload_n 3, 1), (61, .getfield 108, 3), (64, .iload_n 1, 1), (65, .iaload, 1), (66, .invokevirtual 171, 3), (69, .ifCond .eq 6, 3), (72, .bipush (-2), 2), (74, .ireturn, 1), (75, .aload_n 0, 1), (76, .getfield 40, 3), (79, .invokevirtual 156, 3), (82, .aload_n 3, 1), (83, .getfield 117, 3), (86, .iload_n 1, 1), (87, .iaload, 1), (88, .istore 4, 2), (90, .aload_n 3, 1), (91, .getfield 117, 3), (94, .iload_n 1, 1), (95, .iload_n 2, 1), (96, .iastore, 1), (97, .iload 4, 2), (99, .ireturn, 1)]
theorem tX6_change : dchk cX6_change eX6_change = true := by decide +kernel
abbrev eX6_undo : List (Nat × Instr × Nat) := [(0, .aload_n 0, 1), (1, .getfield 40, 3), (4, .invokevirtual 175, 3), (7, .ifCond .eq 13, 3), (10, .aload_n 0, 1), (11, .getfield 40, 3), (14, .getfield 179, 3), (17, .goto 5, 3), (20, .bipush (-2), 2), (22, .ireturn, 1)]
theorem tX6_undo : dchk cX6_undo eX6_undo = true := by decide +kernel
abbrev eX6_behind : List (Nat × Instr × Nat) := [(0, .iload_n 1, 1), (1, .ifCond .lt 29, 3), (4, .iload_n 1, 1), (5, .bipush 60, 2), (7, .if_icmp .gt 23, 3), (10, .aload_n 0, 1), (11, .getfield 53, 3), (14, .iload_n 2, 1), (15, .invokevirtual 102, 3), (18, .ifCond .eq 12, 3), (21, .iload_n 3, 1), (22, .ifCond .lt 8, 3), (25, .iload_n 3, 1), (26, .iconst 1, 1), (27, .if_icmp .le 5, 3), (30, .iconst (-1), 1), (31, .ireturn, 1), (32, .aload_n 0, 1), (33, .getfield 33, 3), (36, .aload_n 0, 1), (37, .getfield 40, 3), (40, .getfield 105, 3), (43, .invokevirtual 182, 3), (46, .iconst 0, 1), (47, .istore 4, 2), (49, .iload 4, 2), (51, .iload_n 1, 1), (52, .if_icmp .ge 21, 3), (55, .aload_n 0, 1), (56, .getfield 53, 3), (59, .aload_n 0, 1), (60, .getfield 33, 3), (63, .invokevirtual 159, 3), (66, .pop, 1), (67, .iinc 4 1, 3), (70, .goto (-21), 3), (73, .iload_n 3, 1), (74, .ifCond .ne 13, 3), (77, .aload_n 0, 1), (78, .getfield 33, 3), (81, .getfield 108, 3), (84, .iload_n 2, 1), (85, .iaload, 1), (86, .ireturn, 1), (87, .aload_n 0, 1), (88, .getfield 33, 3), (91, .iload_n 2, 1), (92, .invokevirtual 129, 3), (95, .ifCond .eq 7, 3), (98, .iconst 1, 1), (99, .goto 4, 3), (102, .iconst 0, 1), (103, .ireturn, 1)]
theorem tX6_behind : dchk cX6_behind eX6_behind = true := by decide +kernel
abbrev eX6_caught : List (Nat × Instr × Nat) := [(0, .iload_n 1, 1), (1, .ifCond .lt 8, 3), (4, .iload_n 1, 1), (5, .iconst 1, 1), (6, .if_icmp .le 5, 3), (9, .iconst (-1), 1), (10, .ireturn, 1), (11, .aload_n 0, 1), (12, .getfield 33, 3), (15, .aload_n 0, 1), (16, .getfield 40, 3), (19, .getfield 105, 3), (22, .invokevirtual 182, 3), (25, .iconst 1, 1), (26, .istore_n 2, 1), (27, .iload_n 2, 1), (28, .bipush 60, 2), (30, .if_icmp .gt 59, 3), (33, .aload_n 0, 1), (34, .getfield 53, 3), (37, .aload_n 0, 1), (38, .getfield 33, 3), (41, .invokevirtual 159, 3), (44, .pop, 1), (45, .aload_n 0, 1), (46, .getfield 33, 3), (49, .getfield 144, 3), (52, .aload_n 0, 1), (53, .getfield 40, 3), (56, .getfield 105, 3), (59, .getfield 144, 3), (62, .iconst (-1), 1), (63, .ixor, 1), (64, .iand, 1), (65, .istore_n 3, 1), (66, .iload_n 3, 1), (67, .ifCond .eq 16, 3), (70, .iload_n 1, 1), (71, .ifCond .ne 7, 3), (74, .iload_n 2, 1), (75, .goto 7, 3), (78, .iload_n 3, 1), (79, .invokestatic 185, 3), (82, .ireturn, 1), (83, .iinc 2 1, 3), (86, .goto (-59), 3), (89, .bipush (-9), 2), (91, .ireturn, 1)]
theorem tX6_caught : dchk cX6_caught eX6_caught = true := by decide +kernel
abbrev eX6_waits : List (Nat × Instr × Nat) := [(0, .iload_n 1, 1), (1, .ifCond .lt 8, 3), (4, .iload_n 1, 1), (5, .iconst 1, 1), (6, .if_icmp .le 5, 3), (9, .iconst (-1), 1), (10, .ireturn, 1), (11, .aload_n 0, 1), (12, .getfield 33, 3), (15, .aload_n 0, 1), (16, .getfield 40, 3), (19, .getfield 105, 3), (22, .invokevirtual 182, 3), (25, .iconst 1, 1), (26, .istore_n 2, 1), (27, .iload_n 2, 1), (28, .bipush 60, 2), (30, .if_icmp .gt 36, 3), (33, .aload_n 0, 1), (34, .getfield 53, 3), (37, .aload_n 0, 1), (38, .getfield 33, 3), (41, .invokevirtual 159, 3), (44, .istore_n 3, 1), (45, .iload_n 3, 1), (46, .iconst (-1), 1), (47, .if_icmp .eq 13, 3), (50, .iload_n 1, 1), (51, .ifCond .ne 7, 3), (54, .iload_n 2, 1), (55, .goto 4, 3), (58, .iload_n 3, 1), (59, .ireturn, 1), (60, .iinc 2 1, 3), (63, .goto (-36), 3), (66, .bipush (-9), 2), (68, .ireturn, 1)]
theorem tX6_waits : dchk cX6_waits eX6_waits = true := by decide +kernel
abbrev eX6_stands : List (Nat × Instr × Nat) := [(0, .aload_n 0, 1), (1, .getfield 53, 3), (4, .iload_n 1, 1), (5, .invokevirtual 102, 3), (8, .ifCond .ne 5, 3), (11, .iconst (-1), 1), (12, .ireturn, 1), (13, .aload_n 0, 1), (14, .getfield 40, 3), (17, .getfield 105, 3), (20, .iload_n 1, 1), (21, .invokevirtual 129, 3), (24, .ifCond .eq 6, 3), (27, .bipush (-2), 2), (29, .ireturn, 1), (30, .aload_n 0, 1), (31, .getfield 19, 3), (34, .invokevirtual 188, 3), (37, .bipush 30, 2), (39, .bipush 99, 2), (41, .aload_n 0, 1), (42, .getfield 40, 3), (45, .getfield 105, 3), (48, .getfield 123, 3), (51, .iload_n 1, 1), (52, .iaload, 1), (53, .isub, 1), (54, .invokestatic 191, 3), (57, .istore_n 2, 1), (58, .iload_n 2, 1), (59, .ifCond .lt 45, 3), (62, .aload_n 0, 1), (63, .getfield 33, 3), (66, .aload_n 0, 1), (67, .getfield 40, 3), (70, .getfield 105, 3), (73, .invokevirtual 182, 3), (76, .aload_n 0, 1), (77, .getfield 33, 3), (80, .getfield 123, 3), (83, .iload_n 1, 1), (84, .dup2, 1), (85, .iaload, 1), (86, .iload_n 2, 1), (87, .iadd, 1), (88, .iastore, 1), (89, .aload_n 0, 1), (90, .invokevirtual 196, 3), (93, .ifCond .eq 5, 3), (96, .iload_n 2, 1), (97, .ireturn, 1), (98, .iinc 2 (-1), 3), (101, .goto (-43), 3), (104, .bipush (-9), 2), (106, .ireturn, 1)]
theorem tX6_stands : dchk cX6_stands eX6_stands = true := by decide +kernel
abbrev eX6_starts : List (Nat × Instr × Nat) := [(0, .iload_n 1, 1), (1, .iconst (-1), 1), (2, .if_icmp .eq 16, 3), (5, .aload_n 0, 1), (6, .getfield 53, 3), (9, .iload_n 1, 1), (10, .invokevirtual 102, 3), (13, .ifCond .ne 5, 3), (16, .iconst (-1), 1), (17, .ireturn, 1), (18, .aload_n 0, 1), (19, .getfield 19, 3), (22, .aload_n 0, 1), (23, .getfield 53, 3), (26, .aload_n 0, 1), (27, .getfield 40, 3), (30, .getfield 105, 3), (33, .invokevirtual 199, 3), (36, .aload_n 0, 1), (37, .invokevirtual 203, 3), (40, .ifCond .ne 6, 3), (43, .bipush (-9), 2), (45, .ireturn, 1), (46, .iload_n 1, 1), (47, .iconst (-1), 1), (48, .if_icmp .ne 13, 3), (51, .aload_n 0, 1), (52, .getfield 19, 3), (55, .invokevirtual 206, 3), (58, .goto 11, 3), (61, .aload_n 0, 1), (62, .getfield 19, 3), (65, .iload_n 1, 1), (66, .invokevirtual 210, 3), (69, .ireturn, 1)]
theorem tX6_starts : dchk cX6_starts eX6_starts = true := by decide +kernel
abbrev eX6_bars : List (Nat × Instr × Nat) := [(0, .aload_n 0, 1), (1, .getfield 19, 3), (4, .aload_n 0, 1), (5, .getfield 53, 3), (8, .aload_n 0, 1), (9, .getfield 40, 3), (12, .getfield 105, 3), (15, .invokevirtual 199, 3), (18, .aload_n 0, 1), (19, .invokevirtual 203, 3), (22, .ifCond .eq 6, 3), (25, .bipush (-9), 2), (27, .ireturn, 1), (28, .iconst 0, 1), (29, .istore_n 1, 1), (30, .iload_n 1, 1), (31, .aload_n 0, 1), (32, .getfield 19, 3), (35, .getfield 213, 3), (38, .if_icmp .ge 39, 3), (41, .iload_n 1, 1), (42, .iconst 3, 1), (43, .if_icmp .ge 34, 3), (46, .aload_n 0, 1), (47, .getfield 19, 3), (50, .iload_n 1, 1), (51, .putfield 216, 3), (54, .aload_n 0, 1), (55, .invokevirtual 203, 3), (58, .ifCond .eq 13, 3), (61, .aload_n 0, 1), (62, .getfield 19, 3), (65, .getfield 219, 3), (68, .iload_n 1, 1), (69, .iaload, 1), (70, .ireturn, 1), (71, .iinc 1 1, 3), (74, .goto (-44), 3), (77, .bipush (-9), 2), (79, .ireturn, 1)]
theorem tX6_bars : dchk cX6_bars eX6_bars = true := by decide +kernel
abbrev eX6_pieces : List (Nat × Instr × Nat) := [(0, .iload_n 1, 1), (1, .ifCond .lt 18, 3), (4, .iload_n 1, 1), (5, .iconst 2, 1), (6, .if_icmp .gt 13, 3), (9, .iload_n 2, 1), (10, .ifCond .lt 9, 3), (13, .iload_n 2, 1), (14, .bipush 60, 2), (16, .if_icmp .le 5, 3), (19, .iconst (-1), 1), (20, .ireturn, 1), (21, .aload_n 0, 1), (22, .getfield 33, 3), (25, .aload_n 0, 1), (26, .getfield 40, 3), (29, .getfield 105, 3), (32, .invokevirtual 182, 3), (35, .aload_n 0, 1), (36, .getfield 53, 3), (39, .aload_n 0, 1), (40, .getfield 33, 3), (43, .iload_n 1, 1), (44, .invokevirtual 222, 3), (47, .istore_n 3, 1), (48, .iconst 0, 1), (49, .istore 4, 2), (51, .iload 4, 2), (53, .iload_n 2, 1), (54, .if_icmp .ge 38, 3), (57, .aload_n 0, 1), (58, .getfield 53, 3), (61, .aload_n 0, 1), (62, .getfield 33, 3), (65, .invokevirtual 159, 3), (68, .pop, 1), (69, .iload_n 3, 1), (70, .aload_n 0, 1), (71, .getfield 53, 3), (74, .aload_n 0, 1), (75, .getfield 33, 3), (78, .iload_n 1, 1), (79, .invokevirtual 222, 3), (82, .invokestatic 226, 3), (85, .istore_n 3, 1), (86, .iinc 4 1, 3), (89, .goto (-38), 3), (92, .iload_n 3, 1), (93, .ireturn, 1)]
theorem tX6_pieces : dchk cX6_pieces eX6_pieces = true := by decide +kernel
abbrev eX6_met : List (Nat × Instr × Nat) := [(0, .aload_n 0, 1), (1, .getfield 53, 3), (4, .iload_n 1, 1), (5, .invokevirtual 89, 3), (8, .ifCond .eq 13, 3), (11, .iload_n 2, 1), (12, .ifCond .lt 9, 3), (15, .iload_n 2, 1), (16, .bipush 99, 2), (18, .if_icmp .le 5, 3), (21, .iconst (-1), 1), (22, .ireturn, 1), (23, .aload_n 0, 1), (24, .getfield 33, 3), (27, .aload_n 0, 1), (28, .getfield 53, 3), (31, .getfield 78, 3), (34, .invokevirtual 182, 3), (37, .iconst 0, 1), (38, .istore_n 3, 1), (39, .iload_n 3, 1), (40, .iload_n 2, 1), (41, .if_icmp .ge 21, 3), (44, .aload_n 0, 1), (45, .getfield 53, 3), (48, .aload_n 0, 1), (49, .getfield 33, 3), (52, .invokevirtual 159, 3), (55, .pop, 1), (56, .iinc 3 1, 3), (59, .goto (-20), 3), (62, .aload_n 0, 1), (63, .getfield 53, 3), (66, .aload_n 0, 1), (67, .getfield 33, 3), (70, .iload_n 1, 1), (71, .invokevirtual 229, 3), (74, .aload_n 0, 1), (75, .getfield 33, 3), (78, .getfield 144, 3), (81, .iconst (-1), 1), (82, .ixor, 1), (83, .iand, 1), (84, .ireturn, 1)]
theorem tX6_met : dchk cX6_met eX6_met = true := by decide +kernel
abbrev eX6_odds : List (Nat × Instr × Nat) := [(0, .aload_n 0, 1), (1, .iload_n 1, 1), (2, .iload_n 2, 1), (3, .iload_n 3, 1), (4, .invokevirtual 232, 3), (7, .ifCond .eq 14, 3), (10, .iload 4, 2), (12, .ifCond .lt 9, 3), (15, .iload 4, 2), (17, .iconst 1, 1), (18, .if_icmp .le 7, 3), (21, .ldc2_w 236, 3), (24, .lreturn, 1), (25, .aload_n 0, 1), (26, .getfield 40, 3), (29, .getfield 105, 3), (32, .iload_n 1, 1), (33, .invokevirtual 129, 3), (36, .ifCond .eq 7, 3), (39, .ldc2_w 238, 3), (42, .lreturn, 1), (43, .aload_n 0, 1), (44, .getfield 26, 3), (47, .aload_n 0, 1), (48, .getfield 53, 3), (51, .aload_n 0, 1), (52, .getfield 40, 3), (55, .getfield 105, 3), (58, .iload_n 1, 1), (59, .invokevirtual 240, 3), (62, .aload_n 0, 1), (63, .getfield 26, 3), (66, .aload_n 0, 1), (67, .getfield 53, 3), (70, .iload_n 2, 1), (71, .iload_n 3, 1), (72, .aload_n 0, 1), (73, .getfield 53, 3), (76, .getfield 141, 3), (79, .invokevirtual 244, 3), (82, .lstore 5, 2), (84, .iload_n 3, 1), (85, .invokestatic 248, 3), (88, .lstore 7, 2), (90, .lconst 1, 1), (91, .lload 7, 2), (93, .lload 5, 2), (95, .invokestatic 252, 3), (98, .invokestatic 256, 3), (101, .lstore 9, 2), (103, .iload 4, 2), (105, .ifCond .ne 8, 3), (108, .lload 5, 2), (110, .goto 5, 3), (113, .lload 7, 2), (115, .lload 9, 2), (117, .ldiv, 1), (118, .lreturn, 1)]
theorem tX6_odds : dchk cX6_odds eX6_odds = true := by decide +kernel
abbrev eX6_keepAhead : List (Nat × Instr × Nat) := [(0, .aload_n 0, 1), (1, .iload_n 1, 1), (2, .iload_n 2, 1), (3, .iload_n 3, 1), (4, .invokevirtual 232, 3), (7, .ifCond .eq 15, 3), (10, .iload 4, 2), (12, .ifCond .lt 10, 3), (15, .iload 4, 2), (17, .bipush 10, 2), (19, .if_icmp .le 5, 3), (22, .iconst (-1), 1), (23, .ireturn, 1), (24, .aload_n 0, 1), (25, .getfield 40, 3), (28, .getfield 105, 3), (31, .iload_n 1, 1), (32, .invokevirtual 129, 3), (35, .ifCond .eq 6, 3), (38, .bipush (-2), 2), (40, .ireturn, 1), (41, .aload_n 0, 1), (42, .getfield 26, 3), (45, .aload_n 0, 1), (46, .getfield 53, 3), (49, .aload_n 0, 1), (50, .getfield 40, 3), (53, .getfield 105, 3), (56, .iload_n 1, 1), (57, .invokevirtual 240, 3), (60, .iload 4, 2), (62, .i2l, 1), (63, .iload_n 3, 1), (64, .invokestatic 248, 3), (67, .lmul, 1), (68, .lstore 5, 2), (70, .bipush 20, 2), (72, .istore 7, 2), (74, .iload 7, 2), (76, .ifCond .lt 45, 3), (79, .ldc2_w 258, 3), (82, .aload_n 0, 1), (83, .getfield 26, 3), (86, .aload_n 0, 1), (87, .getfield 53, 3), (90, .iload_n 2, 1), (91, .iload_n 3, 1), (92, .aload_n 0, 1), (93, .getfield 53, 3), (96, .getfield 141, 3), (99, .iload 7, 2), (101, .isub, 1), (102, .invokevirtual 244, 3), (105, .lmul, 1), (106, .lload 5, 2), (108, .lcmp, 1), (109, .ifCond .lt 6, 3), (112, .iload 7, 2), (114, .ireturn, 1), (115, .iinc 7 (-1), 3), (118, .goto (-44), 3), (121, .bipush (-9), 2), (123, .ireturn, 1)]
theorem tX6_keepAhead : dchk cX6_keepAhead eX6_keepAhead = true := by decide +kernel
abbrev eX6_mark : List (Nat × Instr × Nat) := [(0, .iload_n 1, 1), (1, .ifCond .lt 19, 3), (4, .iload_n 1, 1), (5, .iconst 5, 1), (6, .if_icmp .gt 14, 3), (9, .aload_n 0, 1), (10, .getfield 53, 3), (13, .iload_n 2, 1), (14, .invokevirtual 102, 3), (17, .ifCond .ne 6, 3), (20, .ldc 151, 2), (22, .ireturn, 1), (23, .iload_n 1, 1), (24, .tableswitch 66 0 4 #[36, 42, 48, 54, 60], 36), (60, .aload_n 0, 1), (61, .iload_n 2, 1), (62, .invokevirtual 260, 3), (65, .ireturn, 1), (66, .aload_n 0, 1), (67, .iload_n 2, 1), (68, .invokevirtual 263, 3), (71, .ireturn, 1), (72, .aload_n 0, 1), (73, .iload_n 2, 1), (74, .invokevirtual 266, 3), (77, .ireturn, 1), (78, .aload_n 0, 1), (79, .iload_n 2, 1), (80, .invokevirtual 269, 3), (83, .ireturn, 1), (84, .aload_n 0, 1), (85, .iload_n 2, 1), (86, .invokevirtual 272, 3), (89, .ireturn, 1), (90, .aload_n 0, 1), (91, .iload_n 2, 1), (92, .invokevirtual 275, 3), (95, .ireturn, 1)]
theorem tX6_mark : dchk cX6_mark eX6_mark = true := by decide +kernel
abbrev eX6_keep : List (Nat × Instr × Nat) := [(0, .iload_n 1, 1), (1, .ifCond .lt 8, 3), (4, .iload_n 1, 1), (5, .iconst 1, 1), (6, .if_icmp .le 5, 3), (9, .iconst (-1), 1), (10, .ireturn, 1), (11, .iload_n 1, 1), (12, .ifCond .ne 10, 3), (15, .aload_n 0, 1), (16, .getfield 44, 3), (19, .goto 7, 3), (22, .aload_n 0, 1), (23, .getfield 47, 3), (26, .astore_n 2, 1), (27, .aload_n 2, 1), (28, .aload_n 0, 1), (29, .getfield 40, 3), (32, .invokevirtual 278, 3), (35, .aload_n 2, 1), (36, .iconst 1, 1), (37, .putfield 85, 3), (40, .aload_n 0, 1), (41, .getfield 40, 3), (44, .getfield 105, 3), (47, .getfield 132, 3), (50, .ireturn, 1)]
theorem tX6_keep : dchk cX6_keep eX6_keep = true := by decide +kernel
abbrev eX6_back : List (Nat × Instr × Nat) := [(0, .iload_n 1, 1), (1, .ifCond .lt 8, 3), (4, .iload_n 1, 1), (5, .iconst 1, 1), (6, .if_icmp .le 5, 3), (9, .iconst (-1), 1), (10, .ireturn, 1), (11, .iload_n 1, 1), (12, .ifCond .ne 10, 3), (15, .aload_n 0, 1), (16, .getfield 44, 3), (19, .goto 7, 3), (22, .aload_n 0, 1), (23, .getfield 47, 3), (26, .astore_n 2, 1), (27, .aload_n 2, 1), (28, .getfield 85, 3), (31, .ifCond .ne 6, 3), (34, .bipush (-2), 2), (36, .ireturn, 1), (37, .aload_n 0, 1), (38, .getfield 40, 3), (41, .aload_n 2, 1), (42, .invokevirtual 278, 3), (45, .aload_n 0, 1), (46, .getfield 40, 3), (49, .getfield 105, 3), (52, .getfield 132, 3), (55, .ireturn, 1)]
theorem tX6_back : dchk cX6_back eX6_back = true := by decide +kernel
abbrev eX6_count : List (Nat × Instr × Nat) := [(0, .iload_n 1, 1), (1, .tableswitch 78 0 4 #[35, 43, 51, 62, 70], 35), (36, .aload_n 0, 1), (37, .getfield 53, 3), (40, .getfield 281, 3), (43, .ireturn, 1), (44, .aload_n 0, 1), (45, .getfield 53, 3), (48, .getfield 284, 3), (51, .ireturn, 1), (52, .aload_n 0, 1), (53, .getfield 53, 3), (56, .getfield 96, 3), (59, .invokestatic 162, 3), (62, .ireturn, 1), (63, .aload_n 0, 1), (64, .getfield 40, 3), (67, .getfield 179, 3), (70, .ireturn, 1), (71, .aload_n 0, 1), (72, .getfield 10, 3), (75, .getfield 64, 3), (78, .ireturn, 1), (79, .iconst (-1), 1), (80, .ireturn, 1)]
theorem tX6_count : dchk cX6_count eX6_count = true := by decide +kernel
abbrev eX6_trace : List (Nat × Instr × Nat) := [(0, .aload_n 0, 1), (1, .getfield 287, 3), (4, .lreturn, 1)]
theorem tX6_trace : dchk cX6_trace eX6_trace = true := by decide +kernel
abbrev eX6_leastOf : List (Nat × Instr × Nat) := [(0, .iconst 0, 1), (1, .istore_n 1, 1), (2, .iload_n 1, 1), (3, .iconst 5, 1), (4, .if_icmp .ge 20, 3), (7, .iload_n 0, 1), (8, .iload_n 1, 1), (9, .ishr, 1), (10, .iconst 1, 1), (11, .iand, 1), (12, .iconst 1, 1), (13, .if_icmp .ne 5, 3), (16, .iload_n 1, 1), (17, .ireturn, 1), (18, .iinc 1 1, 3), (21, .goto (-19), 3), (24, .bipush (-9), 2), (26, .ireturn, 1)]
theorem tX6_leastOf : dchk cX6_leastOf eX6_leastOf = true := by decide +kernel
abbrev eX6_findStarts : List (Nat × Instr × Nat) := [(0, .aload_n 0, 1), (1, .getfield 19, 3), (4, .iconst 0, 1), (5, .invokevirtual 291, 3), (8, .istore_n 1, 1), (9, .aload_n 0, 1), (10, .getfield 19, 3), (13, .iconst 1, 1), (14, .invokevirtual 291, 3), (17, .istore_n 2, 1), (18, .aload_n 0, 1), (19, .getfield 19, 3), (22, .iconst 2, 1), (23, .invokevirtual 291, 3), (26, .istore_n 3, 1), (27, .iconst 0, 1), (28, .istore 4, 2), (30, .iload 4, 2), (32, .iload_n 1, 1), (33, .iload_n 2, 1), (34, .iadd, 1), (35, .iload_n 3, 1), (36, .iadd, 1), (37, .if_icmp .gt 108, 3), (40, .iconst 0, 1), (41, .istore 5, 2), (43, .iload 5, 2), (45, .iload_n 1, 1), (46, .if_icmp .gt 93, 3), (49, .iload 5, 2), (51, .iload 4, 2), (53, .if_icmp .gt 86, 3), (56, .iconst 0, 1), (57, .iload 4, 2), (59, .iload 5, 2), (61, .isub, 1), (62, .iload_n 3, 1), (63, .isub, 1), (64, .invokestatic 226, 3), (67, .istore 6, 2), (69, .iload 6, 2), (71, .iload_n 2, 1), (72, .if_icmp .gt 61, 3), (75, .iload 5, 2), (77, .iload 6, 2), (79, .iadd, 1), (80, .iload 4, 2), (82, .if_icmp .gt 51, 3), (85, .aload_n 0, 1), (86, .getfield 19, 3), (89, .iload 5, 2), (91, .iload 6, 2), (93, .iload 4, 2), (95, .iload 5, 2), (97, .isub, 1), (98, .iload 6, 2), (100, .isub, 1), (101, .invokevirtual 294, 3), (104, .aload_n 0, 1), (105, .getfield 33, 3), (108, .aload_n 0, 1), (109, .getfield 40, 3), (112, .getfield 105, 3), (115, .invokevirtual 182, 3), (118, .aload_n 0, 1), (119, .invokevirtual 196, 3), (122, .ifCond .eq 5, 3), (125, .iconst 1, 1), (126, .ireturn, 1), (127, .iinc 6 1, 3), (130, .goto (-61), 3), (133, .iinc 5 1, 3), (136, .goto (-93), 3), (139, .iinc 4 1, 3), (142, .goto (-112), 3), (145, .iconst 0, 1), (146, .ireturn, 1)]
theorem tX6_findStarts : dchk cX6_findStarts eX6_findStarts = true := by decide +kernel
abbrev eX6_isTrialSafe : List (Nat × Instr × Nat) := [(0, .iconst 0, 1), (1, .istore_n 1, 1), (2, .iload_n 1, 1), (3, .bipush 40, 2), (5, .if_icmp .ge 55, 3), (8, .aload_n 0, 1), (9, .getfield 19, 3), (12, .aload_n 0, 1), (13, .getfield 33, 3), (16, .iload_n 1, 1), (17, .invokevirtual 298, 3), (20, .aload_n 0, 1), (21, .getfield 53, 3), (24, .aload_n 0, 1), (25, .getfield 33, 3), (28, .invokevirtual 159, 3), (31, .pop, 1), (32, .aload_n 0, 1), (33, .getfield 33, 3), (36, .getfield 144, 3), (39, .aload_n 0, 1), (40, .getfield 40, 3), (43, .getfield 105, 3), (46, .getfield 144, 3), (49, .if_icmp .eq 5, 3), (52, .iconst 0, 1), (53, .ireturn, 1), (54, .iinc 1 1, 3), (57, .goto (-55), 3), (60, .iconst 1, 1), (61, .ireturn, 1)]
theorem tX6_isTrialSafe : dchk cX6_isTrialSafe eX6_isTrialSafe = true := by decide +kernel
abbrev eX6_isChance : List (Nat × Instr × Nat) := [(0, .aload_n 0, 1), (1, .getfield 53, 3), (4, .iload_n 1, 1), (5, .invokevirtual 102, 3), (8, .ifCond .eq 27, 3), (11, .iload_n 2, 1), (12, .ifCond .lt 23, 3), (15, .iload_n 2, 1), (16, .bipush 10, 2), (18, .if_icmp .gt 17, 3), (21, .iload_n 3, 1), (22, .ifCond .lt 13, 3), (25, .iload_n 3, 1), (26, .bipush 12, 2), (28, .if_icmp .gt 7, 3), (31, .iconst 1, 1), (32, .goto 4, 3), (35, .iconst 0, 1), (36, .ireturn, 1)]
theorem tX6_isChance : dchk cX6_isChance eX6_isChance = true := by decide +kernel
abbrev eX6_powerOfTen : List (Nat × Instr × Nat) := [(0, .lconst 1, 1), (1, .lstore_n 1, 1), (2, .iconst 0, 1), (3, .istore_n 3, 1), (4, .iload_n 3, 1), (5, .iload_n 0, 1), (6, .if_icmp .ge 21, 3), (9, .iload_n 3, 1), (10, .bipush 12, 2), (12, .if_icmp .ge 15, 3), (15, .lload_n 1, 1), (16, .ldc2_w 258, 3), (19, .lmul, 1), (20, .lstore_n 1, 1), (21, .iinc 3 1, 3), (24, .goto (-20), 3), (27, .lload_n 1, 1), (28, .lreturn, 1)]
theorem tX6_powerOfTen : dchk cX6_powerOfTen eX6_powerOfTen = true := by decide +kernel
abbrev eX6_commonDivisor : List (Nat × Instr × Nat) := [(0, .lload_n 0, 1), (1, .lstore 4, 2), (3, .lload_n 2, 1), (4, .lstore 6, 2), (6, .iconst 0, 1), (7, .istore 8, 2), (9, .iload 8, 2), (11, .bipush 100, 2), (13, .if_icmp .ge 31, 3), (16, .lload 6, 2), (18, .lconst 0, 1), (19, .lcmp, 1), (20, .ifCond .eq 24, 3), (23, .lload 4, 2), (25, .lload 6, 2), (27, .lrem, 1), (28, .lstore 9, 2), (30, .lload 6, 2), (32, .lstore 4, 2), (34, .lload 9, 2), (36, .lstore 6, 2), (38, .iinc 8 1, 3), (41, .goto (-32), 3), (44, .lload 4, 2), (46, .lreturn, 1)]
theorem tX6_commonDivisor : dchk cX6_commonDivisor eX6_commonDivisor = true := by decide +kernel
abbrev eX6_wagonMark : List (Nat × Instr × Nat) := [(0, .aload_n 0, 1), (1, .dup, 1), (2, .getfield 287, 3), (5, .lconst 1, 1), (6, .ladd, 1), (7, .putfield 287, 3), (10, .aload_n 0, 1), (11, .getfield 40, 3), (14, .getfield 105, 3), (17, .getfield 108, 3), (20, .iload_n 1, 1), (21, .iaload, 1), (22, .ireturn, 1)]
theorem tX6_wagonMark : dchk cX6_wagonMark eX6_wagonMark = true := by decide +kernel
abbrev eX6_forgeMark : List (Nat × Instr × Nat) := [(0, .aload_n 0, 1), (1, .dup, 1), (2, .getfield 287, 3), (5, .ldc2_w 258, 3), (8, .ladd, 1), (9, .putfield 287, 3), (12, .aload_n 0, 1), (13, .iload_n 1, 1), (14, .invokevirtual 260, 3), (17, .aload_n 0, 1), (18, .getfield 40, 3), (21, .getfield 105, 3), (24, .getfield 126, 3), (27, .iload_n 1, 1), (28, .iaload, 1), (29, .iadd, 1), (30, .ireturn, 1)]
theorem tX6_forgeMark : dchk cX6_forgeMark eX6_forgeMark = true := by decide +kernel
abbrev eX6_chapelMark : List (Nat × Instr × Nat) := [(0, .aload_n 0, 1), (1, .dup, 1), (2, .getfield 287, 3), (5, .ldc2_w 302, 3), (8, .ladd, 1), (9, .putfield 287, 3), (12, .aload_n 0, 1), (13, .iload_n 1, 1), (14, .invokevirtual 260, 3), (17, .aload_n 0, 1), (18, .getfield 53, 3), (21, .getfield 111, 3), (24, .iload_n 1, 1), (25, .iaload, 1), (26, .isub, 1), (27, .ireturn, 1)]
theorem tX6_chapelMark : dchk cX6_chapelMark eX6_chapelMark = true := by decide +kernel
abbrev eX6_tenderMark : List (Nat × Instr × Nat) := [(0, .aload_n 0, 1), (1, .dup, 1), (2, .getfield 287, 3), (5, .ldc2_w 304, 3), (8, .ladd, 1), (9, .putfield 287, 3), (12, .aload_n 0, 1), (13, .iload_n 1, 1), (14, .invokevirtual 263, 3), (17, .iconst 2, 1), (18, .imul, 1), (19, .ireturn, 1)]
theorem tX6_tenderMark : dchk cX6_tenderMark eX6_tenderMark = true := by decide +kernel
abbrev eX6_houseMark : List (Nat × Instr × Nat) := [(0, .aload_n 0, 1), (1, .dup, 1), (2, .getfield 287, 3), (5, .ldc2_w 306, 3), (8, .ladd, 1), (9, .putfield 287, 3), (12, .aload_n 0, 1), (13, .iload_n 1, 1), (14, .invokevirtual 266, 3), (17, .aload_n 0, 1), (18, .getfield 40, 3), (21, .getfield 105, 3), (24, .getfield 117, 3), (27, .iload_n 1, 1), (28, .iaload, 1), (29, .iadd, 1), (30, .ireturn, 1)]
theorem tX6_houseMark : dchk cX6_houseMark eX6_houseMark = true := by decide +kernel
abbrev eX6_railcartMark : List (Nat × Instr × Nat) := [(0, .aload_n 0, 1), (1, .dup, 1), (2, .getfield 287, 3), (5, .ldc2_w 308, 3), (8, .ladd, 1), (9, .putfield 287, 3), (12, .aload_n 0, 1), (13, .getfield 53, 3), (16, .aload_n 0, 1), (17, .getfield 40, 3), (20, .getfield 105, 3), (23, .getfield 132, 3), (26, .aload_n 0, 1), (27, .getfield 53, 3), (30, .getfield 141, 3), (33, .invokevirtual 152, 3), (36, .istore_n 2, 1), (37, .aload_n 0, 1), (38, .iload_n 1, 1), (39, .invokevirtual 260, 3), (42, .aload_n 0, 1), (43, .getfield 40, 3), (46, .getfield 105, 3), (49, .getfield 108, 3), (52, .iload_n 1, 1), (53, .iaload, 1), (54, .iadd, 1), (55, .iload_n 2, 1), (56, .isub, 1), (57, .ireturn, 1)]
theorem tX6_railcartMark : dchk cX6_railcartMark eX6_railcartMark = true := by decide +kernel
abbrev eX7_init : List (Nat × Instr × Nat) := [(0, .aload_n 0, 1), (1, .invokespecial 1, 3), (4, .aload_n 0, 1), (5, .sipush 200, 3), (8, .newarray .byte, 2), (10, .putfield 7, 3), (13, .aload_n 0, 1), (14, .iconst 2, 1), (15, .newarray .int, 2), (17, .putfield 13, 3), (20, .aload_n 0, 1), (21, .iconst 2, 1), (22, .newarray .int, 2), (24, .putfield 17, 3), (27, .aload_n 0, 1), (28, .iconst 2, 1), (29, .newarray .int, 2), (31, .putfield 20, 3), (34, .aload_n 0, 1), (35, .iconst 2, 1), (36, .newarray .int, 2), (38, .putfield 23, 3), (41, .aload_n 0, 1), (42, .iconst 2, 1), (43, .newarray .int, 2), (45, .putfield 26, 3), (48, .aload_n 0, 1), (49, .iconst 2, 1), (50, .newarray .int, 2), (52, .putfield 29, 3), (55, .aload_n 0, 1), (56, .iconst 2, 1), (57, .newarray .int, 2), (59, .putfield 32, 3), (62, .aload_n 0, 1), (63, .bipush 24, 2), (65, .newarray .int, 2), (67, .putfield 35, 3), (70, .aload_n 0, 1), (71, .bipush 10, 2), (73, .newarray .int, 2), (75, .putfield 38, 3), (78, .aload_n 0, 1), (79, .bipush 10, 2), (81, .newarray .int, 2), (83, .putfield 41, 3), (86, .aload_n 0, 1), (87, .bipush 10, 2), (89, .newarray .int, 2), (91, .putfield 44, 3), (94, .aload_n 0, 1), (95, .bipush 10, 2), (97, .newarray .int, 2), (99, .putfield 47, 3), (102, .aload_n 0, 1), (103, .bipush 8, 2), (105, .newarray .int, 2), (107, .putfield 50, 3), (110, .aload_n 0, 1), (111, .bipush 8, 2), (113, .newarray .int, 2), (115, .putfield 53, 3), (118, .aload_n 0, 1), (119, .iconst 5, 1), (120, .newarray .int, 2), (122, .putfield 56, 3), (125, .aload_n 0, 1), (126, .sipush 1026, 3), (129, .newarray .int, 2), (131, .putfield 59, 3), (134, .aload_n 0, 1), (135, .bipush 31, 2), (137, .newarray .int, 2), (139, .putfield 62, 3), (142, .aload_n 0, 1), (143, .iconst 2, 1), (144, .newarray .boolean, 2), (146, .putfield 65, 3), (149, .aload_n 0, 1), (150, .iconst 3, 1), (151, .newarray .int, 2), (153, .putfield 69, 3), (156, .aload_n 0, 1), (157, .iconst 3, 1), (158, .newarray .int, 2), (160, .putfield 72, 3), (163, .aload_n 0, 1), (164, .iconst 3, 1), (165, .newarray .int, 2), (167, .putfield 75, 3), (170, .aload_n 0, 1), (171, .iconst 3, 1), (172, .newarray .int, 2), (174, .putfield 78, 3), (177, .aload_n 0, 1), (178, .bipush 112, 2), (180, .newarray .long, 2), (182, .putfield 81, 3), (185, .aload_n 0, 1), (186, .bipush 112, 2), (188, .newarray .long, 2), (190, .putfield 85, 3), (193, .aload_n 0, 1), (194, .getfield 13, 3), (197, .iconst 0, 1), (198, .bipush 8, 2), (200, .iastore, 1), (201, .aload_n 0, 1), (202, .getfield 17, 3), (205, .iconst 0, 1), (206, .iconst 3, 1), (207, .iastore, 1), (208, .aload_n 0, 1), (209, .getfield 20, 3), (212, .iconst 0, 1), (213, .iconst 5, 1), (214, .iastore, 1), (215, .aload_n 0, 1), (216, .getfield 23, 3), (219, .iconst 0, 1), (220, .bipush (-9), 2), (222, .iastore, 1), (223, .iconst 0, 1), (224, .istore_n 1, 1), (225, .iload_n 1, 1), (226, .bipush 12, 2), (228, .if_icmp .ge 16, 3), (231, .aload_n 0, 1), (232, .getfield 35, 3), (235, .iload_n 1, 1), (236, .iconst 1, 1), (237, .iastore, 1), (238, .iinc 1 1, 3), (241, .goto (-16), 3), (244, .return_, 1)]
theorem tX7_init : dchk cX7_init eX7_init = true := by decide +kernel
abbrev eX7_in : List (Nat × Instr × Nat) := [(0, .iload_n 0, 1), (1, .iload_n 1, 1), (2, .if_icmp .lt 12, 3), (5, .iload_n 0, 1), (6, .iload_n 2, 1), (7, .if_icmp .gt 7, 3), (10, .iconst 1, 1), (11, .goto 4, 3), (14, .iconst 0, 1), (15, .ireturn, 1)]
theorem tX7_in : dchk cX7_in eX7_in = true := by decide +kernel
abbrev eX7_type : List (Nat × Instr × Nat) := [(0, .iload_n 1, 1), (1, .iconst 0, 1), (2, .sipush 255, 3), (5, .invokestatic 88, 3), (8, .ifCond .ne 5, 3), (11, .iconst (-1), 1), (12, .ireturn, 1), (13, .aload_n 0, 1), (14, .getfield 92, 3), (17, .sipush 200, 3), (20, .if_icmp .ne 6, 3), (23, .bipush (-3), 2), (25, .ireturn, 1), (26, .aload_n 0, 1), (27, .getfield 7, 3), (30, .aload_n 0, 1), (31, .getfield 92, 3), (34, .iload_n 1, 1), (35, .i2b, 1), (36, .bastore, 1), (37, .aload_n 0, 1), (38, .dup, 1), (39, .getfield 92, 3), (42, .iconst 1, 1), (43, .iadd, 1), (44, .putfield 92, 3), (47, .aload_n 0, 1), (48, .getfield 92, 3), (51, .ireturn, 1)]
theorem tX7_type : dchk cX7_type eX7_type = true := by decide +kernel
abbrev eX7_clear : List (Nat × Instr × Nat) := [(0, .aload_n 0, 1), (1, .getfield 92, 3), (4, .istore_n 1, 1), (5, .aload_n 0, 1), (6, .iconst 0, 1), (7, .putfield 92, 3), (10, .iload_n 1, 1), (11, .ireturn, 1)]
theorem tX7_clear : dchk cX7_clear eX7_clear = true := by decide +kernel
abbrev eX7_here : List (Nat × Instr × Nat) := [(0, .aload_n 0, 1), (1, .getfield 96, 3), (4, .aload_n 0, 1), (5, .getfield 92, 3), (8, .if_icmp .ge 19, 3), (11, .aload_n 0, 1), (12, .getfield 7, 3), (15, .aload_n 0, 1), (16, .getfield 96, 3), (19, .baload, 1), (20, .sipush 255, 3), (23, .iand, 1), (24, .goto 4, 3), (27, .iconst (-1), 1), (28, .ireturn, 1)]
theorem tX7_here : dchk cX7_here eX7_here = true := by decide +kernel
abbrev eX7_next : List (Nat × Instr × Nat) := [(0, .aload_n 0, 1), (1, .invokevirtual 99, 3), (4, .bipush 32, 2), (6, .if_icmp .ne 16, 3), (9, .aload_n 0, 1), (10, .dup, 1), (11, .getfield 96, 3), (14, .iconst 1, 1), (15, .iadd, 1), (16, .putfield 96, 3), (19, .goto (-19), 3), (22, .aload_n 0, 1), (23, .aload_n 0, 1), (24, .getfield 96, 3), (27, .putfield 103, 3), (30, .aload_n 0, 1), (31, .iconst 0, 1), (32, .putfield 106, 3), (35, .aload_n 0, 1), (36, .invokevirtual 99, 3), (39, .istore_n 1, 1), (40, .iload_n 1, 1), (41, .ifCond .ge 11, 3), (44, .aload_n 0, 1), (45, .iconst 3, 1), (46, .putfield 109, 3), (49, .goto 204, 3), (52, .iload_n 1, 1), (53, .bipush 97, 2), (55, .bipush 122, 2), (57, .invokestatic 88, 3), (60, .ifCond .eq 55, 3), (63, .aload_n 0, 1), (64, .invokevirtual 99, 3), (67, .bipush 97, 2), (69, .bipush 122, 2), (71, .invokestatic 88, 3), (74, .ifCond .eq 16, 3), (77, .aload_n 0, 1), (78, .dup, 1), (79, .getfield 96, 3), (82, .iconst 1, 1), (83, .iadd, 1), (84, .putfield 96, 3), (87, .goto (-24), 3), (90, .aload_n 0, 1), (91, .aload_n 0, 1), (92, .getfield 96, 3), (95, .aload_n 0, 1), (96, .getfield 103, 3), (99, .isub, 1), (100, .iconst 1, 1), (101, .if_icmp .ne 7, 3), (104, .iload_n 1, 1), (105, .goto 4, 3), (108, .iconst 4, 1), (109, .putfield 109, 3), (112, .goto 141, 3), (115, .iload_n 1, 1), (116, .bipush 48, 2), (118, .bipush 57, 2), (120, .invokestatic 88, 3), (123, .ifCond .eq 105, 3), (126, .aload_n 0, 1), (127, .invokevirtual 99, 3), (130, .bipush 48, 2), (132, .bipush 57, 2), (134, .invokestatic 88, 3), (137, .ifCond .eq 51, 3), (140, .aload_n 0, 1), (141, .aload_n 0, 1), (142, .getfield 106, 3), (145, .bipush 99, 2), (147, .if_icmp .le 10, 3), (150, .aload_n 0, 1), (151, .getfield 106, 3), (154, .goto 18, 3), (157, .bipush 10, 2), (159, .aload_n 0, 1), (160, .getfield 106, 3), (163, .imul, 1), (164, .aload_n 0, 1), (165, .invokevirtual 99, 3), (168, .iadd, 1), (169, .bipush 48, 2), (171, .isub, 1), (172, .putfield 106, 3), (175, .aload_n 0, 1), (176, .dup, 1), (177, .getfield 96, 3), (180, .iconst 1, 1), (181, .iadd, 1), (182, .putfield 96, 3), (185, .goto (-59), 3), (188, .aload_n 0, 1), (189, .aload_n 0, 1), (190, .getfield 106, 3), (193, .bipush 99, 2), (195, .if_icmp .gt 22, 3), (198, .iload_n 1, 1), (199, .bipush 48, 2), (201, .if_icmp .ne 20, 3), (204, .aload_n 0, 1), (205, .getfield 96, 3), (208, .aload_n 0, 1), (209, .getfield 103, 3), (212, .isub, 1), (213, .iconst 1, 1), (214, .if_icmp .le 7, 3), (217, .iconst 4, 1), (218, .goto 4, 3), (221, .iconst 1, 1), (222, .putfield 109, 3), (225, .goto 28, 3), (228, .aload_n 0, 1), (229, .dup, 1), (230, .getfield 96, 3), (233, .iconst 1, 1), (234, .iadd, 1), (235, .putfield 96, 3), (238, .aload_n 0, 1), (239, .iload_n 1, 1), (240, .bipush 59, 2), (242, .if_icmp .ne 7, 3), (245, .iconst 2, 1), (246, .goto 4, 3), (249, .iconst 4, 1), (250, .putfield 109, 3), (253, .return_, 1)]
theorem tX7_next : dchk cX7_next eX7_next = true := by decide +kernel
abbrev eX7_due : List (Nat × Instr × Nat) := [(0, .aload_n 0, 1), (1, .getfield 106, 3), (4, .istore_n 2, 1), (5, .aload_n 0, 1), (6, .getfield 112, 3), (9, .bipush (-9), 2), (11, .if_icmp .ne 22, 3), (14, .iload_n 1, 1), (15, .ifCond .eq 10, 3), (18, .aload_n 0, 1), (19, .invokevirtual 115, 3), (22, .goto 11, 3), (25, .aload_n 0, 1), (26, .aload_n 0, 1), (27, .getfield 103, 3), (30, .putfield 112, 3), (33, .iload_n 2, 1), (34, .ireturn, 1)]
theorem tX7_due : dchk cX7_due eX7_due = true := by decide +kernel
abbrev eX7_number : List (Nat × Instr × Nat) := [(0, .aload_n 0, 1), (1, .aload_n 0, 1), (2, .getfield 109, 3), (5, .iconst 1, 1), (6, .if_icmp .ne 19, 3), (9, .aload_n 0, 1), (10, .getfield 106, 3), (13, .iload_n 1, 1), (14, .iload_n 2, 1), (15, .invokestatic 88, 3), (18, .ifCond .eq 7, 3), (21, .iconst 1, 1), (22, .goto 4, 3), (25, .iconst 0, 1), (26, .invokevirtual 118, 3), (29, .ireturn, 1)]
theorem tX7_number : dchk cX7_number eX7_number = true := by decide +kernel
abbrev eX7_placeTold : List (Nat × Instr × Nat) := [(0, .aload_n 0, 1), (1, .iconst 0, 1), (2, .aload_n 0, 1), (3, .getfield 13, 3), (6, .iconst 1, 1), (7, .iaload, 1), (8, .iconst 1, 1), (9, .isub, 1), (10, .invokevirtual 122, 3), (13, .ireturn, 1)]
theorem tX7_placeTold : dchk cX7_placeTold eX7_placeTold = true := by decide +kernel
abbrev eX7_mayBe : List (Nat × Instr × Nat) := [(0, .iload_n 1, 1), (1, .tableswitch 176 98 119 #[131, 116, 176, 176, 176, 176, 160, 176, 176, 176, 176, 176, 176, 176, 116, 176, 103, 118, 176, 176, 176, 144], 103), (104, .aload_n 0, 1), (105, .getfield 126, 3), (108, .ifCond .ne 7, 3), (111, .iconst 1, 1), (112, .goto 4, 3), (115, .iconst 0, 1), (116, .ireturn, 1), (117, .iconst 1, 1), (118, .ireturn, 1), (119, .aload_n 0, 1), (120, .getfield 129, 3), (123, .ifCond .ne 7, 3), (126, .iconst 1, 1), (127, .goto 4, 3), (130, .iconst 0, 1), (131, .ireturn, 1), (132, .aload_n 0, 1), (133, .getfield 133, 3), (136, .ifCond .ne 7, 3), (139, .iconst 1, 1), (140, .goto 4, 3), (143, .iconst 0, 1), (144, .ireturn, 1), (145, .aload_n 0, 1), (146, .getfield 29, 3), (149, .iconst 1, 1), (150, .iaload, 1), (151, .iconst 5, 1), (152, .if_icmp .ge 7, 3), (155, .iconst 1, 1), (156, .goto 4, 3), (159, .iconst 0, 1), (160, .ireturn, 1), (161, .aload_n 0, 1), (162, .getfield 32, 3), (165, .iconst 1, 1), (166, .iaload, 1), (167, .iconst 4, 1), (168, .if_icmp .ge 7, 3), (171, .iconst 1, 1), (172, .goto 4, 3), (175, .iconst 0, 1), (176, .ireturn, 1), (177, .iconst 0, 1), (178, .ireturn, 1)]
theorem tX7_mayBe : dchk cX7_mayBe eX7_mayBe = true := by decide +kernel
abbrev eX7_isFreeAtFirst : List (Nat × Instr × Nat) := [(0, .iconst 1, 1), (1, .istore_n 3, 1), (2, .iconst 0, 1), (3, .istore 4, 2), (5, .iload 4, 2), (7, .aload_n 0, 1), (8, .getfield 29, 3), (11, .iconst 1, 1), (12, .iaload, 1), (13, .if_icmp .ge 45, 3), (16, .iload_n 3, 1), (17, .ifCond .eq 33, 3), (20, .aload_n 0, 1), (21, .getfield 38, 3), (24, .iconst 5, 1), (25, .iload 4, 2), (27, .iadd, 1), (28, .iaload, 1), (29, .iload_n 1, 1), (30, .if_icmp .ne 16, 3), (33, .aload_n 0, 1), (34, .getfield 47, 3), (37, .iconst 5, 1), (38, .iload 4, 2), (40, .iadd, 1), (41, .iaload, 1), (42, .iload_n 2, 1), (43, .if_icmp .eq 7, 3), (46, .iconst 1, 1), (47, .goto 4, 3), (50, .iconst 0, 1), (51, .istore_n 3, 1), (52, .iinc 4 1, 3), (55, .goto (-50), 3), (58, .iload_n 3, 1), (59, .ireturn, 1)]
theorem tX7_isFreeAtFirst : dchk cX7_isFreeAtFirst eX7_isFreeAtFirst = true := by decide +kernel
abbrev eX7_readWagon : List (Nat × Instr × Nat) := [(0, .iconst 5, 1), (1, .aload_n 0, 1), (2, .getfield 29, 3), (5, .iconst 1, 1), (6, .iaload, 1), (7, .iadd, 1), (8, .istore_n 1, 1), (9, .aload_n 0, 1), (10, .iconst 0, 1), (11, .bipush 20, 2), (13, .invokevirtual 122, 3), (16, .istore_n 2, 1), (17, .aload_n 0, 1), (18, .getfield 41, 3), (21, .iload_n 1, 1), (22, .aload_n 0, 1), (23, .iconst 0, 1), (24, .iconst 3, 1), (25, .invokevirtual 122, 3), (28, .iastore, 1), (29, .aload_n 0, 1), (30, .getfield 44, 3), (33, .iload_n 1, 1), (34, .aload_n 0, 1), (35, .iconst 0, 1), (36, .bipush 9, 2), (38, .invokevirtual 122, 3), (41, .iastore, 1), (42, .aload_n 0, 1), (43, .getfield 47, 3), (46, .iload_n 1, 1), (47, .aload_n 0, 1), (48, .aload_n 0, 1), (49, .getfield 109, 3), (52, .iconst 1, 1), (53, .if_icmp .ne 27, 3), (56, .aload_n 0, 1), (57, .getfield 106, 3), (60, .iconst 3, 1), (61, .if_icmp .ge 19, 3), (64, .aload_n 0, 1), (65, .iload_n 2, 1), (66, .aload_n 0, 1), (67, .getfield 106, 3), (70, .invokevirtual 136, 3), (73, .ifCond .eq 7, 3), (76, .iconst 1, 1), (77, .goto 4, 3), (80, .iconst 0, 1), (81, .invokevirtual 118, 3), (84, .iastore, 1), (85, .aload_n 0, 1), (86, .getfield 38, 3), (89, .iload_n 1, 1), (90, .iload_n 2, 1), (91, .iastore, 1), (92, .aload_n 0, 1), (93, .getfield 29, 3), (96, .iconst 1, 1), (97, .dup2, 1), (98, .iaload, 1), (99, .iconst 1, 1), (100, .iadd, 1), (101, .iastore, 1), (102, .return_, 1)]
theorem tX7_readWagon : dchk cX7_readWagon eX7_readWagon = true := by decide +kernel
abbrev eX7_readRow : List (Nat × Instr × Nat) := [(0, .iload_n 1, 1), (1, .bipush 114, 2), (3, .if_icmp .ne 19, 3), (6, .aload_n 0, 1), (7, .getfield 13, 3), (10, .iconst 1, 1), (11, .aload_n 0, 1), (12, .iconst 4, 1), (13, .bipush 12, 2), (15, .invokevirtual 122, 3), (18, .iastore, 1), (19, .goto 246, 3), (22, .iload_n 1, 1), (23, .bipush 99, 2), (25, .if_icmp .ne 37, 3), (28, .aload_n 0, 1), (29, .invokevirtual 140, 3), (32, .istore_n 2, 1), (33, .aload_n 0, 1), (34, .iconst 1, 1), (35, .iconst 4, 1), (36, .invokevirtual 122, 3), (39, .istore_n 3, 1), (40, .aload_n 0, 1), (41, .getfield 112, 3), (44, .bipush (-9), 2), (46, .if_icmp .ne 13, 3), (49, .aload_n 0, 1), (50, .getfield 35, 3), (53, .bipush 12, 2), (55, .iload_n 2, 1), (56, .iadd, 1), (57, .iload_n 3, 1), (58, .iastore, 1), (59, .goto 206, 3), (62, .iload_n 1, 1), (63, .bipush 112, 2), (65, .if_icmp .ne 36, 3), (68, .aload_n 0, 1), (69, .invokevirtual 140, 3), (72, .istore_n 2, 1), (73, .aload_n 0, 1), (74, .getfield 26, 3), (77, .iconst 1, 1), (78, .dup2, 1), (79, .iaload, 1), (80, .aload_n 0, 1), (81, .getfield 112, 3), (84, .bipush (-9), 2), (86, .if_icmp .ne 9, 3), (89, .iconst 1, 1), (90, .iload_n 2, 1), (91, .ishl, 1), (92, .goto 4, 3), (95, .iconst 0, 1), (96, .ior, 1), (97, .iastore, 1), (98, .goto 167, 3), (101, .iload_n 1, 1), (102, .bipush 115, 2), (104, .if_icmp .ne 37, 3), (107, .aload_n 0, 1), (108, .getfield 17, 3), (111, .iconst 1, 1), (112, .aload_n 0, 1), (113, .iconst 1, 1), (114, .bipush 9, 2), (116, .invokevirtual 122, 3), (119, .iastore, 1), (120, .aload_n 0, 1), (121, .getfield 20, 3), (124, .iconst 1, 1), (125, .aload_n 0, 1), (126, .iconst 1, 1), (127, .bipush 20, 2), (129, .invokevirtual 122, 3), (132, .iastore, 1), (133, .aload_n 0, 1), (134, .iconst 1, 1), (135, .putfield 129, 3), (138, .goto 127, 3), (141, .iload_n 1, 1), (142, .bipush 98, 2), (144, .if_icmp .ne 21, 3), (147, .aload_n 0, 1), (148, .getfield 23, 3), (151, .iconst 1, 1), (152, .aload_n 0, 1), (153, .invokevirtual 140, 3), (156, .iastore, 1), (157, .aload_n 0, 1), (158, .iconst 1, 1), (159, .putfield 133, 3), (162, .goto 103, 3), (165, .iload_n 1, 1), (166, .bipush 119, 2), (168, .if_icmp .ne 10, 3), (171, .aload_n 0, 1), (172, .invokevirtual 143, 3), (175, .goto 90, 3), (178, .iconst 4, 1), (179, .aload_n 0, 1), (180, .getfield 32, 3), (183, .iconst 1, 1), (184, .iaload, 1), (185, .iadd, 1), (186, .istore_n 2, 1), (187, .aload_n 0, 1), (188, .getfield 50, 3), (191, .iload_n 2, 1), (192, .aload_n 0, 1), (193, .iconst 0, 1), (194, .aload_n 0, 1), (195, .getfield 29, 3), (198, .iconst 1, 1), (199, .iaload, 1), (200, .iconst 1, 1), (201, .isub, 1), (202, .invokevirtual 122, 3), (205, .iastore, 1), (206, .aload_n 0, 1), (207, .getfield 53, 3), (210, .iload_n 2, 1), (211, .aload_n 0, 1), (212, .aload_n 0, 1), (213, .getfield 109, 3), (216, .iconst 1, 1), (217, .if_icmp .ne 33, 3), (220, .aload_n 0, 1), (221, .getfield 106, 3), (224, .aload_n 0, 1), (225, .getfield 29, 3), (228, .iconst 1, 1), (229, .iaload, 1), (230, .if_icmp .ge 20, 3), (233, .aload_n 0, 1), (234, .getfield 106, 3), (237, .aload_n 0, 1), (238, .getfield 50, 3), (241, .iload_n 2, 1), (242, .iaload, 1), (243, .if_icmp .eq 7, 3), (246, .iconst 1, 1), (247, .goto 4, 3), (250, .iconst 0, 1), (251, .invokevirtual 118, 3), (254, .iastore, 1), (255, .aload_n 0, 1), (256, .getfield 32, 3), (259, .iconst 1, 1), (260, .dup2, 1), (261, .iaload, 1), (262, .iconst 1, 1), (263, .iadd, 1), (264, .iastore, 1), (265, .return_, 1)]
theorem tX7_readRow : dchk cX7_readRow eX7_readRow = true := by decide +kernel
abbrev eX7_world : List (Nat × Instr × Nat) := [(0, .aload_n 0, 1), (1, .iconst 0, 1), (2, .putfield 96, 3), (5, .aload_n 0, 1), (6, .bipush (-9), 2), (8, .putfield 112, 3), (11, .aload_n 0, 1), (12, .iconst 0, 1), (13, .putfield 126, 3), (16, .aload_n 0, 1), (17, .iconst 0, 1), (18, .putfield 129, 3), (21, .aload_n 0, 1), (22, .iconst 0, 1), (23, .putfield 133, 3), (26, .aload_n 0, 1), (27, .getfield 13, 3), (30, .iconst 1, 1), (31, .bipush 8, 2), (33, .iastore, 1), (34, .aload_n 0, 1), (35, .getfield 17, 3), (38, .iconst 1, 1), (39, .iconst 3, 1), (40, .iastore, 1), (41, .aload_n 0, 1), (42, .getfield 20, 3), (45, .iconst 1, 1), (46, .iconst 5, 1), (47, .iastore, 1), (48, .aload_n 0, 1), (49, .getfield 23, 3), (52, .iconst 1, 1), (53, .bipush (-9), 2), (55, .iastore, 1), (56, .aload_n 0, 1), (57, .getfield 26, 3), (60, .iconst 1, 1), (61, .iconst 0, 1), (62, .iastore, 1), (63, .aload_n 0, 1), (64, .getfield 29, 3), (67, .iconst 1, 1), (68, .iconst 0, 1), (69, .iastore, 1), (70, .aload_n 0, 1), (71, .getfield 32, 3), (74, .iconst 1, 1), (75, .iconst 0, 1), (76, .iastore, 1), (77, .iconst 0, 1), (78, .istore_n 1, 1), (79, .iload_n 1, 1), (80, .bipush 12, 2), (82, .if_icmp .ge 19, 3), (85, .aload_n 0, 1), (86, .getfield 35, 3), (89, .bipush 12, 2), (91, .iload_n 1, 1), (92, .iadd, 1), (93, .iconst 1, 1), (94, .iastore, 1), (95, .iinc 1 1, 3), (98, .goto (-19), 3), (101, .aload_n 0, 1), (102, .invokevirtual 115, 3), (105, .aload_n 0, 1), (106, .getfield 112, 3), (109, .bipush (-9), 2), (111, .if_icmp .ne 71, 3), (114, .aload_n 0, 1), (115, .getfield 109, 3), (118, .iconst 3, 1), (119, .if_icmp .eq 63, 3), (122, .aload_n 0, 1), (123, .getfield 109, 3), (126, .istore_n 1, 1), (127, .aload_n 0, 1), (128, .aload_n 0, 1), (129, .iload_n 1, 1), (130, .invokevirtual 146, 3), (133, .invokevirtual 118, 3), (136, .pop, 1), (137, .aload_n 0, 1), (138, .getfield 112, 3), (141, .bipush (-9), 2), (143, .if_icmp .ne 36, 3), (146, .aload_n 0, 1), (147, .iload_n 1, 1), (148, .invokevirtual 150, 3), (151, .aload_n 0, 1), (152, .aload_n 0, 1), (153, .getfield 109, 3), (156, .iconst 2, 1), (157, .if_icmp .ne 7, 3), (160, .iconst 1, 1), (161, .goto 4, 3), (164, .iconst 0, 1), (165, .invokevirtual 118, 3), (168, .pop, 1), (169, .aload_n 0, 1), (170, .dup, 1), (171, .getfield 126, 3), (174, .iconst 1, 1), (175, .iadd, 1), (176, .putfield 126, 3), (179, .goto (-74), 3), (182, .aload_n 0, 1), (183, .getfield 112, 3), (186, .bipush (-9), 2), (188, .if_icmp .eq 11, 3), (191, .bipush (-10), 2), (193, .aload_n 0, 1), (194, .getfield 112, 3), (197, .isub, 1), (198, .ireturn, 1), (199, .aload_n 0, 1), (200, .invokevirtual 154, 3), (203, .aload_n 0, 1), (204, .invokevirtual 157, 3), (207, .aload_n 0, 1), (208, .getfield 59, 3), (211, .bipush 31, 2), (213, .iconst 0, 1), (214, .iastore, 1), (215, .aload_n 0, 1), (216, .getfield 65, 3), (219, .iconst 0, 1), (220, .iconst 0, 1), (221, .bastore, 1), (222, .aload_n 0, 1), (223, .getfield 65, 3), (226, .iconst 1, 1), (227, .iconst 0, 1), (228, .bastore, 1), (229, .aload_n 0, 1), (230, .iconst 0, 1), (231, .putfield 92, 3), (234, .aload_n 0, 1), (235, .getfield 126, 3), (238, .ireturn, 1)]
theorem tX7_world : dchk cX7_world eX7_world = true := by decide +kernel
abbrev eX7_take : List (Nat × Instr × Nat) := [(0, .aload_n 0, 1), (1, .getfield 13, 3), (4, .iconst 0, 1), (5, .aload_n 0, 1), (6, .getfield 13, 3), (9, .iconst 1, 1), (10, .iaload, 1), (11, .iastore, 1), (12, .aload_n 0, 1), (13, .getfield 17, 3), (16, .iconst 0, 1), (17, .aload_n 0, 1), (18, .getfield 17, 3), (21, .iconst 1, 1), (22, .iaload, 1), (23, .iastore, 1), (24, .aload_n 0, 1), (25, .getfield 20, 3), (28, .iconst 0, 1), (29, .aload_n 0, 1), (30, .getfield 20, 3), (33, .iconst 1, 1), (34, .iaload, 1), (35, .iastore, 1), (36, .aload_n 0, 1), (37, .getfield 23, 3), (40, .iconst 0, 1), (41, .aload_n 0, 1), (42, .getfield 23, 3), (45, .iconst 1, 1), (46, .iaload, 1), (47, .iastore, 1), (48, .aload_n 0, 1), (49, .getfield 26, 3), (52, .iconst 0, 1), (53, .aload_n 0, 1), (54, .getfield 26, 3), (57, .iconst 1, 1), (58, .iaload, 1), (59, .iastore, 1), (60, .aload_n 0, 1), (61, .getfield 29, 3), (64, .iconst 0, 1), (65, .aload_n 0, 1), (66, .getfield 29, 3), (69, .iconst 1, 1), (70, .iaload, 1), (71, .iastore, 1), (72, .aload_n 0, 1), (73, .getfield 32, 3), (76, .iconst 0, 1), (77, .aload_n 0, 1), (78, .getfield 32, 3), (81, .iconst 1, 1), (82, .iaload, 1), (83, .iastore, 1), (84, .iconst 0, 1), (85, .istore_n 1, 1), (86, .iload_n 1, 1), (87, .bipush 12, 2), (89, .if_icmp .ge 24, 3), (92, .aload_n 0, 1), (93, .getfield 35, 3), (96, .iload_n 1, 1), (97, .aload_n 0, 1), (98, .getfield 35, 3), (101, .bipush 12, 2), (103, .iload_n 1, 1), (104, .iadd, 1), (105, .iaload, 1), (106, .iastore, 1), (107, .iinc 1 1, 3), (110, .goto (-24), 3), (113, .iconst 0, 1), (114, .istore_n 1, 1), (115, .iload_n 1, 1), (116, .iconst 5, 1), (117, .if_icmp .ge 77, 3), (120, .aload_n 0, 1), (121, .getfield 38, 3), (124, .iload_n 1, 1), (125, .aload_n 0, 1), (126, .getfield 38, 3), (129, .iconst 5, 1), (130, .iload_n 1, 1), (131, .iadd, 1), (132, .iaload, 1), (133, .iastore, 1), (134, .aload_n 0, 1), (135, .getfield 41, 3), (138, .iload_n 1, 1), (139, .aload_n 0, 1), (140, .getfield 41, 3), (143, .iconst 5, 1), (144, .iload_n 1, 1), (145, .iadd, 1), (146, .iaload, 1), (147, .iastore, 1), (148, .aload_n 0, 1), (149, .getfield 44, 3), (152, .iload_n 1, 1), (153, .aload_n 0, 1), (154, .getfield 44, 3), (157, .iconst 5, 1), (158, .iload_n 1, 1), (159, .iadd, 1), (160, .iaload, 1), (161, .iastore, 1), (162, .aload_n 0, 1), (163, .getfield 47, 3), (166, .iload_n 1, 1), (167, .aload_n 0, 1), (168, .getfield 47, 3), (171, .iconst 5, 1), (172, .iload_n 1, 1), (173, .iadd, 1), (174, .iaload, 1), (175, .iastore, 1), (176, .aload_n 0, 1), (177, .getfield 56, 3), (180, .iload_n 1, 1), (181, .aload_n 0, 1), (182, .getfield 41, 3), (185, .iload_n 1, 1), (186, .iaload, 1), (187, .iastore, 1), (188, .iinc 1 1, 3), (191, .goto (-76), 3), (194, .iconst 0, 1), (195, .istore_n 1, 1), (196, .iload_n 1, 1), (197, .iconst 5, 1), (198, .if_icmp .ge 97, 3), (201, .iconst 0, 1), (202, .istore_n 2, 1), (203, .iload_n 2, 1), (204, .aload_n 0, 1), (205, .getfield 32, 3), (208, .iconst 0, 1), (209, .iaload, 1), (210, .if_icmp .ge 79, 3), (213, .aload_n 0, 1), (214, .getfield 50, 3), (217, .iconst 4, 1), (218, .iload_n 2, 1), (219, .iadd, 1), (220, .iaload, 1), (221, .istore_n 3, 1), (222, .aload_n 0, 1), (223, .getfield 53, 3), (226, .iconst 4, 1), (227, .iload_n 2, 1), (228, .iadd, 1), (229, .iaload, 1), (230, .istore 4, 2), (232, .aload_n 0, 1), (233, .getfield 56, 3), (236, .iload_n 3, 1), (237, .iaload, 1), (238, .aload_n 0, 1), (239, .getfield 56, 3), (242, .iload 4, 2), (244, .iaload, 1), (245, .if_icmp .le 12, 3), (248, .aload_n 0, 1), (249, .getfield 56, 3), (252, .iload_n 3, 1), (253, .iaload, 1), (254, .goto 10, 3), (257, .aload_n 0, 1), (258, .getfield 56, 3), (261, .iload 4, 2), (263, .iaload, 1), (264, .istore 5, 2), (266, .aload_n 0, 1), (267, .getfield 56, 3), (270, .iload_n 3, 1), (271, .iload 5, 2), (273, .iastore, 1), (274, .aload_n 0, 1), (275, .getfield 56, 3), (278, .iload 4, 2), (280, .iload 5, 2), (282, .iastore, 1), (283, .iinc 2 1, 3), (286, .goto (-83), 3), (289, .iinc 1 1, 3), (292, .goto (-96), 3), (295, .return_, 1)]
theorem tX7_take : dchk cX7_take eX7_take = true := by decide +kernel
abbrev eX7_costAt : List (Nat × Instr × Nat) := [(0, .aload_n 0, 1), (1, .getfield 35, 3), (4, .iload_n 1, 1), (5, .aload_n 0, 1), (6, .getfield 13, 3), (9, .iconst 0, 1), (10, .iaload, 1), (11, .irem, 1), (12, .iaload, 1), (13, .ireturn, 1)]
theorem tX7_costAt : dchk cX7_costAt eX7_costAt = true := by decide +kernel
abbrev eX7_beginThen : List (Nat × Instr × Nat) := [(0, .aload_n 0, 1), (1, .getfield 62, 3), (4, .iconst 0, 1), (5, .iconst 0, 1), (6, .iastore, 1), (7, .iconst 0, 1), (8, .istore_n 1, 1), (9, .iload_n 1, 1), (10, .iconst 5, 1), (11, .if_icmp .ge 94, 3), (14, .aload_n 0, 1), (15, .getfield 62, 3), (18, .iconst 1, 1), (19, .iload_n 1, 1), (20, .iadd, 1), (21, .aload_n 0, 1), (22, .getfield 38, 3), (25, .iload_n 1, 1), (26, .iaload, 1), (27, .iastore, 1), (28, .aload_n 0, 1), (29, .getfield 62, 3), (32, .bipush 6, 2), (34, .iload_n 1, 1), (35, .iadd, 1), (36, .aload_n 0, 1), (37, .aload_n 0, 1), (38, .getfield 38, 3), (41, .iload_n 1, 1), (42, .iaload, 1), (43, .invokevirtual 160, 3), (46, .aload_n 0, 1), (47, .getfield 56, 3), (50, .iload_n 1, 1), (51, .iaload, 1), (52, .iadd, 1), (53, .iastore, 1), (54, .aload_n 0, 1), (55, .getfield 62, 3), (58, .bipush 11, 2), (60, .iload_n 1, 1), (61, .iadd, 1), (62, .iconst 0, 1), (63, .iastore, 1), (64, .aload_n 0, 1), (65, .getfield 62, 3), (68, .bipush 16, 2), (70, .iload_n 1, 1), (71, .iadd, 1), (72, .iconst 0, 1), (73, .iastore, 1), (74, .aload_n 0, 1), (75, .getfield 62, 3), (78, .bipush 21, 2), (80, .iload_n 1, 1), (81, .iadd, 1), (82, .iconst 0, 1), (83, .iastore, 1), (84, .aload_n 0, 1), (85, .getfield 62, 3), (88, .bipush 26, 2), (90, .iload_n 1, 1), (91, .iadd, 1), (92, .aload_n 0, 1), (93, .getfield 47, 3), (96, .iload_n 1, 1), (97, .iaload, 1), (98, .iastore, 1), (99, .iinc 1 1, 3), (102, .goto (-93), 3), (105, .return_, 1)]
theorem tX7_beginThen : dchk cX7_beginThen eX7_beginThen = true := by decide +kernel
abbrev eX7_begin : List (Nat × Instr × Nat) := [(0, .aload_n 0, 1), (1, .invokevirtual 164, 3), (4, .aload_n 0, 1), (5, .invokevirtual 167, 3), (8, .return_, 1)]
theorem tX7_begin : dchk cX7_begin eX7_begin = true := by decide +kernel
abbrev eX7_toNow : List (Nat × Instr × Nat) := [(0, .iconst 0, 1), (1, .istore_n 1, 1), (2, .iload_n 1, 1), (3, .bipush 31, 2), (5, .if_icmp .ge 21, 3), (8, .aload_n 0, 1), (9, .getfield 59, 3), (12, .iload_n 1, 1), (13, .aload_n 0, 1), (14, .getfield 62, 3), (17, .iload_n 1, 1), (18, .iaload, 1), (19, .iastore, 1), (20, .iinc 1 1, 3), (23, .goto (-21), 3), (26, .return_, 1)]
theorem tX7_toNow : dchk cX7_toNow eX7_toNow = true := by decide +kernel
abbrev eX7_toThen : List (Nat × Instr × Nat) := [(0, .iconst 0, 1), (1, .istore_n 1, 1), (2, .iload_n 1, 1), (3, .bipush 31, 2), (5, .if_icmp .ge 21, 3), (8, .aload_n 0, 1), (9, .getfield 62, 3), (12, .iload_n 1, 1), (13, .aload_n 0, 1), (14, .getfield 59, 3), (17, .iload_n 1, 1), (18, .iaload, 1), (19, .iastore, 1), (20, .iinc 1 1, 3), (23, .goto (-21), 3), (26, .return_, 1)]
theorem tX7_toThen : dchk cX7_toThen eX7_toThen = true := by decide +kernel
abbrev eX7_isWagon : List (Nat × Instr × Nat) := [(0, .iload_n 1, 1), (1, .iconst 0, 1), (2, .aload_n 0, 1), (3, .getfield 29, 3), (6, .iconst 0, 1), (7, .iaload, 1), (8, .iconst 1, 1), (9, .isub, 1), (10, .invokestatic 88, 3), (13, .ireturn, 1)]
theorem tX7_isWagon : dchk cX7_isWagon eX7_isWagon = true := by decide +kernel
abbrev eX7_place : List (Nat × Instr × Nat) := [(0, .iload_n 1, 1), (1, .iconst 0, 1), (2, .aload_n 0, 1), (3, .getfield 13, 3), (6, .iconst 0, 1), (7, .iaload, 1), (8, .iconst 1, 1), (9, .isub, 1), (10, .invokestatic 88, 3), (13, .ifCond .ne 5, 3), (16, .iconst (-1), 1), (17, .ireturn, 1), (18, .iload_n 2, 1), (19, .ifCond .ne 12, 3), (22, .aload_n 0, 1), (23, .getfield 35, 3), (26, .iload_n 1, 1), (27, .iaload, 1), (28, .goto 45, 3), (31, .iload_n 2, 1), (32, .iconst 1, 1), (33, .if_icmp .ne 16, 3), (36, .aload_n 0, 1), (37, .getfield 26, 3), (40, .iconst 0, 1), (41, .iaload, 1), (42, .iload_n 1, 1), (43, .ishr, 1), (44, .iconst 1, 1), (45, .iand, 1), (46, .goto 27, 3), (49, .iload_n 2, 1), (50, .iconst 2, 1), (51, .if_icmp .ne 21, 3), (54, .iload_n 1, 1), (55, .aload_n 0, 1), (56, .getfield 23, 3), (59, .iconst 0, 1), (60, .iaload, 1), (61, .if_icmp .ne 7, 3), (64, .iconst 1, 1), (65, .goto 8, 3), (68, .iconst 0, 1), (69, .goto 4, 3), (72, .iconst (-1), 1), (73, .ireturn, 1)]
theorem tX7_place : dchk cX7_place eX7_place = true := by decide +kernel
abbrev eX7_wagon : List (Nat × Instr × Nat) := [(0, .aload_n 0, 1), (1, .iload_n 1, 1), (2, .invokevirtual 170, 3), (5, .ifCond .ne 5, 3), (8, .iconst (-1), 1), (9, .ireturn, 1), (10, .iload_n 2, 1), (11, .tableswitch 118 0 7 #[45, 54, 61, 68, 78, 88, 98, 108], 45), (56, .aload_n 0, 1), (57, .getfield 59, 3), (60, .iconst 1, 1), (61, .iload_n 1, 1), (62, .iadd, 1), (63, .iaload, 1), (64, .ireturn, 1), (65, .aload_n 0, 1), (66, .getfield 56, 3), (69, .iload_n 1, 1), (70, .iaload, 1), (71, .ireturn, 1), (72, .aload_n 0, 1), (73, .getfield 44, 3), (76, .iload_n 1, 1), (77, .iaload, 1), (78, .ireturn, 1), (79, .aload_n 0, 1), (80, .getfield 59, 3), (83, .bipush 26, 2), (85, .iload_n 1, 1), (86, .iadd, 1), (87, .iaload, 1), (88, .ireturn, 1), (89, .aload_n 0, 1), (90, .getfield 59, 3), (93, .bipush 6, 2), (95, .iload_n 1, 1), (96, .iadd, 1), (97, .iaload, 1), (98, .ireturn, 1), (99, .aload_n 0, 1), (100, .getfield 59, 3), (103, .bipush 11, 2), (105, .iload_n 1, 1), (106, .iadd, 1), (107, .iaload, 1), (108, .ireturn, 1), (109, .aload_n 0, 1), (110, .getfield 59, 3), (113, .bipush 16, 2), (115, .iload_n 1, 1), (116, .iadd, 1), (117, .iaload, 1), (118, .ireturn, 1), (119, .aload_n 0, 1), (120, .getfield 59, 3), (123, .bipush 21, 2), (125, .iload_n 1, 1), (126, .iadd, 1), (127, .iaload, 1), (128, .ireturn, 1), (129, .iconst (-1), 1), (130, .ireturn, 1)]
theorem tX7_wagon : dchk cX7_wagon eX7_wagon = true := by decide +kernel
abbrev eX7_sunAt : List (Nat × Instr × Nat) := [(0, .iload_n 1, 1), (1, .aload_n 0, 1), (2, .getfield 17, 3), (5, .iconst 0, 1), (6, .iaload, 1), (7, .idiv, 1), (8, .aload_n 0, 1), (9, .getfield 20, 3), (12, .iconst 0, 1), (13, .iaload, 1), (14, .isub, 1), (15, .ireturn, 1)]
theorem tX7_sunAt : dchk cX7_sunAt eX7_sunAt = true := by decide +kernel
abbrev eX7_sun : List (Nat × Instr × Nat) := [(0, .iload_n 1, 1), (1, .iconst 0, 1), (2, .sipush 1100, 3), (5, .invokestatic 88, 3), (8, .ifCond .eq 11, 3), (11, .aload_n 0, 1), (12, .iload_n 1, 1), (13, .invokevirtual 173, 3), (16, .goto 5, 3), (19, .ldc 176, 2), (21, .ireturn, 1)]
theorem tX7_sun : dchk cX7_sun eX7_sun = true := by decide +kernel
abbrev eX7_caughtThen : List (Nat × Instr × Nat) := [(0, .iconst 0, 1), (1, .istore_n 1, 1), (2, .iconst 0, 1), (3, .istore_n 2, 1), (4, .iload_n 2, 1), (5, .aload_n 0, 1), (6, .getfield 29, 3), (9, .iconst 0, 1), (10, .iaload, 1), (11, .if_icmp .ge 23, 3), (14, .iload_n 1, 1), (15, .aload_n 0, 1), (16, .getfield 62, 3), (19, .bipush 21, 2), (21, .iload_n 2, 1), (22, .iadd, 1), (23, .iaload, 1), (24, .iload_n 2, 1), (25, .ishl, 1), (26, .ior, 1), (27, .istore_n 1, 1), (28, .iinc 2 1, 3), (31, .goto (-27), 3), (34, .iload_n 1, 1), (35, .ireturn, 1)]
theorem tX7_caughtThen : dchk cX7_caughtThen eX7_caughtThen = true := by decide +kernel
abbrev eX7_manyOf : List (Nat × Instr × Nat) := [(0, .iconst 0, 1), (1, .istore_n 1, 1), (2, .iconst 0, 1), (3, .istore_n 2, 1), (4, .iload_n 2, 1), (5, .iconst 5, 1), (6, .if_icmp .ge 17, 3), (9, .iload_n 1, 1), (10, .iload_n 0, 1), (11, .iload_n 2, 1), (12, .ishr, 1), (13, .iconst 1, 1), (14, .iand, 1), (15, .iadd, 1), (16, .istore_n 1, 1), (17, .iinc 2 1, 3), (20, .goto (-16), 3), (23, .iload_n 1, 1), (24, .ireturn, 1)]
theorem tX7_manyOf : dchk cX7_manyOf eX7_manyOf = true := by decide +kernel
abbrev eX7_now : List (Nat × Instr × Nat) := [(0, .iconst 0, 1), (1, .istore_n 2, 1), (2, .iconst 0, 1), (3, .istore_n 3, 1), (4, .iload_n 3, 1), (5, .aload_n 0, 1), (6, .getfield 29, 3), (9, .iconst 0, 1), (10, .iaload, 1), (11, .if_icmp .ge 37, 3), (14, .iload_n 2, 1), (15, .aload_n 0, 1), (16, .getfield 59, 3), (19, .bipush 16, 2), (21, .iload_n 3, 1), (22, .iadd, 1), (23, .iaload, 1), (24, .aload_n 0, 1), (25, .getfield 44, 3), (28, .iload_n 3, 1), (29, .iaload, 1), (30, .if_icmp .lt 9, 3), (33, .iconst 1, 1), (34, .iload_n 3, 1), (35, .ishl, 1), (36, .goto 4, 3), (39, .iconst 0, 1), (40, .ior, 1), (41, .istore_n 2, 1), (42, .iinc 3 1, 3), (45, .goto (-41), 3), (48, .aload_n 0, 1), (49, .invokevirtual 177, 3), (52, .iload_n 1, 1), (53, .tableswitch 74 0 5 #[39, 46, 53, 60, 67, 72], 39), (92, .aload_n 0, 1), (93, .getfield 59, 3), (96, .iconst 0, 1), (97, .iaload, 1), (98, .ireturn, 1), (99, .aload_n 0, 1), (100, .getfield 13, 3), (103, .iconst 0, 1), (104, .iaload, 1), (105, .ireturn, 1), (106, .aload_n 0, 1), (107, .getfield 17, 3), (110, .iconst 0, 1), (111, .iaload, 1), (112, .ireturn, 1), (113, .aload_n 0, 1), (114, .getfield 20, 3), (117, .iconst 0, 1), (118, .iaload, 1), (119, .ireturn, 1), (120, .aload_n 0, 1), (121, .invokevirtual 180, 3), (124, .ireturn, 1), (125, .iload_n 2, 1), (126, .ireturn, 1), (127, .iconst (-1), 1), (128, .ireturn, 1)]
theorem tX7_now : dchk cX7_now eX7_now = true := by decide +kernel
abbrev eX7_isFree : List (Nat × Instr × Nat) := [(0, .iconst 1, 1), (1, .istore_n 3, 1), (2, .iconst 0, 1), (3, .istore 4, 2), (5, .iload 4, 2), (7, .aload_n 0, 1), (8, .getfield 29, 3), (11, .iconst 0, 1), (12, .iaload, 1), (13, .if_icmp .ge 86, 3), (16, .aload_n 0, 1), (17, .getfield 23, 3), (20, .iconst 0, 1), (21, .iaload, 1), (22, .bipush (-9), 2), (24, .if_icmp .eq 24, 3), (27, .iload_n 1, 1), (28, .aload_n 0, 1), (29, .getfield 13, 3), (32, .iconst 0, 1), (33, .iaload, 1), (34, .irem, 1), (35, .aload_n 0, 1), (36, .getfield 23, 3), (39, .iconst 0, 1), (40, .iaload, 1), (41, .if_icmp .ne 7, 3), (44, .iconst 1, 1), (45, .goto 4, 3), (48, .iconst 0, 1), (49, .istore 5, 2), (51, .iload_n 3, 1), (52, .ifCond .eq 39, 3), (55, .aload_n 0, 1), (56, .getfield 62, 3), (59, .iconst 1, 1), (60, .iload 4, 2), (62, .iadd, 1), (63, .iaload, 1), (64, .iload_n 1, 1), (65, .if_icmp .ne 22, 3), (68, .aload_n 0, 1), (69, .getfield 62, 3), (72, .bipush 26, 2), (74, .iload 4, 2), (76, .iadd, 1), (77, .iaload, 1), (78, .iload_n 2, 1), (79, .if_icmp .eq 12, 3), (82, .iload 5, 2), (84, .ifCond .ne 7, 3), (87, .iconst 1, 1), (88, .goto 4, 3), (91, .iconst 0, 1), (92, .istore_n 3, 1), (93, .iinc 4 1, 3), (96, .goto (-91), 3), (99, .iload_n 3, 1), (100, .ireturn, 1)]
theorem tX7_isFree : dchk cX7_isFree eX7_isFree = true := by decide +kernel
abbrev eX7_move : List (Nat × Instr × Nat) := [(0, .aload_n 0, 1), (1, .getfield 62, 3), (4, .bipush 21, 2), (6, .iload_n 1, 1), (7, .iadd, 1), (8, .iaload, 1), (9, .iconst 1, 1), (10, .if_icmp .ne 4, 3), (13, .return_, 1), (14, .aload_n 0, 1), (15, .getfield 62, 3), (18, .bipush 11, 2), (20, .iload_n 1, 1), (21, .iadd, 1), (22, .iaload, 1), (23, .ifCond .le 30, 3), (26, .aload_n 0, 1), (27, .getfield 62, 3), (30, .bipush 11, 2), (32, .iload_n 1, 1), (33, .iadd, 1), (34, .dup2, 1), (35, .iaload, 1), (36, .iconst 1, 1), (37, .isub, 1), (38, .iastore, 1), (39, .aload_n 0, 1), (40, .getfield 62, 3), (43, .bipush 16, 2), (45, .iload_n 1, 1), (46, .iadd, 1), (47, .dup2, 1), (48, .iaload, 1), (49, .iconst 1, 1), (50, .iadd, 1), (51, .iastore, 1), (52, .return_, 1), (53, .aload_n 0, 1), (54, .getfield 62, 3), (57, .bipush 6, 2), (59, .iload_n 1, 1), (60, .iadd, 1), (61, .dup2, 1), (62, .iaload, 1), (63, .aload_n 0, 1), (64, .getfield 62, 3), (67, .bipush 6, 2), (69, .iload_n 1, 1), (70, .iadd, 1), (71, .iaload, 1), (72, .ifCond .le 7, 3), (75, .iconst 1, 1), (76, .goto 4, 3), (79, .iconst 0, 1), (80, .isub, 1), (81, .iastore, 1), (82, .aload_n 0, 1), (83, .getfield 62, 3), (86, .bipush 6, 2), (88, .iload_n 1, 1), (89, .iadd, 1), (90, .iaload, 1), (91, .ifCond .le 4, 3), (94, .return_, 1), (95, .aload_n 0, 1), (96, .getfield 62, 3), (99, .iconst 1, 1), (100, .iload_n 1, 1), (101, .iadd, 1), (102, .iaload, 1), (103, .iconst 1, 1), (104, .iadd, 1), (105, .istore_n 2, 1), (106, .aload_n 0, 1), (107, .iload_n 2, 1), (108, .aload_n 0, 1), (109, .getfield 62, 3), (112, .bipush 26, 2), (114, .iload_n 1, 1), (115, .iadd, 1), (116, .iaload, 1), (117, .invokevirtual 183, 3), (120, .ifCond .eq 36, 3), (123, .aload_n 0, 1), (124, .getfield 62, 3), (127, .iconst 1, 1), (128, .iload_n 1, 1), (129, .iadd, 1), (130, .iload_n 2, 1), (131, .iastore, 1), (132, .aload_n 0, 1), (133, .getfield 62, 3), (136, .bipush 6, 2), (138, .iload_n 1, 1), (139, .iadd, 1), (140, .aload_n 0, 1), (141, .iload_n 2, 1), (142, .invokevirtual 160, 3), (145, .aload_n 0, 1), (146, .getfield 56, 3), (149, .iload_n 1, 1), (150, .iaload, 1), (151, .iadd, 1), (152, .iastore, 1), (153, .goto 24, 3), (156, .aload_n 0, 1), (157, .aload_n 0, 1), (158, .getfield 186, 3), (161, .bipush (-9), 2), (163, .if_icmp .ne 7, 3), (166, .iload_n 1, 1), (167, .goto 7, 3), (170, .aload_n 0, 1), (171, .getfield 186, 3), (174, .putfield 186, 3), (177, .return_, 1)]
theorem tX7_move : dchk cX7_move eX7_move = true := by decide +kernel
abbrev eX7_pass : List (Nat × Instr × Nat) := [(0, .aload_n 0, 1), (1, .bipush (-9), 2), (3, .putfield 186, 3), (6, .iconst 0, 1), (7, .istore_n 1, 1), (8, .iconst 0, 1), (9, .istore_n 2, 1), (10, .iload_n 2, 1), (11, .aload_n 0, 1), (12, .getfield 29, 3), (15, .iconst 0, 1), (16, .iaload, 1), (17, .if_icmp .ge 81, 3), (20, .bipush (-9), 2), (22, .istore_n 3, 1), (23, .iconst 0, 1), (24, .istore 4, 2), (26, .iload 4, 2), (28, .aload_n 0, 1), (29, .getfield 29, 3), (32, .iconst 0, 1), (33, .iaload, 1), (34, .if_icmp .ge 47, 3), (37, .iload_n 1, 1), (38, .iload 4, 2), (40, .ishr, 1), (41, .iconst 1, 1), (42, .iand, 1), (43, .ifCond .ne 32, 3), (46, .iload_n 3, 1), (47, .bipush (-9), 2), (49, .if_icmp .eq 23, 3), (52, .aload_n 0, 1), (53, .getfield 62, 3), (56, .iconst 1, 1), (57, .iload 4, 2), (59, .iadd, 1), (60, .iaload, 1), (61, .aload_n 0, 1), (62, .getfield 62, 3), (65, .iconst 1, 1), (66, .iload_n 3, 1), (67, .iadd, 1), (68, .iaload, 1), (69, .if_icmp .le 6, 3), (72, .iload 4, 2), (74, .istore_n 3, 1), (75, .iinc 4 1, 3), (78, .goto (-52), 3), (81, .iload_n 1, 1), (82, .iconst 1, 1), (83, .iload_n 3, 1), (84, .ishl, 1), (85, .ior, 1), (86, .istore_n 1, 1), (87, .aload_n 0, 1), (88, .iload_n 3, 1), (89, .invokevirtual 189, 3), (92, .iinc 2 1, 3), (95, .goto (-85), 3), (98, .aload_n 0, 1), (99, .getfield 62, 3), (102, .iconst 0, 1), (103, .dup2, 1), (104, .iaload, 1), (105, .iconst 1, 1), (106, .iadd, 1), (107, .iastore, 1), (108, .iconst 0, 1), (109, .istore_n 2, 1), (110, .iload_n 2, 1), (111, .aload_n 0, 1), (112, .getfield 29, 3), (115, .iconst 0, 1), (116, .iaload, 1), (117, .if_icmp .ge 52, 3), (120, .aload_n 0, 1), (121, .getfield 62, 3), (124, .bipush 21, 2), (126, .iload_n 2, 1), (127, .iadd, 1), (128, .aload_n 0, 1), (129, .getfield 62, 3), (132, .iconst 1, 1), (133, .iload_n 2, 1), (134, .iadd, 1), (135, .iaload, 1), (136, .aload_n 0, 1), (137, .aload_n 0, 1), (138, .getfield 62, 3), (141, .iconst 0, 1), (142, .iaload, 1), (143, .invokevirtual 173, 3), (146, .if_icmp .gt 7, 3), (149, .iconst 1, 1), (150, .goto 12, 3), (153, .aload_n 0, 1), (154, .getfield 62, 3), (157, .bipush 21, 2), (159, .iload_n 2, 1), (160, .iadd, 1), (161, .iaload, 1), (162, .iastore, 1), (163, .iinc 2 1, 3), (166, .goto (-56), 3), (169, .return_, 1)]
theorem tX7_pass : dchk cX7_pass eX7_pass = true := by decide +kernel
abbrev eX7_know : List (Nat × Instr × Nat) := [(0, .aload_n 0, 1), (1, .getfield 59, 3), (4, .bipush 31, 2), (6, .iaload, 1), (7, .bipush 10, 2), (9, .if_icmp .ne 47, 3), (12, .iconst 0, 1), (13, .istore_n 1, 1), (14, .iload_n 1, 1), (15, .sipush 279, 3), (18, .if_icmp .ge 27, 3), (21, .aload_n 0, 1), (22, .getfield 59, 3), (25, .bipush 32, 2), (27, .iload_n 1, 1), (28, .iadd, 1), (29, .aload_n 0, 1), (30, .getfield 59, 3), (33, .bipush 63, 2), (35, .iload_n 1, 1), (36, .iadd, 1), (37, .iaload, 1), (38, .iastore, 1), (39, .iinc 1 1, 3), (42, .goto (-28), 3), (45, .aload_n 0, 1), (46, .getfield 59, 3), (49, .bipush 31, 2), (51, .dup2, 1), (52, .iaload, 1), (53, .iconst 1, 1), (54, .isub, 1), (55, .iastore, 1), (56, .iconst 0, 1), (57, .istore_n 1, 1), (58, .iload_n 1, 1), (59, .bipush 31, 2), (61, .if_icmp .ge 35, 3), (64, .aload_n 0, 1), (65, .getfield 59, 3), (68, .bipush 32, 2), (70, .bipush 31, 2), (72, .aload_n 0, 1), (73, .getfield 59, 3), (76, .bipush 31, 2), (78, .iaload, 1), (79, .imul, 1), (80, .iadd, 1), (81, .iload_n 1, 1), (82, .iadd, 1), (83, .aload_n 0, 1), (84, .getfield 59, 3), (87, .iload_n 1, 1), (88, .iaload, 1), (89, .iastore, 1), (90, .iinc 1 1, 3), (93, .goto (-35), 3), (96, .aload_n 0, 1), (97, .getfield 59, 3), (100, .bipush 31, 2), (102, .dup2, 1), (103, .iaload, 1), (104, .iconst 1, 1), (105, .iadd, 1), (106, .iastore, 1), (107, .return_, 1)]
theorem tX7_know : dchk cX7_know eX7_know = true := by decide +kernel
abbrev eX7_minute : List (Nat × Instr × Nat) := [(0, .aload_n 0, 1), (1, .getfield 59, 3), (4, .iconst 0, 1), (5, .iaload, 1), (6, .sipush 999, 3), (9, .if_icmp .ne 6, 3), (12, .bipush (-2), 2), (14, .ireturn, 1), (15, .aload_n 0, 1), (16, .invokevirtual 192, 3), (19, .aload_n 0, 1), (20, .invokevirtual 177, 3), (23, .aload_n 0, 1), (24, .invokevirtual 195, 3), (27, .aload_n 0, 1), (28, .invokevirtual 167, 3), (31, .aload_n 0, 1), (32, .invokevirtual 180, 3), (35, .invokestatic 198, 3), (38, .ireturn, 1)]
theorem tX7_minute : dchk cX7_minute eX7_minute = true := by decide +kernel
abbrev eX7_stand : List (Nat × Instr × Nat) := [(0, .aload_n 0, 1), (1, .iload_n 1, 1), (2, .invokevirtual 170, 3), (5, .ifCond .eq 13, 3), (8, .iload_n 2, 1), (9, .iconst 1, 1), (10, .bipush 30, 2), (12, .invokestatic 88, 3), (15, .ifCond .ne 5, 3), (18, .iconst (-1), 1), (19, .ireturn, 1), (20, .aload_n 0, 1), (21, .getfield 59, 3), (24, .bipush 21, 2), (26, .iload_n 1, 1), (27, .iadd, 1), (28, .iaload, 1), (29, .iconst 1, 1), (30, .if_icmp .eq 19, 3), (33, .aload_n 0, 1), (34, .getfield 59, 3), (37, .bipush 11, 2), (39, .iload_n 1, 1), (40, .iadd, 1), (41, .iaload, 1), (42, .iload_n 2, 1), (43, .iadd, 1), (44, .bipush 99, 2), (46, .if_icmp .le 6, 3), (49, .bipush (-2), 2), (51, .ireturn, 1), (52, .aload_n 0, 1), (53, .invokevirtual 192, 3), (56, .aload_n 0, 1), (57, .getfield 59, 3), (60, .bipush 11, 2), (62, .iload_n 1, 1), (63, .iadd, 1), (64, .dup2, 1), (65, .iaload, 1), (66, .iload_n 2, 1), (67, .iadd, 1), (68, .iastore, 1), (69, .aload_n 0, 1), (70, .getfield 59, 3), (73, .bipush 11, 2), (75, .iload_n 1, 1), (76, .iadd, 1), (77, .iaload, 1), (78, .ireturn, 1)]
theorem tX7_stand : dchk cX7_stand eX7_stand = true := by decide +kernel
abbrev eX7_isThere : List (Nat × Instr × Nat) := [(0, .iconst 0, 1), (1, .istore_n 3, 1), (2, .iconst 0, 1), (3, .istore 4, 2), (5, .iload 4, 2), (7, .aload_n 0, 1), (8, .getfield 29, 3), (11, .iconst 0, 1), (12, .iaload, 1), (13, .if_icmp .ge 46, 3), (16, .iload_n 3, 1), (17, .ifCond .ne 30, 3), (20, .aload_n 0, 1), (21, .getfield 59, 3), (24, .iconst 1, 1), (25, .iload 4, 2), (27, .iadd, 1), (28, .iaload, 1), (29, .iload_n 1, 1), (30, .if_icmp .ne 21, 3), (33, .aload_n 0, 1), (34, .getfield 59, 3), (37, .bipush 26, 2), (39, .iload 4, 2), (41, .iadd, 1), (42, .iaload, 1), (43, .iload_n 2, 1), (44, .if_icmp .ne 7, 3), (47, .iconst 1, 1), (48, .goto 4, 3), (51, .iconst 0, 1), (52, .istore_n 3, 1), (53, .iinc 4 1, 3), (56, .goto (-51), 3), (59, .iload_n 3, 1), (60, .ireturn, 1)]
theorem tX7_isThere : dchk cX7_isThere eX7_isThere = true := by decide +kernel
abbrev eX7_change : List (Nat × Instr × Nat) := [(0, .aload_n 0, 1), (1, .iload_n 1, 1), (2, .invokevirtual 170, 3), (5, .ifCond .eq 12, 3), (8, .iload_n 2, 1), (9, .iconst 0, 1), (10, .iconst 2, 1), (11, .invokestatic 88, 3), (14, .ifCond .ne 5, 3), (17, .iconst (-1), 1), (18, .ireturn, 1), (19, .aload_n 0, 1), (20, .getfield 59, 3), (23, .bipush 26, 2), (25, .iload_n 1, 1), (26, .iadd, 1), (27, .iaload, 1), (28, .istore_n 3, 1), (29, .aload_n 0, 1), (30, .getfield 26, 3), (33, .iconst 0, 1), (34, .iaload, 1), (35, .aload_n 0, 1), (36, .getfield 59, 3), (39, .iconst 1, 1), (40, .iload_n 1, 1), (41, .iadd, 1), (42, .iaload, 1), (43, .aload_n 0, 1), (44, .getfield 13, 3), (47, .iconst 0, 1), (48, .iaload, 1), (49, .irem, 1), (50, .ishr, 1), (51, .iconst 1, 1), (52, .iand, 1), (53, .iconst 1, 1), (54, .if_icmp .ne 7, 3), (57, .iconst 1, 1), (58, .goto 4, 3), (61, .iconst 0, 1), (62, .istore 4, 2), (64, .aload_n 0, 1), (65, .getfield 59, 3), (68, .bipush 21, 2), (70, .iload_n 1, 1), (71, .iadd, 1), (72, .iaload, 1), (73, .iconst 1, 1), (74, .if_icmp .eq 29, 3), (77, .iload_n 3, 1), (78, .iload_n 2, 1), (79, .if_icmp .eq 24, 3), (82, .iload 4, 2), (84, .ifCond .eq 19, 3), (87, .aload_n 0, 1), (88, .aload_n 0, 1), (89, .getfield 59, 3), (92, .iconst 1, 1), (93, .iload_n 1, 1), (94, .iadd, 1), (95, .iaload, 1), (96, .iload_n 2, 1), (97, .invokevirtual 201, 3), (100, .ifCond .eq 6, 3), (103, .bipush (-2), 2), (105, .ireturn, 1), (106, .aload_n 0, 1), (107, .invokevirtual 192, 3), (110, .aload_n 0, 1), (111, .getfield 59, 3), (114, .bipush 26, 2), (116, .iload_n 1, 1), (117, .iadd, 1), (118, .iload_n 2, 1), (119, .iastore, 1), (120, .iload_n 3, 1), (121, .ireturn, 1)]
theorem tX7_change : dchk cX7_change eX7_change = true := by decide +kernel
abbrev eX7_undo : List (Nat × Instr × Nat) := [(0, .aload_n 0, 1), (1, .getfield 59, 3), (4, .bipush 31, 2), (6, .iaload, 1), (7, .ifCond .ne 6, 3), (10, .bipush (-2), 2), (12, .ireturn, 1), (13, .aload_n 0, 1), (14, .getfield 59, 3), (17, .bipush 31, 2), (19, .dup2, 1), (20, .iaload, 1), (21, .iconst 1, 1), (22, .isub, 1), (23, .iastore, 1), (24, .iconst 0, 1), (25, .istore_n 1, 1), (26, .iload_n 1, 1), (27, .bipush 31, 2), (29, .if_icmp .ge 35, 3), (32, .aload_n 0, 1), (33, .getfield 59, 3), (36, .iload_n 1, 1), (37, .aload_n 0, 1), (38, .getfield 59, 3), (41, .bipush 32, 2), (43, .bipush 31, 2), (45, .aload_n 0, 1), (46, .getfield 59, 3), (49, .bipush 31, 2), (51, .iaload, 1), (52, .imul, 1), (53, .iadd, 1), (54, .iload_n 1, 1), (55, .iadd, 1), (56, .iaload, 1), (57, .iastore, 1), (58, .iinc 1 1, 3), (61, .goto (-35), 3), (64, .aload_n 0, 1), (65, .getfield 59, 3), (68, .bipush 31, 2), (70, .iaload, 1), (71, .ireturn, 1)]
theorem tX7_undo : dchk cX7_undo eX7_undo = true := by decide +kernel
abbrev eX7_passMany : List (Nat × Instr × Nat) := [(0, .iconst 0, 1), (1, .istore_n 2, 1), (2, .iload_n 2, 1), (3, .iload_n 1, 1), (4, .if_icmp .ge 13, 3), (7, .aload_n 0, 1), (8, .invokevirtual 195, 3), (11, .iinc 2 1, 3), (14, .goto (-12), 3), (17, .return_, 1)]
theorem tX7_passMany : dchk cX7_passMany eX7_passMany = true := by decide +kernel
abbrev eX7_behind : List (Nat × Instr × Nat) := [(0, .iload_n 1, 1), (1, .iconst 0, 1), (2, .bipush 60, 2), (4, .invokestatic 88, 3), (7, .ifCond .eq 20, 3), (10, .aload_n 0, 1), (11, .iload_n 2, 1), (12, .invokevirtual 170, 3), (15, .ifCond .eq 12, 3), (18, .iload_n 3, 1), (19, .iconst 0, 1), (20, .iconst 1, 1), (21, .invokestatic 88, 3), (24, .ifCond .ne 5, 3), (27, .iconst (-1), 1), (28, .ireturn, 1), (29, .aload_n 0, 1), (30, .invokevirtual 177, 3), (33, .aload_n 0, 1), (34, .iload_n 1, 1), (35, .invokevirtual 204, 3), (38, .iload_n 3, 1), (39, .ifCond .ne 14, 3), (42, .aload_n 0, 1), (43, .getfield 62, 3), (46, .iconst 1, 1), (47, .iload_n 2, 1), (48, .iadd, 1), (49, .iaload, 1), (50, .goto 12, 3), (53, .aload_n 0, 1), (54, .getfield 62, 3), (57, .bipush 21, 2), (59, .iload_n 2, 1), (60, .iadd, 1), (61, .iaload, 1), (62, .ireturn, 1)]
theorem tX7_behind : dchk cX7_behind eX7_behind = true := by decide +kernel
abbrev eX7_caught : List (Nat × Instr × Nat) := [(0, .iload_n 1, 1), (1, .iconst 0, 1), (2, .iconst 1, 1), (3, .invokestatic 88, 3), (6, .ifCond .ne 5, 3), (9, .iconst (-1), 1), (10, .ireturn, 1), (11, .aload_n 0, 1), (12, .invokevirtual 177, 3), (15, .aload_n 0, 1), (16, .invokevirtual 180, 3), (19, .istore_n 2, 1), (20, .iconst 1, 1), (21, .istore_n 3, 1), (22, .iload_n 3, 1), (23, .bipush 60, 2), (25, .if_icmp .gt 58, 3), (28, .aload_n 0, 1), (29, .invokevirtual 195, 3), (32, .aload_n 0, 1), (33, .invokevirtual 180, 3), (36, .iload_n 2, 1), (37, .iconst (-1), 1), (38, .ixor, 1), (39, .iand, 1), (40, .istore 4, 2), (42, .iload 4, 2), (44, .ifCond .eq 33, 3), (47, .iconst 0, 1), (48, .istore 5, 2), (50, .iload 4, 2), (52, .iload 5, 2), (54, .ishr, 1), (55, .iconst 1, 1), (56, .iand, 1), (57, .ifCond .ne 9, 3), (60, .iinc 5 1, 3), (63, .goto (-13), 3), (66, .iload_n 1, 1), (67, .ifCond .ne 7, 3), (70, .iload_n 3, 1), (71, .goto 5, 3), (74, .iload 5, 2), (76, .ireturn, 1), (77, .iinc 3 1, 3), (80, .goto (-58), 3), (83, .bipush (-9), 2), (85, .ireturn, 1)]
theorem tX7_caught : dchk cX7_caught eX7_caught = true := by decide +kernel
abbrev eX7_waits : List (Nat × Instr × Nat) := [(0, .iload_n 1, 1), (1, .iconst 0, 1), (2, .iconst 1, 1), (3, .invokestatic 88, 3), (6, .ifCond .ne 5, 3), (9, .iconst (-1), 1), (10, .ireturn, 1), (11, .aload_n 0, 1), (12, .invokevirtual 177, 3), (15, .iconst 1, 1), (16, .istore_n 2, 1), (17, .iload_n 2, 1), (18, .bipush 60, 2), (20, .if_icmp .gt 35, 3), (23, .aload_n 0, 1), (24, .invokevirtual 195, 3), (27, .aload_n 0, 1), (28, .getfield 186, 3), (31, .bipush (-9), 2), (33, .if_icmp .eq 16, 3), (36, .iload_n 1, 1), (37, .ifCond .ne 7, 3), (40, .iload_n 2, 1), (41, .goto 7, 3), (44, .aload_n 0, 1), (45, .getfield 186, 3), (48, .ireturn, 1), (49, .iinc 2 1, 3), (52, .goto (-35), 3), (55, .bipush (-9), 2), (57, .ireturn, 1)]
theorem tX7_waits : dchk cX7_waits eX7_waits = true := by decide +kernel
abbrev eX7_stands : List (Nat × Instr × Nat) := [(0, .aload_n 0, 1), (1, .iload_n 1, 1), (2, .invokevirtual 170, 3), (5, .ifCond .ne 5, 3), (8, .iconst (-1), 1), (9, .ireturn, 1), (10, .aload_n 0, 1), (11, .getfield 59, 3), (14, .bipush 21, 2), (16, .iload_n 1, 1), (17, .iadd, 1), (18, .iaload, 1), (19, .iconst 1, 1), (20, .if_icmp .ne 6, 3), (23, .bipush (-2), 2), (25, .ireturn, 1), (26, .bipush 30, 2), (28, .istore_n 2, 1), (29, .iload_n 2, 1), (30, .ifCond .lt 63, 3), (33, .aload_n 0, 1), (34, .getfield 59, 3), (37, .bipush 11, 2), (39, .iload_n 1, 1), (40, .iadd, 1), (41, .iaload, 1), (42, .iload_n 2, 1), (43, .iadd, 1), (44, .bipush 99, 2), (46, .if_icmp .gt 41, 3), (49, .aload_n 0, 1), (50, .invokevirtual 177, 3), (53, .aload_n 0, 1), (54, .invokevirtual 180, 3), (57, .istore_n 3, 1), (58, .aload_n 0, 1), (59, .getfield 62, 3), (62, .bipush 11, 2), (64, .iload_n 1, 1), (65, .iadd, 1), (66, .dup2, 1), (67, .iaload, 1), (68, .iload_n 2, 1), (69, .iadd, 1), (70, .iastore, 1), (71, .aload_n 0, 1), (72, .bipush 40, 2), (74, .invokevirtual 204, 3), (77, .aload_n 0, 1), (78, .invokevirtual 180, 3), (81, .iload_n 3, 1), (82, .if_icmp .ne 5, 3), (85, .iload_n 2, 1), (86, .ireturn, 1), (87, .iinc 2 (-1), 3), (90, .goto (-61), 3), (93, .bipush (-9), 2), (95, .ireturn, 1)]
theorem tX7_stands : dchk cX7_stands eX7_stands = true := by decide +kernel
abbrev eX7_findLacking : List (Nat × Instr × Nat) := [(0, .aload_n 0, 1), (1, .iconst 0, 1), (2, .putfield 207, 3), (5, .iconst 0, 1), (6, .istore_n 1, 1), (7, .iload_n 1, 1), (8, .aload_n 0, 1), (9, .getfield 29, 3), (12, .iconst 0, 1), (13, .iaload, 1), (14, .if_icmp .ge 90, 3), (17, .aload_n 0, 1), (18, .getfield 207, 3), (21, .iconst 3, 1), (22, .if_icmp .ge 82, 3), (25, .aload_n 0, 1), (26, .getfield 44, 3), (29, .iload_n 1, 1), (30, .iaload, 1), (31, .aload_n 0, 1), (32, .getfield 59, 3), (35, .bipush 16, 2), (37, .iload_n 1, 1), (38, .iadd, 1), (39, .iaload, 1), (40, .isub, 1), (41, .aload_n 0, 1), (42, .getfield 59, 3), (45, .bipush 11, 2), (47, .iload_n 1, 1), (48, .iadd, 1), (49, .iaload, 1), (50, .isub, 1), (51, .istore_n 2, 1), (52, .aload_n 0, 1), (53, .getfield 59, 3), (56, .bipush 21, 2), (58, .iload_n 1, 1), (59, .iadd, 1), (60, .iaload, 1), (61, .ifCond .ne 37, 3), (64, .iload_n 2, 1), (65, .ifCond .le 33, 3), (68, .aload_n 0, 1), (69, .getfield 69, 3), (72, .aload_n 0, 1), (73, .getfield 207, 3), (76, .iload_n 1, 1), (77, .iastore, 1), (78, .aload_n 0, 1), (79, .getfield 72, 3), (82, .aload_n 0, 1), (83, .getfield 207, 3), (86, .iload_n 2, 1), (87, .iastore, 1), (88, .aload_n 0, 1), (89, .dup, 1), (90, .getfield 207, 3), (93, .iconst 1, 1), (94, .iadd, 1), (95, .putfield 207, 3), (98, .iinc 1 1, 3), (101, .goto (-94), 3), (104, .return_, 1)]
theorem tX7_findLacking : dchk cX7_findLacking eX7_findLacking = true := by decide +kernel
abbrev eX7_isWell : List (Nat × Instr × Nat) := [(0, .aload_n 0, 1), (1, .invokevirtual 177, 3), (4, .aload_n 0, 1), (5, .invokevirtual 180, 3), (8, .istore_n 2, 1), (9, .iconst 0, 1), (10, .istore_n 3, 1), (11, .iload_n 3, 1), (12, .bipush 40, 2), (14, .if_icmp .ge 94, 3), (17, .iconst 0, 1), (18, .istore 4, 2), (20, .iload 4, 2), (22, .aload_n 0, 1), (23, .getfield 207, 3), (26, .if_icmp .ge 72, 3), (29, .aload_n 0, 1), (30, .getfield 69, 3), (33, .iload 4, 2), (35, .iaload, 1), (36, .istore 5, 2), (38, .aload_n 0, 1), (39, .getfield 62, 3), (42, .bipush 11, 2), (44, .iload 5, 2), (46, .iadd, 1), (47, .dup2, 1), (48, .iaload, 1), (49, .iload 4, 2), (51, .iload_n 1, 1), (52, .if_icmp .eq 37, 3), (55, .aload_n 0, 1), (56, .getfield 75, 3), (59, .iload 4, 2), (61, .iaload, 1), (62, .iload_n 3, 1), (63, .if_icmp .ne 26, 3), (66, .aload_n 0, 1), (67, .getfield 62, 3), (70, .bipush 21, 2), (72, .iload 5, 2), (74, .iadd, 1), (75, .iaload, 1), (76, .ifCond .ne 13, 3), (79, .aload_n 0, 1), (80, .getfield 72, 3), (83, .iload 4, 2), (85, .iaload, 1), (86, .goto 4, 3), (89, .iconst 0, 1), (90, .iadd, 1), (91, .iastore, 1), (92, .iinc 4 1, 3), (95, .goto (-75), 3), (98, .aload_n 0, 1), (99, .invokevirtual 195, 3), (102, .iinc 3 1, 3), (105, .goto (-94), 3), (108, .aload_n 0, 1), (109, .invokevirtual 180, 3), (112, .iload_n 2, 1), (113, .if_icmp .ne 7, 3), (116, .iconst 1, 1), (117, .goto 4, 3), (120, .iconst 0, 1), (121, .ireturn, 1)]
theorem tX7_isWell : dchk cX7_isWell eX7_isWell = true := by decide +kernel
abbrev eX7_findStarts : List (Nat × Instr × Nat) := [(0, .aload_n 0, 1), (1, .invokevirtual 210, 3), (4, .bipush (-9), 2), (6, .istore_n 2, 1), (7, .iconst 1, 1), (8, .istore_n 3, 1), (9, .iconst 0, 1), (10, .istore 4, 2), (12, .iload 4, 2), (14, .aload_n 0, 1), (15, .getfield 207, 3), (18, .if_icmp .ge 14, 3), (21, .iload_n 3, 1), (22, .bipush 7, 2), (24, .imul, 1), (25, .istore_n 3, 1), (26, .iinc 4 1, 3), (29, .goto (-17), 3), (32, .iconst 0, 1), (33, .istore 4, 2), (35, .iload 4, 2), (37, .iload_n 3, 1), (38, .if_icmp .ge 148, 3), (41, .iload 4, 2), (43, .istore 5, 2), (45, .iconst 0, 1), (46, .istore 6, 2), (48, .aload_n 0, 1), (49, .getfield 207, 3), (52, .iconst 1, 1), (53, .isub, 1), (54, .istore 7, 2), (56, .iload 7, 2), (58, .ifCond .lt 40, 3), (61, .aload_n 0, 1), (62, .getfield 75, 3), (65, .iload 7, 2), (67, .iload 5, 2), (69, .bipush 7, 2), (71, .irem, 1), (72, .iastore, 1), (73, .iload 6, 2), (75, .aload_n 0, 1), (76, .getfield 75, 3), (79, .iload 7, 2), (81, .iaload, 1), (82, .iadd, 1), (83, .istore 6, 2), (85, .iload 5, 2), (87, .bipush 7, 2), (89, .idiv, 1), (90, .istore 5, 2), (92, .iinc 7 (-1), 3), (95, .goto (-39), 3), (98, .iload_n 1, 1), (99, .bipush (-9), 2), (101, .if_icmp .eq 12, 3), (104, .aload_n 0, 1), (105, .getfield 75, 3), (108, .iload_n 1, 1), (109, .iaload, 1), (110, .ifCond .ne 7, 3), (113, .iconst 1, 1), (114, .goto 4, 3), (117, .iconst 0, 1), (118, .istore 7, 2), (120, .iload 7, 2), (122, .ifCond .eq 58, 3), (125, .iload_n 2, 1), (126, .bipush (-9), 2), (128, .if_icmp .eq 9, 3), (131, .iload 6, 2), (133, .iload_n 2, 1), (134, .if_icmp .ge 46, 3), (137, .aload_n 0, 1), (138, .iload_n 1, 1), (139, .invokevirtual 213, 3), (142, .ifCond .eq 38, 3), (145, .iload 6, 2), (147, .istore_n 2, 1), (148, .iconst 0, 1), (149, .istore 8, 2), (151, .iload 8, 2), (153, .aload_n 0, 1), (154, .getfield 207, 3), (157, .if_icmp .ge 23, 3), (160, .aload_n 0, 1), (161, .getfield 78, 3), (164, .iload 8, 2), (166, .aload_n 0, 1), (167, .getfield 75, 3), (170, .iload 8, 2), (172, .iaload, 1), (173, .iastore, 1), (174, .iinc 8 1, 3), (177, .goto (-26), 3), (180, .iinc 4 1, 3), (183, .goto (-148), 3), (186, .iload_n 2, 1), (187, .ireturn, 1)]
theorem tX7_findStarts : dchk cX7_findStarts eX7_findStarts = true := by decide +kernel
abbrev eX7_starts : List (Nat × Instr × Nat) := [(0, .iload_n 1, 1), (1, .iconst (-1), 1), (2, .if_icmp .eq 13, 3), (5, .aload_n 0, 1), (6, .iload_n 1, 1), (7, .invokevirtual 170, 3), (10, .ifCond .ne 5, 3), (13, .iconst (-1), 1), (14, .ireturn, 1), (15, .aload_n 0, 1), (16, .bipush (-9), 2), (18, .invokevirtual 216, 3), (21, .istore_n 2, 1), (22, .iload_n 2, 1), (23, .bipush (-9), 2), (25, .if_icmp .eq 8, 3), (28, .iload_n 1, 1), (29, .iconst (-1), 1), (30, .if_icmp .ne 5, 3), (33, .iload_n 2, 1), (34, .ireturn, 1), (35, .iconst 0, 1), (36, .istore_n 3, 1), (37, .iconst 0, 1), (38, .istore 4, 2), (40, .iload 4, 2), (42, .aload_n 0, 1), (43, .getfield 207, 3), (46, .if_icmp .ge 32, 3), (49, .aload_n 0, 1), (50, .getfield 69, 3), (53, .iload 4, 2), (55, .iaload, 1), (56, .iload_n 1, 1), (57, .if_icmp .ne 13, 3), (60, .aload_n 0, 1), (61, .getfield 78, 3), (64, .iload 4, 2), (66, .iaload, 1), (67, .goto 4, 3), (70, .iload_n 3, 1), (71, .istore_n 3, 1), (72, .iinc 4 1, 3), (75, .goto (-35), 3), (78, .iload_n 3, 1), (79, .ireturn, 1)]
theorem tX7_starts : dchk cX7_starts eX7_starts = true := by decide +kernel
abbrev eX7_bars : List (Nat × Instr × Nat) := [(0, .aload_n 0, 1), (1, .bipush (-9), 2), (3, .invokevirtual 216, 3), (6, .bipush (-9), 2), (8, .if_icmp .eq 6, 3), (11, .bipush (-9), 2), (13, .ireturn, 1), (14, .iconst 0, 1), (15, .istore_n 1, 1), (16, .iload_n 1, 1), (17, .aload_n 0, 1), (18, .getfield 207, 3), (21, .if_icmp .ge 26, 3), (24, .aload_n 0, 1), (25, .iload_n 1, 1), (26, .invokevirtual 216, 3), (29, .bipush (-9), 2), (31, .if_icmp .eq 10, 3), (34, .aload_n 0, 1), (35, .getfield 69, 3), (38, .iload_n 1, 1), (39, .iaload, 1), (40, .ireturn, 1), (41, .iinc 1 1, 3), (44, .goto (-28), 3), (47, .bipush (-9), 2), (49, .ireturn, 1)]
theorem tX7_bars : dchk cX7_bars eX7_bars = true := by decide +kernel
abbrev eX7_pieces : List (Nat × Instr × Nat) := [(0, .iload_n 1, 1), (1, .iconst 0, 1), (2, .iconst 2, 1), (3, .invokestatic 88, 3), (6, .ifCond .eq 13, 3), (9, .iload_n 2, 1), (10, .iconst 0, 1), (11, .bipush 60, 2), (13, .invokestatic 88, 3), (16, .ifCond .ne 5, 3), (19, .iconst (-1), 1), (20, .ireturn, 1), (21, .aload_n 0, 1), (22, .invokevirtual 177, 3), (25, .iconst 0, 1), (26, .istore_n 3, 1), (27, .iconst 0, 1), (28, .istore 4, 2), (30, .iload 4, 2), (32, .iload_n 2, 1), (33, .if_icmp .gt 162, 3), (36, .bipush (-9), 2), (38, .istore 5, 2), (40, .bipush (-9), 2), (42, .istore 6, 2), (44, .iconst 0, 1), (45, .istore 7, 2), (47, .iload 7, 2), (49, .aload_n 0, 1), (50, .getfield 29, 3), (53, .iconst 0, 1), (54, .iaload, 1), (55, .if_icmp .ge 97, 3), (58, .aload_n 0, 1), (59, .getfield 62, 3), (62, .bipush 26, 2), (64, .iload 7, 2), (66, .iadd, 1), (67, .iaload, 1), (68, .iload_n 1, 1), (69, .if_icmp .ne 77, 3), (72, .iload 5, 2), (74, .bipush (-9), 2), (76, .if_icmp .eq 17, 3), (79, .aload_n 0, 1), (80, .getfield 62, 3), (83, .iconst 1, 1), (84, .iload 7, 2), (86, .iadd, 1), (87, .iaload, 1), (88, .iload 5, 2), (90, .if_icmp .le 15, 3), (93, .aload_n 0, 1), (94, .getfield 62, 3), (97, .iconst 1, 1), (98, .iload 7, 2), (100, .iadd, 1), (101, .iaload, 1), (102, .goto 5, 3), (105, .iload 5, 2), (107, .istore 5, 2), (109, .iload 6, 2), (111, .bipush (-9), 2), (113, .if_icmp .eq 17, 3), (116, .aload_n 0, 1), (117, .getfield 62, 3), (120, .iconst 1, 1), (121, .iload 7, 2), (123, .iadd, 1), (124, .iaload, 1), (125, .iload 6, 2), (127, .if_icmp .ge 15, 3), (130, .aload_n 0, 1), (131, .getfield 62, 3), (134, .iconst 1, 1), (135, .iload 7, 2), (137, .iadd, 1), (138, .iaload, 1), (139, .goto 5, 3), (142, .iload 6, 2), (144, .istore 6, 2), (146, .iinc 7 1, 3), (149, .goto (-102), 3), (152, .iload 5, 2), (154, .bipush (-9), 2), (156, .if_icmp .ne 7, 3), (159, .iconst 0, 1), (160, .goto 10, 3), (163, .iload 5, 2), (165, .iload 6, 2), (167, .isub, 1), (168, .iconst 1, 1), (169, .iadd, 1), (170, .istore 7, 2), (172, .iload 7, 2), (174, .iload_n 3, 1), (175, .if_icmp .le 8, 3), (178, .iload 7, 2), (180, .goto 4, 3), (183, .iload_n 3, 1), (184, .istore_n 3, 1), (185, .aload_n 0, 1), (186, .invokevirtual 195, 3), (189, .iinc 4 1, 3), (192, .goto (-162), 3), (195, .iload_n 3, 1), (196, .ireturn, 1)]
theorem tX7_pieces : dchk cX7_pieces eX7_pieces = true := by decide +kernel
abbrev eX7_met : List (Nat × Instr × Nat) := [(0, .iload_n 1, 1), (1, .iconst 0, 1), (2, .aload_n 0, 1), (3, .getfield 13, 3), (6, .iconst 0, 1), (7, .iaload, 1), (8, .iconst 1, 1), (9, .isub, 1), (10, .invokestatic 88, 3), (13, .ifCond .eq 13, 3), (16, .iload_n 2, 1), (17, .iconst 0, 1), (18, .bipush 99, 2), (20, .invokestatic 88, 3), (23, .ifCond .ne 5, 3), (26, .iconst (-1), 1), (27, .ireturn, 1), (28, .aload_n 0, 1), (29, .invokevirtual 164, 3), (32, .aload_n 0, 1), (33, .iload_n 2, 1), (34, .invokevirtual 204, 3), (37, .iconst 0, 1), (38, .istore_n 3, 1), (39, .iconst 0, 1), (40, .istore 4, 2), (42, .iload 4, 2), (44, .aload_n 0, 1), (45, .getfield 29, 3), (48, .iconst 0, 1), (49, .iaload, 1), (50, .if_icmp .ge 53, 3), (53, .iload_n 3, 1), (54, .aload_n 0, 1), (55, .getfield 62, 3), (58, .bipush 21, 2), (60, .iload 4, 2), (62, .iadd, 1), (63, .iaload, 1), (64, .ifCond .ne 30, 3), (67, .aload_n 0, 1), (68, .getfield 62, 3), (71, .iconst 1, 1), (72, .iload 4, 2), (74, .iadd, 1), (75, .iaload, 1), (76, .aload_n 0, 1), (77, .getfield 13, 3), (80, .iconst 0, 1), (81, .iaload, 1), (82, .irem, 1), (83, .iload_n 1, 1), (84, .if_icmp .ne 10, 3), (87, .iconst 1, 1), (88, .iload 4, 2), (90, .ishl, 1), (91, .goto 4, 3), (94, .iconst 0, 1), (95, .ior, 1), (96, .istore_n 3, 1), (97, .iinc 4 1, 3), (100, .goto (-58), 3), (103, .iload_n 3, 1), (104, .ireturn, 1)]
theorem tX7_met : dchk cX7_met eX7_met = true := by decide +kernel
abbrev eX7_findOdds : List (Nat × Instr × Nat) := [(0, .iconst 0, 1), (1, .istore 5, 2), (3, .iload 5, 2), (5, .bipush 112, 2), (7, .if_icmp .ge 17, 3), (10, .aload_n 0, 1), (11, .getfield 81, 3), (14, .iload 5, 2), (16, .lconst 0, 1), (17, .lastore, 1), (18, .iinc 5 1, 3), (21, .goto (-18), 3), (24, .aload_n 0, 1), (25, .getfield 81, 3), (28, .aload_n 0, 1), (29, .getfield 59, 3), (32, .bipush 6, 2), (34, .iload_n 1, 1), (35, .iadd, 1), (36, .iaload, 1), (37, .lconst 1, 1), (38, .lastore, 1), (39, .aload_n 0, 1), (40, .lconst 1, 1), (41, .putfield 219, 3), (44, .aload_n 0, 1), (45, .getfield 59, 3), (48, .iconst 1, 1), (49, .iload_n 1, 1), (50, .iadd, 1), (51, .iaload, 1), (52, .istore 5, 2), (54, .iconst 1, 1), (55, .istore 6, 2), (57, .iload 6, 2), (59, .iload_n 3, 1), (60, .if_icmp .gt 254, 3), (63, .aload_n 0, 1), (64, .aload_n 0, 1), (65, .getfield 59, 3), (68, .iconst 0, 1), (69, .iaload, 1), (70, .iload 6, 2), (72, .iadd, 1), (73, .invokevirtual 173, 3), (76, .iload 4, 2), (78, .iadd, 1), (79, .istore 7, 2), (81, .iconst 0, 1), (82, .istore 8, 2), (84, .iload 8, 2), (86, .bipush 112, 2), (88, .if_icmp .ge 17, 3), (91, .aload_n 0, 1), (92, .getfield 85, 3), (95, .iload 8, 2), (97, .lconst 0, 1), (98, .lastore, 1), (99, .iinc 8 1, 3), (102, .goto (-18), 3), (105, .iconst 0, 1), (106, .istore 8, 2), (108, .iload 8, 2), (110, .bipush 104, 2), (112, .if_icmp .ge 154, 3), (115, .aload_n 0, 1), (116, .getfield 81, 3), (119, .iload 8, 2), (121, .laload, 1), (122, .lconst 0, 1), (123, .lcmp, 1), (124, .ifCond .le 136, 3), (127, .iload 8, 2), (129, .bipush 8, 2), (131, .idiv, 1), (132, .istore 9, 2), (134, .iload 8, 2), (136, .bipush 8, 2), (138, .irem, 1), (139, .istore 10, 2), (141, .iload 5, 2), (143, .iload 9, 2), (145, .iadd, 1), (146, .iload 7, 2), (148, .if_icmp .le 23, 3), (151, .aload_n 0, 1), (152, .getfield 85, 3), (155, .iload 8, 2), (157, .dup2, 1), (158, .laload, 1), (159, .aload_n 0, 1), (160, .getfield 81, 3), (163, .iload 8, 2), (165, .laload, 1), (166, .iload_n 2, 1), (167, .i2l, 1), (168, .lmul, 1), (169, .ladd, 1), (170, .lastore, 1), (171, .iload 10, 2), (173, .iconst 2, 1), (174, .if_icmp .ge 7, 3), (177, .iconst 1, 1), (178, .goto 4, 3), (181, .iconst 0, 1), (182, .istore 11, 2), (184, .iload 11, 2), (186, .ifCond .eq 32, 3), (189, .bipush 8, 2), (191, .iload 9, 2), (193, .iconst 1, 1), (194, .iadd, 1), (195, .imul, 1), (196, .aload_n 0, 1), (197, .iload 5, 2), (199, .iload 9, 2), (201, .iadd, 1), (202, .iconst 1, 1), (203, .iadd, 1), (204, .invokevirtual 160, 3), (207, .iadd, 1), (208, .aload_n 0, 1), (209, .getfield 56, 3), (212, .iload_n 1, 1), (213, .iaload, 1), (214, .iadd, 1), (215, .goto 7, 3), (218, .iload 8, 2), (220, .iconst 1, 1), (221, .isub, 1), (222, .istore 12, 2), (224, .iload 5, 2), (226, .iload 12, 2), (228, .bipush 8, 2), (230, .idiv, 1), (231, .iadd, 1), (232, .iload 7, 2), (234, .if_icmp .le 26, 3), (237, .aload_n 0, 1), (238, .getfield 85, 3), (241, .iload 12, 2), (243, .dup2, 1), (244, .laload, 1), (245, .aload_n 0, 1), (246, .getfield 81, 3), (249, .iload 8, 2), (251, .laload, 1), (252, .bipush 10, 2), (254, .iload_n 2, 1), (255, .isub, 1), (256, .i2l, 1), (257, .lmul, 1), (258, .ladd, 1), (259, .lastore, 1), (260, .iinc 8 1, 3), (263, .goto (-155), 3), (266, .iconst 0, 1), (267, .istore 8, 2), (269, .iload 8, 2), (271, .bipush 112, 2), (273, .if_icmp .ge 23, 3), (276, .aload_n 0, 1), (277, .getfield 81, 3), (280, .iload 8, 2), (282, .aload_n 0, 1), (283, .getfield 85, 3), (286, .iload 8, 2), (288, .laload, 1), (289, .lastore, 1), (290, .iinc 8 1, 3), (293, .goto (-24), 3), (296, .aload_n 0, 1), (297, .dup, 1), (298, .getfield 219, 3), (301, .ldc2_w 223, 3), (304, .lmul, 1), (305, .putfield 219, 3), (308, .iinc 6 1, 3), (311, .goto (-254), 3), (314, .aload_n 0, 1), (315, .lconst 0, 1), (316, .putfield 225, 3), (319, .iconst 0, 1), (320, .istore 6, 2), (322, .iload 6, 2), (324, .bipush 112, 2), (326, .if_icmp .ge 25, 3), (329, .aload_n 0, 1), (330, .dup, 1), (331, .getfield 225, 3), (334, .aload_n 0, 1), (335, .getfield 81, 3), (338, .iload 6, 2), (340, .laload, 1), (341, .ladd, 1), (342, .putfield 225, 3), (345, .iinc 6 1, 3), (348, .goto (-26), 3), (351, .return_, 1)]
theorem tX7_findOdds : dchk cX7_findOdds eX7_findOdds = true := by decide +kernel
abbrev eX7_isAsked : List (Nat × Instr × Nat) := [(0, .aload_n 0, 1), (1, .iload_n 1, 1), (2, .invokevirtual 170, 3), (5, .ifCond .eq 27, 3), (8, .iload_n 2, 1), (9, .iconst 0, 1), (10, .bipush 10, 2), (12, .invokestatic 88, 3), (15, .ifCond .eq 17, 3), (18, .iload_n 3, 1), (19, .iconst 0, 1), (20, .bipush 12, 2), (22, .invokestatic 88, 3), (25, .ifCond .eq 7, 3), (28, .iconst 1, 1), (29, .goto 4, 3), (32, .iconst 0, 1), (33, .ireturn, 1)]
theorem tX7_isAsked : dchk cX7_isAsked eX7_isAsked = true := by decide +kernel
abbrev eX7_odds : List (Nat × Instr × Nat) := [(0, .aload_n 0, 1), (1, .iload_n 1, 1), (2, .iload_n 2, 1), (3, .iload_n 3, 1), (4, .invokevirtual 228, 3), (7, .ifCond .eq 13, 3), (10, .iload 4, 2), (12, .iconst 0, 1), (13, .iconst 1, 1), (14, .invokestatic 88, 3), (17, .ifCond .ne 7, 3), (20, .ldc2_w 231, 3), (23, .lreturn, 1), (24, .aload_n 0, 1), (25, .getfield 59, 3), (28, .bipush 21, 2), (30, .iload_n 1, 1), (31, .iadd, 1), (32, .iaload, 1), (33, .iconst 1, 1), (34, .if_icmp .ne 7, 3), (37, .ldc2_w 233, 3), (40, .lreturn, 1), (41, .aload_n 0, 1), (42, .iload_n 1, 1), (43, .iload_n 2, 1), (44, .iload_n 3, 1), (45, .iconst 0, 1), (46, .invokevirtual 235, 3), (49, .aload_n 0, 1), (50, .getfield 225, 3), (53, .lstore 5, 2), (55, .aload_n 0, 1), (56, .getfield 219, 3), (59, .lstore 7, 2), (61, .lload 7, 2), (63, .lconst 0, 1), (64, .lcmp, 1), (65, .ifCond .eq 21, 3), (68, .lload 5, 2), (70, .lload 7, 2), (72, .lrem, 1), (73, .lstore 9, 2), (75, .lload 7, 2), (77, .lstore 5, 2), (79, .lload 9, 2), (81, .lstore 7, 2), (83, .goto (-22), 3), (86, .iload 4, 2), (88, .ifCond .ne 13, 3), (91, .aload_n 0, 1), (92, .getfield 225, 3), (95, .lload 5, 2), (97, .ldiv, 1), (98, .goto 10, 3), (101, .aload_n 0, 1), (102, .getfield 219, 3), (105, .lload 5, 2), (107, .ldiv, 1), (108, .lreturn, 1)]
theorem tX7_odds : dchk cX7_odds eX7_odds = true := by decide +kernel
abbrev eX7_keepAhead : List (Nat × Instr × Nat) := [(0, .aload_n 0, 1), (1, .iload_n 1, 1), (2, .iload_n 2, 1), (3, .iload_n 3, 1), (4, .invokevirtual 228, 3), (7, .ifCond .eq 14, 3), (10, .iload 4, 2), (12, .iconst 0, 1), (13, .bipush 10, 2), (15, .invokestatic 88, 3), (18, .ifCond .ne 5, 3), (21, .iconst (-1), 1), (22, .ireturn, 1), (23, .aload_n 0, 1), (24, .getfield 59, 3), (27, .bipush 21, 2), (29, .iload_n 1, 1), (30, .iadd, 1), (31, .iaload, 1), (32, .iconst 1, 1), (33, .if_icmp .ne 6, 3), (36, .bipush (-2), 2), (38, .ireturn, 1), (39, .bipush 20, 2), (41, .istore 5, 2), (43, .iload 5, 2), (45, .ifCond .lt 41, 3), (48, .aload_n 0, 1), (49, .iload_n 1, 1), (50, .iload_n 2, 1), (51, .iload_n 3, 1), (52, .iload 5, 2), (54, .invokevirtual 235, 3), (57, .ldc2_w 223, 3), (60, .aload_n 0, 1), (61, .getfield 225, 3), (64, .lmul, 1), (65, .iload 4, 2), (67, .i2l, 1), (68, .aload_n 0, 1), (69, .getfield 219, 3), (72, .lmul, 1), (73, .lcmp, 1), (74, .ifCond .lt 6, 3), (77, .iload 5, 2), (79, .ireturn, 1), (80, .iinc 5 (-1), 3), (83, .goto (-40), 3), (86, .bipush (-9), 2), (88, .ireturn, 1)]
theorem tX7_keepAhead : dchk cX7_keepAhead eX7_keepAhead = true := by decide +kernel
abbrev eX7_mark : List (Nat × Instr × Nat) := [(0, .iload_n 1, 1), (1, .iconst 0, 1), (2, .iconst 5, 1), (3, .invokestatic 88, 3), (6, .ifCond .eq 11, 3), (9, .aload_n 0, 1), (10, .iload_n 2, 1), (11, .invokevirtual 170, 3), (14, .ifCond .ne 6, 3), (17, .ldc 176, 2), (19, .ireturn, 1), (20, .aload_n 0, 1), (21, .getfield 59, 3), (24, .iconst 1, 1), (25, .iload_n 2, 1), (26, .iadd, 1), (27, .iaload, 1), (28, .istore_n 3, 1), (29, .iload_n 1, 1), (30, .tableswitch 148 0 4 #[34, 46, 70, 91, 117], 34), (64, .aload_n 0, 1), (65, .dup, 1), (66, .getfield 239, 3), (69, .lconst 1, 1), (70, .ladd, 1), (71, .putfield 239, 3), (74, .iload_n 3, 1), (75, .ireturn, 1), (76, .aload_n 0, 1), (77, .dup, 1), (78, .getfield 239, 3), (81, .ldc2_w 242, 3), (84, .ladd, 1), (85, .putfield 239, 3), (88, .iload_n 3, 1), (89, .aload_n 0, 1), (90, .getfield 59, 3), (93, .bipush 16, 2), (95, .iload_n 2, 1), (96, .iadd, 1), (97, .iaload, 1), (98, .iadd, 1), (99, .ireturn, 1), (100, .aload_n 0, 1), (101, .dup, 1), (102, .getfield 239, 3), (105, .ldc2_w 244, 3), (108, .ladd, 1), (109, .putfield 239, 3), (112, .iload_n 3, 1), (113, .aload_n 0, 1), (114, .getfield 56, 3), (117, .iload_n 2, 1), (118, .iaload, 1), (119, .isub, 1), (120, .ireturn, 1), (121, .aload_n 0, 1), (122, .dup, 1), (123, .getfield 239, 3), (126, .ldc2_w 246, 3), (129, .ladd, 1), (130, .putfield 239, 3), (133, .iconst 2, 1), (134, .iload_n 3, 1), (135, .aload_n 0, 1), (136, .getfield 59, 3), (139, .bipush 16, 2), (141, .iload_n 2, 1), (142, .iadd, 1), (143, .iaload, 1), (144, .iadd, 1), (145, .imul, 1), (146, .ireturn, 1), (147, .aload_n 0, 1), (148, .dup, 1), (149, .getfield 239, 3), (152, .ldc2_w 248, 3), (155, .ladd, 1), (156, .putfield 239, 3), (159, .iload_n 3, 1), (160, .aload_n 0, 1), (161, .getfield 56, 3), (164, .iload_n 2, 1), (165, .iaload, 1), (166, .isub, 1), (167, .aload_n 0, 1), (168, .getfield 59, 3), (171, .bipush 26, 2), (173, .iload_n 2, 1), (174, .iadd, 1), (175, .iaload, 1), (176, .iadd, 1), (177, .ireturn, 1), (178, .aload_n 0, 1), (179, .dup, 1), (180, .getfield 239, 3), (183, .ldc2_w 250, 3), (186, .ladd, 1), (187, .putfield 239, 3), (190, .iload_n 3, 1), (191, .iload_n 3, 1), (192, .iadd, 1), (193, .aload_n 0, 1), (194, .aload_n 0, 1), (195, .getfield 59, 3), (198, .iconst 0, 1), (199, .iaload, 1), (200, .invokevirtual 173, 3), (203, .isub, 1), (204, .ireturn, 1)]
theorem tX7_mark : dchk cX7_mark eX7_mark = true := by decide +kernel
abbrev eX7_copy : List (Nat × Instr × Nat) := [(0, .iconst 0, 1), (1, .istore_n 3, 1), (2, .iload_n 3, 1), (3, .sipush 342, 3), (6, .if_icmp .ge 25, 3), (9, .aload_n 0, 1), (10, .getfield 59, 3), (13, .iload_n 2, 1), (14, .iload_n 3, 1), (15, .iadd, 1), (16, .aload_n 0, 1), (17, .getfield 59, 3), (20, .iload_n 1, 1), (21, .iload_n 3, 1), (22, .iadd, 1), (23, .iaload, 1), (24, .iastore, 1), (25, .iinc 3 1, 3), (28, .goto (-26), 3), (31, .return_, 1)]
theorem tX7_copy : dchk cX7_copy eX7_copy = true := by decide +kernel
abbrev eX7_keep : List (Nat × Instr × Nat) := [(0, .iload_n 1, 1), (1, .iconst 0, 1), (2, .iconst 1, 1), (3, .invokestatic 88, 3), (6, .ifCond .ne 5, 3), (9, .iconst (-1), 1), (10, .ireturn, 1), (11, .aload_n 0, 1), (12, .iconst 0, 1), (13, .sipush 342, 3), (16, .iconst 1, 1), (17, .iload_n 1, 1), (18, .iadd, 1), (19, .imul, 1), (20, .invokevirtual 252, 3), (23, .aload_n 0, 1), (24, .getfield 65, 3), (27, .iload_n 1, 1), (28, .iconst 1, 1), (29, .bastore, 1), (30, .aload_n 0, 1), (31, .getfield 59, 3), (34, .iconst 0, 1), (35, .iaload, 1), (36, .ireturn, 1)]
theorem tX7_keep : dchk cX7_keep eX7_keep = true := by decide +kernel
abbrev eX7_back : List (Nat × Instr × Nat) := [(0, .iload_n 1, 1), (1, .iconst 0, 1), (2, .iconst 1, 1), (3, .invokestatic 88, 3), (6, .ifCond .ne 5, 3), (9, .iconst (-1), 1), (10, .ireturn, 1), (11, .aload_n 0, 1), (12, .getfield 65, 3), (15, .iload_n 1, 1), (16, .baload, 1), (17, .ifCond .ne 6, 3), (20, .bipush (-2), 2), (22, .ireturn, 1), (23, .aload_n 0, 1), (24, .sipush 342, 3), (27, .iconst 1, 1), (28, .iload_n 1, 1), (29, .iadd, 1), (30, .imul, 1), (31, .iconst 0, 1), (32, .invokevirtual 252, 3), (35, .aload_n 0, 1), (36, .getfield 59, 3), (39, .iconst 0, 1), (40, .iaload, 1), (41, .ireturn, 1)]
theorem tX7_back : dchk cX7_back eX7_back = true := by decide +kernel
abbrev eX7_count : List (Nat × Instr × Nat) := [(0, .iconst 0, 1), (1, .istore_n 2, 1), (2, .iconst 0, 1), (3, .istore_n 3, 1), (4, .iload_n 3, 1), (5, .bipush 12, 2), (7, .if_icmp .ge 22, 3), (10, .iload_n 2, 1), (11, .aload_n 0, 1), (12, .getfield 26, 3), (15, .iconst 0, 1), (16, .iaload, 1), (17, .iload_n 3, 1), (18, .ishr, 1), (19, .iconst 1, 1), (20, .iand, 1), (21, .iadd, 1), (22, .istore_n 2, 1), (23, .iinc 3 1, 3), (26, .goto (-22), 3), (29, .iload_n 1, 1), (30, .tableswitch 63 0 4 #[34, 41, 48, 50, 58], 34), (64, .aload_n 0, 1), (65, .getfield 29, 3), (68, .iconst 0, 1), (69, .iaload, 1), (70, .ireturn, 1), (71, .aload_n 0, 1), (72, .getfield 32, 3), (75, .iconst 0, 1), (76, .iaload, 1), (77, .ireturn, 1), (78, .iload_n 2, 1), (79, .ireturn, 1), (80, .aload_n 0, 1), (81, .getfield 59, 3), (84, .bipush 31, 2), (86, .iaload, 1), (87, .ireturn, 1), (88, .aload_n 0, 1), (89, .getfield 92, 3), (92, .ireturn, 1), (93, .iconst (-1), 1), (94, .ireturn, 1)]
theorem tX7_count : dchk cX7_count eX7_count = true := by decide +kernel
abbrev eX7_trace : List (Nat × Instr × Nat) := [(0, .aload_n 0, 1), (1, .getfield 239, 3), (4, .lreturn, 1)]
theorem tX7_trace : dchk cX7_trace eX7_trace = true := by decide +kernel
abbrev eJ6_bitCount_0f7a4 : List (Nat × Instr × Nat) := [(0, .iload_n 0, 1), (1, .iload_n 0, 1), (2, .iconst 1, 1), (3, .iushr, 1), (4, .ldc_w 265, 3), (7, .iand, 1), (8, .isub, 1), (9, .istore_n 0, 1), (10, .iload_n 0, 1), (11, .ldc_w 266, 3), (14, .iand, 1), (15, .iload_n 0, 1), (16, .iconst 2, 1), (17, .iushr, 1), (18, .ldc_w 266, 3), (21, .iand, 1), (22, .iadd, 1), (23, .istore_n 0, 1), (24, .iload_n 0, 1), (25, .iload_n 0, 1), (26, .iconst 4, 1), (27, .iushr, 1), (28, .iadd, 1), (29, .ldc_w 267, 3), (32, .iand, 1), (33, .istore_n 0, 1), (34, .iload_n 0, 1), (35, .iload_n 0, 1), (36, .bipush 8, 2), (38, .iushr, 1), (39, .iadd, 1), (40, .istore_n 0, 1), (41, .iload_n 0, 1), (42, .iload_n 0, 1), (43, .bipush 16, 2), (45, .iushr, 1), (46, .iadd, 1), (47, .istore_n 0, 1), (48, .iload_n 0, 1), (49, .bipush 63, 2), (51, .iand, 1), (52, .ireturn, 1)]
theorem tJ6_bitCount_0f7a4 : dchk cJ6_bitCount_0f7a4 eJ6_bitCount_0f7a4 = true := by decide +kernel
abbrev eJ9_max_7cf53 : List (Nat × Instr × Nat) := [(0, .iload_n 0, 1), (1, .iload_n 1, 1), (2, .if_icmp .lt 7, 3), (5, .iload_n 0, 1), (6, .goto 4, 3), (9, .iload_n 1, 1), (10, .ireturn, 1)]
theorem tJ9_max_7cf53 : dchk cJ9_max_7cf53 eJ9_max_7cf53 = true := by decide +kernel
abbrev eJ9_max_f86c9 : List (Nat × Instr × Nat) := [(0, .lload_n 0, 1), (1, .lload_n 2, 1), (2, .lcmp, 1), (3, .ifCond .lt 7, 3), (6, .lload_n 0, 1), (7, .goto 4, 3), (10, .lload_n 2, 1), (11, .lreturn, 1)]
theorem tJ9_max_f86c9 : dchk cJ9_max_f86c9 eJ9_max_f86c9 = true := by decide +kernel
abbrev eJ9_min_7cf53 : List (Nat × Instr × Nat) := [(0, .iload_n 0, 1), (1, .iload_n 1, 1), (2, .if_icmp .gt 7, 3), (5, .iload_n 0, 1), (6, .goto 4, 3), (9, .iload_n 1, 1), (10, .ireturn, 1)]
theorem tJ9_min_7cf53 : dchk cJ9_min_7cf53 eJ9_min_7cf53 = true := by decide +kernel
end
section

/-! THE MEMORY: ints, longs, references by address and place; a world T: launch, class numbers, array classes, first address, how many cells, shape of each -/
abbrev Mm : Type := (Nat → Nat → Int32) × (Nat → Nat → Int64) × (Nat → Nat → Nat)
def sI (M : Mm) (a k : Nat) (v : Int32) : Mm := (fun b j => if b = a ∧ j = k then v else M.1 b j, M.2.1, M.2.2)
def sL (M : Mm) (a k : Nat) (v : Int64) : Mm := (M.1, fun b j => if b = a ∧ j = k then v else M.2.1 b j, M.2.2)
def sR (M : Mm) (a k v : Nat) : Mm := (M.1, M.2.1, fun b j => if b = a ∧ j = k then v else M.2.2 b j)
def sC (M : Mm) (a b sp dp n : Nat) : Mm := (fun q j => if q = b then va_cpy (M.1 a) (M.1 b) sp dp n j else M.1 q j, M.2.1, M.2.2)
abbrev Th : Type := Launch × va_G × (Nat → ClassId) × Nat × Nat × (Nat → Nat × Nat)
def nfl (c : Nat) : Nat := [3, 14, 7, 5, 7, 4, 10, 39].getD c 0
def fkT : List (List (Nat × Nat)) := [
  [(0,0),(2,1),(2,2)],
  [(0,0),(0,0),(0,0),(0,0),(0,0),(0,0),(0,0),(0,0),(2,1),(2,2),(2,3),(2,4),(2,5),(2,6)],
  [(0,0),(0,0),(2,1),(2,2),(2,3),(2,4),(2,5)],
  [(0,0),(0,0),(2,1),(2,2),(2,3)],
  [(2,1),(0,0),(0,0),(0,0),(0,0),(0,0),(0,0)],
  [(2,1),(2,7),(0,0),(0,0)],
  [(2,1),(2,3),(2,7),(2,10),(2,16),(2,84),(2,152),(3,0),(3,0),(1,0)],
  [(1,0),(2,1),(0,0),(2,2),(2,3),(2,4),(2,5),(2,6),(2,7),(2,8),(2,9),(2,10),(2,11),(2,12),(2,13),(2,14),(2,15),(2,16),(0,0),(0,0),(0,0),(0,0),(0,0),(0,0),(0,0),(0,0),(2,17),(2,18),(2,19),(0,0),(2,20),(0,0),(2,21),(2,22),(2,23),(2,24),(2,25),(1,0),(1,0)]]
def fkd (c k : Nat) : Nat × Nat := (fkT.getD c []).getD k (0, 0)
def fv (M : Mm) (a c k : Nat) : Value := match fkd c k with
  | (0, _) => .int (M.1 a k)
  | (1, _) => .long (M.2.1 a k)
  | (2, o) => .ref (a + o)
  | _ => .ref (M.2.2 a k)
def cellOf (T : Th) (M : Mm) (a : Nat) : va_E := match T.2.2.2.2.2 a with
  | (0, c) => .inr (c, (List.range (nfl c)).map (fv M a c))
  | (1, n) => .inl (T.2.2.1 1, n, .inl (M.1 a))
  | (2, n) => .inl (T.2.2.1 2, n, .inr (.inl (M.2.1 a)))
  | (3, n) => .inl (T.2.2.1 3, n, .inl (M.1 a))
  | (4, n) => .inl (T.2.2.1 4, n, .inl (M.1 a))
  | (_, n) => .inl (T.2.2.1 5, n, .inr (.inr (.inr (.inr (fun j => some (M.2.2 a j))))))
def tyL (T : Th) : List (ClassId × FieldType) := [(T.2.2.1 1, .int), (T.2.2.1 2, .long), (T.2.2.1 3, .byte), (T.2.2.1 4, .boolean), (T.2.2.1 5, .object RX2)]
def dom (T : Th) : List Nat := (List.range T.2.2.2.2.1).map (fun i => T.2.2.2.1 + i)
def wl (T : Th) (M : Mm) : va_W := va_pl (dom T) (cellOf T M)
def RR (T : Th) (M : Mm) (H : Heap) : Prop := va_P T.2.1 vwCl (wl T M) H
def AA (T : Th) : Nat → Prop := fun q => T.2.2.2.1 ≤ q ∧ q < T.2.2.2.1 + T.2.2.2.2.1
/-- a cell of the world, of that shape -/
def Ob (T : Th) (a : Nat) (z : Nat × Nat) : Prop := AA T a ∧ T.2.2.2.2.2 a = z
theorem dom_in {T : Th} {a : Nat} (h : AA T a) : a ∈ dom T := by
  refine List.mem_map.mpr ⟨a - T.2.2.2.1, List.mem_range.mpr ?_, ?_⟩
  · have := h.1; have := h.2; omega
  · have := h.1; omega
theorem wl_D (T : Th) (M : Mm) : va_D (AA T) (wl T M) := by
  have key : ∀ (k : Nat) (q : Nat × va_E), (wl T M)[k]? = some q → k < T.2.2.2.2.1 ∧ q.1 = T.2.2.2.1 + k := by
    intro k q hk
    unfold wl va_pl dom at hk
    rw [List.map_map, List.getElem?_map] at hk
    by_cases h : k < T.2.2.2.2.1
    · rw [List.getElem?_range h] at hk
      cases hk
      exact ⟨h, rfl⟩
    · rw [List.getElem?_eq_none (by simpa using h)] at hk
      cases hk
  refine ⟨fun i j p q hi hj hpq => ?_, fun k q hk => ?_⟩
  · have h1 := (key i p hi).2
    have h2 := (key j q hj).2
    omega
  · obtain ⟨h1, h2⟩ := key k q hk
    unfold AA
    omega
theorem wl_get {T : Th} {M : Mm} {a : Nat} {z : Nat × Nat} (h : Ob T a z) : ∃ k : Nat, (wl T M)[k]? = some (a, cellOf T M a) := va_pl_get (X := []) (dom_in h.1)
theorem wl_set {T : Th} {M M' : Mm} {a k : Nat} {z : Nat × Nat} {e : va_E} (h : Ob T a z) (hk : (wl T M)[k]? = some (a, cellOf T M a)) (he : e = cellOf T M' a) (ho : ∀ b, b ≠ a → cellOf T M b = cellOf T M' b) : (wl T M).set k (a, e) = wl T M' := by
  have h1 := va_pl_set (X := []) (e := e) (wl_D T M) (dom_in h.1) hk
  refine h1.trans (va_pl_congr fun b => ?_)
  by_cases hb : b = a
  · subst hb; simp [va_up, he]
  · simp [va_up, hb, ho b hb]
theorem cell_obj {T : Th} {M : Mm} {a c : Nat} (h : Ob T a (0, c)) : cellOf T M a = .inr (c, (List.range (nfl c)).map (fv M a c)) := by simp [cellOf, h.2]
theorem cell_i {T : Th} {M : Mm} {a n : Nat} (h : Ob T a (1, n)) : cellOf T M a = .inl (T.2.2.1 1, n, .inl (M.1 a)) := by simp [cellOf, h.2]
theorem cell_l {T : Th} {M : Mm} {a n : Nat} (h : Ob T a (2, n)) : cellOf T M a = .inl (T.2.2.1 2, n, .inr (.inl (M.2.1 a))) := by simp [cellOf, h.2]
theorem cell_b {T : Th} {M : Mm} {a n : Nat} (h : Ob T a (3, n)) : cellOf T M a = .inl (T.2.2.1 3, n, .inl (M.1 a)) := by simp [cellOf, h.2]
theorem cell_z {T : Th} {M : Mm} {a n : Nat} (h : Ob T a (4, n)) : cellOf T M a = .inl (T.2.2.1 4, n, .inl (M.1 a)) := by simp [cellOf, h.2]
theorem cell_q {T : Th} {M : Mm} {a n : Nat} (h : Ob T a (5, n)) : cellOf T M a = .inl (T.2.2.1 5, n, .inr (.inr (.inr (.inr (fun j => some (M.2.2 a j)))))) := by simp [cellOf, h.2]
theorem fvo_sI {M : Mm} {a k b : Nat} {v : Int32} (hb : b ≠ a) : fv (sI M a k v) b = fv M b := by
  funext c j; simp [fv, sI, hb]
theorem fvo_sL {M : Mm} {a k b : Nat} {v : Int64} (hb : b ≠ a) : fv (sL M a k v) b = fv M b := by
  funext c j; simp [fv, sL, hb]
theorem fvo_sR {M : Mm} {a k b v : Nat} (hb : b ≠ a) : fv (sR M a k v) b = fv M b := by
  funext c j; simp [fv, sR, hb]
theorem fvo_sC {M : Mm} {a c b sp dp n : Nat} (hb : b ≠ c) : fv (sC M a c sp dp n) b = fv M b := by
  funext c j; simp [fv, sC, hb]
theorem cell_sI {T : Th} {M : Mm} {a k b : Nat} {v : Int32} (hb : b ≠ a) : cellOf T M b = cellOf T (sI M a k v) b := by
  unfold cellOf; rw [fvo_sI hb]; simp only [sI, hb, false_and, if_false]
theorem cell_sL {T : Th} {M : Mm} {a k b : Nat} {v : Int64} (hb : b ≠ a) : cellOf T M b = cellOf T (sL M a k v) b := by
  unfold cellOf; rw [fvo_sL hb]; simp only [sL, hb, false_and, if_false]
theorem cell_sR {T : Th} {M : Mm} {a k b v : Nat} (hb : b ≠ a) : cellOf T M b = cellOf T (sR M a k v) b := by
  unfold cellOf; rw [fvo_sR hb]; simp only [sR, hb, false_and, if_false]
theorem cell_sC {T : Th} {M : Mm} {a c b sp dp n : Nat} (hb : b ≠ c) : cellOf T M b = cellOf T (sC M a c sp dp n) b := by
  unfold cellOf; rw [fvo_sC hb]; simp only [sC, hb, if_false]
theorem flds_set {f g : Nat → Value} {n k : Nat} {v : Value} (hk : g k = v) (ho : ∀ j, j ≠ k → g j = f j) : ((List.range n).map f).set k v = (List.range n).map g := by
  apply List.ext_getElem?
  intro i
  by_cases hi : i < n
  · by_cases hik : i = k
    · subst hik
      rw [List.getElem?_set_self (by simpa using hi)]
      simp [hi, hk]
    · rw [List.getElem?_set_ne (Ne.symm hik)]
      simp [hi, ho i hik]
  · rw [List.getElem?_eq_none (by simpa using hi), List.getElem?_eq_none (by simpa using hi)]
theorem fv_i {M : Mm} {a c k o : Nat} (h : fkd c k = (0, o)) : fv M a c k = .int (M.1 a k) := by simp [fv, h]
theorem fv_l {M : Mm} {a c k o : Nat} (h : fkd c k = (1, o)) : fv M a c k = .long (M.2.1 a k) := by simp [fv, h]
theorem fv_f {M : Mm} {a c k o : Nat} (h : fkd c k = (2, o)) : fv M a c k = .ref (a + o) := by simp [fv, h]
theorem fv_r {M : Mm} {a c k o : Nat} (h : fkd c k = (3, o)) : fv M a c k = .ref (M.2.2 a k) := by simp [fv, h]
theorem fv_sI {M : Mm} {a c k j : Nat} {v : Int32} (h : j ≠ k) : fv (sI M a k v) a c j = fv M a c j := by
  simp only [fv, sI, h, and_false, if_false]
theorem fv_sL {M : Mm} {a c k j : Nat} {v : Int64} (h : j ≠ k) : fv (sL M a k v) a c j = fv M a c j := by
  simp only [fv, sL, h, and_false, if_false]
theorem fv_sR {M : Mm} {a c k j v : Nat} (h : j ≠ k) : fv (sR M a k v) a c j = fv M a c j := by
  simp only [fv, sR, h, and_false, if_false]
/-! A METHOD: its class, its name, its code, locals, answer, frames and locals' words that its calls may take -/
abbrev Mt : Type := String × MethodName × ByteArray × Nat × Option FieldType × Nat × Nat
def mRm (μ : Mt) : Room := { frames := μ.2.2.2.2.2.1, cells := 0, slots := 0, locals := μ.2.2.2.2.2.2 }
def mWs (μ : Mt) : List Cond := Cond.code μ.2.1 μ.2.2.1 μ.2.2.2.1 μ.2.2.2.2.1 :: wsA
def Cx (T : Th) (μ : Mt) (p : Program) (s : State) (m : MethodId) (args : Array Value) (meth : Method) (c : Code) : Prop :=
  p.tables.exec = Jvm.exec ∧ c.code = μ.2.2.1 ∧ meth.sig.returnType = μ.2.2.2.2.1 ∧ c.maxLocals = μ.2.2.2.1 ∧ s.vm.findClass μ.1 = some m.cls ∧ (∀ w ∈ wsA, w.before args s = true) ∧ meth.locks = false ∧ va_K T.2.1 vwCl (tyL T) s
def Qq (T : Th) (Q : Option Value → Mm → Prop) : Array Value → State → Outcome → State → Prop := fun _ st oc t => (∃ (r : Option Value) (M : Mm), oc = .returned r ∧ Q r M ∧ RR T M t.heap ∧ va_K T.2.1 vwCl (tyL T) t) ∧ va_F (AA T) st t
def WP (T : Th) (μ : Mt) (pc : Nat) (L : List (Nat × Value)) (st : List Value) (M : Mm) (Q : Option Value → Mm → Prop) : Prop :=
  ∀ (p : Program) (e : Env) (s : State) (m : MethodId) (args : Array Value) (below : List Frame) (meth : Method) (c : Code) (H : Heap) (locs : List Loc) (ls : Array Slot), Cx T μ p s m args meth c → RR T M H → va_S (AA T) s.heap H locs → lv_has ls μ.2.2.2.1 L → W p T.1 e (mRm μ) s m args below meth c H locs 0 0 (MQ below (Qq T Q) args s 0 0 (AA T)) (F0 m pc ls st)
def WPM (T : Th) (μ : Mt) (As : List Value) (M : Mm) (Q : Option Value → Mm → Prop) : Prop :=
  Met T.1 μ.2.1 (mWs μ) (mRm μ) (va_Pc As (fun U => RR T M U.heap ∧ va_K T.2.1 vwCl (tyL T) U)) (Qq T Q) 0 0 (AA T)
def qi (Q : Int32 → Mm → Prop) : Option Value → Mm → Prop := fun r M => ∃ x : Int32, r = some (.int x) ∧ Q x M
def ql (Q : Int64 → Mm → Prop) : Option Value → Mm → Prop := fun r M => ∃ x : Int64, r = some (.long x) ∧ Q x M
def qv (Q : Mm → Prop) : Option Value → Mm → Prop := fun r M => r = none ∧ Q M
abbrev WPi (T : Th) (μ : Mt) (As : List Value) (M : Mm) (Q : Int32 → Mm → Prop) : Prop := WPM T μ As M (qi Q)
abbrev WPl (T : Th) (μ : Mt) (As : List Value) (M : Mm) (Q : Int64 → Mm → Prop) : Prop := WPM T μ As M (ql Q)
abbrev WPv (T : Th) (μ : Mt) (As : List Value) (M : Mm) (Q : Mm → Prop) : Prop := WPM T μ As M (qv Q)
theorem WPM.of {T : Th} {μ : Mt} {As : List Value} {M : Mm} {Q : Option Value → Mm → Prop} (hy : plainName μ.2.1.cls = true) (hown : μ.2.1.cls = μ.1) (hn : (lg_sl As).length ≤ μ.2.2.2.1) (h : WP T μ 0 (lv_args 0 As) [] M Q) : WPM T μ As M Q := by
  refine Met.ofW (cc := μ.2.2.1) (maxL := μ.2.2.2.1) (ret := μ.2.2.2.2.1) hy rfl ?_
  intro p e s m args below meth c s₁ B hml hv
  obtain ⟨rfl, hR, hK⟩ := hv
  have hts0 := atoms_spec (ws := mWs μ) B.pre
  rw [lg_entry_eq]
  exact h p e s m _ below meth c s.heap [] _ ⟨B.exec, B.bytes, B.returns, hml, by rw [← hown]; exact findClass_of_methodNamed B.named, fun w hw => hts0 w (List.mem_cons_of_mem _ hw), B.notSynchronized, hK⟩ hR va_S.rf (lv_entry As hn)
theorem Qq.mono {T : Th} {Q Q' : Option Value → Mm → Prop} (h : ∀ r M, Q r M → Q' r M) {a : Array Value} {st t : State} {o : Outcome} (hq : Qq T Q a st o t) : Qq T Q' a st o t := by
  obtain ⟨⟨r, M, h1, h2, h3, h4⟩, h5⟩ := hq
  exact ⟨⟨r, M, h1, h r M h2, h3, h4⟩, h5⟩
/-- what a call of an object's method takes from the tables -/
def Cv (own : String) (idx : Nat) (ν : Mt) (n : Nat) : Prop := Cond.methodLink own idx ν.2.1 ∈ wsA ∧ Cond.instanceMethod ν.2.1 ∈ wsA ∧ Cond.selects ν.1 ν.2.1 ν.2.1 ∈ wsA ∧ Cond.initialized ν.2.1.cls ∈ wsA ∧ Cond.code ν.2.1 ν.2.2.1 ν.2.2.2.1 ν.2.2.2.2.1 ∈ wsA ∧ (ν.2.1.cls ≠ "java/lang/invoke/MethodHandle" ∧ ν.2.1.cls ≠ "java/lang/invoke/VarHandle" ∧ (parseMethodDescriptor ν.2.1.desc).map (fun d => d.parameters.length) = some n)
def Cst (own : String) (idx : Nat) (ν : Mt) (n : Nat) : Prop := Cond.methodLink own idx ν.2.1 ∈ wsA ∧ Cond.static ν.2.1 ∈ wsA ∧ Cond.initialized ν.2.1.cls ∈ wsA ∧ Cond.code ν.2.1 ν.2.2.1 ν.2.2.2.1 ν.2.2.2.2.1 ∈ wsA ∧ (ν.2.1.cls ≠ "java/lang/invoke/MethodHandle" ∧ ν.2.1.cls ≠ "java/lang/invoke/VarHandle" ∧ (parseMethodDescriptor ν.2.1.desc).map (fun d => d.parameters.length) = some n)
def RmOK (μ ν : Mt) : Prop := (mRm ν).frames + 1 ≤ (mRm μ).frames ∧ 8 + (ν.2.2.2.1 + 11) + (mRm ν).locals ≤ (mRm μ).locals
theorem good_mWs {ν : Mt} (hc : Cond.code ν.2.1 ν.2.2.1 ν.2.2.2.1 ν.2.2.2.2.1 ∈ wsA) : GoodIn wsA (mWs ν) := by
  intro w hw
  have hw' : w ∈ wsA := by
    rcases List.mem_cons.mp hw with h | h
    · rw [h]; exact hc
    · exact h
  exact ⟨hw', good_of_word (List.mem_filter.mp hw').2⟩
theorem blind_P {T : Th} {As : List Value} {M : Mm} : FrameBlind (va_Pc As (fun U => RR T M U.heap ∧ va_K T.2.1 vwCl (tyL T) U)) := fun a U g mk q => by
  obtain ⟨q0, q1, q2⟩ := q
  exact ⟨q0, q1, va_K.moved (u := U) (U := U.calling g mk a) (Vm.Alike.refl U.vm) q2⟩
theorem WP.run {T : Th} {μ : Mt} {pc : Nat} {L : List (Nat × Value)} {sk st : List Value} {M : Mm} {Q : Option Value → Mm → Prop} {a' : Array Value} {QQ : Option Value → Mm → Prop}
    (hrun : ∀ (p : Program) (e : Env) (s : State) (m : MethodId) (args : Array Value) (below : List Frame) (meth : Method) (c : Code) (H : Heap) (locs : List Loc) (ls : Array Slot), Cx T μ p s m args meth c → RR T M H → va_S (AA T) s.heap H locs → lv_has ls μ.2.2.2.1 L → va_Run p T.1 e (mRm μ) s m args below meth c H locs 0 0 0 0 (F0 m pc ls sk) st (Qq T QQ a') (AA T))
    (hk : ∀ r M', QQ r M' → WP T μ (pc + 3) L (r.toList ++ st) M' Q) : WP T μ pc L sk M Q := by
  intro p e s m args below meth c H locs ls X hR hS hl
  intro Tt hT Xs
  obtain ⟨v, st₀, t, T', Ls, h0, X', hL, e1, e2, ⟨⟨r, M', hv, hq, hR', hK'⟩, hz, hkk⟩, go⟩ := hrun p e s m args below meth c H locs ls X hR hS hl Tt hT Xs
  cases hv
  rw [h0] at hz hkk
  have hS' : va_S (AA T) s.heap T'.heap (locs ++ Ls) := by
    refine ⟨Nat.le_trans hS.1 (by rw [e1]; exact hz), fun q h1 h2 => ?_, fun q hq2 => ?_⟩
    · rw [e1, hkk q (Nat.lt_of_lt_of_le h1 hS.1) h2]
      exact hS.2.1 q h1 h2
    · rcases List.mem_append.mp hq2 with h | h
      · exact hS.2.2 q h
      · exact hL q h
  obtain ⟨t2, a1, b1⟩ := hk _ M' hq p e s m args below meth c T'.heap (locs ++ Ls) ls X (by rw [e1]; exact hR') hS' hl T' rfl X'
  exact ⟨t2, go t2 a1, b1⟩
theorem WP.callV {T : Th} {μ ν : Mt} {pc idx n ci a N : Nat} {L : List (Nat × Value)} {sk st As : List Value} {M : Mm} {Q QQ : Option Value → Mm → Prop} {T' : u_T} (hc : Cv μ.1 idx ν n) (hO : Ob T a (0, ci)) (hcl : vwCl[ci]? = some (ν.1, T', N)) (hn : As.length = n) (hrm : RmOK μ ν) (hst : (st.map fun v => v.category).sum ≤ 8) (hsk : sk = As.reverse ++ .ref a :: st) (hd : decode μ.2.2.1 pc = .ok (.invokevirtual idx, 3))
    (h : WPM T ν (.ref a :: As) M QQ) (hk : ∀ r M', QQ r M' → WP T μ (pc + 3) L (r.toList ++ st) M' Q) : WP T μ pc L sk M Q := by
  refine WP.run (a' := (Value.ref a :: As).toArray) (st := st) (fun p e s m args below meth c H locs ls X hR hS hl => ?_) hk
  obtain ⟨hx, hb, hr, hml, hown, hts, hlk, hK⟩ := X
  obtain ⟨k, hget⟩ := wl_get (M := M) hO
  rw [cell_obj hO] at hget
  exact va_runV (Ts := wsA) (C := ν.1) ⟨hx, hb, hml, hown, hts⟩ h ⟨callB_of n hts (good_mWs hc.2.2.2.2.1) rfl rfl rfl (hts _ hc.2.2.2.1) (hts _ hc.1) hc.2.2.2.2.2 hrm, hts _ hc.2.1, hts _ hc.2.2.1⟩ ⟨blind_P, va_recv hK hR hcl hget, fun U hU hW => ⟨rfl, by rw [hU]; exact hR, va_K.moved hW.alike hK⟩⟩ rfl hn hl.1 hsk (lv_room hst) hd ⟨Nat.zero_le _, Nat.zero_le _⟩
theorem WP.callS {T : Th} {μ ν : Mt} {pc idx n : Nat} {L : List (Nat × Value)} {sk st As : List Value} {M : Mm} {Q QQ : Option Value → Mm → Prop} (hc : Cst μ.1 idx ν n) (hn : As.length = n) (hrm : RmOK μ ν) (hst : (st.map fun v => v.category).sum ≤ 8) (hsk : sk = As.reverse ++ st) (hd : decode μ.2.2.1 pc = .ok (.invokestatic idx, 3))
    (h : WPM T ν As M QQ) (hk : ∀ r M', QQ r M' → WP T μ (pc + 3) L (r.toList ++ st) M' Q) : WP T μ pc L sk M Q := by
  refine WP.run (a' := As.toArray) (st := st) (fun p e s m args below meth c H locs ls X hR hS hl => ?_) hk
  obtain ⟨hx, hb, hr, hml, hown, hts, hlk, hK⟩ := X
  exact va_runS (Ts := wsA) ⟨hx, hb, hml, hown, hts⟩ h ⟨callB_of n hts (good_mWs hc.2.2.2.1) rfl rfl rfl (hts _ hc.2.2.1) (hts _ hc.1) hc.2.2.2.2 hrm, hts _ hc.2.1⟩ ⟨blind_P, fun U hU hW => ⟨rfl, by rw [hU]; exact hR, va_K.moved hW.alike hK⟩⟩ rfl hn hl.1 hsk (lv_room hst) hd ⟨Nat.zero_le _, Nat.zero_le _⟩
theorem WP.callVi {T : Th} {μ ν : Mt} {pc idx n ci a N : Nat} {L : List (Nat × Value)} {sk st As : List Value} {M : Mm} {Q : Option Value → Mm → Prop} {QQ : Int32 → Mm → Prop} {T' : u_T} (hc : Cv μ.1 idx ν n) (hO : Ob T a (0, ci)) (hcl : vwCl[ci]? = some (ν.1, T', N)) (hn : As.length = n) (hrm : RmOK μ ν) (hst : (st.map fun v => v.category).sum ≤ 8) (hsk : sk = As.reverse ++ .ref a :: st) (hd : decode μ.2.2.1 pc = .ok (.invokevirtual idx, 3))
    (h : WPi T ν (.ref a :: As) M QQ) (hk : ∀ x M', QQ x M' → WP T μ (pc + 3) L (.int x :: st) M' Q) : WP T μ pc L sk M Q :=
  WP.callV hc hO hcl hn hrm hst hsk hd h fun r M' ⟨x, hr, hq⟩ => by subst hr; exact hk x M' hq
theorem WP.callVl {T : Th} {μ ν : Mt} {pc idx n ci a N : Nat} {L : List (Nat × Value)} {sk st As : List Value} {M : Mm} {Q : Option Value → Mm → Prop} {QQ : Int64 → Mm → Prop} {T' : u_T} (hc : Cv μ.1 idx ν n) (hO : Ob T a (0, ci)) (hcl : vwCl[ci]? = some (ν.1, T', N)) (hn : As.length = n) (hrm : RmOK μ ν) (hst : (st.map fun v => v.category).sum ≤ 8) (hsk : sk = As.reverse ++ .ref a :: st) (hd : decode μ.2.2.1 pc = .ok (.invokevirtual idx, 3))
    (h : WPl T ν (.ref a :: As) M QQ) (hk : ∀ x M', QQ x M' → WP T μ (pc + 3) L (.long x :: st) M' Q) : WP T μ pc L sk M Q :=
  WP.callV hc hO hcl hn hrm hst hsk hd h fun r M' ⟨x, hr, hq⟩ => by subst hr; exact hk x M' hq
theorem WP.callVv {T : Th} {μ ν : Mt} {pc idx n ci a N : Nat} {L : List (Nat × Value)} {sk st As : List Value} {M : Mm} {Q : Option Value → Mm → Prop} {QQ : Mm → Prop} {T' : u_T} (hc : Cv μ.1 idx ν n) (hO : Ob T a (0, ci)) (hcl : vwCl[ci]? = some (ν.1, T', N)) (hn : As.length = n) (hrm : RmOK μ ν) (hst : (st.map fun v => v.category).sum ≤ 8) (hsk : sk = As.reverse ++ .ref a :: st) (hd : decode μ.2.2.1 pc = .ok (.invokevirtual idx, 3))
    (h : WPv T ν (.ref a :: As) M QQ) (hk : ∀ M', QQ M' → WP T μ (pc + 3) L st M' Q) : WP T μ pc L sk M Q :=
  WP.callV hc hO hcl hn hrm hst hsk hd h fun r M' ⟨hr, hq⟩ => by subst hr; exact hk M' hq
theorem WP.callSi {T : Th} {μ ν : Mt} {pc idx n : Nat} {L : List (Nat × Value)} {sk st As : List Value} {M : Mm} {Q : Option Value → Mm → Prop} {QQ : Int32 → Mm → Prop} (hc : Cst μ.1 idx ν n) (hn : As.length = n) (hrm : RmOK μ ν) (hst : (st.map fun v => v.category).sum ≤ 8) (hsk : sk = As.reverse ++ st) (hd : decode μ.2.2.1 pc = .ok (.invokestatic idx, 3))
    (h : WPi T ν As M QQ) (hk : ∀ x M', QQ x M' → WP T μ (pc + 3) L (.int x :: st) M' Q) : WP T μ pc L sk M Q :=
  WP.callS hc hn hrm hst hsk hd h fun r M' ⟨x, hr, hq⟩ => by subst hr; exact hk x M' hq
theorem WP.callSl {T : Th} {μ ν : Mt} {pc idx n : Nat} {L : List (Nat × Value)} {sk st As : List Value} {M : Mm} {Q : Option Value → Mm → Prop} {QQ : Int64 → Mm → Prop} (hc : Cst μ.1 idx ν n) (hn : As.length = n) (hrm : RmOK μ ν) (hst : (st.map fun v => v.category).sum ≤ 8) (hsk : sk = As.reverse ++ st) (hd : decode μ.2.2.1 pc = .ok (.invokestatic idx, 3))
    (h : WPl T ν As M QQ) (hk : ∀ x M', QQ x M' → WP T μ (pc + 3) L (.long x :: st) M' Q) : WP T μ pc L sk M Q :=
  WP.callS hc hn hrm hst hsk hd h fun r M' ⟨x, hr, hq⟩ => by subst hr; exact hk x M' hq
theorem WP.iconst {T : Th} {μ : Mt} {pc : Nat} {L : List (Nat × Value)} {st : List Value} {M : Mm} {Q : Option Value → Mm → Prop} {n : Int} {v : Int32} (hd : decode μ.2.2.1 pc = .ok (.iconst n, 1)) (hv : Int32.ofInt n = v) (h : WP T μ (pc + 1) L (.int v :: st) M Q) : WP T μ pc L st M Q := fun p e s m args below meth c H locs ls X hR hS hl => lv_iconst X.1 X.2.1 hd hv (h p e s m args below meth c H locs ls X hR hS hl)
theorem WP.bipush {T : Th} {μ : Mt} {pc : Nat} {L : List (Nat × Value)} {st : List Value} {M : Mm} {Q : Option Value → Mm → Prop} {n : Int} {v : Int32} (hd : decode μ.2.2.1 pc = .ok (.bipush n, 2)) (hv : (Int8.ofInt n).toInt32 = v) (h : WP T μ (pc + 2) L (.int v :: st) M Q) : WP T μ pc L st M Q := fun p e s m args below meth c H locs ls X hR hS hl => lv_bipush X.1 X.2.1 hd hv (h p e s m args below meth c H locs ls X hR hS hl)
theorem WP.sipush {T : Th} {μ : Mt} {pc : Nat} {L : List (Nat × Value)} {st : List Value} {M : Mm} {Q : Option Value → Mm → Prop} {n : Int} {v : Int32} (hd : decode μ.2.2.1 pc = .ok (.sipush n, 3)) (hv : (Int16.ofInt n).toInt32 = v) (h : WP T μ (pc + 3) L (.int v :: st) M Q) : WP T μ pc L st M Q := fun p e s m args below meth c H locs ls X hR hS hl => lv_sipush X.1 X.2.1 hd hv (h p e s m args below meth c H locs ls X hR hS hl)
theorem WP.lconst {T : Th} {μ : Mt} {pc : Nat} {L : List (Nat × Value)} {st : List Value} {M : Mm} {Q : Option Value → Mm → Prop} {n : Fin 2} {v : Int64} (hd : decode μ.2.2.1 pc = .ok (.lconst n, 1)) (hv : Int64.ofNat (n : Nat) = v) (h : WP T μ (pc + 1) L (.long v :: st) M Q) : WP T μ pc L st M Q := fun p e s m args below meth c H locs ls X hR hS hl => lv_lconst X.1 X.2.1 hd hv (h p e s m args below meth c H locs ls X hR hS hl)
theorem WP.ldc {T : Th} {μ : Mt} {pc : Nat} {L : List (Nat × Value)} {st : List Value} {M : Mm} {Q : Option Value → Mm → Prop} {k : Nat} {v : Int32} (hw : Cond.constant μ.1 k v ∈ wsA) (hd : decode μ.2.2.1 pc = .ok (.ldc k, 2)) (h : WP T μ (pc + 2) L (.int v :: st) M Q) : WP T μ pc L st M Q := fun p e s m args below meth c H locs ls X hR hS hl => lv_ldc X.1 X.2.1 X.2.2.2.2.1 (X.2.2.2.2.2.1 _ hw) hd (h p e s m args below meth c H locs ls X hR hS hl)
theorem WP.ldcw {T : Th} {μ : Mt} {pc : Nat} {L : List (Nat × Value)} {st : List Value} {M : Mm} {Q : Option Value → Mm → Prop} {k : Nat} {v : Int32} (hw : Cond.constant μ.1 k v ∈ wsA) (hd : decode μ.2.2.1 pc = .ok (.ldc_w k, 3)) (h : WP T μ (pc + 3) L (.int v :: st) M Q) : WP T μ pc L st M Q := fun p e s m args below meth c H locs ls X hR hS hl => lv_ldcw X.1 X.2.1 X.2.2.2.2.1 (X.2.2.2.2.2.1 _ hw) hd (h p e s m args below meth c H locs ls X hR hS hl)
theorem WP.ldc2 {T : Th} {μ : Mt} {pc : Nat} {L : List (Nat × Value)} {st : List Value} {M : Mm} {Q : Option Value → Mm → Prop} {k : Nat} {v : Int64} (hw : Cond.constantLong μ.1 k v ∈ wsA) (hd : decode μ.2.2.1 pc = .ok (.ldc2_w k, 3)) (h : WP T μ (pc + 3) L (.long v :: st) M Q) : WP T μ pc L st M Q := fun p e s m args below meth c H locs ls X hR hS hl => lv_ldc2 X.1 X.2.1 X.2.2.2.2.1 (X.2.2.2.2.2.1 _ hw) hd (h p e s m args below meth c H locs ls X hR hS hl)
theorem WP.iload_n {T : Th} {μ : Mt} {pc : Nat} {L : List (Nat × Value)} {st : List Value} {M : Mm} {Q : Option Value → Mm → Prop} {k : Fin 4} {i : Nat} {x : Int32} (j : Nat) (hd : decode μ.2.2.1 pc = .ok (.iload_n k, 1)) (hi : (k : Nat) = i) (hj : L[j]? = some (i, .int x)) (h : WP T μ (pc + 1) L (.int x :: st) M Q) : WP T μ pc L st M Q := fun p e s m args below meth c H locs ls X hR hS hl => lv_iload_n X.1 X.2.1 hd hi (lv_at hl j hj) (h p e s m args below meth c H locs ls X hR hS hl)
theorem WP.iload {T : Th} {μ : Mt} {pc : Nat} {L : List (Nat × Value)} {st : List Value} {M : Mm} {Q : Option Value → Mm → Prop} {i : Nat} {x : Int32} (j : Nat) (hd : decode μ.2.2.1 pc = .ok (.iload i, 2)) (hj : L[j]? = some (i, .int x)) (h : WP T μ (pc + 2) L (.int x :: st) M Q) : WP T μ pc L st M Q := fun p e s m args below meth c H locs ls X hR hS hl => lv_iload X.1 X.2.1 hd (lv_at hl j hj) (h p e s m args below meth c H locs ls X hR hS hl)
theorem WP.lload_n {T : Th} {μ : Mt} {pc : Nat} {L : List (Nat × Value)} {st : List Value} {M : Mm} {Q : Option Value → Mm → Prop} {k : Fin 4} {i : Nat} {x : Int64} (j : Nat) (hd : decode μ.2.2.1 pc = .ok (.lload_n k, 1)) (hi : (k : Nat) = i) (hj : L[j]? = some (i, .long x)) (h : WP T μ (pc + 1) L (.long x :: st) M Q) : WP T μ pc L st M Q := fun p e s m args below meth c H locs ls X hR hS hl => lv_lload_n X.1 X.2.1 hd hi (lv_at hl j hj) (h p e s m args below meth c H locs ls X hR hS hl)
theorem WP.lload {T : Th} {μ : Mt} {pc : Nat} {L : List (Nat × Value)} {st : List Value} {M : Mm} {Q : Option Value → Mm → Prop} {i : Nat} {x : Int64} (j : Nat) (hd : decode μ.2.2.1 pc = .ok (.lload i, 2)) (hj : L[j]? = some (i, .long x)) (h : WP T μ (pc + 2) L (.long x :: st) M Q) : WP T μ pc L st M Q := fun p e s m args below meth c H locs ls X hR hS hl => lv_lload X.1 X.2.1 hd (lv_at hl j hj) (h p e s m args below meth c H locs ls X hR hS hl)
theorem WP.aload_n {T : Th} {μ : Mt} {pc : Nat} {L : List (Nat × Value)} {st : List Value} {M : Mm} {Q : Option Value → Mm → Prop} {k : Fin 4} {i : Nat} {x : Nat} (j : Nat) (hd : decode μ.2.2.1 pc = .ok (.aload_n k, 1)) (hi : (k : Nat) = i) (hj : L[j]? = some (i, .ref x)) (h : WP T μ (pc + 1) L (.ref x :: st) M Q) : WP T μ pc L st M Q := fun p e s m args below meth c H locs ls X hR hS hl => lv_aload_n X.1 X.2.1 hd hi (lv_at hl j hj) (h p e s m args below meth c H locs ls X hR hS hl)
theorem WP.aload {T : Th} {μ : Mt} {pc : Nat} {L : List (Nat × Value)} {st : List Value} {M : Mm} {Q : Option Value → Mm → Prop} {i : Nat} {x : Nat} (j : Nat) (hd : decode μ.2.2.1 pc = .ok (.aload i, 2)) (hj : L[j]? = some (i, .ref x)) (h : WP T μ (pc + 2) L (.ref x :: st) M Q) : WP T μ pc L st M Q := fun p e s m args below meth c H locs ls X hR hS hl => lv_aload X.1 X.2.1 hd (lv_at hl j hj) (h p e s m args below meth c H locs ls X hR hS hl)
theorem WP.istore_n {T : Th} {μ : Mt} {pc : Nat} {L : List (Nat × Value)} {st : List Value} {M : Mm} {Q : Option Value → Mm → Prop} {k : Fin 4} {i : Nat} {x : Int32} {L2 : List (Nat × Value)} (hd : decode μ.2.2.1 pc = .ok (.istore_n k, 1)) (hi : (k : Nat) = i) (hn : i < μ.2.2.2.1) (hl2 : (i, Value.int x) :: L.filter (fun q => !(q.1 == i) && !(q.1 + 1 == i && q.2.category == 2)) = L2) (h : WP T μ (pc + 1) L2 st M Q) : WP T μ pc L (.int x :: st) M Q := fun p e s m args below meth c H locs ls X hR hS hl => lv_istore_n X.1 X.2.1 hd hi hl hn hl2 (fun ls hl => h p e s m args below meth c H locs ls X hR hS hl)
theorem WP.istore {T : Th} {μ : Mt} {pc : Nat} {L : List (Nat × Value)} {st : List Value} {M : Mm} {Q : Option Value → Mm → Prop} {i : Nat} {x : Int32} {L2 : List (Nat × Value)} (hd : decode μ.2.2.1 pc = .ok (.istore i, 2)) (hn : i < μ.2.2.2.1) (hl2 : (i, Value.int x) :: L.filter (fun q => !(q.1 == i) && !(q.1 + 1 == i && q.2.category == 2)) = L2) (h : WP T μ (pc + 2) L2 st M Q) : WP T μ pc L (.int x :: st) M Q := fun p e s m args below meth c H locs ls X hR hS hl => lv_istore X.1 X.2.1 hd hl hn hl2 (fun ls hl => h p e s m args below meth c H locs ls X hR hS hl)
theorem WP.astore_n {T : Th} {μ : Mt} {pc : Nat} {L : List (Nat × Value)} {st : List Value} {M : Mm} {Q : Option Value → Mm → Prop} {k : Fin 4} {i : Nat} {x : Nat} {L2 : List (Nat × Value)} (hd : decode μ.2.2.1 pc = .ok (.astore_n k, 1)) (hi : (k : Nat) = i) (hn : i < μ.2.2.2.1) (hl2 : (i, Value.ref x) :: L.filter (fun q => !(q.1 == i) && !(q.1 + 1 == i && q.2.category == 2)) = L2) (h : WP T μ (pc + 1) L2 st M Q) : WP T μ pc L (.ref x :: st) M Q := fun p e s m args below meth c H locs ls X hR hS hl => lv_astore_n X.1 X.2.1 hd hi hl hn hl2 (fun ls hl => h p e s m args below meth c H locs ls X hR hS hl)
theorem WP.astore {T : Th} {μ : Mt} {pc : Nat} {L : List (Nat × Value)} {st : List Value} {M : Mm} {Q : Option Value → Mm → Prop} {i : Nat} {x : Nat} {L2 : List (Nat × Value)} (hd : decode μ.2.2.1 pc = .ok (.astore i, 2)) (hn : i < μ.2.2.2.1) (hl2 : (i, Value.ref x) :: L.filter (fun q => !(q.1 == i) && !(q.1 + 1 == i && q.2.category == 2)) = L2) (h : WP T μ (pc + 2) L2 st M Q) : WP T μ pc L (.ref x :: st) M Q := fun p e s m args below meth c H locs ls X hR hS hl => lv_astore X.1 X.2.1 hd hl hn hl2 (fun ls hl => h p e s m args below meth c H locs ls X hR hS hl)
theorem WP.lstore_n {T : Th} {μ : Mt} {pc : Nat} {L : List (Nat × Value)} {st : List Value} {M : Mm} {Q : Option Value → Mm → Prop} {k : Fin 4} {i : Nat} {x : Int64} {L2 : List (Nat × Value)} (hd : decode μ.2.2.1 pc = .ok (.lstore_n k, 1)) (hi : (k : Nat) = i) (hn : i + 1 < μ.2.2.2.1) (hl2 : (i, Value.long x) :: L.filter (fun q => !(q.1 == i) && (!(q.1 == i + 1) && !(q.1 + 1 == i && q.2.category == 2))) = L2) (h : WP T μ (pc + 1) L2 st M Q) : WP T μ pc L (.long x :: st) M Q := fun p e s m args below meth c H locs ls X hR hS hl => lv_lstore_n X.1 X.2.1 hd hi hl hn hl2 (fun ls hl => h p e s m args below meth c H locs ls X hR hS hl)
theorem WP.lstore {T : Th} {μ : Mt} {pc : Nat} {L : List (Nat × Value)} {st : List Value} {M : Mm} {Q : Option Value → Mm → Prop} {i : Nat} {x : Int64} {L2 : List (Nat × Value)} (hd : decode μ.2.2.1 pc = .ok (.lstore i, 2)) (hn : i + 1 < μ.2.2.2.1) (hl2 : (i, Value.long x) :: L.filter (fun q => !(q.1 == i) && (!(q.1 == i + 1) && !(q.1 + 1 == i && q.2.category == 2))) = L2) (h : WP T μ (pc + 2) L2 st M Q) : WP T μ pc L (.long x :: st) M Q := fun p e s m args below meth c H locs ls X hR hS hl => lv_lstore X.1 X.2.1 hd hl hn hl2 (fun ls hl => h p e s m args below meth c H locs ls X hR hS hl)
theorem WP.iinc {T : Th} {μ : Mt} {pc : Nat} {L : List (Nat × Value)} {st : List Value} {M : Mm} {Q : Option Value → Mm → Prop} {i : Nat} {n : Int} {x v : Int32} {L2 : List (Nat × Value)} (j : Nat) (hd : decode μ.2.2.1 pc = .ok (.iinc i n, 3)) (hj : L[j]? = some (i, .int x)) (hv : x + Int32.ofInt n = v) (hn : i < μ.2.2.2.1) (hl2 : (i, Value.int v) :: L.filter (fun q => !(q.1 == i) && !(q.1 + 1 == i && q.2.category == 2)) = L2) (h : WP T μ (pc + 3) L2 st M Q) : WP T μ pc L st M Q := fun p e s m args below meth c H locs ls X hR hS hl => lv_iinc X.1 X.2.1 hd hl hj hv hn hl2 (fun ls hl => h p e s m args below meth c H locs ls X hR hS hl)
theorem WP.sub {T : Th} {μ : Mt} {pc : Nat} {L : List (Nat × Value)} {st : List Value} {M : Mm} {Q : Option Value → Mm → Prop} {L2 : List (Nat × Value)} (ks : List Nat) (hk : lv_pick L ks = L2) (h : WP T μ pc L2 st M Q) : WP T μ pc L st M Q := fun p e s m args below meth c H locs ls X hR hS hl => h p e s m args below meth c H locs ls X hR hS (lv_sub hl ks hk)
theorem WP.iadd {T : Th} {μ : Mt} {pc : Nat} {L : List (Nat × Value)} {st : List Value} {M : Mm} {Q : Option Value → Mm → Prop} {x y : Int32} (hd : decode μ.2.2.1 pc = .ok (.iadd, 1)) (h : WP T μ (pc + 1) L (.int (x + y) :: st) M Q) : WP T μ pc L (.int y :: .int x :: st) M Q := fun p e s m args below meth c H locs ls X hR hS hl => lv_iadd X.1 X.2.1 hd (h p e s m args below meth c H locs ls X hR hS hl)
theorem WP.isub {T : Th} {μ : Mt} {pc : Nat} {L : List (Nat × Value)} {st : List Value} {M : Mm} {Q : Option Value → Mm → Prop} {x y : Int32} (hd : decode μ.2.2.1 pc = .ok (.isub, 1)) (h : WP T μ (pc + 1) L (.int (x - y) :: st) M Q) : WP T μ pc L (.int y :: .int x :: st) M Q := fun p e s m args below meth c H locs ls X hR hS hl => lv_isub X.1 X.2.1 hd (h p e s m args below meth c H locs ls X hR hS hl)
theorem WP.imul {T : Th} {μ : Mt} {pc : Nat} {L : List (Nat × Value)} {st : List Value} {M : Mm} {Q : Option Value → Mm → Prop} {x y : Int32} (hd : decode μ.2.2.1 pc = .ok (.imul, 1)) (h : WP T μ (pc + 1) L (.int (x * y) :: st) M Q) : WP T μ pc L (.int y :: .int x :: st) M Q := fun p e s m args below meth c H locs ls X hR hS hl => lv_imul X.1 X.2.1 hd (h p e s m args below meth c H locs ls X hR hS hl)
theorem WP.iand {T : Th} {μ : Mt} {pc : Nat} {L : List (Nat × Value)} {st : List Value} {M : Mm} {Q : Option Value → Mm → Prop} {x y : Int32} (hd : decode μ.2.2.1 pc = .ok (.iand, 1)) (h : WP T μ (pc + 1) L (.int (x &&& y) :: st) M Q) : WP T μ pc L (.int y :: .int x :: st) M Q := fun p e s m args below meth c H locs ls X hR hS hl => lv_iand X.1 X.2.1 hd (h p e s m args below meth c H locs ls X hR hS hl)
theorem WP.ior {T : Th} {μ : Mt} {pc : Nat} {L : List (Nat × Value)} {st : List Value} {M : Mm} {Q : Option Value → Mm → Prop} {x y : Int32} (hd : decode μ.2.2.1 pc = .ok (.ior, 1)) (h : WP T μ (pc + 1) L (.int (x ||| y) :: st) M Q) : WP T μ pc L (.int y :: .int x :: st) M Q := fun p e s m args below meth c H locs ls X hR hS hl => lv_ior X.1 X.2.1 hd (h p e s m args below meth c H locs ls X hR hS hl)
theorem WP.ixor {T : Th} {μ : Mt} {pc : Nat} {L : List (Nat × Value)} {st : List Value} {M : Mm} {Q : Option Value → Mm → Prop} {x y : Int32} (hd : decode μ.2.2.1 pc = .ok (.ixor, 1)) (h : WP T μ (pc + 1) L (.int (x ^^^ y) :: st) M Q) : WP T μ pc L (.int y :: .int x :: st) M Q := fun p e s m args below meth c H locs ls X hR hS hl => lv_ixor X.1 X.2.1 hd (h p e s m args below meth c H locs ls X hR hS hl)
theorem WP.ishl {T : Th} {μ : Mt} {pc : Nat} {L : List (Nat × Value)} {st : List Value} {M : Mm} {Q : Option Value → Mm → Prop} {x y : Int32} (hd : decode μ.2.2.1 pc = .ok (.ishl, 1)) (h : WP T μ (pc + 1) L (.int (x <<< (y &&& 31)) :: st) M Q) : WP T μ pc L (.int y :: .int x :: st) M Q := fun p e s m args below meth c H locs ls X hR hS hl => lv_ishl X.1 X.2.1 hd (h p e s m args below meth c H locs ls X hR hS hl)
theorem WP.ishr {T : Th} {μ : Mt} {pc : Nat} {L : List (Nat × Value)} {st : List Value} {M : Mm} {Q : Option Value → Mm → Prop} {x y : Int32} (hd : decode μ.2.2.1 pc = .ok (.ishr, 1)) (h : WP T μ (pc + 1) L (.int (x >>> (y &&& 31)) :: st) M Q) : WP T μ pc L (.int y :: .int x :: st) M Q := fun p e s m args below meth c H locs ls X hR hS hl => lv_ishr X.1 X.2.1 hd (h p e s m args below meth c H locs ls X hR hS hl)
theorem WP.iushr {T : Th} {μ : Mt} {pc : Nat} {L : List (Nat × Value)} {st : List Value} {M : Mm} {Q : Option Value → Mm → Prop} {x y : Int32} (hd : decode μ.2.2.1 pc = .ok (.iushr, 1)) (h : WP T μ (pc + 1) L (.int (x.toUInt32 >>> (y.toUInt32 &&& Int32.toUInt32 31)).toInt32 :: st) M Q) : WP T μ pc L (.int y :: .int x :: st) M Q := fun p e s m args below meth c H locs ls X hR hS hl => lv_iushr X.1 X.2.1 hd rfl (h p e s m args below meth c H locs ls X hR hS hl)
theorem WP.ineg {T : Th} {μ : Mt} {pc : Nat} {L : List (Nat × Value)} {st : List Value} {M : Mm} {Q : Option Value → Mm → Prop} {x : Int32} (hd : decode μ.2.2.1 pc = .ok (.ineg, 1)) (h : WP T μ (pc + 1) L (.int (-x) :: st) M Q) : WP T μ pc L (.int x :: st) M Q := fun p e s m args below meth c H locs ls X hR hS hl => lv_ineg X.1 X.2.1 hd (h p e s m args below meth c H locs ls X hR hS hl)
theorem WP.idiv {T : Th} {μ : Mt} {pc : Nat} {L : List (Nat × Value)} {st : List Value} {M : Mm} {Q : Option Value → Mm → Prop} {x y : Int32} (hd : decode μ.2.2.1 pc = .ok (.idiv, 1)) (hne : ¬ y = 0) (h : WP T μ (pc + 1) L (.int (x / y) :: st) M Q) : WP T μ pc L (.int y :: .int x :: st) M Q := fun p e s m args below meth c H locs ls X hR hS hl => lv_idiv X.1 X.2.1 hd hne (h p e s m args below meth c H locs ls X hR hS hl)
theorem WP.irem {T : Th} {μ : Mt} {pc : Nat} {L : List (Nat × Value)} {st : List Value} {M : Mm} {Q : Option Value → Mm → Prop} {x y : Int32} (hd : decode μ.2.2.1 pc = .ok (.irem, 1)) (hne : ¬ y = 0) (h : WP T μ (pc + 1) L (.int (x - x / y * y) :: st) M Q) : WP T μ pc L (.int y :: .int x :: st) M Q := fun p e s m args below meth c H locs ls X hR hS hl => lv_irem X.1 X.2.1 hd hne (h p e s m args below meth c H locs ls X hR hS hl)
theorem WP.ladd {T : Th} {μ : Mt} {pc : Nat} {L : List (Nat × Value)} {st : List Value} {M : Mm} {Q : Option Value → Mm → Prop} {x y : Int64} (hd : decode μ.2.2.1 pc = .ok (.ladd, 1)) (h : WP T μ (pc + 1) L (.long (x + y) :: st) M Q) : WP T μ pc L (.long y :: .long x :: st) M Q := fun p e s m args below meth c H locs ls X hR hS hl => lv_ladd X.1 X.2.1 hd (h p e s m args below meth c H locs ls X hR hS hl)
theorem WP.lmul {T : Th} {μ : Mt} {pc : Nat} {L : List (Nat × Value)} {st : List Value} {M : Mm} {Q : Option Value → Mm → Prop} {x y : Int64} (hd : decode μ.2.2.1 pc = .ok (.lmul, 1)) (h : WP T μ (pc + 1) L (.long (x * y) :: st) M Q) : WP T μ pc L (.long y :: .long x :: st) M Q := fun p e s m args below meth c H locs ls X hR hS hl => lv_lmul X.1 X.2.1 hd (h p e s m args below meth c H locs ls X hR hS hl)
theorem WP.ldiv {T : Th} {μ : Mt} {pc : Nat} {L : List (Nat × Value)} {st : List Value} {M : Mm} {Q : Option Value → Mm → Prop} {x y : Int64} (hd : decode μ.2.2.1 pc = .ok (.ldiv, 1)) (hne : ¬ y = 0) (h : WP T μ (pc + 1) L (.long (x / y) :: st) M Q) : WP T μ pc L (.long y :: .long x :: st) M Q := fun p e s m args below meth c H locs ls X hR hS hl => lv_ldiv X.1 X.2.1 hd hne (h p e s m args below meth c H locs ls X hR hS hl)
theorem WP.lrem {T : Th} {μ : Mt} {pc : Nat} {L : List (Nat × Value)} {st : List Value} {M : Mm} {Q : Option Value → Mm → Prop} {x y : Int64} (hd : decode μ.2.2.1 pc = .ok (.lrem, 1)) (hne : ¬ y = 0) (h : WP T μ (pc + 1) L (.long (x - x / y * y) :: st) M Q) : WP T μ pc L (.long y :: .long x :: st) M Q := fun p e s m args below meth c H locs ls X hR hS hl => lv_lrem X.1 X.2.1 hd hne (h p e s m args below meth c H locs ls X hR hS hl)
theorem WP.i2l {T : Th} {μ : Mt} {pc : Nat} {L : List (Nat × Value)} {st : List Value} {M : Mm} {Q : Option Value → Mm → Prop} {x : Int32} (hd : decode μ.2.2.1 pc = .ok (.i2l, 1)) (h : WP T μ (pc + 1) L (.long x.toInt64 :: st) M Q) : WP T μ pc L (.int x :: st) M Q := fun p e s m args below meth c H locs ls X hR hS hl => lv_i2l X.1 X.2.1 hd rfl (h p e s m args below meth c H locs ls X hR hS hl)
theorem WP.i2b {T : Th} {μ : Mt} {pc : Nat} {L : List (Nat × Value)} {st : List Value} {M : Mm} {Q : Option Value → Mm → Prop} {x : Int32} (hd : decode μ.2.2.1 pc = .ok (.i2b, 1)) (h : WP T μ (pc + 1) L (.int x.toInt8.toInt32 :: st) M Q) : WP T μ pc L (.int x :: st) M Q := fun p e s m args below meth c H locs ls X hR hS hl => lv_i2b X.1 X.2.1 hd rfl (h p e s m args below meth c H locs ls X hR hS hl)
theorem WP.lcmp {T : Th} {μ : Mt} {pc : Nat} {L : List (Nat × Value)} {st : List Value} {M : Mm} {Q : Option Value → Mm → Prop} {x y : Int64} (hd : decode μ.2.2.1 pc = .ok (.lcmp, 1)) (h : WP T μ (pc + 1) L (.int (lg_cmp x y) :: st) M Q) : WP T μ pc L (.long y :: .long x :: st) M Q := fun p e s m args below meth c H locs ls X hR hS hl => W.lcmp X.1 X.2.1 hd (h p e s m args below meth c H locs ls X hR hS hl)
theorem WP.dup {T : Th} {μ : Mt} {pc : Nat} {L : List (Nat × Value)} {st : List Value} {M : Mm} {Q : Option Value → Mm → Prop} {v : Value} (hd : decode μ.2.2.1 pc = .ok (.dup, 1)) (hv : v.category = 1) (h : WP T μ (pc + 1) L (v :: v :: st) M Q) : WP T μ pc L (v :: st) M Q := fun p e s m args below meth c H locs ls X hR hS hl => lv_dup X.1 X.2.1 hd hv (h p e s m args below meth c H locs ls X hR hS hl)
theorem WP.pop {T : Th} {μ : Mt} {pc : Nat} {L : List (Nat × Value)} {st : List Value} {M : Mm} {Q : Option Value → Mm → Prop} {v : Value} (hd : decode μ.2.2.1 pc = .ok (.pop, 1)) (hv : v.category = 1) (h : WP T μ (pc + 1) L st M Q) : WP T μ pc L (v :: st) M Q := fun p e s m args below meth c H locs ls X hR hS hl => lv_pop X.1 X.2.1 hd hv (h p e s m args below meth c H locs ls X hR hS hl)
theorem WP.dup2 {T : Th} {μ : Mt} {pc : Nat} {L : List (Nat × Value)} {st : List Value} {M : Mm} {Q : Option Value → Mm → Prop} {v w : Value} (hd : decode μ.2.2.1 pc = .ok (.dup2, 1)) (hv : v.category = 1) (hw : w.category = 1) (h : WP T μ (pc + 1) L (v :: w :: v :: w :: st) M Q) : WP T μ pc L (v :: w :: st) M Q := fun p e s m args below meth c H locs ls X hR hS hl => lv_dup2_11 X.1 X.2.1 hd hv hw (h p e s m args below meth c H locs ls X hR hS hl)
theorem WP.goto {T : Th} {μ : Mt} {pc : Nat} {L : List (Nat × Value)} {st : List Value} {M : Mm} {Q : Option Value → Mm → Prop} {off : Int} {tgt : Nat} (hd : decode μ.2.2.1 pc = .ok (.goto off, 3)) (ht : (pc : Int) + off = (tgt : Int)) (h : WP T μ tgt L st M Q) : WP T μ pc L st M Q := fun p e s m args below meth c H locs ls X hR hS hl => lv_goto X.1 X.2.1 hd ht (h p e s m args below meth c H locs ls X hR hS hl)
theorem WP.icmp_eq {T : Th} {μ : Mt} {pc : Nat} {L : List (Nat × Value)} {st : List Value} {M : Mm} {Q : Option Value → Mm → Prop} {x y : Int32} {off : Int} {tgt : Nat} (hd : decode μ.2.2.1 pc = .ok (.if_icmp .eq off, 3)) (ht : (pc : Int) + off = (tgt : Int)) (h1 : x = y → WP T μ tgt L st M Q) (h2 : ¬ x = y → WP T μ (pc + 3) L st M Q) : WP T μ pc L (.int y :: .int x :: st) M Q := fun p e s m args below meth c H locs ls X hR hS hl => lv_icmp_eq X.1 X.2.1 hd ht (fun z => h1 z p e s m args below meth c H locs ls X hR hS hl) (fun z => h2 z p e s m args below meth c H locs ls X hR hS hl)
theorem WP.if_eq {T : Th} {μ : Mt} {pc : Nat} {L : List (Nat × Value)} {st : List Value} {M : Mm} {Q : Option Value → Mm → Prop} {x : Int32} {off : Int} {tgt : Nat} (hd : decode μ.2.2.1 pc = .ok (.ifCond .eq off, 3)) (ht : (pc : Int) + off = (tgt : Int)) (h1 : x = 0 → WP T μ tgt L st M Q) (h2 : ¬ x = 0 → WP T μ (pc + 3) L st M Q) : WP T μ pc L (.int x :: st) M Q := fun p e s m args below meth c H locs ls X hR hS hl => lv_if_eq X.1 X.2.1 hd ht (fun z => h1 z p e s m args below meth c H locs ls X hR hS hl) (fun z => h2 z p e s m args below meth c H locs ls X hR hS hl)
theorem WP.icmp_ne {T : Th} {μ : Mt} {pc : Nat} {L : List (Nat × Value)} {st : List Value} {M : Mm} {Q : Option Value → Mm → Prop} {x y : Int32} {off : Int} {tgt : Nat} (hd : decode μ.2.2.1 pc = .ok (.if_icmp .ne off, 3)) (ht : (pc : Int) + off = (tgt : Int)) (h1 : ¬ x = y → WP T μ tgt L st M Q) (h2 : x = y → WP T μ (pc + 3) L st M Q) : WP T μ pc L (.int y :: .int x :: st) M Q := fun p e s m args below meth c H locs ls X hR hS hl => lv_icmp_ne X.1 X.2.1 hd ht (fun z => h1 z p e s m args below meth c H locs ls X hR hS hl) (fun z => h2 z p e s m args below meth c H locs ls X hR hS hl)
theorem WP.if_ne {T : Th} {μ : Mt} {pc : Nat} {L : List (Nat × Value)} {st : List Value} {M : Mm} {Q : Option Value → Mm → Prop} {x : Int32} {off : Int} {tgt : Nat} (hd : decode μ.2.2.1 pc = .ok (.ifCond .ne off, 3)) (ht : (pc : Int) + off = (tgt : Int)) (h1 : ¬ x = 0 → WP T μ tgt L st M Q) (h2 : x = 0 → WP T μ (pc + 3) L st M Q) : WP T μ pc L (.int x :: st) M Q := fun p e s m args below meth c H locs ls X hR hS hl => lv_if_ne X.1 X.2.1 hd ht (fun z => h1 z p e s m args below meth c H locs ls X hR hS hl) (fun z => h2 z p e s m args below meth c H locs ls X hR hS hl)
theorem WP.icmp_lt {T : Th} {μ : Mt} {pc : Nat} {L : List (Nat × Value)} {st : List Value} {M : Mm} {Q : Option Value → Mm → Prop} {x y : Int32} {off : Int} {tgt : Nat} (hd : decode μ.2.2.1 pc = .ok (.if_icmp .lt off, 3)) (ht : (pc : Int) + off = (tgt : Int)) (h1 : x < y → WP T μ tgt L st M Q) (h2 : ¬ x < y → WP T μ (pc + 3) L st M Q) : WP T μ pc L (.int y :: .int x :: st) M Q := fun p e s m args below meth c H locs ls X hR hS hl => lv_icmp_lt X.1 X.2.1 hd ht (fun z => h1 z p e s m args below meth c H locs ls X hR hS hl) (fun z => h2 z p e s m args below meth c H locs ls X hR hS hl)
theorem WP.if_lt {T : Th} {μ : Mt} {pc : Nat} {L : List (Nat × Value)} {st : List Value} {M : Mm} {Q : Option Value → Mm → Prop} {x : Int32} {off : Int} {tgt : Nat} (hd : decode μ.2.2.1 pc = .ok (.ifCond .lt off, 3)) (ht : (pc : Int) + off = (tgt : Int)) (h1 : x < 0 → WP T μ tgt L st M Q) (h2 : ¬ x < 0 → WP T μ (pc + 3) L st M Q) : WP T μ pc L (.int x :: st) M Q := fun p e s m args below meth c H locs ls X hR hS hl => lv_if_lt X.1 X.2.1 hd ht (fun z => h1 z p e s m args below meth c H locs ls X hR hS hl) (fun z => h2 z p e s m args below meth c H locs ls X hR hS hl)
theorem WP.icmp_ge {T : Th} {μ : Mt} {pc : Nat} {L : List (Nat × Value)} {st : List Value} {M : Mm} {Q : Option Value → Mm → Prop} {x y : Int32} {off : Int} {tgt : Nat} (hd : decode μ.2.2.1 pc = .ok (.if_icmp .ge off, 3)) (ht : (pc : Int) + off = (tgt : Int)) (h1 : y ≤ x → WP T μ tgt L st M Q) (h2 : ¬ y ≤ x → WP T μ (pc + 3) L st M Q) : WP T μ pc L (.int y :: .int x :: st) M Q := fun p e s m args below meth c H locs ls X hR hS hl => lv_icmp_ge X.1 X.2.1 hd ht (fun z => h1 z p e s m args below meth c H locs ls X hR hS hl) (fun z => h2 z p e s m args below meth c H locs ls X hR hS hl)
theorem WP.if_ge {T : Th} {μ : Mt} {pc : Nat} {L : List (Nat × Value)} {st : List Value} {M : Mm} {Q : Option Value → Mm → Prop} {x : Int32} {off : Int} {tgt : Nat} (hd : decode μ.2.2.1 pc = .ok (.ifCond .ge off, 3)) (ht : (pc : Int) + off = (tgt : Int)) (h1 : 0 ≤ x → WP T μ tgt L st M Q) (h2 : ¬ 0 ≤ x → WP T μ (pc + 3) L st M Q) : WP T μ pc L (.int x :: st) M Q := fun p e s m args below meth c H locs ls X hR hS hl => lv_if_ge X.1 X.2.1 hd ht (fun z => h1 z p e s m args below meth c H locs ls X hR hS hl) (fun z => h2 z p e s m args below meth c H locs ls X hR hS hl)
theorem WP.icmp_gt {T : Th} {μ : Mt} {pc : Nat} {L : List (Nat × Value)} {st : List Value} {M : Mm} {Q : Option Value → Mm → Prop} {x y : Int32} {off : Int} {tgt : Nat} (hd : decode μ.2.2.1 pc = .ok (.if_icmp .gt off, 3)) (ht : (pc : Int) + off = (tgt : Int)) (h1 : y < x → WP T μ tgt L st M Q) (h2 : ¬ y < x → WP T μ (pc + 3) L st M Q) : WP T μ pc L (.int y :: .int x :: st) M Q := fun p e s m args below meth c H locs ls X hR hS hl => lv_icmp_gt X.1 X.2.1 hd ht (fun z => h1 z p e s m args below meth c H locs ls X hR hS hl) (fun z => h2 z p e s m args below meth c H locs ls X hR hS hl)
theorem WP.if_gt {T : Th} {μ : Mt} {pc : Nat} {L : List (Nat × Value)} {st : List Value} {M : Mm} {Q : Option Value → Mm → Prop} {x : Int32} {off : Int} {tgt : Nat} (hd : decode μ.2.2.1 pc = .ok (.ifCond .gt off, 3)) (ht : (pc : Int) + off = (tgt : Int)) (h1 : 0 < x → WP T μ tgt L st M Q) (h2 : ¬ 0 < x → WP T μ (pc + 3) L st M Q) : WP T μ pc L (.int x :: st) M Q := fun p e s m args below meth c H locs ls X hR hS hl => lv_if_gt X.1 X.2.1 hd ht (fun z => h1 z p e s m args below meth c H locs ls X hR hS hl) (fun z => h2 z p e s m args below meth c H locs ls X hR hS hl)
theorem WP.icmp_le {T : Th} {μ : Mt} {pc : Nat} {L : List (Nat × Value)} {st : List Value} {M : Mm} {Q : Option Value → Mm → Prop} {x y : Int32} {off : Int} {tgt : Nat} (hd : decode μ.2.2.1 pc = .ok (.if_icmp .le off, 3)) (ht : (pc : Int) + off = (tgt : Int)) (h1 : x ≤ y → WP T μ tgt L st M Q) (h2 : ¬ x ≤ y → WP T μ (pc + 3) L st M Q) : WP T μ pc L (.int y :: .int x :: st) M Q := fun p e s m args below meth c H locs ls X hR hS hl => lv_icmp_le X.1 X.2.1 hd ht (fun z => h1 z p e s m args below meth c H locs ls X hR hS hl) (fun z => h2 z p e s m args below meth c H locs ls X hR hS hl)
theorem WP.if_le {T : Th} {μ : Mt} {pc : Nat} {L : List (Nat × Value)} {st : List Value} {M : Mm} {Q : Option Value → Mm → Prop} {x : Int32} {off : Int} {tgt : Nat} (hd : decode μ.2.2.1 pc = .ok (.ifCond .le off, 3)) (ht : (pc : Int) + off = (tgt : Int)) (h1 : x ≤ 0 → WP T μ tgt L st M Q) (h2 : ¬ x ≤ 0 → WP T μ (pc + 3) L st M Q) : WP T μ pc L (.int x :: st) M Q := fun p e s m args below meth c H locs ls X hR hS hl => lv_if_le X.1 X.2.1 hd ht (fun z => h1 z p e s m args below meth c H locs ls X hR hS hl) (fun z => h2 z p e s m args below meth c H locs ls X hR hS hl)
theorem WP.ifnull {T : Th} {μ : Mt} {pc : Nat} {L : List (Nat × Value)} {st : List Value} {M : Mm} {Q : Option Value → Mm → Prop} {x : Nat} {off : Int} (hd : decode μ.2.2.1 pc = .ok (.ifnull off, 3)) (h : WP T μ (pc + 3) L st M Q) : WP T μ pc L (.ref x :: st) M Q := fun p e s m args below meth c H locs ls X hR hS hl => lv_ifnull X.1 X.2.1 hd (h p e s m args below meth c H locs ls X hR hS hl)
theorem WP.ifnonnull {T : Th} {μ : Mt} {pc : Nat} {L : List (Nat × Value)} {st : List Value} {M : Mm} {Q : Option Value → Mm → Prop} {x : Nat} {off : Int} {tgt : Nat} (hd : decode μ.2.2.1 pc = .ok (.ifnonnull off, 3)) (ht : (pc : Int) + off = (tgt : Int)) (h : WP T μ tgt L st M Q) : WP T μ pc L (.ref x :: st) M Q := fun p e s m args below meth c H locs ls X hR hS hl => lv_ifnonnull X.1 X.2.1 hd ht (h p e s m args below meth c H locs ls X hR hS hl)
theorem WP.tabIn {T : Th} {μ : Mt} {pc : Nat} {L : List (Nat × Value)} {st : List Value} {M : Mm} {Q : Option Value → Mm → Prop} {dflt lo hi : Int} {offs : Array Int} {len : Nat} {x : Int32} {off : Int} {tgt : Nat} (hd : decode μ.2.2.1 pc = .ok (.tableswitch dflt lo hi offs, len)) (h1 : ¬ x.toInt < lo) (h2 : ¬ hi < x.toInt) (ho : offs[(x.toInt - lo).toNat]? = some off) (ht : (pc : Int) + off = (tgt : Int)) (h : WP T μ tgt L st M Q) : WP T μ pc L (.int x :: st) M Q := fun p e s m args below meth c H locs ls X hR hS hl => lv_tableIn X.1 X.2.1 hd h1 h2 ho ht (h p e s m args below meth c H locs ls X hR hS hl)
theorem WP.tabOut {T : Th} {μ : Mt} {pc : Nat} {L : List (Nat × Value)} {st : List Value} {M : Mm} {Q : Option Value → Mm → Prop} {dflt lo hi : Int} {offs : Array Int} {len : Nat} {x : Int32} {tgt : Nat} (hd : decode μ.2.2.1 pc = .ok (.tableswitch dflt lo hi offs, len)) (h1 : x.toInt < lo ∨ hi < x.toInt) (ht : (pc : Int) + dflt = (tgt : Int)) (h : WP T μ tgt L st M Q) : WP T μ pc L (.int x :: st) M Q := fun p e s m args below meth c H locs ls X hR hS hl => lv_tableOut X.1 X.2.1 hd h1 ht (h p e s m args below meth c H locs ls X hR hS hl)
theorem WP.mmax {T : Th} {μ : Mt} {pc : Nat} {L : List (Nat × Value)} {st : List Value} {M : Mm} {Q : Option Value → Mm → Prop} {k : Nat} {x y : Int32} (hw : Cond.methodLink μ.1 k Lib.Math.max.name ∈ wsA ∧ Cond.static Lib.Math.max.name ∈ wsA ∧ Cond.initialized "java/lang/Math" ∈ wsA ∧ Cond.code Lib.Math.max.name Lib.Math.max.code 2 (some .int) ∈ wsA) (hf : 1 ≤ (mRm μ).frames) (hlo : (st.map fun v => v.category).sum + 13 ≤ (mRm μ).locals) (hd : decode μ.2.2.1 pc = .ok (.invokestatic k, 3)) (h : WP T μ (pc + 3) L (.int (if x < y then y else x) :: st) M Q) : WP T μ pc L (.int y :: .int x :: st) M Q := fun p e s m args below meth c H locs ls X hR hS hl => va_mmax X.1 X.2.1 (X.2.2.2.1.trans hl.1.symm) X.2.2.2.2.1 (X.2.2.2.2.2.1 _ hw.1) (X.2.2.2.2.2.1 _ hw.2.1) (X.2.2.2.2.2.1 _ hw.2.2.1) (X.2.2.2.2.2.1 _ hw.2.2.2) hf hlo (Nat.zero_le _) (Nat.zero_le _) hd (h p e s m args below meth c H locs ls X hR hS hl)
theorem WP.mmin {T : Th} {μ : Mt} {pc : Nat} {L : List (Nat × Value)} {st : List Value} {M : Mm} {Q : Option Value → Mm → Prop} {k : Nat} {x y : Int32} (hw : Cond.methodLink μ.1 k Lib.Math.min.name ∈ wsA ∧ Cond.static Lib.Math.min.name ∈ wsA ∧ Cond.initialized "java/lang/Math" ∈ wsA ∧ Cond.code Lib.Math.min.name Lib.Math.min.code 2 (some .int) ∈ wsA) (hf : 1 ≤ (mRm μ).frames) (hlo : (st.map fun v => v.category).sum + 13 ≤ (mRm μ).locals) (hd : decode μ.2.2.1 pc = .ok (.invokestatic k, 3)) (h : WP T μ (pc + 3) L (.int (if y < x then y else x) :: st) M Q) : WP T μ pc L (.int y :: .int x :: st) M Q := fun p e s m args below meth c H locs ls X hR hS hl => va_mmin X.1 X.2.1 (X.2.2.2.1.trans hl.1.symm) X.2.2.2.2.1 (X.2.2.2.2.2.1 _ hw.1) (X.2.2.2.2.2.1 _ hw.2.1) (X.2.2.2.2.2.1 _ hw.2.2.1) (X.2.2.2.2.2.1 _ hw.2.2.2) hf hlo (Nat.zero_le _) (Nat.zero_le _) hd (h p e s m args below meth c H locs ls X hR hS hl)
theorem WP.mmaxl {T : Th} {μ : Mt} {pc : Nat} {L : List (Nat × Value)} {st : List Value} {M : Mm} {Q : Option Value → Mm → Prop} {k : Nat} {x y : Int64} (hw : Cond.methodLink μ.1 k Lib.MathLoose.max_long.x ∈ wsA ∧ Cond.static Lib.MathLoose.max_long.x ∈ wsA ∧ Cond.initialized "java/lang/Math" ∈ wsA ∧ Cond.code Lib.MathLoose.max_long.x Lib.MathLoose.max_long.code 4 (some .long) ∈ wsA) (hf : 1 ≤ (mRm μ).frames) (hlo : (st.map fun v => v.category).sum + 15 ≤ (mRm μ).locals) (hd : decode μ.2.2.1 pc = .ok (.invokestatic k, 3)) (h : WP T μ (pc + 3) L (.long (if y < x then x else y) :: st) M Q) : WP T μ pc L (.long y :: .long x :: st) M Q := fun p e s m args below meth c H locs ls X hR hS hl => va_mmax_long X.1 X.2.1 (X.2.2.2.1.trans hl.1.symm) X.2.2.2.2.1 (X.2.2.2.2.2.1 _ hw.1) (X.2.2.2.2.2.1 _ hw.2.1) (X.2.2.2.2.2.1 _ hw.2.2.1) (X.2.2.2.2.2.1 _ hw.2.2.2) hf hlo (Nat.zero_le _) (Nat.zero_le _) hd (h p e s m args below meth c H locs ls X hR hS hl)
theorem WP.topi {T : Th} {μ : Mt} {pc : Nat} {L : List (Nat × Value)} {st : List Value} {M : Mm} {Q : Option Value → Mm → Prop} {x : Int32} (h : ∀ y : Int32, y = x → WP T μ pc L (.int y :: st) M Q) : WP T μ pc L (.int x :: st) M Q := h x rfl
theorem WP.topl {T : Th} {μ : Mt} {pc : Nat} {L : List (Nat × Value)} {st : List Value} {M : Mm} {Q : Option Value → Mm → Prop} {x : Int64} (h : ∀ y : Int64, y = x → WP T μ pc L (.long y :: st) M Q) : WP T μ pc L (.long x :: st) M Q := h x rfl
theorem WP.iret {T : Th} {μ : Mt} {pc : Nat} {L : List (Nat × Value)} {st : List Value} {M : Mm} {Q : Option Value → Mm → Prop} {x : Int32} (hr : μ.2.2.2.2.1 = some .int) (hd : decode μ.2.2.1 pc = .ok (.ireturn, 1)) (h : Q (some (.int x)) M) : WP T μ pc L [.int x] M Q := by
  intro p e s m args below meth c H locs ls X hR hS hl
  have hlocks : meth.locks = false := X.2.2.2.2.2.2.1
  exact W.iret X.1 X.2.1 (X.2.2.1.trans hr) (fun t ht hW => ⟨⟨_, M, rfl, h, by rw [ht]; exact hR, va_K.moved hW.alike X.2.2.2.2.2.2.2⟩, hS.F ht⟩) hS.2.2 hd
theorem WP.zret {T : Th} {μ : Mt} {pc : Nat} {L : List (Nat × Value)} {st : List Value} {M : Mm} {Q : Option Value → Mm → Prop} {x : Int32} (hr : μ.2.2.2.2.1 = some .boolean) (hv : x = 0 ∨ x = 1) (hd : decode μ.2.2.1 pc = .ok (.ireturn, 1)) (h : Q (some (.int x)) M) : WP T μ pc L [.int x] M Q := by
  intro p e s m args below meth c H locs ls X hR hS hl
  have hlocks : meth.locks = false := X.2.2.2.2.2.2.1
  exact W.zret X.1 X.2.1 (X.2.2.1.trans hr) (by rcases hv with h9 | h9 <;> subst h9 <;> decide) (fun t ht hW => ⟨⟨_, M, rfl, h, by rw [ht]; exact hR, va_K.moved hW.alike X.2.2.2.2.2.2.2⟩, hS.F ht⟩) hS.2.2 hd
theorem WP.lret {T : Th} {μ : Mt} {pc : Nat} {L : List (Nat × Value)} {st : List Value} {M : Mm} {Q : Option Value → Mm → Prop} {x : Int64} (hr : μ.2.2.2.2.1 = some .long) (hd : decode μ.2.2.1 pc = .ok (.lreturn, 1)) (h : Q (some (.long x)) M) : WP T μ pc L [.long x] M Q := by
  intro p e s m args below meth c H locs ls X hR hS hl
  have hlocks : meth.locks = false := X.2.2.2.2.2.2.1
  exact W.lret X.1 X.2.1 (X.2.2.1.trans hr) (fun t ht hW => ⟨⟨_, M, rfl, h, by rw [ht]; exact hR, va_K.moved hW.alike X.2.2.2.2.2.2.2⟩, hS.F ht⟩) hS.2.2 hd
theorem WP.vret {T : Th} {μ : Mt} {pc : Nat} {L : List (Nat × Value)} {st : List Value} {M : Mm} {Q : Option Value → Mm → Prop} (hr : μ.2.2.2.2.1 = none) (hd : decode μ.2.2.1 pc = .ok (.return_, 1)) (h : Q none M) : WP T μ pc L [] M Q := by
  intro p e s m args below meth c H locs ls X hR hS hl
  have hlocks : meth.locks = false := X.2.2.2.2.2.2.1
  exact W.vret X.1 X.2.1 (X.2.2.1.trans hr) (fun t ht hW => ⟨⟨_, M, rfl, h, by rw [ht]; exact hR, va_K.moved hW.alike X.2.2.2.2.2.2.2⟩, hS.F ht⟩) hS.2.2 hd
/-- a class's own rows -/
def ClsOK (c : Nat) (C : String) (Tt : u_T) (N : Nat) (ty : Nat → FieldType) : Prop := vwCl[c]? = some (C, Tt, N) ∧ (∀ w ∈ u_ws C Tt N, w ∈ wsA) ∧ (∀ k, k < N → parseFieldDescriptor (Tt k).2.2.1 = some (ty k)) ∧ (∀ a, a < N → ∀ b, b < N → a ≠ b → (Tt a).2.1 ≠ (Tt b).2.1) ∧ nfl c = N
/-- a field as a class's constant pool names it: class number, place, kind of its value -/
def Fld (own : String) (idx c k : Nat) (z : Nat × Nat) (ty0 : FieldType) (fin : Bool) : Prop := ∃ (C : String) (Tt : u_T) (N : Nat) (ty : Nat → FieldType), ClsOK c C Tt N ty ∧ k < N ∧ fkd c k = z ∧ Cond.fieldLink own idx (Tt k).1 (Tt k).2.1 (Tt k).2.2.1 ∈ wsA ∧ ty k = ty0 ∧ (Tt k).2.2.2 = fin
theorem WP.getI {T : Th} {μ : Mt} {pc : Nat} {L : List (Nat × Value)} {st : List Value} {M : Mm} {Q : Option Value → Mm → Prop} {idx cn k a o : Nat} {ty0 : FieldType} {fin : Bool} (hf : Fld μ.1 idx cn k (0, 0) ty0 fin) (hO : Ob T a (0, cn)) (hd : decode μ.2.2.1 pc = .ok (.getfield idx, 3)) (h : WP T μ (pc + 3) L (.int (M.1 a k) :: st) M Q) : WP T μ pc L (.ref a :: st) M Q := by
  intro p e s m args below meth c H locs ls X hR hS hl
  obtain ⟨C, Tt, N, ty, ⟨hc1, hc2, hc3, hc4, hc5⟩, hk, hz, hw, -, -⟩ := hf
  obtain ⟨q, hget⟩ := wl_get (M := M) hO
  rw [cell_obj hO] at hget
  exact va_get (v := .int (M.1 a k)) X.1 X.2.1 X.2.2.2.2.2.1 hc2 X.2.2.2.2.1 X.2.2.2.2.2.2.2 hR q hget hc1 k hk (X.2.2.2.2.2.1 _ hw) (fun _ h9 => h9) (by rw [List.getElem?_map, List.getElem?_range (by rw [hc5]; exact hk)]; exact congrArg some (fv_i hz)) hd (h p e s m args below meth c H locs ls X hR hS hl)
theorem WP.getL {T : Th} {μ : Mt} {pc : Nat} {L : List (Nat × Value)} {st : List Value} {M : Mm} {Q : Option Value → Mm → Prop} {idx cn k a o : Nat} {ty0 : FieldType} {fin : Bool} (hf : Fld μ.1 idx cn k (1, 0) ty0 fin) (hO : Ob T a (0, cn)) (hd : decode μ.2.2.1 pc = .ok (.getfield idx, 3)) (h : WP T μ (pc + 3) L (.long (M.2.1 a k) :: st) M Q) : WP T μ pc L (.ref a :: st) M Q := by
  intro p e s m args below meth c H locs ls X hR hS hl
  obtain ⟨C, Tt, N, ty, ⟨hc1, hc2, hc3, hc4, hc5⟩, hk, hz, hw, -, -⟩ := hf
  obtain ⟨q, hget⟩ := wl_get (M := M) hO
  rw [cell_obj hO] at hget
  exact va_get (v := .long (M.2.1 a k)) X.1 X.2.1 X.2.2.2.2.2.1 hc2 X.2.2.2.2.1 X.2.2.2.2.2.2.2 hR q hget hc1 k hk (X.2.2.2.2.2.1 _ hw) (fun _ h9 => h9) (by rw [List.getElem?_map, List.getElem?_range (by rw [hc5]; exact hk)]; exact congrArg some (fv_l hz)) hd (h p e s m args below meth c H locs ls X hR hS hl)
theorem WP.getF {T : Th} {μ : Mt} {pc : Nat} {L : List (Nat × Value)} {st : List Value} {M : Mm} {Q : Option Value → Mm → Prop} {idx cn k a o : Nat} {ty0 : FieldType} {fin : Bool} (hf : Fld μ.1 idx cn k (2, o) ty0 fin) (hO : Ob T a (0, cn)) (hd : decode μ.2.2.1 pc = .ok (.getfield idx, 3)) (h : WP T μ (pc + 3) L (.ref (a + o) :: st) M Q) : WP T μ pc L (.ref a :: st) M Q := by
  intro p e s m args below meth c H locs ls X hR hS hl
  obtain ⟨C, Tt, N, ty, ⟨hc1, hc2, hc3, hc4, hc5⟩, hk, hz, hw, -, -⟩ := hf
  obtain ⟨q, hget⟩ := wl_get (M := M) hO
  rw [cell_obj hO] at hget
  exact va_get (v := .ref (a + o)) X.1 X.2.1 X.2.2.2.2.2.1 hc2 X.2.2.2.2.1 X.2.2.2.2.2.2.2 hR q hget hc1 k hk (X.2.2.2.2.2.1 _ hw) (fun _ h9 => h9) (by rw [List.getElem?_map, List.getElem?_range (by rw [hc5]; exact hk)]; exact congrArg some (fv_f hz)) hd (h p e s m args below meth c H locs ls X hR hS hl)
theorem WP.getR {T : Th} {μ : Mt} {pc : Nat} {L : List (Nat × Value)} {st : List Value} {M : Mm} {Q : Option Value → Mm → Prop} {idx cn k a o : Nat} {ty0 : FieldType} {fin : Bool} (hf : Fld μ.1 idx cn k (3, 0) ty0 fin) (hO : Ob T a (0, cn)) (hd : decode μ.2.2.1 pc = .ok (.getfield idx, 3)) (h : WP T μ (pc + 3) L (.ref (M.2.2 a k) :: st) M Q) : WP T μ pc L (.ref a :: st) M Q := by
  intro p e s m args below meth c H locs ls X hR hS hl
  obtain ⟨C, Tt, N, ty, ⟨hc1, hc2, hc3, hc4, hc5⟩, hk, hz, hw, -, -⟩ := hf
  obtain ⟨q, hget⟩ := wl_get (M := M) hO
  rw [cell_obj hO] at hget
  exact va_get (v := .ref (M.2.2 a k)) X.1 X.2.1 X.2.2.2.2.2.1 hc2 X.2.2.2.2.1 X.2.2.2.2.2.2.2 hR q hget hc1 k hk (X.2.2.2.2.2.1 _ hw) (fun _ h9 => h9) (by rw [List.getElem?_map, List.getElem?_range (by rw [hc5]; exact hk)]; exact congrArg some (fv_r hz)) hd (h p e s m args below meth c H locs ls X hR hS hl)
theorem WP.putI {T : Th} {μ : Mt} {pc : Nat} {L : List (Nat × Value)} {st : List Value} {M : Mm} {Q : Option Value → Mm → Prop} {idx cn k a : Nat} {v : Int32} (hf : Fld μ.1 idx cn k (0, 0) .int false) (hO : Ob T a (0, cn)) (hd : decode μ.2.2.1 pc = .ok (.putfield idx, 3)) (h : ∀ M1, M1 = sI M a k v → WP T μ (pc + 3) L st M1 Q) : WP T μ pc L (.int v :: .ref a :: st) M Q := by
  intro p e0 s m args below meth c H locs ls X hR hS hl
  obtain ⟨C, Tt, N, ty, ⟨hc1, hc2, hc3, hc4, hc5⟩, hk, hz, hw, ht, hfin⟩ := hf
  obtain ⟨q, hget0⟩ := wl_get (M := M) hO
  have hget := hget0
  rw [cell_obj hO] at hget
  refine va_put (v := .int v) (ty := .int) X.1 X.2.1 X.2.2.2.2.2.1 hc2 ty hc3 hc4 X.2.2.2.2.1 X.2.2.2.2.2.2.2 hR (wl_D T M) hS q hget hc1 k hk (X.2.2.2.2.2.1 _ hw) (fun _ h9 => h9) hfin (by rw [hc3 k hk, ht]) rfl rfl (by simp; rw [hc5]; exact hk) hd (fun H1 locs1 hP1 hD1 hS1 => ?_)
  have e := wl_set (M' := sI M a k v) (e := .inr (cn, ((List.range (nfl cn)).map (fv M a cn)).set k (.int v))) hO hget0 (by rw [cell_obj hO, flds_set (f := fv M a cn) (g := fv (sI M a k v) a cn) (by rw [fv_i hz]; simp [sI]) (fun j hj => fv_sI hj)]) (fun b hb => cell_sI hb)
  rw [e] at hP1
  exact h _ rfl p e0 s m args below meth c H1 locs1 ls X hP1 hS1 hl
theorem WP.putZ {T : Th} {μ : Mt} {pc : Nat} {L : List (Nat × Value)} {st : List Value} {M : Mm} {Q : Option Value → Mm → Prop} {idx cn k a : Nat} {v : Int32} (hf : Fld μ.1 idx cn k (0, 0) .boolean false) (hO : Ob T a (0, cn)) (hv : v = 0 ∨ v = 1) (hd : decode μ.2.2.1 pc = .ok (.putfield idx, 3)) (h : ∀ M1, M1 = sI M a k v → WP T μ (pc + 3) L st M1 Q) : WP T μ pc L (.int v :: .ref a :: st) M Q := by
  intro p e0 s m args below meth c H locs ls X hR hS hl
  obtain ⟨C, Tt, N, ty, ⟨hc1, hc2, hc3, hc4, hc5⟩, hk, hz, hw, ht, hfin⟩ := hf
  obtain ⟨q, hget0⟩ := wl_get (M := M) hO
  have hget := hget0
  rw [cell_obj hO] at hget
  refine va_put (v := .int v) (ty := .boolean) X.1 X.2.1 X.2.2.2.2.2.1 hc2 ty hc3 hc4 X.2.2.2.2.1 X.2.2.2.2.2.2.2 hR (wl_D T M) hS q hget hc1 k hk (X.2.2.2.2.2.1 _ hw) (fun _ h9 => h9) hfin (by rw [hc3 k hk, ht]) (by rcases hv with h9 | h9 <;> subst h9 <;> decide) (by rcases hv with h9 | h9 <;> subst h9 <;> decide) (by simp; rw [hc5]; exact hk) hd (fun H1 locs1 hP1 hD1 hS1 => ?_)
  have e := wl_set (M' := sI M a k v) (e := .inr (cn, ((List.range (nfl cn)).map (fv M a cn)).set k (.int v))) hO hget0 (by rw [cell_obj hO, flds_set (f := fv M a cn) (g := fv (sI M a k v) a cn) (by rw [fv_i hz]; simp [sI]) (fun j hj => fv_sI hj)]) (fun b hb => cell_sI hb)
  rw [e] at hP1
  exact h _ rfl p e0 s m args below meth c H1 locs1 ls X hP1 hS1 hl
theorem WP.putL {T : Th} {μ : Mt} {pc : Nat} {L : List (Nat × Value)} {st : List Value} {M : Mm} {Q : Option Value → Mm → Prop} {idx cn k a : Nat} {v : Int64} (hf : Fld μ.1 idx cn k (1, 0) .long false) (hO : Ob T a (0, cn)) (hd : decode μ.2.2.1 pc = .ok (.putfield idx, 3)) (h : ∀ M1, M1 = sL M a k v → WP T μ (pc + 3) L st M1 Q) : WP T μ pc L (.long v :: .ref a :: st) M Q := by
  intro p e0 s m args below meth c H locs ls X hR hS hl
  obtain ⟨C, Tt, N, ty, ⟨hc1, hc2, hc3, hc4, hc5⟩, hk, hz, hw, ht, hfin⟩ := hf
  obtain ⟨q, hget0⟩ := wl_get (M := M) hO
  have hget := hget0
  rw [cell_obj hO] at hget
  refine va_put (v := .long v) (ty := .long) X.1 X.2.1 X.2.2.2.2.2.1 hc2 ty hc3 hc4 X.2.2.2.2.1 X.2.2.2.2.2.2.2 hR (wl_D T M) hS q hget hc1 k hk (X.2.2.2.2.2.1 _ hw) (fun _ h9 => h9) hfin (by rw [hc3 k hk, ht]) rfl rfl (by simp; rw [hc5]; exact hk) hd (fun H1 locs1 hP1 hD1 hS1 => ?_)
  have e := wl_set (M' := sL M a k v) (e := .inr (cn, ((List.range (nfl cn)).map (fv M a cn)).set k (.long v))) hO hget0 (by rw [cell_obj hO, flds_set (f := fv M a cn) (g := fv (sL M a k v) a cn) (by rw [fv_l hz]; simp [sL]) (fun j hj => fv_sL hj)]) (fun b hb => cell_sL hb)
  rw [e] at hP1
  exact h _ rfl p e0 s m args below meth c H1 locs1 ls X hP1 hS1 hl
theorem fits_obj0 : True := trivial
theorem WP.putR {T : Th} {μ : Mt} {pc : Nat} {L : List (Nat × Value)} {st : List Value} {M : Mm} {Q : Option Value → Mm → Prop} {idx cn k a v c2 : Nat} {C2 : String} (hf : Fld μ.1 idx cn k (3, 0) (.object C2) false) (hO : Ob T a (0, cn)) (hd : decode μ.2.2.1 pc = .ok (.putfield idx, 3)) (h : ∀ M1, M1 = sR M a k v → WP T μ (pc + 3) L st M1 Q) : WP T μ pc L (.ref v :: .ref a :: st) M Q := by
  intro p e0 s m args below meth c H locs ls X hR hS hl
  obtain ⟨C, Tt, N, ty, ⟨hc1, hc2, hc3, hc4, hc5⟩, hk, hz, hw, ht, hfin⟩ := hf
  obtain ⟨q, hget0⟩ := wl_get (M := M) hO
  have hget := hget0
  rw [cell_obj hO] at hget
  refine va_put (v := .ref v) (ty := .object C2) X.1 X.2.1 X.2.2.2.2.2.1 hc2 ty hc3 hc4 X.2.2.2.2.1 X.2.2.2.2.2.2.2 hR (wl_D T M) hS q hget hc1 k hk (X.2.2.2.2.2.1 _ hw) (fun _ h9 => h9) hfin (by rw [hc3 k hk, ht]) rfl rfl (by simp; rw [hc5]; exact hk) hd (fun H1 locs1 hP1 hD1 hS1 => ?_)
  have e := wl_set (M' := sR M a k v) (e := .inr (cn, ((List.range (nfl cn)).map (fv M a cn)).set k (.ref v))) hO hget0 (by rw [cell_obj hO, flds_set (f := fv M a cn) (g := fv (sR M a k v) a cn) (by rw [fv_r hz]; simp [sR]) (fun j hj => fv_sR hj)]) (fun b hb => cell_sR hb)
  rw [e] at hP1
  exact h _ rfl p e0 s m args below meth c H1 locs1 ls X hP1 hS1 hl
theorem WP.iald {T : Th} {μ : Mt} {pc : Nat} {L : List (Nat × Value)} {st : List Value} {M : Mm} {Q : Option Value → Mm → Prop} {a n : Nat} {i : Int32} (hO : Ob T a (1, n)) (hin : vp_in i n) (hd : decode μ.2.2.1 pc = .ok (.iaload, 1)) (h : WP T μ (pc + 1) L (.int (M.1 a i.toNatClampNeg) :: st) M Q) : WP T μ pc L (.int i :: .ref a :: st) M Q := by
  intro p e s m args below meth c H locs ls X hR hS hl
  obtain ⟨q, hget⟩ := wl_get (M := M) hO
  rw [cell_i hO] at hget
  exact va_iald X.1 X.2.1 X.2.2.2.2.2.2.2 hR q 0 hget rfl hin hd (h p e s m args below meth c H locs ls X hR hS hl)
theorem WP.lald {T : Th} {μ : Mt} {pc : Nat} {L : List (Nat × Value)} {st : List Value} {M : Mm} {Q : Option Value → Mm → Prop} {a n : Nat} {i : Int32} (hO : Ob T a (2, n)) (hin : vp_in i n) (hd : decode μ.2.2.1 pc = .ok (.laload, 1)) (h : WP T μ (pc + 1) L (.long (M.2.1 a i.toNatClampNeg) :: st) M Q) : WP T μ pc L (.int i :: .ref a :: st) M Q := by
  intro p e s m args below meth c H locs ls X hR hS hl
  obtain ⟨q, hget⟩ := wl_get (M := M) hO
  rw [cell_l hO] at hget
  exact va_lald X.1 X.2.1 X.2.2.2.2.2.2.2 hR q 1 hget rfl hin hd (h p e s m args below meth c H locs ls X hR hS hl)
theorem WP.bald {T : Th} {μ : Mt} {pc : Nat} {L : List (Nat × Value)} {st : List Value} {M : Mm} {Q : Option Value → Mm → Prop} {a n : Nat} {i : Int32} (hO : Ob T a (3, n)) (hin : vp_in i n) (hd : decode μ.2.2.1 pc = .ok (.baload, 1)) (h : WP T μ (pc + 1) L (.int (M.1 a i.toNatClampNeg) :: st) M Q) : WP T μ pc L (.int i :: .ref a :: st) M Q := by
  intro p e s m args below meth c H locs ls X hR hS hl
  obtain ⟨q, hget⟩ := wl_get (M := M) hO
  rw [cell_b hO] at hget
  exact va_bald X.1 X.2.1 X.2.2.2.2.2.2.2 hR q 2 hget rfl hin hd (h p e s m args below meth c H locs ls X hR hS hl)
theorem WP.zald {T : Th} {μ : Mt} {pc : Nat} {L : List (Nat × Value)} {st : List Value} {M : Mm} {Q : Option Value → Mm → Prop} {a n : Nat} {i : Int32} (hO : Ob T a (4, n)) (hin : vp_in i n) (hd : decode μ.2.2.1 pc = .ok (.baload, 1)) (h : WP T μ (pc + 1) L (.int (M.1 a i.toNatClampNeg) :: st) M Q) : WP T μ pc L (.int i :: .ref a :: st) M Q := by
  intro p e s m args below meth c H locs ls X hR hS hl
  obtain ⟨q, hget⟩ := wl_get (M := M) hO
  rw [cell_z hO] at hget
  exact va_zald X.1 X.2.1 X.2.2.2.2.2.2.2 hR q 3 hget rfl hin hd (h p e s m args below meth c H locs ls X hR hS hl)
theorem WP.aald {T : Th} {μ : Mt} {pc : Nat} {L : List (Nat × Value)} {st : List Value} {M : Mm} {Q : Option Value → Mm → Prop} {a n : Nat} {i : Int32} (hO : Ob T a (5, n)) (hin : vp_in i n) (hd : decode μ.2.2.1 pc = .ok (.aaload, 1)) (h : WP T μ (pc + 1) L (.ref (M.2.2 a i.toNatClampNeg) :: st) M Q) : WP T μ pc L (.int i :: .ref a :: st) M Q := by
  intro p e s m args below meth c H locs ls X hR hS hl
  obtain ⟨q, hget⟩ := wl_get (M := M) hO
  rw [cell_q hO] at hget
  exact va_aldq X.1 X.2.1 X.2.2.2.2.2.2.2 hR q 4 hget rfl hin hd (h p e s m args below meth c H locs ls X hR hS hl)
theorem WP.iast {T : Th} {μ : Mt} {pc : Nat} {L : List (Nat × Value)} {st : List Value} {M : Mm} {Q : Option Value → Mm → Prop} {a n : Nat} {i : Int32} {x : Int32} (hO : Ob T a (1, n)) (hin : vp_in i n) (hd : decode μ.2.2.1 pc = .ok (.iastore, 1)) (h : ∀ M1, M1 = sI M a i.toNatClampNeg x → WP T μ (pc + 1) L st M1 Q) : WP T μ pc L (.int x :: .int i :: .ref a :: st) M Q := by
  intro p e s m args below meth c H locs ls X hR hS hl
  obtain ⟨q, hget0⟩ := wl_get (M := M) hO
  have hget := hget0
  rw [cell_i hO] at hget
  refine va_iast X.1 X.2.1 X.2.2.2.2.2.2.2 hR (wl_D T M) hS q 0 hget rfl hin hd (fun H1 locs1 hP1 hD1 hS1 => ?_)
  rw [wl_set (M' := sI M a i.toNatClampNeg x) hO hget0 (by rw [cell_i hO]; congr 4; funext j; simp [upd, vp_updL, sI]) (fun b hb => cell_sI hb)] at hP1
  exact h _ rfl p e s m args below meth c H1 locs1 ls X hP1 hS1 hl
theorem WP.last {T : Th} {μ : Mt} {pc : Nat} {L : List (Nat × Value)} {st : List Value} {M : Mm} {Q : Option Value → Mm → Prop} {a n : Nat} {i : Int32} {x : Int64} (hO : Ob T a (2, n)) (hin : vp_in i n) (hd : decode μ.2.2.1 pc = .ok (.lastore, 1)) (h : ∀ M1, M1 = sL M a i.toNatClampNeg x → WP T μ (pc + 1) L st M1 Q) : WP T μ pc L (.long x :: .int i :: .ref a :: st) M Q := by
  intro p e s m args below meth c H locs ls X hR hS hl
  obtain ⟨q, hget0⟩ := wl_get (M := M) hO
  have hget := hget0
  rw [cell_l hO] at hget
  refine va_last X.1 X.2.1 X.2.2.2.2.2.2.2 hR (wl_D T M) hS q 1 hget rfl hin hd (fun H1 locs1 hP1 hD1 hS1 => ?_)
  rw [wl_set (M' := sL M a i.toNatClampNeg x) hO hget0 (by rw [cell_l hO]; congr 5; funext j; simp [upd, vp_updL, sL]) (fun b hb => cell_sL hb)] at hP1
  exact h _ rfl p e s m args below meth c H1 locs1 ls X hP1 hS1 hl
theorem WP.bast {T : Th} {μ : Mt} {pc : Nat} {L : List (Nat × Value)} {st : List Value} {M : Mm} {Q : Option Value → Mm → Prop} {a n : Nat} {i : Int32} {x : Int32} (hO : Ob T a (3, n)) (hin : vp_in i n) (hd : decode μ.2.2.1 pc = .ok (.bastore, 1)) (h : ∀ M1, M1 = sI M a i.toNatClampNeg (vp_nar .byte x) → WP T μ (pc + 1) L st M1 Q) : WP T μ pc L (.int x :: .int i :: .ref a :: st) M Q := by
  intro p e s m args below meth c H locs ls X hR hS hl
  obtain ⟨q, hget0⟩ := wl_get (M := M) hO
  have hget := hget0
  rw [cell_b hO] at hget
  refine va_bast X.1 X.2.1 X.2.2.2.2.2.2.2 hR (wl_D T M) hS q 2 hget rfl hin hd (fun H1 locs1 hP1 hD1 hS1 => ?_)
  rw [wl_set (M' := sI M a i.toNatClampNeg (vp_nar .byte x)) hO hget0 (by rw [cell_b hO]; congr 4; funext j; simp [upd, vp_updL, sI]) (fun b hb => cell_sI hb)] at hP1
  exact h _ rfl p e s m args below meth c H1 locs1 ls X hP1 hS1 hl
theorem WP.zast {T : Th} {μ : Mt} {pc : Nat} {L : List (Nat × Value)} {st : List Value} {M : Mm} {Q : Option Value → Mm → Prop} {a n : Nat} {i : Int32} {x : Int32} (hO : Ob T a (4, n)) (hin : vp_in i n) (hd : decode μ.2.2.1 pc = .ok (.bastore, 1)) (h : ∀ M1, M1 = sI M a i.toNatClampNeg (vp_nar .boolean x) → WP T μ (pc + 1) L st M1 Q) : WP T μ pc L (.int x :: .int i :: .ref a :: st) M Q := by
  intro p e s m args below meth c H locs ls X hR hS hl
  obtain ⟨q, hget0⟩ := wl_get (M := M) hO
  have hget := hget0
  rw [cell_z hO] at hget
  refine va_zast X.1 X.2.1 X.2.2.2.2.2.2.2 hR (wl_D T M) hS q 3 hget rfl hin hd (fun H1 locs1 hP1 hD1 hS1 => ?_)
  rw [wl_set (M' := sI M a i.toNatClampNeg (vp_nar .boolean x)) hO hget0 (by rw [cell_z hO]; congr 4; funext j; simp [upd, vp_updL, sI]) (fun b hb => cell_sI hb)] at hP1
  exact h _ rfl p e s m args below meth c H1 locs1 ls X hP1 hS1 hl
theorem WP.aast {T : Th} {μ : Mt} {pc : Nat} {L : List (Nat × Value)} {st : List Value} {M : Mm} {Q : Option Value → Mm → Prop} {a n v : Nat} {i : Int32} (hO : Ob T a (5, n)) (hv : Ob T v (0, 2)) (hin : vp_in i n) (hd : decode μ.2.2.1 pc = .ok (.aastore, 1)) (h : ∀ M1, M1 = sR M a i.toNatClampNeg v → WP T μ (pc + 1) L st M1 Q) : WP T μ pc L (.ref v :: .int i :: .ref a :: st) M Q := by
  intro p e s m args below meth c H locs ls X hR hS hl
  obtain ⟨q, hget0⟩ := wl_get (M := M) hO
  have hget := hget0
  rw [cell_q hO] at hget
  obtain ⟨q2, hget2⟩ := wl_get (M := M) hv
  rw [cell_obj hv] at hget2
  refine va_astq (r := (RX2, TX2, 7)) X.1 X.2.1 X.2.2.2.2.2.2.2 hR (wl_D T M) hS q 4 q2 2 hget rfl hget2 rfl hin hd (fun H1 locs1 hP1 hD1 hS1 => ?_)
  rw [wl_set (M' := sR M a i.toNatClampNeg v) hO hget0 (by rw [cell_q hO]; congr 7; funext j; simp [va_up, sR]; split <;> rfl) (fun b hb => cell_sR hb)] at hP1
  exact h _ rfl p e s m args below meth c H1 locs1 ls X hP1 hS1 hl
theorem WP.copyi {T : Th} {μ : Mt} {pc : Nat} {L : List (Nat × Value)} {st : List Value} {M : Mm} {Q : Option Value → Mm → Prop} {k a b n0 n1 : Nat} {sp dp n : Int32} (hO : Ob T a (1, n0)) (hO2 : Ob T b (1, n1)) (hw : Cond.methodLink μ.1 k arraycopyName ∈ wsA ∧ Cond.native arraycopyName ∈ wsA ∧ Cond.static arraycopyName ∈ wsA ∧ Cond.initialized "java/lang/System" ∈ wsA) (h1 : ¬ sp < 0) (h2 : ¬ dp < 0) (h3 : ¬ n < 0) (h4 : sp.toNatClampNeg + n.toNatClampNeg ≤ n0) (h5 : dp.toNatClampNeg + n.toNatClampNeg ≤ n1) (hf : 1 ≤ (mRm μ).frames) (hlo : (st.map fun v => v.category).sum + (nativeFrameWords "java/lang/System" "arraycopy" 5 + 11) ≤ (mRm μ).locals) (hd : decode μ.2.2.1 pc = .ok (.invokestatic k, 3)) (h : ∀ M1, M1 = sC M a b sp.toNatClampNeg dp.toNatClampNeg n.toNatClampNeg → WP T μ (pc + 3) L st M1 Q) : WP T μ pc L (.int n :: .int dp :: .ref b :: .int sp :: .ref a :: st) M Q := by
  intro p e s m args below meth c H locs ls X hR hS hl
  obtain ⟨q, hget⟩ := wl_get (M := M) hO
  rw [cell_i hO] at hget
  obtain ⟨q2, hget0⟩ := wl_get (M := M) hO2
  have hget2 := hget0
  rw [cell_i hO2] at hget2
  refine va_copyi (ty := .int) X.1 X.2.1 (X.2.2.2.1.trans hl.1.symm) X.2.2.2.2.1 (X.2.2.2.2.2.1 _ hw.1) (X.2.2.2.2.2.1 _ hw.2.1) (X.2.2.2.2.2.1 _ hw.2.2.1) (X.2.2.2.2.2.1 _ hw.2.2.2) X.2.2.2.2.2.2.2 hR (wl_D T M) hS q q2 0 0 hget hget2 rfl rfl rfl h1 h2 h3 h4 h5 (fun _ _ => rfl) hf hlo hd (fun H1 locs1 hP1 hD1 hS1 => ?_)
  rw [wl_set (M' := sC M a b sp.toNatClampNeg dp.toNatClampNeg n.toNatClampNeg) hO2 hget0 (by rw [cell_i hO2]; congr 4; funext j; simp [sC]) (fun b hb => cell_sC hb)] at hP1
  exact h _ rfl p e s m args below meth c H1 locs1 ls X hP1 hS1 hl
end
section
theorem tb0 {w : Cond} (h : w ∈ k2_sels lw_privs) : w ∈ lw_tbl := List.mem_append_left _ h
theorem tb1 {w : Cond} (h : w ∈ tables_1_1) : w ∈ lw_tbl := List.mem_append_right _ (List.mem_append_left _ h)
theorem tb2 {w : Cond} (h : w ∈ tables_1_2) : w ∈ lw_tbl := List.mem_append_right _ (List.mem_append_right _ (List.mem_append_left _ h))
theorem tb3 {w : Cond} (h : w ∈ tables_1_3) : w ∈ lw_tbl := List.mem_append_right _ (List.mem_append_right _ (List.mem_append_right _ (List.mem_append_left _ h)))
theorem tb4 {w : Cond} (h : w ∈ tables_1_4) : w ∈ lw_tbl := List.mem_append_right _ (List.mem_append_right _ (List.mem_append_right _ (List.mem_append_right _ (List.mem_append_left _ h))))
theorem tb5 {w : Cond} (h : w ∈ tables_1_5) : w ∈ lw_tbl := List.mem_append_right _ (List.mem_append_right _ (List.mem_append_right _ (List.mem_append_right _ (List.mem_append_right _ h))))
theorem kcX0 : ClsOK 0 RX0 TX0 3 tyX0 := ⟨rfl, iaX0, tyX0_ok, nmX0, rfl⟩
theorem kcX1 : ClsOK 1 RX1 TX1 14 tyX1 := ⟨rfl, iaX1, tyX1_ok, nmX1, rfl⟩
theorem kcX2 : ClsOK 2 RX2 TX2 7 tyX2 := ⟨rfl, iaX2, tyX2_ok, nmX2, rfl⟩
theorem kcX3 : ClsOK 3 RX3 TX3 5 tyX3 := ⟨rfl, iaX3, tyX3_ok, nmX3, rfl⟩
theorem kcX4 : ClsOK 4 RX4 TX4 7 tyX4 := ⟨rfl, iaX4, tyX4_ok, nmX4, rfl⟩
theorem kcX5 : ClsOK 5 RX5 TX5 4 tyX5 := ⟨rfl, iaX5, tyX5_ok, nmX5, rfl⟩
theorem kcX6 : ClsOK 6 RX6 TX6 10 tyX6 := ⟨rfl, iaX6, tyX6_ok, nmX6, rfl⟩
theorem kcX7 : ClsOK 7 RX7 TX7 39 tyX7 := ⟨rfl, iaX7, tyX7_ok, nmX7, rfl⟩
def mX0_foresee : Mt := (RX0, yX0_foresee, cX0_foresee, 7, none, 2, 44)
def mX0_runsAhead : Mt := (RX0, yX0_runsAhead, cX0_runsAhead, 8, (some .long), 2, 51)
def mX0_chanceMinute : Mt := (RX0, yX0_chanceMinute, cX0_chanceMinute, 9, none, 1, 23)
def mX1_reset : Mt := (RX1, yX1_reset, cX1_reset, 2, none, 0, 0)
def mX1_addWagon : Mt := (RX1, yX1_addWagon, cX1_addWagon, 5, none, 0, 0)
def mX1_addPair : Mt := (RX1, yX1_addPair, cX1_addPair, 3, none, 0, 0)
def mX1_settle : Mt := (RX1, yX1_settle, cX1_settle, 2, none, 2, 47)
def mX1_joinPaces : Mt := (RX1, yX1_joinPaces, cX1_joinPaces, 5, none, 1, 23)
def mX1_hasPlace : Mt := (RX1, yX1_hasPlace, cX1_hasPlace, 2, (some .boolean), 0, 0)
def mX1_hasWagon : Mt := (RX1, yX1_hasWagon, cX1_hasWagon, 2, (some .boolean), 0, 0)
def mX1_hasPoints : Mt := (RX1, yX1_hasPoints, cX1_hasPoints, 2, (some .boolean), 1, 21)
def mX1_placeOf : Mt := (RX1, yX1_placeOf, cX1_placeOf, 2, (some .int), 0, 0)
def mX1_minutesFor : Mt := (RX1, yX1_minutesFor, cX1_minutesFor, 4, (some .int), 1, 21)
def mX1_sunWay : Mt := (RX1, yX1_sunWay, cX1_sunWay, 3, (some .int), 0, 0)
def mX1_isTaken : Mt := (RX1, yX1_isTaken, cX1_isTaken, 5, (some .boolean), 0, 0)
def mX1_pass : Mt := (RX1, yX1_pass, cX1_pass, 6, (some .int), 3, 69)
def mX1_foremost : Mt := (RX1, yX1_foremost, cX1_foremost, 5, (some .int), 0, 0)
def mX1_goOn : Mt := (RX1, yX1_goOn, cX1_goOn, 4, (some .boolean), 2, 46)
def mX1_isBarred : Mt := (RX1, yX1_isBarred, cX1_isBarred, 6, (some .boolean), 1, 21)
def mX1_catchLate : Mt := (RX1, yX1_catchLate, cX1_catchLate, 4, none, 1, 22)
def mX1_withWorkDone : Mt := (RX1, yX1_withWorkDone, cX1_withWorkDone, 4, (some .int), 0, 0)
def mX1_wagonsAt : Mt := (RX1, yX1_wagonsAt, cX1_wagonsAt, 5, (some .int), 1, 21)
def mX1_lengthOn : Mt := (RX1, yX1_lengthOn, cX1_lengthOn, 6, (some .int), 1, 23)
def mX2_copyFrom : Mt := (RX2, yX2_copyFrom, cX2_copyFrom, 2, none, 1, 26)
def mX2_isCaught : Mt := (RX2, yX2_isCaught, cX2_isCaught, 2, (some .boolean), 0, 0)
def mX3_gatherNone : Mt := (RX3, yX3_gatherNone, cX3_gatherNone, 1, none, 0, 0)
def mX3_gather : Mt := (RX3, yX3_gather, cX3_gather, 5, none, 1, 21)
def mX3_setStarts : Mt := (RX3, yX3_setStarts, cX3_setStarts, 4, none, 0, 0)
def mX3_latest : Mt := (RX3, yX3_latest, cX3_latest, 2, (some .int), 0, 0)
def mX3_order : Mt := (RX3, yX3_order, cX3_order, 4, none, 1, 21)
def mX3_sum : Mt := (RX3, yX3_sum, cX3_sum, 3, (some .int), 0, 0)
def mX3_startOf : Mt := (RX3, yX3_startOf, cX3_startOf, 3, (some .int), 0, 0)
def mX4_add : Mt := (RX4, yX4_add, cX4_add, 2, (some .boolean), 0, 0)
def mX4_tell : Mt := (RX4, yX4_tell, cX4_tell, 4, (some .int), 6, 132)
def mX4_tellItem : Mt := (RX4, yX4_tellItem, cX4_tellItem, 3, none, 5, 110)
def mX4_tellRing : Mt := (RX4, yX4_tellRing, cX4_tellRing, 3, none, 4, 85)
def mX4_tellCost : Mt := (RX4, yX4_tellCost, cX4_tellCost, 4, none, 4, 85)
def mX4_tellSun : Mt := (RX4, yX4_tellSun, cX4_tellSun, 2, none, 4, 85)
def mX4_tellBridge : Mt := (RX4, yX4_tellBridge, cX4_tellBridge, 2, none, 4, 85)
def mX4_tellWagon : Mt := (RX4, yX4_tellWagon, cX4_tellWagon, 6, none, 4, 85)
def mX4_tellPair : Mt := (RX4, yX4_tellPair, cX4_tellPair, 4, none, 4, 85)
def mX4_readNumber : Mt := (RX4, yX4_readNumber, cX4_readNumber, 3, (some .int), 3, 63)
def mX4_readStop : Mt := (RX4, yX4_readStop, cX4_readStop, 1, none, 3, 63)
def mX4_readToken : Mt := (RX4, yX4_readToken, cX4_readToken, 1, none, 2, 43)
def mX4_readLetters : Mt := (RX4, yX4_readLetters, cX4_readLetters, 1, none, 1, 20)
def mX4_readDigits : Mt := (RX4, yX4_readDigits, cX4_readDigits, 1, none, 1, 23)
def mX4_isLetter : Mt := (RX4, yX4_isLetter, cX4_isLetter, 1, (some .boolean), 0, 0)
def mX4_isDigit : Mt := (RX4, yX4_isDigit, cX4_isDigit, 1, (some .boolean), 0, 0)
def mX5_begin : Mt := (RX5, yX5_begin, cX5_begin, 2, none, 2, 47)
def mX5_remember : Mt := (RX5, yX5_remember, cX5_remember, 1, none, 2, 47)
def mX5_loseOldest : Mt := (RX5, yX5_loseOldest, cX5_loseOldest, 3, none, 0, 0)
def mX5_takeBack : Mt := (RX5, yX5_takeBack, cX5_takeBack, 1, (some .boolean), 2, 47)
def mX5_copyFrom : Mt := (RX5, yX5_copyFrom, cX5_copyFrom, 3, none, 2, 47)
def mX6_type : Mt := (RX6, yX6_type, cX6_type, 2, (some .int), 1, 21)
def mX6_clear : Mt := (RX6, yX6_clear, cX6_clear, 2, (some .int), 0, 0)
def mX6_world : Mt := (RX6, yX6_world, cX6_world, 3, (some .int), 7, 155)
def mX6_place : Mt := (RX6, yX6_place, cX6_place, 3, (some .int), 1, 21)
def mX6_wagon : Mt := (RX6, yX6_wagon, cX6_wagon, 4, (some .int), 1, 21)
def mX6_now : Mt := (RX6, yX6_now, cX6_now, 2, (some .int), 1, 23)
def mX6_sun : Mt := (RX6, yX6_sun, cX6_sun, 2, (some .int), 1, 22)
def mX6_minute : Mt := (RX6, yX6_minute, cX6_minute, 1, (some .int), 4, 94)
def mX6_stand : Mt := (RX6, yX6_stand, cX6_stand, 4, (some .int), 3, 67)
def mX6_change : Mt := (RX6, yX6_change, cX6_change, 5, (some .int), 3, 67)
def mX6_undo : Mt := (RX6, yX6_undo, cX6_undo, 1, (some .int), 3, 67)
def mX6_behind : Mt := (RX6, yX6_behind, cX6_behind, 5, (some .int), 4, 94)
def mX6_caught : Mt := (RX6, yX6_caught, cX6_caught, 4, (some .int), 4, 94)
def mX6_waits : Mt := (RX6, yX6_waits, cX6_waits, 4, (some .int), 4, 94)
def mX6_stands : Mt := (RX6, yX6_stands, cX6_stands, 3, (some .int), 5, 115)
def mX6_starts : Mt := (RX6, yX6_starts, cX6_starts, 2, (some .int), 6, 141)
def mX6_bars : Mt := (RX6, yX6_bars, cX6_bars, 2, (some .int), 6, 141)
def mX6_pieces : Mt := (RX6, yX6_pieces, cX6_pieces, 5, (some .int), 4, 94)
def mX6_met : Mt := (RX6, yX6_met, cX6_met, 4, (some .int), 4, 94)
def mX6_odds : Mt := (RX6, yX6_odds, cX6_odds, 11, (some .long), 3, 78)
def mX6_keepAhead : Mt := (RX6, yX6_keepAhead, cX6_keepAhead, 8, (some .int), 3, 78)
def mX6_mark : Mt := (RX6, yX6_mark, cX6_mark, 3, (some .int), 3, 63)
def mX6_keep : Mt := (RX6, yX6_keep, cX6_keep, 3, (some .int), 3, 69)
def mX6_back : Mt := (RX6, yX6_back, cX6_back, 3, (some .int), 3, 69)
def mX6_count : Mt := (RX6, yX6_count, cX6_count, 2, (some .int), 1, 20)
def mX6_trace : Mt := (RX6, yX6_trace, cX6_trace, 1, (some .long), 0, 0)
def mX6_leastOf : Mt := (RX6, yX6_leastOf, cX6_leastOf, 2, (some .int), 0, 0)
def mX6_findStarts : Mt := (RX6, yX6_findStarts, cX6_findStarts, 7, (some .boolean), 5, 115)
def mX6_isTrialSafe : Mt := (RX6, yX6_isTrialSafe, cX6_isTrialSafe, 2, (some .boolean), 4, 94)
def mX6_isChance : Mt := (RX6, yX6_isChance, cX6_isChance, 4, (some .boolean), 1, 21)
def mX6_powerOfTen : Mt := (RX6, yX6_powerOfTen, cX6_powerOfTen, 4, (some .long), 0, 0)
def mX6_commonDivisor : Mt := (RX6, yX6_commonDivisor, cX6_commonDivisor, 11, (some .long), 0, 0)
def mX6_wagonMark : Mt := (RX6, yX6_wagonMark, cX6_wagonMark, 2, (some .int), 0, 0)
def mX6_forgeMark : Mt := (RX6, yX6_forgeMark, cX6_forgeMark, 2, (some .int), 1, 21)
def mX6_chapelMark : Mt := (RX6, yX6_chapelMark, cX6_chapelMark, 2, (some .int), 1, 21)
def mX6_tenderMark : Mt := (RX6, yX6_tenderMark, cX6_tenderMark, 2, (some .int), 2, 42)
def mX6_houseMark : Mt := (RX6, yX6_houseMark, cX6_houseMark, 2, (some .int), 2, 42)
def mX6_railcartMark : Mt := (RX6, yX6_railcartMark, cX6_railcartMark, 3, (some .int), 1, 22)
def mX7_in : Mt := (RX7, yX7_in, cX7_in, 3, (some .boolean), 0, 0)
def mX7_type : Mt := (RX7, yX7_type, cX7_type, 2, (some .int), 1, 22)
def mX7_clear : Mt := (RX7, yX7_clear, cX7_clear, 2, (some .int), 0, 0)
def mX7_here : Mt := (RX7, yX7_here, cX7_here, 1, (some .int), 0, 0)
def mX7_next : Mt := (RX7, yX7_next, cX7_next, 2, none, 1, 22)
def mX7_due : Mt := (RX7, yX7_due, cX7_due, 3, (some .int), 2, 43)
def mX7_number : Mt := (RX7, yX7_number, cX7_number, 3, (some .int), 3, 65)
def mX7_placeTold : Mt := (RX7, yX7_placeTold, cX7_placeTold, 1, (some .int), 4, 87)
def mX7_mayBe : Mt := (RX7, yX7_mayBe, cX7_mayBe, 2, (some .boolean), 0, 0)
def mX7_isFreeAtFirst : Mt := (RX7, yX7_isFreeAtFirst, cX7_isFreeAtFirst, 5, (some .boolean), 0, 0)
def mX7_readWagon : Mt := (RX7, yX7_readWagon, cX7_readWagon, 3, none, 4, 87)
def mX7_readRow : Mt := (RX7, yX7_readRow, cX7_readRow, 4, none, 5, 109)
def mX7_world : Mt := (RX7, yX7_world, cX7_world, 2, (some .int), 6, 132)
def mX7_take : Mt := (RX7, yX7_take, cX7_take, 6, none, 0, 0)
def mX7_costAt : Mt := (RX7, yX7_costAt, cX7_costAt, 2, (some .int), 0, 0)
def mX7_beginThen : Mt := (RX7, yX7_beginThen, cX7_beginThen, 2, none, 1, 21)
def mX7_begin : Mt := (RX7, yX7_begin, cX7_begin, 1, none, 2, 42)
def mX7_toNow : Mt := (RX7, yX7_toNow, cX7_toNow, 2, none, 0, 0)
def mX7_toThen : Mt := (RX7, yX7_toThen, cX7_toThen, 2, none, 0, 0)
def mX7_isWagon : Mt := (RX7, yX7_isWagon, cX7_isWagon, 2, (some .boolean), 1, 22)
def mX7_place : Mt := (RX7, yX7_place, cX7_place, 3, (some .int), 1, 22)
def mX7_wagon : Mt := (RX7, yX7_wagon, cX7_wagon, 3, (some .int), 2, 43)
def mX7_sunAt : Mt := (RX7, yX7_sunAt, cX7_sunAt, 2, (some .int), 0, 0)
def mX7_sun : Mt := (RX7, yX7_sun, cX7_sun, 2, (some .int), 1, 22)
def mX7_caughtThen : Mt := (RX7, yX7_caughtThen, cX7_caughtThen, 3, (some .int), 0, 0)
def mX7_manyOf : Mt := (RX7, yX7_manyOf, cX7_manyOf, 3, (some .int), 0, 0)
def mX7_now : Mt := (RX7, yX7_now, cX7_now, 4, (some .int), 1, 22)
def mX7_isFree : Mt := (RX7, yX7_isFree, cX7_isFree, 6, (some .boolean), 0, 0)
def mX7_move : Mt := (RX7, yX7_move, cX7_move, 3, none, 1, 25)
def mX7_pass : Mt := (RX7, yX7_pass, cX7_pass, 5, none, 2, 47)
def mX7_know : Mt := (RX7, yX7_know, cX7_know, 2, none, 0, 0)
def mX7_minute : Mt := (RX7, yX7_minute, cX7_minute, 1, (some .int), 3, 71)
def mX7_stand : Mt := (RX7, yX7_stand, cX7_stand, 3, (some .int), 2, 43)
def mX7_isThere : Mt := (RX7, yX7_isThere, cX7_isThere, 5, (some .boolean), 0, 0)
def mX7_change : Mt := (RX7, yX7_change, cX7_change, 5, (some .int), 2, 43)
def mX7_undo : Mt := (RX7, yX7_undo, cX7_undo, 2, (some .int), 0, 0)
def mX7_passMany : Mt := (RX7, yX7_passMany, cX7_passMany, 3, none, 3, 71)
def mX7_behind : Mt := (RX7, yX7_behind, cX7_behind, 4, (some .int), 4, 93)
def mX7_caught : Mt := (RX7, yX7_caught, cX7_caught, 6, (some .int), 3, 71)
def mX7_waits : Mt := (RX7, yX7_waits, cX7_waits, 3, (some .int), 3, 71)
def mX7_stands : Mt := (RX7, yX7_stands, cX7_stands, 4, (some .int), 4, 93)
def mX7_findLacking : Mt := (RX7, yX7_findLacking, cX7_findLacking, 3, none, 0, 0)
def mX7_isWell : Mt := (RX7, yX7_isWell, cX7_isWell, 6, (some .boolean), 3, 71)
def mX7_findStarts : Mt := (RX7, yX7_findStarts, cX7_findStarts, 9, (some .int), 4, 96)
def mX7_starts : Mt := (RX7, yX7_starts, cX7_starts, 5, (some .int), 5, 124)
def mX7_bars : Mt := (RX7, yX7_bars, cX7_bars, 2, (some .int), 5, 124)
def mX7_pieces : Mt := (RX7, yX7_pieces, cX7_pieces, 8, (some .int), 3, 71)
def mX7_met : Mt := (RX7, yX7_met, cX7_met, 5, (some .int), 4, 93)
def mX7_findOdds : Mt := (RX7, yX7_findOdds, cX7_findOdds, 13, none, 1, 21)
def mX7_isAsked : Mt := (RX7, yX7_isAsked, cX7_isAsked, 4, (some .boolean), 2, 43)
def mX7_odds : Mt := (RX7, yX7_odds, cX7_odds, 11, (some .long), 3, 66)
def mX7_keepAhead : Mt := (RX7, yX7_keepAhead, cX7_keepAhead, 6, (some .int), 3, 66)
def mX7_mark : Mt := (RX7, yX7_mark, cX7_mark, 4, (some .int), 2, 43)
def mX7_copy : Mt := (RX7, yX7_copy, cX7_copy, 4, none, 0, 0)
def mX7_keep : Mt := (RX7, yX7_keep, cX7_keep, 2, (some .int), 1, 23)
def mX7_back : Mt := (RX7, yX7_back, cX7_back, 2, (some .int), 1, 23)
def mX7_count : Mt := (RX7, yX7_count, cX7_count, 4, (some .int), 0, 0)
def mX7_trace : Mt := (RX7, yX7_trace, cX7_trace, 1, (some .long), 0, 0)
def mJ6_bitCount_0f7a4 : Mt := (RJ6, yJ6_bitCount_0f7a4, cJ6_bitCount_0f7a4, 1, (some .int), 0, 0)
theorem fX0_19 : Fld RX0 19 2 0 (0, 0) .int false := ⟨RX2, TX2, 7, tyX2, kcX2, by decide, rfl, (wsA_in (tb1 (List.mem_of_getElem? (i := 99) rfl)) rfl), rfl, rfl⟩
theorem fX0_25 : Fld RX0 25 0 0 (0, 0) .int false := ⟨RX0, TX0, 3, tyX0, kcX0, by decide, rfl, (wsA_in (tb1 (List.mem_of_getElem? (i := 81) rfl)) rfl), rfl, rfl⟩
theorem fX0_26 : Fld RX0 26 2 2 (2, 1) (.array .int) true := ⟨RX2, TX2, 7, tyX2, kcX2, by decide, rfl, (wsA_in (tb1 (List.mem_of_getElem? (i := 106) rfl)) rfl), rfl, rfl⟩
theorem fX0_29 : Fld RX0 29 2 4 (2, 3) (.array .int) true := ⟨RX2, TX2, 7, tyX2, kcX2, by decide, rfl, (wsA_in (tb1 (List.mem_of_getElem? (i := 113) rfl)) rfl), rfl, rfl⟩
theorem fX0_9 : Fld RX0 9 0 1 (2, 1) (.array .int) true := ⟨RX0, TX0, 3, tyX0, kcX0, by decide, rfl, (wsA_in (tb1 (List.mem_of_getElem? (i := 82) rfl)) rfl), rfl, rfl⟩
theorem vX0_32 : Cond.methodLink RX0 32 Lib.Math.max.name ∈ wsA ∧ Cond.static Lib.Math.max.name ∈ wsA ∧ Cond.initialized "java/lang/Math" ∈ wsA ∧ Cond.code Lib.Math.max.name Lib.Math.max.code 2 (some .int) ∈ wsA := ⟨(wsA_in (tb3 (List.mem_of_getElem? (i := 112) rfl)) rfl), (wsA_in (tb2 (List.mem_of_getElem? (i := 139) rfl)) rfl), (wsA_in (tb1 (List.mem_of_getElem? (i := 9) rfl)) rfl), (wsA_in (tb2 (List.mem_of_getElem? (i := 140) rfl)) rfl)⟩
theorem vX0_38 : Cv RX0 38 mX1_minutesFor 2 := ⟨(wsA_in (tb3 (List.mem_of_getElem? (i := 113) rfl)) rfl), (wsA_in (tb2 (List.mem_of_getElem? (i := 142) rfl)) rfl), (wsA_in (tb2 (List.mem_of_getElem? (i := 143) rfl)) rfl), (wsA_in (tb1 (List.mem_of_getElem? (i := 7) rfl)) rfl), (wsA_in (tb2 (List.mem_of_getElem? (i := 144) rfl)) rfl), by decide +kernel⟩
theorem fX0_15 : Fld RX0 15 0 2 (2, 2) (.array .long) true := ⟨RX0, TX0, 3, tyX0, kcX0, by decide, rfl, (wsA_in (tb1 (List.mem_of_getElem? (i := 83) rfl)) rfl), rfl, rfl⟩
theorem vX0_43 : Cv RX0 43 mX1_sunWay 2 := ⟨(wsA_in (tb3 (List.mem_of_getElem? (i := 118) rfl)) rfl), (wsA_in (tb2 (List.mem_of_getElem? (i := 189) rfl)) rfl), (wsA_in (tb2 (List.mem_of_getElem? (i := 190) rfl)) rfl), (wsA_in (tb1 (List.mem_of_getElem? (i := 7) rfl)) rfl), (wsA_in (tb2 (List.mem_of_getElem? (i := 191) rfl)) rfl), by decide +kernel⟩
theorem vX0_46 : Cv RX0 46 mX0_chanceMinute 3 := ⟨(wsA_in (tb3 (List.mem_of_getElem? (i := 119) rfl)) rfl), (wsA_in (tb3 (List.mem_of_getElem? (i := 121) rfl)) rfl), (wsA_in (tb0 (List.mem_of_getElem? (i := 21) rfl)) rfl), (wsA_in (tb1 (List.mem_of_getElem? (i := 4) rfl)) rfl), (wsA_in (tb3 (List.mem_of_getElem? (i := 122) rfl)) rfl), by decide +kernel⟩
theorem vX0_50 : Cond.methodLink RX0 50 Lib.Math.min.name ∈ wsA ∧ Cond.static Lib.Math.min.name ∈ wsA ∧ Cond.initialized "java/lang/Math" ∈ wsA ∧ Cond.code Lib.Math.min.name Lib.Math.min.code 2 (some .int) ∈ wsA := ⟨(wsA_in (tb3 (List.mem_of_getElem? (i := 123) rfl)) rfl), (wsA_in (tb2 (List.mem_of_getElem? (i := 72) rfl)) rfl), (wsA_in (tb1 (List.mem_of_getElem? (i := 9) rfl)) rfl), (wsA_in (tb2 (List.mem_of_getElem? (i := 73) rfl)) rfl)⟩
theorem fX1_37 : Fld RX1 37 1 0 (0, 0) .int false := ⟨RX1, TX1, 14, tyX1, kcX1, by decide, rfl, (wsA_in (tb1 (List.mem_of_getElem? (i := 175) rfl)) rfl), rfl, rfl⟩
theorem fX1_41 : Fld RX1 41 1 1 (0, 0) .int false := ⟨RX1, TX1, 14, tyX1, kcX1, by decide, rfl, (wsA_in (tb1 (List.mem_of_getElem? (i := 178) rfl)) rfl), rfl, rfl⟩
theorem fX1_44 : Fld RX1 44 1 2 (0, 0) .int false := ⟨RX1, TX1, 14, tyX1, kcX1, by decide, rfl, (wsA_in (tb1 (List.mem_of_getElem? (i := 181) rfl)) rfl), rfl, rfl⟩
theorem fX1_47 : Fld RX1 47 1 3 (0, 0) .boolean false := ⟨RX1, TX1, 14, tyX1, kcX1, by decide, rfl, (wsA_in (tb1 (List.mem_of_getElem? (i := 184) rfl)) rfl), rfl, rfl⟩
theorem fX1_51 : Fld RX1 51 1 4 (0, 0) .int false := ⟨RX1, TX1, 14, tyX1, kcX1, by decide, rfl, (wsA_in (tb1 (List.mem_of_getElem? (i := 186) rfl)) rfl), rfl, rfl⟩
theorem fX1_54 : Fld RX1 54 1 5 (0, 0) .int false := ⟨RX1, TX1, 14, tyX1, kcX1, by decide, rfl, (wsA_in (tb1 (List.mem_of_getElem? (i := 189) rfl)) rfl), rfl, rfl⟩
theorem fX1_57 : Fld RX1 57 1 6 (0, 0) .int false := ⟨RX1, TX1, 14, tyX1, kcX1, by decide, rfl, (wsA_in (tb1 (List.mem_of_getElem? (i := 192) rfl)) rfl), rfl, rfl⟩
theorem fX1_60 : Fld RX1 60 1 7 (0, 0) .int false := ⟨RX1, TX1, 14, tyX1, kcX1, by decide, rfl, (wsA_in (tb1 (List.mem_of_getElem? (i := 196) rfl)) rfl), rfl, rfl⟩
theorem fX1_9 : Fld RX1 9 1 8 (2, 1) (.array .int) true := ⟨RX1, TX1, 14, tyX1, kcX1, by decide, rfl, (wsA_in (tb1 (List.mem_of_getElem? (i := 199) rfl)) rfl), rfl, rfl⟩
theorem fX1_15 : Fld RX1 15 1 9 (2, 2) (.array .int) true := ⟨RX1, TX1, 14, tyX1, kcX1, by decide, rfl, (wsA_in (tb1 (List.mem_of_getElem? (i := 202) rfl)) rfl), rfl, rfl⟩
theorem fX1_18 : Fld RX1 18 1 10 (2, 3) (.array .int) true := ⟨RX1, TX1, 14, tyX1, kcX1, by decide, rfl, (wsA_in (tb1 (List.mem_of_getElem? (i := 204) rfl)) rfl), rfl, rfl⟩
theorem fX1_30 : Fld RX1 30 1 13 (2, 6) (.object "WheelTown$Moment") true := ⟨RX1, TX1, 14, tyX1, kcX1, by decide, rfl, (wsA_in (tb1 (List.mem_of_getElem? (i := 209) rfl)) rfl), rfl, rfl⟩
theorem fX1_63 : Fld RX1 63 2 2 (2, 1) (.array .int) true := ⟨RX2, TX2, 7, tyX2, kcX2, by decide, rfl, (wsA_in (tb1 (List.mem_of_getElem? (i := 107) rfl)) rfl), rfl, rfl⟩
theorem fX1_66 : Fld RX1 66 2 3 (2, 2) (.array .int) true := ⟨RX2, TX2, 7, tyX2, kcX2, by decide, rfl, (wsA_in (tb1 (List.mem_of_getElem? (i := 110) rfl)) rfl), rfl, rfl⟩
theorem fX1_21 : Fld RX1 21 1 11 (2, 4) (.array .int) true := ⟨RX1, TX1, 14, tyX1, kcX1, by decide, rfl, (wsA_in (tb1 (List.mem_of_getElem? (i := 207) rfl)) rfl), rfl, rfl⟩
theorem fX1_24 : Fld RX1 24 1 12 (2, 5) (.array .int) true := ⟨RX1, TX1, 14, tyX1, kcX1, by decide, rfl, (wsA_in (tb1 (List.mem_of_getElem? (i := 208) rfl)) rfl), rfl, rfl⟩
theorem vX1_69 : Cv RX1 69 mX1_joinPaces 0 := ⟨(wsA_in (tb2 (List.mem_of_getElem? (i := 130) rfl)) rfl), (wsA_in (tb2 (List.mem_of_getElem? (i := 132) rfl)) rfl), (wsA_in (tb0 (List.mem_of_getElem? (i := 12) rfl)) rfl), (wsA_in (tb1 (List.mem_of_getElem? (i := 7) rfl)) rfl), (wsA_in (tb2 (List.mem_of_getElem? (i := 133) rfl)) rfl), by decide +kernel⟩
theorem fX1_72 : Fld RX1 72 2 4 (2, 3) (.array .int) true := ⟨RX2, TX2, 7, tyX2, kcX2, by decide, rfl, (wsA_in (tb1 (List.mem_of_getElem? (i := 114) rfl)) rfl), rfl, rfl⟩
theorem vX1_75 : Cv RX1 75 mX1_minutesFor 2 := ⟨(wsA_in (tb2 (List.mem_of_getElem? (i := 141) rfl)) rfl), (wsA_in (tb2 (List.mem_of_getElem? (i := 142) rfl)) rfl), (wsA_in (tb2 (List.mem_of_getElem? (i := 143) rfl)) rfl), (wsA_in (tb1 (List.mem_of_getElem? (i := 7) rfl)) rfl), (wsA_in (tb2 (List.mem_of_getElem? (i := 144) rfl)) rfl), by decide +kernel⟩
theorem vX1_79 : Cv RX1 79 mX1_hasWagon 1 := ⟨(wsA_in (tb2 (List.mem_of_getElem? (i := 134) rfl)) rfl), (wsA_in (tb2 (List.mem_of_getElem? (i := 135) rfl)) rfl), (wsA_in (tb2 (List.mem_of_getElem? (i := 136) rfl)) rfl), (wsA_in (tb1 (List.mem_of_getElem? (i := 7) rfl)) rfl), (wsA_in (tb2 (List.mem_of_getElem? (i := 137) rfl)) rfl), by decide +kernel⟩
theorem vX1_83 : Cond.methodLink RX1 83 Lib.Math.max.name ∈ wsA ∧ Cond.static Lib.Math.max.name ∈ wsA ∧ Cond.initialized "java/lang/Math" ∈ wsA ∧ Cond.code Lib.Math.max.name Lib.Math.max.code 2 (some .int) ∈ wsA := ⟨(wsA_in (tb2 (List.mem_of_getElem? (i := 138) rfl)) rfl), (wsA_in (tb2 (List.mem_of_getElem? (i := 139) rfl)) rfl), (wsA_in (tb1 (List.mem_of_getElem? (i := 9) rfl)) rfl), (wsA_in (tb2 (List.mem_of_getElem? (i := 140) rfl)) rfl)⟩
theorem vX1_88 : Cv RX1 88 mX1_placeOf 1 := ⟨(wsA_in (tb2 (List.mem_of_getElem? (i := 145) rfl)) rfl), (wsA_in (tb2 (List.mem_of_getElem? (i := 146) rfl)) rfl), (wsA_in (tb2 (List.mem_of_getElem? (i := 147) rfl)) rfl), (wsA_in (tb1 (List.mem_of_getElem? (i := 7) rfl)) rfl), (wsA_in (tb2 (List.mem_of_getElem? (i := 148) rfl)) rfl), by decide +kernel⟩
theorem vX1_92 : Cv RX1 92 mX1_hasPlace 1 := ⟨(wsA_in (tb2 (List.mem_of_getElem? (i := 149) rfl)) rfl), (wsA_in (tb2 (List.mem_of_getElem? (i := 91) rfl)) rfl), (wsA_in (tb2 (List.mem_of_getElem? (i := 92) rfl)) rfl), (wsA_in (tb1 (List.mem_of_getElem? (i := 7) rfl)) rfl), (wsA_in (tb2 (List.mem_of_getElem? (i := 93) rfl)) rfl), by decide +kernel⟩
theorem vX1_95 : Cv RX1 95 mX1_foremost 2 := ⟨(wsA_in (tb2 (List.mem_of_getElem? (i := 208) rfl)) rfl), (wsA_in (tb2 (List.mem_of_getElem? (i := 210) rfl)) rfl), (wsA_in (tb0 (List.mem_of_getElem? (i := 14) rfl)) rfl), (wsA_in (tb1 (List.mem_of_getElem? (i := 7) rfl)) rfl), (wsA_in (tb2 (List.mem_of_getElem? (i := 211) rfl)) rfl), by decide +kernel⟩
theorem vX1_99 : Cv RX1 99 mX1_goOn 2 := ⟨(wsA_in (tb2 (List.mem_of_getElem? (i := 212) rfl)) rfl), (wsA_in (tb2 (List.mem_of_getElem? (i := 214) rfl)) rfl), (wsA_in (tb0 (List.mem_of_getElem? (i := 15) rfl)) rfl), (wsA_in (tb1 (List.mem_of_getElem? (i := 7) rfl)) rfl), (wsA_in (tb2 (List.mem_of_getElem? (i := 215) rfl)) rfl), by decide +kernel⟩
theorem fX1_103 : Fld RX1 103 2 0 (0, 0) .int false := ⟨RX2, TX2, 7, tyX2, kcX2, by decide, rfl, (wsA_in (tb1 (List.mem_of_getElem? (i := 101) rfl)) rfl), rfl, rfl⟩
theorem vX1_106 : Cv RX1 106 mX1_catchLate 1 := ⟨(wsA_in (tb2 (List.mem_of_getElem? (i := 221) rfl)) rfl), (wsA_in (tb2 (List.mem_of_getElem? (i := 223) rfl)) rfl), (wsA_in (tb0 (List.mem_of_getElem? (i := 17) rfl)) rfl), (wsA_in (tb1 (List.mem_of_getElem? (i := 7) rfl)) rfl), (wsA_in (tb2 (List.mem_of_getElem? (i := 224) rfl)) rfl), by decide +kernel⟩
theorem vX1_110 : Cv RX1 110 mX2_isCaught 1 := ⟨(wsA_in (tb2 (List.mem_of_getElem? (i := 216) rfl)) rfl), (wsA_in (tb2 (List.mem_of_getElem? (i := 172) rfl)) rfl), (wsA_in (tb2 (List.mem_of_getElem? (i := 173) rfl)) rfl), (wsA_in (tb1 (List.mem_of_getElem? (i := 5) rfl)) rfl), (wsA_in (tb2 (List.mem_of_getElem? (i := 174) rfl)) rfl), by decide +kernel⟩
theorem fX1_113 : Fld RX1 113 2 5 (2, 4) (.array .int) true := ⟨RX2, TX2, 7, tyX2, kcX2, by decide, rfl, (wsA_in (tb1 (List.mem_of_getElem? (i := 119) rfl)) rfl), rfl, rfl⟩
theorem fX1_116 : Fld RX1 116 2 6 (2, 5) (.array .int) true := ⟨RX2, TX2, 7, tyX2, kcX2, by decide, rfl, (wsA_in (tb1 (List.mem_of_getElem? (i := 123) rfl)) rfl), rfl, rfl⟩
theorem vX1_119 : Cv RX1 119 mX1_isBarred 3 := ⟨(wsA_in (tb2 (List.mem_of_getElem? (i := 217) rfl)) rfl), (wsA_in (tb2 (List.mem_of_getElem? (i := 219) rfl)) rfl), (wsA_in (tb0 (List.mem_of_getElem? (i := 16) rfl)) rfl), (wsA_in (tb1 (List.mem_of_getElem? (i := 7) rfl)) rfl), (wsA_in (tb2 (List.mem_of_getElem? (i := 220) rfl)) rfl), by decide +kernel⟩
theorem vX1_123 : Cv RX1 123 mX1_sunWay 2 := ⟨(wsA_in (tb2 (List.mem_of_getElem? (i := 225) rfl)) rfl), (wsA_in (tb2 (List.mem_of_getElem? (i := 189) rfl)) rfl), (wsA_in (tb2 (List.mem_of_getElem? (i := 190) rfl)) rfl), (wsA_in (tb1 (List.mem_of_getElem? (i := 7) rfl)) rfl), (wsA_in (tb2 (List.mem_of_getElem? (i := 191) rfl)) rfl), by decide +kernel⟩
theorem fX1_126 : Fld RX1 126 2 1 (0, 0) .int false := ⟨RX2, TX2, 7, tyX2, kcX2, by decide, rfl, (wsA_in (tb1 (List.mem_of_getElem? (i := 104) rfl)) rfl), rfl, rfl⟩
theorem vX1_129 : Cond.methodLink RX1 129 Lib.Math.min.name ∈ wsA ∧ Cond.static Lib.Math.min.name ∈ wsA ∧ Cond.initialized "java/lang/Math" ∈ wsA ∧ Cond.code Lib.Math.min.name Lib.Math.min.code 2 (some .int) ∈ wsA := ⟨(wsA_in (tb3 (List.mem_of_getElem? (i := 89) rfl)) rfl), (wsA_in (tb2 (List.mem_of_getElem? (i := 72) rfl)) rfl), (wsA_in (tb1 (List.mem_of_getElem? (i := 9) rfl)) rfl), (wsA_in (tb2 (List.mem_of_getElem? (i := 73) rfl)) rfl)⟩
theorem fX2_27 : Fld RX2 27 2 0 (0, 0) .int false := ⟨RX2, TX2, 7, tyX2, kcX2, by decide, rfl, (wsA_in (tb1 (List.mem_of_getElem? (i := 98) rfl)) rfl), rfl, rfl⟩
theorem fX2_31 : Fld RX2 31 2 1 (0, 0) .int false := ⟨RX2, TX2, 7, tyX2, kcX2, by decide, rfl, (wsA_in (tb1 (List.mem_of_getElem? (i := 102) rfl)) rfl), rfl, rfl⟩
theorem fX2_9 : Fld RX2 9 2 2 (2, 1) (.array .int) true := ⟨RX2, TX2, 7, tyX2, kcX2, by decide, rfl, (wsA_in (tb1 (List.mem_of_getElem? (i := 105) rfl)) rfl), rfl, rfl⟩
theorem vX2_34 : Cond.methodLink RX2 34 arraycopyName ∈ wsA ∧ Cond.native arraycopyName ∈ wsA ∧ Cond.static arraycopyName ∈ wsA ∧ Cond.initialized "java/lang/System" ∈ wsA := ⟨(wsA_in (tb2 (List.mem_of_getElem? (i := 158) rfl)) rfl), (wsA_in (tb2 (List.mem_of_getElem? (i := 160) rfl)) rfl), (wsA_in (tb2 (List.mem_of_getElem? (i := 159) rfl)) rfl), (wsA_in (tb1 (List.mem_of_getElem? (i := 10) rfl)) rfl)⟩
theorem fX2_15 : Fld RX2 15 2 3 (2, 2) (.array .int) true := ⟨RX2, TX2, 7, tyX2, kcX2, by decide, rfl, (wsA_in (tb1 (List.mem_of_getElem? (i := 109) rfl)) rfl), rfl, rfl⟩
theorem fX2_18 : Fld RX2 18 2 4 (2, 3) (.array .int) true := ⟨RX2, TX2, 7, tyX2, kcX2, by decide, rfl, (wsA_in (tb1 (List.mem_of_getElem? (i := 112) rfl)) rfl), rfl, rfl⟩
theorem fX2_21 : Fld RX2 21 2 5 (2, 4) (.array .int) true := ⟨RX2, TX2, 7, tyX2, kcX2, by decide, rfl, (wsA_in (tb1 (List.mem_of_getElem? (i := 116) rfl)) rfl), rfl, rfl⟩
theorem fX2_24 : Fld RX2 24 2 6 (2, 5) (.array .int) true := ⟨RX2, TX2, 7, tyX2, kcX2, by decide, rfl, (wsA_in (tb1 (List.mem_of_getElem? (i := 120) rfl)) rfl), rfl, rfl⟩
theorem fX3_21 : Fld RX3 21 3 0 (0, 0) .int false := ⟨RX3, TX3, 5, tyX3, kcX3, by decide, rfl, (wsA_in (tb1 (List.mem_of_getElem? (i := 56) rfl)) rfl), rfl, rfl⟩
theorem fX3_25 : Fld RX3 25 3 1 (0, 0) .int false := ⟨RX3, TX3, 5, tyX3, kcX3, by decide, rfl, (wsA_in (tb1 (List.mem_of_getElem? (i := 58) rfl)) rfl), rfl, rfl⟩
theorem vX3_28 : Cv RX3 28 mX3_gatherNone 0 := ⟨(wsA_in (tb3 (List.mem_of_getElem? (i := 55) rfl)) rfl), (wsA_in (tb3 (List.mem_of_getElem? (i := 34) rfl)) rfl), (wsA_in (tb3 (List.mem_of_getElem? (i := 35) rfl)) rfl), (wsA_in (tb1 (List.mem_of_getElem? (i := 3) rfl)) rfl), (wsA_in (tb3 (List.mem_of_getElem? (i := 36) rfl)) rfl), by decide +kernel⟩
theorem fX3_31 : Fld RX3 31 1 6 (0, 0) .int false := ⟨RX1, TX1, 14, tyX1, kcX1, by decide, rfl, (wsA_in (tb1 (List.mem_of_getElem? (i := 193) rfl)) rfl), rfl, rfl⟩
theorem fX3_36 : Fld RX3 36 1 10 (2, 3) (.array .int) true := ⟨RX1, TX1, 14, tyX1, kcX1, by decide, rfl, (wsA_in (tb1 (List.mem_of_getElem? (i := 205) rfl)) rfl), rfl, rfl⟩
theorem fX3_39 : Fld RX3 39 2 6 (2, 5) (.array .int) true := ⟨RX2, TX2, 7, tyX2, kcX2, by decide, rfl, (wsA_in (tb1 (List.mem_of_getElem? (i := 121) rfl)) rfl), rfl, rfl⟩
theorem fX3_44 : Fld RX3 44 2 5 (2, 4) (.array .int) true := ⟨RX2, TX2, 7, tyX2, kcX2, by decide, rfl, (wsA_in (tb1 (List.mem_of_getElem? (i := 117) rfl)) rfl), rfl, rfl⟩
theorem vX3_47 : Cv RX3 47 mX2_isCaught 1 := ⟨(wsA_in (tb3 (List.mem_of_getElem? (i := 46) rfl)) rfl), (wsA_in (tb2 (List.mem_of_getElem? (i := 172) rfl)) rfl), (wsA_in (tb2 (List.mem_of_getElem? (i := 173) rfl)) rfl), (wsA_in (tb1 (List.mem_of_getElem? (i := 5) rfl)) rfl), (wsA_in (tb2 (List.mem_of_getElem? (i := 174) rfl)) rfl), by decide +kernel⟩
theorem fX3_9 : Fld RX3 9 3 2 (2, 1) (.array .int) true := ⟨RX3, TX3, 5, tyX3, kcX3, by decide, rfl, (wsA_in (tb1 (List.mem_of_getElem? (i := 60) rfl)) rfl), rfl, rfl⟩
theorem fX3_15 : Fld RX3 15 3 3 (2, 2) (.array .int) true := ⟨RX3, TX3, 5, tyX3, kcX3, by decide, rfl, (wsA_in (tb1 (List.mem_of_getElem? (i := 62) rfl)) rfl), rfl, rfl⟩
theorem fX3_18 : Fld RX3 18 3 4 (2, 3) (.array .int) true := ⟨RX3, TX3, 5, tyX3, kcX3, by decide, rfl, (wsA_in (tb1 (List.mem_of_getElem? (i := 63) rfl)) rfl), rfl, rfl⟩
theorem fX4_15 : Fld RX4 15 4 1 (0, 0) .int false := ⟨RX4, TX4, 7, tyX4, kcX4, by decide, rfl, (wsA_in (tb1 (List.mem_of_getElem? (i := 27) rfl)) rfl), rfl, rfl⟩
theorem fX4_9 : Fld RX4 9 4 0 (2, 1) (.array .int) true := ⟨RX4, TX4, 7, tyX4, kcX4, by decide, rfl, (wsA_in (tb1 (List.mem_of_getElem? (i := 26) rfl)) rfl), rfl, rfl⟩
theorem fX4_19 : Fld RX4 19 4 2 (0, 0) .int false := ⟨RX4, TX4, 7, tyX4, kcX4, by decide, rfl, (wsA_in (tb1 (List.mem_of_getElem? (i := 29) rfl)) rfl), rfl, rfl⟩
theorem fX4_22 : Fld RX4 22 4 6 (0, 0) .boolean false := ⟨RX4, TX4, 7, tyX4, kcX4, by decide, rfl, (wsA_in (tb1 (List.mem_of_getElem? (i := 33) rfl)) rfl), rfl, rfl⟩
theorem vX4_26 : Cv RX4 26 mX4_readToken 0 := ⟨(wsA_in (tb2 (List.mem_of_getElem? (i := 53) rfl)) rfl), (wsA_in (tb2 (List.mem_of_getElem? (i := 55) rfl)) rfl), (wsA_in (tb0 (List.mem_of_getElem? (i := 0) rfl)) rfl), (wsA_in (tb1 (List.mem_of_getElem? (i := 2) rfl)) rfl), (wsA_in (tb2 (List.mem_of_getElem? (i := 56) rfl)) rfl), by decide +kernel⟩
theorem fX4_29 : Fld RX4 29 4 3 (0, 0) .int false := ⟨RX4, TX4, 7, tyX4, kcX4, by decide, rfl, (wsA_in (tb1 (List.mem_of_getElem? (i := 30) rfl)) rfl), rfl, rfl⟩
theorem vX4_32 : Cv RX4 32 mX4_tellItem 2 := ⟨(wsA_in (tb2 (List.mem_of_getElem? (i := 74) rfl)) rfl), (wsA_in (tb2 (List.mem_of_getElem? (i := 76) rfl)) rfl), (wsA_in (tb0 (List.mem_of_getElem? (i := 3) rfl)) rfl), (wsA_in (tb1 (List.mem_of_getElem? (i := 2) rfl)) rfl), (wsA_in (tb2 (List.mem_of_getElem? (i := 77) rfl)) rfl), by decide +kernel⟩
theorem vX4_36 : Cv RX4 36 mX4_readStop 0 := ⟨(wsA_in (tb2 (List.mem_of_getElem? (i := 122) rfl)) rfl), (wsA_in (tb2 (List.mem_of_getElem? (i := 124) rfl)) rfl), (wsA_in (tb0 (List.mem_of_getElem? (i := 11) rfl)) rfl), (wsA_in (tb1 (List.mem_of_getElem? (i := 2) rfl)) rfl), (wsA_in (tb2 (List.mem_of_getElem? (i := 125) rfl)) rfl), by decide +kernel⟩
theorem fX4_39 : Fld RX4 39 4 4 (0, 0) .int false := ⟨RX4, TX4, 7, tyX4, kcX4, by decide, rfl, (wsA_in (tb1 (List.mem_of_getElem? (i := 31) rfl)) rfl), rfl, rfl⟩
theorem fX4_42 : Fld RX4 42 4 5 (0, 0) .int false := ⟨RX4, TX4, 7, tyX4, kcX4, by decide, rfl, (wsA_in (tb1 (List.mem_of_getElem? (i := 32) rfl)) rfl), rfl, rfl⟩
theorem vX4_45 : Cv RX4 45 mX4_tellRing 2 := ⟨(wsA_in (tb2 (List.mem_of_getElem? (i := 78) rfl)) rfl), (wsA_in (tb2 (List.mem_of_getElem? (i := 80) rfl)) rfl), (wsA_in (tb0 (List.mem_of_getElem? (i := 4) rfl)) rfl), (wsA_in (tb1 (List.mem_of_getElem? (i := 2) rfl)) rfl), (wsA_in (tb2 (List.mem_of_getElem? (i := 81) rfl)) rfl), by decide +kernel⟩
theorem vX4_48 : Cv RX4 48 mX4_tellCost 1 := ⟨(wsA_in (tb2 (List.mem_of_getElem? (i := 86) rfl)) rfl), (wsA_in (tb2 (List.mem_of_getElem? (i := 88) rfl)) rfl), (wsA_in (tb0 (List.mem_of_getElem? (i := 6) rfl)) rfl), (wsA_in (tb1 (List.mem_of_getElem? (i := 2) rfl)) rfl), (wsA_in (tb2 (List.mem_of_getElem? (i := 89) rfl)) rfl), by decide +kernel⟩
theorem vX4_52 : Cv RX4 52 mX4_tellSun 1 := ⟨(wsA_in (tb2 (List.mem_of_getElem? (i := 94) rfl)) rfl), (wsA_in (tb2 (List.mem_of_getElem? (i := 96) rfl)) rfl), (wsA_in (tb0 (List.mem_of_getElem? (i := 7) rfl)) rfl), (wsA_in (tb1 (List.mem_of_getElem? (i := 2) rfl)) rfl), (wsA_in (tb2 (List.mem_of_getElem? (i := 97) rfl)) rfl), by decide +kernel⟩
theorem vX4_55 : Cv RX4 55 mX4_tellBridge 1 := ⟨(wsA_in (tb2 (List.mem_of_getElem? (i := 98) rfl)) rfl), (wsA_in (tb2 (List.mem_of_getElem? (i := 100) rfl)) rfl), (wsA_in (tb0 (List.mem_of_getElem? (i := 8) rfl)) rfl), (wsA_in (tb1 (List.mem_of_getElem? (i := 2) rfl)) rfl), (wsA_in (tb2 (List.mem_of_getElem? (i := 101) rfl)) rfl), by decide +kernel⟩
theorem fX4_58 : Fld RX4 58 1 5 (0, 0) .int false := ⟨RX1, TX1, 14, tyX1, kcX1, by decide, rfl, (wsA_in (tb1 (List.mem_of_getElem? (i := 190) rfl)) rfl), rfl, rfl⟩
theorem fX4_63 : Fld RX4 63 1 0 (0, 0) .int false := ⟨RX1, TX1, 14, tyX1, kcX1, by decide, rfl, (wsA_in (tb1 (List.mem_of_getElem? (i := 176) rfl)) rfl), rfl, rfl⟩
theorem vX4_66 : Cv RX4 66 mX4_readNumber 2 := ⟨(wsA_in (tb2 (List.mem_of_getElem? (i := 82) rfl)) rfl), (wsA_in (tb2 (List.mem_of_getElem? (i := 84) rfl)) rfl), (wsA_in (tb0 (List.mem_of_getElem? (i := 5) rfl)) rfl), (wsA_in (tb1 (List.mem_of_getElem? (i := 2) rfl)) rfl), (wsA_in (tb2 (List.mem_of_getElem? (i := 85) rfl)) rfl), by decide +kernel⟩
theorem vX4_70 : Cv RX4 70 mX4_tellWagon 1 := ⟨(wsA_in (tb2 (List.mem_of_getElem? (i := 102) rfl)) rfl), (wsA_in (tb2 (List.mem_of_getElem? (i := 104) rfl)) rfl), (wsA_in (tb0 (List.mem_of_getElem? (i := 9) rfl)) rfl), (wsA_in (tb1 (List.mem_of_getElem? (i := 2) rfl)) rfl), (wsA_in (tb2 (List.mem_of_getElem? (i := 105) rfl)) rfl), by decide +kernel⟩
theorem vX4_73 : Cv RX4 73 mX4_tellPair 1 := ⟨(wsA_in (tb2 (List.mem_of_getElem? (i := 114) rfl)) rfl), (wsA_in (tb2 (List.mem_of_getElem? (i := 116) rfl)) rfl), (wsA_in (tb0 (List.mem_of_getElem? (i := 10) rfl)) rfl), (wsA_in (tb1 (List.mem_of_getElem? (i := 2) rfl)) rfl), (wsA_in (tb2 (List.mem_of_getElem? (i := 117) rfl)) rfl), by decide +kernel⟩
theorem vX4_76 : Cv RX4 76 mX1_hasPlace 1 := ⟨(wsA_in (tb2 (List.mem_of_getElem? (i := 90) rfl)) rfl), (wsA_in (tb2 (List.mem_of_getElem? (i := 91) rfl)) rfl), (wsA_in (tb2 (List.mem_of_getElem? (i := 92) rfl)) rfl), (wsA_in (tb1 (List.mem_of_getElem? (i := 7) rfl)) rfl), (wsA_in (tb2 (List.mem_of_getElem? (i := 93) rfl)) rfl), by decide +kernel⟩
theorem fX4_80 : Fld RX4 80 1 8 (2, 1) (.array .int) true := ⟨RX1, TX1, 14, tyX1, kcX1, by decide, rfl, (wsA_in (tb1 (List.mem_of_getElem? (i := 201) rfl)) rfl), rfl, rfl⟩
theorem fX4_83 : Fld RX4 83 1 3 (0, 0) .boolean false := ⟨RX1, TX1, 14, tyX1, kcX1, by decide, rfl, (wsA_in (tb1 (List.mem_of_getElem? (i := 185) rfl)) rfl), rfl, rfl⟩
theorem fX4_86 : Fld RX4 86 1 1 (0, 0) .int false := ⟨RX1, TX1, 14, tyX1, kcX1, by decide, rfl, (wsA_in (tb1 (List.mem_of_getElem? (i := 179) rfl)) rfl), rfl, rfl⟩
theorem fX4_89 : Fld RX4 89 1 2 (0, 0) .int false := ⟨RX1, TX1, 14, tyX1, kcX1, by decide, rfl, (wsA_in (tb1 (List.mem_of_getElem? (i := 182) rfl)) rfl), rfl, rfl⟩
theorem fX4_92 : Fld RX4 92 1 4 (0, 0) .int false := ⟨RX1, TX1, 14, tyX1, kcX1, by decide, rfl, (wsA_in (tb1 (List.mem_of_getElem? (i := 188) rfl)) rfl), rfl, rfl⟩
theorem fX4_95 : Fld RX4 95 1 6 (0, 0) .int false := ⟨RX1, TX1, 14, tyX1, kcX1, by decide, rfl, (wsA_in (tb1 (List.mem_of_getElem? (i := 194) rfl)) rfl), rfl, rfl⟩
theorem fX4_98 : Fld RX4 98 1 13 (2, 6) (.object "WheelTown$Moment") true := ⟨RX1, TX1, 14, tyX1, kcX1, by decide, rfl, (wsA_in (tb1 (List.mem_of_getElem? (i := 211) rfl)) rfl), rfl, rfl⟩
theorem vX4_101 : Cv RX4 101 mX1_isTaken 3 := ⟨(wsA_in (tb2 (List.mem_of_getElem? (i := 106) rfl)) rfl), (wsA_in (tb2 (List.mem_of_getElem? (i := 107) rfl)) rfl), (wsA_in (tb2 (List.mem_of_getElem? (i := 108) rfl)) rfl), (wsA_in (tb1 (List.mem_of_getElem? (i := 7) rfl)) rfl), (wsA_in (tb2 (List.mem_of_getElem? (i := 109) rfl)) rfl), by decide +kernel⟩
theorem vX4_105 : Cv RX4 105 mX1_addWagon 4 := ⟨(wsA_in (tb2 (List.mem_of_getElem? (i := 110) rfl)) rfl), (wsA_in (tb2 (List.mem_of_getElem? (i := 111) rfl)) rfl), (wsA_in (tb2 (List.mem_of_getElem? (i := 112) rfl)) rfl), (wsA_in (tb1 (List.mem_of_getElem? (i := 7) rfl)) rfl), (wsA_in (tb2 (List.mem_of_getElem? (i := 113) rfl)) rfl), by decide +kernel⟩
theorem fX4_109 : Fld RX4 109 1 7 (0, 0) .int false := ⟨RX1, TX1, 14, tyX1, kcX1, by decide, rfl, (wsA_in (tb1 (List.mem_of_getElem? (i := 197) rfl)) rfl), rfl, rfl⟩
theorem vX4_112 : Cv RX4 112 mX1_addPair 2 := ⟨(wsA_in (tb2 (List.mem_of_getElem? (i := 118) rfl)) rfl), (wsA_in (tb2 (List.mem_of_getElem? (i := 119) rfl)) rfl), (wsA_in (tb2 (List.mem_of_getElem? (i := 120) rfl)) rfl), (wsA_in (tb1 (List.mem_of_getElem? (i := 7) rfl)) rfl), (wsA_in (tb2 (List.mem_of_getElem? (i := 121) rfl)) rfl), by decide +kernel⟩
theorem vX4_116 : Cst RX4 116 mX4_isLetter 1 := ⟨(wsA_in (tb2 (List.mem_of_getElem? (i := 57) rfl)) rfl), (wsA_in (tb2 (List.mem_of_getElem? (i := 58) rfl)) rfl), (wsA_in (tb1 (List.mem_of_getElem? (i := 2) rfl)) rfl), (wsA_in (tb2 (List.mem_of_getElem? (i := 59) rfl)) rfl), by decide +kernel⟩
theorem vX4_119 : Cv RX4 119 mX4_readLetters 0 := ⟨(wsA_in (tb2 (List.mem_of_getElem? (i := 60) rfl)) rfl), (wsA_in (tb2 (List.mem_of_getElem? (i := 62) rfl)) rfl), (wsA_in (tb0 (List.mem_of_getElem? (i := 1) rfl)) rfl), (wsA_in (tb1 (List.mem_of_getElem? (i := 2) rfl)) rfl), (wsA_in (tb2 (List.mem_of_getElem? (i := 63) rfl)) rfl), by decide +kernel⟩
theorem vX4_122 : Cst RX4 122 mX4_isDigit 1 := ⟨(wsA_in (tb2 (List.mem_of_getElem? (i := 64) rfl)) rfl), (wsA_in (tb2 (List.mem_of_getElem? (i := 65) rfl)) rfl), (wsA_in (tb1 (List.mem_of_getElem? (i := 2) rfl)) rfl), (wsA_in (tb2 (List.mem_of_getElem? (i := 66) rfl)) rfl), by decide +kernel⟩
theorem vX4_125 : Cv RX4 125 mX4_readDigits 0 := ⟨(wsA_in (tb2 (List.mem_of_getElem? (i := 67) rfl)) rfl), (wsA_in (tb2 (List.mem_of_getElem? (i := 69) rfl)) rfl), (wsA_in (tb0 (List.mem_of_getElem? (i := 2) rfl)) rfl), (wsA_in (tb1 (List.mem_of_getElem? (i := 2) rfl)) rfl), (wsA_in (tb2 (List.mem_of_getElem? (i := 70) rfl)) rfl), by decide +kernel⟩
theorem vX4_128 : Cond.methodLink RX4 128 Lib.Math.min.name ∈ wsA ∧ Cond.static Lib.Math.min.name ∈ wsA ∧ Cond.initialized "java/lang/Math" ∈ wsA ∧ Cond.code Lib.Math.min.name Lib.Math.min.code 2 (some .int) ∈ wsA := ⟨(wsA_in (tb2 (List.mem_of_getElem? (i := 71) rfl)) rfl), (wsA_in (tb2 (List.mem_of_getElem? (i := 72) rfl)) rfl), (wsA_in (tb1 (List.mem_of_getElem? (i := 9) rfl)) rfl), (wsA_in (tb2 (List.mem_of_getElem? (i := 73) rfl)) rfl)⟩
theorem fX5_12 : Fld RX5 12 5 0 (2, 1) (.object "WheelTown$Moment") true := ⟨RX5, TX5, 4, tyX5, kcX5, by decide, rfl, (wsA_in (tb1 (List.mem_of_getElem? (i := 148) rfl)) rfl), rfl, rfl⟩
theorem vX5_22 : Cv RX5 22 mX2_copyFrom 1 := ⟨(wsA_in (tb2 (List.mem_of_getElem? (i := 154) rfl)) rfl), (wsA_in (tb2 (List.mem_of_getElem? (i := 155) rfl)) rfl), (wsA_in (tb2 (List.mem_of_getElem? (i := 156) rfl)) rfl), (wsA_in (tb1 (List.mem_of_getElem? (i := 5) rfl)) rfl), (wsA_in (tb2 (List.mem_of_getElem? (i := 157) rfl)) rfl), by decide +kernel⟩
theorem fX5_26 : Fld RX5 26 5 2 (0, 0) .int false := ⟨RX5, TX5, 4, tyX5, kcX5, by decide, rfl, (wsA_in (tb1 (List.mem_of_getElem? (i := 151) rfl)) rfl), rfl, rfl⟩
theorem vX5_30 : Cv RX5 30 mX5_loseOldest 0 := ⟨(wsA_in (tb2 (List.mem_of_getElem? (i := 200) rfl)) rfl), (wsA_in (tb2 (List.mem_of_getElem? (i := 202) rfl)) rfl), (wsA_in (tb0 (List.mem_of_getElem? (i := 13) rfl)) rfl), (wsA_in (tb1 (List.mem_of_getElem? (i := 6) rfl)) rfl), (wsA_in (tb2 (List.mem_of_getElem? (i := 203) rfl)) rfl), by decide +kernel⟩
theorem fX5_18 : Fld RX5 18 5 1 (2, 7) (.array (.object "WheelTown$Moment")) true := ⟨RX5, TX5, 4, tyX5, kcX5, by decide, rfl, (wsA_in (tb1 (List.mem_of_getElem? (i := 150) rfl)) rfl), rfl, rfl⟩
theorem fX6_10 : Fld RX6 10 6 0 (2, 1) (.object "WheelTown$Reader") true := ⟨RX6, TX6, 10, tyX6, kcX6, by decide, rfl, (wsA_in (tb2 (List.mem_of_getElem? (i := 1) rfl)) rfl), rfl, rfl⟩
theorem vX6_60 : Cv RX6 60 mX4_add 1 := ⟨(wsA_in (tb2 (List.mem_of_getElem? (i := 36) rfl)) rfl), (wsA_in (tb2 (List.mem_of_getElem? (i := 37) rfl)) rfl), (wsA_in (tb2 (List.mem_of_getElem? (i := 38) rfl)) rfl), (wsA_in (tb1 (List.mem_of_getElem? (i := 2) rfl)) rfl), (wsA_in (tb2 (List.mem_of_getElem? (i := 39) rfl)) rfl), by decide +kernel⟩
theorem fX6_64 : Fld RX6 64 4 1 (0, 0) .int false := ⟨RX4, TX4, 7, tyX4, kcX4, by decide, rfl, (wsA_in (tb1 (List.mem_of_getElem? (i := 28) rfl)) rfl), rfl, rfl⟩
theorem fX6_57 : Fld RX6 57 6 8 (3, 0) (.object "WheelTown$Ground") false := ⟨RX6, TX6, 10, tyX6, kcX6, by decide, rfl, (wsA_in (tb2 (List.mem_of_getElem? (i := 9) rfl)) rfl), rfl, rfl⟩
theorem vX6_68 : Cv RX6 68 mX1_reset 0 := ⟨(wsA_in (tb2 (List.mem_of_getElem? (i := 48) rfl)) rfl), (wsA_in (tb1 (List.mem_of_getElem? (i := 172) rfl)) rfl), (wsA_in (tb1 (List.mem_of_getElem? (i := 173) rfl)) rfl), (wsA_in (tb1 (List.mem_of_getElem? (i := 7) rfl)) rfl), (wsA_in (tb1 (List.mem_of_getElem? (i := 174) rfl)) rfl), by decide +kernel⟩
theorem vX6_71 : Cv RX6 71 mX4_tell 1 := ⟨(wsA_in (tb2 (List.mem_of_getElem? (i := 49) rfl)) rfl), (wsA_in (tb2 (List.mem_of_getElem? (i := 50) rfl)) rfl), (wsA_in (tb2 (List.mem_of_getElem? (i := 51) rfl)) rfl), (wsA_in (tb1 (List.mem_of_getElem? (i := 2) rfl)) rfl), (wsA_in (tb2 (List.mem_of_getElem? (i := 52) rfl)) rfl), by decide +kernel⟩
theorem vX6_75 : Cv RX6 75 mX1_settle 0 := ⟨(wsA_in (tb2 (List.mem_of_getElem? (i := 126) rfl)) rfl), (wsA_in (tb2 (List.mem_of_getElem? (i := 127) rfl)) rfl), (wsA_in (tb2 (List.mem_of_getElem? (i := 128) rfl)) rfl), (wsA_in (tb1 (List.mem_of_getElem? (i := 7) rfl)) rfl), (wsA_in (tb2 (List.mem_of_getElem? (i := 129) rfl)) rfl), by decide +kernel⟩
theorem fX6_53 : Fld RX6 53 6 7 (3, 0) (.object "WheelTown$Ground") false := ⟨RX6, TX6, 10, tyX6, kcX6, by decide, rfl, (wsA_in (tb2 (List.mem_of_getElem? (i := 8) rfl)) rfl), rfl, rfl⟩
theorem fX6_40 : Fld RX6 40 6 4 (2, 16) (.object "WheelTown$Story") true := ⟨RX6, TX6, 10, tyX6, kcX6, by decide, rfl, (wsA_in (tb2 (List.mem_of_getElem? (i := 5) rfl)) rfl), rfl, rfl⟩
theorem fX6_78 : Fld RX6 78 1 13 (2, 6) (.object "WheelTown$Moment") true := ⟨RX1, TX1, 14, tyX1, kcX1, by decide, rfl, (wsA_in (tb1 (List.mem_of_getElem? (i := 210) rfl)) rfl), rfl, rfl⟩
theorem vX6_81 : Cv RX6 81 mX5_begin 1 := ⟨(wsA_in (tb2 (List.mem_of_getElem? (i := 150) rfl)) rfl), (wsA_in (tb2 (List.mem_of_getElem? (i := 151) rfl)) rfl), (wsA_in (tb2 (List.mem_of_getElem? (i := 152) rfl)) rfl), (wsA_in (tb1 (List.mem_of_getElem? (i := 6) rfl)) rfl), (wsA_in (tb2 (List.mem_of_getElem? (i := 153) rfl)) rfl), by decide +kernel⟩
theorem fX6_44 : Fld RX6 44 6 5 (2, 84) (.object "WheelTown$Story") true := ⟨RX6, TX6, 10, tyX6, kcX6, by decide, rfl, (wsA_in (tb2 (List.mem_of_getElem? (i := 6) rfl)) rfl), rfl, rfl⟩
theorem fX6_85 : Fld RX6 85 5 3 (0, 0) .boolean false := ⟨RX5, TX5, 4, tyX5, kcX5, by decide, rfl, (wsA_in (tb1 (List.mem_of_getElem? (i := 153) rfl)) rfl), rfl, rfl⟩
theorem fX6_47 : Fld RX6 47 6 6 (2, 152) (.object "WheelTown$Story") true := ⟨RX6, TX6, 10, tyX6, kcX6, by decide, rfl, (wsA_in (tb2 (List.mem_of_getElem? (i := 7) rfl)) rfl), rfl, rfl⟩
theorem vX6_89 : Cv RX6 89 mX1_hasPlace 1 := ⟨(wsA_in (tb2 (List.mem_of_getElem? (i := 165) rfl)) rfl), (wsA_in (tb2 (List.mem_of_getElem? (i := 91) rfl)) rfl), (wsA_in (tb2 (List.mem_of_getElem? (i := 92) rfl)) rfl), (wsA_in (tb1 (List.mem_of_getElem? (i := 7) rfl)) rfl), (wsA_in (tb2 (List.mem_of_getElem? (i := 93) rfl)) rfl), by decide +kernel⟩
theorem fX6_92 : Fld RX6 92 1 8 (2, 1) (.array .int) true := ⟨RX1, TX1, 14, tyX1, kcX1, by decide, rfl, (wsA_in (tb1 (List.mem_of_getElem? (i := 200) rfl)) rfl), rfl, rfl⟩
theorem fX6_96 : Fld RX6 96 1 5 (0, 0) .int false := ⟨RX1, TX1, 14, tyX1, kcX1, by decide, rfl, (wsA_in (tb1 (List.mem_of_getElem? (i := 191) rfl)) rfl), rfl, rfl⟩
theorem fX6_99 : Fld RX6 99 1 4 (0, 0) .int false := ⟨RX1, TX1, 14, tyX1, kcX1, by decide, rfl, (wsA_in (tb1 (List.mem_of_getElem? (i := 187) rfl)) rfl), rfl, rfl⟩
theorem vX6_102 : Cv RX6 102 mX1_hasWagon 1 := ⟨(wsA_in (tb2 (List.mem_of_getElem? (i := 170) rfl)) rfl), (wsA_in (tb2 (List.mem_of_getElem? (i := 135) rfl)) rfl), (wsA_in (tb2 (List.mem_of_getElem? (i := 136) rfl)) rfl), (wsA_in (tb1 (List.mem_of_getElem? (i := 7) rfl)) rfl), (wsA_in (tb2 (List.mem_of_getElem? (i := 137) rfl)) rfl), by decide +kernel⟩
theorem fX6_105 : Fld RX6 105 5 0 (2, 1) (.object "WheelTown$Moment") true := ⟨RX5, TX5, 4, tyX5, kcX5, by decide, rfl, (wsA_in (tb1 (List.mem_of_getElem? (i := 149) rfl)) rfl), rfl, rfl⟩
theorem fX6_108 : Fld RX6 108 2 2 (2, 1) (.array .int) true := ⟨RX2, TX2, 7, tyX2, kcX2, by decide, rfl, (wsA_in (tb1 (List.mem_of_getElem? (i := 108) rfl)) rfl), rfl, rfl⟩
theorem fX6_111 : Fld RX6 111 1 9 (2, 2) (.array .int) true := ⟨RX1, TX1, 14, tyX1, kcX1, by decide, rfl, (wsA_in (tb1 (List.mem_of_getElem? (i := 203) rfl)) rfl), rfl, rfl⟩
theorem fX6_114 : Fld RX6 114 1 10 (2, 3) (.array .int) true := ⟨RX1, TX1, 14, tyX1, kcX1, by decide, rfl, (wsA_in (tb1 (List.mem_of_getElem? (i := 206) rfl)) rfl), rfl, rfl⟩
theorem fX6_117 : Fld RX6 117 2 3 (2, 2) (.array .int) true := ⟨RX2, TX2, 7, tyX2, kcX2, by decide, rfl, (wsA_in (tb1 (List.mem_of_getElem? (i := 111) rfl)) rfl), rfl, rfl⟩
theorem fX6_120 : Fld RX6 120 2 4 (2, 3) (.array .int) true := ⟨RX2, TX2, 7, tyX2, kcX2, by decide, rfl, (wsA_in (tb1 (List.mem_of_getElem? (i := 115) rfl)) rfl), rfl, rfl⟩
theorem fX6_123 : Fld RX6 123 2 5 (2, 4) (.array .int) true := ⟨RX2, TX2, 7, tyX2, kcX2, by decide, rfl, (wsA_in (tb1 (List.mem_of_getElem? (i := 118) rfl)) rfl), rfl, rfl⟩
theorem fX6_126 : Fld RX6 126 2 6 (2, 5) (.array .int) true := ⟨RX2, TX2, 7, tyX2, kcX2, by decide, rfl, (wsA_in (tb1 (List.mem_of_getElem? (i := 122) rfl)) rfl), rfl, rfl⟩
theorem vX6_129 : Cv RX6 129 mX2_isCaught 1 := ⟨(wsA_in (tb2 (List.mem_of_getElem? (i := 171) rfl)) rfl), (wsA_in (tb2 (List.mem_of_getElem? (i := 172) rfl)) rfl), (wsA_in (tb2 (List.mem_of_getElem? (i := 173) rfl)) rfl), (wsA_in (tb1 (List.mem_of_getElem? (i := 5) rfl)) rfl), (wsA_in (tb2 (List.mem_of_getElem? (i := 174) rfl)) rfl), by decide +kernel⟩
theorem fX6_132 : Fld RX6 132 2 0 (0, 0) .int false := ⟨RX2, TX2, 7, tyX2, kcX2, by decide, rfl, (wsA_in (tb1 (List.mem_of_getElem? (i := 100) rfl)) rfl), rfl, rfl⟩
theorem fX6_135 : Fld RX6 135 1 0 (0, 0) .int false := ⟨RX1, TX1, 14, tyX1, kcX1, by decide, rfl, (wsA_in (tb1 (List.mem_of_getElem? (i := 177) rfl)) rfl), rfl, rfl⟩
theorem fX6_138 : Fld RX6 138 1 1 (0, 0) .int false := ⟨RX1, TX1, 14, tyX1, kcX1, by decide, rfl, (wsA_in (tb1 (List.mem_of_getElem? (i := 180) rfl)) rfl), rfl, rfl⟩
theorem fX6_141 : Fld RX6 141 1 2 (0, 0) .int false := ⟨RX1, TX1, 14, tyX1, kcX1, by decide, rfl, (wsA_in (tb1 (List.mem_of_getElem? (i := 183) rfl)) rfl), rfl, rfl⟩
theorem fX6_144 : Fld RX6 144 2 1 (0, 0) .int false := ⟨RX2, TX2, 7, tyX2, kcX2, by decide, rfl, (wsA_in (tb1 (List.mem_of_getElem? (i := 103) rfl)) rfl), rfl, rfl⟩
theorem vX6_147 : Cv RX6 147 mX1_withWorkDone 1 := ⟨(wsA_in (tb2 (List.mem_of_getElem? (i := 179) rfl)) rfl), (wsA_in (tb2 (List.mem_of_getElem? (i := 180) rfl)) rfl), (wsA_in (tb2 (List.mem_of_getElem? (i := 181) rfl)) rfl), (wsA_in (tb1 (List.mem_of_getElem? (i := 7) rfl)) rfl), (wsA_in (tb2 (List.mem_of_getElem? (i := 182) rfl)) rfl), by decide +kernel⟩
theorem kX6_151 : Cond.constant RX6 151 (-1000000) ∈ wsA := (wsA_in (tb2 (List.mem_of_getElem? (i := 187) rfl)) rfl)
theorem vX6_152 : Cv RX6 152 mX1_sunWay 2 := ⟨(wsA_in (tb2 (List.mem_of_getElem? (i := 188) rfl)) rfl), (wsA_in (tb2 (List.mem_of_getElem? (i := 189) rfl)) rfl), (wsA_in (tb2 (List.mem_of_getElem? (i := 190) rfl)) rfl), (wsA_in (tb1 (List.mem_of_getElem? (i := 7) rfl)) rfl), (wsA_in (tb2 (List.mem_of_getElem? (i := 191) rfl)) rfl), by decide +kernel⟩
theorem vX6_156 : Cv RX6 156 mX5_remember 0 := ⟨(wsA_in (tb2 (List.mem_of_getElem? (i := 196) rfl)) rfl), (wsA_in (tb2 (List.mem_of_getElem? (i := 197) rfl)) rfl), (wsA_in (tb2 (List.mem_of_getElem? (i := 198) rfl)) rfl), (wsA_in (tb1 (List.mem_of_getElem? (i := 6) rfl)) rfl), (wsA_in (tb2 (List.mem_of_getElem? (i := 199) rfl)) rfl), by decide +kernel⟩
theorem vX6_159 : Cv RX6 159 mX1_pass 1 := ⟨(wsA_in (tb2 (List.mem_of_getElem? (i := 204) rfl)) rfl), (wsA_in (tb2 (List.mem_of_getElem? (i := 205) rfl)) rfl), (wsA_in (tb2 (List.mem_of_getElem? (i := 206) rfl)) rfl), (wsA_in (tb1 (List.mem_of_getElem? (i := 7) rfl)) rfl), (wsA_in (tb2 (List.mem_of_getElem? (i := 207) rfl)) rfl), by decide +kernel⟩
theorem vX6_162 : Cst RX6 162 mJ6_bitCount_0f7a4 1 := ⟨(wsA_in (tb2 (List.mem_of_getElem? (i := 226) rfl)) rfl), (wsA_in (tb2 (List.mem_of_getElem? (i := 227) rfl)) rfl), (wsA_in (tb1 (List.mem_of_getElem? (i := 11) rfl)) rfl), (wsA_in (tb2 (List.mem_of_getElem? (i := 228) rfl)) rfl), by decide +kernel⟩
theorem vX6_168 : Cv RX6 168 mX1_hasPoints 1 := ⟨(wsA_in (tb3 (List.mem_of_getElem? (i := 0) rfl)) rfl), (wsA_in (tb3 (List.mem_of_getElem? (i := 1) rfl)) rfl), (wsA_in (tb3 (List.mem_of_getElem? (i := 2) rfl)) rfl), (wsA_in (tb1 (List.mem_of_getElem? (i := 7) rfl)) rfl), (wsA_in (tb3 (List.mem_of_getElem? (i := 3) rfl)) rfl), by decide +kernel⟩
theorem vX6_171 : Cv RX6 171 mX1_isTaken 3 := ⟨(wsA_in (tb3 (List.mem_of_getElem? (i := 4) rfl)) rfl), (wsA_in (tb2 (List.mem_of_getElem? (i := 107) rfl)) rfl), (wsA_in (tb2 (List.mem_of_getElem? (i := 108) rfl)) rfl), (wsA_in (tb1 (List.mem_of_getElem? (i := 7) rfl)) rfl), (wsA_in (tb2 (List.mem_of_getElem? (i := 109) rfl)) rfl), by decide +kernel⟩
theorem vX6_175 : Cv RX6 175 mX5_takeBack 0 := ⟨(wsA_in (tb3 (List.mem_of_getElem? (i := 9) rfl)) rfl), (wsA_in (tb3 (List.mem_of_getElem? (i := 10) rfl)) rfl), (wsA_in (tb3 (List.mem_of_getElem? (i := 11) rfl)) rfl), (wsA_in (tb1 (List.mem_of_getElem? (i := 6) rfl)) rfl), (wsA_in (tb3 (List.mem_of_getElem? (i := 12) rfl)) rfl), by decide +kernel⟩
theorem fX6_179 : Fld RX6 179 5 2 (0, 0) .int false := ⟨RX5, TX5, 4, tyX5, kcX5, by decide, rfl, (wsA_in (tb1 (List.mem_of_getElem? (i := 152) rfl)) rfl), rfl, rfl⟩
theorem fX6_33 : Fld RX6 33 6 3 (2, 10) (.object "WheelTown$Moment") true := ⟨RX6, TX6, 10, tyX6, kcX6, by decide, rfl, (wsA_in (tb2 (List.mem_of_getElem? (i := 4) rfl)) rfl), rfl, rfl⟩
theorem vX6_182 : Cv RX6 182 mX2_copyFrom 1 := ⟨(wsA_in (tb3 (List.mem_of_getElem? (i := 17) rfl)) rfl), (wsA_in (tb2 (List.mem_of_getElem? (i := 155) rfl)) rfl), (wsA_in (tb2 (List.mem_of_getElem? (i := 156) rfl)) rfl), (wsA_in (tb1 (List.mem_of_getElem? (i := 5) rfl)) rfl), (wsA_in (tb2 (List.mem_of_getElem? (i := 157) rfl)) rfl), by decide +kernel⟩
theorem vX6_185 : Cst RX6 185 mX6_leastOf 1 := ⟨(wsA_in (tb3 (List.mem_of_getElem? (i := 22) rfl)) rfl), (wsA_in (tb3 (List.mem_of_getElem? (i := 23) rfl)) rfl), (wsA_in (tb1 (List.mem_of_getElem? (i := 1) rfl)) rfl), (wsA_in (tb3 (List.mem_of_getElem? (i := 24) rfl)) rfl), by decide +kernel⟩
theorem fX6_19 : Fld RX6 19 6 1 (2, 3) (.object "WheelTown$Plan") true := ⟨RX6, TX6, 10, tyX6, kcX6, by decide, rfl, (wsA_in (tb2 (List.mem_of_getElem? (i := 2) rfl)) rfl), rfl, rfl⟩
theorem vX6_188 : Cv RX6 188 mX3_gatherNone 0 := ⟨(wsA_in (tb3 (List.mem_of_getElem? (i := 33) rfl)) rfl), (wsA_in (tb3 (List.mem_of_getElem? (i := 34) rfl)) rfl), (wsA_in (tb3 (List.mem_of_getElem? (i := 35) rfl)) rfl), (wsA_in (tb1 (List.mem_of_getElem? (i := 3) rfl)) rfl), (wsA_in (tb3 (List.mem_of_getElem? (i := 36) rfl)) rfl), by decide +kernel⟩
theorem vX6_191 : Cond.methodLink RX6 191 Lib.Math.min.name ∈ wsA ∧ Cond.static Lib.Math.min.name ∈ wsA ∧ Cond.initialized "java/lang/Math" ∈ wsA ∧ Cond.code Lib.Math.min.name Lib.Math.min.code 2 (some .int) ∈ wsA := ⟨(wsA_in (tb3 (List.mem_of_getElem? (i := 37) rfl)) rfl), (wsA_in (tb2 (List.mem_of_getElem? (i := 72) rfl)) rfl), (wsA_in (tb1 (List.mem_of_getElem? (i := 9) rfl)) rfl), (wsA_in (tb2 (List.mem_of_getElem? (i := 73) rfl)) rfl)⟩
theorem vX6_196 : Cv RX6 196 mX6_isTrialSafe 0 := ⟨(wsA_in (tb3 (List.mem_of_getElem? (i := 38) rfl)) rfl), (wsA_in (tb3 (List.mem_of_getElem? (i := 40) rfl)) rfl), (wsA_in (tb0 (List.mem_of_getElem? (i := 18) rfl)) rfl), (wsA_in (tb1 (List.mem_of_getElem? (i := 1) rfl)) rfl), (wsA_in (tb3 (List.mem_of_getElem? (i := 41) rfl)) rfl), by decide +kernel⟩
theorem vX6_199 : Cv RX6 199 mX3_gather 2 := ⟨(wsA_in (tb3 (List.mem_of_getElem? (i := 51) rfl)) rfl), (wsA_in (tb3 (List.mem_of_getElem? (i := 52) rfl)) rfl), (wsA_in (tb3 (List.mem_of_getElem? (i := 53) rfl)) rfl), (wsA_in (tb1 (List.mem_of_getElem? (i := 3) rfl)) rfl), (wsA_in (tb3 (List.mem_of_getElem? (i := 54) rfl)) rfl), by decide +kernel⟩
theorem vX6_203 : Cv RX6 203 mX6_findStarts 0 := ⟨(wsA_in (tb3 (List.mem_of_getElem? (i := 56) rfl)) rfl), (wsA_in (tb3 (List.mem_of_getElem? (i := 58) rfl)) rfl), (wsA_in (tb0 (List.mem_of_getElem? (i := 19) rfl)) rfl), (wsA_in (tb1 (List.mem_of_getElem? (i := 1) rfl)) rfl), (wsA_in (tb3 (List.mem_of_getElem? (i := 59) rfl)) rfl), by decide +kernel⟩
theorem vX6_206 : Cv RX6 206 mX3_sum 0 := ⟨(wsA_in (tb3 (List.mem_of_getElem? (i := 69) rfl)) rfl), (wsA_in (tb3 (List.mem_of_getElem? (i := 70) rfl)) rfl), (wsA_in (tb3 (List.mem_of_getElem? (i := 71) rfl)) rfl), (wsA_in (tb1 (List.mem_of_getElem? (i := 3) rfl)) rfl), (wsA_in (tb3 (List.mem_of_getElem? (i := 72) rfl)) rfl), by decide +kernel⟩
theorem vX6_210 : Cv RX6 210 mX3_startOf 1 := ⟨(wsA_in (tb3 (List.mem_of_getElem? (i := 73) rfl)) rfl), (wsA_in (tb3 (List.mem_of_getElem? (i := 74) rfl)) rfl), (wsA_in (tb3 (List.mem_of_getElem? (i := 75) rfl)) rfl), (wsA_in (tb1 (List.mem_of_getElem? (i := 3) rfl)) rfl), (wsA_in (tb3 (List.mem_of_getElem? (i := 76) rfl)) rfl), by decide +kernel⟩
theorem fX6_213 : Fld RX6 213 3 0 (0, 0) .int false := ⟨RX3, TX3, 5, tyX3, kcX3, by decide, rfl, (wsA_in (tb1 (List.mem_of_getElem? (i := 57) rfl)) rfl), rfl, rfl⟩
theorem fX6_216 : Fld RX6 216 3 1 (0, 0) .int false := ⟨RX3, TX3, 5, tyX3, kcX3, by decide, rfl, (wsA_in (tb1 (List.mem_of_getElem? (i := 59) rfl)) rfl), rfl, rfl⟩
theorem fX6_219 : Fld RX6 219 3 2 (2, 1) (.array .int) true := ⟨RX3, TX3, 5, tyX3, kcX3, by decide, rfl, (wsA_in (tb1 (List.mem_of_getElem? (i := 61) rfl)) rfl), rfl, rfl⟩
theorem vX6_222 : Cv RX6 222 mX1_lengthOn 2 := ⟨(wsA_in (tb3 (List.mem_of_getElem? (i := 85) rfl)) rfl), (wsA_in (tb3 (List.mem_of_getElem? (i := 86) rfl)) rfl), (wsA_in (tb3 (List.mem_of_getElem? (i := 87) rfl)) rfl), (wsA_in (tb1 (List.mem_of_getElem? (i := 7) rfl)) rfl), (wsA_in (tb3 (List.mem_of_getElem? (i := 88) rfl)) rfl), by decide +kernel⟩
theorem vX6_226 : Cond.methodLink RX6 226 Lib.Math.max.name ∈ wsA ∧ Cond.static Lib.Math.max.name ∈ wsA ∧ Cond.initialized "java/lang/Math" ∈ wsA ∧ Cond.code Lib.Math.max.name Lib.Math.max.code 2 (some .int) ∈ wsA := ⟨(wsA_in (tb3 (List.mem_of_getElem? (i := 64) rfl)) rfl), (wsA_in (tb2 (List.mem_of_getElem? (i := 139) rfl)) rfl), (wsA_in (tb1 (List.mem_of_getElem? (i := 9) rfl)) rfl), (wsA_in (tb2 (List.mem_of_getElem? (i := 140) rfl)) rfl)⟩
theorem vX6_229 : Cv RX6 229 mX1_wagonsAt 2 := ⟨(wsA_in (tb3 (List.mem_of_getElem? (i := 94) rfl)) rfl), (wsA_in (tb3 (List.mem_of_getElem? (i := 95) rfl)) rfl), (wsA_in (tb3 (List.mem_of_getElem? (i := 96) rfl)) rfl), (wsA_in (tb1 (List.mem_of_getElem? (i := 7) rfl)) rfl), (wsA_in (tb3 (List.mem_of_getElem? (i := 97) rfl)) rfl), by decide +kernel⟩
theorem vX6_232 : Cv RX6 232 mX6_isChance 3 := ⟨(wsA_in (tb3 (List.mem_of_getElem? (i := 102) rfl)) rfl), (wsA_in (tb3 (List.mem_of_getElem? (i := 104) rfl)) rfl), (wsA_in (tb0 (List.mem_of_getElem? (i := 20) rfl)) rfl), (wsA_in (tb1 (List.mem_of_getElem? (i := 1) rfl)) rfl), (wsA_in (tb3 (List.mem_of_getElem? (i := 105) rfl)) rfl), by decide +kernel⟩
theorem kX6_236 : Cond.constantLong RX6 236 (-1) ∈ wsA := (wsA_in (tb3 (List.mem_of_getElem? (i := 106) rfl)) rfl)
theorem kX6_238 : Cond.constantLong RX6 238 (-2) ∈ wsA := (wsA_in (tb3 (List.mem_of_getElem? (i := 107) rfl)) rfl)
theorem fX6_26 : Fld RX6 26 6 2 (2, 7) (.object "WheelTown$Chance") true := ⟨RX6, TX6, 10, tyX6, kcX6, by decide, rfl, (wsA_in (tb2 (List.mem_of_getElem? (i := 3) rfl)) rfl), rfl, rfl⟩
theorem vX6_240 : Cv RX6 240 mX0_foresee 3 := ⟨(wsA_in (tb3 (List.mem_of_getElem? (i := 108) rfl)) rfl), (wsA_in (tb3 (List.mem_of_getElem? (i := 109) rfl)) rfl), (wsA_in (tb3 (List.mem_of_getElem? (i := 110) rfl)) rfl), (wsA_in (tb1 (List.mem_of_getElem? (i := 4) rfl)) rfl), (wsA_in (tb3 (List.mem_of_getElem? (i := 111) rfl)) rfl), by decide +kernel⟩
theorem vX6_244 : Cv RX6 244 mX0_runsAhead 4 := ⟨(wsA_in (tb3 (List.mem_of_getElem? (i := 114) rfl)) rfl), (wsA_in (tb3 (List.mem_of_getElem? (i := 115) rfl)) rfl), (wsA_in (tb3 (List.mem_of_getElem? (i := 116) rfl)) rfl), (wsA_in (tb1 (List.mem_of_getElem? (i := 4) rfl)) rfl), (wsA_in (tb3 (List.mem_of_getElem? (i := 117) rfl)) rfl), by decide +kernel⟩
theorem vX6_248 : Cst RX6 248 mX6_powerOfTen 1 := ⟨(wsA_in (tb3 (List.mem_of_getElem? (i := 124) rfl)) rfl), (wsA_in (tb3 (List.mem_of_getElem? (i := 125) rfl)) rfl), (wsA_in (tb1 (List.mem_of_getElem? (i := 1) rfl)) rfl), (wsA_in (tb3 (List.mem_of_getElem? (i := 126) rfl)) rfl), by decide +kernel⟩
theorem vX6_252 : Cst RX6 252 mX6_commonDivisor 2 := ⟨(wsA_in (tb3 (List.mem_of_getElem? (i := 128) rfl)) rfl), (wsA_in (tb3 (List.mem_of_getElem? (i := 129) rfl)) rfl), (wsA_in (tb1 (List.mem_of_getElem? (i := 1) rfl)) rfl), (wsA_in (tb3 (List.mem_of_getElem? (i := 130) rfl)) rfl), by decide +kernel⟩
theorem vX6_256 : Cond.methodLink RX6 256 Lib.MathLoose.max_long.x ∈ wsA ∧ Cond.static Lib.MathLoose.max_long.x ∈ wsA ∧ Cond.initialized "java/lang/Math" ∈ wsA ∧ Cond.code Lib.MathLoose.max_long.x Lib.MathLoose.max_long.code 4 (some .long) ∈ wsA := ⟨(wsA_in (tb3 (List.mem_of_getElem? (i := 131) rfl)) rfl), (wsA_in (tb3 (List.mem_of_getElem? (i := 132) rfl)) rfl), (wsA_in (tb1 (List.mem_of_getElem? (i := 9) rfl)) rfl), (wsA_in (tb3 (List.mem_of_getElem? (i := 133) rfl)) rfl)⟩
theorem kX6_258 : Cond.constantLong RX6 258 (10) ∈ wsA := (wsA_in (tb3 (List.mem_of_getElem? (i := 127) rfl)) rfl)
theorem vX6_260 : Cv RX6 260 mX6_wagonMark 1 := ⟨(wsA_in (tb3 (List.mem_of_getElem? (i := 142) rfl)) rfl), (wsA_in (tb3 (List.mem_of_getElem? (i := 144) rfl)) rfl), (wsA_in (tb0 (List.mem_of_getElem? (i := 22) rfl)) rfl), (wsA_in (tb1 (List.mem_of_getElem? (i := 1) rfl)) rfl), (wsA_in (tb3 (List.mem_of_getElem? (i := 145) rfl)) rfl), by decide +kernel⟩
theorem vX6_263 : Cv RX6 263 mX6_forgeMark 1 := ⟨(wsA_in (tb3 (List.mem_of_getElem? (i := 146) rfl)) rfl), (wsA_in (tb3 (List.mem_of_getElem? (i := 148) rfl)) rfl), (wsA_in (tb0 (List.mem_of_getElem? (i := 23) rfl)) rfl), (wsA_in (tb1 (List.mem_of_getElem? (i := 1) rfl)) rfl), (wsA_in (tb3 (List.mem_of_getElem? (i := 149) rfl)) rfl), by decide +kernel⟩
theorem vX6_266 : Cv RX6 266 mX6_chapelMark 1 := ⟨(wsA_in (tb3 (List.mem_of_getElem? (i := 150) rfl)) rfl), (wsA_in (tb3 (List.mem_of_getElem? (i := 152) rfl)) rfl), (wsA_in (tb0 (List.mem_of_getElem? (i := 24) rfl)) rfl), (wsA_in (tb1 (List.mem_of_getElem? (i := 1) rfl)) rfl), (wsA_in (tb3 (List.mem_of_getElem? (i := 153) rfl)) rfl), by decide +kernel⟩
theorem vX6_269 : Cv RX6 269 mX6_tenderMark 1 := ⟨(wsA_in (tb3 (List.mem_of_getElem? (i := 155) rfl)) rfl), (wsA_in (tb3 (List.mem_of_getElem? (i := 157) rfl)) rfl), (wsA_in (tb0 (List.mem_of_getElem? (i := 25) rfl)) rfl), (wsA_in (tb1 (List.mem_of_getElem? (i := 1) rfl)) rfl), (wsA_in (tb3 (List.mem_of_getElem? (i := 158) rfl)) rfl), by decide +kernel⟩
theorem vX6_272 : Cv RX6 272 mX6_houseMark 1 := ⟨(wsA_in (tb3 (List.mem_of_getElem? (i := 160) rfl)) rfl), (wsA_in (tb3 (List.mem_of_getElem? (i := 162) rfl)) rfl), (wsA_in (tb0 (List.mem_of_getElem? (i := 26) rfl)) rfl), (wsA_in (tb1 (List.mem_of_getElem? (i := 1) rfl)) rfl), (wsA_in (tb3 (List.mem_of_getElem? (i := 163) rfl)) rfl), by decide +kernel⟩
theorem vX6_275 : Cv RX6 275 mX6_railcartMark 1 := ⟨(wsA_in (tb3 (List.mem_of_getElem? (i := 165) rfl)) rfl), (wsA_in (tb3 (List.mem_of_getElem? (i := 167) rfl)) rfl), (wsA_in (tb0 (List.mem_of_getElem? (i := 27) rfl)) rfl), (wsA_in (tb1 (List.mem_of_getElem? (i := 1) rfl)) rfl), (wsA_in (tb3 (List.mem_of_getElem? (i := 168) rfl)) rfl), by decide +kernel⟩
theorem vX6_278 : Cv RX6 278 mX5_copyFrom 1 := ⟨(wsA_in (tb3 (List.mem_of_getElem? (i := 174) rfl)) rfl), (wsA_in (tb3 (List.mem_of_getElem? (i := 175) rfl)) rfl), (wsA_in (tb3 (List.mem_of_getElem? (i := 176) rfl)) rfl), (wsA_in (tb1 (List.mem_of_getElem? (i := 6) rfl)) rfl), (wsA_in (tb3 (List.mem_of_getElem? (i := 177) rfl)) rfl), by decide +kernel⟩
theorem fX6_281 : Fld RX6 281 1 6 (0, 0) .int false := ⟨RX1, TX1, 14, tyX1, kcX1, by decide, rfl, (wsA_in (tb1 (List.mem_of_getElem? (i := 195) rfl)) rfl), rfl, rfl⟩
theorem fX6_284 : Fld RX6 284 1 7 (0, 0) .int false := ⟨RX1, TX1, 14, tyX1, kcX1, by decide, rfl, (wsA_in (tb1 (List.mem_of_getElem? (i := 198) rfl)) rfl), rfl, rfl⟩
theorem fX6_287 : Fld RX6 287 6 9 (1, 0) .long false := ⟨RX6, TX6, 10, tyX6, kcX6, by decide, rfl, (wsA_in (tb2 (List.mem_of_getElem? (i := 10) rfl)) rfl), rfl, rfl⟩
theorem vX6_291 : Cv RX6 291 mX3_latest 1 := ⟨(wsA_in (tb3 (List.mem_of_getElem? (i := 60) rfl)) rfl), (wsA_in (tb3 (List.mem_of_getElem? (i := 61) rfl)) rfl), (wsA_in (tb3 (List.mem_of_getElem? (i := 62) rfl)) rfl), (wsA_in (tb1 (List.mem_of_getElem? (i := 3) rfl)) rfl), (wsA_in (tb3 (List.mem_of_getElem? (i := 63) rfl)) rfl), by decide +kernel⟩
theorem vX6_294 : Cv RX6 294 mX3_setStarts 3 := ⟨(wsA_in (tb3 (List.mem_of_getElem? (i := 65) rfl)) rfl), (wsA_in (tb3 (List.mem_of_getElem? (i := 66) rfl)) rfl), (wsA_in (tb3 (List.mem_of_getElem? (i := 67) rfl)) rfl), (wsA_in (tb1 (List.mem_of_getElem? (i := 3) rfl)) rfl), (wsA_in (tb3 (List.mem_of_getElem? (i := 68) rfl)) rfl), by decide +kernel⟩
theorem vX6_298 : Cv RX6 298 mX3_order 2 := ⟨(wsA_in (tb3 (List.mem_of_getElem? (i := 42) rfl)) rfl), (wsA_in (tb3 (List.mem_of_getElem? (i := 43) rfl)) rfl), (wsA_in (tb3 (List.mem_of_getElem? (i := 44) rfl)) rfl), (wsA_in (tb1 (List.mem_of_getElem? (i := 3) rfl)) rfl), (wsA_in (tb3 (List.mem_of_getElem? (i := 45) rfl)) rfl), by decide +kernel⟩
theorem kX6_302 : Cond.constantLong RX6 302 (100) ∈ wsA := (wsA_in (tb3 (List.mem_of_getElem? (i := 154) rfl)) rfl)
theorem kX6_304 : Cond.constantLong RX6 304 (1000) ∈ wsA := (wsA_in (tb3 (List.mem_of_getElem? (i := 159) rfl)) rfl)
theorem kX6_306 : Cond.constantLong RX6 306 (10000) ∈ wsA := (wsA_in (tb3 (List.mem_of_getElem? (i := 164) rfl)) rfl)
theorem kX6_308 : Cond.constantLong RX6 308 (100000) ∈ wsA := (wsA_in (tb3 (List.mem_of_getElem? (i := 169) rfl)) rfl)
theorem vX7_88 : Cst RX7 88 mX7_in 3 := ⟨(wsA_in (tb4 (List.mem_of_getElem? (i := 80) rfl)) rfl), (wsA_in (tb4 (List.mem_of_getElem? (i := 81) rfl)) rfl), (wsA_in (tb1 (List.mem_of_getElem? (i := 8) rfl)) rfl), (wsA_in (tb4 (List.mem_of_getElem? (i := 82) rfl)) rfl), by decide +kernel⟩
theorem fX7_92 : Fld RX7 92 7 2 (0, 0) .int false := ⟨RX7, TX7, 39, tyX7, kcX7, by decide, rfl, (wsA_in (tb3 (List.mem_of_getElem? (i := 198) rfl)) rfl), rfl, rfl⟩
theorem fX7_7 : Fld RX7 7 7 1 (2, 1) (.array .byte) true := ⟨RX7, TX7, 39, tyX7, kcX7, by decide, rfl, (wsA_in (tb3 (List.mem_of_getElem? (i := 197) rfl)) rfl), rfl, rfl⟩
theorem fX7_96 : Fld RX7 96 7 18 (0, 0) .int false := ⟨RX7, TX7, 39, tyX7, kcX7, by decide, rfl, (wsA_in (tb3 (List.mem_of_getElem? (i := 214) rfl)) rfl), rfl, rfl⟩
theorem vX7_99 : Cv RX7 99 mX7_here 0 := ⟨(wsA_in (tb4 (List.mem_of_getElem? (i := 95) rfl)) rfl), (wsA_in (tb4 (List.mem_of_getElem? (i := 97) rfl)) rfl), (wsA_in (tb0 (List.mem_of_getElem? (i := 29) rfl)) rfl), (wsA_in (tb1 (List.mem_of_getElem? (i := 8) rfl)) rfl), (wsA_in (tb4 (List.mem_of_getElem? (i := 98) rfl)) rfl), by decide +kernel⟩
theorem fX7_103 : Fld RX7 103 7 19 (0, 0) .int false := ⟨RX7, TX7, 39, tyX7, kcX7, by decide, rfl, (wsA_in (tb3 (List.mem_of_getElem? (i := 215) rfl)) rfl), rfl, rfl⟩
theorem fX7_106 : Fld RX7 106 7 21 (0, 0) .int false := ⟨RX7, TX7, 39, tyX7, kcX7, by decide, rfl, (wsA_in (tb3 (List.mem_of_getElem? (i := 217) rfl)) rfl), rfl, rfl⟩
theorem fX7_109 : Fld RX7 109 7 20 (0, 0) .int false := ⟨RX7, TX7, 39, tyX7, kcX7, by decide, rfl, (wsA_in (tb3 (List.mem_of_getElem? (i := 216) rfl)) rfl), rfl, rfl⟩
theorem fX7_112 : Fld RX7 112 7 22 (0, 0) .int false := ⟨RX7, TX7, 39, tyX7, kcX7, by decide, rfl, (wsA_in (tb3 (List.mem_of_getElem? (i := 218) rfl)) rfl), rfl, rfl⟩
theorem vX7_115 : Cv RX7 115 mX7_next 0 := ⟨(wsA_in (tb4 (List.mem_of_getElem? (i := 91) rfl)) rfl), (wsA_in (tb4 (List.mem_of_getElem? (i := 93) rfl)) rfl), (wsA_in (tb0 (List.mem_of_getElem? (i := 28) rfl)) rfl), (wsA_in (tb1 (List.mem_of_getElem? (i := 8) rfl)) rfl), (wsA_in (tb4 (List.mem_of_getElem? (i := 94) rfl)) rfl), by decide +kernel⟩
theorem vX7_118 : Cv RX7 118 mX7_due 1 := ⟨(wsA_in (tb4 (List.mem_of_getElem? (i := 103) rfl)) rfl), (wsA_in (tb4 (List.mem_of_getElem? (i := 105) rfl)) rfl), (wsA_in (tb0 (List.mem_of_getElem? (i := 31) rfl)) rfl), (wsA_in (tb1 (List.mem_of_getElem? (i := 8) rfl)) rfl), (wsA_in (tb4 (List.mem_of_getElem? (i := 106) rfl)) rfl), by decide +kernel⟩
theorem fX7_13 : Fld RX7 13 7 3 (2, 2) (.array .int) true := ⟨RX7, TX7, 39, tyX7, kcX7, by decide, rfl, (wsA_in (tb3 (List.mem_of_getElem? (i := 199) rfl)) rfl), rfl, rfl⟩
theorem vX7_122 : Cv RX7 122 mX7_number 2 := ⟨(wsA_in (tb4 (List.mem_of_getElem? (i := 111) rfl)) rfl), (wsA_in (tb4 (List.mem_of_getElem? (i := 113) rfl)) rfl), (wsA_in (tb0 (List.mem_of_getElem? (i := 33) rfl)) rfl), (wsA_in (tb1 (List.mem_of_getElem? (i := 8) rfl)) rfl), (wsA_in (tb4 (List.mem_of_getElem? (i := 114) rfl)) rfl), by decide +kernel⟩
theorem fX7_126 : Fld RX7 126 7 23 (0, 0) .int false := ⟨RX7, TX7, 39, tyX7, kcX7, by decide, rfl, (wsA_in (tb3 (List.mem_of_getElem? (i := 219) rfl)) rfl), rfl, rfl⟩
theorem fX7_129 : Fld RX7 129 7 24 (0, 0) .boolean false := ⟨RX7, TX7, 39, tyX7, kcX7, by decide, rfl, (wsA_in (tb3 (List.mem_of_getElem? (i := 220) rfl)) rfl), rfl, rfl⟩
theorem fX7_133 : Fld RX7 133 7 25 (0, 0) .boolean false := ⟨RX7, TX7, 39, tyX7, kcX7, by decide, rfl, (wsA_in (tb3 (List.mem_of_getElem? (i := 221) rfl)) rfl), rfl, rfl⟩
theorem fX7_29 : Fld RX7 29 7 8 (2, 7) (.array .int) true := ⟨RX7, TX7, 39, tyX7, kcX7, by decide, rfl, (wsA_in (tb3 (List.mem_of_getElem? (i := 204) rfl)) rfl), rfl, rfl⟩
theorem fX7_32 : Fld RX7 32 7 9 (2, 8) (.array .int) true := ⟨RX7, TX7, 39, tyX7, kcX7, by decide, rfl, (wsA_in (tb3 (List.mem_of_getElem? (i := 205) rfl)) rfl), rfl, rfl⟩
theorem fX7_38 : Fld RX7 38 7 11 (2, 10) (.array .int) true := ⟨RX7, TX7, 39, tyX7, kcX7, by decide, rfl, (wsA_in (tb3 (List.mem_of_getElem? (i := 207) rfl)) rfl), rfl, rfl⟩
theorem fX7_47 : Fld RX7 47 7 14 (2, 13) (.array .int) true := ⟨RX7, TX7, 39, tyX7, kcX7, by decide, rfl, (wsA_in (tb3 (List.mem_of_getElem? (i := 210) rfl)) rfl), rfl, rfl⟩
theorem fX7_41 : Fld RX7 41 7 12 (2, 11) (.array .int) true := ⟨RX7, TX7, 39, tyX7, kcX7, by decide, rfl, (wsA_in (tb3 (List.mem_of_getElem? (i := 208) rfl)) rfl), rfl, rfl⟩
theorem fX7_44 : Fld RX7 44 7 13 (2, 12) (.array .int) true := ⟨RX7, TX7, 39, tyX7, kcX7, by decide, rfl, (wsA_in (tb3 (List.mem_of_getElem? (i := 209) rfl)) rfl), rfl, rfl⟩
theorem vX7_136 : Cv RX7 136 mX7_isFreeAtFirst 2 := ⟨(wsA_in (tb4 (List.mem_of_getElem? (i := 123) rfl)) rfl), (wsA_in (tb4 (List.mem_of_getElem? (i := 125) rfl)) rfl), (wsA_in (tb0 (List.mem_of_getElem? (i := 36) rfl)) rfl), (wsA_in (tb1 (List.mem_of_getElem? (i := 8) rfl)) rfl), (wsA_in (tb4 (List.mem_of_getElem? (i := 126) rfl)) rfl), by decide +kernel⟩
theorem vX7_140 : Cv RX7 140 mX7_placeTold 0 := ⟨(wsA_in (tb4 (List.mem_of_getElem? (i := 115) rfl)) rfl), (wsA_in (tb4 (List.mem_of_getElem? (i := 117) rfl)) rfl), (wsA_in (tb0 (List.mem_of_getElem? (i := 34) rfl)) rfl), (wsA_in (tb1 (List.mem_of_getElem? (i := 8) rfl)) rfl), (wsA_in (tb4 (List.mem_of_getElem? (i := 118) rfl)) rfl), by decide +kernel⟩
theorem fX7_35 : Fld RX7 35 7 10 (2, 9) (.array .int) true := ⟨RX7, TX7, 39, tyX7, kcX7, by decide, rfl, (wsA_in (tb3 (List.mem_of_getElem? (i := 206) rfl)) rfl), rfl, rfl⟩
theorem fX7_26 : Fld RX7 26 7 7 (2, 6) (.array .int) true := ⟨RX7, TX7, 39, tyX7, kcX7, by decide, rfl, (wsA_in (tb3 (List.mem_of_getElem? (i := 203) rfl)) rfl), rfl, rfl⟩
theorem fX7_17 : Fld RX7 17 7 4 (2, 3) (.array .int) true := ⟨RX7, TX7, 39, tyX7, kcX7, by decide, rfl, (wsA_in (tb3 (List.mem_of_getElem? (i := 200) rfl)) rfl), rfl, rfl⟩
theorem fX7_20 : Fld RX7 20 7 5 (2, 4) (.array .int) true := ⟨RX7, TX7, 39, tyX7, kcX7, by decide, rfl, (wsA_in (tb3 (List.mem_of_getElem? (i := 201) rfl)) rfl), rfl, rfl⟩
theorem fX7_23 : Fld RX7 23 7 6 (2, 5) (.array .int) true := ⟨RX7, TX7, 39, tyX7, kcX7, by decide, rfl, (wsA_in (tb3 (List.mem_of_getElem? (i := 202) rfl)) rfl), rfl, rfl⟩
theorem vX7_143 : Cv RX7 143 mX7_readWagon 0 := ⟨(wsA_in (tb4 (List.mem_of_getElem? (i := 119) rfl)) rfl), (wsA_in (tb4 (List.mem_of_getElem? (i := 121) rfl)) rfl), (wsA_in (tb0 (List.mem_of_getElem? (i := 35) rfl)) rfl), (wsA_in (tb1 (List.mem_of_getElem? (i := 8) rfl)) rfl), (wsA_in (tb4 (List.mem_of_getElem? (i := 122) rfl)) rfl), by decide +kernel⟩
theorem fX7_50 : Fld RX7 50 7 15 (2, 14) (.array .int) true := ⟨RX7, TX7, 39, tyX7, kcX7, by decide, rfl, (wsA_in (tb3 (List.mem_of_getElem? (i := 211) rfl)) rfl), rfl, rfl⟩
theorem fX7_53 : Fld RX7 53 7 16 (2, 15) (.array .int) true := ⟨RX7, TX7, 39, tyX7, kcX7, by decide, rfl, (wsA_in (tb3 (List.mem_of_getElem? (i := 212) rfl)) rfl), rfl, rfl⟩
theorem vX7_146 : Cv RX7 146 mX7_mayBe 1 := ⟨(wsA_in (tb4 (List.mem_of_getElem? (i := 99) rfl)) rfl), (wsA_in (tb4 (List.mem_of_getElem? (i := 101) rfl)) rfl), (wsA_in (tb0 (List.mem_of_getElem? (i := 30) rfl)) rfl), (wsA_in (tb1 (List.mem_of_getElem? (i := 8) rfl)) rfl), (wsA_in (tb4 (List.mem_of_getElem? (i := 102) rfl)) rfl), by decide +kernel⟩
theorem vX7_150 : Cv RX7 150 mX7_readRow 1 := ⟨(wsA_in (tb4 (List.mem_of_getElem? (i := 107) rfl)) rfl), (wsA_in (tb4 (List.mem_of_getElem? (i := 109) rfl)) rfl), (wsA_in (tb0 (List.mem_of_getElem? (i := 32) rfl)) rfl), (wsA_in (tb1 (List.mem_of_getElem? (i := 8) rfl)) rfl), (wsA_in (tb4 (List.mem_of_getElem? (i := 110) rfl)) rfl), by decide +kernel⟩
theorem vX7_154 : Cv RX7 154 mX7_take 0 := ⟨(wsA_in (tb4 (List.mem_of_getElem? (i := 127) rfl)) rfl), (wsA_in (tb4 (List.mem_of_getElem? (i := 129) rfl)) rfl), (wsA_in (tb0 (List.mem_of_getElem? (i := 37) rfl)) rfl), (wsA_in (tb1 (List.mem_of_getElem? (i := 8) rfl)) rfl), (wsA_in (tb4 (List.mem_of_getElem? (i := 130) rfl)) rfl), by decide +kernel⟩
theorem vX7_157 : Cv RX7 157 mX7_begin 0 := ⟨(wsA_in (tb4 (List.mem_of_getElem? (i := 131) rfl)) rfl), (wsA_in (tb4 (List.mem_of_getElem? (i := 133) rfl)) rfl), (wsA_in (tb0 (List.mem_of_getElem? (i := 38) rfl)) rfl), (wsA_in (tb1 (List.mem_of_getElem? (i := 8) rfl)) rfl), (wsA_in (tb4 (List.mem_of_getElem? (i := 134) rfl)) rfl), by decide +kernel⟩
theorem fX7_59 : Fld RX7 59 7 26 (2, 17) (.array .int) true := ⟨RX7, TX7, 39, tyX7, kcX7, by decide, rfl, (wsA_in (tb3 (List.mem_of_getElem? (i := 222) rfl)) rfl), rfl, rfl⟩
theorem fX7_65 : Fld RX7 65 7 28 (2, 19) (.array .boolean) true := ⟨RX7, TX7, 39, tyX7, kcX7, by decide, rfl, (wsA_in (tb3 (List.mem_of_getElem? (i := 224) rfl)) rfl), rfl, rfl⟩
theorem fX7_56 : Fld RX7 56 7 17 (2, 16) (.array .int) true := ⟨RX7, TX7, 39, tyX7, kcX7, by decide, rfl, (wsA_in (tb3 (List.mem_of_getElem? (i := 213) rfl)) rfl), rfl, rfl⟩
theorem fX7_62 : Fld RX7 62 7 27 (2, 18) (.array .int) true := ⟨RX7, TX7, 39, tyX7, kcX7, by decide, rfl, (wsA_in (tb3 (List.mem_of_getElem? (i := 223) rfl)) rfl), rfl, rfl⟩
theorem vX7_160 : Cv RX7 160 mX7_costAt 1 := ⟨(wsA_in (tb4 (List.mem_of_getElem? (i := 139) rfl)) rfl), (wsA_in (tb4 (List.mem_of_getElem? (i := 141) rfl)) rfl), (wsA_in (tb0 (List.mem_of_getElem? (i := 40) rfl)) rfl), (wsA_in (tb1 (List.mem_of_getElem? (i := 8) rfl)) rfl), (wsA_in (tb4 (List.mem_of_getElem? (i := 142) rfl)) rfl), by decide +kernel⟩
theorem vX7_164 : Cv RX7 164 mX7_beginThen 0 := ⟨(wsA_in (tb4 (List.mem_of_getElem? (i := 135) rfl)) rfl), (wsA_in (tb4 (List.mem_of_getElem? (i := 137) rfl)) rfl), (wsA_in (tb0 (List.mem_of_getElem? (i := 39) rfl)) rfl), (wsA_in (tb1 (List.mem_of_getElem? (i := 8) rfl)) rfl), (wsA_in (tb4 (List.mem_of_getElem? (i := 138) rfl)) rfl), by decide +kernel⟩
theorem vX7_167 : Cv RX7 167 mX7_toNow 0 := ⟨(wsA_in (tb4 (List.mem_of_getElem? (i := 143) rfl)) rfl), (wsA_in (tb4 (List.mem_of_getElem? (i := 145) rfl)) rfl), (wsA_in (tb0 (List.mem_of_getElem? (i := 41) rfl)) rfl), (wsA_in (tb1 (List.mem_of_getElem? (i := 8) rfl)) rfl), (wsA_in (tb4 (List.mem_of_getElem? (i := 146) rfl)) rfl), by decide +kernel⟩
theorem vX7_170 : Cv RX7 170 mX7_isWagon 1 := ⟨(wsA_in (tb4 (List.mem_of_getElem? (i := 155) rfl)) rfl), (wsA_in (tb4 (List.mem_of_getElem? (i := 157) rfl)) rfl), (wsA_in (tb0 (List.mem_of_getElem? (i := 42) rfl)) rfl), (wsA_in (tb1 (List.mem_of_getElem? (i := 8) rfl)) rfl), (wsA_in (tb4 (List.mem_of_getElem? (i := 158) rfl)) rfl), by decide +kernel⟩
theorem vX7_173 : Cv RX7 173 mX7_sunAt 1 := ⟨(wsA_in (tb4 (List.mem_of_getElem? (i := 163) rfl)) rfl), (wsA_in (tb4 (List.mem_of_getElem? (i := 165) rfl)) rfl), (wsA_in (tb0 (List.mem_of_getElem? (i := 43) rfl)) rfl), (wsA_in (tb1 (List.mem_of_getElem? (i := 8) rfl)) rfl), (wsA_in (tb4 (List.mem_of_getElem? (i := 166) rfl)) rfl), by decide +kernel⟩
theorem kX7_176 : Cond.constant RX7 176 (-1000000) ∈ wsA := (wsA_in (tb4 (List.mem_of_getElem? (i := 167) rfl)) rfl)
theorem vX7_177 : Cv RX7 177 mX7_toThen 0 := ⟨(wsA_in (tb4 (List.mem_of_getElem? (i := 172) rfl)) rfl), (wsA_in (tb4 (List.mem_of_getElem? (i := 174) rfl)) rfl), (wsA_in (tb0 (List.mem_of_getElem? (i := 44) rfl)) rfl), (wsA_in (tb1 (List.mem_of_getElem? (i := 8) rfl)) rfl), (wsA_in (tb4 (List.mem_of_getElem? (i := 175) rfl)) rfl), by decide +kernel⟩
theorem vX7_180 : Cv RX7 180 mX7_caughtThen 0 := ⟨(wsA_in (tb4 (List.mem_of_getElem? (i := 176) rfl)) rfl), (wsA_in (tb4 (List.mem_of_getElem? (i := 178) rfl)) rfl), (wsA_in (tb0 (List.mem_of_getElem? (i := 45) rfl)) rfl), (wsA_in (tb1 (List.mem_of_getElem? (i := 8) rfl)) rfl), (wsA_in (tb4 (List.mem_of_getElem? (i := 179) rfl)) rfl), by decide +kernel⟩
theorem vX7_183 : Cv RX7 183 mX7_isFree 2 := ⟨(wsA_in (tb4 (List.mem_of_getElem? (i := 196) rfl)) rfl), (wsA_in (tb4 (List.mem_of_getElem? (i := 198) rfl)) rfl), (wsA_in (tb0 (List.mem_of_getElem? (i := 49) rfl)) rfl), (wsA_in (tb1 (List.mem_of_getElem? (i := 8) rfl)) rfl), (wsA_in (tb4 (List.mem_of_getElem? (i := 199) rfl)) rfl), by decide +kernel⟩
theorem fX7_186 : Fld RX7 186 7 29 (0, 0) .int false := ⟨RX7, TX7, 39, tyX7, kcX7, by decide, rfl, (wsA_in (tb3 (List.mem_of_getElem? (i := 225) rfl)) rfl), rfl, rfl⟩
theorem vX7_189 : Cv RX7 189 mX7_move 1 := ⟨(wsA_in (tb4 (List.mem_of_getElem? (i := 192) rfl)) rfl), (wsA_in (tb4 (List.mem_of_getElem? (i := 194) rfl)) rfl), (wsA_in (tb0 (List.mem_of_getElem? (i := 48) rfl)) rfl), (wsA_in (tb1 (List.mem_of_getElem? (i := 8) rfl)) rfl), (wsA_in (tb4 (List.mem_of_getElem? (i := 195) rfl)) rfl), by decide +kernel⟩
theorem vX7_192 : Cv RX7 192 mX7_know 0 := ⟨(wsA_in (tb4 (List.mem_of_getElem? (i := 184) rfl)) rfl), (wsA_in (tb4 (List.mem_of_getElem? (i := 186) rfl)) rfl), (wsA_in (tb0 (List.mem_of_getElem? (i := 46) rfl)) rfl), (wsA_in (tb1 (List.mem_of_getElem? (i := 8) rfl)) rfl), (wsA_in (tb4 (List.mem_of_getElem? (i := 187) rfl)) rfl), by decide +kernel⟩
theorem vX7_195 : Cv RX7 195 mX7_pass 0 := ⟨(wsA_in (tb4 (List.mem_of_getElem? (i := 188) rfl)) rfl), (wsA_in (tb4 (List.mem_of_getElem? (i := 190) rfl)) rfl), (wsA_in (tb0 (List.mem_of_getElem? (i := 47) rfl)) rfl), (wsA_in (tb1 (List.mem_of_getElem? (i := 8) rfl)) rfl), (wsA_in (tb4 (List.mem_of_getElem? (i := 191) rfl)) rfl), by decide +kernel⟩
theorem vX7_198 : Cst RX7 198 mX7_manyOf 1 := ⟨(wsA_in (tb4 (List.mem_of_getElem? (i := 200) rfl)) rfl), (wsA_in (tb4 (List.mem_of_getElem? (i := 201) rfl)) rfl), (wsA_in (tb1 (List.mem_of_getElem? (i := 8) rfl)) rfl), (wsA_in (tb4 (List.mem_of_getElem? (i := 202) rfl)) rfl), by decide +kernel⟩
theorem vX7_201 : Cv RX7 201 mX7_isThere 2 := ⟨(wsA_in (tb4 (List.mem_of_getElem? (i := 211) rfl)) rfl), (wsA_in (tb4 (List.mem_of_getElem? (i := 213) rfl)) rfl), (wsA_in (tb0 (List.mem_of_getElem? (i := 50) rfl)) rfl), (wsA_in (tb1 (List.mem_of_getElem? (i := 8) rfl)) rfl), (wsA_in (tb4 (List.mem_of_getElem? (i := 214) rfl)) rfl), by decide +kernel⟩
theorem vX7_204 : Cv RX7 204 mX7_passMany 1 := ⟨(wsA_in (tb4 (List.mem_of_getElem? (i := 223) rfl)) rfl), (wsA_in (tb4 (List.mem_of_getElem? (i := 225) rfl)) rfl), (wsA_in (tb0 (List.mem_of_getElem? (i := 51) rfl)) rfl), (wsA_in (tb1 (List.mem_of_getElem? (i := 8) rfl)) rfl), (wsA_in (tb4 (List.mem_of_getElem? (i := 226) rfl)) rfl), by decide +kernel⟩
theorem fX7_207 : Fld RX7 207 7 31 (0, 0) .int false := ⟨RX7, TX7, 39, tyX7, kcX7, by decide, rfl, (wsA_in (tb3 (List.mem_of_getElem? (i := 227) rfl)) rfl), rfl, rfl⟩
theorem fX7_69 : Fld RX7 69 7 30 (2, 20) (.array .int) true := ⟨RX7, TX7, 39, tyX7, kcX7, by decide, rfl, (wsA_in (tb3 (List.mem_of_getElem? (i := 226) rfl)) rfl), rfl, rfl⟩
theorem fX7_72 : Fld RX7 72 7 32 (2, 21) (.array .int) true := ⟨RX7, TX7, 39, tyX7, kcX7, by decide, rfl, (wsA_in (tb3 (List.mem_of_getElem? (i := 228) rfl)) rfl), rfl, rfl⟩
theorem fX7_75 : Fld RX7 75 7 33 (2, 22) (.array .int) true := ⟨RX7, TX7, 39, tyX7, kcX7, by decide, rfl, (wsA_in (tb3 (List.mem_of_getElem? (i := 229) rfl)) rfl), rfl, rfl⟩
theorem vX7_210 : Cv RX7 210 mX7_findLacking 0 := ⟨(wsA_in (tb5 (List.mem_of_getElem? (i := 7) rfl)) rfl), (wsA_in (tb5 (List.mem_of_getElem? (i := 9) rfl)) rfl), (wsA_in (tb0 (List.mem_of_getElem? (i := 53) rfl)) rfl), (wsA_in (tb1 (List.mem_of_getElem? (i := 8) rfl)) rfl), (wsA_in (tb5 (List.mem_of_getElem? (i := 10) rfl)) rfl), by decide +kernel⟩
theorem vX7_213 : Cv RX7 213 mX7_isWell 1 := ⟨(wsA_in (tb5 (List.mem_of_getElem? (i := 11) rfl)) rfl), (wsA_in (tb5 (List.mem_of_getElem? (i := 13) rfl)) rfl), (wsA_in (tb0 (List.mem_of_getElem? (i := 54) rfl)) rfl), (wsA_in (tb1 (List.mem_of_getElem? (i := 8) rfl)) rfl), (wsA_in (tb5 (List.mem_of_getElem? (i := 14) rfl)) rfl), by decide +kernel⟩
theorem fX7_78 : Fld RX7 78 7 34 (2, 23) (.array .int) true := ⟨RX7, TX7, 39, tyX7, kcX7, by decide, rfl, (wsA_in (tb3 (List.mem_of_getElem? (i := 230) rfl)) rfl), rfl, rfl⟩
theorem vX7_216 : Cv RX7 216 mX7_findStarts 1 := ⟨(wsA_in (tb5 (List.mem_of_getElem? (i := 3) rfl)) rfl), (wsA_in (tb5 (List.mem_of_getElem? (i := 5) rfl)) rfl), (wsA_in (tb0 (List.mem_of_getElem? (i := 52) rfl)) rfl), (wsA_in (tb1 (List.mem_of_getElem? (i := 8) rfl)) rfl), (wsA_in (tb5 (List.mem_of_getElem? (i := 6) rfl)) rfl), by decide +kernel⟩
theorem fX7_81 : Fld RX7 81 7 35 (2, 24) (.array .long) true := ⟨RX7, TX7, 39, tyX7, kcX7, by decide, rfl, (wsA_in (tb3 (List.mem_of_getElem? (i := 231) rfl)) rfl), rfl, rfl⟩
theorem fX7_219 : Fld RX7 219 7 38 (1, 0) .long false := ⟨RX7, TX7, 39, tyX7, kcX7, by decide, rfl, (wsA_in (tb3 (List.mem_of_getElem? (i := 234) rfl)) rfl), rfl, rfl⟩
theorem fX7_85 : Fld RX7 85 7 36 (2, 25) (.array .long) true := ⟨RX7, TX7, 39, tyX7, kcX7, by decide, rfl, (wsA_in (tb3 (List.mem_of_getElem? (i := 232) rfl)) rfl), rfl, rfl⟩
theorem kX7_223 : Cond.constantLong RX7 223 (10) ∈ wsA := (wsA_in (tb5 (List.mem_of_getElem? (i := 41) rfl)) rfl)
theorem fX7_225 : Fld RX7 225 7 37 (1, 0) .long false := ⟨RX7, TX7, 39, tyX7, kcX7, by decide, rfl, (wsA_in (tb3 (List.mem_of_getElem? (i := 233) rfl)) rfl), rfl, rfl⟩
theorem vX7_228 : Cv RX7 228 mX7_isAsked 3 := ⟨(wsA_in (tb5 (List.mem_of_getElem? (i := 31) rfl)) rfl), (wsA_in (tb5 (List.mem_of_getElem? (i := 33) rfl)) rfl), (wsA_in (tb0 (List.mem_of_getElem? (i := 55) rfl)) rfl), (wsA_in (tb1 (List.mem_of_getElem? (i := 8) rfl)) rfl), (wsA_in (tb5 (List.mem_of_getElem? (i := 34) rfl)) rfl), by decide +kernel⟩
theorem kX7_231 : Cond.constantLong RX7 231 (-1) ∈ wsA := (wsA_in (tb5 (List.mem_of_getElem? (i := 35) rfl)) rfl)
theorem kX7_233 : Cond.constantLong RX7 233 (-2) ∈ wsA := (wsA_in (tb5 (List.mem_of_getElem? (i := 36) rfl)) rfl)
theorem vX7_235 : Cv RX7 235 mX7_findOdds 4 := ⟨(wsA_in (tb5 (List.mem_of_getElem? (i := 37) rfl)) rfl), (wsA_in (tb5 (List.mem_of_getElem? (i := 39) rfl)) rfl), (wsA_in (tb0 (List.mem_of_getElem? (i := 56) rfl)) rfl), (wsA_in (tb1 (List.mem_of_getElem? (i := 8) rfl)) rfl), (wsA_in (tb5 (List.mem_of_getElem? (i := 40) rfl)) rfl), by decide +kernel⟩
theorem fX7_239 : Fld RX7 239 7 0 (1, 0) .long false := ⟨RX7, TX7, 39, tyX7, kcX7, by decide, rfl, (wsA_in (tb3 (List.mem_of_getElem? (i := 196) rfl)) rfl), rfl, rfl⟩
theorem kX7_242 : Cond.constantLong RX7 242 (11) ∈ wsA := (wsA_in (tb5 (List.mem_of_getElem? (i := 50) rfl)) rfl)
theorem kX7_244 : Cond.constantLong RX7 244 (101) ∈ wsA := (wsA_in (tb5 (List.mem_of_getElem? (i := 51) rfl)) rfl)
theorem kX7_246 : Cond.constantLong RX7 246 (1011) ∈ wsA := (wsA_in (tb5 (List.mem_of_getElem? (i := 52) rfl)) rfl)
theorem kX7_248 : Cond.constantLong RX7 248 (10101) ∈ wsA := (wsA_in (tb5 (List.mem_of_getElem? (i := 53) rfl)) rfl)
theorem kX7_250 : Cond.constantLong RX7 250 (100001) ∈ wsA := (wsA_in (tb5 (List.mem_of_getElem? (i := 54) rfl)) rfl)
theorem vX7_252 : Cv RX7 252 mX7_copy 2 := ⟨(wsA_in (tb5 (List.mem_of_getElem? (i := 59) rfl)) rfl), (wsA_in (tb5 (List.mem_of_getElem? (i := 61) rfl)) rfl), (wsA_in (tb0 (List.mem_of_getElem? (i := 57) rfl)) rfl), (wsA_in (tb1 (List.mem_of_getElem? (i := 8) rfl)) rfl), (wsA_in (tb5 (List.mem_of_getElem? (i := 62) rfl)) rfl), by decide +kernel⟩
theorem kJ6_265 : Cond.constant RJ6 265 (1431655765) ∈ wsA := (wsA_in (tb2 (List.mem_of_getElem? (i := 229) rfl)) rfl)
theorem kJ6_266 : Cond.constant RJ6 266 (858993459) ∈ wsA := (wsA_in (tb2 (List.mem_of_getElem? (i := 230) rfl)) rfl)
theorem kJ6_267 : Cond.constant RJ6 267 (252645135) ∈ wsA := (wsA_in (tb2 (List.mem_of_getElem? (i := 231) rfl)) rfl)
/-! what an object of a class is in the world: itself and what it holds for ever -/
def isX2 (T : Th) (a : Nat) : Prop := Ob T a (0, 2) ∧ Ob T (a + 1) (1, 5) ∧ Ob T (a + 2) (1, 5) ∧ Ob T (a + 3) (1, 5) ∧ Ob T (a + 4) (1, 5) ∧ Ob T (a + 5) (1, 5)
def isX0 (T : Th) (a : Nat) : Prop := Ob T a (0, 0) ∧ Ob T (a + 1) (1, 13) ∧ Ob T (a + 2) (2, 13)
def isX1 (T : Th) (a : Nat) : Prop := Ob T a (0, 1) ∧ Ob T (a + 1) (1, 12) ∧ Ob T (a + 2) (1, 5) ∧ Ob T (a + 3) (1, 5) ∧ Ob T (a + 4) (1, 4) ∧ Ob T (a + 5) (1, 4) ∧ isX2 T (a + 6)
def isX3 (T : Th) (a : Nat) : Prop := Ob T a (0, 3) ∧ Ob T (a + 1) (1, 3) ∧ Ob T (a + 2) (1, 3) ∧ Ob T (a + 3) (1, 3)
def isX4 (T : Th) (a : Nat) : Prop := Ob T a (0, 4) ∧ Ob T (a + 1) (1, 200)
def isX5 (T : Th) (a : Nat) : Prop := Ob T a (0, 5) ∧ isX2 T (a + 1) ∧ Ob T (a + 7) (5, 10)
def isX6 (T : Th) (a : Nat) : Prop := Ob T a (0, 6) ∧ isX4 T (a + 1) ∧ isX3 T (a + 3) ∧ isX0 T (a + 7) ∧ isX2 T (a + 10) ∧ isX5 T (a + 16) ∧ isX5 T (a + 84) ∧ isX5 T (a + 152)
def isX7 (T : Th) (a : Nat) : Prop := Ob T a (0, 7) ∧ Ob T (a + 1) (3, 200) ∧ Ob T (a + 2) (1, 2) ∧ Ob T (a + 3) (1, 2) ∧ Ob T (a + 4) (1, 2) ∧ Ob T (a + 5) (1, 2) ∧ Ob T (a + 6) (1, 2) ∧ Ob T (a + 7) (1, 2) ∧ Ob T (a + 8) (1, 2) ∧ Ob T (a + 9) (1, 24) ∧ Ob T (a + 10) (1, 10) ∧ Ob T (a + 11) (1, 10) ∧ Ob T (a + 12) (1, 10) ∧ Ob T (a + 13) (1, 10) ∧ Ob T (a + 14) (1, 8) ∧ Ob T (a + 15) (1, 8) ∧ Ob T (a + 16) (1, 5) ∧ Ob T (a + 17) (1, 1026) ∧ Ob T (a + 18) (1, 31) ∧ Ob T (a + 19) (4, 2) ∧ Ob T (a + 20) (1, 3) ∧ Ob T (a + 21) (1, 3) ∧ Ob T (a + 22) (1, 3) ∧ Ob T (a + 23) (1, 3) ∧ Ob T (a + 24) (2, 112) ∧ Ob T (a + 25) (2, 112)
theorem WP.topr {T : Th} {μ : Mt} {pc : Nat} {L : List (Nat × Value)} {st : List Value} {M : Mm} {Q : Option Value → Mm → Prop} {x : Nat} (h : ∀ y : Nat, y = x → WP T μ pc L (.ref y :: st) M Q) : WP T μ pc L (.ref x :: st) M Q := h x rfl
theorem WP.ialdc {T : Th} {μ : Mt} {pc : Nat} {L : List (Nat × Value)} {st : List Value} {M : Mm} {Q : Option Value → Mm → Prop} {a n k : Nat} {i : Int32} (hO : Ob T a (1, n)) (hk : i = nI k) (hn : k < n ∧ n < 2 ^ 31) (hd : decode μ.2.2.1 pc = .ok (.iaload, 1)) (h : WP T μ (pc + 1) L (.int (M.1 a k) :: st) M Q) : WP T μ pc L (.int i :: .ref a :: st) M Q := by
  subst hk
  refine WP.iald hO (vp_in_nI hn.1 hn.2) hd ?_
  rw [nI_clamp (by omega)]
  exact h
theorem WP.laldc {T : Th} {μ : Mt} {pc : Nat} {L : List (Nat × Value)} {st : List Value} {M : Mm} {Q : Option Value → Mm → Prop} {a n k : Nat} {i : Int32} (hO : Ob T a (2, n)) (hk : i = nI k) (hn : k < n ∧ n < 2 ^ 31) (hd : decode μ.2.2.1 pc = .ok (.laload, 1)) (h : WP T μ (pc + 1) L (.long (M.2.1 a k) :: st) M Q) : WP T μ pc L (.int i :: .ref a :: st) M Q := by
  subst hk
  refine WP.lald hO (vp_in_nI hn.1 hn.2) hd ?_
  rw [nI_clamp (by omega)]
  exact h
theorem WP.zaldc {T : Th} {μ : Mt} {pc : Nat} {L : List (Nat × Value)} {st : List Value} {M : Mm} {Q : Option Value → Mm → Prop} {a n k : Nat} {i : Int32} (hO : Ob T a (4, n)) (hk : i = nI k) (hn : k < n ∧ n < 2 ^ 31) (hd : decode μ.2.2.1 pc = .ok (.baload, 1)) (h : WP T μ (pc + 1) L (.int (M.1 a k) :: st) M Q) : WP T μ pc L (.int i :: .ref a :: st) M Q := by
  subst hk
  refine WP.zald hO (vp_in_nI hn.1 hn.2) hd ?_
  rw [nI_clamp (by omega)]
  exact h
theorem WP.iastc {T : Th} {μ : Mt} {pc : Nat} {L : List (Nat × Value)} {st : List Value} {M : Mm} {Q : Option Value → Mm → Prop} {a n k : Nat} {i : Int32} {x : Int32} (hO : Ob T a (1, n)) (hk : i = nI k) (hn : k < n ∧ n < 2 ^ 31) (hd : decode μ.2.2.1 pc = .ok (.iastore, 1)) (h : ∀ M1, M1 = sI M a k x → WP T μ (pc + 1) L st M1 Q) : WP T μ pc L (.int x :: .int i :: .ref a :: st) M Q := by
  subst hk
  refine WP.iast hO (vp_in_nI hn.1 hn.2) hd ?_
  rw [nI_clamp (by omega)]
  exact h
theorem WP.lastc {T : Th} {μ : Mt} {pc : Nat} {L : List (Nat × Value)} {st : List Value} {M : Mm} {Q : Option Value → Mm → Prop} {a n k : Nat} {i : Int32} {x : Int64} (hO : Ob T a (2, n)) (hk : i = nI k) (hn : k < n ∧ n < 2 ^ 31) (hd : decode μ.2.2.1 pc = .ok (.lastore, 1)) (h : ∀ M1, M1 = sL M a k x → WP T μ (pc + 1) L st M1 Q) : WP T μ pc L (.long x :: .int i :: .ref a :: st) M Q := by
  subst hk
  refine WP.last hO (vp_in_nI hn.1 hn.2) hd ?_
  rw [nI_clamp (by omega)]
  exact h
theorem WP.zastc {T : Th} {μ : Mt} {pc : Nat} {L : List (Nat × Value)} {st : List Value} {M : Mm} {Q : Option Value → Mm → Prop} {a n k : Nat} {i : Int32} {x : Int32} (hO : Ob T a (4, n)) (hk : i = nI k) (hn : k < n ∧ n < 2 ^ 31) (hd : decode μ.2.2.1 pc = .ok (.bastore, 1)) (h : ∀ M1, M1 = sI M a k (vp_nar .boolean x) → WP T μ (pc + 1) L st M1 Q) : WP T μ pc L (.int x :: .int i :: .ref a :: st) M Q := by
  subst hk
  refine WP.zast hO (vp_in_nI hn.1 hn.2) hd ?_
  rw [nI_clamp (by omega)]
  exact h
theorem tabcase (x : Int32) (lo : Int) (n : Nat) : (x.toInt < lo ∨ lo + n ≤ x.toInt) ∨ ∃ k : Nat, k < n ∧ x.toInt = lo + k := by
  by_cases h1 : x.toInt < lo
  · exact Or.inl (Or.inl h1)
  · by_cases h2 : lo + n ≤ x.toInt
    · exact Or.inl (Or.inr h2)
    · exact Or.inr ⟨(x.toInt - lo).toNat, by omega, by omega⟩
theorem WPM.mono {T : Th} {μ : Mt} {As : List Value} {M : Mm} {Q Q' : Option Value → Mm → Prop} (h : WPM T μ As M Q) (hq : ∀ r M', Q r M' → Q' r M') : WPM T μ As M Q' := by
  intro p e ha hc hk s m args below hf hfit hP hK
  obtain ⟨t, o, h1, h2, h3, h4, h5⟩ := h p e ha hc hk s m args below hf hfit hP hK
  exact ⟨t, o, h1, h2, h3, Qq.mono hq h4, h5⟩
theorem WPi.mono {T : Th} {μ : Mt} {As : List Value} {M : Mm} {Q Q' : Int32 → Mm → Prop} (h : WPi T μ As M Q) (hq : ∀ r M', Q r M' → Q' r M') : WPi T μ As M Q' := WPM.mono h fun _ M' ⟨x, h1, h2⟩ => ⟨x, h1, hq x M' h2⟩
theorem WPl.mono {T : Th} {μ : Mt} {As : List Value} {M : Mm} {Q Q' : Int64 → Mm → Prop} (h : WPl T μ As M Q) (hq : ∀ r M', Q r M' → Q' r M') : WPl T μ As M Q' := WPM.mono h fun _ M' ⟨x, h1, h2⟩ => ⟨x, h1, hq x M' h2⟩
theorem WPv.mono {T : Th} {μ : Mt} {As : List Value} {M : Mm} {Q Q' : Mm → Prop} (h : WPv T μ As M Q) (hq : ∀ M', Q M' → Q' M') : WPv T μ As M Q' := WPM.mono h fun _ M' ⟨h1, h2⟩ => ⟨h1, hq M' h2⟩
end
