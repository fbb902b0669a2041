section
-- ===== PART A: goes FIRST, ahead of the names: the tables' words, and 'selects' of the private methods out of them =====
/-- a private method of a class that the tables say can be made, by its rows of tables_1 -/
def lw_okq (q : MethodName × Nat) : Prop := (q.1.cls ≠ "java/lang/invoke/MethodHandle" ∧ q.1.cls ≠ "java/lang/invoke/VarHandle") ∧ Cond.instantiable q.1.cls q.2 ∈ tables_1 ∧ Cond.privateMethod q.1 ∈ tables_1 ∧ Cond.instanceMethod q.1 ∈ tables_1
theorem lw_p0 : lw_okq (⟨"CastlesAreAssessed", "refused", "(I)I"⟩, 12) := ⟨⟨by decide +kernel, by decide +kernel⟩, List.mem_of_getElem? (i := 10) (by decide +kernel), List.mem_of_getElem? (i := 115) (by decide +kernel), List.mem_of_getElem? (i := 116) (by decide +kernel)⟩
theorem lw_p1 : lw_okq (⟨"CastlesAreAssessed$Letters", "signAt", "(I)I"⟩, 2) := ⟨⟨by decide +kernel, by decide +kernel⟩, List.mem_of_getElem? (i := 61) (by decide +kernel), List.mem_of_getElem? (i := 139) (by decide +kernel), List.mem_of_getElem? (i := 140) (by decide +kernel)⟩
theorem lw_p2 : lw_okq (⟨"CastlesAreAssessed$Letters", "isDigit", "(I)Z"⟩, 2) := ⟨⟨by decide +kernel, by decide +kernel⟩, List.mem_of_getElem? (i := 61) (by decide +kernel), List.mem_of_getElem? (i := 146) (by decide +kernel), List.mem_of_getElem? (i := 147) (by decide +kernel)⟩
theorem lw_p3 : lw_okq (⟨"CastlesAreAssessed$Letters", "digit", "(I)I"⟩, 2) := ⟨⟨by decide +kernel, by decide +kernel⟩, List.mem_of_getElem? (i := 61) (by decide +kernel), List.mem_of_getElem? (i := 169) (by decide +kernel), List.mem_of_getElem? (i := 170) (by decide +kernel)⟩
theorem lw_p4 : lw_okq (⟨"CastlesAreAssessed$Letters", "twoDigits", "(I)I"⟩, 2) := ⟨⟨by decide +kernel, by decide +kernel⟩, List.mem_of_getElem? (i := 61) (by decide +kernel), List.mem_of_getElem? (i := 173) (by decide +kernel), List.mem_of_getElem? (i := 174) (by decide +kernel)⟩
theorem lw_p5 : lw_okq (⟨"CastlesAreAssessed", "notStanding", "(I)I"⟩, 12) := ⟨⟨by decide +kernel, by decide +kernel⟩, List.mem_of_getElem? (i := 10) (by decide +kernel), List.mem_of_getElem? (i := 329) (by decide +kernel), List.mem_of_getElem? (i := 330) (by decide +kernel)⟩
theorem lw_p6 : lw_okq (⟨"CastlesAreAssessed", "remembers", "()V"⟩, 12) := ⟨⟨by decide +kernel, by decide +kernel⟩, List.mem_of_getElem? (i := 10) (by decide +kernel), List.mem_of_getElem? (i := 333) (by decide +kernel), List.mem_of_getElem? (i := 334) (by decide +kernel)⟩
theorem lw_p7 : lw_okq (⟨"CastlesAreAssessed", "earlierAt", "(I)LCastlesAreAssessed$Beach;"⟩, 12) := ⟨⟨by decide +kernel, by decide +kernel⟩, List.mem_of_getElem? (i := 10) (by decide +kernel), List.mem_of_getElem? (i := 337) (by decide +kernel), List.mem_of_getElem? (i := 338) (by decide +kernel)⟩
theorem lw_p8 : lw_okq (⟨"CastlesAreAssessed", "inMind", "(I)V"⟩, 12) := ⟨⟨by decide +kernel, by decide +kernel⟩, List.mem_of_getElem? (i := 10) (by decide +kernel), List.mem_of_getElem? (i := 384) (by decide +kernel), List.mem_of_getElem? (i := 385) (by decide +kernel)⟩
theorem lw_p9 : lw_okq (⟨"CastlesAreAssessed", "dryHours", "(I)I"⟩, 12) := ⟨⟨by decide +kernel, by decide +kernel⟩, List.mem_of_getElem? (i := 10) (by decide +kernel), List.mem_of_getElem? (i := 405) (by decide +kernel), List.mem_of_getElem? (i := 406) (by decide +kernel)⟩
theorem lw_p10 : lw_okq (⟨"CastlesAreAssessed", "staysDry", "(IIII)Z"⟩, 12) := ⟨⟨by decide +kernel, by decide +kernel⟩, List.mem_of_getElem? (i := 10) (by decide +kernel), List.mem_of_getElem? (i := 425) (by decide +kernel), List.mem_of_getElem? (i := 426) (by decide +kernel)⟩
theorem lw_p11 : lw_okq (⟨"CastlesAreAssessed", "oneKeeper", "(II)I"⟩, 12) := ⟨⟨by decide +kernel, by decide +kernel⟩, List.mem_of_getElem? (i := 10) (by decide +kernel), List.mem_of_getElem? (i := 429) (by decide +kernel), List.mem_of_getElem? (i := 430) (by decide +kernel)⟩
theorem lw_p12 : lw_okq (⟨"CastlesAreAssessed", "firstOfTwoKeepers", "(II)I"⟩, 12) := ⟨⟨by decide +kernel, by decide +kernel⟩, List.mem_of_getElem? (i := 10) (by decide +kernel), List.mem_of_getElem? (i := 433) (by decide +kernel), List.mem_of_getElem? (i := 434) (by decide +kernel)⟩
theorem lw_p13 : lw_okq (⟨"CastlesAreAssessed", "planRoutes", "()V"⟩, 12) := ⟨⟨by decide +kernel, by decide +kernel⟩, List.mem_of_getElem? (i := 10) (by decide +kernel), List.mem_of_getElem? (i := 449) (by decide +kernel), List.mem_of_getElem? (i := 450) (by decide +kernel)⟩
theorem lw_p14 : lw_okq (⟨"CastlesAreAssessed", "stepsOver", "(II)I"⟩, 12) := ⟨⟨by decide +kernel, by decide +kernel⟩, List.mem_of_getElem? (i := 10) (by decide +kernel), List.mem_of_getElem? (i := 453) (by decide +kernel), List.mem_of_getElem? (i := 454) (by decide +kernel)⟩
theorem lw_p15 : lw_okq (⟨"CastlesAreAssessed", "nextStop", "(II)I"⟩, 12) := ⟨⟨by decide +kernel, by decide +kernel⟩, List.mem_of_getElem? (i := 10) (by decide +kernel), List.mem_of_getElem? (i := 457) (by decide +kernel), List.mem_of_getElem? (i := 458) (by decide +kernel)⟩
def lw_privs_1 : List (MethodName × Nat) := [(⟨"CastlesAreAssessed", "refused", "(I)I"⟩, 12), (⟨"CastlesAreAssessed$Letters", "signAt", "(I)I"⟩, 2), (⟨"CastlesAreAssessed$Letters", "isDigit", "(I)Z"⟩, 2), (⟨"CastlesAreAssessed$Letters", "digit", "(I)I"⟩, 2), (⟨"CastlesAreAssessed$Letters", "twoDigits", "(I)I"⟩, 2), (⟨"CastlesAreAssessed", "notStanding", "(I)I"⟩, 12), (⟨"CastlesAreAssessed", "remembers", "()V"⟩, 12), (⟨"CastlesAreAssessed", "earlierAt", "(I)LCastlesAreAssessed$Beach;"⟩, 12), (⟨"CastlesAreAssessed", "inMind", "(I)V"⟩, 12), (⟨"CastlesAreAssessed", "dryHours", "(I)I"⟩, 12), (⟨"CastlesAreAssessed", "staysDry", "(IIII)Z"⟩, 12), (⟨"CastlesAreAssessed", "oneKeeper", "(II)I"⟩, 12), (⟨"CastlesAreAssessed", "firstOfTwoKeepers", "(II)I"⟩, 12), (⟨"CastlesAreAssessed", "planRoutes", "()V"⟩, 12), (⟨"CastlesAreAssessed", "stepsOver", "(II)I"⟩, 12), (⟨"CastlesAreAssessed", "nextStop", "(II)I"⟩, 12)]
theorem lw_r1 : ∀ q ∈ lw_privs_1, lw_okq q := List.forall_mem_cons.mpr ⟨lw_p0, List.forall_mem_cons.mpr ⟨lw_p1, List.forall_mem_cons.mpr ⟨lw_p2, List.forall_mem_cons.mpr ⟨lw_p3, List.forall_mem_cons.mpr ⟨lw_p4, List.forall_mem_cons.mpr ⟨lw_p5, List.forall_mem_cons.mpr ⟨lw_p6, List.forall_mem_cons.mpr ⟨lw_p7, List.forall_mem_cons.mpr ⟨lw_p8, List.forall_mem_cons.mpr ⟨lw_p9, List.forall_mem_cons.mpr ⟨lw_p10, List.forall_mem_cons.mpr ⟨lw_p11, List.forall_mem_cons.mpr ⟨lw_p12, List.forall_mem_cons.mpr ⟨lw_p13, List.forall_mem_cons.mpr ⟨lw_p14, List.forall_mem_cons.mpr ⟨lw_p15, fun _ h => absurd h List.not_mem_nil⟩⟩⟩⟩⟩⟩⟩⟩⟩⟩⟩⟩⟩⟩⟩⟩
theorem lw_p16 : lw_okq (⟨"CastlesAreAssessed", "stepsBy", "(III)I"⟩, 12) := ⟨⟨by decide +kernel, by decide +kernel⟩, List.mem_of_getElem? (i := 10) (by decide +kernel), List.mem_of_getElem? (i := 462) (by decide +kernel), List.mem_of_getElem? (i := 463) (by decide +kernel)⟩
theorem lw_p17 : lw_okq (⟨"CastlesAreAssessed", "wearsAsTold", "(I)Z"⟩, 12) := ⟨⟨by decide +kernel, by decide +kernel⟩, List.mem_of_getElem? (i := 10) (by decide +kernel), List.mem_of_getElem? (i := 496) (by decide +kernel), List.mem_of_getElem? (i := 497) (by decide +kernel)⟩
theorem lw_p18 : lw_okq (⟨"CastlesAreAssessed", "floodsAsTold", "()Z"⟩, 12) := ⟨⟨by decide +kernel, by decide +kernel⟩, List.mem_of_getElem? (i := 10) (by decide +kernel), List.mem_of_getElem? (i := 504) (by decide +kernel), List.mem_of_getElem? (i := 505) (by decide +kernel)⟩
theorem lw_p19 : lw_okq (⟨"CastlesAreAssessed", "purseOf", "(I)I"⟩, 12) := ⟨⟨by decide +kernel, by decide +kernel⟩, List.mem_of_getElem? (i := 10) (by decide +kernel), List.mem_of_getElem? (i := 512) (by decide +kernel), List.mem_of_getElem? (i := 513) (by decide +kernel)⟩
theorem lw_p20 : lw_okq (⟨"CastlesAreAssessed", "payingFor", "(I)V"⟩, 12) := ⟨⟨by decide +kernel, by decide +kernel⟩, List.mem_of_getElem? (i := 10) (by decide +kernel), List.mem_of_getElem? (i := 516) (by decide +kernel), List.mem_of_getElem? (i := 517) (by decide +kernel)⟩
theorem lw_p21 : lw_okq (⟨"CastlesAreAssessed", "owedOf", "(I)I"⟩, 12) := ⟨⟨by decide +kernel, by decide +kernel⟩, List.mem_of_getElem? (i := 10) (by decide +kernel), List.mem_of_getElem? (i := 521) (by decide +kernel), List.mem_of_getElem? (i := 522) (by decide +kernel)⟩
theorem lw_p22 : lw_okq (⟨"CastlesAreAssessed", "refusedLong", "(I)J"⟩, 12) := ⟨⟨by decide +kernel, by decide +kernel⟩, List.mem_of_getElem? (i := 10) (by decide +kernel), List.mem_of_getElem? (i := 529) (by decide +kernel), List.mem_of_getElem? (i := 530) (by decide +kernel)⟩
theorem lw_p23 : lw_okq (⟨"CastlesAreAssessed$Beach", "beyond", "(I)I"⟩, 9) := ⟨⟨by decide +kernel, by decide +kernel⟩, List.mem_of_getElem? (i := 18) (by decide +kernel), List.mem_of_getElem? (i := 552) (by decide +kernel), List.mem_of_getElem? (i := 553) (by decide +kernel)⟩
theorem lw_p24 : lw_okq (⟨"CastlesAreAssessedModel", "refuse", "(I)I"⟩, 40) := ⟨⟨by decide +kernel, by decide +kernel⟩, List.mem_of_getElem? (i := 641) (by decide +kernel), List.mem_of_getElem? (i := 772) (by decide +kernel), List.mem_of_getElem? (i := 773) (by decide +kernel)⟩
theorem lw_p25 : lw_okq (⟨"CastlesAreAssessedModel", "readStatement", "()V"⟩, 40) := ⟨⟨by decide +kernel, by decide +kernel⟩, List.mem_of_getElem? (i := 641) (by decide +kernel), List.mem_of_getElem? (i := 780) (by decide +kernel), List.mem_of_getElem? (i := 781) (by decide +kernel)⟩
theorem lw_p26 : lw_okq (⟨"CastlesAreAssessedModel", "here", "()I"⟩, 40) := ⟨⟨by decide +kernel, by decide +kernel⟩, List.mem_of_getElem? (i := 641) (by decide +kernel), List.mem_of_getElem? (i := 784) (by decide +kernel), List.mem_of_getElem? (i := 785) (by decide +kernel)⟩
theorem lw_p27 : lw_okq (⟨"CastlesAreAssessedModel", "readNumbers", "(II)V"⟩, 40) := ⟨⟨by decide +kernel, by decide +kernel⟩, List.mem_of_getElem? (i := 641) (by decide +kernel), List.mem_of_getElem? (i := 791) (by decide +kernel), List.mem_of_getElem? (i := 792) (by decide +kernel)⟩
theorem lw_p28 : lw_okq (⟨"CastlesAreAssessedModel", "readDigits", "(I)I"⟩, 40) := ⟨⟨by decide +kernel, by decide +kernel⟩, List.mem_of_getElem? (i := 641) (by decide +kernel), List.mem_of_getElem? (i := 795) (by decide +kernel), List.mem_of_getElem? (i := 796) (by decide +kernel)⟩
theorem lw_p29 : lw_okq (⟨"CastlesAreAssessedModel", "think", "()V"⟩, 40) := ⟨⟨by decide +kernel, by decide +kernel⟩, List.mem_of_getElem? (i := 641) (by decide +kernel), List.mem_of_getElem? (i := 804) (by decide +kernel), List.mem_of_getElem? (i := 805) (by decide +kernel)⟩
theorem lw_p30 : lw_okq (⟨"CastlesAreAssessedModel", "carryAll", "([IZ)V"⟩, 40) := ⟨⟨by decide +kernel, by decide +kernel⟩, List.mem_of_getElem? (i := 641) (by decide +kernel), List.mem_of_getElem? (i := 808) (by decide +kernel), List.mem_of_getElem? (i := 809) (by decide +kernel)⟩
theorem lw_p31 : lw_okq (⟨"CastlesAreAssessedModel", "carry", "(I)I"⟩, 40) := ⟨⟨by decide +kernel, by decide +kernel⟩, List.mem_of_getElem? (i := 641) (by decide +kernel), List.mem_of_getElem? (i := 812) (by decide +kernel), List.mem_of_getElem? (i := 813) (by decide +kernel)⟩
def lw_privs_2 : List (MethodName × Nat) := [(⟨"CastlesAreAssessed", "stepsBy", "(III)I"⟩, 12), (⟨"CastlesAreAssessed", "wearsAsTold", "(I)Z"⟩, 12), (⟨"CastlesAreAssessed", "floodsAsTold", "()Z"⟩, 12), (⟨"CastlesAreAssessed", "purseOf", "(I)I"⟩, 12), (⟨"CastlesAreAssessed", "payingFor", "(I)V"⟩, 12), (⟨"CastlesAreAssessed", "owedOf", "(I)I"⟩, 12), (⟨"CastlesAreAssessed", "refusedLong", "(I)J"⟩, 12), (⟨"CastlesAreAssessed$Beach", "beyond", "(I)I"⟩, 9), (⟨"CastlesAreAssessedModel", "refuse", "(I)I"⟩, 40), (⟨"CastlesAreAssessedModel", "readStatement", "()V"⟩, 40), (⟨"CastlesAreAssessedModel", "here", "()I"⟩, 40), (⟨"CastlesAreAssessedModel", "readNumbers", "(II)V"⟩, 40), (⟨"CastlesAreAssessedModel", "readDigits", "(I)I"⟩, 40), (⟨"CastlesAreAssessedModel", "think", "()V"⟩, 40), (⟨"CastlesAreAssessedModel", "carryAll", "([IZ)V"⟩, 40), (⟨"CastlesAreAssessedModel", "carry", "(I)I"⟩, 40)]
theorem lw_r2 : ∀ q ∈ lw_privs_2, lw_okq q := List.forall_mem_cons.mpr ⟨lw_p16, List.forall_mem_cons.mpr ⟨lw_p17, List.forall_mem_cons.mpr ⟨lw_p18, List.forall_mem_cons.mpr ⟨lw_p19, List.forall_mem_cons.mpr ⟨lw_p20, List.forall_mem_cons.mpr ⟨lw_p21, List.forall_mem_cons.mpr ⟨lw_p22, List.forall_mem_cons.mpr ⟨lw_p23, List.forall_mem_cons.mpr ⟨lw_p24, List.forall_mem_cons.mpr ⟨lw_p25, List.forall_mem_cons.mpr ⟨lw_p26, List.forall_mem_cons.mpr ⟨lw_p27, List.forall_mem_cons.mpr ⟨lw_p28, List.forall_mem_cons.mpr ⟨lw_p29, List.forall_mem_cons.mpr ⟨lw_p30, List.forall_mem_cons.mpr ⟨lw_p31, fun _ h => absurd h List.not_mem_nil⟩⟩⟩⟩⟩⟩⟩⟩⟩⟩⟩⟩⟩⟩⟩⟩
theorem lw_p32 : lw_okq (⟨"CastlesAreAssessedModel", "comesTold", "(I)Z"⟩, 40) := ⟨⟨by decide +kernel, by decide +kernel⟩, List.mem_of_getElem? (i := 641) (by decide +kernel), List.mem_of_getElem? (i := 816) (by decide +kernel), List.mem_of_getElem? (i := 817) (by decide +kernel)⟩
theorem lw_p33 : lw_okq (⟨"CastlesAreAssessedModel", "workAt", "(I)I"⟩, 40) := ⟨⟨by decide +kernel, by decide +kernel⟩, List.mem_of_getElem? (i := 641) (by decide +kernel), List.mem_of_getElem? (i := 824) (by decide +kernel), List.mem_of_getElem? (i := 825) (by decide +kernel)⟩
theorem lw_p34 : lw_okq (⟨"CastlesAreAssessedModel", "workComes", "(III)V"⟩, 40) := ⟨⟨by decide +kernel, by decide +kernel⟩, List.mem_of_getElem? (i := 641) (by decide +kernel), List.mem_of_getElem? (i := 828) (by decide +kernel), List.mem_of_getElem? (i := 829) (by decide +kernel)⟩
theorem lw_p35 : lw_okq (⟨"CastlesAreAssessedModel", "payAll", "()I"⟩, 40) := ⟨⟨by decide +kernel, by decide +kernel⟩, List.mem_of_getElem? (i := 641) (by decide +kernel), List.mem_of_getElem? (i := 832) (by decide +kernel), List.mem_of_getElem? (i := 833) (by decide +kernel)⟩
theorem lw_p36 : lw_okq (⟨"CastlesAreAssessedModel", "goHours", "(I)V"⟩, 40) := ⟨⟨by decide +kernel, by decide +kernel⟩, List.mem_of_getElem? (i := 641) (by decide +kernel), List.mem_of_getElem? (i := 840) (by decide +kernel), List.mem_of_getElem? (i := 841) (by decide +kernel)⟩
theorem lw_p37 : lw_okq (⟨"CastlesAreAssessedModel", "hourBy", "(I)V"⟩, 40) := ⟨⟨by decide +kernel, by decide +kernel⟩, List.mem_of_getElem? (i := 641) (by decide +kernel), List.mem_of_getElem? (i := 844) (by decide +kernel), List.mem_of_getElem? (i := 845) (by decide +kernel)⟩
theorem lw_p38 : lw_okq (⟨"CastlesAreAssessedModel", "layWet", "(I)V"⟩, 40) := ⟨⟨by decide +kernel, by decide +kernel⟩, List.mem_of_getElem? (i := 641) (by decide +kernel), List.mem_of_getElem? (i := 851) (by decide +kernel), List.mem_of_getElem? (i := 852) (by decide +kernel)⟩
theorem lw_p39 : lw_okq (⟨"CastlesAreAssessedModel", "isStop", "(I)Z"⟩, 40) := ⟨⟨by decide +kernel, by decide +kernel⟩, List.mem_of_getElem? (i := 641) (by decide +kernel), List.mem_of_getElem? (i := 855) (by decide +kernel), List.mem_of_getElem? (i := 856) (by decide +kernel)⟩
theorem lw_p40 : lw_okq (⟨"CastlesAreAssessedModel", "becomeWet", "(II)V"⟩, 40) := ⟨⟨by decide +kernel, by decide +kernel⟩, List.mem_of_getElem? (i := 641) (by decide +kernel), List.mem_of_getElem? (i := 859) (by decide +kernel), List.mem_of_getElem? (i := 860) (by decide +kernel)⟩
theorem lw_p41 : lw_okq (⟨"CastlesAreAssessedModel", "isWorn", "(I)Z"⟩, 40) := ⟨⟨by decide +kernel, by decide +kernel⟩, List.mem_of_getElem? (i := 641) (by decide +kernel), List.mem_of_getElem? (i := 869) (by decide +kernel), List.mem_of_getElem? (i := 870) (by decide +kernel)⟩
theorem lw_p42 : lw_okq (⟨"CastlesAreAssessedModel", "isWet", "(I)Z"⟩, 40) := ⟨⟨by decide +kernel, by decide +kernel⟩, List.mem_of_getElem? (i := 641) (by decide +kernel), List.mem_of_getElem? (i := 873) (by decide +kernel), List.mem_of_getElem? (i := 874) (by decide +kernel)⟩
theorem lw_p43 : lw_okq (⟨"CastlesAreAssessedModel", "letsOf", "(I)I"⟩, 40) := ⟨⟨by decide +kernel, by decide +kernel⟩, List.mem_of_getElem? (i := 641) (by decide +kernel), List.mem_of_getElem? (i := 877) (by decide +kernel), List.mem_of_getElem? (i := 878) (by decide +kernel)⟩
theorem lw_p44 : lw_okq (⟨"CastlesAreAssessedModel", "rateOf", "(I)I"⟩, 40) := ⟨⟨by decide +kernel, by decide +kernel⟩, List.mem_of_getElem? (i := 641) (by decide +kernel), List.mem_of_getElem? (i := 881) (by decide +kernel), List.mem_of_getElem? (i := 882) (by decide +kernel)⟩
theorem lw_p45 : lw_okq (⟨"CastlesAreAssessedModel", "holdsOf", "(I)I"⟩, 40) := ⟨⟨by decide +kernel, by decide +kernel⟩, List.mem_of_getElem? (i := 641) (by decide +kernel), List.mem_of_getElem? (i := 885) (by decide +kernel), List.mem_of_getElem? (i := 886) (by decide +kernel)⟩
theorem lw_p46 : lw_okq (⟨"CastlesAreAssessedModel", "isStanding", "(I)Z"⟩, 40) := ⟨⟨by decide +kernel, by decide +kernel⟩, List.mem_of_getElem? (i := 641) (by decide +kernel), List.mem_of_getElem? (i := 889) (by decide +kernel), List.mem_of_getElem? (i := 890) (by decide +kernel)⟩
theorem lw_p47 : lw_okq (⟨"CastlesAreAssessedModel", "isWork", "(I)Z"⟩, 40) := ⟨⟨by decide +kernel, by decide +kernel⟩, List.mem_of_getElem? (i := 641) (by decide +kernel), List.mem_of_getElem? (i := 893) (by decide +kernel), List.mem_of_getElem? (i := 894) (by decide +kernel)⟩
def lw_privs_3 : List (MethodName × Nat) := [(⟨"CastlesAreAssessedModel", "comesTold", "(I)Z"⟩, 40), (⟨"CastlesAreAssessedModel", "workAt", "(I)I"⟩, 40), (⟨"CastlesAreAssessedModel", "workComes", "(III)V"⟩, 40), (⟨"CastlesAreAssessedModel", "payAll", "()I"⟩, 40), (⟨"CastlesAreAssessedModel", "goHours", "(I)V"⟩, 40), (⟨"CastlesAreAssessedModel", "hourBy", "(I)V"⟩, 40), (⟨"CastlesAreAssessedModel", "layWet", "(I)V"⟩, 40), (⟨"CastlesAreAssessedModel", "isStop", "(I)Z"⟩, 40), (⟨"CastlesAreAssessedModel", "becomeWet", "(II)V"⟩, 40), (⟨"CastlesAreAssessedModel", "isWorn", "(I)Z"⟩, 40), (⟨"CastlesAreAssessedModel", "isWet", "(I)Z"⟩, 40), (⟨"CastlesAreAssessedModel", "letsOf", "(I)I"⟩, 40), (⟨"CastlesAreAssessedModel", "rateOf", "(I)I"⟩, 40), (⟨"CastlesAreAssessedModel", "holdsOf", "(I)I"⟩, 40), (⟨"CastlesAreAssessedModel", "isStanding", "(I)Z"⟩, 40), (⟨"CastlesAreAssessedModel", "isWork", "(I)Z"⟩, 40)]
theorem lw_r3 : ∀ q ∈ lw_privs_3, lw_okq q := List.forall_mem_cons.mpr ⟨lw_p32, List.forall_mem_cons.mpr ⟨lw_p33, List.forall_mem_cons.mpr ⟨lw_p34, List.forall_mem_cons.mpr ⟨lw_p35, List.forall_mem_cons.mpr ⟨lw_p36, List.forall_mem_cons.mpr ⟨lw_p37, List.forall_mem_cons.mpr ⟨lw_p38, List.forall_mem_cons.mpr ⟨lw_p39, List.forall_mem_cons.mpr ⟨lw_p40, List.forall_mem_cons.mpr ⟨lw_p41, List.forall_mem_cons.mpr ⟨lw_p42, List.forall_mem_cons.mpr ⟨lw_p43, List.forall_mem_cons.mpr ⟨lw_p44, List.forall_mem_cons.mpr ⟨lw_p45, List.forall_mem_cons.mpr ⟨lw_p46, List.forall_mem_cons.mpr ⟨lw_p47, fun _ h => absurd h List.not_mem_nil⟩⟩⟩⟩⟩⟩⟩⟩⟩⟩⟩⟩⟩⟩⟩⟩
theorem lw_p48 : lw_okq (⟨"CastlesAreAssessedModel", "again", "()V"⟩, 40) := ⟨⟨by decide +kernel, by decide +kernel⟩, List.mem_of_getElem? (i := 641) (by decide +kernel), List.mem_of_getElem? (i := 897) (by decide +kernel), List.mem_of_getElem? (i := 898) (by decide +kernel)⟩
theorem lw_p49 : lw_okq (⟨"CastlesAreAssessedModel", "keepTurn", "()V"⟩, 40) := ⟨⟨by decide +kernel, by decide +kernel⟩, List.mem_of_getElem? (i := 641) (by decide +kernel), List.mem_of_getElem? (i := 934) (by decide +kernel), List.mem_of_getElem? (i := 935) (by decide +kernel)⟩
theorem lw_p50 : lw_okq (⟨"CastlesAreAssessedModel", "standing", "()I"⟩, 40) := ⟨⟨by decide +kernel, by decide +kernel⟩, List.mem_of_getElem? (i := 641) (by decide +kernel), List.mem_of_getElem? (i := 938) (by decide +kernel), List.mem_of_getElem? (i := 939) (by decide +kernel)⟩
theorem lw_p51 : lw_okq (⟨"CastlesAreAssessedModel", "wetNow", "()I"⟩, 40) := ⟨⟨by decide +kernel, by decide +kernel⟩, List.mem_of_getElem? (i := 641) (by decide +kernel), List.mem_of_getElem? (i := 965) (by decide +kernel), List.mem_of_getElem? (i := 966) (by decide +kernel)⟩
theorem lw_p52 : lw_okq (⟨"CastlesAreAssessedModel", "layDry", "()V"⟩, 40) := ⟨⟨by decide +kernel, by decide +kernel⟩, List.mem_of_getElem? (i := 641) (by decide +kernel), List.mem_of_getElem? (i := 984) (by decide +kernel), List.mem_of_getElem? (i := 985) (by decide +kernel)⟩
theorem lw_p53 : lw_okq (⟨"CastlesAreAssessedModel", "fallOf", "(I)I"⟩, 40) := ⟨⟨by decide +kernel, by decide +kernel⟩, List.mem_of_getElem? (i := 641) (by decide +kernel), List.mem_of_getElem? (i := 997) (by decide +kernel), List.mem_of_getElem? (i := 998) (by decide +kernel)⟩
theorem lw_p54 : lw_okq (⟨"CastlesAreAssessedModel", "staysDry", "(II)Z"⟩, 40) := ⟨⟨by decide +kernel, by decide +kernel⟩, List.mem_of_getElem? (i := 641) (by decide +kernel), List.mem_of_getElem? (i := 1005) (by decide +kernel), List.mem_of_getElem? (i := 1006) (by decide +kernel)⟩
theorem lw_p55 : lw_okq (⟨"CastlesAreAssessedModel", "firstOfOne", "(II)I"⟩, 40) := ⟨⟨by decide +kernel, by decide +kernel⟩, List.mem_of_getElem? (i := 641) (by decide +kernel), List.mem_of_getElem? (i := 1009) (by decide +kernel), List.mem_of_getElem? (i := 1010) (by decide +kernel)⟩
theorem lw_p56 : lw_okq (⟨"CastlesAreAssessedModel", "firstOfTwo", "(II)I"⟩, 40) := ⟨⟨by decide +kernel, by decide +kernel⟩, List.mem_of_getElem? (i := 641) (by decide +kernel), List.mem_of_getElem? (i := 1013) (by decide +kernel), List.mem_of_getElem? (i := 1014) (by decide +kernel)⟩
theorem lw_p57 : lw_okq (⟨"CastlesAreAssessedModel", "layRound", "()V"⟩, 40) := ⟨⟨by decide +kernel, by decide +kernel⟩, List.mem_of_getElem? (i := 641) (by decide +kernel), List.mem_of_getElem? (i := 1029) (by decide +kernel), List.mem_of_getElem? (i := 1030) (by decide +kernel)⟩
theorem lw_p58 : lw_okq (⟨"CastlesAreAssessedModel", "cellOf", "(I)I"⟩, 40) := ⟨⟨by decide +kernel, by decide +kernel⟩, List.mem_of_getElem? (i := 641) (by decide +kernel), List.mem_of_getElem? (i := 1033) (by decide +kernel), List.mem_of_getElem? (i := 1034) (by decide +kernel)⟩
theorem lw_p59 : lw_okq (⟨"CastlesAreAssessedModel", "nextOn", "(II)I"⟩, 40) := ⟨⟨by decide +kernel, by decide +kernel⟩, List.mem_of_getElem? (i := 641) (by decide +kernel), List.mem_of_getElem? (i := 1040) (by decide +kernel), List.mem_of_getElem? (i := 1041) (by decide +kernel)⟩
theorem lw_p60 : lw_okq (⟨"CastlesAreAssessedModel", "ratesIn", "(I)I"⟩, 40) := ⟨⟨by decide +kernel, by decide +kernel⟩, List.mem_of_getElem? (i := 641) (by decide +kernel), List.mem_of_getElem? (i := 1048) (by decide +kernel), List.mem_of_getElem? (i := 1049) (by decide +kernel)⟩
theorem lw_p61 : lw_okq (⟨"CastlesAreAssessedModel", "dearestOne", "()I"⟩, 40) := ⟨⟨by decide +kernel, by decide +kernel⟩, List.mem_of_getElem? (i := 641) (by decide +kernel), List.mem_of_getElem? (i := 1052) (by decide +kernel), List.mem_of_getElem? (i := 1053) (by decide +kernel)⟩
theorem lw_p62 : lw_okq (⟨"CastlesAreAssessedModel", "behindBits", "()I"⟩, 40) := ⟨⟨by decide +kernel, by decide +kernel⟩, List.mem_of_getElem? (i := 641) (by decide +kernel), List.mem_of_getElem? (i := 1056) (by decide +kernel), List.mem_of_getElem? (i := 1057) (by decide +kernel)⟩
theorem lw_p63 : lw_okq (⟨"CastlesAreAssessedModel", "isRow", "(I)Z"⟩, 40) := ⟨⟨by decide +kernel, by decide +kernel⟩, List.mem_of_getElem? (i := 641) (by decide +kernel), List.mem_of_getElem? (i := 1064) (by decide +kernel), List.mem_of_getElem? (i := 1065) (by decide +kernel)⟩
def lw_privs_4 : List (MethodName × Nat) := [(⟨"CastlesAreAssessedModel", "again", "()V"⟩, 40), (⟨"CastlesAreAssessedModel", "keepTurn", "()V"⟩, 40), (⟨"CastlesAreAssessedModel", "standing", "()I"⟩, 40), (⟨"CastlesAreAssessedModel", "wetNow", "()I"⟩, 40), (⟨"CastlesAreAssessedModel", "layDry", "()V"⟩, 40), (⟨"CastlesAreAssessedModel", "fallOf", "(I)I"⟩, 40), (⟨"CastlesAreAssessedModel", "staysDry", "(II)Z"⟩, 40), (⟨"CastlesAreAssessedModel", "firstOfOne", "(II)I"⟩, 40), (⟨"CastlesAreAssessedModel", "firstOfTwo", "(II)I"⟩, 40), (⟨"CastlesAreAssessedModel", "layRound", "()V"⟩, 40), (⟨"CastlesAreAssessedModel", "cellOf", "(I)I"⟩, 40), (⟨"CastlesAreAssessedModel", "nextOn", "(II)I"⟩, 40), (⟨"CastlesAreAssessedModel", "ratesIn", "(I)I"⟩, 40), (⟨"CastlesAreAssessedModel", "dearestOne", "()I"⟩, 40), (⟨"CastlesAreAssessedModel", "behindBits", "()I"⟩, 40), (⟨"CastlesAreAssessedModel", "isRow", "(I)Z"⟩, 40)]
theorem lw_r4 : ∀ q ∈ lw_privs_4, lw_okq q := List.forall_mem_cons.mpr ⟨lw_p48, List.forall_mem_cons.mpr ⟨lw_p49, List.forall_mem_cons.mpr ⟨lw_p50, List.forall_mem_cons.mpr ⟨lw_p51, List.forall_mem_cons.mpr ⟨lw_p52, List.forall_mem_cons.mpr ⟨lw_p53, List.forall_mem_cons.mpr ⟨lw_p54, List.forall_mem_cons.mpr ⟨lw_p55, List.forall_mem_cons.mpr ⟨lw_p56, List.forall_mem_cons.mpr ⟨lw_p57, List.forall_mem_cons.mpr ⟨lw_p58, List.forall_mem_cons.mpr ⟨lw_p59, List.forall_mem_cons.mpr ⟨lw_p60, List.forall_mem_cons.mpr ⟨lw_p61, List.forall_mem_cons.mpr ⟨lw_p62, List.forall_mem_cons.mpr ⟨lw_p63, fun _ h => absurd h List.not_mem_nil⟩⟩⟩⟩⟩⟩⟩⟩⟩⟩⟩⟩⟩⟩⟩⟩
theorem lw_p64 : lw_okq (⟨"CastlesAreAssessedModel", "weakestOne", "()I"⟩, 40) := ⟨⟨by decide +kernel, by decide +kernel⟩, List.mem_of_getElem? (i := 641) (by decide +kernel), List.mem_of_getElem? (i := 1095) (by decide +kernel), List.mem_of_getElem? (i := 1096) (by decide +kernel)⟩
theorem lw_p65 : lw_okq (⟨"CastlesAreAssessedModel", "aloneBits", "()I"⟩, 40) := ⟨⟨by decide +kernel, by decide +kernel⟩, List.mem_of_getElem? (i := 641) (by decide +kernel), List.mem_of_getElem? (i := 1099) (by decide +kernel), List.mem_of_getElem? (i := 1100) (by decide +kernel)⟩
theorem lw_p66 : lw_okq (⟨"CastlesAreAssessedModel", "highestOne", "()I"⟩, 40) := ⟨⟨by decide +kernel, by decide +kernel⟩, List.mem_of_getElem? (i := 641) (by decide +kernel), List.mem_of_getElem? (i := 1106) (by decide +kernel), List.mem_of_getElem? (i := 1107) (by decide +kernel)⟩
theorem lw_p67 : lw_okq (⟨"CastlesAreAssessedModel", "drawBelow", "(I)I"⟩, 40) := ⟨⟨by decide +kernel, by decide +kernel⟩, List.mem_of_getElem? (i := 641) (by decide +kernel), List.mem_of_getElem? (i := 1152) (by decide +kernel), List.mem_of_getElem? (i := 1153) (by decide +kernel)⟩
def lw_privs_5 : List (MethodName × Nat) := [(⟨"CastlesAreAssessedModel", "weakestOne", "()I"⟩, 40), (⟨"CastlesAreAssessedModel", "aloneBits", "()I"⟩, 40), (⟨"CastlesAreAssessedModel", "highestOne", "()I"⟩, 40), (⟨"CastlesAreAssessedModel", "drawBelow", "(I)I"⟩, 40)]
theorem lw_r5 : ∀ q ∈ lw_privs_5, lw_okq q := List.forall_mem_cons.mpr ⟨lw_p64, List.forall_mem_cons.mpr ⟨lw_p65, List.forall_mem_cons.mpr ⟨lw_p66, List.forall_mem_cons.mpr ⟨lw_p67, fun _ h => absurd h List.not_mem_nil⟩⟩⟩⟩
def lw_privs : List (MethodName × Nat) := lw_privs_1 ++ (lw_privs_2 ++ (lw_privs_3 ++ (lw_privs_4 ++ (lw_privs_5))))
def lw_tbl : List Cond := k2_sels lw_privs ++ tables_1
theorem lw_privs_ok : ∀ q ∈ lw_privs, lw_okq q := by
  show ∀ q ∈ lw_privs_1 ++ (lw_privs_2 ++ (lw_privs_3 ++ (lw_privs_4 ++ (lw_privs_5)))), lw_okq q
  exact List.forall_mem_append.mpr ⟨lw_r1, List.forall_mem_append.mpr ⟨lw_r2, List.forall_mem_append.mpr ⟨lw_r3, List.forall_mem_append.mpr ⟨lw_r4, lw_r5⟩⟩⟩⟩
-- ===== end of PART A; then your names; then what follows =====
end
section
def RX0 : String := "CastlesAreAssessed$Beach"
def TX0 : u_T := fun k => match k with
  | 0 => ("CastlesAreAssessed$Beach", "kinds", "[I", true)
  | 1 => ("CastlesAreAssessed$Beach", "figures", "[I", true)
  | 2 => ("CastlesAreAssessed$Beach", "cells", "[I", true)
  | 3 => ("CastlesAreAssessed$Beach", "worn", "[I", true)
  | 4 => ("CastlesAreAssessed$Beach", "works", "I", false)
  | 5 => ("CastlesAreAssessed$Beach", "standing", "I", false)
  | 6 => ("CastlesAreAssessed$Beach", "hour", "I", false)
  | 7 => ("CastlesAreAssessed$Beach", "purse", "I", false)
  | _ => ("CastlesAreAssessed$Beach", "owed", "I", false)
def tyX0 : Nat → FieldType := fun k => match k with
  | 0 => .array .int
  | 1 => .array .int
  | 2 => .array .int
  | 3 => .array .int
  | 4 => .int
  | 5 => .int
  | 6 => .int
  | 7 => .int
  | _ => .int
abbrev wsX00 : List Cond := u_ws RX0 TX0 9
theorem nmX0 : ∀ a, a < 9 → ∀ b, b < 9 → a ≠ b → (TX0 a).2.1 ≠ (TX0 b).2.1 := by decide +kernel
theorem tyX0_ok : ∀ k, k < 9 → parseFieldDescriptor (TX0 k).2.2.1 = some (tyX0 k) := by decide +kernel
abbrev cX0_init : ByteArray := prog_2_method_1_code
def yX0_init : MethodName := ⟨RX0, "<init>", "()V"⟩
abbrev cX0_becomes : ByteArray := prog_2_method_2_code
def yX0_becomes : MethodName := ⟨RX0, "becomes", "(LCastlesAreAssessed$Beach;)V"⟩
abbrev cX0_knows : ByteArray := prog_2_method_3_code
def yX0_knows : MethodName := ⟨RX0, "knows", "(I)Z"⟩
abbrev cX0_stands : ByteArray := prog_2_method_4_code
def yX0_stands : MethodName := ⟨RX0, "stands", "(I)Z"⟩
abbrev cX0_kindOf : ByteArray := prog_2_method_5_code
def yX0_kindOf : MethodName := ⟨RX0, "kindOf", "(I)I"⟩
abbrev cX0_figureOf : ByteArray := prog_2_method_6_code
def yX0_figureOf : MethodName := ⟨RX0, "figureOf", "(I)I"⟩
abbrev cX0_cellOf : ByteArray := prog_2_method_7_code
def yX0_cellOf : MethodName := ⟨RX0, "cellOf", "(I)I"⟩
abbrev cX0_wornOf : ByteArray := prog_2_method_8_code
def yX0_wornOf : MethodName := ⟨RX0, "wornOf", "(I)I"⟩
abbrev cX0_holdsOf : ByteArray := prog_2_method_9_code
def yX0_holdsOf : MethodName := ⟨RX0, "holdsOf", "(I)I"⟩
abbrev cX0_rateOf : ByteArray := prog_2_method_10_code
def yX0_rateOf : MethodName := ⟨RX0, "rateOf", "(I)I"⟩
abbrev cX0_workIn : ByteArray := prog_2_method_11_code
def yX0_workIn : MethodName := ⟨RX0, "workIn", "(I)I"⟩
abbrev cX0_builds : ByteArray := prog_2_method_12_code
def yX0_builds : MethodName := ⟨RX0, "builds", "(III)V"⟩
abbrev cX0_loses : ByteArray := prog_2_method_13_code
def yX0_loses : MethodName := ⟨RX0, "loses", "(I)V"⟩
abbrev cX0_wears : ByteArray := prog_2_method_14_code
def yX0_wears : MethodName := ⟨RX0, "wears", "(II)V"⟩
abbrev cX0_takesFor : ByteArray := prog_2_method_15_code
def yX0_takesFor : MethodName := ⟨RX0, "takesFor", "(III)V"⟩
abbrev cX0_settles : ByteArray := prog_2_method_16_code
def yX0_settles : MethodName := ⟨RX0, "settles", "()V"⟩
abbrev cX0_goesOn : ByteArray := prog_2_method_17_code
def yX0_goesOn : MethodName := ⟨RX0, "goesOn", "(I)V"⟩
abbrev cX0_anHour : ByteArray := prog_2_method_18_code
def yX0_anHour : MethodName := ⟨RX0, "anHour", "(II)V"⟩
abbrev cX0_wetAt : ByteArray := prog_2_method_19_code
def yX0_wetAt : MethodName := ⟨RX0, "wetAt", "(I)I"⟩
abbrev cX0_wetNow : ByteArray := prog_2_method_20_code
def yX0_wetNow : MethodName := ⟨RX0, "wetNow", "()I"⟩
abbrev cX0_dryWorks : ByteArray := prog_2_method_21_code
def yX0_dryWorks : MethodName := ⟨RX0, "dryWorks", "(I)I"⟩
abbrev cX0_standingWorks : ByteArray := prog_2_method_22_code
def yX0_standingWorks : MethodName := ⟨RX0, "standingWorks", "()I"⟩
abbrev cX0_standingCells : ByteArray := prog_2_method_23_code
def yX0_standingCells : MethodName := ⟨RX0, "standingCells", "()I"⟩
abbrev cX0_standingOf : ByteArray := prog_2_method_24_code
def yX0_standingOf : MethodName := ⟨RX0, "standingOf", "(I)I"⟩
abbrev cX0_rates : ByteArray := prog_2_method_25_code
def yX0_rates : MethodName := ⟨RX0, "rates", "()I"⟩
abbrev cX0_dearest : ByteArray := prog_2_method_26_code
def yX0_dearest : MethodName := ⟨RX0, "dearest", "()I"⟩
abbrev cX0_leastBeyond : ByteArray := prog_2_method_27_code
def yX0_leastBeyond : MethodName := ⟨RX0, "leastBeyond", "()I"⟩
abbrev cX0_beyond : ByteArray := prog_2_method_28_code
def yX0_beyond : MethodName := ⟨RX0, "beyond", "(I)I"⟩
abbrev cX0_highestWork : ByteArray := prog_2_method_29_code
def yX0_highestWork : MethodName := ⟨RX0, "highestWork", "()I"⟩
abbrev cX0_aloneWorks : ByteArray := prog_2_method_30_code
def yX0_aloneWorks : MethodName := ⟨RX0, "aloneWorks", "()I"⟩
abbrev cX0_pairsBeside : ByteArray := prog_2_method_31_code
def yX0_pairsBeside : MethodName := ⟨RX0, "pairsBeside", "()I"⟩
abbrev cX0_spread : ByteArray := prog_2_method_32_code
def yX0_spread : MethodName := ⟨RX0, "spread", "()I"⟩
def RX1 : String := "CastlesAreAssessed$Kinds"
def TX1 : u_T := fun k => match k with
  | _ => ("", "", "", false)
def tyX1 : Nat → FieldType := fun k => match k with
  | _ => .int
abbrev wsX10 : List Cond := u_ws RX1 TX1 0
theorem nmX1 : ∀ a, a < 0 → ∀ b, b < 0 → a ≠ b → (TX1 a).2.1 ≠ (TX1 b).2.1 := by decide +kernel
theorem tyX1_ok : ∀ k, k < 0 → parseFieldDescriptor (TX1 k).2.2.1 = some (tyX1 k) := by decide +kernel
abbrev cX1_stopsSea : ByteArray := prog_3_method_2_code
def yX1_stopsSea : MethodName := ⟨RX1, "stopsSea", "(I)Z"⟩
abbrev cX1_holdsFor : ByteArray := prog_3_method_3_code
def yX1_holdsFor : MethodName := ⟨RX1, "holdsFor", "(II)I"⟩
abbrev cX1_rateFor : ByteArray := prog_3_method_4_code
def yX1_rateFor : MethodName := ⟨RX1, "rateFor", "(II)I"⟩
abbrev cX1_letsFor : ByteArray := prog_3_method_5_code
def yX1_letsFor : MethodName := ⟨RX1, "letsFor", "(II)I"⟩
def RX2 : String := "CastlesAreAssessed$Letters"
def TX2 : u_T := fun k => match k with
  | 0 => ("CastlesAreAssessed$Letters", "signs", "[I", true)
  | _ => ("CastlesAreAssessed$Letters", "size", "I", false)
def tyX2 : Nat → FieldType := fun k => match k with
  | 0 => .array .int
  | _ => .int
abbrev wsX20 : List Cond := u_ws RX2 TX2 2
theorem nmX2 : ∀ a, a < 2 → ∀ b, b < 2 → a ≠ b → (TX2 a).2.1 ≠ (TX2 b).2.1 := by decide +kernel
theorem tyX2_ok : ∀ k, k < 2 → parseFieldDescriptor (TX2 k).2.2.1 = some (tyX2 k) := by decide +kernel
abbrev cX2_init : ByteArray := prog_4_method_1_code
def yX2_init : MethodName := ⟨RX2, "<init>", "()V"⟩
abbrev cX2_isFull : ByteArray := prog_4_method_2_code
def yX2_isFull : MethodName := ⟨RX2, "isFull", "()Z"⟩
abbrev cX2_size : ByteArray := prog_4_method_3_code
def yX2_size : MethodName := ⟨RX2, "size", "()I"⟩
abbrev cX2_add : ByteArray := prog_4_method_4_code
def yX2_add : MethodName := ⟨RX2, "add", "(I)V"⟩
abbrev cX2_forget : ByteArray := prog_4_method_5_code
def yX2_forget : MethodName := ⟨RX2, "forget", "()V"⟩
abbrev cX2_signAt : ByteArray := prog_4_method_6_code
def yX2_signAt : MethodName := ⟨RX2, "signAt", "(I)I"⟩
abbrev cX2_isDigit : ByteArray := prog_4_method_7_code
def yX2_isDigit : MethodName := ⟨RX2, "isDigit", "(I)Z"⟩
abbrev cX2_digit : ByteArray := prog_4_method_8_code
def yX2_digit : MethodName := ⟨RX2, "digit", "(I)I"⟩
abbrev cX2_twoDigits : ByteArray := prog_4_method_9_code
def yX2_twoDigits : MethodName := ⟨RX2, "twoDigits", "(I)I"⟩
abbrev cX2_digitsBehind : ByteArray := prog_4_method_10_code
def yX2_digitsBehind : MethodName := ⟨RX2, "digitsBehind", "(I)I"⟩
abbrev cX2_lengthAt : ByteArray := prog_4_method_11_code
def yX2_lengthAt : MethodName := ⟨RX2, "lengthAt", "(I)I"⟩
abbrev cX2_lackPlace : ByteArray := prog_4_method_12_code
def yX2_lackPlace : MethodName := ⟨RX2, "lackPlace", "()I"⟩
abbrev cX2_comes : ByteArray := prog_4_method_13_code
def yX2_comes : MethodName := ⟨RX2, "comes", "(ILCastlesAreAssessed$Beach;)Z"⟩
abbrev cX2_built : ByteArray := prog_4_method_14_code
def yX2_built : MethodName := ⟨RX2, "built", "(IIILCastlesAreAssessed$Beach;)Z"⟩
abbrev cX2_lost : ByteArray := prog_4_method_15_code
def yX2_lost : MethodName := ⟨RX2, "lost", "(ILCastlesAreAssessed$Beach;)Z"⟩
abbrev cX2_wornBy : ByteArray := prog_4_method_16_code
def yX2_wornBy : MethodName := ⟨RX2, "wornBy", "(IILCastlesAreAssessed$Beach;)Z"⟩
abbrev cX2_paid : ByteArray := prog_4_method_17_code
def yX2_paid : MethodName := ⟨RX2, "paid", "(LCastlesAreAssessed$Beach;)Z"⟩
abbrev cX2_passed : ByteArray := prog_4_method_18_code
def yX2_passed : MethodName := ⟨RX2, "passed", "(ILCastlesAreAssessed$Beach;)Z"⟩
def RX3 : String := "CastlesAreAssessed$Sea"
def TX3 : u_T := fun k => match k with
  | _ => ("", "", "", false)
def tyX3 : Nat → FieldType := fun k => match k with
  | _ => .int
abbrev wsX30 : List Cond := u_ws RX3 TX3 0
theorem nmX3 : ∀ a, a < 0 → ∀ b, b < 0 → a ≠ b → (TX3 a).2.1 ≠ (TX3 b).2.1 := by decide +kernel
theorem tyX3_ok : ∀ k, k < 0 → parseFieldDescriptor (TX3 k).2.2.1 = some (tyX3 k) := by decide +kernel
abbrev cX3_height : ByteArray := prog_5_method_2_code
def yX3_height : MethodName := ⟨RX3, "height", "(I)I"⟩
abbrev cX3_has : ByteArray := prog_5_method_3_code
def yX3_has : MethodName := ⟨RX3, "has", "(II)Z"⟩
abbrev cX3_beside : ByteArray := prog_5_method_4_code
def yX3_beside : MethodName := ⟨RX3, "beside", "(I)I"⟩
abbrev cX3_lowestRows : ByteArray := prog_5_method_5_code
def yX3_lowestRows : MethodName := ⟨RX3, "lowestRows", "(I)I"⟩
abbrev cX3_steps : ByteArray := prog_5_method_6_code
def yX3_steps : MethodName := ⟨RX3, "steps", "(II)I"⟩
def RX4 : String := "CastlesAreAssessed"
def TX4 : u_T := fun k => match k with
  | 0 => ("CastlesAreAssessed", "now", "LCastlesAreAssessed$Beach;", true)
  | 1 => ("CastlesAreAssessed", "mind", "LCastlesAreAssessed$Beach;", true)
  | 2 => ("CastlesAreAssessed", "picture", "LCastlesAreAssessed$Beach;", true)
  | 3 => ("CastlesAreAssessed", "earlier", "[LCastlesAreAssessed$Beach;", true)
  | 4 => ("CastlesAreAssessed", "letters", "LCastlesAreAssessed$Letters;", true)
  | 5 => ("CastlesAreAssessed", "told", "[I", true)
  | 6 => ("CastlesAreAssessed", "refusals", "[I", true)
  | 7 => ("CastlesAreAssessed", "fewest", "[I", true)
  | 8 => ("CastlesAreAssessed", "toldSize", "I", false)
  | 9 => ("CastlesAreAssessed", "takes", "I", false)
  | 10 => ("CastlesAreAssessed", "nextTake", "I", false)
  | _ => ("CastlesAreAssessed", "pictured", "Z", false)
def tyX4 : Nat → FieldType := fun k => match k with
  | 0 => .object "CastlesAreAssessed$Beach"
  | 1 => .object "CastlesAreAssessed$Beach"
  | 2 => .object "CastlesAreAssessed$Beach"
  | 3 => .array (.object "CastlesAreAssessed$Beach")
  | 4 => .object "CastlesAreAssessed$Letters"
  | 5 => .array .int
  | 6 => .array .int
  | 7 => .array .int
  | 8 => .int
  | 9 => .int
  | 10 => .int
  | _ => .boolean
abbrev wsX40 : List Cond := u_ws RX4 TX4 12
theorem nmX4 : ∀ a, a < 12 → ∀ b, b < 12 → a ≠ b → (TX4 a).2.1 ≠ (TX4 b).2.1 := by decide +kernel
theorem tyX4_ok : ∀ k, k < 12 → parseFieldDescriptor (TX4 k).2.2.1 = some (tyX4 k) := by decide +kernel
abbrev cX4_init : ByteArray := prog_1_method_1_code
def yX4_init : MethodName := ⟨RX4, "<init>", "()V"⟩
abbrev cX4_feed : ByteArray := prog_1_method_2_code
def yX4_feed : MethodName := ⟨RX4, "feed", "(I)I"⟩
abbrev cX4_beach : ByteArray := prog_1_method_3_code
def yX4_beach : MethodName := ⟨RX4, "beach", "()I"⟩
abbrev cX4_workOf : ByteArray := prog_1_method_4_code
def yX4_workOf : MethodName := ⟨RX4, "workOf", "(II)I"⟩
abbrev cX4_at : ByteArray := prog_1_method_5_code
def yX4_at : MethodName := ⟨RX4, "at", "(I)I"⟩
abbrev cX4_work : ByteArray := prog_1_method_6_code
def yX4_work : MethodName := ⟨RX4, "work", "(III)I"⟩
abbrev cX4_razes : ByteArray := prog_1_method_7_code
def yX4_razes : MethodName := ⟨RX4, "razes", "(I)I"⟩
abbrev cX4_fixes : ByteArray := prog_1_method_8_code
def yX4_fixes : MethodName := ⟨RX4, "fixes", "(I)I"⟩
abbrev cX4_pays : ByteArray := prog_1_method_9_code
def yX4_pays : MethodName := ⟨RX4, "pays", "()I"⟩
abbrev cX4_hours : ByteArray := prog_1_method_10_code
def yX4_hours : MethodName := ⟨RX4, "hours", "(I)I"⟩
abbrev cX4_back : ByteArray := prog_1_method_11_code
def yX4_back : MethodName := ⟨RX4, "back", "()I"⟩
abbrev cX4_level : ByteArray := prog_1_method_12_code
def yX4_level : MethodName := ⟨RX4, "level", "(I)I"⟩
abbrev cX4_wet : ByteArray := prog_1_method_13_code
def yX4_wet : MethodName := ⟨RX4, "wet", "(I)I"⟩
abbrev cX4_then : ByteArray := prog_1_method_14_code
def yX4_then : MethodName := ⟨RX4, "then", "(II)I"⟩
abbrev cX4_floods : ByteArray := prog_1_method_15_code
def yX4_floods : MethodName := ⟨RX4, "floods", "(I)I"⟩
abbrev cX4_dry : ByteArray := prog_1_method_16_code
def yX4_dry : MethodName := ⟨RX4, "dry", "(I)I"⟩
abbrev cX4_driest : ByteArray := prog_1_method_17_code
def yX4_driest : MethodName := ⟨RX4, "driest", "(I)I"⟩
abbrev cX4_falls : ByteArray := prog_1_method_18_code
def yX4_falls : MethodName := ⟨RX4, "falls", "(I)I"⟩
abbrev cX4_keep : ByteArray := prog_1_method_19_code
def yX4_keep : MethodName := ⟨RX4, "keep", "(III)I"⟩
abbrev cX4_best : ByteArray := prog_1_method_20_code
def yX4_best : MethodName := ⟨RX4, "best", "(IIII)I"⟩
abbrev cX4_dredge : ByteArray := prog_1_method_21_code
def yX4_dredge : MethodName := ⟨RX4, "dredge", "(I)I"⟩
abbrev cX4_round : ByteArray := prog_1_method_22_code
def yX4_round : MethodName := ⟨RX4, "round", "(I)I"⟩
abbrev cX4_assessed : ByteArray := prog_1_method_23_code
def yX4_assessed : MethodName := ⟨RX4, "assessed", "(I)I"⟩
abbrev cX4_whatWas : ByteArray := prog_1_method_24_code
def yX4_whatWas : MethodName := ⟨RX4, "whatWas", "(II)I"⟩
abbrev cX4_howHigh : ByteArray := prog_1_method_25_code
def yX4_howHigh : MethodName := ⟨RX4, "howHigh", "()I"⟩
abbrev cX4_two : ByteArray := prog_1_method_26_code
def yX4_two : MethodName := ⟨RX4, "two", "(II)I"⟩
abbrev cX4_swells : ByteArray := prog_1_method_27_code
def yX4_swells : MethodName := ⟨RX4, "swells", "(IIII)J"⟩
abbrev cX4_shares : ByteArray := prog_1_method_28_code
def yX4_shares : MethodName := ⟨RX4, "shares", "(II)I"⟩
abbrev cX4_weakest : ByteArray := prog_1_method_29_code
def yX4_weakest : MethodName := ⟨RX4, "weakest", "(I)I"⟩
abbrev cX4_mean : ByteArray := prog_1_method_30_code
def yX4_mean : MethodName := ⟨RX4, "mean", "(I)J"⟩
abbrev cX4_low : ByteArray := prog_1_method_31_code
def yX4_low : MethodName := ⟨RX4, "low", "()I"⟩
abbrev cX4_sand : ByteArray := prog_1_method_32_code
def yX4_sand : MethodName := ⟨RX4, "sand", "()I"⟩
abbrev cX4_mended : ByteArray := prog_1_method_33_code
def yX4_mended : MethodName := ⟨RX4, "mended", "(II)I"⟩
abbrev cX4_pairs : ByteArray := prog_1_method_34_code
def yX4_pairs : MethodName := ⟨RX4, "pairs", "(I)I"⟩
abbrev cX4_turrets : ByteArray := prog_1_method_35_code
def yX4_turrets : MethodName := ⟨RX4, "turrets", "(I)I"⟩
abbrev cX4_row : ByteArray := prog_1_method_36_code
def yX4_row : MethodName := ⟨RX4, "row", "(I)I"⟩
abbrev cX4_judge : ByteArray := prog_1_method_37_code
def yX4_judge : MethodName := ⟨RX4, "judge", "()I"⟩
abbrev cX4_clear : ByteArray := prog_1_method_38_code
def yX4_clear : MethodName := ⟨RX4, "clear", "()I"⟩
abbrev cX4_lots : ByteArray := prog_1_method_39_code
def yX4_lots : MethodName := ⟨RX4, "lots", "(III)I"⟩
abbrev cX4_image : ByteArray := prog_1_method_40_code
def yX4_image : MethodName := ⟨RX4, "image", "()I"⟩
abbrev cX4_restore : ByteArray := prog_1_method_41_code
def yX4_restore : MethodName := ⟨RX4, "restore", "()I"⟩
abbrev cX4_count : ByteArray := prog_1_method_42_code
def yX4_count : MethodName := ⟨RX4, "count", "(I)I"⟩
abbrev cX4_refused : ByteArray := prog_1_method_43_code
def yX4_refused : MethodName := ⟨RX4, "refused", "(I)I"⟩
abbrev cX4_refusedLong : ByteArray := prog_1_method_44_code
def yX4_refusedLong : MethodName := ⟨RX4, "refusedLong", "(I)J"⟩
abbrev cX4_outside : ByteArray := prog_1_method_45_code
def yX4_outside : MethodName := ⟨RX4, "outside", "(III)I"⟩
abbrev cX4_notStanding : ByteArray := prog_1_method_46_code
def yX4_notStanding : MethodName := ⟨RX4, "notStanding", "(I)I"⟩
abbrev cX4_isCell : ByteArray := prog_1_method_47_code
def yX4_isCell : MethodName := ⟨RX4, "isCell", "(I)Z"⟩
abbrev cX4_isKind : ByteArray := prog_1_method_48_code
def yX4_isKind : MethodName := ⟨RX4, "isKind", "(I)Z"⟩
abbrev cX4_remembers : ByteArray := prog_1_method_49_code
def yX4_remembers : MethodName := ⟨RX4, "remembers", "()V"⟩
abbrev cX4_earlierAt : ByteArray := prog_1_method_50_code
def yX4_earlierAt : MethodName := ⟨RX4, "earlierAt", "(I)LCastlesAreAssessed$Beach;"⟩
abbrev cX4_inMind : ByteArray := prog_1_method_51_code
def yX4_inMind : MethodName := ⟨RX4, "inMind", "(I)V"⟩
abbrev cX4_dryHours : ByteArray := prog_1_method_52_code
def yX4_dryHours : MethodName := ⟨RX4, "dryHours", "(I)I"⟩
abbrev cX4_staysDry : ByteArray := prog_1_method_53_code
def yX4_staysDry : MethodName := ⟨RX4, "staysDry", "(IIII)Z"⟩
abbrev cX4_oneKeeper : ByteArray := prog_1_method_54_code
def yX4_oneKeeper : MethodName := ⟨RX4, "oneKeeper", "(II)I"⟩
abbrev cX4_firstOfTwoKeepers : ByteArray := prog_1_method_55_code
def yX4_firstOfTwoKeepers : MethodName := ⟨RX4, "firstOfTwoKeepers", "(II)I"⟩
abbrev cX4_planRoutes : ByteArray := prog_1_method_56_code
def yX4_planRoutes : MethodName := ⟨RX4, "planRoutes", "()V"⟩
abbrev cX4_stepsOver : ByteArray := prog_1_method_57_code
def yX4_stepsOver : MethodName := ⟨RX4, "stepsOver", "(II)I"⟩
abbrev cX4_nextStop : ByteArray := prog_1_method_58_code
def yX4_nextStop : MethodName := ⟨RX4, "nextStop", "(II)I"⟩
abbrev cX4_stepsBy : ByteArray := prog_1_method_59_code
def yX4_stepsBy : MethodName := ⟨RX4, "stepsBy", "(III)I"⟩
abbrev cX4_wearsAsTold : ByteArray := prog_1_method_60_code
def yX4_wearsAsTold : MethodName := ⟨RX4, "wearsAsTold", "(I)Z"⟩
abbrev cX4_floodsAsTold : ByteArray := prog_1_method_61_code
def yX4_floodsAsTold : MethodName := ⟨RX4, "floodsAsTold", "()Z"⟩
abbrev cX4_purseOf : ByteArray := prog_1_method_62_code
def yX4_purseOf : MethodName := ⟨RX4, "purseOf", "(I)I"⟩
abbrev cX4_owedOf : ByteArray := prog_1_method_63_code
def yX4_owedOf : MethodName := ⟨RX4, "owedOf", "(I)I"⟩
abbrev cX4_payingFor : ByteArray := prog_1_method_64_code
def yX4_payingFor : MethodName := ⟨RX4, "payingFor", "(I)V"⟩
abbrev cX4_lowestBit : ByteArray := prog_1_method_65_code
def yX4_lowestBit : MethodName := ⟨RX4, "lowestBit", "(I)I"⟩
abbrev cX4_power : ByteArray := prog_1_method_66_code
def yX4_power : MethodName := ⟨RX4, "power", "(II)J"⟩
abbrev cX4_fraction : ByteArray := prog_1_method_67_code
def yX4_fraction : MethodName := ⟨RX4, "fraction", "(JJI)J"⟩
def RX5 : String := "CastlesAreAssessedModel"
def TX5 : u_T := fun k => match k with
  | 0 => ("CastlesAreAssessedModel", "many", "I", false)
  | 1 => ("CastlesAreAssessedModel", "kinds", "[I", true)
  | 2 => ("CastlesAreAssessedModel", "figures", "[I", true)
  | 3 => ("CastlesAreAssessedModel", "cells0", "[I", true)
  | 4 => ("CastlesAreAssessedModel", "worn", "[I", true)
  | 5 => ("CastlesAreAssessedModel", "gone", "[I", true)
  | 6 => ("CastlesAreAssessedModel", "purse", "I", false)
  | 7 => ("CastlesAreAssessedModel", "owed", "I", false)
  | 8 => ("CastlesAreAssessedModel", "today", "I", false)
  | 9 => ("CastlesAreAssessedModel", "thrown", "I", false)
  | 10 => ("CastlesAreAssessedModel", "refusals", "[I", true)
  | 11 => ("CastlesAreAssessedModel", "stopped", "[I", true)
  | 12 => ("CastlesAreAssessedModel", "wetBits", "I", false)
  | 13 => ("CastlesAreAssessedModel", "spreading", "[I", true)
  | 14 => ("CastlesAreAssessedModel", "spreads", "I", false)
  | 15 => ("CastlesAreAssessedModel", "paying", "I", false)
  | 16 => ("CastlesAreAssessedModel", "letters", "[I", true)
  | 17 => ("CastlesAreAssessedModel", "letterMany", "I", false)
  | 18 => ("CastlesAreAssessedModel", "at0", "I", false)
  | 19 => ("CastlesAreAssessedModel", "isBad", "Z", false)
  | 20 => ("CastlesAreAssessedModel", "statements", "I", false)
  | 21 => ("CastlesAreAssessedModel", "placeIn", "[I", true)
  | 22 => ("CastlesAreAssessedModel", "letterOf", "[I", true)
  | 23 => ("CastlesAreAssessedModel", "told", "[I", true)
  | 24 => ("CastlesAreAssessedModel", "kept", "[I", true)
  | 25 => ("CastlesAreAssessedModel", "imaged", "[I", true)
  | 26 => ("CastlesAreAssessedModel", "hasImage", "Z", false)
  | 27 => ("CastlesAreAssessedModel", "place0", "I", false)
  | 28 => ("CastlesAreAssessedModel", "isTaking", "Z", false)
  | 29 => ("CastlesAreAssessedModel", "keptIn", "[I", false)
  | 30 => ("CastlesAreAssessedModel", "turns0", "[I", true)
  | 31 => ("CastlesAreAssessedModel", "turnOf", "[I", true)
  | 32 => ("CastlesAreAssessedModel", "turned", "I", false)
  | 33 => ("CastlesAreAssessedModel", "dryTimes", "[I", true)
  | 34 => ("CastlesAreAssessedModel", "fewest", "[I", true)
  | 35 => ("CastlesAreAssessedModel", "row", "[I", true)
  | 36 => ("CastlesAreAssessedModel", "rowMany", "I", false)
  | 37 => ("CastlesAreAssessedModel", "purses", "[I", true)
  | 38 => ("CastlesAreAssessedModel", "debts", "[I", true)
  | _ => ("CastlesAreAssessedModel", "seed", "I", false)
def tyX5 : Nat → FieldType := fun k => match k with
  | 0 => .int
  | 1 => .array .int
  | 2 => .array .int
  | 3 => .array .int
  | 4 => .array .int
  | 5 => .array .int
  | 6 => .int
  | 7 => .int
  | 8 => .int
  | 9 => .int
  | 10 => .array .int
  | 11 => .array .int
  | 12 => .int
  | 13 => .array .int
  | 14 => .int
  | 15 => .int
  | 16 => .array .int
  | 17 => .int
  | 18 => .int
  | 19 => .boolean
  | 20 => .int
  | 21 => .array .int
  | 22 => .array .int
  | 23 => .array .int
  | 24 => .array .int
  | 25 => .array .int
  | 26 => .boolean
  | 27 => .int
  | 28 => .boolean
  | 29 => .array .int
  | 30 => .array .int
  | 31 => .array .int
  | 32 => .int
  | 33 => .array .int
  | 34 => .array .int
  | 35 => .array .int
  | 36 => .int
  | 37 => .array .int
  | 38 => .array .int
  | _ => .int
abbrev wsX50 : List Cond := u_ws RX5 TX5 40
theorem nmX5 : ∀ a, a < 40 → ∀ b, b < 40 → a ≠ b → (TX5 a).2.1 ≠ (TX5 b).2.1 := by decide +kernel
theorem tyX5_ok : ∀ k, k < 40 → parseFieldDescriptor (TX5 k).2.2.1 = some (tyX5 k) := by decide +kernel
abbrev cX5_init : ByteArray := prog_7_method_1_code
def yX5_init : MethodName := ⟨RX5, "<init>", "()V"⟩
abbrev cX5_in : ByteArray := prog_7_method_3_code
def yX5_in : MethodName := ⟨RX5, "in", "(JJJ)Z"⟩
abbrev cX5_refuse : ByteArray := prog_7_method_4_code
def yX5_refuse : MethodName := ⟨RX5, "refuse", "(I)I"⟩
abbrev cX5_isWork : ByteArray := prog_7_method_5_code
def yX5_isWork : MethodName := ⟨RX5, "isWork", "(I)Z"⟩
abbrev cX5_isCell : ByteArray := prog_7_method_6_code
def yX5_isCell : MethodName := ⟨RX5, "isCell", "(I)Z"⟩
abbrev cX5_wrongNumber : ByteArray := prog_7_method_7_code
def yX5_wrongNumber : MethodName := ⟨RX5, "wrongNumber", "(III)I"⟩
abbrev cX5_wrongBit : ByteArray := prog_7_method_8_code
def yX5_wrongBit : MethodName := ⟨RX5, "wrongBit", "(III)I"⟩
abbrev cX5_hasBit : ByteArray := prog_7_method_9_code
def yX5_hasBit : MethodName := ⟨RX5, "hasBit", "(II)Z"⟩
abbrev cX5_held : ByteArray := prog_7_method_10_code
def yX5_held : MethodName := ⟨RX5, "held", "(II)I"⟩
abbrev cX5_holdsOf : ByteArray := prog_7_method_11_code
def yX5_holdsOf : MethodName := ⟨RX5, "holdsOf", "(I)I"⟩
abbrev cX5_rateOf : ByteArray := prog_7_method_12_code
def yX5_rateOf : MethodName := ⟨RX5, "rateOf", "(I)I"⟩
abbrev cX5_letsOf : ByteArray := prog_7_method_13_code
def yX5_letsOf : MethodName := ⟨RX5, "letsOf", "(I)I"⟩
abbrev cX5_isStop : ByteArray := prog_7_method_14_code
def yX5_isStop : MethodName := ⟨RX5, "isStop", "(I)Z"⟩
abbrev cX5_levelAt : ByteArray := prog_7_method_15_code
def yX5_levelAt : MethodName := ⟨RX5, "levelAt", "(I)I"⟩
abbrev cX5_areBeside : ByteArray := prog_7_method_16_code
def yX5_areBeside : MethodName := ⟨RX5, "areBeside", "(II)Z"⟩
abbrev cX5_beside : ByteArray := prog_7_method_17_code
def yX5_beside : MethodName := ⟨RX5, "beside", "(II)I"⟩
abbrev cX5_becomeWet : ByteArray := prog_7_method_18_code
def yX5_becomeWet : MethodName := ⟨RX5, "becomeWet", "(II)V"⟩
abbrev cX5_layWet : ByteArray := prog_7_method_19_code
def yX5_layWet : MethodName := ⟨RX5, "layWet", "(I)V"⟩
abbrev cX5_isWet : ByteArray := prog_7_method_20_code
def yX5_isWet : MethodName := ⟨RX5, "isWet", "(I)Z"⟩
abbrev cX5_isWorn : ByteArray := prog_7_method_21_code
def yX5_isWorn : MethodName := ⟨RX5, "isWorn", "(I)Z"⟩
abbrev cX5_hourBy : ByteArray := prog_7_method_22_code
def yX5_hourBy : MethodName := ⟨RX5, "hourBy", "(I)V"⟩
abbrev cX5_goHours : ByteArray := prog_7_method_23_code
def yX5_goHours : MethodName := ⟨RX5, "goHours", "(I)V"⟩
abbrev cX5_standing : ByteArray := prog_7_method_24_code
def yX5_standing : MethodName := ⟨RX5, "standing", "()I"⟩
abbrev cX5_onesOf : ByteArray := prog_7_method_25_code
def yX5_onesOf : MethodName := ⟨RX5, "onesOf", "(I)I"⟩
abbrev cX5_workAt : ByteArray := prog_7_method_26_code
def yX5_workAt : MethodName := ⟨RX5, "workAt", "(I)I"⟩
abbrev cX5_workComes : ByteArray := prog_7_method_27_code
def yX5_workComes : MethodName := ⟨RX5, "workComes", "(III)V"⟩
abbrev cX5_payAll : ByteArray := prog_7_method_28_code
def yX5_payAll : MethodName := ⟨RX5, "payAll", "()I"⟩
abbrev cX5_feed : ByteArray := prog_7_method_29_code
def yX5_feed : MethodName := ⟨RX5, "feed", "(I)I"⟩
abbrev cX5_here : ByteArray := prog_7_method_30_code
def yX5_here : MethodName := ⟨RX5, "here", "()I"⟩
abbrev cX5_readDigits : ByteArray := prog_7_method_31_code
def yX5_readDigits : MethodName := ⟨RX5, "readDigits", "(I)I"⟩
abbrev cX5_isLetter : ByteArray := prog_7_method_32_code
def yX5_isLetter : MethodName := ⟨RX5, "isLetter", "(I)Z"⟩
abbrev cX5_readNumbers : ByteArray := prog_7_method_33_code
def yX5_readNumbers : MethodName := ⟨RX5, "readNumbers", "(II)V"⟩
abbrev cX5_readStatement : ByteArray := prog_7_method_34_code
def yX5_readStatement : MethodName := ⟨RX5, "readStatement", "()V"⟩
abbrev cX5_isStanding : ByteArray := prog_7_method_35_code
def yX5_isStanding : MethodName := ⟨RX5, "isStanding", "(I)Z"⟩
abbrev cX5_comesTold : ByteArray := prog_7_method_36_code
def yX5_comesTold : MethodName := ⟨RX5, "comesTold", "(I)Z"⟩
abbrev cX5_beach : ByteArray := prog_7_method_37_code
def yX5_beach : MethodName := ⟨RX5, "beach", "()I"⟩
abbrev cX5_carry : ByteArray := prog_7_method_38_code
def yX5_carry : MethodName := ⟨RX5, "carry", "(I)I"⟩
abbrev cX5_carryAll : ByteArray := prog_7_method_39_code
def yX5_carryAll : MethodName := ⟨RX5, "carryAll", "([IZ)V"⟩
abbrev cX5_think : ByteArray := prog_7_method_40_code
def yX5_think : MethodName := ⟨RX5, "think", "()V"⟩
abbrev cX5_again : ByteArray := prog_7_method_41_code
def yX5_again : MethodName := ⟨RX5, "again", "()V"⟩
abbrev cX5_image : ByteArray := prog_7_method_42_code
def yX5_image : MethodName := ⟨RX5, "image", "()I"⟩
abbrev cX5_restore : ByteArray := prog_7_method_43_code
def yX5_restore : MethodName := ⟨RX5, "restore", "()I"⟩
abbrev cX5_keepTurn : ByteArray := prog_7_method_44_code
def yX5_keepTurn : MethodName := ⟨RX5, "keepTurn", "()V"⟩
abbrev cX5_back : ByteArray := prog_7_method_45_code
def yX5_back : MethodName := ⟨RX5, "back", "()I"⟩
abbrev cX5_workOf : ByteArray := prog_7_method_46_code
def yX5_workOf : MethodName := ⟨RX5, "workOf", "(II)I"⟩
abbrev cX5_at : ByteArray := prog_7_method_47_code
def yX5_at : MethodName := ⟨RX5, "at", "(I)I"⟩
abbrev cX5_work : ByteArray := prog_7_method_48_code
def yX5_work : MethodName := ⟨RX5, "work", "(III)I"⟩
abbrev cX5_razes : ByteArray := prog_7_method_49_code
def yX5_razes : MethodName := ⟨RX5, "razes", "(I)I"⟩
abbrev cX5_fixes : ByteArray := prog_7_method_50_code
def yX5_fixes : MethodName := ⟨RX5, "fixes", "(I)I"⟩
abbrev cX5_pays : ByteArray := prog_7_method_51_code
def yX5_pays : MethodName := ⟨RX5, "pays", "()I"⟩
abbrev cX5_hours : ByteArray := prog_7_method_52_code
def yX5_hours : MethodName := ⟨RX5, "hours", "(I)I"⟩
abbrev cX5_level : ByteArray := prog_7_method_53_code
def yX5_level : MethodName := ⟨RX5, "level", "(I)I"⟩
abbrev cX5_wetNow : ByteArray := prog_7_method_54_code
def yX5_wetNow : MethodName := ⟨RX5, "wetNow", "()I"⟩
abbrev cX5_wet : ByteArray := prog_7_method_55_code
def yX5_wet : MethodName := ⟨RX5, "wet", "(I)I"⟩
abbrev cX5_then : ByteArray := prog_7_method_56_code
def yX5_then : MethodName := ⟨RX5, "then", "(II)I"⟩
abbrev cX5_floods : ByteArray := prog_7_method_57_code
def yX5_floods : MethodName := ⟨RX5, "floods", "(I)I"⟩
abbrev cX5_layDry : ByteArray := prog_7_method_58_code
def yX5_layDry : MethodName := ⟨RX5, "layDry", "()V"⟩
abbrev cX5_dry : ByteArray := prog_7_method_59_code
def yX5_dry : MethodName := ⟨RX5, "dry", "(I)I"⟩
abbrev cX5_driest : ByteArray := prog_7_method_60_code
def yX5_driest : MethodName := ⟨RX5, "driest", "(I)I"⟩
abbrev cX5_fallOf : ByteArray := prog_7_method_61_code
def yX5_fallOf : MethodName := ⟨RX5, "fallOf", "(I)I"⟩
abbrev cX5_falls : ByteArray := prog_7_method_62_code
def yX5_falls : MethodName := ⟨RX5, "falls", "(I)I"⟩
abbrev cX5_staysDry : ByteArray := prog_7_method_63_code
def yX5_staysDry : MethodName := ⟨RX5, "staysDry", "(II)Z"⟩
abbrev cX5_firstOfTwo : ByteArray := prog_7_method_64_code
def yX5_firstOfTwo : MethodName := ⟨RX5, "firstOfTwo", "(II)I"⟩
abbrev cX5_firstOfOne : ByteArray := prog_7_method_65_code
def yX5_firstOfOne : MethodName := ⟨RX5, "firstOfOne", "(II)I"⟩
abbrev cX5_keep : ByteArray := prog_7_method_66_code
def yX5_keep : MethodName := ⟨RX5, "keep", "(III)I"⟩
abbrev cX5_best : ByteArray := prog_7_method_67_code
def yX5_best : MethodName := ⟨RX5, "best", "(IIII)I"⟩
abbrev cX5_dredge : ByteArray := prog_7_method_68_code
def yX5_dredge : MethodName := ⟨RX5, "dredge", "(I)I"⟩
abbrev cX5_stepsOf : ByteArray := prog_7_method_69_code
def yX5_stepsOf : MethodName := ⟨RX5, "stepsOf", "(II)I"⟩
abbrev cX5_cellOf : ByteArray := prog_7_method_70_code
def yX5_cellOf : MethodName := ⟨RX5, "cellOf", "(I)I"⟩
abbrev cX5_layRound : ByteArray := prog_7_method_71_code
def yX5_layRound : MethodName := ⟨RX5, "layRound", "()V"⟩
abbrev cX5_nextOn : ByteArray := prog_7_method_72_code
def yX5_nextOn : MethodName := ⟨RX5, "nextOn", "(II)I"⟩
abbrev cX5_round : ByteArray := prog_7_method_73_code
def yX5_round : MethodName := ⟨RX5, "round", "(I)I"⟩
abbrev cX5_ratesIn : ByteArray := prog_7_method_74_code
def yX5_ratesIn : MethodName := ⟨RX5, "ratesIn", "(I)I"⟩
abbrev cX5_dearestOne : ByteArray := prog_7_method_75_code
def yX5_dearestOne : MethodName := ⟨RX5, "dearestOne", "()I"⟩
abbrev cX5_behindBits : ByteArray := prog_7_method_76_code
def yX5_behindBits : MethodName := ⟨RX5, "behindBits", "()I"⟩
abbrev cX5_assessed : ByteArray := prog_7_method_77_code
def yX5_assessed : MethodName := ⟨RX5, "assessed", "(I)I"⟩
abbrev cX5_isRow : ByteArray := prog_7_method_78_code
def yX5_isRow : MethodName := ⟨RX5, "isRow", "(I)Z"⟩
abbrev cX5_whatWas : ByteArray := prog_7_method_79_code
def yX5_whatWas : MethodName := ⟨RX5, "whatWas", "(II)I"⟩
abbrev cX5_howHigh : ByteArray := prog_7_method_80_code
def yX5_howHigh : MethodName := ⟨RX5, "howHigh", "()I"⟩
abbrev cX5_two : ByteArray := prog_7_method_81_code
def yX5_two : MethodName := ⟨RX5, "two", "(II)I"⟩
abbrev cX5_divisor : ByteArray := prog_7_method_82_code
def yX5_divisor : MethodName := ⟨RX5, "divisor", "(JJ)J"⟩
abbrev cX5_partOf : ByteArray := prog_7_method_83_code
def yX5_partOf : MethodName := ⟨RX5, "partOf", "(JJI)J"⟩
abbrev cX5_swells : ByteArray := prog_7_method_84_code
def yX5_swells : MethodName := ⟨RX5, "swells", "(IIII)J"⟩
abbrev cX5_shares : ByteArray := prog_7_method_85_code
def yX5_shares : MethodName := ⟨RX5, "shares", "(II)I"⟩
abbrev cX5_weakestOne : ByteArray := prog_7_method_86_code
def yX5_weakestOne : MethodName := ⟨RX5, "weakestOne", "()I"⟩
abbrev cX5_aloneBits : ByteArray := prog_7_method_87_code
def yX5_aloneBits : MethodName := ⟨RX5, "aloneBits", "()I"⟩
abbrev cX5_highestOne : ByteArray := prog_7_method_88_code
def yX5_highestOne : MethodName := ⟨RX5, "highestOne", "()I"⟩
abbrev cX5_weakest : ByteArray := prog_7_method_89_code
def yX5_weakest : MethodName := ⟨RX5, "weakest", "(I)I"⟩
abbrev cX5_mean : ByteArray := prog_7_method_90_code
def yX5_mean : MethodName := ⟨RX5, "mean", "(I)J"⟩
abbrev cX5_low : ByteArray := prog_7_method_91_code
def yX5_low : MethodName := ⟨RX5, "low", "()I"⟩
abbrev cX5_sand : ByteArray := prog_7_method_92_code
def yX5_sand : MethodName := ⟨RX5, "sand", "()I"⟩
abbrev cX5_mended : ByteArray := prog_7_method_93_code
def yX5_mended : MethodName := ⟨RX5, "mended", "(II)I"⟩
abbrev cX5_pairs : ByteArray := prog_7_method_94_code
def yX5_pairs : MethodName := ⟨RX5, "pairs", "(I)I"⟩
abbrev cX5_turrets : ByteArray := prog_7_method_95_code
def yX5_turrets : MethodName := ⟨RX5, "turrets", "(I)I"⟩
abbrev cX5_row : ByteArray := prog_7_method_96_code
def yX5_row : MethodName := ⟨RX5, "row", "(I)I"⟩
abbrev cX5_judge : ByteArray := prog_7_method_97_code
def yX5_judge : MethodName := ⟨RX5, "judge", "()I"⟩
abbrev cX5_clear : ByteArray := prog_7_method_98_code
def yX5_clear : MethodName := ⟨RX5, "clear", "()I"⟩
abbrev cX5_drawBelow : ByteArray := prog_7_method_99_code
def yX5_drawBelow : MethodName := ⟨RX5, "drawBelow", "(I)I"⟩
abbrev cX5_lots : ByteArray := prog_7_method_100_code
def yX5_lots : MethodName := ⟨RX5, "lots", "(III)I"⟩
abbrev cX5_count : ByteArray := prog_7_method_101_code
def yX5_count : MethodName := ⟨RX5, "count", "(I)I"⟩
def RJ6 : String := "java/lang/Integer"
abbrev cJ6_bitCount_0f7a4 : ByteArray := prog_8_method_49_code
def yJ6_bitCount_0f7a4 : MethodName := ⟨RJ6, "bitCount", "(I)I"⟩
def RJ9 : String := "java/lang/Math"
abbrev cJ9_floorMod_7cf53 : ByteArray := prog_9_method_50_code
def yJ9_floorMod_7cf53 : MethodName := ⟨RJ9, "floorMod", "(II)I"⟩
abbrev cJ9_abs_0f7a4 : ByteArray := prog_9_method_59_code
def yJ9_abs_0f7a4 : MethodName := ⟨RJ9, "abs", "(I)I"⟩
abbrev cJ9_max_7cf53 : ByteArray := prog_9_method_65_code
def yJ9_max_7cf53 : MethodName := ⟨RJ9, "max", "(II)I"⟩
abbrev cJ9_min_7cf53 : ByteArray := prog_9_method_69_code
def yJ9_min_7cf53 : MethodName := ⟨RJ9, "min", "(II)I"⟩
def RL : String := "CastlesAreAssessedLaw"
abbrev cL_law : ByteArray := code
def yL_law : MethodName := ⟨RL, "law", "([I)Z"⟩
abbrev vwCl : List vw_C := [(RX0, TX0, 9), (RX2, TX2, 2), (RX4, TX4, 12), (RX5, TX5, 40)]
/-! TB: the tables' good words; WY: a method's words -/
def TB : List Cond := lw_tbl.filter goodWord
theorem tb_of {w : Cond} (i : Nat) (h : lw_tbl[i]? = some w) (hg : goodWord w = true) : w ∈ TB := List.mem_filter.mpr ⟨List.mem_of_getElem? h, hg⟩
abbrev WY (y : MethodName) (cb : ByteArray) (nl : Nat) (rt : Option FieldType) : List Cond := Cond.code y cb nl rt :: TB
theorem tbc {a : Cond} : ∀ w ∈ TB, w ∈ a :: TB := fun _ h => List.mem_cons_of_mem _ h
theorem tbl : ∀ w ∈ TB, w ∈ lw_tbl := fun _ h => (List.mem_filter.mp h).1
theorem gW {big : List Cond} {y : MethodName} {cb : ByteArray} {nl : Nat} {rt : Option FieldType} (hb : ∀ w ∈ TB, w ∈ big) (h : Cond.code y cb nl rt ∈ TB) : GoodIn big (WY y cb nl rt) := by
  intro w hw
  have h1 : w ∈ TB := by
    rcases List.mem_cons.mp hw with e | e
    · rw [e]; exact h
    · exact e
  exact ⟨hb _ h1, good_of_word (List.mem_filter.mp h1).2⟩
theorem gA1 {big : List Cond} {a : Cond} {l : List Cond} (hb : ∀ w ∈ TB, w ∈ big) (h : a ∈ TB) (hl : GoodIn big l) : GoodIn big (a :: l) := by
  intro w hw
  rcases List.mem_cons.mp hw with e | e
  · rw [e]; exact ⟨hb _ h, good_of_word (List.mem_filter.mp h).2⟩
  · exact hl w e
theorem gV {big : List Cond} {own C : String} {idx : Nat} {y : MethodName} {cb : ByteArray} {nl : Nat} {rt : Option FieldType} (hb : ∀ w ∈ TB, w ∈ big) (h1 : Cond.methodLink own idx y ∈ TB) (h2 : Cond.instanceMethod y ∈ TB) (h3 : Cond.selects C y y ∈ TB) (h4 : Cond.initialized C ∈ TB) (h5 : Cond.code y cb nl rt ∈ TB) : GoodIn big (wsV own idx C y (WY y cb nl rt)) :=
  gA1 hb h1 (gA1 hb h2 (gA1 hb h3 (gA1 hb h4 (gW hb h5))))
theorem gS {big : List Cond} {own : String} {idx : Nat} {y : MethodName} {cb : ByteArray} {nl : Nat} {rt : Option FieldType} (hb : ∀ w ∈ TB, w ∈ big) (h1 : Cond.methodLink own idx y ∈ TB) (h2 : Cond.static y ∈ TB) (h4 : Cond.initialized y.cls ∈ TB) (h5 : Cond.code y cb nl rt ∈ TB) : GoodIn big (va_wsS own idx y (WY y cb nl rt)) :=
  gA1 hb h1 (gA1 hb h2 (gA1 hb h4 (gW hb h5)))
theorem uW0 : ∀ w ∈ u_ws RX0 TX0 9, w ∈ TB := by decide +kernel
theorem uW1 : ∀ w ∈ u_ws RX2 TX2 2, w ∈ TB := by decide +kernel
theorem uW2 : ∀ w ∈ u_ws RX4 TX4 12, w ∈ TB := by decide +kernel
theorem uW3 : ∀ w ∈ u_ws RX5 TX5 40, w ∈ TB := by decide +kernel
end
section
/-! THE ABSTRACT MACHINE: places 0 .. 83 are the system's cells once both constructors are through; M p k is what slot k of place p holds (a number). -/
abbrev MM : Type := Nat → Nat → Int32
def kd (p : Nat) : Nat := if p = 0 then 2 else if p < 56 then (if (p - 1) % 5 = 0 then 0 else 4) else if p = 56 then 5 else if p = 57 then 1 else if p < 62 then 4 else if p = 62 then 3 else if p < 84 then 4 else 9
def lnT : List Nat := [8, 0, 96, 12, 7, 2048, 0, 10, 10, 10, 10, 10, 7, 25, 25, 96, 49, 49, 147, 44, 44, 352, 44, 25, 2304, 12, 4, 4]
def ln (p : Nat) : Nat := if p < 56 then 10 else lnT.getD (p - 56) 0
abbrev GG : Type := va_G × ClassId × ClassId × (Nat → Nat) × Nat × Launch
def gD (G : GG) : va_G := G.1
def gI (G : GG) : ClassId := G.2.1
def gC (G : GG) : ClassId := G.2.2.1
def gA (G : GG) (p : Nat) : Nat := G.2.2.2.1 p
def gB (G : GG) (q : Nat) : Prop := G.2.2.2.2.1 ≤ q
def gL (G : GG) : Launch := G.2.2.2.2.2
def kin (G : GG) (x : Int32) : Value := if x = 0 then .null else .ref (gA G x.toNatClampNeg)
def fl0 (G : GG) (p : Nat) (f : Nat → Int32) : List Value := [.ref (gA G (p + 1)), .ref (gA G (p + 2)), .ref (gA G (p + 3)), .ref (gA G (p + 4)), .int (f 4), .int (f 5), .int (f 6), .int (f 7), .int (f 8)]
def fl1 (G : GG) (p : Nat) (f : Nat → Int32) : List Value := [.ref (gA G (p + 1)), .int (f 1)]
def fl2 (G : GG) (_ : Nat) (f : Nat → Int32) : List Value := [.ref (gA G 1), .ref (gA G 6), .ref (gA G 11), .ref (gA G 56), .ref (gA G 57), .ref (gA G 59), .ref (gA G 60), .ref (gA G 61), .int (f 8), .int (f 9), .int (f 10), .int (f 11)]
def fl3 (G : GG) (_ : Nat) (f : Nat → Int32) : List Value := [.int (f 0), .ref (gA G 63), .ref (gA G 64), .ref (gA G 65), .ref (gA G 66), .ref (gA G 67), .int (f 6), .int (f 7), .int (f 8), .int (f 9), .ref (gA G 68), .ref (gA G 69), .int (f 12), .ref (gA G 70), .int (f 14), .int (f 15), .ref (gA G 71), .int (f 17), .int (f 18), .int (f 19), .int (f 20), .ref (gA G 72), .ref (gA G 73), .ref (gA G 74), .ref (gA G 75), .ref (gA G 76), .int (f 26), .int (f 27), .int (f 28), kin G (f 29), .ref (gA G 77), .ref (gA G 78), .int (f 32), .ref (gA G 79), .ref (gA G 80), .ref (gA G 81), .int (f 36), .ref (gA G 82), .ref (gA G 83), .int (f 39)]
def en (G : GG) (p : Nat) (f : Nat → Int32) : va_E := if kd p = 4 then .inl (gI G, ln p, .inl f) else if kd p = 5 then .inl (gC G, 8, .inr (.inr (.inr (.inr fun j => some (gA G (16 + 5 * j)))))) else if kd p = 0 then .inr (0, fl0 G p f) else if kd p = 1 then .inr (1, fl1 G p f) else if kd p = 2 then .inr (2, fl2 G p f) else .inr (3, fl3 G p f)
def WS (G : GG) (M : MM) : va_W := (List.range 84).map fun p => (gA G p, en G p (M p))
def up (M : MM) (p k : Nat) (x : Int32) : MM := fun q => if q = p then (fun j => if j = k then x else M q j) else M q
theorem up_s {M : MM} {p k : Nat} {x : Int32} : up M p k x p k = x := by simp [up]
theorem up_p {M : MM} {p k q : Nat} {x : Int32} (h : q ≠ p) : up M p k x q = M q := by simp [up, h]
theorem up_k {M : MM} {p k j : Nat} {x : Int32} (h : j ≠ k) : up M p k x p j = M p j := by simp [up, h]
theorem WS_get {G : GG} {M : MM} {p : Nat} (hp : p < 84) : (WS G M)[p]? = some (gA G p, en G p (M p)) := by simp [WS, hp]
theorem WS_set {G : GG} {M M' : MM} {p : Nat} {e' : va_E} (hp : p < 84) (he : en G p (M' p) = e') (ho : ∀ q, q ≠ p → M' q = M q) : (WS G M).set p (gA G p, e') = WS G M' := by
  refine List.ext_getElem? (fun i => ?_)
  rcases Nat.lt_or_ge i 84 with hi | hi
  · rcases Nat.decEq i p with h | h
    · rw [List.getElem?_set_ne (Ne.symm h), WS_get hi, WS_get hi, ho i h]
    · subst h
      rw [List.getElem?_set_self (by simp [WS]; exact hi), WS_get hi, he]
  · rw [List.getElem?_eq_none (by simp [WS]; exact hi), List.getElem?_eq_none (by simp [WS]; exact hi)]
/-- an object of a kind; an int array's place in range; a beach -/
def ob (p c : Nat) : Prop := p < 84 ∧ kd p = c
def ib (p : Nat) (i : Int32) : Prop := (p < 84 ∧ kd p = 4) ∧ vp_in i (ln p)
def bo (x : Int32) : Prop := x = 0 ∨ x = 1
abbrev ix (i : Int32) : Nat := i.toNatClampNeg
theorem en4 {G : GG} {p : Nat} {f : Nat → Int32} (h : kd p = 4) : en G p f = .inl (gI G, ln p, .inl f) := by simp [en, h]
theorem en5 {G : GG} {p : Nat} {f : Nat → Int32} (h : kd p = 5) : en G p f = .inl (gC G, 8, .inr (.inr (.inr (.inr fun j => some (gA G (16 + 5 * j)))))) := by simp [en, h]
theorem en0 {G : GG} {p : Nat} {f : Nat → Int32} (h : kd p = 0) : en G p f = .inr (0, fl0 G p f) := by simp [en, h]
theorem en1 {G : GG} {p : Nat} {f : Nat → Int32} (h : kd p = 1) : en G p f = .inr (1, fl1 G p f) := by simp [en, h]
theorem en2 {G : GG} {p : Nat} {f : Nat → Int32} (h : kd p = 2) : en G p f = .inr (2, fl2 G p f) := by simp [en, h]
theorem en3 {G : GG} {p : Nat} {f : Nat → Int32} (h : kd p = 3) : en G p f = .inr (3, fl3 G p f) := by simp [en, h]
def gN (s : State) : Prop := va_Nw (.fieldLinkNest RX4 123 RX0 (TX0 4).2.1 (TX0 4).2.2.1 RX4) s ∧ va_Nw (.fieldLinkNest RX4 146 RX0 (TX0 8).2.1 (TX0 8).2.2.1 RX4) s ∧ va_Nw (.fieldLinkNest RX4 152 RX0 (TX0 6).2.1 (TX0 6).2.2.1 RX4) s ∧ va_Nw (.fieldLinkNest RX4 158 RX0 (TX0 7).2.1 (TX0 7).2.2.1 RX4) s ∧ va_Nw (.fieldLinkNest RX4 183 RX0 (TX0 5).2.1 (TX0 5).2.2.1 RX4) s ∧ va_Nw (.fieldLinkNest RX2 70 RX0 (TX0 4).2.1 (TX0 4).2.2.1 RX4) s ∧ va_Nw (.fieldLinkNest RX2 96 RX0 (TX0 6).2.1 (TX0 6).2.2.1 RX4) s ∧ va_Nw (.methodLinkNest RX2 64 yX4_isKind RX4) s ∧ va_Nw (.methodLinkNest RX2 67 yX4_isCell RX4) s
theorem gN.moved {s U : State} (hW : s.WarmedH U.vm) (h : gN s) : gN U := ⟨va_Nw.warmF hW h.1, va_Nw.warmF hW h.2.1, va_Nw.warmF hW h.2.2.1, va_Nw.warmF hW h.2.2.2.1, va_Nw.warmF hW h.2.2.2.2.1, va_Nw.warmF hW h.2.2.2.2.2.1, va_Nw.warmF hW h.2.2.2.2.2.2.1, va_Nw.warmM hW h.2.2.2.2.2.2.2.1, va_Nw.warmM hW h.2.2.2.2.2.2.2.2⟩
theorem gN.same {s U : State} (hW : s.vm = U.vm) (h : gN s) : gN U := ⟨va_Nw.same rfl hW h.1, va_Nw.same rfl hW h.2.1, va_Nw.same rfl hW h.2.2.1, va_Nw.same rfl hW h.2.2.2.1, va_Nw.same rfl hW h.2.2.2.2.1, va_Nw.same rfl hW h.2.2.2.2.2.1, va_Nw.same rfl hW h.2.2.2.2.2.2.1, va_Nw.same rfl hW h.2.2.2.2.2.2.2.1, va_Nw.same rfl hW h.2.2.2.2.2.2.2.2⟩
def gK (G : GG) (s : State) : Prop := va_K (gD G) vwCl [(gI G, .int), (gC G, .object RX0)] s ∧ gN s
/-- what holds at every instruction -/
def AH (G : GG) (E : Array Value → State → Prop) (Ts : List Cond) (own : String) (cc : ByteArray) (nL : Nat) (ret : Option FieldType) (L : List (Nat × Value)) (M : MM) (p : Program) (s : State) (m : MethodId) (args : Array Value) (meth : Method) (c : Code) (H : Heap) (locs : List Loc) (ls : Array Slot) : Prop :=
  p.tables.exec = Jvm.exec ∧ c.code = cc ∧ meth.sig.returnType = ret ∧ meth.locks = false ∧ c.maxLocals = nL ∧ s.vm.findClass own = some m.cls ∧ (∀ w ∈ Ts, w.before args s = true) ∧ gK G s ∧ va_P (gD G) vwCl (WS G M) H ∧ va_D (gB G) (WS G M) ∧ va_S (gB G) s.heap H locs ∧ G.2.2.2.2.1 ≤ s.heap.size ∧ E args s ∧ lv_has ls nL L
/-- THE JUDGEMENT: the machine, in a method at pc with locals L, stack st, memory M, comes to a state with Z -/
def AW (G : GG) (E : Array Value → State → Prop) (Z : Array Value → State → List Frame → State → Prop) (Ts : List Cond) (own : String) (cc : ByteArray) (nL : Nat) (ret : Option FieldType) (R : Room) (ce sl : Nat) (pc : Nat) (L : List (Nat × Value)) (st : List Value) (M : MM) : Prop :=
  ∀ (p : Program) (e : Env) (s : State) (m : MethodId) (args : Array Value) (below : List Frame) (meth : Method) (c : Code) (H : Heap) (locs : List Loc) (ls : Array Slot), AH G E Ts own cc nL ret L M p s m args meth c H locs ls →
    W p (gL G) e R s m args below meth c H locs ce sl (Z args s below) (F0 m pc ls st)
def QcM (G : GG) (Q : Option Value → MM → Prop) : Array Value → State → Outcome → State → Prop := fun _ st oc t =>
  (∃ (v : Option Value) (M' : MM), oc = .returned v ∧ Q v M' ∧ va_P (gD G) vwCl (WS G M') t.heap ∧ va_D (gB G) (WS G M')) ∧ va_F (gB G) st t
def MZ (G : GG) (Q : Option Value → MM → Prop) : Array Value → State → List Frame → State → Prop := fun args s below => MQ below (QcM G Q) args s 0 0 (gB G)
def qI (Q : Int32 → MM → Prop) : Option Value → MM → Prop := fun v M => ∃ r : Int32, v = some (.int r) ∧ Q r M
def qL (Q : Int64 → MM → Prop) : Option Value → MM → Prop := fun v M => ∃ r : Int64, v = some (.long r) ∧ Q r M
def qV (Q : MM → Prop) : Option Value → MM → Prop := fun v M => v = none ∧ Q M
def qR (G : GG) (Q : Nat → MM → Prop) : Option Value → MM → Prop := fun v M => ∃ r : Nat, v = some (.ref (gA G r)) ∧ Q r M
def E0 : Array Value → State → Prop := fun _ _ => True
theorem Met.ofWF {l : Launch} {y : MethodName} {ws ws' : List Cond} {rm : Room} {Pc : Array Value → State → Prop} {Qc : Array Value → State → Outcome → State → Prop} {mc ms : Nat} {free : Addr → Prop} {cc : ByteArray} {maxL : Nat} {ret : Option FieldType}
    (hy : plainFor y = true) (hw : ws = Cond.code y cc maxL ret :: ws')
    (body : ∀ p e s m args below meth c s₁, BodyLoose p l y (headSpec ws rm) cc maxL ret e s m args below meth c s₁ → c.maxLocals = maxL → Pc args s →
      W p l e (headSpec ws rm).room s m args below meth c s.heap [] 0 0 (MQ below Qc args s mc ms free) (entryFrame m args maxL)) : Met l y ws rm Pc Qc mc ms free := by
  refine MetFree.of_bodySF (code := cc) (maxLocals := maxL) (ret := ret) hy ?_ ?_
  · intro args s m h hn
    obtain ⟨meth, c, h1, h2, h3, h4, h5, h6, -, -⟩ := Cond.code_spec hn (atoms_spec (ws := ws) h _ (by rw [hw]; exact List.mem_cons_self))
    exact ⟨meth, c, h1, h2, h3, h4, h5, h6⟩
  · intro p e s m args below meth c s₁ B hml hP _
    have hh0 : s₁.heap = s.heap := by rw [B.state]; rfl
    obtain ⟨t, a1, o, b1, b2, b3⟩ := body p e s m args below meth c s₁ B hml hP s₁ hh0 (Stand.of_body B)
    exact ⟨t, o, a1, b1, b2, ⟨b3.1, b3.2⟩⟩
/-- a method's contract -/
def CM (G : GG) (y : MethodName) (ws : List Cond) (fr lo : Nat) (As : List Value) (M : MM) (Q : Option Value → MM → Prop) : Prop :=
  Met (gL G) y ws ({ frames := fr, cells := 0, slots := 0, locals := lo }) (va_Pc As (fun U => G.2.2.2.2.1 ≤ U.heap.size ∧ gK G U ∧ va_P (gD G) vwCl (WS G M) U.heap ∧ va_D (gB G) (WS G M))) (QcM G Q) 0 0 (gB G)
theorem CM.of {G : GG} {y : MethodName} {ws ws' : List Cond} {fr lo : Nat} {As : List Value} {M : MM} {Q : Option Value → MM → Prop} {cc : ByteArray} {nL : Nat} {ret : Option FieldType} {own : String} (hy : plainFor y = true) (ho : y.cls = own) (hw : ws = Cond.code y cc nL ret :: ws') (hn : (lg_sl As).length ≤ nL)
    (k : AW G E0 (MZ G Q) ws own cc nL ret ({ frames := fr, cells := 0, slots := 0, locals := lo }) 0 0 0 (lv_args 0 As) [] M) : CM G y ws fr lo As M Q := by
  refine Met.ofWF (cc := cc) (maxL := nL) (ret := ret) hy hw ?_
  intro p e s m args below meth c s₁ B hml hv
  obtain ⟨rfl, hsz, hK, hP, hD⟩ := hv
  have hts := atoms_spec (ws := ws) B.pre
  have hown : s.vm.findClass own = some m.cls := ho ▸ findClass_of_methodNamed B.named
  have hl := lv_entry As (n := nL) hn
  rw [lg_entry_eq]
  exact k p e s m As.toArray below meth c s.heap [] _ ⟨B.exec, B.bytes, B.returns, B.notSynchronized, hml, hown, hts, hK, hP, hD, va_S.rf, hsz, trivial, hl⟩
section AM1
variable {p : Program} {l : Launch} {e : Env} {R : Room} {s : State} {m : MethodId} {args : Array Value} {below : List Frame} {meth : Method} {c : Code} {H : Heap} {locs : List Loc} {cells slots mc ms : Nat} {Qf : State → Prop} {pc : Nat} {ls : Array Slot} {rest st0 : List Value} {a : Array Value}
theorem am_call {G : GG} {Q : Option Value → MM → Prop} (hr : va_Run p l e R s m args below meth c H locs cells slots mc ms (F0 m pc ls st0) rest (QcM G Q a) (gB G)) (hS : va_S (gB G) s.heap H locs)
    (kk : ∀ (v : Option Value) (M' : MM) (H1 : Heap) (locs1 : List Loc), Q v M' → va_P (gD G) vwCl (WS G M') H1 → va_D (gB G) (WS G M') → va_S (gB G) s.heap H1 locs1 → W p l e R s m args below meth c H1 locs1 (cells + mc) (slots + ms) Qf (F0 m (pc + 3) ls (v.toList ++ rest))) : W p l e R s m args below meth c H locs cells slots Qf (F0 m pc ls st0) := by
  intro T hT X
  obtain ⟨v, st₀, t, T', L, h0, X', hL, e1, e2, ⟨⟨v1, M', hv, hq, hP1, hD1⟩, hz, hk⟩, st⟩ := hr T hT X
  cases hv
  rw [h0] at hz hk
  obtain ⟨t2, a1, b1⟩ := kk v M' T'.heap (locs ++ L) hq (by rw [e1]; exact hP1) hD1
    ⟨Nat.le_trans hS.1 (by rw [e1]; exact hz), fun q h1 h2 => by rw [e1, hk q (Nat.lt_of_lt_of_le h1 hS.1) h2]; exact hS.2.1 q h1 h2, fun q hq => by
      rcases List.mem_append.mp hq with h | h
      · exact hS.2.2 q h
      · exact hL q h⟩ T' rfl X'
  exact ⟨t2, st t2 a1, b1⟩
end AM1
section AM2
variable {G : GG} {E : Array Value → State → Prop} {Z : Array Value → State → List Frame → State → Prop} {Ts : List Cond} {own : String} {cc : ByteArray} {nL : Nat} {ret : Option FieldType} {R : Room} {ce sl : Nat} {pc : Nat} {L : List (Nat × Value)} {rest : List Value} {M : MM}

theorem a_iconst {n : Int} {v : Int32} (hd : decode cc pc = .ok (.iconst n, 1)) (hv : Int32.ofInt n = v) (kk : AW G E Z Ts own cc nL ret R ce sl (pc + 1) L (.int v :: rest) M) : AW G E Z Ts own cc nL ret R ce sl pc L (rest) M := fun p e s m args below meth c H locs ls h => lv_iconst h.1 h.2.1 hd hv (kk p e s m args below meth c H locs ls h)
theorem a_bipush {n : Int} {v : Int32} (hd : decode cc pc = .ok (.bipush n, 2)) (hv : (Int8.ofInt n).toInt32 = v) (kk : AW G E Z Ts own cc nL ret R ce sl (pc + 2) L (.int v :: rest) M) : AW G E Z Ts own cc nL ret R ce sl pc L (rest) M := fun p e s m args below meth c H locs ls h => lv_bipush h.1 h.2.1 hd hv (kk p e s m args below meth c H locs ls h)
theorem a_sipush {n : Int} {v : Int32} (hd : decode cc pc = .ok (.sipush n, 3)) (hv : (Int16.ofInt n).toInt32 = v) (kk : AW G E Z Ts own cc nL ret R ce sl (pc + 3) L (.int v :: rest) M) : AW G E Z Ts own cc nL ret R ce sl pc L (rest) M := fun p e s m args below meth c H locs ls h => lv_sipush h.1 h.2.1 hd hv (kk p e s m args below meth c H locs ls h)
theorem a_lconst {n : Fin 2} {v : Int64} (hd : decode cc pc = .ok (.lconst n, 1)) (hv : Int64.ofNat (n : Nat) = v) (kk : AW G E Z Ts own cc nL ret R ce sl (pc + 1) L (.long v :: rest) M) : AW G E Z Ts own cc nL ret R ce sl pc L (rest) M := fun p e s m args below meth c H locs ls h => lv_lconst h.1 h.2.1 hd hv (kk p e s m args below meth c H locs ls h)
theorem a_iadd {x y : Int32} (hd : decode cc pc = .ok (.iadd, 1)) (kk : AW G E Z Ts own cc nL ret R ce sl (pc + 1) L (.int (x + y) :: rest) M) : AW G E Z Ts own cc nL ret R ce sl pc L (.int y :: .int x :: rest) M := fun p e s m args below meth c H locs ls h => lv_iadd h.1 h.2.1 hd (kk p e s m args below meth c H locs ls h)
theorem a_isub {x y : Int32} (hd : decode cc pc = .ok (.isub, 1)) (kk : AW G E Z Ts own cc nL ret R ce sl (pc + 1) L (.int (x - y) :: rest) M) : AW G E Z Ts own cc nL ret R ce sl pc L (.int y :: .int x :: rest) M := fun p e s m args below meth c H locs ls h => lv_isub h.1 h.2.1 hd (kk p e s m args below meth c H locs ls h)
theorem a_imul {x y : Int32} (hd : decode cc pc = .ok (.imul, 1)) (kk : AW G E Z Ts own cc nL ret R ce sl (pc + 1) L (.int (x * y) :: rest) M) : AW G E Z Ts own cc nL ret R ce sl pc L (.int y :: .int x :: rest) M := fun p e s m args below meth c H locs ls h => lv_imul h.1 h.2.1 hd (kk p e s m args below meth c H locs ls h)
theorem a_iand {x y : Int32} (hd : decode cc pc = .ok (.iand, 1)) (kk : AW G E Z Ts own cc nL ret R ce sl (pc + 1) L (.int (x &&& y) :: rest) M) : AW G E Z Ts own cc nL ret R ce sl pc L (.int y :: .int x :: rest) M := fun p e s m args below meth c H locs ls h => lv_iand h.1 h.2.1 hd (kk p e s m args below meth c H locs ls h)
theorem a_ior {x y : Int32} (hd : decode cc pc = .ok (.ior, 1)) (kk : AW G E Z Ts own cc nL ret R ce sl (pc + 1) L (.int (x ||| y) :: rest) M) : AW G E Z Ts own cc nL ret R ce sl pc L (.int y :: .int x :: rest) M := fun p e s m args below meth c H locs ls h => lv_ior h.1 h.2.1 hd (kk p e s m args below meth c H locs ls h)
theorem a_ixor {x y : Int32} (hd : decode cc pc = .ok (.ixor, 1)) (kk : AW G E Z Ts own cc nL ret R ce sl (pc + 1) L (.int (x ^^^ y) :: rest) M) : AW G E Z Ts own cc nL ret R ce sl pc L (.int y :: .int x :: rest) M := fun p e s m args below meth c H locs ls h => lv_ixor h.1 h.2.1 hd (kk p e s m args below meth c H locs ls h)
theorem a_ishl {x y : Int32} (hd : decode cc pc = .ok (.ishl, 1)) (kk : AW G E Z Ts own cc nL ret R ce sl (pc + 1) L (.int (x <<< (y &&& 31)) :: rest) M) : AW G E Z Ts own cc nL ret R ce sl pc L (.int y :: .int x :: rest) M := fun p e s m args below meth c H locs ls h => lv_ishl h.1 h.2.1 hd (kk p e s m args below meth c H locs ls h)
theorem a_ishr {x y : Int32} (hd : decode cc pc = .ok (.ishr, 1)) (kk : AW G E Z Ts own cc nL ret R ce sl (pc + 1) L (.int (x >>> (y &&& 31)) :: rest) M) : AW G E Z Ts own cc nL ret R ce sl pc L (.int y :: .int x :: rest) M := fun p e s m args below meth c H locs ls h => lv_ishr h.1 h.2.1 hd (kk p e s m args below meth c H locs ls h)
theorem a_idiv {x y : Int32} (hd : decode cc pc = .ok (.idiv, 1)) (hne : ¬ y = 0) (kk : AW G E Z Ts own cc nL ret R ce sl (pc + 1) L (.int (x / y) :: rest) M) : AW G E Z Ts own cc nL ret R ce sl pc L (.int y :: .int x :: rest) M := fun p e s m args below meth c H locs ls h => lv_idiv h.1 h.2.1 hd hne (kk p e s m args below meth c H locs ls h)
theorem a_irem {x y : Int32} (hd : decode cc pc = .ok (.irem, 1)) (hne : ¬ y = 0) (kk : AW G E Z Ts own cc nL ret R ce sl (pc + 1) L (.int (x - x / y * y) :: rest) M) : AW G E Z Ts own cc nL ret R ce sl pc L (.int y :: .int x :: rest) M := fun p e s m args below meth c H locs ls h => lv_irem h.1 h.2.1 hd hne (kk p e s m args below meth c H locs ls h)
theorem a_iushr {x y v : Int32} (hd : decode cc pc = .ok (.iushr, 1)) (hv : (x.toUInt32 >>> (y.toUInt32 &&& Int32.toUInt32 31)).toInt32 = v) (kk : AW G E Z Ts own cc nL ret R ce sl (pc + 1) L (.int v :: rest) M) : AW G E Z Ts own cc nL ret R ce sl pc L (.int y :: .int x :: rest) M := fun p e s m args below meth c H locs ls h => lv_iushr h.1 h.2.1 hd hv (kk p e s m args below meth c H locs ls h)
theorem a_ineg {x : Int32} (hd : decode cc pc = .ok (.ineg, 1)) (kk : AW G E Z Ts own cc nL ret R ce sl (pc + 1) L (.int (-x) :: rest) M) : AW G E Z Ts own cc nL ret R ce sl pc L (.int x :: rest) M := fun p e s m args below meth c H locs ls h => lv_ineg h.1 h.2.1 hd (kk p e s m args below meth c H locs ls h)
theorem a_i2l {x : Int32} (hd : decode cc pc = .ok (.i2l, 1)) (kk : AW G E Z Ts own cc nL ret R ce sl (pc + 1) L (.long x.toInt64 :: rest) M) : AW G E Z Ts own cc nL ret R ce sl pc L (.int x :: rest) M := fun p e s m args below meth c H locs ls h => lv_i2l h.1 h.2.1 hd rfl (kk p e s m args below meth c H locs ls h)
theorem a_ladd {x y : Int64} (hd : decode cc pc = .ok (.ladd, 1)) (kk : AW G E Z Ts own cc nL ret R ce sl (pc + 1) L (.long (x + y) :: rest) M) : AW G E Z Ts own cc nL ret R ce sl pc L (.long y :: .long x :: rest) M := fun p e s m args below meth c H locs ls h => lv_ladd h.1 h.2.1 hd (kk p e s m args below meth c H locs ls h)
theorem a_lsub {x y : Int64} (hd : decode cc pc = .ok (.lsub, 1)) (kk : AW G E Z Ts own cc nL ret R ce sl (pc + 1) L (.long (x - y) :: rest) M) : AW G E Z Ts own cc nL ret R ce sl pc L (.long y :: .long x :: rest) M := fun p e s m args below meth c H locs ls h => lv_lsub h.1 h.2.1 hd (kk p e s m args below meth c H locs ls h)
theorem a_lmul {x y : Int64} (hd : decode cc pc = .ok (.lmul, 1)) (kk : AW G E Z Ts own cc nL ret R ce sl (pc + 1) L (.long (x * y) :: rest) M) : AW G E Z Ts own cc nL ret R ce sl pc L (.long y :: .long x :: rest) M := fun p e s m args below meth c H locs ls h => lv_lmul h.1 h.2.1 hd (kk p e s m args below meth c H locs ls h)
theorem a_ldiv {x y : Int64} (hd : decode cc pc = .ok (.ldiv, 1)) (hne : ¬ y = 0) (kk : AW G E Z Ts own cc nL ret R ce sl (pc + 1) L (.long (x / y) :: rest) M) : AW G E Z Ts own cc nL ret R ce sl pc L (.long y :: .long x :: rest) M := fun p e s m args below meth c H locs ls h => lv_ldiv h.1 h.2.1 hd hne (kk p e s m args below meth c H locs ls h)
theorem a_lrem {x y : Int64} (hd : decode cc pc = .ok (.lrem, 1)) (hne : ¬ y = 0) (kk : AW G E Z Ts own cc nL ret R ce sl (pc + 1) L (.long (x - x / y * y) :: rest) M) : AW G E Z Ts own cc nL ret R ce sl pc L (.long y :: .long x :: rest) M := fun p e s m args below meth c H locs ls h => lv_lrem h.1 h.2.1 hd hne (kk p e s m args below meth c H locs ls h)
theorem a_lcmp {x y : Int64} (hd : decode cc pc = .ok (.lcmp, 1)) (kk : AW G E Z Ts own cc nL ret R ce sl (pc + 1) L (.int (lg_cmp x y) :: rest) M) : AW G E Z Ts own cc nL ret R ce sl pc L (.long y :: .long x :: rest) M := fun p e s m args below meth c H locs ls h => W.lcmp h.1 h.2.1 hd (kk p e s m args below meth c H locs ls h)
theorem a_dup {va : Value} (hd : decode cc pc = .ok (.dup, 1)) (hva : va.category = 1) (kk : AW G E Z Ts own cc nL ret R ce sl (pc + 1) L (va :: va :: rest) M) : AW G E Z Ts own cc nL ret R ce sl pc L (va :: rest) M := fun p e s m args below meth c H locs ls h => lv_dup h.1 h.2.1 hd hva (kk p e s m args below meth c H locs ls h)
theorem a_dup2 {va vb : Value} (hd : decode cc pc = .ok (.dup2, 1)) (hva : va.category = 1) (hvb : vb.category = 1) (kk : AW G E Z Ts own cc nL ret R ce sl (pc + 1) L (va :: vb :: va :: vb :: rest) M) : AW G E Z Ts own cc nL ret R ce sl pc L (va :: vb :: rest) M := fun p e s m args below meth c H locs ls h => lv_dup2_11 h.1 h.2.1 hd hva hvb (kk p e s m args below meth c H locs ls h)
theorem a_pop {va : Value} (hd : decode cc pc = .ok (.pop, 1)) (hva : va.category = 1) (kk : AW G E Z Ts own cc nL ret R ce sl (pc + 1) L (rest) M) : AW G E Z Ts own cc nL ret R ce sl pc L (va :: rest) M := fun p e s m args below meth c H locs ls h => lv_pop h.1 h.2.1 hd hva (kk p e s m args below meth c H locs ls h)
theorem a_iload_n {k : Fin 4} {x : Int32} (hd : decode cc pc = .ok (.iload_n k, 1)) (j : Nat) (hj : L[j]? = some ((k : Nat), .int x)) (kk : AW G E Z Ts own cc nL ret R ce sl (pc + 1) L (.int x :: rest) M) : AW G E Z Ts own cc nL ret R ce sl pc L rest M := fun p e s m args below meth c H locs ls h => lv_iload_n h.1 h.2.1 hd rfl (lv_at h.2.2.2.2.2.2.2.2.2.2.2.2.2 j hj) (kk p e s m args below meth c H locs ls h)
theorem a_iload {i : Nat} {x : Int32} (hd : decode cc pc = .ok (.iload i, 2)) (j : Nat) (hj : L[j]? = some (i, .int x)) (kk : AW G E Z Ts own cc nL ret R ce sl (pc + 2) L (.int x :: rest) M) : AW G E Z Ts own cc nL ret R ce sl pc L rest M := fun p e s m args below meth c H locs ls h => lv_iload h.1 h.2.1 hd (lv_at h.2.2.2.2.2.2.2.2.2.2.2.2.2 j hj) (kk p e s m args below meth c H locs ls h)
theorem a_lload_n {k : Fin 4} {x : Int64} (hd : decode cc pc = .ok (.lload_n k, 1)) (j : Nat) (hj : L[j]? = some ((k : Nat), .long x)) (kk : AW G E Z Ts own cc nL ret R ce sl (pc + 1) L (.long x :: rest) M) : AW G E Z Ts own cc nL ret R ce sl pc L rest M := fun p e s m args below meth c H locs ls h => lv_lload_n h.1 h.2.1 hd rfl (lv_at h.2.2.2.2.2.2.2.2.2.2.2.2.2 j hj) (kk p e s m args below meth c H locs ls h)
theorem a_lload {i : Nat} {x : Int64} (hd : decode cc pc = .ok (.lload i, 2)) (j : Nat) (hj : L[j]? = some (i, .long x)) (kk : AW G E Z Ts own cc nL ret R ce sl (pc + 2) L (.long x :: rest) M) : AW G E Z Ts own cc nL ret R ce sl pc L rest M := fun p e s m args below meth c H locs ls h => lv_lload h.1 h.2.1 hd (lv_at h.2.2.2.2.2.2.2.2.2.2.2.2.2 j hj) (kk p e s m args below meth c H locs ls h)
theorem a_aload_n {k : Fin 4} {x : Nat} (hd : decode cc pc = .ok (.aload_n k, 1)) (j : Nat) (hj : L[j]? = some ((k : Nat), .ref x)) (kk : AW G E Z Ts own cc nL ret R ce sl (pc + 1) L (.ref x :: rest) M) : AW G E Z Ts own cc nL ret R ce sl pc L rest M := fun p e s m args below meth c H locs ls h => lv_aload_n h.1 h.2.1 hd rfl (lv_at h.2.2.2.2.2.2.2.2.2.2.2.2.2 j hj) (kk p e s m args below meth c H locs ls h)
theorem a_aload {i : Nat} {x : Nat} (hd : decode cc pc = .ok (.aload i, 2)) (j : Nat) (hj : L[j]? = some (i, .ref x)) (kk : AW G E Z Ts own cc nL ret R ce sl (pc + 2) L (.ref x :: rest) M) : AW G E Z Ts own cc nL ret R ce sl pc L rest M := fun p e s m args below meth c H locs ls h => lv_aload h.1 h.2.1 hd (lv_at h.2.2.2.2.2.2.2.2.2.2.2.2.2 j hj) (kk p e s m args below meth c H locs ls h)
theorem a_istore_n {k : Fin 4} {i : Nat} {x : Int32} {L' : List (Nat × Value)} (hd : decode cc pc = .ok (.istore_n k, 1)) (hi : (k : Nat) = i) (hn : i < nL) (hl : (i, Value.int x) :: L.filter (fun q => !(q.1 == i) && !(q.1 + 1 == i && q.2.category == 2)) = L') (kk : AW G E Z Ts own cc nL ret R ce sl (pc + 1) L' rest M) : AW G E Z Ts own cc nL ret R ce sl pc L (.int x :: rest) M := fun p e s m args below meth c H locs ls h => lv_istore_n h.1 h.2.1 hd hi h.2.2.2.2.2.2.2.2.2.2.2.2.2 hn hl (fun ls' hl => kk p e s m args below meth c H locs ls' ⟨h.1, h.2.1, h.2.2.1, h.2.2.2.1, h.2.2.2.2.1, h.2.2.2.2.2.1, h.2.2.2.2.2.2.1, h.2.2.2.2.2.2.2.1, h.2.2.2.2.2.2.2.2.1, h.2.2.2.2.2.2.2.2.2.1, h.2.2.2.2.2.2.2.2.2.2.1, h.2.2.2.2.2.2.2.2.2.2.2.1, h.2.2.2.2.2.2.2.2.2.2.2.2.1, hl⟩)
theorem a_istore {i : Nat} {x : Int32} {L' : List (Nat × Value)} (hd : decode cc pc = .ok (.istore i, 2)) (hn : i < nL) (hl : (i, Value.int x) :: L.filter (fun q => !(q.1 == i) && !(q.1 + 1 == i && q.2.category == 2)) = L') (kk : AW G E Z Ts own cc nL ret R ce sl (pc + 2) L' rest M) : AW G E Z Ts own cc nL ret R ce sl pc L (.int x :: rest) M := fun p e s m args below meth c H locs ls h => lv_istore h.1 h.2.1 hd h.2.2.2.2.2.2.2.2.2.2.2.2.2 hn hl (fun ls' hl => kk p e s m args below meth c H locs ls' ⟨h.1, h.2.1, h.2.2.1, h.2.2.2.1, h.2.2.2.2.1, h.2.2.2.2.2.1, h.2.2.2.2.2.2.1, h.2.2.2.2.2.2.2.1, h.2.2.2.2.2.2.2.2.1, h.2.2.2.2.2.2.2.2.2.1, h.2.2.2.2.2.2.2.2.2.2.1, h.2.2.2.2.2.2.2.2.2.2.2.1, h.2.2.2.2.2.2.2.2.2.2.2.2.1, hl⟩)
theorem a_lstore_n {k : Fin 4} {i : Nat} {x : Int64} {L' : List (Nat × Value)} (hd : decode cc pc = .ok (.lstore_n k, 1)) (hi : (k : Nat) = i) (hn : i + 1 < nL) (hl : (i, Value.long x) :: L.filter (fun q => !(q.1 == i) && (!(q.1 == i + 1) && !(q.1 + 1 == i && q.2.category == 2))) = L') (kk : AW G E Z Ts own cc nL ret R ce sl (pc + 1) L' rest M) : AW G E Z Ts own cc nL ret R ce sl pc L (.long x :: rest) M := fun p e s m args below meth c H locs ls h => lv_lstore_n h.1 h.2.1 hd hi h.2.2.2.2.2.2.2.2.2.2.2.2.2 hn hl (fun ls' hl => kk p e s m args below meth c H locs ls' ⟨h.1, h.2.1, h.2.2.1, h.2.2.2.1, h.2.2.2.2.1, h.2.2.2.2.2.1, h.2.2.2.2.2.2.1, h.2.2.2.2.2.2.2.1, h.2.2.2.2.2.2.2.2.1, h.2.2.2.2.2.2.2.2.2.1, h.2.2.2.2.2.2.2.2.2.2.1, h.2.2.2.2.2.2.2.2.2.2.2.1, h.2.2.2.2.2.2.2.2.2.2.2.2.1, hl⟩)
theorem a_lstore {i : Nat} {x : Int64} {L' : List (Nat × Value)} (hd : decode cc pc = .ok (.lstore i, 2)) (hn : i + 1 < nL) (hl : (i, Value.long x) :: L.filter (fun q => !(q.1 == i) && (!(q.1 == i + 1) && !(q.1 + 1 == i && q.2.category == 2))) = L') (kk : AW G E Z Ts own cc nL ret R ce sl (pc + 2) L' rest M) : AW G E Z Ts own cc nL ret R ce sl pc L (.long x :: rest) M := fun p e s m args below meth c H locs ls h => lv_lstore h.1 h.2.1 hd h.2.2.2.2.2.2.2.2.2.2.2.2.2 hn hl (fun ls' hl => kk p e s m args below meth c H locs ls' ⟨h.1, h.2.1, h.2.2.1, h.2.2.2.1, h.2.2.2.2.1, h.2.2.2.2.2.1, h.2.2.2.2.2.2.1, h.2.2.2.2.2.2.2.1, h.2.2.2.2.2.2.2.2.1, h.2.2.2.2.2.2.2.2.2.1, h.2.2.2.2.2.2.2.2.2.2.1, h.2.2.2.2.2.2.2.2.2.2.2.1, h.2.2.2.2.2.2.2.2.2.2.2.2.1, hl⟩)
theorem a_astore_n {k : Fin 4} {i : Nat} {x : Nat} {L' : List (Nat × Value)} (hd : decode cc pc = .ok (.astore_n k, 1)) (hi : (k : Nat) = i) (hn : i < nL) (hl : (i, Value.ref x) :: L.filter (fun q => !(q.1 == i) && !(q.1 + 1 == i && q.2.category == 2)) = L') (kk : AW G E Z Ts own cc nL ret R ce sl (pc + 1) L' rest M) : AW G E Z Ts own cc nL ret R ce sl pc L (.ref x :: rest) M := fun p e s m args below meth c H locs ls h => lv_astore_n h.1 h.2.1 hd hi h.2.2.2.2.2.2.2.2.2.2.2.2.2 hn hl (fun ls' hl => kk p e s m args below meth c H locs ls' ⟨h.1, h.2.1, h.2.2.1, h.2.2.2.1, h.2.2.2.2.1, h.2.2.2.2.2.1, h.2.2.2.2.2.2.1, h.2.2.2.2.2.2.2.1, h.2.2.2.2.2.2.2.2.1, h.2.2.2.2.2.2.2.2.2.1, h.2.2.2.2.2.2.2.2.2.2.1, h.2.2.2.2.2.2.2.2.2.2.2.1, h.2.2.2.2.2.2.2.2.2.2.2.2.1, hl⟩)
theorem a_iinc {i : Nat} {n : Int} {x v : Int32} {L' : List (Nat × Value)} (hd : decode cc pc = .ok (.iinc i n, 3)) (j : Nat) (hj : L[j]? = some (i, .int x)) (hv : x + Int32.ofInt n = v) (hn : i < nL) (hl : (i, Value.int v) :: L.filter (fun q => !(q.1 == i) && !(q.1 + 1 == i && q.2.category == 2)) = L') (kk : AW G E Z Ts own cc nL ret R ce sl (pc + 3) L' rest M) : AW G E Z Ts own cc nL ret R ce sl pc L rest M := fun p e s m args below meth c H locs ls h => lv_iinc h.1 h.2.1 hd h.2.2.2.2.2.2.2.2.2.2.2.2.2 hj hv hn hl (fun ls' hl => kk p e s m args below meth c H locs ls' ⟨h.1, h.2.1, h.2.2.1, h.2.2.2.1, h.2.2.2.2.1, h.2.2.2.2.2.1, h.2.2.2.2.2.2.1, h.2.2.2.2.2.2.2.1, h.2.2.2.2.2.2.2.2.1, h.2.2.2.2.2.2.2.2.2.1, h.2.2.2.2.2.2.2.2.2.2.1, h.2.2.2.2.2.2.2.2.2.2.2.1, h.2.2.2.2.2.2.2.2.2.2.2.2.1, hl⟩)
theorem a_icmp_eq {x y : Int32} {off : Int} {tgt : Nat} (hd : decode cc pc = .ok (.if_icmp .eq off, 3)) (ht : (pc : Int) + off = (tgt : Int)) (kt : x = y → AW G E Z Ts own cc nL ret R ce sl tgt L rest M) (kf : ¬ x = y → AW G E Z Ts own cc nL ret R ce sl (pc + 3) L rest M) : AW G E Z Ts own cc nL ret R ce sl pc L (.int y :: .int x :: rest) M := fun p e s m args below meth c H locs ls h => lv_icmp_eq h.1 h.2.1 hd ht (fun z => kt z p e s m args below meth c H locs ls h) (fun z => kf z p e s m args below meth c H locs ls h)
theorem a_icmp_ne {x y : Int32} {off : Int} {tgt : Nat} (hd : decode cc pc = .ok (.if_icmp .ne off, 3)) (ht : (pc : Int) + off = (tgt : Int)) (kt : x ≠ y → AW G E Z Ts own cc nL ret R ce sl tgt L rest M) (kf : x = y → AW G E Z Ts own cc nL ret R ce sl (pc + 3) L rest M) : AW G E Z Ts own cc nL ret R ce sl pc L (.int y :: .int x :: rest) M := fun p e s m args below meth c H locs ls h => lv_icmp_ne h.1 h.2.1 hd ht (fun z => kt z p e s m args below meth c H locs ls h) (fun z => kf z p e s m args below meth c H locs ls h)
theorem a_icmp_lt {x y : Int32} {off : Int} {tgt : Nat} (hd : decode cc pc = .ok (.if_icmp .lt off, 3)) (ht : (pc : Int) + off = (tgt : Int)) (kt : x < y → AW G E Z Ts own cc nL ret R ce sl tgt L rest M) (kf : ¬ x < y → AW G E Z Ts own cc nL ret R ce sl (pc + 3) L rest M) : AW G E Z Ts own cc nL ret R ce sl pc L (.int y :: .int x :: rest) M := fun p e s m args below meth c H locs ls h => lv_icmp_lt h.1 h.2.1 hd ht (fun z => kt z p e s m args below meth c H locs ls h) (fun z => kf z p e s m args below meth c H locs ls h)
theorem a_icmp_ge {x y : Int32} {off : Int} {tgt : Nat} (hd : decode cc pc = .ok (.if_icmp .ge off, 3)) (ht : (pc : Int) + off = (tgt : Int)) (kt : y ≤ x → AW G E Z Ts own cc nL ret R ce sl tgt L rest M) (kf : ¬ y ≤ x → AW G E Z Ts own cc nL ret R ce sl (pc + 3) L rest M) : AW G E Z Ts own cc nL ret R ce sl pc L (.int y :: .int x :: rest) M := fun p e s m args below meth c H locs ls h => lv_icmp_ge h.1 h.2.1 hd ht (fun z => kt z p e s m args below meth c H locs ls h) (fun z => kf z p e s m args below meth c H locs ls h)
theorem a_icmp_gt {x y : Int32} {off : Int} {tgt : Nat} (hd : decode cc pc = .ok (.if_icmp .gt off, 3)) (ht : (pc : Int) + off = (tgt : Int)) (kt : y < x → AW G E Z Ts own cc nL ret R ce sl tgt L rest M) (kf : ¬ y < x → AW G E Z Ts own cc nL ret R ce sl (pc + 3) L rest M) : AW G E Z Ts own cc nL ret R ce sl pc L (.int y :: .int x :: rest) M := fun p e s m args below meth c H locs ls h => lv_icmp_gt h.1 h.2.1 hd ht (fun z => kt z p e s m args below meth c H locs ls h) (fun z => kf z p e s m args below meth c H locs ls h)
theorem a_icmp_le {x y : Int32} {off : Int} {tgt : Nat} (hd : decode cc pc = .ok (.if_icmp .le off, 3)) (ht : (pc : Int) + off = (tgt : Int)) (kt : x ≤ y → AW G E Z Ts own cc nL ret R ce sl tgt L rest M) (kf : ¬ x ≤ y → AW G E Z Ts own cc nL ret R ce sl (pc + 3) L rest M) : AW G E Z Ts own cc nL ret R ce sl pc L (.int y :: .int x :: rest) M := fun p e s m args below meth c H locs ls h => lv_icmp_le h.1 h.2.1 hd ht (fun z => kt z p e s m args below meth c H locs ls h) (fun z => kf z p e s m args below meth c H locs ls h)
theorem a_if_eq {x : Int32} {off : Int} {tgt : Nat} (hd : decode cc pc = .ok (.ifCond .eq off, 3)) (ht : (pc : Int) + off = (tgt : Int)) (kt : x = 0 → AW G E Z Ts own cc nL ret R ce sl tgt L rest M) (kf : ¬ x = 0 → AW G E Z Ts own cc nL ret R ce sl (pc + 3) L rest M) : AW G E Z Ts own cc nL ret R ce sl pc L (.int x :: rest) M := fun p e s m args below meth c H locs ls h => lv_if_eq h.1 h.2.1 hd ht (fun z => kt z p e s m args below meth c H locs ls h) (fun z => kf z p e s m args below meth c H locs ls h)
theorem a_if_ne {x : Int32} {off : Int} {tgt : Nat} (hd : decode cc pc = .ok (.ifCond .ne off, 3)) (ht : (pc : Int) + off = (tgt : Int)) (kt : x ≠ 0 → AW G E Z Ts own cc nL ret R ce sl tgt L rest M) (kf : x = 0 → AW G E Z Ts own cc nL ret R ce sl (pc + 3) L rest M) : AW G E Z Ts own cc nL ret R ce sl pc L (.int x :: rest) M := fun p e s m args below meth c H locs ls h => lv_if_ne h.1 h.2.1 hd ht (fun z => kt z p e s m args below meth c H locs ls h) (fun z => kf z p e s m args below meth c H locs ls h)
theorem a_if_lt {x : Int32} {off : Int} {tgt : Nat} (hd : decode cc pc = .ok (.ifCond .lt off, 3)) (ht : (pc : Int) + off = (tgt : Int)) (kt : x < 0 → AW G E Z Ts own cc nL ret R ce sl tgt L rest M) (kf : ¬ x < 0 → AW G E Z Ts own cc nL ret R ce sl (pc + 3) L rest M) : AW G E Z Ts own cc nL ret R ce sl pc L (.int x :: rest) M := fun p e s m args below meth c H locs ls h => lv_if_lt h.1 h.2.1 hd ht (fun z => kt z p e s m args below meth c H locs ls h) (fun z => kf z p e s m args below meth c H locs ls h)
theorem a_if_ge {x : Int32} {off : Int} {tgt : Nat} (hd : decode cc pc = .ok (.ifCond .ge off, 3)) (ht : (pc : Int) + off = (tgt : Int)) (kt : 0 ≤ x → AW G E Z Ts own cc nL ret R ce sl tgt L rest M) (kf : ¬ 0 ≤ x → AW G E Z Ts own cc nL ret R ce sl (pc + 3) L rest M) : AW G E Z Ts own cc nL ret R ce sl pc L (.int x :: rest) M := fun p e s m args below meth c H locs ls h => lv_if_ge h.1 h.2.1 hd ht (fun z => kt z p e s m args below meth c H locs ls h) (fun z => kf z p e s m args below meth c H locs ls h)
theorem a_if_gt {x : Int32} {off : Int} {tgt : Nat} (hd : decode cc pc = .ok (.ifCond .gt off, 3)) (ht : (pc : Int) + off = (tgt : Int)) (kt : 0 < x → AW G E Z Ts own cc nL ret R ce sl tgt L rest M) (kf : ¬ 0 < x → AW G E Z Ts own cc nL ret R ce sl (pc + 3) L rest M) : AW G E Z Ts own cc nL ret R ce sl pc L (.int x :: rest) M := fun p e s m args below meth c H locs ls h => lv_if_gt h.1 h.2.1 hd ht (fun z => kt z p e s m args below meth c H locs ls h) (fun z => kf z p e s m args below meth c H locs ls h)
theorem a_if_le {x : Int32} {off : Int} {tgt : Nat} (hd : decode cc pc = .ok (.ifCond .le off, 3)) (ht : (pc : Int) + off = (tgt : Int)) (kt : x ≤ 0 → AW G E Z Ts own cc nL ret R ce sl tgt L rest M) (kf : ¬ x ≤ 0 → AW G E Z Ts own cc nL ret R ce sl (pc + 3) L rest M) : AW G E Z Ts own cc nL ret R ce sl pc L (.int x :: rest) M := fun p e s m args below meth c H locs ls h => lv_if_le h.1 h.2.1 hd ht (fun z => kt z p e s m args below meth c H locs ls h) (fun z => kf z p e s m args below meth c H locs ls h)
theorem a_goto {off : Int} {tgt : Nat} (hd : decode cc pc = .ok (.goto off, 3)) (ht : (pc : Int) + off = (tgt : Int)) (kk : AW G E Z Ts own cc nL ret R ce sl tgt L rest M) : AW G E Z Ts own cc nL ret R ce sl pc L rest M := fun p e s m args below meth c H locs ls h => lv_goto h.1 h.2.1 hd ht (kk p e s m args below meth c H locs ls h)
theorem a_ifnull {x : Nat} {off : Int} (hd : decode cc pc = .ok (.ifnull off, 3)) (kk : AW G E Z Ts own cc nL ret R ce sl (pc + 3) L rest M) : AW G E Z Ts own cc nL ret R ce sl pc L (.ref x :: rest) M := fun p e s m args below meth c H locs ls h => lv_ifnull h.1 h.2.1 hd (kk p e s m args below meth c H locs ls h)
theorem a_ifnonnull {x : Nat} {off : Int} {tgt : Nat} (hd : decode cc pc = .ok (.ifnonnull off, 3)) (ht : (pc : Int) + off = (tgt : Int)) (kk : AW G E Z Ts own cc nL ret R ce sl tgt L rest M) : AW G E Z Ts own cc nL ret R ce sl pc L (.ref x :: rest) M := fun p e s m args below meth c H locs ls h => lv_ifnonnull h.1 h.2.1 hd ht (kk p e s m args below meth c H locs ls h)
theorem a_tableOut {dflt lo hi : Int} {offs : Array Int} {len : Nat} {x : Int32} {tgt : Nat} (hd : decode cc pc = .ok (.tableswitch dflt lo hi offs, len)) (hh : x.toInt < lo ∨ hi < x.toInt) (ht : (pc : Int) + dflt = (tgt : Int)) (kk : AW G E Z Ts own cc nL ret R ce sl tgt L rest M) : AW G E Z Ts own cc nL ret R ce sl pc L (.int x :: rest) M := fun p e s m args below meth c H locs ls h => lv_tableOut h.1 h.2.1 hd hh ht (kk p e s m args below meth c H locs ls h)
theorem a_tableIn {dflt lo hi : Int} {offs : Array Int} {len : Nat} {x : Int32} {off : Int} {tgt : Nat} (hd : decode cc pc = .ok (.tableswitch dflt lo hi offs, len)) (h1 : ¬ x.toInt < lo) (h2 : ¬ hi < x.toInt) (ho : offs[(x.toInt - lo).toNat]? = some off) (ht : (pc : Int) + off = (tgt : Int)) (kk : AW G E Z Ts own cc nL ret R ce sl tgt L rest M) : AW G E Z Ts own cc nL ret R ce sl pc L (.int x :: rest) M := fun p e s m args below meth c H locs ls h => lv_tableIn h.1 h.2.1 hd h1 h2 ho ht (kk p e s m args below meth c H locs ls h)
theorem a_lookup {dflt : Int} {ps : Array (Int × Int)} {len : Nat} {x : Int32} {off : Int} {tgt : Nat} (hd : decode cc pc = .ok (.lookupswitch dflt ps, len)) (hp : (ps.toList.zip (ps.toList.drop 1)).all (fun (a, next) => a.1 < next.1) = true) (ho : Op.lookupswitch.offset ps.toList dflt x.toInt = off) (ht : (pc : Int) + off = (tgt : Int)) (kk : AW G E Z Ts own cc nL ret R ce sl tgt L rest M) : AW G E Z Ts own cc nL ret R ce sl pc L (.int x :: rest) M := fun p e s m args below meth c H locs ls h => lv_lookup h.1 h.2.1 hd hp ho ht (kk p e s m args below meth c H locs ls h)
theorem a_ldc {index : Nat} {v : Int32} (hd : decode cc pc = .ok (.ldc index, 2)) (hw : Cond.constant own index v ∈ Ts) (kk : AW G E Z Ts own cc nL ret R ce sl (pc + 2) L (.int v :: rest) M) : AW G E Z Ts own cc nL ret R ce sl pc L rest M := fun p e s m args below meth c H locs ls h => lv_ldc h.1 h.2.1 h.2.2.2.2.2.1 (h.2.2.2.2.2.2.1 _ hw) hd (kk p e s m args below meth c H locs ls h)
theorem a_ldcw {index : Nat} {v : Int32} (hd : decode cc pc = .ok (.ldc_w index, 3)) (hw : Cond.constant own index v ∈ Ts) (kk : AW G E Z Ts own cc nL ret R ce sl (pc + 3) L (.int v :: rest) M) : AW G E Z Ts own cc nL ret R ce sl pc L rest M := fun p e s m args below meth c H locs ls h => lv_ldcw h.1 h.2.1 h.2.2.2.2.2.1 (h.2.2.2.2.2.2.1 _ hw) hd (kk p e s m args below meth c H locs ls h)
theorem a_ldc2 {index : Nat} {v : Int64} (hd : decode cc pc = .ok (.ldc2_w index, 3)) (hw : Cond.constantLong own index v ∈ Ts) (kk : AW G E Z Ts own cc nL ret R ce sl (pc + 3) L (.long v :: rest) M) : AW G E Z Ts own cc nL ret R ce sl pc L rest M := fun p e s m args below meth c H locs ls h => lv_ldc2 h.1 h.2.1 h.2.2.2.2.2.1 (h.2.2.2.2.2.2.1 _ hw) hd (kk p e s m args below meth c H locs ls h)
theorem a_get0 {index q : Nat} {v : Value} (hd : decode cc pc = .ok (.getfield index, 3)) (k : Nat) (hk : k < 9) (hw : Cond.fieldLink own index RX0 (TX0 k).2.1 (TX0 k).2.2.1 ∈ Ts) (hin : ∀ w ∈ u_ws RX0 TX0 9, w ∈ Ts) (hr : (TX0 k).1 = RX0) (hq : ob q 0) (hv : (fl0 G q (M q))[k]? = some v) (kk : AW G E Z Ts own cc nL ret R ce sl (pc + 3) L (v :: rest) M) : AW G E Z Ts own cc nL ret R ce sl pc L (.ref (gA G q) :: rest) M := fun p e s m args below meth c H locs ls h => va_get (ref := RX0) (C := RX0) (T := TX0) (N := 9) (ci := 0) h.1 h.2.1 h.2.2.2.2.2.2.1 hin h.2.2.2.2.2.1 h.2.2.2.2.2.2.2.1.1 h.2.2.2.2.2.2.2.2.1 q (by rw [WS_get hq.1, en0 hq.2]) rfl k hk (h.2.2.2.2.2.2.1 _ hw) (fun x hx => by rw [hr] at hx; exact hx) hv hd (kk p e s m args below meth c H locs ls h)
theorem a_getN0 {index q : Nat} {v : Value} {host : String} (hd : decode cc pc = .ok (.getfield index, 3)) (k : Nat) (hk : k < 9) (hw : ∀ U, gN U → va_Nw (Cond.fieldLinkNest own index RX0 (TX0 k).2.1 (TX0 k).2.2.1 host) U) (hin : ∀ w ∈ u_ws RX0 TX0 9, w ∈ Ts) (hr : (TX0 k).1 = RX0) (hq : ob q 0) (hv : (fl0 G q (M q))[k]? = some v) (kk : AW G E Z Ts own cc nL ret R ce sl (pc + 3) L (v :: rest) M) : AW G E Z Ts own cc nL ret R ce sl pc L (.ref (gA G q) :: rest) M := fun p e s m args below meth c H locs ls h => va_getN (ref := RX0) (C := RX0) (T := TX0) (N := 9) (ci := 0) h.1 h.2.1 h.2.2.2.2.2.2.1 hin h.2.2.2.2.2.1 h.2.2.2.2.2.2.2.1.1 h.2.2.2.2.2.2.2.2.1 q (by rw [WS_get hq.1, en0 hq.2]) rfl k hk (va_Nw.use rfl (hw _ h.2.2.2.2.2.2.2.1.2)) (fun x hx => by rw [hr] at hx; exact hx) hv hd (kk p e s m args below meth c H locs ls h)
theorem a_put0 {index q : Nat} {v : Value} {x : Int32} (hd : decode cc pc = .ok (.putfield index, 3)) (k : Nat) (hk : k < 9) (hw : Cond.fieldLink own index RX0 (TX0 k).2.1 (TX0 k).2.2.1 ∈ Ts) (hin : ∀ w ∈ u_ws RX0 TX0 9, w ∈ Ts) (hr : (TX0 k).1 = RX0) (hfin : (TX0 k).2.2.2 = false) (hnr : narrow (tyX0 k) v = v) (hfit : fits (tyX0 k) v = true) (hq : ob q 0) (hset : ∀ (f : Nat → Int32), (fl0 G q f).set k v = fl0 G q (fun j => if j = k then x else f j)) (kk : AW G E Z Ts own cc nL ret R ce sl (pc + 3) L rest (up M q k x)) : AW G E Z Ts own cc nL ret R ce sl pc L (v :: .ref (gA G q) :: rest) M := fun p e s m args below meth c H locs ls h => va_put (ref := RX0) (C := RX0) (T := TX0) (N := 9) (ci := 0) (fs := fl0 G q (M q)) h.1 h.2.1 h.2.2.2.2.2.2.1 hin tyX0 tyX0_ok nmX0 h.2.2.2.2.2.1 h.2.2.2.2.2.2.2.1.1 h.2.2.2.2.2.2.2.2.1 h.2.2.2.2.2.2.2.2.2.1 h.2.2.2.2.2.2.2.2.2.2.1 q (by rw [WS_get hq.1, en0 hq.2]) rfl k hk (h.2.2.2.2.2.2.1 _ hw) (fun x hx => by rw [hr] at hx; exact hx) hfin (tyX0_ok k hk) hnr hfit hk hd (fun H1 locs1 hP1 hD1 hS1 => by
  have e1 : (WS G M).set q (gA G q, .inr (0, (fl0 G q (M q)).set k v)) = WS G (up M q k x) := WS_set hq.1 (by rw [en0 hq.2, hset]; simp [up]) (fun q' hq' => up_p hq')
  rw [e1] at hP1 hD1
  exact kk p e s m args below meth c H1 locs1 ls ⟨h.1, h.2.1, h.2.2.1, h.2.2.2.1, h.2.2.2.2.1, h.2.2.2.2.2.1, h.2.2.2.2.2.2.1, h.2.2.2.2.2.2.2.1, hP1, hD1, hS1, h.2.2.2.2.2.2.2.2.2.2.2.1, h.2.2.2.2.2.2.2.2.2.2.2.2.1, h.2.2.2.2.2.2.2.2.2.2.2.2.2⟩)
theorem a_putN0 {index q : Nat} {v : Value} {x : Int32} {host : String} (hd : decode cc pc = .ok (.putfield index, 3)) (k : Nat) (hk : k < 9) (hw : ∀ U, gN U → va_Nw (Cond.fieldLinkNest own index RX0 (TX0 k).2.1 (TX0 k).2.2.1 host) U) (hin : ∀ w ∈ u_ws RX0 TX0 9, w ∈ Ts) (hr : (TX0 k).1 = RX0) (hfin : (TX0 k).2.2.2 = false) (hnr : narrow (tyX0 k) v = v) (hfit : fits (tyX0 k) v = true) (hq : ob q 0) (hset : ∀ (f : Nat → Int32), (fl0 G q f).set k v = fl0 G q (fun j => if j = k then x else f j)) (kk : AW G E Z Ts own cc nL ret R ce sl (pc + 3) L rest (up M q k x)) : AW G E Z Ts own cc nL ret R ce sl pc L (v :: .ref (gA G q) :: rest) M := fun p e s m args below meth c H locs ls h => va_putN (ref := RX0) (C := RX0) (T := TX0) (N := 9) (ci := 0) (fs := fl0 G q (M q)) h.1 h.2.1 h.2.2.2.2.2.2.1 hin tyX0 tyX0_ok nmX0 h.2.2.2.2.2.1 h.2.2.2.2.2.2.2.1.1 h.2.2.2.2.2.2.2.2.1 h.2.2.2.2.2.2.2.2.2.1 h.2.2.2.2.2.2.2.2.2.2.1 q (by rw [WS_get hq.1, en0 hq.2]) rfl k hk (va_Nw.use rfl (hw _ h.2.2.2.2.2.2.2.1.2)) (fun x hx => by rw [hr] at hx; exact hx) hfin (tyX0_ok k hk) hnr hfit hk hd (fun H1 locs1 hP1 hD1 hS1 => by
  have e1 : (WS G M).set q (gA G q, .inr (0, (fl0 G q (M q)).set k v)) = WS G (up M q k x) := WS_set hq.1 (by rw [en0 hq.2, hset]; simp [up]) (fun q' hq' => up_p hq')
  rw [e1] at hP1 hD1
  exact kk p e s m args below meth c H1 locs1 ls ⟨h.1, h.2.1, h.2.2.1, h.2.2.2.1, h.2.2.2.2.1, h.2.2.2.2.2.1, h.2.2.2.2.2.2.1, h.2.2.2.2.2.2.2.1, hP1, hD1, hS1, h.2.2.2.2.2.2.2.2.2.2.2.1, h.2.2.2.2.2.2.2.2.2.2.2.2.1, h.2.2.2.2.2.2.2.2.2.2.2.2.2⟩)
theorem a_get1 {index q : Nat} {v : Value} (hd : decode cc pc = .ok (.getfield index, 3)) (k : Nat) (hk : k < 2) (hw : Cond.fieldLink own index RX2 (TX2 k).2.1 (TX2 k).2.2.1 ∈ Ts) (hin : ∀ w ∈ u_ws RX2 TX2 2, w ∈ Ts) (hr : (TX2 k).1 = RX2) (hq : ob q 1) (hv : (fl1 G q (M q))[k]? = some v) (kk : AW G E Z Ts own cc nL ret R ce sl (pc + 3) L (v :: rest) M) : AW G E Z Ts own cc nL ret R ce sl pc L (.ref (gA G q) :: rest) M := fun p e s m args below meth c H locs ls h => va_get (ref := RX2) (C := RX2) (T := TX2) (N := 2) (ci := 1) h.1 h.2.1 h.2.2.2.2.2.2.1 hin h.2.2.2.2.2.1 h.2.2.2.2.2.2.2.1.1 h.2.2.2.2.2.2.2.2.1 q (by rw [WS_get hq.1, en1 hq.2]) rfl k hk (h.2.2.2.2.2.2.1 _ hw) (fun x hx => by rw [hr] at hx; exact hx) hv hd (kk p e s m args below meth c H locs ls h)
theorem a_getN1 {index q : Nat} {v : Value} {host : String} (hd : decode cc pc = .ok (.getfield index, 3)) (k : Nat) (hk : k < 2) (hw : ∀ U, gN U → va_Nw (Cond.fieldLinkNest own index RX2 (TX2 k).2.1 (TX2 k).2.2.1 host) U) (hin : ∀ w ∈ u_ws RX2 TX2 2, w ∈ Ts) (hr : (TX2 k).1 = RX2) (hq : ob q 1) (hv : (fl1 G q (M q))[k]? = some v) (kk : AW G E Z Ts own cc nL ret R ce sl (pc + 3) L (v :: rest) M) : AW G E Z Ts own cc nL ret R ce sl pc L (.ref (gA G q) :: rest) M := fun p e s m args below meth c H locs ls h => va_getN (ref := RX2) (C := RX2) (T := TX2) (N := 2) (ci := 1) h.1 h.2.1 h.2.2.2.2.2.2.1 hin h.2.2.2.2.2.1 h.2.2.2.2.2.2.2.1.1 h.2.2.2.2.2.2.2.2.1 q (by rw [WS_get hq.1, en1 hq.2]) rfl k hk (va_Nw.use rfl (hw _ h.2.2.2.2.2.2.2.1.2)) (fun x hx => by rw [hr] at hx; exact hx) hv hd (kk p e s m args below meth c H locs ls h)
theorem a_put1 {index q : Nat} {v : Value} {x : Int32} (hd : decode cc pc = .ok (.putfield index, 3)) (k : Nat) (hk : k < 2) (hw : Cond.fieldLink own index RX2 (TX2 k).2.1 (TX2 k).2.2.1 ∈ Ts) (hin : ∀ w ∈ u_ws RX2 TX2 2, w ∈ Ts) (hr : (TX2 k).1 = RX2) (hfin : (TX2 k).2.2.2 = false) (hnr : narrow (tyX2 k) v = v) (hfit : fits (tyX2 k) v = true) (hq : ob q 1) (hset : ∀ (f : Nat → Int32), (fl1 G q f).set k v = fl1 G q (fun j => if j = k then x else f j)) (kk : AW G E Z Ts own cc nL ret R ce sl (pc + 3) L rest (up M q k x)) : AW G E Z Ts own cc nL ret R ce sl pc L (v :: .ref (gA G q) :: rest) M := fun p e s m args below meth c H locs ls h => va_put (ref := RX2) (C := RX2) (T := TX2) (N := 2) (ci := 1) (fs := fl1 G q (M q)) h.1 h.2.1 h.2.2.2.2.2.2.1 hin tyX2 tyX2_ok nmX2 h.2.2.2.2.2.1 h.2.2.2.2.2.2.2.1.1 h.2.2.2.2.2.2.2.2.1 h.2.2.2.2.2.2.2.2.2.1 h.2.2.2.2.2.2.2.2.2.2.1 q (by rw [WS_get hq.1, en1 hq.2]) rfl k hk (h.2.2.2.2.2.2.1 _ hw) (fun x hx => by rw [hr] at hx; exact hx) hfin (tyX2_ok k hk) hnr hfit hk hd (fun H1 locs1 hP1 hD1 hS1 => by
  have e1 : (WS G M).set q (gA G q, .inr (1, (fl1 G q (M q)).set k v)) = WS G (up M q k x) := WS_set hq.1 (by rw [en1 hq.2, hset]; simp [up]) (fun q' hq' => up_p hq')
  rw [e1] at hP1 hD1
  exact kk p e s m args below meth c H1 locs1 ls ⟨h.1, h.2.1, h.2.2.1, h.2.2.2.1, h.2.2.2.2.1, h.2.2.2.2.2.1, h.2.2.2.2.2.2.1, h.2.2.2.2.2.2.2.1, hP1, hD1, hS1, h.2.2.2.2.2.2.2.2.2.2.2.1, h.2.2.2.2.2.2.2.2.2.2.2.2.1, h.2.2.2.2.2.2.2.2.2.2.2.2.2⟩)
theorem a_putN1 {index q : Nat} {v : Value} {x : Int32} {host : String} (hd : decode cc pc = .ok (.putfield index, 3)) (k : Nat) (hk : k < 2) (hw : ∀ U, gN U → va_Nw (Cond.fieldLinkNest own index RX2 (TX2 k).2.1 (TX2 k).2.2.1 host) U) (hin : ∀ w ∈ u_ws RX2 TX2 2, w ∈ Ts) (hr : (TX2 k).1 = RX2) (hfin : (TX2 k).2.2.2 = false) (hnr : narrow (tyX2 k) v = v) (hfit : fits (tyX2 k) v = true) (hq : ob q 1) (hset : ∀ (f : Nat → Int32), (fl1 G q f).set k v = fl1 G q (fun j => if j = k then x else f j)) (kk : AW G E Z Ts own cc nL ret R ce sl (pc + 3) L rest (up M q k x)) : AW G E Z Ts own cc nL ret R ce sl pc L (v :: .ref (gA G q) :: rest) M := fun p e s m args below meth c H locs ls h => va_putN (ref := RX2) (C := RX2) (T := TX2) (N := 2) (ci := 1) (fs := fl1 G q (M q)) h.1 h.2.1 h.2.2.2.2.2.2.1 hin tyX2 tyX2_ok nmX2 h.2.2.2.2.2.1 h.2.2.2.2.2.2.2.1.1 h.2.2.2.2.2.2.2.2.1 h.2.2.2.2.2.2.2.2.2.1 h.2.2.2.2.2.2.2.2.2.2.1 q (by rw [WS_get hq.1, en1 hq.2]) rfl k hk (va_Nw.use rfl (hw _ h.2.2.2.2.2.2.2.1.2)) (fun x hx => by rw [hr] at hx; exact hx) hfin (tyX2_ok k hk) hnr hfit hk hd (fun H1 locs1 hP1 hD1 hS1 => by
  have e1 : (WS G M).set q (gA G q, .inr (1, (fl1 G q (M q)).set k v)) = WS G (up M q k x) := WS_set hq.1 (by rw [en1 hq.2, hset]; simp [up]) (fun q' hq' => up_p hq')
  rw [e1] at hP1 hD1
  exact kk p e s m args below meth c H1 locs1 ls ⟨h.1, h.2.1, h.2.2.1, h.2.2.2.1, h.2.2.2.2.1, h.2.2.2.2.2.1, h.2.2.2.2.2.2.1, h.2.2.2.2.2.2.2.1, hP1, hD1, hS1, h.2.2.2.2.2.2.2.2.2.2.2.1, h.2.2.2.2.2.2.2.2.2.2.2.2.1, h.2.2.2.2.2.2.2.2.2.2.2.2.2⟩)
theorem a_get2 {index q : Nat} {v : Value} (hd : decode cc pc = .ok (.getfield index, 3)) (k : Nat) (hk : k < 12) (hw : Cond.fieldLink own index RX4 (TX4 k).2.1 (TX4 k).2.2.1 ∈ Ts) (hin : ∀ w ∈ u_ws RX4 TX4 12, w ∈ Ts) (hr : (TX4 k).1 = RX4) (hq : ob q 2) (hv : (fl2 G q (M q))[k]? = some v) (kk : AW G E Z Ts own cc nL ret R ce sl (pc + 3) L (v :: rest) M) : AW G E Z Ts own cc nL ret R ce sl pc L (.ref (gA G q) :: rest) M := fun p e s m args below meth c H locs ls h => va_get (ref := RX4) (C := RX4) (T := TX4) (N := 12) (ci := 2) h.1 h.2.1 h.2.2.2.2.2.2.1 hin h.2.2.2.2.2.1 h.2.2.2.2.2.2.2.1.1 h.2.2.2.2.2.2.2.2.1 q (by rw [WS_get hq.1, en2 hq.2]) rfl k hk (h.2.2.2.2.2.2.1 _ hw) (fun x hx => by rw [hr] at hx; exact hx) hv hd (kk p e s m args below meth c H locs ls h)
theorem a_getN2 {index q : Nat} {v : Value} {host : String} (hd : decode cc pc = .ok (.getfield index, 3)) (k : Nat) (hk : k < 12) (hw : ∀ U, gN U → va_Nw (Cond.fieldLinkNest own index RX4 (TX4 k).2.1 (TX4 k).2.2.1 host) U) (hin : ∀ w ∈ u_ws RX4 TX4 12, w ∈ Ts) (hr : (TX4 k).1 = RX4) (hq : ob q 2) (hv : (fl2 G q (M q))[k]? = some v) (kk : AW G E Z Ts own cc nL ret R ce sl (pc + 3) L (v :: rest) M) : AW G E Z Ts own cc nL ret R ce sl pc L (.ref (gA G q) :: rest) M := fun p e s m args below meth c H locs ls h => va_getN (ref := RX4) (C := RX4) (T := TX4) (N := 12) (ci := 2) h.1 h.2.1 h.2.2.2.2.2.2.1 hin h.2.2.2.2.2.1 h.2.2.2.2.2.2.2.1.1 h.2.2.2.2.2.2.2.2.1 q (by rw [WS_get hq.1, en2 hq.2]) rfl k hk (va_Nw.use rfl (hw _ h.2.2.2.2.2.2.2.1.2)) (fun x hx => by rw [hr] at hx; exact hx) hv hd (kk p e s m args below meth c H locs ls h)
theorem a_put2 {index q : Nat} {v : Value} {x : Int32} (hd : decode cc pc = .ok (.putfield index, 3)) (k : Nat) (hk : k < 12) (hw : Cond.fieldLink own index RX4 (TX4 k).2.1 (TX4 k).2.2.1 ∈ Ts) (hin : ∀ w ∈ u_ws RX4 TX4 12, w ∈ Ts) (hr : (TX4 k).1 = RX4) (hfin : (TX4 k).2.2.2 = false) (hnr : narrow (tyX4 k) v = v) (hfit : fits (tyX4 k) v = true) (hq : ob q 2) (hset : ∀ (f : Nat → Int32), (fl2 G q f).set k v = fl2 G q (fun j => if j = k then x else f j)) (kk : AW G E Z Ts own cc nL ret R ce sl (pc + 3) L rest (up M q k x)) : AW G E Z Ts own cc nL ret R ce sl pc L (v :: .ref (gA G q) :: rest) M := fun p e s m args below meth c H locs ls h => va_put (ref := RX4) (C := RX4) (T := TX4) (N := 12) (ci := 2) (fs := fl2 G q (M q)) h.1 h.2.1 h.2.2.2.2.2.2.1 hin tyX4 tyX4_ok nmX4 h.2.2.2.2.2.1 h.2.2.2.2.2.2.2.1.1 h.2.2.2.2.2.2.2.2.1 h.2.2.2.2.2.2.2.2.2.1 h.2.2.2.2.2.2.2.2.2.2.1 q (by rw [WS_get hq.1, en2 hq.2]) rfl k hk (h.2.2.2.2.2.2.1 _ hw) (fun x hx => by rw [hr] at hx; exact hx) hfin (tyX4_ok k hk) hnr hfit hk hd (fun H1 locs1 hP1 hD1 hS1 => by
  have e1 : (WS G M).set q (gA G q, .inr (2, (fl2 G q (M q)).set k v)) = WS G (up M q k x) := WS_set hq.1 (by rw [en2 hq.2, hset]; simp [up]) (fun q' hq' => up_p hq')
  rw [e1] at hP1 hD1
  exact kk p e s m args below meth c H1 locs1 ls ⟨h.1, h.2.1, h.2.2.1, h.2.2.2.1, h.2.2.2.2.1, h.2.2.2.2.2.1, h.2.2.2.2.2.2.1, h.2.2.2.2.2.2.2.1, hP1, hD1, hS1, h.2.2.2.2.2.2.2.2.2.2.2.1, h.2.2.2.2.2.2.2.2.2.2.2.2.1, h.2.2.2.2.2.2.2.2.2.2.2.2.2⟩)
theorem a_putN2 {index q : Nat} {v : Value} {x : Int32} {host : String} (hd : decode cc pc = .ok (.putfield index, 3)) (k : Nat) (hk : k < 12) (hw : ∀ U, gN U → va_Nw (Cond.fieldLinkNest own index RX4 (TX4 k).2.1 (TX4 k).2.2.1 host) U) (hin : ∀ w ∈ u_ws RX4 TX4 12, w ∈ Ts) (hr : (TX4 k).1 = RX4) (hfin : (TX4 k).2.2.2 = false) (hnr : narrow (tyX4 k) v = v) (hfit : fits (tyX4 k) v = true) (hq : ob q 2) (hset : ∀ (f : Nat → Int32), (fl2 G q f).set k v = fl2 G q (fun j => if j = k then x else f j)) (kk : AW G E Z Ts own cc nL ret R ce sl (pc + 3) L rest (up M q k x)) : AW G E Z Ts own cc nL ret R ce sl pc L (v :: .ref (gA G q) :: rest) M := fun p e s m args below meth c H locs ls h => va_putN (ref := RX4) (C := RX4) (T := TX4) (N := 12) (ci := 2) (fs := fl2 G q (M q)) h.1 h.2.1 h.2.2.2.2.2.2.1 hin tyX4 tyX4_ok nmX4 h.2.2.2.2.2.1 h.2.2.2.2.2.2.2.1.1 h.2.2.2.2.2.2.2.2.1 h.2.2.2.2.2.2.2.2.2.1 h.2.2.2.2.2.2.2.2.2.2.1 q (by rw [WS_get hq.1, en2 hq.2]) rfl k hk (va_Nw.use rfl (hw _ h.2.2.2.2.2.2.2.1.2)) (fun x hx => by rw [hr] at hx; exact hx) hfin (tyX4_ok k hk) hnr hfit hk hd (fun H1 locs1 hP1 hD1 hS1 => by
  have e1 : (WS G M).set q (gA G q, .inr (2, (fl2 G q (M q)).set k v)) = WS G (up M q k x) := WS_set hq.1 (by rw [en2 hq.2, hset]; simp [up]) (fun q' hq' => up_p hq')
  rw [e1] at hP1 hD1
  exact kk p e s m args below meth c H1 locs1 ls ⟨h.1, h.2.1, h.2.2.1, h.2.2.2.1, h.2.2.2.2.1, h.2.2.2.2.2.1, h.2.2.2.2.2.2.1, h.2.2.2.2.2.2.2.1, hP1, hD1, hS1, h.2.2.2.2.2.2.2.2.2.2.2.1, h.2.2.2.2.2.2.2.2.2.2.2.2.1, h.2.2.2.2.2.2.2.2.2.2.2.2.2⟩)
theorem a_get3 {index q : Nat} {v : Value} (hd : decode cc pc = .ok (.getfield index, 3)) (k : Nat) (hk : k < 40) (hw : Cond.fieldLink own index RX5 (TX5 k).2.1 (TX5 k).2.2.1 ∈ Ts) (hin : ∀ w ∈ u_ws RX5 TX5 40, w ∈ Ts) (hr : (TX5 k).1 = RX5) (hq : ob q 3) (hv : (fl3 G q (M q))[k]? = some v) (kk : AW G E Z Ts own cc nL ret R ce sl (pc + 3) L (v :: rest) M) : AW G E Z Ts own cc nL ret R ce sl pc L (.ref (gA G q) :: rest) M := fun p e s m args below meth c H locs ls h => va_get (ref := RX5) (C := RX5) (T := TX5) (N := 40) (ci := 3) h.1 h.2.1 h.2.2.2.2.2.2.1 hin h.2.2.2.2.2.1 h.2.2.2.2.2.2.2.1.1 h.2.2.2.2.2.2.2.2.1 q (by rw [WS_get hq.1, en3 hq.2]) rfl k hk (h.2.2.2.2.2.2.1 _ hw) (fun x hx => by rw [hr] at hx; exact hx) hv hd (kk p e s m args below meth c H locs ls h)
theorem a_getN3 {index q : Nat} {v : Value} {host : String} (hd : decode cc pc = .ok (.getfield index, 3)) (k : Nat) (hk : k < 40) (hw : ∀ U, gN U → va_Nw (Cond.fieldLinkNest own index RX5 (TX5 k).2.1 (TX5 k).2.2.1 host) U) (hin : ∀ w ∈ u_ws RX5 TX5 40, w ∈ Ts) (hr : (TX5 k).1 = RX5) (hq : ob q 3) (hv : (fl3 G q (M q))[k]? = some v) (kk : AW G E Z Ts own cc nL ret R ce sl (pc + 3) L (v :: rest) M) : AW G E Z Ts own cc nL ret R ce sl pc L (.ref (gA G q) :: rest) M := fun p e s m args below meth c H locs ls h => va_getN (ref := RX5) (C := RX5) (T := TX5) (N := 40) (ci := 3) h.1 h.2.1 h.2.2.2.2.2.2.1 hin h.2.2.2.2.2.1 h.2.2.2.2.2.2.2.1.1 h.2.2.2.2.2.2.2.2.1 q (by rw [WS_get hq.1, en3 hq.2]) rfl k hk (va_Nw.use rfl (hw _ h.2.2.2.2.2.2.2.1.2)) (fun x hx => by rw [hr] at hx; exact hx) hv hd (kk p e s m args below meth c H locs ls h)
theorem a_put3 {index q : Nat} {v : Value} {x : Int32} (hd : decode cc pc = .ok (.putfield index, 3)) (k : Nat) (hk : k < 40) (hw : Cond.fieldLink own index RX5 (TX5 k).2.1 (TX5 k).2.2.1 ∈ Ts) (hin : ∀ w ∈ u_ws RX5 TX5 40, w ∈ Ts) (hr : (TX5 k).1 = RX5) (hfin : (TX5 k).2.2.2 = false) (hnr : narrow (tyX5 k) v = v) (hfit : fits (tyX5 k) v = true) (hq : ob q 3) (hset : ∀ (f : Nat → Int32), (fl3 G q f).set k v = fl3 G q (fun j => if j = k then x else f j)) (kk : AW G E Z Ts own cc nL ret R ce sl (pc + 3) L rest (up M q k x)) : AW G E Z Ts own cc nL ret R ce sl pc L (v :: .ref (gA G q) :: rest) M := fun p e s m args below meth c H locs ls h => va_put (ref := RX5) (C := RX5) (T := TX5) (N := 40) (ci := 3) (fs := fl3 G q (M q)) h.1 h.2.1 h.2.2.2.2.2.2.1 hin tyX5 tyX5_ok nmX5 h.2.2.2.2.2.1 h.2.2.2.2.2.2.2.1.1 h.2.2.2.2.2.2.2.2.1 h.2.2.2.2.2.2.2.2.2.1 h.2.2.2.2.2.2.2.2.2.2.1 q (by rw [WS_get hq.1, en3 hq.2]) rfl k hk (h.2.2.2.2.2.2.1 _ hw) (fun x hx => by rw [hr] at hx; exact hx) hfin (tyX5_ok k hk) hnr hfit hk hd (fun H1 locs1 hP1 hD1 hS1 => by
  have e1 : (WS G M).set q (gA G q, .inr (3, (fl3 G q (M q)).set k v)) = WS G (up M q k x) := WS_set hq.1 (by rw [en3 hq.2, hset]; simp [up]) (fun q' hq' => up_p hq')
  rw [e1] at hP1 hD1
  exact kk p e s m args below meth c H1 locs1 ls ⟨h.1, h.2.1, h.2.2.1, h.2.2.2.1, h.2.2.2.2.1, h.2.2.2.2.2.1, h.2.2.2.2.2.2.1, h.2.2.2.2.2.2.2.1, hP1, hD1, hS1, h.2.2.2.2.2.2.2.2.2.2.2.1, h.2.2.2.2.2.2.2.2.2.2.2.2.1, h.2.2.2.2.2.2.2.2.2.2.2.2.2⟩)
theorem a_putN3 {index q : Nat} {v : Value} {x : Int32} {host : String} (hd : decode cc pc = .ok (.putfield index, 3)) (k : Nat) (hk : k < 40) (hw : ∀ U, gN U → va_Nw (Cond.fieldLinkNest own index RX5 (TX5 k).2.1 (TX5 k).2.2.1 host) U) (hin : ∀ w ∈ u_ws RX5 TX5 40, w ∈ Ts) (hr : (TX5 k).1 = RX5) (hfin : (TX5 k).2.2.2 = false) (hnr : narrow (tyX5 k) v = v) (hfit : fits (tyX5 k) v = true) (hq : ob q 3) (hset : ∀ (f : Nat → Int32), (fl3 G q f).set k v = fl3 G q (fun j => if j = k then x else f j)) (kk : AW G E Z Ts own cc nL ret R ce sl (pc + 3) L rest (up M q k x)) : AW G E Z Ts own cc nL ret R ce sl pc L (v :: .ref (gA G q) :: rest) M := fun p e s m args below meth c H locs ls h => va_putN (ref := RX5) (C := RX5) (T := TX5) (N := 40) (ci := 3) (fs := fl3 G q (M q)) h.1 h.2.1 h.2.2.2.2.2.2.1 hin tyX5 tyX5_ok nmX5 h.2.2.2.2.2.1 h.2.2.2.2.2.2.2.1.1 h.2.2.2.2.2.2.2.2.1 h.2.2.2.2.2.2.2.2.2.1 h.2.2.2.2.2.2.2.2.2.2.1 q (by rw [WS_get hq.1, en3 hq.2]) rfl k hk (va_Nw.use rfl (hw _ h.2.2.2.2.2.2.2.1.2)) (fun x hx => by rw [hr] at hx; exact hx) hfin (tyX5_ok k hk) hnr hfit hk hd (fun H1 locs1 hP1 hD1 hS1 => by
  have e1 : (WS G M).set q (gA G q, .inr (3, (fl3 G q (M q)).set k v)) = WS G (up M q k x) := WS_set hq.1 (by rw [en3 hq.2, hset]; simp [up]) (fun q' hq' => up_p hq')
  rw [e1] at hP1 hD1
  exact kk p e s m args below meth c H1 locs1 ls ⟨h.1, h.2.1, h.2.2.1, h.2.2.2.1, h.2.2.2.2.1, h.2.2.2.2.2.1, h.2.2.2.2.2.2.1, h.2.2.2.2.2.2.2.1, hP1, hD1, hS1, h.2.2.2.2.2.2.2.2.2.2.2.1, h.2.2.2.2.2.2.2.2.2.2.2.2.1, h.2.2.2.2.2.2.2.2.2.2.2.2.2⟩)
theorem a_iald {q : Nat} {i : Int32} (hd : decode cc pc = .ok (.iaload, 1)) (hi : ib q i) (kk : AW G E Z Ts own cc nL ret R ce sl (pc + 1) L (.int (M q (ix i)) :: rest) M) : AW G E Z Ts own cc nL ret R ce sl pc L (.int i :: .ref (gA G q) :: rest) M := fun p e s m args below meth c H locs ls h => va_iald h.1 h.2.1 h.2.2.2.2.2.2.2.1.1 h.2.2.2.2.2.2.2.2.1 q 0 (by rw [WS_get hi.1.1, en4 hi.1.2]) rfl hi.2 hd (kk p e s m args below meth c H locs ls h)
theorem a_iast {q : Nat} {i x : Int32} (hd : decode cc pc = .ok (.iastore, 1)) (hi : ib q i) (kk : AW G E Z Ts own cc nL ret R ce sl (pc + 1) L rest (up M q (ix i) x)) : AW G E Z Ts own cc nL ret R ce sl pc L (.int x :: .int i :: .ref (gA G q) :: rest) M := fun p e s m args below meth c H locs ls h => va_iast h.1 h.2.1 h.2.2.2.2.2.2.2.1.1 h.2.2.2.2.2.2.2.2.1 h.2.2.2.2.2.2.2.2.2.1 h.2.2.2.2.2.2.2.2.2.2.1 q 0 (by rw [WS_get hi.1.1, en4 hi.1.2]) rfl hi.2 hd (fun H1 locs1 hP1 hD1 hS1 => by
  have e1 : (WS G M).set q (gA G q, .inl (gI G, ln q, .inl (upd (M q) (ix i) x))) = WS G (up M q (ix i) x) := WS_set hi.1.1 (by rw [en4 hi.1.2]; simp only [up, if_true]; rfl) (fun q' hq' => up_p hq')
  rw [e1] at hP1 hD1
  exact kk p e s m args below meth c H1 locs1 ls ⟨h.1, h.2.1, h.2.2.1, h.2.2.2.1, h.2.2.2.2.1, h.2.2.2.2.2.1, h.2.2.2.2.2.2.1, h.2.2.2.2.2.2.2.1, hP1, hD1, hS1, h.2.2.2.2.2.2.2.2.2.2.2.1, h.2.2.2.2.2.2.2.2.2.2.2.2.1, h.2.2.2.2.2.2.2.2.2.2.2.2.2⟩)
theorem a_alen {q : Nat} {v : Int32} (hd : decode cc pc = .ok (.arraylength, 1)) (hq : q < 84 ∧ kd q = 4) (hv : Int32.ofNat (ln q) = v) (kk : AW G E Z Ts own cc nL ret R ce sl (pc + 1) L (.int v :: rest) M) : AW G E Z Ts own cc nL ret R ce sl pc L (.ref (gA G q) :: rest) M := fun p e s m args below meth c H locs ls h => va_alen h.1 h.2.1 h.2.2.2.2.2.2.2.1.1 h.2.2.2.2.2.2.2.2.1 q 0 (by rw [WS_get hq.1, en4 hq.2]) rfl hv hd (kk p e s m args below meth c H locs ls h)
theorem a_aald {i : Int32} (hd : decode cc pc = .ok (.aaload, 1)) (hi : vp_in i 8) (kk : AW G E Z Ts own cc nL ret R ce sl (pc + 1) L (.ref (gA G (16 + 5 * ix i)) :: rest) M) : AW G E Z Ts own cc nL ret R ce sl pc L (.int i :: .ref (gA G 56) :: rest) M := fun p e s m args below meth c H locs ls h => va_aldq (f := fun j => some (gA G (16 + 5 * j))) h.1 h.2.1 h.2.2.2.2.2.2.2.1.1 h.2.2.2.2.2.2.2.2.1 56 1 (by rw [WS_get (by decide), en5 rfl]) rfl hi hd (kk p e s m args below meth c H locs ls h)
theorem a_iret {Q : Option Value → MM → Prop} {v : Int32} (hd : decode cc pc = .ok (.ireturn, 1)) (hq : Q (some (.int v)) M) : AW G E (MZ G Q) Ts own cc nL (some .int) R 0 0 pc L [.int v] M := fun p e s m args below meth c H locs ls h => W.iret h.1 h.2.1 h.2.2.1 (fun t ht hw => ⟨⟨_, M, rfl, hq, by rw [ht]; exact h.2.2.2.2.2.2.2.2.1, h.2.2.2.2.2.2.2.2.2.1⟩, h.2.2.2.2.2.2.2.2.2.2.1.F ht⟩) h.2.2.2.2.2.2.2.2.2.2.1.2.2 hd h.2.2.2.1
theorem a_zret {Q : Option Value → MM → Prop} {v : Int32} (hd : decode cc pc = .ok (.ireturn, 1)) (hv : bo v) (hq : Q (some (.int v)) M) : AW G E (MZ G Q) Ts own cc nL (some .boolean) R 0 0 pc L [.int v] M := fun p e s m args below meth c H locs ls h => W.zret h.1 h.2.1 h.2.2.1 (by rcases hv with rfl | rfl <;> rfl) (fun t ht hw => ⟨⟨_, M, rfl, hq, by rw [ht]; exact h.2.2.2.2.2.2.2.2.1, h.2.2.2.2.2.2.2.2.2.1⟩, h.2.2.2.2.2.2.2.2.2.2.1.F ht⟩) h.2.2.2.2.2.2.2.2.2.2.1.2.2 hd h.2.2.2.1
theorem a_lret {Q : Option Value → MM → Prop} {v : Int64} (hd : decode cc pc = .ok (.lreturn, 1)) (hq : Q (some (.long v)) M) : AW G E (MZ G Q) Ts own cc nL (some .long) R 0 0 pc L [.long v] M := fun p e s m args below meth c H locs ls h => W.lret h.1 h.2.1 h.2.2.1 (fun t ht hw => ⟨⟨_, M, rfl, hq, by rw [ht]; exact h.2.2.2.2.2.2.2.2.1, h.2.2.2.2.2.2.2.2.2.1⟩, h.2.2.2.2.2.2.2.2.2.2.1.F ht⟩) h.2.2.2.2.2.2.2.2.2.2.1.2.2 hd h.2.2.2.1
theorem a_vret {Q : Option Value → MM → Prop} (hd : decode cc pc = .ok (.return_, 1)) (hq : Q none M) : AW G E (MZ G Q) Ts own cc nL none R 0 0 pc L [] M := fun p e s m args below meth c H locs ls h => W.vret h.1 h.2.1 h.2.2.1 (fun t ht hw => ⟨⟨_, M, rfl, hq, by rw [ht]; exact h.2.2.2.2.2.2.2.2.1, h.2.2.2.2.2.2.2.2.2.1⟩, h.2.2.2.2.2.2.2.2.2.2.1.F ht⟩) h.2.2.2.2.2.2.2.2.2.2.1.2.2 hd h.2.2.2.1
theorem a_aret {Q : Option Value → MM → Prop} {q : Nat} {C : String} (hd : decode cc pc = .ok (.areturn, 1)) (hq : Q (some (.ref (gA G q))) M) : AW G E (MZ G Q) Ts own cc nL (some (.object C)) R 0 0 pc L [.ref (gA G q)] M := fun p e s m args below meth c H locs ls h => W.aret h.1 h.2.1 h.2.2.1 (Or.inl ⟨_, rfl⟩) (Or.inr ⟨_, rfl⟩) (fun t ht hw => ⟨⟨_, M, rfl, hq, by rw [ht]; exact h.2.2.2.2.2.2.2.2.1, h.2.2.2.2.2.2.2.2.2.1⟩, h.2.2.2.2.2.2.2.2.2.2.1.F ht⟩) h.2.2.2.2.2.2.2.2.2.2.1.2.2 hd h.2.2.2.1
theorem a_sub {L' : List (Nat × Value)} (ks : List Nat) (hl : lv_pick L ks = L') (kk : AW G E Z Ts own cc nL ret R ce sl pc L' rest M) : AW G E Z Ts own cc nL ret R ce sl pc L rest M := fun p e s m args below meth c H locs ls h => kk p e s m args below meth c H locs ls ⟨h.1, h.2.1, h.2.2.1, h.2.2.2.1, h.2.2.2.2.1, h.2.2.2.2.2.1, h.2.2.2.2.2.2.1, h.2.2.2.2.2.2.2.1, h.2.2.2.2.2.2.2.2.1, h.2.2.2.2.2.2.2.2.2.1, h.2.2.2.2.2.2.2.2.2.2.1, h.2.2.2.2.2.2.2.2.2.2.2.1, h.2.2.2.2.2.2.2.2.2.2.2.2.1, lv_sub h.2.2.2.2.2.2.2.2.2.2.2.2.2 ks hl⟩
theorem a_mmax {index : Nat} {x y : Int32} (hd : decode cc pc = .ok (.invokestatic index, 3)) (w1 : Cond.methodLink own index Lib.Math.max.name ∈ Ts) (w2 : Cond.static Lib.Math.max.name ∈ Ts) (w3 : Cond.initialized "java/lang/Math" ∈ Ts) (w4 : Cond.code Lib.Math.max.name Lib.Math.max.code 2 (some .int) ∈ Ts) (hf : 1 ≤ R.frames) (hlo : (rest.map fun v => v.category).sum + 13 ≤ R.locals) (hc : ce ≤ R.cells) (hs : sl ≤ R.slots) (kk : AW G E Z Ts own cc nL ret R ce sl (pc + 3) L (.int (if x < y then y else x) :: rest) M) : AW G E Z Ts own cc nL ret R ce sl pc L (.int y :: .int x :: rest) M := fun p e s m args below meth c H locs ls h => va_mmax h.1 h.2.1 (h.2.2.2.2.1.trans h.2.2.2.2.2.2.2.2.2.2.2.2.2.1.symm) h.2.2.2.2.2.1 (h.2.2.2.2.2.2.1 _ w1) (h.2.2.2.2.2.2.1 _ w2) (h.2.2.2.2.2.2.1 _ w3) (h.2.2.2.2.2.2.1 _ w4) hf hlo hc hs hd (kk p e s m args below meth c H locs ls h)
theorem a_mmin {index : Nat} {x y : Int32} (hd : decode cc pc = .ok (.invokestatic index, 3)) (w1 : Cond.methodLink own index Lib.Math.min.name ∈ Ts) (w2 : Cond.static Lib.Math.min.name ∈ Ts) (w3 : Cond.initialized "java/lang/Math" ∈ Ts) (w4 : Cond.code Lib.Math.min.name Lib.Math.min.code 2 (some .int) ∈ Ts) (hf : 1 ≤ R.frames) (hlo : (rest.map fun v => v.category).sum + 13 ≤ R.locals) (hc : ce ≤ R.cells) (hs : sl ≤ R.slots) (kk : AW G E Z Ts own cc nL ret R ce sl (pc + 3) L (.int (if y < x then y else x) :: rest) M) : AW G E Z Ts own cc nL ret R ce sl pc L (.int y :: .int x :: rest) M := fun p e s m args below meth c H locs ls h => va_mmin h.1 h.2.1 (h.2.2.2.2.1.trans h.2.2.2.2.2.2.2.2.2.2.2.2.2.1.symm) h.2.2.2.2.2.1 (h.2.2.2.2.2.2.1 _ w1) (h.2.2.2.2.2.2.1 _ w2) (h.2.2.2.2.2.2.1 _ w3) (h.2.2.2.2.2.2.1 _ w4) hf hlo hc hs hd (kk p e s m args below meth c H locs ls h)
theorem a_mabs {index : Nat} {x : Int32} (hd : decode cc pc = .ok (.invokestatic index, 3)) (w1 : Cond.methodLink own index Lib.Math.abs.name ∈ Ts) (w2 : Cond.static Lib.Math.abs.name ∈ Ts) (w3 : Cond.initialized "java/lang/Math" ∈ Ts) (w4 : Cond.code Lib.Math.abs.name Lib.Math.abs.code 1 (some .int) ∈ Ts) (hf : 1 ≤ R.frames) (hlo : (rest.map fun v => v.category).sum + 13 ≤ R.locals) (hc : ce ≤ R.cells) (hs : sl ≤ R.slots) (kk : AW G E Z Ts own cc nL ret R ce sl (pc + 3) L (.int (if 0 ≤ x then x else 0 - x) :: rest) M) : AW G E Z Ts own cc nL ret R ce sl pc L (.int x :: rest) M := fun p e s m args below meth c H locs ls h => va_mabs h.1 h.2.1 (h.2.2.2.2.1.trans h.2.2.2.2.2.2.2.2.2.2.2.2.2.1.symm) h.2.2.2.2.2.1 (h.2.2.2.2.2.2.1 _ w1) (h.2.2.2.2.2.2.1 _ w2) (h.2.2.2.2.2.2.1 _ w3) (h.2.2.2.2.2.2.1 _ w4) hf hlo hc hs hd (kk p e s m args below meth c H locs ls h)
theorem a_callVi {y : MethodName} {ws ws' : List Cond} {fr lo n index nLc : Nat} {cb : ByteArray} {rt : Option FieldType} {q : Nat} {Q2 : Int32 → MM → Prop} {st : List Value} (As : List Value) {C : String} {ci : Nat} {qc : vw_C} {fsF : (Nat → Int32) → List Value} (hq84 : q < 84) (hrc : ∀ f, en G q f = .inr (ci, fsF f)) (hvc : vwCl[ci]? = some qc) (hqc : qc.1 = C) (hd : decode cc pc = .ok (.invokevirtual index, 3)) (hC : CM G y ws fr lo (.ref (gA G q) :: As) M (qI Q2)) (hG : GoodIn Ts (wsV own index C y ws)) (hw : ws = Cond.code y cb nLc rt :: ws') (hdd : y.cls = C ∧ y.cls ≠ "java/lang/invoke/MethodHandle" ∧ y.cls ≠ "java/lang/invoke/VarHandle" ∧ (parseMethodDescriptor y.desc).map (fun d => d.parameters.length) = some n) (hR : fr + 1 ≤ R.frames ∧ 8 + (nLc + 11) + lo ≤ R.locals) (hn : As.length = n) (hst : st = As.reverse ++ .ref (gA G q) :: rest) (hr8 : (rest.map fun v => v.category).sum ≤ 8) (hcs : ce ≤ R.cells ∧ sl ≤ R.slots) (kk : ∀ (r : Int32) (M1 : MM), Q2 r M1 → AW G E Z Ts own cc nL ret R ce sl (pc + 3) L (.int r :: rest) M1) : AW G E Z Ts own cc nL ret R ce sl pc L st M := by
  intro p e s m args below meth c H locs ls h
  refine am_call (G := G) (Q := qI Q2) (mc := 0) (ms := 0) (rest := rest) (va_runV (As := As) (rest := rest) ⟨h.1, h.2.1, h.2.2.2.2.1, h.2.2.2.2.2.1, h.2.2.2.2.2.2.1⟩ hC (cwV n h.2.2.2.2.2.2.1 hG hw rfl rfl hdd hR) ⟨(fun a U g mk q => by obtain ⟨q0, q1, q2, q3, q4⟩ := q; exact ⟨q0, q1, ⟨va_K.moved (u := U) (U := U.calling g mk a) (Vm.Alike.refl U.vm) q2.1, gN.same (s := U) (U := U.calling g mk a) rfl q2.2⟩, q3, q4⟩), hqc ▸ va_recv h.2.2.2.2.2.2.2.1.1 h.2.2.2.2.2.2.2.2.1 (q0 := q) hvc (by rw [WS_get hq84, hrc]), (fun U hU hW => ⟨rfl, by rw [hU]; exact Nat.le_trans h.2.2.2.2.2.2.2.2.2.2.2.1 h.2.2.2.2.2.2.2.2.2.2.1.1, ⟨va_K.moved hW.alike h.2.2.2.2.2.2.2.1.1, gN.moved hW h.2.2.2.2.2.2.2.1.2⟩, by rw [hU]; exact h.2.2.2.2.2.2.2.2.1, h.2.2.2.2.2.2.2.2.2.1⟩)⟩ rfl hn h.2.2.2.2.2.2.2.2.2.2.2.2.2.1 hst (lv_room hr8) hd hcs) h.2.2.2.2.2.2.2.2.2.2.1 (fun v M1 H1 locs1 hq1 hP1 hD1 hS1 => ?_)
  obtain ⟨r, rfl, hq2⟩ := hq1
  exact kk r M1 hq2 p e s m args below meth c H1 locs1 ls ⟨h.1, h.2.1, h.2.2.1, h.2.2.2.1, h.2.2.2.2.1, h.2.2.2.2.2.1, h.2.2.2.2.2.2.1, h.2.2.2.2.2.2.2.1, hP1, hD1, hS1, h.2.2.2.2.2.2.2.2.2.2.2.1, h.2.2.2.2.2.2.2.2.2.2.2.2.1, h.2.2.2.2.2.2.2.2.2.2.2.2.2⟩
theorem a_callVl {y : MethodName} {ws ws' : List Cond} {fr lo n index nLc : Nat} {cb : ByteArray} {rt : Option FieldType} {q : Nat} {Q2 : Int64 → MM → Prop} {st : List Value} (As : List Value) {C : String} {ci : Nat} {qc : vw_C} {fsF : (Nat → Int32) → List Value} (hq84 : q < 84) (hrc : ∀ f, en G q f = .inr (ci, fsF f)) (hvc : vwCl[ci]? = some qc) (hqc : qc.1 = C) (hd : decode cc pc = .ok (.invokevirtual index, 3)) (hC : CM G y ws fr lo (.ref (gA G q) :: As) M (qL Q2)) (hG : GoodIn Ts (wsV own index C y ws)) (hw : ws = Cond.code y cb nLc rt :: ws') (hdd : y.cls = C ∧ y.cls ≠ "java/lang/invoke/MethodHandle" ∧ y.cls ≠ "java/lang/invoke/VarHandle" ∧ (parseMethodDescriptor y.desc).map (fun d => d.parameters.length) = some n) (hR : fr + 1 ≤ R.frames ∧ 8 + (nLc + 11) + lo ≤ R.locals) (hn : As.length = n) (hst : st = As.reverse ++ .ref (gA G q) :: rest) (hr8 : (rest.map fun v => v.category).sum ≤ 8) (hcs : ce ≤ R.cells ∧ sl ≤ R.slots) (kk : ∀ (r : Int64) (M1 : MM), Q2 r M1 → AW G E Z Ts own cc nL ret R ce sl (pc + 3) L (.long r :: rest) M1) : AW G E Z Ts own cc nL ret R ce sl pc L st M := by
  intro p e s m args below meth c H locs ls h
  refine am_call (G := G) (Q := qL Q2) (mc := 0) (ms := 0) (rest := rest) (va_runV (As := As) (rest := rest) ⟨h.1, h.2.1, h.2.2.2.2.1, h.2.2.2.2.2.1, h.2.2.2.2.2.2.1⟩ hC (cwV n h.2.2.2.2.2.2.1 hG hw rfl rfl hdd hR) ⟨(fun a U g mk q => by obtain ⟨q0, q1, q2, q3, q4⟩ := q; exact ⟨q0, q1, ⟨va_K.moved (u := U) (U := U.calling g mk a) (Vm.Alike.refl U.vm) q2.1, gN.same (s := U) (U := U.calling g mk a) rfl q2.2⟩, q3, q4⟩), hqc ▸ va_recv h.2.2.2.2.2.2.2.1.1 h.2.2.2.2.2.2.2.2.1 (q0 := q) hvc (by rw [WS_get hq84, hrc]), (fun U hU hW => ⟨rfl, by rw [hU]; exact Nat.le_trans h.2.2.2.2.2.2.2.2.2.2.2.1 h.2.2.2.2.2.2.2.2.2.2.1.1, ⟨va_K.moved hW.alike h.2.2.2.2.2.2.2.1.1, gN.moved hW h.2.2.2.2.2.2.2.1.2⟩, by rw [hU]; exact h.2.2.2.2.2.2.2.2.1, h.2.2.2.2.2.2.2.2.2.1⟩)⟩ rfl hn h.2.2.2.2.2.2.2.2.2.2.2.2.2.1 hst (lv_room hr8) hd hcs) h.2.2.2.2.2.2.2.2.2.2.1 (fun v M1 H1 locs1 hq1 hP1 hD1 hS1 => ?_)
  obtain ⟨r, rfl, hq2⟩ := hq1
  exact kk r M1 hq2 p e s m args below meth c H1 locs1 ls ⟨h.1, h.2.1, h.2.2.1, h.2.2.2.1, h.2.2.2.2.1, h.2.2.2.2.2.1, h.2.2.2.2.2.2.1, h.2.2.2.2.2.2.2.1, hP1, hD1, hS1, h.2.2.2.2.2.2.2.2.2.2.2.1, h.2.2.2.2.2.2.2.2.2.2.2.2.1, h.2.2.2.2.2.2.2.2.2.2.2.2.2⟩
theorem a_callVv {y : MethodName} {ws ws' : List Cond} {fr lo n index nLc : Nat} {cb : ByteArray} {rt : Option FieldType} {q : Nat} {Q2 : MM → Prop} {st : List Value} (As : List Value) {C : String} {ci : Nat} {qc : vw_C} {fsF : (Nat → Int32) → List Value} (hq84 : q < 84) (hrc : ∀ f, en G q f = .inr (ci, fsF f)) (hvc : vwCl[ci]? = some qc) (hqc : qc.1 = C) (hd : decode cc pc = .ok (.invokevirtual index, 3)) (hC : CM G y ws fr lo (.ref (gA G q) :: As) M (qV Q2)) (hG : GoodIn Ts (wsV own index C y ws)) (hw : ws = Cond.code y cb nLc rt :: ws') (hdd : y.cls = C ∧ y.cls ≠ "java/lang/invoke/MethodHandle" ∧ y.cls ≠ "java/lang/invoke/VarHandle" ∧ (parseMethodDescriptor y.desc).map (fun d => d.parameters.length) = some n) (hR : fr + 1 ≤ R.frames ∧ 8 + (nLc + 11) + lo ≤ R.locals) (hn : As.length = n) (hst : st = As.reverse ++ .ref (gA G q) :: rest) (hr8 : (rest.map fun v => v.category).sum ≤ 8) (hcs : ce ≤ R.cells ∧ sl ≤ R.slots) (kk : ∀ (M1 : MM), Q2 M1 → AW G E Z Ts own cc nL ret R ce sl (pc + 3) L rest M1) : AW G E Z Ts own cc nL ret R ce sl pc L st M := by
  intro p e s m args below meth c H locs ls h
  refine am_call (G := G) (Q := qV Q2) (mc := 0) (ms := 0) (rest := rest) (va_runV (As := As) (rest := rest) ⟨h.1, h.2.1, h.2.2.2.2.1, h.2.2.2.2.2.1, h.2.2.2.2.2.2.1⟩ hC (cwV n h.2.2.2.2.2.2.1 hG hw rfl rfl hdd hR) ⟨(fun a U g mk q => by obtain ⟨q0, q1, q2, q3, q4⟩ := q; exact ⟨q0, q1, ⟨va_K.moved (u := U) (U := U.calling g mk a) (Vm.Alike.refl U.vm) q2.1, gN.same (s := U) (U := U.calling g mk a) rfl q2.2⟩, q3, q4⟩), hqc ▸ va_recv h.2.2.2.2.2.2.2.1.1 h.2.2.2.2.2.2.2.2.1 (q0 := q) hvc (by rw [WS_get hq84, hrc]), (fun U hU hW => ⟨rfl, by rw [hU]; exact Nat.le_trans h.2.2.2.2.2.2.2.2.2.2.2.1 h.2.2.2.2.2.2.2.2.2.2.1.1, ⟨va_K.moved hW.alike h.2.2.2.2.2.2.2.1.1, gN.moved hW h.2.2.2.2.2.2.2.1.2⟩, by rw [hU]; exact h.2.2.2.2.2.2.2.2.1, h.2.2.2.2.2.2.2.2.2.1⟩)⟩ rfl hn h.2.2.2.2.2.2.2.2.2.2.2.2.2.1 hst (lv_room hr8) hd hcs) h.2.2.2.2.2.2.2.2.2.2.1 (fun v M1 H1 locs1 hq1 hP1 hD1 hS1 => ?_)
  obtain ⟨rfl, hq2⟩ := hq1
  exact kk M1 hq2 p e s m args below meth c H1 locs1 ls ⟨h.1, h.2.1, h.2.2.1, h.2.2.2.1, h.2.2.2.2.1, h.2.2.2.2.2.1, h.2.2.2.2.2.2.1, h.2.2.2.2.2.2.2.1, hP1, hD1, hS1, h.2.2.2.2.2.2.2.2.2.2.2.1, h.2.2.2.2.2.2.2.2.2.2.2.2.1, h.2.2.2.2.2.2.2.2.2.2.2.2.2⟩
theorem a_callVr {y : MethodName} {ws ws' : List Cond} {fr lo n index nLc : Nat} {cb : ByteArray} {rt : Option FieldType} {q : Nat} {Q2 : Nat → MM → Prop} {st : List Value} (As : List Value) {C : String} {ci : Nat} {qc : vw_C} {fsF : (Nat → Int32) → List Value} (hq84 : q < 84) (hrc : ∀ f, en G q f = .inr (ci, fsF f)) (hvc : vwCl[ci]? = some qc) (hqc : qc.1 = C) (hd : decode cc pc = .ok (.invokevirtual index, 3)) (hC : CM G y ws fr lo (.ref (gA G q) :: As) M (qR G Q2)) (hG : GoodIn Ts (wsV own index C y ws)) (hw : ws = Cond.code y cb nLc rt :: ws') (hdd : y.cls = C ∧ y.cls ≠ "java/lang/invoke/MethodHandle" ∧ y.cls ≠ "java/lang/invoke/VarHandle" ∧ (parseMethodDescriptor y.desc).map (fun d => d.parameters.length) = some n) (hR : fr + 1 ≤ R.frames ∧ 8 + (nLc + 11) + lo ≤ R.locals) (hn : As.length = n) (hst : st = As.reverse ++ .ref (gA G q) :: rest) (hr8 : (rest.map fun v => v.category).sum ≤ 8) (hcs : ce ≤ R.cells ∧ sl ≤ R.slots) (kk : ∀ (r : Nat) (M1 : MM), Q2 r M1 → AW G E Z Ts own cc nL ret R ce sl (pc + 3) L (.ref (gA G r) :: rest) M1) : AW G E Z Ts own cc nL ret R ce sl pc L st M := by
  intro p e s m args below meth c H locs ls h
  refine am_call (G := G) (Q := qR G Q2) (mc := 0) (ms := 0) (rest := rest) (va_runV (As := As) (rest := rest) ⟨h.1, h.2.1, h.2.2.2.2.1, h.2.2.2.2.2.1, h.2.2.2.2.2.2.1⟩ hC (cwV n h.2.2.2.2.2.2.1 hG hw rfl rfl hdd hR) ⟨(fun a U g mk q => by obtain ⟨q0, q1, q2, q3, q4⟩ := q; exact ⟨q0, q1, ⟨va_K.moved (u := U) (U := U.calling g mk a) (Vm.Alike.refl U.vm) q2.1, gN.same (s := U) (U := U.calling g mk a) rfl q2.2⟩, q3, q4⟩), hqc ▸ va_recv h.2.2.2.2.2.2.2.1.1 h.2.2.2.2.2.2.2.2.1 (q0 := q) hvc (by rw [WS_get hq84, hrc]), (fun U hU hW => ⟨rfl, by rw [hU]; exact Nat.le_trans h.2.2.2.2.2.2.2.2.2.2.2.1 h.2.2.2.2.2.2.2.2.2.2.1.1, ⟨va_K.moved hW.alike h.2.2.2.2.2.2.2.1.1, gN.moved hW h.2.2.2.2.2.2.2.1.2⟩, by rw [hU]; exact h.2.2.2.2.2.2.2.2.1, h.2.2.2.2.2.2.2.2.2.1⟩)⟩ rfl hn h.2.2.2.2.2.2.2.2.2.2.2.2.2.1 hst (lv_room hr8) hd hcs) h.2.2.2.2.2.2.2.2.2.2.1 (fun v M1 H1 locs1 hq1 hP1 hD1 hS1 => ?_)
  obtain ⟨r, rfl, hq2⟩ := hq1
  exact kk r M1 hq2 p e s m args below meth c H1 locs1 ls ⟨h.1, h.2.1, h.2.2.1, h.2.2.2.1, h.2.2.2.2.1, h.2.2.2.2.2.1, h.2.2.2.2.2.2.1, h.2.2.2.2.2.2.2.1, hP1, hD1, hS1, h.2.2.2.2.2.2.2.2.2.2.2.1, h.2.2.2.2.2.2.2.2.2.2.2.2.1, h.2.2.2.2.2.2.2.2.2.2.2.2.2⟩
theorem a_callSi {y : MethodName} {ws ws' : List Cond} {fr lo n index nLc : Nat} {cb : ByteArray} {rt : Option FieldType} {Q2 : Int32 → MM → Prop} {st : List Value} (As : List Value) (hd : decode cc pc = .ok (.invokestatic index, 3)) (hC : CM G y ws fr lo As M (qI Q2)) (hG : GoodIn Ts (va_wsS own index y ws)) (hw : ws = Cond.code y cb nLc rt :: ws') (hdd : y.cls ≠ "java/lang/invoke/MethodHandle" ∧ y.cls ≠ "java/lang/invoke/VarHandle" ∧ (parseMethodDescriptor y.desc).map (fun d => d.parameters.length) = some n) (hR : fr + 1 ≤ R.frames ∧ 8 + (nLc + 11) + lo ≤ R.locals) (hn : As.length = n) (hst : st = As.reverse ++ rest) (hr8 : (rest.map fun v => v.category).sum ≤ 8) (hcs : ce ≤ R.cells ∧ sl ≤ R.slots) (kk : ∀ (r : Int32) (M1 : MM), Q2 r M1 → AW G E Z Ts own cc nL ret R ce sl (pc + 3) L (.int r :: rest) M1) : AW G E Z Ts own cc nL ret R ce sl pc L st M := by
  intro p e s m args below meth c H locs ls h
  refine am_call (G := G) (Q := qI Q2) (mc := 0) (ms := 0) (rest := rest) (va_runS (As := As) (rest := rest) ⟨h.1, h.2.1, h.2.2.2.2.1, h.2.2.2.2.2.1, h.2.2.2.2.2.2.1⟩ hC (va_cwS n h.2.2.2.2.2.2.1 hG hw rfl rfl hdd hR) ⟨(fun a U g mk q => by obtain ⟨q0, q1, q2, q3, q4⟩ := q; exact ⟨q0, q1, ⟨va_K.moved (u := U) (U := U.calling g mk a) (Vm.Alike.refl U.vm) q2.1, gN.same (s := U) (U := U.calling g mk a) rfl q2.2⟩, q3, q4⟩), (fun U hU hW => ⟨rfl, by rw [hU]; exact Nat.le_trans h.2.2.2.2.2.2.2.2.2.2.2.1 h.2.2.2.2.2.2.2.2.2.2.1.1, ⟨va_K.moved hW.alike h.2.2.2.2.2.2.2.1.1, gN.moved hW h.2.2.2.2.2.2.2.1.2⟩, by rw [hU]; exact h.2.2.2.2.2.2.2.2.1, h.2.2.2.2.2.2.2.2.2.1⟩)⟩ rfl hn h.2.2.2.2.2.2.2.2.2.2.2.2.2.1 hst (lv_room hr8) hd hcs) h.2.2.2.2.2.2.2.2.2.2.1 (fun v M1 H1 locs1 hq1 hP1 hD1 hS1 => ?_)
  obtain ⟨r, rfl, hq2⟩ := hq1
  exact kk r M1 hq2 p e s m args below meth c H1 locs1 ls ⟨h.1, h.2.1, h.2.2.1, h.2.2.2.1, h.2.2.2.2.1, h.2.2.2.2.2.1, h.2.2.2.2.2.2.1, h.2.2.2.2.2.2.2.1, hP1, hD1, hS1, h.2.2.2.2.2.2.2.2.2.2.2.1, h.2.2.2.2.2.2.2.2.2.2.2.2.1, h.2.2.2.2.2.2.2.2.2.2.2.2.2⟩
theorem a_callSl {y : MethodName} {ws ws' : List Cond} {fr lo n index nLc : Nat} {cb : ByteArray} {rt : Option FieldType} {Q2 : Int64 → MM → Prop} {st : List Value} (As : List Value) (hd : decode cc pc = .ok (.invokestatic index, 3)) (hC : CM G y ws fr lo As M (qL Q2)) (hG : GoodIn Ts (va_wsS own index y ws)) (hw : ws = Cond.code y cb nLc rt :: ws') (hdd : y.cls ≠ "java/lang/invoke/MethodHandle" ∧ y.cls ≠ "java/lang/invoke/VarHandle" ∧ (parseMethodDescriptor y.desc).map (fun d => d.parameters.length) = some n) (hR : fr + 1 ≤ R.frames ∧ 8 + (nLc + 11) + lo ≤ R.locals) (hn : As.length = n) (hst : st = As.reverse ++ rest) (hr8 : (rest.map fun v => v.category).sum ≤ 8) (hcs : ce ≤ R.cells ∧ sl ≤ R.slots) (kk : ∀ (r : Int64) (M1 : MM), Q2 r M1 → AW G E Z Ts own cc nL ret R ce sl (pc + 3) L (.long r :: rest) M1) : AW G E Z Ts own cc nL ret R ce sl pc L st M := by
  intro p e s m args below meth c H locs ls h
  refine am_call (G := G) (Q := qL Q2) (mc := 0) (ms := 0) (rest := rest) (va_runS (As := As) (rest := rest) ⟨h.1, h.2.1, h.2.2.2.2.1, h.2.2.2.2.2.1, h.2.2.2.2.2.2.1⟩ hC (va_cwS n h.2.2.2.2.2.2.1 hG hw rfl rfl hdd hR) ⟨(fun a U g mk q => by obtain ⟨q0, q1, q2, q3, q4⟩ := q; exact ⟨q0, q1, ⟨va_K.moved (u := U) (U := U.calling g mk a) (Vm.Alike.refl U.vm) q2.1, gN.same (s := U) (U := U.calling g mk a) rfl q2.2⟩, q3, q4⟩), (fun U hU hW => ⟨rfl, by rw [hU]; exact Nat.le_trans h.2.2.2.2.2.2.2.2.2.2.2.1 h.2.2.2.2.2.2.2.2.2.2.1.1, ⟨va_K.moved hW.alike h.2.2.2.2.2.2.2.1.1, gN.moved hW h.2.2.2.2.2.2.2.1.2⟩, by rw [hU]; exact h.2.2.2.2.2.2.2.2.1, h.2.2.2.2.2.2.2.2.2.1⟩)⟩ rfl hn h.2.2.2.2.2.2.2.2.2.2.2.2.2.1 hst (lv_room hr8) hd hcs) h.2.2.2.2.2.2.2.2.2.2.1 (fun v M1 H1 locs1 hq1 hP1 hD1 hS1 => ?_)
  obtain ⟨r, rfl, hq2⟩ := hq1
  exact kk r M1 hq2 p e s m args below meth c H1 locs1 ls ⟨h.1, h.2.1, h.2.2.1, h.2.2.2.1, h.2.2.2.2.1, h.2.2.2.2.2.1, h.2.2.2.2.2.2.1, h.2.2.2.2.2.2.2.1, hP1, hD1, hS1, h.2.2.2.2.2.2.2.2.2.2.2.1, h.2.2.2.2.2.2.2.2.2.2.2.2.1, h.2.2.2.2.2.2.2.2.2.2.2.2.2⟩
theorem a_callSv {y : MethodName} {ws ws' : List Cond} {fr lo n index nLc : Nat} {cb : ByteArray} {rt : Option FieldType} {Q2 : MM → Prop} {st : List Value} (As : List Value) (hd : decode cc pc = .ok (.invokestatic index, 3)) (hC : CM G y ws fr lo As M (qV Q2)) (hG : GoodIn Ts (va_wsS own index y ws)) (hw : ws = Cond.code y cb nLc rt :: ws') (hdd : y.cls ≠ "java/lang/invoke/MethodHandle" ∧ y.cls ≠ "java/lang/invoke/VarHandle" ∧ (parseMethodDescriptor y.desc).map (fun d => d.parameters.length) = some n) (hR : fr + 1 ≤ R.frames ∧ 8 + (nLc + 11) + lo ≤ R.locals) (hn : As.length = n) (hst : st = As.reverse ++ rest) (hr8 : (rest.map fun v => v.category).sum ≤ 8) (hcs : ce ≤ R.cells ∧ sl ≤ R.slots) (kk : ∀ (M1 : MM), Q2 M1 → AW G E Z Ts own cc nL ret R ce sl (pc + 3) L rest M1) : AW G E Z Ts own cc nL ret R ce sl pc L st M := by
  intro p e s m args below meth c H locs ls h
  refine am_call (G := G) (Q := qV Q2) (mc := 0) (ms := 0) (rest := rest) (va_runS (As := As) (rest := rest) ⟨h.1, h.2.1, h.2.2.2.2.1, h.2.2.2.2.2.1, h.2.2.2.2.2.2.1⟩ hC (va_cwS n h.2.2.2.2.2.2.1 hG hw rfl rfl hdd hR) ⟨(fun a U g mk q => by obtain ⟨q0, q1, q2, q3, q4⟩ := q; exact ⟨q0, q1, ⟨va_K.moved (u := U) (U := U.calling g mk a) (Vm.Alike.refl U.vm) q2.1, gN.same (s := U) (U := U.calling g mk a) rfl q2.2⟩, q3, q4⟩), (fun U hU hW => ⟨rfl, by rw [hU]; exact Nat.le_trans h.2.2.2.2.2.2.2.2.2.2.2.1 h.2.2.2.2.2.2.2.2.2.2.1.1, ⟨va_K.moved hW.alike h.2.2.2.2.2.2.2.1.1, gN.moved hW h.2.2.2.2.2.2.2.1.2⟩, by rw [hU]; exact h.2.2.2.2.2.2.2.2.1, h.2.2.2.2.2.2.2.2.2.1⟩)⟩ rfl hn h.2.2.2.2.2.2.2.2.2.2.2.2.2.1 hst (lv_room hr8) hd hcs) h.2.2.2.2.2.2.2.2.2.2.1 (fun v M1 H1 locs1 hq1 hP1 hD1 hS1 => ?_)
  obtain ⟨rfl, hq2⟩ := hq1
  exact kk M1 hq2 p e s m args below meth c H1 locs1 ls ⟨h.1, h.2.1, h.2.2.1, h.2.2.2.1, h.2.2.2.2.1, h.2.2.2.2.2.1, h.2.2.2.2.2.2.1, h.2.2.2.2.2.2.2.1, hP1, hD1, hS1, h.2.2.2.2.2.2.2.2.2.2.2.1, h.2.2.2.2.2.2.2.2.2.2.2.2.1, h.2.2.2.2.2.2.2.2.2.2.2.2.2⟩
theorem a_callSr {y : MethodName} {ws ws' : List Cond} {fr lo n index nLc : Nat} {cb : ByteArray} {rt : Option FieldType} {Q2 : Nat → MM → Prop} {st : List Value} (As : List Value) (hd : decode cc pc = .ok (.invokestatic index, 3)) (hC : CM G y ws fr lo As M (qR G Q2)) (hG : GoodIn Ts (va_wsS own index y ws)) (hw : ws = Cond.code y cb nLc rt :: ws') (hdd : y.cls ≠ "java/lang/invoke/MethodHandle" ∧ y.cls ≠ "java/lang/invoke/VarHandle" ∧ (parseMethodDescriptor y.desc).map (fun d => d.parameters.length) = some n) (hR : fr + 1 ≤ R.frames ∧ 8 + (nLc + 11) + lo ≤ R.locals) (hn : As.length = n) (hst : st = As.reverse ++ rest) (hr8 : (rest.map fun v => v.category).sum ≤ 8) (hcs : ce ≤ R.cells ∧ sl ≤ R.slots) (kk : ∀ (r : Nat) (M1 : MM), Q2 r M1 → AW G E Z Ts own cc nL ret R ce sl (pc + 3) L (.ref (gA G r) :: rest) M1) : AW G E Z Ts own cc nL ret R ce sl pc L st M := by
  intro p e s m args below meth c H locs ls h
  refine am_call (G := G) (Q := qR G Q2) (mc := 0) (ms := 0) (rest := rest) (va_runS (As := As) (rest := rest) ⟨h.1, h.2.1, h.2.2.2.2.1, h.2.2.2.2.2.1, h.2.2.2.2.2.2.1⟩ hC (va_cwS n h.2.2.2.2.2.2.1 hG hw rfl rfl hdd hR) ⟨(fun a U g mk q => by obtain ⟨q0, q1, q2, q3, q4⟩ := q; exact ⟨q0, q1, ⟨va_K.moved (u := U) (U := U.calling g mk a) (Vm.Alike.refl U.vm) q2.1, gN.same (s := U) (U := U.calling g mk a) rfl q2.2⟩, q3, q4⟩), (fun U hU hW => ⟨rfl, by rw [hU]; exact Nat.le_trans h.2.2.2.2.2.2.2.2.2.2.2.1 h.2.2.2.2.2.2.2.2.2.2.1.1, ⟨va_K.moved hW.alike h.2.2.2.2.2.2.2.1.1, gN.moved hW h.2.2.2.2.2.2.2.1.2⟩, by rw [hU]; exact h.2.2.2.2.2.2.2.2.1, h.2.2.2.2.2.2.2.2.2.1⟩)⟩ rfl hn h.2.2.2.2.2.2.2.2.2.2.2.2.2.1 hst (lv_room hr8) hd hcs) h.2.2.2.2.2.2.2.2.2.2.1 (fun v M1 H1 locs1 hq1 hP1 hD1 hS1 => ?_)
  obtain ⟨r, rfl, hq2⟩ := hq1
  exact kk r M1 hq2 p e s m args below meth c H1 locs1 ls ⟨h.1, h.2.1, h.2.2.1, h.2.2.2.1, h.2.2.2.2.1, h.2.2.2.2.2.1, h.2.2.2.2.2.2.1, h.2.2.2.2.2.2.2.1, hP1, hD1, hS1, h.2.2.2.2.2.2.2.2.2.2.2.1, h.2.2.2.2.2.2.2.2.2.2.2.2.1, h.2.2.2.2.2.2.2.2.2.2.2.2.2⟩
theorem a_callNi {y : MethodName} {ws ws' : List Cond} {fr lo n index nLc : Nat} {cb : ByteArray} {rt : Option FieldType} {Q2 : Int32 → MM → Prop} {st : List Value} (As : List Value) {host : String} (hd : decode cc pc = .ok (.invokestatic index, 3)) (hC : CM G y ws fr lo As M (qI Q2)) (hG : GoodIn Ts ws) (hwl : ∀ U, gN U → va_Nw (Cond.methodLinkNest own index y host) U) (hwi : Cond.initialized y.cls ∈ Ts) (hwst : Cond.static y ∈ Ts) (hw : ws = Cond.code y cb nLc rt :: ws') (hdd : y.cls ≠ "java/lang/invoke/MethodHandle" ∧ y.cls ≠ "java/lang/invoke/VarHandle" ∧ (parseMethodDescriptor y.desc).map (fun d => d.parameters.length) = some n) (hR : fr + 1 ≤ R.frames ∧ 8 + (nLc + 11) + lo ≤ R.locals) (hn : As.length = n) (hst : st = As.reverse ++ rest) (hr8 : (rest.map fun v => v.category).sum ≤ 8) (hcs : ce ≤ R.cells ∧ sl ≤ R.slots) (kk : ∀ (r : Int32) (M1 : MM), Q2 r M1 → AW G E Z Ts own cc nL ret R ce sl (pc + 3) L (.int r :: rest) M1) : AW G E Z Ts own cc nL ret R ce sl pc L st M := by
  intro p e s m args below meth c H locs ls h
  refine am_call (G := G) (Q := qI Q2) (mc := 0) (ms := 0) (rest := rest) (va_runSN (As := As) (rest := rest) ⟨h.1, h.2.1, h.2.2.2.2.1, h.2.2.2.2.2.1, h.2.2.2.2.2.2.1⟩ hC ⟨va_cnB n h.2.2.2.2.2.2.1 hG hw rfl rfl (hwl _ h.2.2.2.2.2.2.2.1.2) (h.2.2.2.2.2.2.1 _ hwi) hdd hR, h.2.2.2.2.2.2.1 _ hwst, trivial⟩ ⟨(fun a U g mk q => by obtain ⟨q0, q1, q2, q3, q4⟩ := q; exact ⟨q0, q1, ⟨va_K.moved (u := U) (U := U.calling g mk a) (Vm.Alike.refl U.vm) q2.1, gN.same (s := U) (U := U.calling g mk a) rfl q2.2⟩, q3, q4⟩), (fun U hU hW => ⟨rfl, by rw [hU]; exact Nat.le_trans h.2.2.2.2.2.2.2.2.2.2.2.1 h.2.2.2.2.2.2.2.2.2.2.1.1, ⟨va_K.moved hW.alike h.2.2.2.2.2.2.2.1.1, gN.moved hW h.2.2.2.2.2.2.2.1.2⟩, by rw [hU]; exact h.2.2.2.2.2.2.2.2.1, h.2.2.2.2.2.2.2.2.2.1⟩)⟩ rfl hn h.2.2.2.2.2.2.2.2.2.2.2.2.2.1 hst (lv_room hr8) hd hcs) h.2.2.2.2.2.2.2.2.2.2.1 (fun v M1 H1 locs1 hq1 hP1 hD1 hS1 => ?_)
  obtain ⟨r, rfl, hq2⟩ := hq1
  exact kk r M1 hq2 p e s m args below meth c H1 locs1 ls ⟨h.1, h.2.1, h.2.2.1, h.2.2.2.1, h.2.2.2.2.1, h.2.2.2.2.2.1, h.2.2.2.2.2.2.1, h.2.2.2.2.2.2.2.1, hP1, hD1, hS1, h.2.2.2.2.2.2.2.2.2.2.2.1, h.2.2.2.2.2.2.2.2.2.2.2.2.1, h.2.2.2.2.2.2.2.2.2.2.2.2.2⟩
theorem a_callNl {y : MethodName} {ws ws' : List Cond} {fr lo n index nLc : Nat} {cb : ByteArray} {rt : Option FieldType} {Q2 : Int64 → MM → Prop} {st : List Value} (As : List Value) {host : String} (hd : decode cc pc = .ok (.invokestatic index, 3)) (hC : CM G y ws fr lo As M (qL Q2)) (hG : GoodIn Ts ws) (hwl : ∀ U, gN U → va_Nw (Cond.methodLinkNest own index y host) U) (hwi : Cond.initialized y.cls ∈ Ts) (hwst : Cond.static y ∈ Ts) (hw : ws = Cond.code y cb nLc rt :: ws') (hdd : y.cls ≠ "java/lang/invoke/MethodHandle" ∧ y.cls ≠ "java/lang/invoke/VarHandle" ∧ (parseMethodDescriptor y.desc).map (fun d => d.parameters.length) = some n) (hR : fr + 1 ≤ R.frames ∧ 8 + (nLc + 11) + lo ≤ R.locals) (hn : As.length = n) (hst : st = As.reverse ++ rest) (hr8 : (rest.map fun v => v.category).sum ≤ 8) (hcs : ce ≤ R.cells ∧ sl ≤ R.slots) (kk : ∀ (r : Int64) (M1 : MM), Q2 r M1 → AW G E Z Ts own cc nL ret R ce sl (pc + 3) L (.long r :: rest) M1) : AW G E Z Ts own cc nL ret R ce sl pc L st M := by
  intro p e s m args below meth c H locs ls h
  refine am_call (G := G) (Q := qL Q2) (mc := 0) (ms := 0) (rest := rest) (va_runSN (As := As) (rest := rest) ⟨h.1, h.2.1, h.2.2.2.2.1, h.2.2.2.2.2.1, h.2.2.2.2.2.2.1⟩ hC ⟨va_cnB n h.2.2.2.2.2.2.1 hG hw rfl rfl (hwl _ h.2.2.2.2.2.2.2.1.2) (h.2.2.2.2.2.2.1 _ hwi) hdd hR, h.2.2.2.2.2.2.1 _ hwst, trivial⟩ ⟨(fun a U g mk q => by obtain ⟨q0, q1, q2, q3, q4⟩ := q; exact ⟨q0, q1, ⟨va_K.moved (u := U) (U := U.calling g mk a) (Vm.Alike.refl U.vm) q2.1, gN.same (s := U) (U := U.calling g mk a) rfl q2.2⟩, q3, q4⟩), (fun U hU hW => ⟨rfl, by rw [hU]; exact Nat.le_trans h.2.2.2.2.2.2.2.2.2.2.2.1 h.2.2.2.2.2.2.2.2.2.2.1.1, ⟨va_K.moved hW.alike h.2.2.2.2.2.2.2.1.1, gN.moved hW h.2.2.2.2.2.2.2.1.2⟩, by rw [hU]; exact h.2.2.2.2.2.2.2.2.1, h.2.2.2.2.2.2.2.2.2.1⟩)⟩ rfl hn h.2.2.2.2.2.2.2.2.2.2.2.2.2.1 hst (lv_room hr8) hd hcs) h.2.2.2.2.2.2.2.2.2.2.1 (fun v M1 H1 locs1 hq1 hP1 hD1 hS1 => ?_)
  obtain ⟨r, rfl, hq2⟩ := hq1
  exact kk r M1 hq2 p e s m args below meth c H1 locs1 ls ⟨h.1, h.2.1, h.2.2.1, h.2.2.2.1, h.2.2.2.2.1, h.2.2.2.2.2.1, h.2.2.2.2.2.2.1, h.2.2.2.2.2.2.2.1, hP1, hD1, hS1, h.2.2.2.2.2.2.2.2.2.2.2.1, h.2.2.2.2.2.2.2.2.2.2.2.2.1, h.2.2.2.2.2.2.2.2.2.2.2.2.2⟩
theorem a_callNv {y : MethodName} {ws ws' : List Cond} {fr lo n index nLc : Nat} {cb : ByteArray} {rt : Option FieldType} {Q2 : MM → Prop} {st : List Value} (As : List Value) {host : String} (hd : decode cc pc = .ok (.invokestatic index, 3)) (hC : CM G y ws fr lo As M (qV Q2)) (hG : GoodIn Ts ws) (hwl : ∀ U, gN U → va_Nw (Cond.methodLinkNest own index y host) U) (hwi : Cond.initialized y.cls ∈ Ts) (hwst : Cond.static y ∈ Ts) (hw : ws = Cond.code y cb nLc rt :: ws') (hdd : y.cls ≠ "java/lang/invoke/MethodHandle" ∧ y.cls ≠ "java/lang/invoke/VarHandle" ∧ (parseMethodDescriptor y.desc).map (fun d => d.parameters.length) = some n) (hR : fr + 1 ≤ R.frames ∧ 8 + (nLc + 11) + lo ≤ R.locals) (hn : As.length = n) (hst : st = As.reverse ++ rest) (hr8 : (rest.map fun v => v.category).sum ≤ 8) (hcs : ce ≤ R.cells ∧ sl ≤ R.slots) (kk : ∀ (M1 : MM), Q2 M1 → AW G E Z Ts own cc nL ret R ce sl (pc + 3) L rest M1) : AW G E Z Ts own cc nL ret R ce sl pc L st M := by
  intro p e s m args below meth c H locs ls h
  refine am_call (G := G) (Q := qV Q2) (mc := 0) (ms := 0) (rest := rest) (va_runSN (As := As) (rest := rest) ⟨h.1, h.2.1, h.2.2.2.2.1, h.2.2.2.2.2.1, h.2.2.2.2.2.2.1⟩ hC ⟨va_cnB n h.2.2.2.2.2.2.1 hG hw rfl rfl (hwl _ h.2.2.2.2.2.2.2.1.2) (h.2.2.2.2.2.2.1 _ hwi) hdd hR, h.2.2.2.2.2.2.1 _ hwst, trivial⟩ ⟨(fun a U g mk q => by obtain ⟨q0, q1, q2, q3, q4⟩ := q; exact ⟨q0, q1, ⟨va_K.moved (u := U) (U := U.calling g mk a) (Vm.Alike.refl U.vm) q2.1, gN.same (s := U) (U := U.calling g mk a) rfl q2.2⟩, q3, q4⟩), (fun U hU hW => ⟨rfl, by rw [hU]; exact Nat.le_trans h.2.2.2.2.2.2.2.2.2.2.2.1 h.2.2.2.2.2.2.2.2.2.2.1.1, ⟨va_K.moved hW.alike h.2.2.2.2.2.2.2.1.1, gN.moved hW h.2.2.2.2.2.2.2.1.2⟩, by rw [hU]; exact h.2.2.2.2.2.2.2.2.1, h.2.2.2.2.2.2.2.2.2.1⟩)⟩ rfl hn h.2.2.2.2.2.2.2.2.2.2.2.2.2.1 hst (lv_room hr8) hd hcs) h.2.2.2.2.2.2.2.2.2.2.1 (fun v M1 H1 locs1 hq1 hP1 hD1 hS1 => ?_)
  obtain ⟨rfl, hq2⟩ := hq1
  exact kk M1 hq2 p e s m args below meth c H1 locs1 ls ⟨h.1, h.2.1, h.2.2.1, h.2.2.2.1, h.2.2.2.2.1, h.2.2.2.2.2.1, h.2.2.2.2.2.2.1, h.2.2.2.2.2.2.2.1, hP1, hD1, hS1, h.2.2.2.2.2.2.2.2.2.2.2.1, h.2.2.2.2.2.2.2.2.2.2.2.2.1, h.2.2.2.2.2.2.2.2.2.2.2.2.2⟩
theorem a_callNr {y : MethodName} {ws ws' : List Cond} {fr lo n index nLc : Nat} {cb : ByteArray} {rt : Option FieldType} {Q2 : Nat → MM → Prop} {st : List Value} (As : List Value) {host : String} (hd : decode cc pc = .ok (.invokestatic index, 3)) (hC : CM G y ws fr lo As M (qR G Q2)) (hG : GoodIn Ts ws) (hwl : ∀ U, gN U → va_Nw (Cond.methodLinkNest own index y host) U) (hwi : Cond.initialized y.cls ∈ Ts) (hwst : Cond.static y ∈ Ts) (hw : ws = Cond.code y cb nLc rt :: ws') (hdd : y.cls ≠ "java/lang/invoke/MethodHandle" ∧ y.cls ≠ "java/lang/invoke/VarHandle" ∧ (parseMethodDescriptor y.desc).map (fun d => d.parameters.length) = some n) (hR : fr + 1 ≤ R.frames ∧ 8 + (nLc + 11) + lo ≤ R.locals) (hn : As.length = n) (hst : st = As.reverse ++ rest) (hr8 : (rest.map fun v => v.category).sum ≤ 8) (hcs : ce ≤ R.cells ∧ sl ≤ R.slots) (kk : ∀ (r : Nat) (M1 : MM), Q2 r M1 → AW G E Z Ts own cc nL ret R ce sl (pc + 3) L (.ref (gA G r) :: rest) M1) : AW G E Z Ts own cc nL ret R ce sl pc L st M := by
  intro p e s m args below meth c H locs ls h
  refine am_call (G := G) (Q := qR G Q2) (mc := 0) (ms := 0) (rest := rest) (va_runSN (As := As) (rest := rest) ⟨h.1, h.2.1, h.2.2.2.2.1, h.2.2.2.2.2.1, h.2.2.2.2.2.2.1⟩ hC ⟨va_cnB n h.2.2.2.2.2.2.1 hG hw rfl rfl (hwl _ h.2.2.2.2.2.2.2.1.2) (h.2.2.2.2.2.2.1 _ hwi) hdd hR, h.2.2.2.2.2.2.1 _ hwst, trivial⟩ ⟨(fun a U g mk q => by obtain ⟨q0, q1, q2, q3, q4⟩ := q; exact ⟨q0, q1, ⟨va_K.moved (u := U) (U := U.calling g mk a) (Vm.Alike.refl U.vm) q2.1, gN.same (s := U) (U := U.calling g mk a) rfl q2.2⟩, q3, q4⟩), (fun U hU hW => ⟨rfl, by rw [hU]; exact Nat.le_trans h.2.2.2.2.2.2.2.2.2.2.2.1 h.2.2.2.2.2.2.2.2.2.2.1.1, ⟨va_K.moved hW.alike h.2.2.2.2.2.2.2.1.1, gN.moved hW h.2.2.2.2.2.2.2.1.2⟩, by rw [hU]; exact h.2.2.2.2.2.2.2.2.1, h.2.2.2.2.2.2.2.2.2.1⟩)⟩ rfl hn h.2.2.2.2.2.2.2.2.2.2.2.2.2.1 hst (lv_room hr8) hd hcs) h.2.2.2.2.2.2.2.2.2.2.1 (fun v M1 H1 locs1 hq1 hP1 hD1 hS1 => ?_)
  obtain ⟨r, rfl, hq2⟩ := hq1
  exact kk r M1 hq2 p e s m args below meth c H1 locs1 ls ⟨h.1, h.2.1, h.2.2.1, h.2.2.2.1, h.2.2.2.2.1, h.2.2.2.2.2.1, h.2.2.2.2.2.2.1, h.2.2.2.2.2.2.2.1, hP1, hD1, hS1, h.2.2.2.2.2.2.2.2.2.2.2.1, h.2.2.2.2.2.2.2.2.2.2.2.2.1, h.2.2.2.2.2.2.2.2.2.2.2.2.2⟩
theorem a_tableD {dflt lo hi : Int} {offs : Array Int} {len : Nat} {x : Int32} {tgt : Nat} (hd : decode cc pc = .ok (.tableswitch dflt lo hi offs, len)) (ht : (pc : Int) + dflt = (tgt : Int)) (hall : ∀ k : Int, lo ≤ k → k ≤ hi → x.toInt = k → offs[(k - lo).toNat]? = some dflt) (kk : AW G E Z Ts own cc nL ret R ce sl tgt L rest M) : AW G E Z Ts own cc nL ret R ce sl pc L (.int x :: rest) M := by
  by_cases h : x.toInt < lo ∨ hi < x.toInt
  · exact a_tableOut hd h ht kk
  · exact a_tableIn hd (fun z => h (Or.inl z)) (fun z => h (Or.inr z)) (hall _ (by omega) (by omega) rfl) ht kk
end AM2
theorem em_c {c A B P : Prop} (h : (c → A) ∧ (¬ c → B)) (ka : c → A → P) (kb : ¬ c → B → P) : P := (Classical.em c).elim (fun q => ka q (h.1 q)) (fun q => kb q (h.2 q))
theorem ne_ti {x v : Int32} {k : Int} (h : ¬ x = v) (hk : v.toInt = k) : ¬ x.toInt = k := fun e => h (Int32.toInt_inj.mp (e.trans hk.symm))
theorem lk_out {k a1 a2 a3 o1 o2 o3 d : Int} (h1 : ¬ k = a1) (h2 : ¬ k = a2) (h3 : ¬ k = a3) : Op.lookupswitch.offset (#[(a1, o1), (a2, o2), (a3, o3)] : Array (Int × Int)).toList d k = d := by
  simp [Op.lookupswitch.offset_cons, Op.lookupswitch.offset_nil, Ne.symm h1, Ne.symm h2, Ne.symm h3]
theorem bo_n {x : Int32} (h : bo x) : narrow .boolean (.int x) = .int x := by rcases h with rfl | rfl <;> rfl
theorem bo_f {x : Int32} (h : bo x) : fits .boolean (.int x) = true := by rcases h with rfl | rfl <;> rfl
theorem k29 {G : GG} {M : MM} (h : ¬ M 62 29 = 0) : (fl3 G 62 (M 62))[29]? = some (.ref (gA G (ix (M 62 29)))) := by simp [fl3, kin, h]
def FU : Nat := 4096
theorem fs0_4 {G : GG} {q : Nat} {x : Int32} (f : Nat → Int32) : (fl0 G q f).set 4 (.int x) = fl0 G q (fun j => if j = 4 then x else f j) := by simp [fl0]
theorem fs0_5 {G : GG} {q : Nat} {x : Int32} (f : Nat → Int32) : (fl0 G q f).set 5 (.int x) = fl0 G q (fun j => if j = 5 then x else f j) := by simp [fl0]
theorem fs0_6 {G : GG} {q : Nat} {x : Int32} (f : Nat → Int32) : (fl0 G q f).set 6 (.int x) = fl0 G q (fun j => if j = 6 then x else f j) := by simp [fl0]
theorem fs0_7 {G : GG} {q : Nat} {x : Int32} (f : Nat → Int32) : (fl0 G q f).set 7 (.int x) = fl0 G q (fun j => if j = 7 then x else f j) := by simp [fl0]
theorem fs0_8 {G : GG} {q : Nat} {x : Int32} (f : Nat → Int32) : (fl0 G q f).set 8 (.int x) = fl0 G q (fun j => if j = 8 then x else f j) := by simp [fl0]
theorem fs1_1 {G : GG} {q : Nat} {x : Int32} (f : Nat → Int32) : (fl1 G q f).set 1 (.int x) = fl1 G q (fun j => if j = 1 then x else f j) := by simp [fl1]
theorem fs2_8 {G : GG} {q : Nat} {x : Int32} (f : Nat → Int32) : (fl2 G q f).set 8 (.int x) = fl2 G q (fun j => if j = 8 then x else f j) := by simp [fl2]
theorem fs2_9 {G : GG} {q : Nat} {x : Int32} (f : Nat → Int32) : (fl2 G q f).set 9 (.int x) = fl2 G q (fun j => if j = 9 then x else f j) := by simp [fl2]
theorem fs2_10 {G : GG} {q : Nat} {x : Int32} (f : Nat → Int32) : (fl2 G q f).set 10 (.int x) = fl2 G q (fun j => if j = 10 then x else f j) := by simp [fl2]
theorem fs2_11 {G : GG} {q : Nat} {x : Int32} (f : Nat → Int32) : (fl2 G q f).set 11 (.int x) = fl2 G q (fun j => if j = 11 then x else f j) := by simp [fl2]
theorem fs3_0 {G : GG} {q : Nat} {x : Int32} (f : Nat → Int32) : (fl3 G q f).set 0 (.int x) = fl3 G q (fun j => if j = 0 then x else f j) := by simp [fl3]
theorem fs3_6 {G : GG} {q : Nat} {x : Int32} (f : Nat → Int32) : (fl3 G q f).set 6 (.int x) = fl3 G q (fun j => if j = 6 then x else f j) := by simp [fl3]
theorem fs3_7 {G : GG} {q : Nat} {x : Int32} (f : Nat → Int32) : (fl3 G q f).set 7 (.int x) = fl3 G q (fun j => if j = 7 then x else f j) := by simp [fl3]
theorem fs3_8 {G : GG} {q : Nat} {x : Int32} (f : Nat → Int32) : (fl3 G q f).set 8 (.int x) = fl3 G q (fun j => if j = 8 then x else f j) := by simp [fl3]
theorem fs3_9 {G : GG} {q : Nat} {x : Int32} (f : Nat → Int32) : (fl3 G q f).set 9 (.int x) = fl3 G q (fun j => if j = 9 then x else f j) := by simp [fl3]
theorem fs3_12 {G : GG} {q : Nat} {x : Int32} (f : Nat → Int32) : (fl3 G q f).set 12 (.int x) = fl3 G q (fun j => if j = 12 then x else f j) := by simp [fl3]
theorem fs3_14 {G : GG} {q : Nat} {x : Int32} (f : Nat → Int32) : (fl3 G q f).set 14 (.int x) = fl3 G q (fun j => if j = 14 then x else f j) := by simp [fl3]
theorem fs3_15 {G : GG} {q : Nat} {x : Int32} (f : Nat → Int32) : (fl3 G q f).set 15 (.int x) = fl3 G q (fun j => if j = 15 then x else f j) := by simp [fl3]
theorem fs3_17 {G : GG} {q : Nat} {x : Int32} (f : Nat → Int32) : (fl3 G q f).set 17 (.int x) = fl3 G q (fun j => if j = 17 then x else f j) := by simp [fl3]
theorem fs3_18 {G : GG} {q : Nat} {x : Int32} (f : Nat → Int32) : (fl3 G q f).set 18 (.int x) = fl3 G q (fun j => if j = 18 then x else f j) := by simp [fl3]
theorem fs3_19 {G : GG} {q : Nat} {x : Int32} (f : Nat → Int32) : (fl3 G q f).set 19 (.int x) = fl3 G q (fun j => if j = 19 then x else f j) := by simp [fl3]
theorem fs3_20 {G : GG} {q : Nat} {x : Int32} (f : Nat → Int32) : (fl3 G q f).set 20 (.int x) = fl3 G q (fun j => if j = 20 then x else f j) := by simp [fl3]
theorem fs3_26 {G : GG} {q : Nat} {x : Int32} (f : Nat → Int32) : (fl3 G q f).set 26 (.int x) = fl3 G q (fun j => if j = 26 then x else f j) := by simp [fl3]
theorem fs3_27 {G : GG} {q : Nat} {x : Int32} (f : Nat → Int32) : (fl3 G q f).set 27 (.int x) = fl3 G q (fun j => if j = 27 then x else f j) := by simp [fl3]
theorem fs3_28 {G : GG} {q : Nat} {x : Int32} (f : Nat → Int32) : (fl3 G q f).set 28 (.int x) = fl3 G q (fun j => if j = 28 then x else f j) := by simp [fl3]
theorem fs3_32 {G : GG} {q : Nat} {x : Int32} (f : Nat → Int32) : (fl3 G q f).set 32 (.int x) = fl3 G q (fun j => if j = 32 then x else f j) := by simp [fl3]
theorem fs3_36 {G : GG} {q : Nat} {x : Int32} (f : Nat → Int32) : (fl3 G q f).set 36 (.int x) = fl3 G q (fun j => if j = 36 then x else f j) := by simp [fl3]
theorem fs3_39 {G : GG} {q : Nat} {x : Int32} (f : Nat → Int32) : (fl3 G q f).set 39 (.int x) = fl3 G q (fun j => if j = 39 then x else f j) := by simp [fl3]
theorem fs3_29 {G : GG} {q t : Nat} {x : Int32} (hx : x ≠ 0) (ht : x.toNatClampNeg = t) (f : Nat → Int32) : (fl3 G q f).set 29 (.ref (gA G t)) = fl3 G q (fun j => if j = 29 then x else f j) := by subst ht; simp [fl3, kin, hx]
theorem ob_0 : ob 0 2 := ⟨by decide, rfl⟩
theorem ob_57 : ob 57 1 := ⟨by decide, rfl⟩
theorem ob_62 : ob 62 3 := ⟨by decide, rfl⟩
theorem ob_1 : ob 1 0 := ⟨by decide, rfl⟩
theorem ob_6 : ob 6 0 := ⟨by decide, rfl⟩
theorem ob_11 : ob 11 0 := ⟨by decide, rfl⟩
end
section
theorem kK_RJ6_265 : Cond.constant RJ6 265 (1431655765) ∈ TB := tb_of 417 (by decide +kernel) rfl
theorem kK_RJ6_266 : Cond.constant RJ6 266 (858993459) ∈ TB := tb_of 418 (by decide +kernel) rfl
theorem kK_RJ6_267 : Cond.constant RJ6 267 (252645135) ∈ TB := tb_of 419 (by decide +kernel) rfl
theorem kF_RX0_28 : Cond.fieldLink RX0 28 RX0 (TX0 5).2.1 (TX0 5).2.2.1 ∈ TB := tb_of 98 (by decide +kernel) rfl
theorem kC_X0_stands : Cond.code yX0_stands cX0_stands 2 (some .boolean) ∈ TB := tb_of 260 (by decide +kernel) rfl
theorem kM_RX0_60_X0_stands : Cond.methodLink RX0 60 yX0_stands ∈ TB := tb_of 257 (by decide +kernel) rfl
theorem kI_X0_stands : Cond.instanceMethod yX0_stands ∈ TB := tb_of 258 (by decide +kernel) rfl
theorem kS_X0_stands : Cond.selects RX0 yX0_stands yX0_stands ∈ TB := tb_of 259 (by decide +kernel) rfl
theorem kN_RX0 : Cond.initialized RX0 ∈ TB := tb_of 70 (by decide +kernel) rfl
theorem kF_RX0_18 : Cond.fieldLink RX0 18 RX0 (TX0 2).2.1 (TX0 2).2.2.1 ∈ TB := tb_of 93 (by decide +kernel) rfl
theorem kK_RX3_24 : Cond.constant RX3 24 (16236015) ∈ TB := tb_of 331 (by decide +kernel) rfl
theorem kK_RX3_25 : Cond.constant RX3 25 (32472030) ∈ TB := tb_of 332 (by decide +kernel) rfl
theorem kK_RX3_26 : Cond.constant RX3 26 (33554431) ∈ TB := tb_of 323 (by decide +kernel) rfl
theorem kC_X0_standingCells : Cond.code yX0_standingCells cX0_standingCells 3 (some .int) ∈ TB := tb_of 632 (by decide +kernel) rfl
theorem kM_RX0_120_X0_standingCells : Cond.methodLink RX0 120 yX0_standingCells ∈ TB := tb_of 629 (by decide +kernel) rfl
theorem kI_X0_standingCells : Cond.instanceMethod yX0_standingCells ∈ TB := tb_of 630 (by decide +kernel) rfl
theorem kS_X0_standingCells : Cond.selects RX0 yX0_standingCells yX0_standingCells ∈ TB := tb_of 631 (by decide +kernel) rfl
theorem kC_X3_beside : Cond.code yX3_beside cX3_beside 2 (some .int) ∈ TB := tb_of 330 (by decide +kernel) rfl
theorem kM_RX0_83_X3_beside : Cond.methodLink RX0 83 yX3_beside ∈ TB := tb_of 328 (by decide +kernel) rfl
theorem kT_X3_beside : Cond.static yX3_beside ∈ TB := tb_of 329 (by decide +kernel) rfl
theorem kN_RX3 : Cond.initialized RX3 ∈ TB := tb_of 74 (by decide +kernel) rfl
theorem kC_X3_has : Cond.code yX3_has cX3_has 2 (some .boolean) ∈ TB := tb_of 335 (by decide +kernel) rfl
theorem kM_RX0_86_X3_has : Cond.methodLink RX0 86 yX3_has ∈ TB := tb_of 333 (by decide +kernel) rfl
theorem kT_X3_has : Cond.static yX3_has ∈ TB := tb_of 334 (by decide +kernel) rfl
theorem kC_J9_floorMod_7cf53 : Cond.code yJ9_floorMod_7cf53 cJ9_floorMod_7cf53 3 (some .int) ∈ TB := tb_of 308 (by decide +kernel) rfl
theorem kM_RX3_11_J9_floorMod_7cf53 : Cond.methodLink RX3 11 yJ9_floorMod_7cf53 ∈ TB := tb_of 306 (by decide +kernel) rfl
theorem kT_J9_floorMod_7cf53 : Cond.static yJ9_floorMod_7cf53 ∈ TB := tb_of 307 (by decide +kernel) rfl
theorem kN_RJ9 : Cond.initialized RJ9 ∈ TB := tb_of 73 (by decide +kernel) rfl
theorem kM_RX3_17_Lib_Math_abs_name : Cond.methodLink RX3 17 Lib.Math.abs.name ∈ TB := tb_of 309 (by decide +kernel) rfl
theorem kT_Lib_Math_abs_name : Cond.static Lib.Math.abs.name ∈ TB := tb_of 310 (by decide +kernel) rfl
theorem kN_Math : Cond.initialized "java/lang/Math" ∈ TB := tb_of 73 (by decide +kernel) rfl
theorem kC_Lib_Math_abs_name : Cond.code Lib.Math.abs.name Lib.Math.abs.code 1 (some .int) ∈ TB := tb_of 311 (by decide +kernel) rfl
theorem kM_RX3_21_Lib_Math_max_name : Cond.methodLink RX3 21 Lib.Math.max.name ∈ TB := tb_of 312 (by decide +kernel) rfl
theorem kT_Lib_Math_max_name : Cond.static Lib.Math.max.name ∈ TB := tb_of 222 (by decide +kernel) rfl
theorem kC_Lib_Math_max_name : Cond.code Lib.Math.max.name Lib.Math.max.code 2 (some .int) ∈ TB := tb_of 223 (by decide +kernel) rfl
theorem kC_X3_lowestRows : Cond.code yX3_lowestRows cX3_lowestRows 1 (some .int) ∈ TB := tb_of 322 (by decide +kernel) rfl
theorem kM_RX0_93_X3_lowestRows : Cond.methodLink RX0 93 yX3_lowestRows ∈ TB := tb_of 320 (by decide +kernel) rfl
theorem kT_X3_lowestRows : Cond.static yX3_lowestRows ∈ TB := tb_of 321 (by decide +kernel) rfl
theorem kF_RX0_11 : Cond.fieldLink RX0 11 RX0 (TX0 0).2.1 (TX0 0).2.2.1 ∈ TB := tb_of 91 (by decide +kernel) rfl
theorem kC_X1_stopsSea : Cond.code yX1_stopsSea cX1_stopsSea 1 (some .boolean) ∈ TB := tb_of 326 (by decide +kernel) rfl
theorem kM_RX0_96_X1_stopsSea : Cond.methodLink RX0 96 yX1_stopsSea ∈ TB := tb_of 324 (by decide +kernel) rfl
theorem kT_X1_stopsSea : Cond.static yX1_stopsSea ∈ TB := tb_of 325 (by decide +kernel) rfl
theorem kN_RX1 : Cond.initialized RX1 ∈ TB := tb_of 75 (by decide +kernel) rfl
theorem kK_RX0_99 : Cond.constant RX0 99 (32505856) ∈ TB := tb_of 327 (by decide +kernel) rfl
theorem kF_RX0_31 : Cond.fieldLink RX0 31 RX0 (TX0 6).2.1 (TX0 6).2.2.1 ∈ TB := tb_of 100 (by decide +kernel) rfl
theorem kC_X3_height : Cond.code yX3_height cX3_height 1 (some .int) ∈ TB := tb_of 305 (by decide +kernel) rfl
theorem kM_RX0_74_X3_height : Cond.methodLink RX0 74 yX3_height ∈ TB := tb_of 303 (by decide +kernel) rfl
theorem kT_X3_height : Cond.static yX3_height ∈ TB := tb_of 304 (by decide +kernel) rfl
theorem kM_RX0_77_Lib_Math_min_name : Cond.methodLink RX0 77 Lib.Math.min.name ∈ TB := tb_of 313 (by decide +kernel) rfl
theorem kT_Lib_Math_min_name : Cond.static Lib.Math.min.name ∈ TB := tb_of 314 (by decide +kernel) rfl
theorem kC_Lib_Math_min_name : Cond.code Lib.Math.min.name Lib.Math.min.code 2 (some .int) ∈ TB := tb_of 315 (by decide +kernel) rfl
theorem kC_X0_wetAt : Cond.code yX0_wetAt cX0_wetAt 6 (some .int) ∈ TB := tb_of 319 (by decide +kernel) rfl
theorem kM_RX0_80_X0_wetAt : Cond.methodLink RX0 80 yX0_wetAt ∈ TB := tb_of 316 (by decide +kernel) rfl
theorem kI_X0_wetAt : Cond.instanceMethod yX0_wetAt ∈ TB := tb_of 317 (by decide +kernel) rfl
theorem kS_X0_wetAt : Cond.selects RX0 yX0_wetAt yX0_wetAt ∈ TB := tb_of 318 (by decide +kernel) rfl
theorem kF_RX0_21 : Cond.fieldLink RX0 21 RX0 (TX0 3).2.1 (TX0 3).2.2.1 ∈ TB := tb_of 94 (by decide +kernel) rfl
theorem kF_RX0_34 : Cond.fieldLink RX0 34 RX0 (TX0 7).2.1 (TX0 7).2.2.1 ∈ TB := tb_of 103 (by decide +kernel) rfl
theorem kF_RX0_15 : Cond.fieldLink RX0 15 RX0 (TX0 1).2.1 (TX0 1).2.2.1 ∈ TB := tb_of 92 (by decide +kernel) rfl
theorem kC_X1_letsFor : Cond.code yX1_letsFor cX1_letsFor 3 (some .int) ∈ TB := tb_of 338 (by decide +kernel) rfl
theorem kM_RX0_90_X1_letsFor : Cond.methodLink RX0 90 yX1_letsFor ∈ TB := tb_of 336 (by decide +kernel) rfl
theorem kT_X1_letsFor : Cond.static yX1_letsFor ∈ TB := tb_of 337 (by decide +kernel) rfl
theorem kF_RX0_37 : Cond.fieldLink RX0 37 RX0 (TX0 8).2.1 (TX0 8).2.2.1 ∈ TB := tb_of 105 (by decide +kernel) rfl
theorem kC_X1_rateFor : Cond.code yX1_rateFor cX1_rateFor 4 (some .int) ∈ TB := tb_of 341 (by decide +kernel) rfl
theorem kM_RX0_57_X1_rateFor : Cond.methodLink RX0 57 yX1_rateFor ∈ TB := tb_of 339 (by decide +kernel) rfl
theorem kT_X1_rateFor : Cond.static yX1_rateFor ∈ TB := tb_of 340 (by decide +kernel) rfl
theorem kC_X1_holdsFor : Cond.code yX1_holdsFor cX1_holdsFor 5 (some .int) ∈ TB := tb_of 344 (by decide +kernel) rfl
theorem kM_RX0_51_X1_holdsFor : Cond.methodLink RX0 51 yX1_holdsFor ∈ TB := tb_of 342 (by decide +kernel) rfl
theorem kT_X1_holdsFor : Cond.static yX1_holdsFor ∈ TB := tb_of 343 (by decide +kernel) rfl
theorem kF_RX0_24 : Cond.fieldLink RX0 24 RX0 (TX0 4).2.1 (TX0 4).2.2.1 ∈ TB := tb_of 95 (by decide +kernel) rfl
theorem kC_X0_knows : Cond.code yX0_knows cX0_knows 2 (some .boolean) ∈ TB := tb_of 276 (by decide +kernel) rfl
theorem kM_RX0_40_X0_knows : Cond.methodLink RX0 40 yX0_knows ∈ TB := tb_of 273 (by decide +kernel) rfl
theorem kI_X0_knows : Cond.instanceMethod yX0_knows ∈ TB := tb_of 274 (by decide +kernel) rfl
theorem kS_X0_knows : Cond.selects RX0 yX0_knows yX0_knows ∈ TB := tb_of 275 (by decide +kernel) rfl
theorem kC_X0_kindOf : Cond.code yX0_kindOf cX0_kindOf 2 (some .int) ∈ TB := tb_of 354 (by decide +kernel) rfl
theorem kM_RX0_44_X0_kindOf : Cond.methodLink RX0 44 yX0_kindOf ∈ TB := tb_of 372 (by decide +kernel) rfl
theorem kI_X0_kindOf : Cond.instanceMethod yX0_kindOf ∈ TB := tb_of 352 (by decide +kernel) rfl
theorem kS_X0_kindOf : Cond.selects RX0 yX0_kindOf yX0_kindOf ∈ TB := tb_of 353 (by decide +kernel) rfl
theorem kC_X0_figureOf : Cond.code yX0_figureOf cX0_figureOf 2 (some .int) ∈ TB := tb_of 358 (by decide +kernel) rfl
theorem kM_RX0_48_X0_figureOf : Cond.methodLink RX0 48 yX0_figureOf ∈ TB := tb_of 373 (by decide +kernel) rfl
theorem kI_X0_figureOf : Cond.instanceMethod yX0_figureOf ∈ TB := tb_of 356 (by decide +kernel) rfl
theorem kS_X0_figureOf : Cond.selects RX0 yX0_figureOf yX0_figureOf ∈ TB := tb_of 357 (by decide +kernel) rfl
theorem kC_X0_holdsOf : Cond.code yX0_holdsOf cX0_holdsOf 2 (some .int) ∈ TB := tb_of 371 (by decide +kernel) rfl
theorem kM_RX0_111_X0_holdsOf : Cond.methodLink RX0 111 yX0_holdsOf ∈ TB := tb_of 623 (by decide +kernel) rfl
theorem kI_X0_holdsOf : Cond.instanceMethod yX0_holdsOf ∈ TB := tb_of 369 (by decide +kernel) rfl
theorem kS_X0_holdsOf : Cond.selects RX0 yX0_holdsOf yX0_holdsOf ∈ TB := tb_of 370 (by decide +kernel) rfl
theorem kC_X0_wornOf : Cond.code yX0_wornOf cX0_wornOf 2 (some .int) ∈ TB := tb_of 366 (by decide +kernel) rfl
theorem kM_RX0_114_X0_wornOf : Cond.methodLink RX0 114 yX0_wornOf ∈ TB := tb_of 624 (by decide +kernel) rfl
theorem kI_X0_wornOf : Cond.instanceMethod yX0_wornOf ∈ TB := tb_of 364 (by decide +kernel) rfl
theorem kS_X0_wornOf : Cond.selects RX0 yX0_wornOf yX0_wornOf ∈ TB := tb_of 365 (by decide +kernel) rfl
theorem kC_X0_rateOf : Cond.code yX0_rateOf cX0_rateOf 2 (some .int) ∈ TB := tb_of 377 (by decide +kernel) rfl
theorem kM_RX0_105_X0_rateOf : Cond.methodLink RX0 105 yX0_rateOf ∈ TB := tb_of 544 (by decide +kernel) rfl
theorem kI_X0_rateOf : Cond.instanceMethod yX0_rateOf ∈ TB := tb_of 375 (by decide +kernel) rfl
theorem kS_X0_rateOf : Cond.selects RX0 yX0_rateOf yX0_rateOf ∈ TB := tb_of 376 (by decide +kernel) rfl
theorem kC_X0_anHour : Cond.code yX0_anHour cX0_anHour 7 none ∈ TB := tb_of 302 (by decide +kernel) rfl
theorem kM_RX0_68_X0_anHour : Cond.methodLink RX0 68 yX0_anHour ∈ TB := tb_of 299 (by decide +kernel) rfl
theorem kI_X0_anHour : Cond.instanceMethod yX0_anHour ∈ TB := tb_of 300 (by decide +kernel) rfl
theorem kS_X0_anHour : Cond.selects RX0 yX0_anHour yX0_anHour ∈ TB := tb_of 301 (by decide +kernel) rfl
theorem kC_X0_cellOf : Cond.code yX0_cellOf cX0_cellOf 2 (some .int) ∈ TB := tb_of 362 (by decide +kernel) rfl
theorem kM_RX0_117_X0_cellOf : Cond.methodLink RX0 117 yX0_cellOf ∈ TB := tb_of 637 (by decide +kernel) rfl
theorem kI_X0_cellOf : Cond.instanceMethod yX0_cellOf ∈ TB := tb_of 360 (by decide +kernel) rfl
theorem kS_X0_cellOf : Cond.selects RX0 yX0_cellOf yX0_cellOf ∈ TB := tb_of 361 (by decide +kernel) rfl
theorem kC_X0_beyond : Cond.code yX0_beyond cX0_beyond 2 (some .int) ∈ TB := tb_of 622 (by decide +kernel) rfl
theorem kM_RX0_108_X0_beyond : Cond.methodLink RX0 108 yX0_beyond ∈ TB := tb_of 619 (by decide +kernel) rfl
theorem kI_X0_beyond : Cond.instanceMethod yX0_beyond ∈ TB := tb_of 621 (by decide +kernel) rfl
theorem kS_X0_beyond : Cond.selects RX0 yX0_beyond yX0_beyond ∈ TB := tb_of 23 (by decide +kernel) rfl
theorem kC_X3_steps : Cond.code yX3_steps cX3_steps 2 (some .int) ∈ TB := tb_of 535 (by decide +kernel) rfl
theorem kM_RX0_124_X3_steps : Cond.methodLink RX0 124 yX3_steps ∈ TB := tb_of 663 (by decide +kernel) rfl
theorem kT_X3_steps : Cond.static yX3_steps ∈ TB := tb_of 534 (by decide +kernel) rfl
theorem kM_RX0_63_Lib_Math_max_name : Cond.methodLink RX0 63 Lib.Math.max.name ∈ TB := tb_of 291 (by decide +kernel) rfl
theorem kC_J6_bitCount_0f7a4 : Cond.code yJ6_bitCount_0f7a4 cJ6_bitCount_0f7a4 1 (some .int) ∈ TB := tb_of 416 (by decide +kernel) rfl
theorem kM_RX0_100_J6_bitCount_0f7a4 : Cond.methodLink RX0 100 yJ6_bitCount_0f7a4 ∈ TB := tb_of 414 (by decide +kernel) rfl
theorem kT_J6_bitCount_0f7a4 : Cond.static yJ6_bitCount_0f7a4 ∈ TB := tb_of 415 (by decide +kernel) rfl
theorem kN_RJ6 : Cond.initialized RJ6 ∈ TB := tb_of 76 (by decide +kernel) rfl
theorem kF_RX2_15 : Cond.fieldLink RX2 15 RX2 (TX2 1).2.1 (TX2 1).2.2.1 ∈ TB := tb_of 135 (by decide +kernel) rfl
theorem kF_RX2_9 : Cond.fieldLink RX2 9 RX2 (TX2 0).2.1 (TX2 0).2.2.1 ∈ TB := tb_of 134 (by decide +kernel) rfl
theorem kC_X4_isKind : Cond.code yX4_isKind cX4_isKind 1 (some .boolean) ∈ TB := tb_of 249 (by decide +kernel) rfl
theorem kN_RX4 : Cond.initialized RX4 ∈ TB := tb_of 69 (by decide +kernel) rfl
theorem kT_X4_isKind : Cond.static yX4_isKind ∈ TB := tb_of 248 (by decide +kernel) rfl
theorem kC_X4_isCell : Cond.code yX4_isCell cX4_isCell 1 (some .boolean) ∈ TB := tb_of 252 (by decide +kernel) rfl
theorem kT_X4_isCell : Cond.static yX4_isCell ∈ TB := tb_of 251 (by decide +kernel) rfl
theorem kC_X0_workIn : Cond.code yX0_workIn cX0_workIn 3 (some .int) ∈ TB := tb_of 256 (by decide +kernel) rfl
theorem kM_RX2_75_X0_workIn : Cond.methodLink RX2 75 yX0_workIn ∈ TB := tb_of 253 (by decide +kernel) rfl
theorem kI_X0_workIn : Cond.instanceMethod yX0_workIn ∈ TB := tb_of 254 (by decide +kernel) rfl
theorem kS_X0_workIn : Cond.selects RX0 yX0_workIn yX0_workIn ∈ TB := tb_of 255 (by decide +kernel) rfl
theorem kC_X0_builds : Cond.code yX0_builds cX0_builds 5 none ∈ TB := tb_of 264 (by decide +kernel) rfl
theorem kM_RX2_78_X0_builds : Cond.methodLink RX2 78 yX0_builds ∈ TB := tb_of 261 (by decide +kernel) rfl
theorem kI_X0_builds : Cond.instanceMethod yX0_builds ∈ TB := tb_of 262 (by decide +kernel) rfl
theorem kS_X0_builds : Cond.selects RX0 yX0_builds yX0_builds ∈ TB := tb_of 263 (by decide +kernel) rfl
theorem kC_X2_signAt : Cond.code yX2_signAt cX2_signAt 2 (some .int) ∈ TB := tb_of 209 (by decide +kernel) rfl
theorem kM_RX2_19_X2_signAt : Cond.methodLink RX2 19 yX2_signAt ∈ TB := tb_of 206 (by decide +kernel) rfl
theorem kI_X2_signAt : Cond.instanceMethod yX2_signAt ∈ TB := tb_of 208 (by decide +kernel) rfl
theorem kS_X2_signAt : Cond.selects RX2 yX2_signAt yX2_signAt ∈ TB := tb_of 1 (by decide +kernel) rfl
theorem kN_RX2 : Cond.initialized RX2 ∈ TB := tb_of 71 (by decide +kernel) rfl
theorem kC_X2_isDigit : Cond.code yX2_isDigit cX2_isDigit 2 (some .boolean) ∈ TB := tb_of 216 (by decide +kernel) rfl
theorem kM_RX2_23_X2_isDigit : Cond.methodLink RX2 23 yX2_isDigit ∈ TB := tb_of 213 (by decide +kernel) rfl
theorem kI_X2_isDigit : Cond.instanceMethod yX2_isDigit ∈ TB := tb_of 215 (by decide +kernel) rfl
theorem kS_X2_isDigit : Cond.selects RX2 yX2_isDigit yX2_isDigit ∈ TB := tb_of 2 (by decide +kernel) rfl
theorem kC_X2_digit : Cond.code yX2_digit cX2_digit 2 (some .int) ∈ TB := tb_of 239 (by decide +kernel) rfl
theorem kM_RX2_27_X2_digit : Cond.methodLink RX2 27 yX2_digit ∈ TB := tb_of 236 (by decide +kernel) rfl
theorem kI_X2_digit : Cond.instanceMethod yX2_digit ∈ TB := tb_of 238 (by decide +kernel) rfl
theorem kS_X2_digit : Cond.selects RX2 yX2_digit yX2_digit ∈ TB := tb_of 3 (by decide +kernel) rfl
theorem kM_RX2_82_X0_stands : Cond.methodLink RX2 82 yX0_stands ∈ TB := tb_of 268 (by decide +kernel) rfl
theorem kC_X0_loses : Cond.code yX0_loses cX0_loses 2 none ∈ TB := tb_of 272 (by decide +kernel) rfl
theorem kM_RX2_85_X0_loses : Cond.methodLink RX2 85 yX0_loses ∈ TB := tb_of 269 (by decide +kernel) rfl
theorem kI_X0_loses : Cond.instanceMethod yX0_loses ∈ TB := tb_of 270 (by decide +kernel) rfl
theorem kS_X0_loses : Cond.selects RX0 yX0_loses yX0_loses ∈ TB := tb_of 271 (by decide +kernel) rfl
theorem kC_X0_wears : Cond.code yX0_wears cX0_wears 3 none ∈ TB := tb_of 283 (by decide +kernel) rfl
theorem kM_RX2_89_X0_wears : Cond.methodLink RX2 89 yX0_wears ∈ TB := tb_of 280 (by decide +kernel) rfl
theorem kI_X0_wears : Cond.instanceMethod yX0_wears ∈ TB := tb_of 281 (by decide +kernel) rfl
theorem kS_X0_wears : Cond.selects RX0 yX0_wears yX0_wears ∈ TB := tb_of 282 (by decide +kernel) rfl
theorem kC_X0_settles : Cond.code yX0_settles cX0_settles 1 none ∈ TB := tb_of 290 (by decide +kernel) rfl
theorem kM_RX2_93_X0_settles : Cond.methodLink RX2 93 yX0_settles ∈ TB := tb_of 287 (by decide +kernel) rfl
theorem kI_X0_settles : Cond.instanceMethod yX0_settles ∈ TB := tb_of 288 (by decide +kernel) rfl
theorem kS_X0_settles : Cond.selects RX0 yX0_settles yX0_settles ∈ TB := tb_of 289 (by decide +kernel) rfl
theorem kC_X0_goesOn : Cond.code yX0_goesOn cX0_goesOn 3 none ∈ TB := tb_of 298 (by decide +kernel) rfl
theorem kM_RX2_99_X0_goesOn : Cond.methodLink RX2 99 yX0_goesOn ∈ TB := tb_of 295 (by decide +kernel) rfl
theorem kI_X0_goesOn : Cond.instanceMethod yX0_goesOn ∈ TB := tb_of 296 (by decide +kernel) rfl
theorem kS_X0_goesOn : Cond.selects RX0 yX0_goesOn yX0_goesOn ∈ TB := tb_of 297 (by decide +kernel) rfl
theorem kC_X2_wornBy : Cond.code yX2_wornBy cX2_wornBy 3 (some .boolean) ∈ TB := tb_of 279 (by decide +kernel) rfl
theorem kM_RX2_53_X2_wornBy : Cond.methodLink RX2 53 yX2_wornBy ∈ TB := tb_of 277 (by decide +kernel) rfl
theorem kT_X2_wornBy : Cond.static yX2_wornBy ∈ TB := tb_of 278 (by decide +kernel) rfl
theorem kC_X2_twoDigits : Cond.code yX2_twoDigits cX2_twoDigits 2 (some .int) ∈ TB := tb_of 243 (by decide +kernel) rfl
theorem kM_RX2_42_X2_twoDigits : Cond.methodLink RX2 42 yX2_twoDigits ∈ TB := tb_of 240 (by decide +kernel) rfl
theorem kI_X2_twoDigits : Cond.instanceMethod yX2_twoDigits ∈ TB := tb_of 242 (by decide +kernel) rfl
theorem kS_X2_twoDigits : Cond.selects RX2 yX2_twoDigits yX2_twoDigits ∈ TB := tb_of 4 (by decide +kernel) rfl
theorem kC_X2_passed : Cond.code yX2_passed cX2_passed 2 (some .boolean) ∈ TB := tb_of 294 (by decide +kernel) rfl
theorem kM_RX2_61_X2_passed : Cond.methodLink RX2 61 yX2_passed ∈ TB := tb_of 292 (by decide +kernel) rfl
theorem kT_X2_passed : Cond.static yX2_passed ∈ TB := tb_of 293 (by decide +kernel) rfl
theorem kC_X2_paid : Cond.code yX2_paid cX2_paid 1 (some .boolean) ∈ TB := tb_of 286 (by decide +kernel) rfl
theorem kM_RX2_57_X2_paid : Cond.methodLink RX2 57 yX2_paid ∈ TB := tb_of 284 (by decide +kernel) rfl
theorem kT_X2_paid : Cond.static yX2_paid ∈ TB := tb_of 285 (by decide +kernel) rfl
theorem kC_X2_lost : Cond.code yX2_lost cX2_lost 3 (some .boolean) ∈ TB := tb_of 267 (by decide +kernel) rfl
theorem kM_RX2_49_X2_lost : Cond.methodLink RX2 49 yX2_lost ∈ TB := tb_of 265 (by decide +kernel) rfl
theorem kT_X2_lost : Cond.static yX2_lost ∈ TB := tb_of 266 (by decide +kernel) rfl
theorem kC_X2_built : Cond.code yX2_built cX2_built 4 (some .boolean) ∈ TB := tb_of 246 (by decide +kernel) rfl
theorem kM_RX2_45_X2_built : Cond.methodLink RX2 45 yX2_built ∈ TB := tb_of 244 (by decide +kernel) rfl
theorem kT_X2_built : Cond.static yX2_built ∈ TB := tb_of 245 (by decide +kernel) rfl
theorem kC_X2_digitsBehind : Cond.code yX2_digitsBehind cX2_digitsBehind 1 (some .int) ∈ TB := tb_of 212 (by decide +kernel) rfl
theorem kM_RX2_30_X2_digitsBehind : Cond.methodLink RX2 30 yX2_digitsBehind ∈ TB := tb_of 210 (by decide +kernel) rfl
theorem kT_X2_digitsBehind : Cond.static yX2_digitsBehind ∈ TB := tb_of 211 (by decide +kernel) rfl
theorem kM_RX2_33_Lib_Math_max_name : Cond.methodLink RX2 33 Lib.Math.max.name ∈ TB := tb_of 221 (by decide +kernel) rfl
theorem kC_X2_lengthAt : Cond.code yX2_lengthAt cX2_lengthAt 2 (some .int) ∈ TB := tb_of 220 (by decide +kernel) rfl
theorem kM_RX2_39_X2_lengthAt : Cond.methodLink RX2 39 yX2_lengthAt ∈ TB := tb_of 217 (by decide +kernel) rfl
theorem kI_X2_lengthAt : Cond.instanceMethod yX2_lengthAt ∈ TB := tb_of 218 (by decide +kernel) rfl
theorem kS_X2_lengthAt : Cond.selects RX2 yX2_lengthAt yX2_lengthAt ∈ TB := tb_of 219 (by decide +kernel) rfl
theorem kF_RX4_37 : Cond.fieldLink RX4 37 RX4 (TX4 6).2.1 (TX4 6).2.2.1 ∈ TB := tb_of 147 (by decide +kernel) rfl
theorem kF_RX4_10 : Cond.fieldLink RX4 10 RX4 (TX4 0).2.1 (TX4 0).2.2.1 ∈ TB := tb_of 141 (by decide +kernel) rfl
theorem kC_X0_rates : Cond.code yX0_rates cX0_rates 3 (some .int) ∈ TB := tb_of 543 (by decide +kernel) rfl
theorem kM_RX4_215_X0_rates : Cond.methodLink RX4 215 yX0_rates ∈ TB := tb_of 540 (by decide +kernel) rfl
theorem kI_X0_rates : Cond.instanceMethod yX0_rates ∈ TB := tb_of 541 (by decide +kernel) rfl
theorem kS_X0_rates : Cond.selects RX0 yX0_rates yX0_rates ∈ TB := tb_of 542 (by decide +kernel) rfl
theorem kC_X0_dearest : Cond.code yX0_dearest cX0_dearest 3 (some .int) ∈ TB := tb_of 548 (by decide +kernel) rfl
theorem kM_RX4_218_X0_dearest : Cond.methodLink RX4 218 yX0_dearest ∈ TB := tb_of 545 (by decide +kernel) rfl
theorem kI_X0_dearest : Cond.instanceMethod yX0_dearest ∈ TB := tb_of 546 (by decide +kernel) rfl
theorem kS_X0_dearest : Cond.selects RX0 yX0_dearest yX0_dearest ∈ TB := tb_of 547 (by decide +kernel) rfl
theorem kM_RX4_221_Lib_Math_max_name : Cond.methodLink RX4 221 Lib.Math.max.name ∈ TB := tb_of 549 (by decide +kernel) rfl
theorem kM_RX4_226_X0_wetAt : Cond.methodLink RX4 226 yX0_wetAt ∈ TB := tb_of 550 (by decide +kernel) rfl
theorem kC_X0_dryWorks : Cond.code yX0_dryWorks cX0_dryWorks 4 (some .int) ∈ TB := tb_of 554 (by decide +kernel) rfl
theorem kM_RX4_229_X0_dryWorks : Cond.methodLink RX4 229 yX0_dryWorks ∈ TB := tb_of 551 (by decide +kernel) rfl
theorem kI_X0_dryWorks : Cond.instanceMethod yX0_dryWorks ∈ TB := tb_of 552 (by decide +kernel) rfl
theorem kS_X0_dryWorks : Cond.selects RX0 yX0_dryWorks yX0_dryWorks ∈ TB := tb_of 553 (by decide +kernel) rfl
theorem kC_X4_refused : Cond.code yX4_refused cX4_refused 3 (some .int) ∈ TB := tb_of 185 (by decide +kernel) rfl
theorem kM_RX4_43_X4_refused : Cond.methodLink RX4 43 yX4_refused ∈ TB := tb_of 182 (by decide +kernel) rfl
theorem kI_X4_refused : Cond.instanceMethod yX4_refused ∈ TB := tb_of 184 (by decide +kernel) rfl
theorem kS_X4_refused : Cond.selects RX4 yX4_refused yX4_refused ∈ TB := tb_of 0 (by decide +kernel) rfl
theorem kM_RX4_114_X4_isCell : Cond.methodLink RX4 114 yX4_isCell ∈ TB := tb_of 384 (by decide +kernel) rfl
theorem kM_RX4_117_X0_workIn : Cond.methodLink RX4 117 yX0_workIn ∈ TB := tb_of 385 (by decide +kernel) rfl
theorem kF_RX4_22 : Cond.fieldLink RX4 22 RX4 (TX4 3).2.1 (TX4 3).2.2.1 ∈ TB := tb_of 144 (by decide +kernel) rfl
theorem kF_RX4_76 : Cond.fieldLink RX4 76 RX4 (TX4 9).2.1 (TX4 9).2.2.1 ∈ TB := tb_of 150 (by decide +kernel) rfl
theorem kF_RX4_161 : Cond.fieldLink RX4 161 RX4 (TX4 10).2.1 (TX4 10).2.2.1 ∈ TB := tb_of 151 (by decide +kernel) rfl
theorem kC_X4_earlierAt : Cond.code yX4_earlierAt cX4_earlierAt 3 (some (.object "CastlesAreAssessed$Beach")) ∈ TB := tb_of 407 (by decide +kernel) rfl
theorem kM_RX4_164_X4_earlierAt : Cond.methodLink RX4 164 yX4_earlierAt ∈ TB := tb_of 404 (by decide +kernel) rfl
theorem kI_X4_earlierAt : Cond.instanceMethod yX4_earlierAt ∈ TB := tb_of 406 (by decide +kernel) rfl
theorem kS_X4_earlierAt : Cond.selects RX4 yX4_earlierAt yX4_earlierAt ∈ TB := tb_of 7 (by decide +kernel) rfl
theorem kC_X0_becomes : Cond.code yX0_becomes cX0_becomes 3 none ∈ TB := tb_of 231 (by decide +kernel) rfl
theorem kM_RX4_65_X0_becomes : Cond.methodLink RX4 65 yX0_becomes ∈ TB := tb_of 228 (by decide +kernel) rfl
theorem kI_X0_becomes : Cond.instanceMethod yX0_becomes ∈ TB := tb_of 229 (by decide +kernel) rfl
theorem kS_X0_becomes : Cond.selects RX0 yX0_becomes yX0_becomes ∈ TB := tb_of 230 (by decide +kernel) rfl
theorem kF_RX4_29 : Cond.fieldLink RX4 29 RX4 (TX4 4).2.1 (TX4 4).2.2.1 ∈ TB := tb_of 145 (by decide +kernel) rfl
theorem kC_X2_lackPlace : Cond.code yX2_lackPlace cX2_lackPlace 5 (some .int) ∈ TB := tb_of 205 (by decide +kernel) rfl
theorem kM_RX4_59_X2_lackPlace : Cond.methodLink RX4 59 yX2_lackPlace ∈ TB := tb_of 202 (by decide +kernel) rfl
theorem kI_X2_lackPlace : Cond.instanceMethod yX2_lackPlace ∈ TB := tb_of 203 (by decide +kernel) rfl
theorem kS_X2_lackPlace : Cond.selects RX2 yX2_lackPlace yX2_lackPlace ∈ TB := tb_of 204 (by decide +kernel) rfl
theorem kF_RX4_16 : Cond.fieldLink RX4 16 RX4 (TX4 1).2.1 (TX4 1).2.2.1 ∈ TB := tb_of 142 (by decide +kernel) rfl
theorem kC_X2_forget : Cond.code yX2_forget cX2_forget 1 none ∈ TB := tb_of 227 (by decide +kernel) rfl
theorem kM_RX4_62_X2_forget : Cond.methodLink RX4 62 yX2_forget ∈ TB := tb_of 224 (by decide +kernel) rfl
theorem kI_X2_forget : Cond.instanceMethod yX2_forget ∈ TB := tb_of 225 (by decide +kernel) rfl
theorem kS_X2_forget : Cond.selects RX2 yX2_forget yX2_forget ∈ TB := tb_of 226 (by decide +kernel) rfl
theorem kC_X2_size : Cond.code yX2_size cX2_size 1 (some .int) ∈ TB := tb_of 197 (by decide +kernel) rfl
theorem kM_RX4_55_X2_size : Cond.methodLink RX4 55 yX2_size ∈ TB := tb_of 194 (by decide +kernel) rfl
theorem kI_X2_size : Cond.instanceMethod yX2_size ∈ TB := tb_of 195 (by decide +kernel) rfl
theorem kS_X2_size : Cond.selects RX2 yX2_size yX2_size ∈ TB := tb_of 196 (by decide +kernel) rfl
theorem kC_X2_comes : Cond.code yX2_comes cX2_comes 5 (some .boolean) ∈ TB := tb_of 235 (by decide +kernel) rfl
theorem kM_RX4_69_X2_comes : Cond.methodLink RX4 69 yX2_comes ∈ TB := tb_of 232 (by decide +kernel) rfl
theorem kI_X2_comes : Cond.instanceMethod yX2_comes ∈ TB := tb_of 233 (by decide +kernel) rfl
theorem kS_X2_comes : Cond.selects RX2 yX2_comes yX2_comes ∈ TB := tb_of 234 (by decide +kernel) rfl
theorem kM_RX4_73_X2_lengthAt : Cond.methodLink RX4 73 yX2_lengthAt ∈ TB := tb_of 345 (by decide +kernel) rfl
theorem kM_RX4_120_X4_isKind : Cond.methodLink RX4 120 yX4_isKind ∈ TB := tb_of 390 (by decide +kernel) rfl
theorem kM_RX4_126_X0_builds : Cond.methodLink RX4 126 yX0_builds ∈ TB := tb_of 391 (by decide +kernel) rfl
theorem kM_RX4_155_X0_goesOn : Cond.methodLink RX4 155 yX0_goesOn ∈ TB := tb_of 434 (by decide +kernel) rfl
theorem kF_RX4_290 : Cond.fieldLink RX4 290 RX4 (TX4 8).2.1 (TX4 8).2.2.1 ∈ TB := tb_of 149 (by decide +kernel) rfl
theorem kC_X0_wetNow : Cond.code yX0_wetNow cX0_wetNow 1 (some .int) ∈ TB := tb_of 458 (by decide +kernel) rfl
theorem kM_RX4_180_X0_wetNow : Cond.methodLink RX4 180 yX0_wetNow ∈ TB := tb_of 455 (by decide +kernel) rfl
theorem kI_X0_wetNow : Cond.instanceMethod yX0_wetNow ∈ TB := tb_of 456 (by decide +kernel) rfl
theorem kS_X0_wetNow : Cond.selects RX0 yX0_wetNow yX0_wetNow ∈ TB := tb_of 457 (by decide +kernel) rfl
theorem kC_X4_outside : Cond.code yX4_outside cX4_outside 3 (some .int) ∈ TB := tb_of 445 (by decide +kernel) rfl
theorem kM_RX4_168_X4_outside : Cond.methodLink RX4 168 yX4_outside ∈ TB := tb_of 443 (by decide +kernel) rfl
theorem kT_X4_outside : Cond.static yX4_outside ∈ TB := tb_of 444 (by decide +kernel) rfl
theorem kC_X4_inMind : Cond.code yX4_inMind cX4_inMind 2 none ∈ TB := tb_of 454 (by decide +kernel) rfl
theorem kM_RX4_177_X4_inMind : Cond.methodLink RX4 177 yX4_inMind ∈ TB := tb_of 451 (by decide +kernel) rfl
theorem kI_X4_inMind : Cond.instanceMethod yX4_inMind ∈ TB := tb_of 453 (by decide +kernel) rfl
theorem kS_X4_inMind : Cond.selects RX4 yX4_inMind yX4_inMind ∈ TB := tb_of 8 (by decide +kernel) rfl
theorem kM_RX4_96_X0_stands : Cond.methodLink RX4 96 yX0_stands ∈ TB := tb_of 367 (by decide +kernel) rfl
theorem kM_RX4_136_X0_loses : Cond.methodLink RX4 136 yX0_loses ∈ TB := tb_of 409 (by decide +kernel) rfl
theorem kM_RX4_186_X3_has : Cond.methodLink RX4 186 yX3_has ∈ TB := tb_of 467 (by decide +kernel) rfl
theorem kC_X4_dryHours : Cond.code yX4_dryHours cX4_dryHours 4 (some .int) ∈ TB := tb_of 475 (by decide +kernel) rfl
theorem kM_RX4_190_X4_dryHours : Cond.methodLink RX4 190 yX4_dryHours ∈ TB := tb_of 472 (by decide +kernel) rfl
theorem kI_X4_dryHours : Cond.instanceMethod yX4_dryHours ∈ TB := tb_of 474 (by decide +kernel) rfl
theorem kS_X4_dryHours : Cond.selects RX4 yX4_dryHours yX4_dryHours ∈ TB := tb_of 9 (by decide +kernel) rfl
theorem kM_RX4_254_J6_bitCount_0f7a4 : Cond.methodLink RX4 254 yJ6_bitCount_0f7a4 ∈ TB := tb_of 487 (by decide +kernel) rfl
theorem kM_RX4_80_X0_knows : Cond.methodLink RX4 80 yX0_knows ∈ TB := tb_of 350 (by decide +kernel) rfl
theorem kC_X4_lowestBit : Cond.code yX4_lowestBit cX4_lowestBit 1 (some .int) ∈ TB := tb_of 486 (by decide +kernel) rfl
theorem kM_RX4_193_X4_lowestBit : Cond.methodLink RX4 193 yX4_lowestBit ∈ TB := tb_of 484 (by decide +kernel) rfl
theorem kT_X4_lowestBit : Cond.static yX4_lowestBit ∈ TB := tb_of 485 (by decide +kernel) rfl
theorem kC_X2_isFull : Cond.code yX2_isFull cX2_isFull 1 (some .boolean) ∈ TB := tb_of 189 (by decide +kernel) rfl
theorem kM_RX4_47_X2_isFull : Cond.methodLink RX4 47 yX2_isFull ∈ TB := tb_of 186 (by decide +kernel) rfl
theorem kI_X2_isFull : Cond.instanceMethod yX2_isFull ∈ TB := tb_of 187 (by decide +kernel) rfl
theorem kS_X2_isFull : Cond.selects RX2 yX2_isFull yX2_isFull ∈ TB := tb_of 188 (by decide +kernel) rfl
theorem kC_X2_add : Cond.code yX2_add cX2_add 2 none ∈ TB := tb_of 193 (by decide +kernel) rfl
theorem kM_RX4_51_X2_add : Cond.methodLink RX4 51 yX2_add ∈ TB := tb_of 190 (by decide +kernel) rfl
theorem kI_X2_add : Cond.instanceMethod yX2_add ∈ TB := tb_of 191 (by decide +kernel) rfl
theorem kS_X2_add : Cond.selects RX2 yX2_add yX2_add ∈ TB := tb_of 192 (by decide +kernel) rfl
theorem kC_X4_staysDry : Cond.code yX4_staysDry cX4_staysDry 6 (some .boolean) ∈ TB := tb_of 495 (by decide +kernel) rfl
theorem kM_RX4_196_X4_staysDry : Cond.methodLink RX4 196 yX4_staysDry ∈ TB := tb_of 492 (by decide +kernel) rfl
theorem kI_X4_staysDry : Cond.instanceMethod yX4_staysDry ∈ TB := tb_of 494 (by decide +kernel) rfl
theorem kS_X4_staysDry : Cond.selects RX4 yX4_staysDry yX4_staysDry ∈ TB := tb_of 10 (by decide +kernel) rfl
theorem kM_RX4_302_Lib_Math_min_name : Cond.methodLink RX4 302 Lib.Math.min.name ∈ TB := tb_of 408 (by decide +kernel) rfl
theorem kC_X4_notStanding : Cond.code yX4_notStanding cX4_notStanding 2 (some .int) ∈ TB := tb_of 399 (by decide +kernel) rfl
theorem kM_RX4_130_X4_notStanding : Cond.methodLink RX4 130 yX4_notStanding ∈ TB := tb_of 396 (by decide +kernel) rfl
theorem kI_X4_notStanding : Cond.instanceMethod yX4_notStanding ∈ TB := tb_of 398 (by decide +kernel) rfl
theorem kS_X4_notStanding : Cond.selects RX4 yX4_notStanding yX4_notStanding ∈ TB := tb_of 5 (by decide +kernel) rfl
theorem kC_X4_remembers : Cond.code yX4_remembers cX4_remembers 2 none ∈ TB := tb_of 403 (by decide +kernel) rfl
theorem kM_RX4_133_X4_remembers : Cond.methodLink RX4 133 yX4_remembers ∈ TB := tb_of 400 (by decide +kernel) rfl
theorem kI_X4_remembers : Cond.instanceMethod yX4_remembers ∈ TB := tb_of 402 (by decide +kernel) rfl
theorem kS_X4_remembers : Cond.selects RX4 yX4_remembers yX4_remembers ∈ TB := tb_of 6 (by decide +kernel) rfl
theorem kM_RX4_93_X0_wornOf : Cond.methodLink RX4 93 yX0_wornOf ∈ TB := tb_of 363 (by decide +kernel) rfl
theorem kM_RX4_142_X0_wears : Cond.methodLink RX4 142 yX0_wears ∈ TB := tb_of 424 (by decide +kernel) rfl
theorem kF_RX4_33 : Cond.fieldLink RX4 33 RX4 (TX4 5).2.1 (TX4 5).2.2.1 ∈ TB := tb_of 146 (by decide +kernel) rfl
theorem kC_X4_floodsAsTold : Cond.code yX4_floodsAsTold cX4_floodsAsTold 2 (some .boolean) ∈ TB := tb_of 574 (by decide +kernel) rfl
theorem kM_RX4_238_X4_floodsAsTold : Cond.methodLink RX4 238 yX4_floodsAsTold ∈ TB := tb_of 571 (by decide +kernel) rfl
theorem kI_X4_floodsAsTold : Cond.instanceMethod yX4_floodsAsTold ∈ TB := tb_of 573 (by decide +kernel) rfl
theorem kS_X4_floodsAsTold : Cond.selects RX4 yX4_floodsAsTold yX4_floodsAsTold ∈ TB := tb_of 18 (by decide +kernel) rfl
theorem kF_RX4_19 : Cond.fieldLink RX4 19 RX4 (TX4 2).2.1 (TX4 2).2.2.1 ∈ TB := tb_of 143 (by decide +kernel) rfl
theorem kF_RX4_296 : Cond.fieldLink RX4 296 RX4 (TX4 11).2.1 (TX4 11).2.2.1 ∈ TB := tb_of 152 (by decide +kernel) rfl
theorem kM_RX4_102_X0_rateOf : Cond.methodLink RX4 102 yX0_rateOf ∈ TB := tb_of 374 (by decide +kernel) rfl
theorem kC_X4_oneKeeper : Cond.code yX4_oneKeeper cX4_oneKeeper 4 (some .int) ∈ TB := tb_of 499 (by decide +kernel) rfl
theorem kM_RX4_200_X4_oneKeeper : Cond.methodLink RX4 200 yX4_oneKeeper ∈ TB := tb_of 496 (by decide +kernel) rfl
theorem kI_X4_oneKeeper : Cond.instanceMethod yX4_oneKeeper ∈ TB := tb_of 498 (by decide +kernel) rfl
theorem kS_X4_oneKeeper : Cond.selects RX4 yX4_oneKeeper yX4_oneKeeper ∈ TB := tb_of 11 (by decide +kernel) rfl
theorem kC_X4_firstOfTwoKeepers : Cond.code yX4_firstOfTwoKeepers cX4_firstOfTwoKeepers 6 (some .int) ∈ TB := tb_of 503 (by decide +kernel) rfl
theorem kM_RX4_203_X4_firstOfTwoKeepers : Cond.methodLink RX4 203 yX4_firstOfTwoKeepers ∈ TB := tb_of 500 (by decide +kernel) rfl
theorem kI_X4_firstOfTwoKeepers : Cond.instanceMethod yX4_firstOfTwoKeepers ∈ TB := tb_of 502 (by decide +kernel) rfl
theorem kS_X4_firstOfTwoKeepers : Cond.selects RX4 yX4_firstOfTwoKeepers yX4_firstOfTwoKeepers ∈ TB := tb_of 12 (by decide +kernel) rfl
theorem kM_RX4_172_X3_height : Cond.methodLink RX4 172 yX3_height ∈ TB := tb_of 446 (by decide +kernel) rfl
theorem kK_RX4_293 : Cond.constant RX4 293 (1103515245) ∈ TB := tb_of 694 (by decide +kernel) rfl
theorem kK_RX4_294 : Cond.constant RX4 294 (2147483647) ∈ TB := tb_of 528 (by decide +kernel) rfl
theorem kK_RX4_295 : Cond.constant RX4 295 (65536) ∈ TB := tb_of 695 (by decide +kernel) rfl
theorem kC_X0_standingWorks : Cond.code yX0_standingWorks cX0_standingWorks 1 (some .int) ∈ TB := tb_of 413 (by decide +kernel) rfl
theorem kM_RX4_139_X0_standingWorks : Cond.methodLink RX4 139 yX0_standingWorks ∈ TB := tb_of 410 (by decide +kernel) rfl
theorem kI_X0_standingWorks : Cond.instanceMethod yX0_standingWorks ∈ TB := tb_of 411 (by decide +kernel) rfl
theorem kS_X0_standingWorks : Cond.selects RX0 yX0_standingWorks yX0_standingWorks ∈ TB := tb_of 412 (by decide +kernel) rfl
theorem kL_RX4_300 : Cond.constantLong RX4 300 (4000000000000000000) ∈ TB := tb_of 600 (by decide +kernel) rfl
theorem kC_X4_fraction : Cond.code yX4_fraction cX4_fraction 12 (some .long) ∈ TB := tb_of 606 (by decide +kernel) rfl
theorem kM_RX4_263_X4_fraction : Cond.methodLink RX4 263 yX4_fraction ∈ TB := tb_of 604 (by decide +kernel) rfl
theorem kT_X4_fraction : Cond.static yX4_fraction ∈ TB := tb_of 605 (by decide +kernel) rfl
theorem kC_X4_refusedLong : Cond.code yX4_refusedLong cX4_refusedLong 2 (some .long) ∈ TB := tb_of 599 (by decide +kernel) rfl
theorem kM_RX4_247_X4_refusedLong : Cond.methodLink RX4 247 yX4_refusedLong ∈ TB := tb_of 596 (by decide +kernel) rfl
theorem kI_X4_refusedLong : Cond.instanceMethod yX4_refusedLong ∈ TB := tb_of 598 (by decide +kernel) rfl
theorem kS_X4_refusedLong : Cond.selects RX4 yX4_refusedLong yX4_refusedLong ∈ TB := tb_of 22 (by decide +kernel) rfl
theorem kK_RX4_276 : Cond.constant RX4 276 (1000000000) ∈ TB := tb_of 654 (by decide +kernel) rfl
theorem kF_RX4_40 : Cond.fieldLink RX4 40 RX4 (TX4 7).2.1 (TX4 7).2.2.1 ∈ TB := tb_of 148 (by decide +kernel) rfl
theorem kM_RX4_90_X0_cellOf : Cond.methodLink RX4 90 yX0_cellOf ∈ TB := tb_of 359 (by decide +kernel) rfl
theorem kM_RX4_308_X3_steps : Cond.methodLink RX4 308 yX3_steps ∈ TB := tb_of 533 (by decide +kernel) rfl
theorem kC_X4_stepsBy : Cond.code yX4_stepsBy cX4_stepsBy 6 (some .int) ∈ TB := tb_of 532 (by decide +kernel) rfl
theorem kM_RX4_305_X4_stepsBy : Cond.methodLink RX4 305 yX4_stepsBy ∈ TB := tb_of 529 (by decide +kernel) rfl
theorem kI_X4_stepsBy : Cond.instanceMethod yX4_stepsBy ∈ TB := tb_of 531 (by decide +kernel) rfl
theorem kS_X4_stepsBy : Cond.selects RX4 yX4_stepsBy yX4_stepsBy ∈ TB := tb_of 16 (by decide +kernel) rfl
theorem kM_RX4_251_X0_anHour : Cond.methodLink RX4 251 yX0_anHour ∈ TB := tb_of 587 (by decide +kernel) rfl
theorem kC_X4_payingFor : Cond.code yX4_payingFor cX4_payingFor 3 none ∈ TB := tb_of 586 (by decide +kernel) rfl
theorem kM_RX4_311_X4_payingFor : Cond.methodLink RX4 311 yX4_payingFor ∈ TB := tb_of 583 (by decide +kernel) rfl
theorem kI_X4_payingFor : Cond.instanceMethod yX4_payingFor ∈ TB := tb_of 585 (by decide +kernel) rfl
theorem kS_X4_payingFor : Cond.selects RX4 yX4_payingFor yX4_payingFor ∈ TB := tb_of 20 (by decide +kernel) rfl
theorem kC_X0_pairsBeside : Cond.code yX0_pairsBeside cX0_pairsBeside 4 (some .int) ∈ TB := tb_of 662 (by decide +kernel) rfl
theorem kM_RX4_277_X0_pairsBeside : Cond.methodLink RX4 277 yX0_pairsBeside ∈ TB := tb_of 659 (by decide +kernel) rfl
theorem kI_X0_pairsBeside : Cond.instanceMethod yX0_pairsBeside ∈ TB := tb_of 660 (by decide +kernel) rfl
theorem kS_X0_pairsBeside : Cond.selects RX0 yX0_pairsBeside yX0_pairsBeside ∈ TB := tb_of 661 (by decide +kernel) rfl
theorem kC_X0_spread : Cond.code yX0_spread cX0_spread 4 (some .int) ∈ TB := tb_of 667 (by decide +kernel) rfl
theorem kM_RX4_280_X0_spread : Cond.methodLink RX4 280 yX0_spread ∈ TB := tb_of 664 (by decide +kernel) rfl
theorem kI_X0_spread : Cond.instanceMethod yX0_spread ∈ TB := tb_of 665 (by decide +kernel) rfl
theorem kS_X0_spread : Cond.selects RX0 yX0_spread yX0_spread ∈ TB := tb_of 666 (by decide +kernel) rfl
theorem kK_RX4_283 : Cond.constant RX4 283 (33554431) ∈ TB := tb_of 668 (by decide +kernel) rfl
theorem kM_RX4_284_X0_standingCells : Cond.methodLink RX4 284 yX0_standingCells ∈ TB := tb_of 669 (by decide +kernel) rfl
theorem kM_RX4_149_X0_settles : Cond.methodLink RX4 149 yX0_settles ∈ TB := tb_of 429 (by decide +kernel) rfl
theorem kC_X4_nextStop : Cond.code yX4_nextStop cX4_nextStop 7 (some .int) ∈ TB := tb_of 527 (by decide +kernel) rfl
theorem kM_RX4_212_X4_nextStop : Cond.methodLink RX4 212 yX4_nextStop ∈ TB := tb_of 524 (by decide +kernel) rfl
theorem kI_X4_nextStop : Cond.instanceMethod yX4_nextStop ∈ TB := tb_of 526 (by decide +kernel) rfl
theorem kS_X4_nextStop : Cond.selects RX4 yX4_nextStop yX4_nextStop ∈ TB := tb_of 15 (by decide +kernel) rfl
theorem kC_X4_stepsOver : Cond.code yX4_stepsOver cX4_stepsOver 4 (some .int) ∈ TB := tb_of 523 (by decide +kernel) rfl
theorem kM_RX4_209_X4_stepsOver : Cond.methodLink RX4 209 yX4_stepsOver ∈ TB := tb_of 520 (by decide +kernel) rfl
theorem kI_X4_stepsOver : Cond.instanceMethod yX4_stepsOver ∈ TB := tb_of 522 (by decide +kernel) rfl
theorem kS_X4_stepsOver : Cond.selects RX4 yX4_stepsOver yX4_stepsOver ∈ TB := tb_of 14 (by decide +kernel) rfl
theorem kC_X4_planRoutes : Cond.code yX4_planRoutes cX4_planRoutes 3 none ∈ TB := tb_of 519 (by decide +kernel) rfl
theorem kM_RX4_206_X4_planRoutes : Cond.methodLink RX4 206 yX4_planRoutes ∈ TB := tb_of 516 (by decide +kernel) rfl
theorem kI_X4_planRoutes : Cond.instanceMethod yX4_planRoutes ∈ TB := tb_of 518 (by decide +kernel) rfl
theorem kS_X4_planRoutes : Cond.selects RX4 yX4_planRoutes yX4_planRoutes ∈ TB := tb_of 13 (by decide +kernel) rfl
theorem kC_X4_power : Cond.code yX4_power cX4_power 5 (some .long) ∈ TB := tb_of 603 (by decide +kernel) rfl
theorem kM_RX4_259_X4_power : Cond.methodLink RX4 259 yX4_power ∈ TB := tb_of 601 (by decide +kernel) rfl
theorem kT_X4_power : Cond.static yX4_power ∈ TB := tb_of 602 (by decide +kernel) rfl
theorem kC_X0_standingOf : Cond.code yX0_standingOf cX0_standingOf 4 (some .int) ∈ TB := tb_of 677 (by decide +kernel) rfl
theorem kM_RX4_287_X0_standingOf : Cond.methodLink RX4 287 yX0_standingOf ∈ TB := tb_of 674 (by decide +kernel) rfl
theorem kI_X0_standingOf : Cond.instanceMethod yX0_standingOf ∈ TB := tb_of 675 (by decide +kernel) rfl
theorem kS_X0_standingOf : Cond.selects RX0 yX0_standingOf yX0_standingOf ∈ TB := tb_of 676 (by decide +kernel) rfl
theorem kC_X4_purseOf : Cond.code yX4_purseOf cX4_purseOf 2 (some .int) ∈ TB := tb_of 582 (by decide +kernel) rfl
theorem kM_RX4_241_X4_purseOf : Cond.methodLink RX4 241 yX4_purseOf ∈ TB := tb_of 579 (by decide +kernel) rfl
theorem kI_X4_purseOf : Cond.instanceMethod yX4_purseOf ∈ TB := tb_of 581 (by decide +kernel) rfl
theorem kS_X4_purseOf : Cond.selects RX4 yX4_purseOf yX4_purseOf ∈ TB := tb_of 19 (by decide +kernel) rfl
theorem kC_X4_owedOf : Cond.code yX4_owedOf cX4_owedOf 2 (some .int) ∈ TB := tb_of 591 (by decide +kernel) rfl
theorem kM_RX4_244_X4_owedOf : Cond.methodLink RX4 244 yX4_owedOf ∈ TB := tb_of 588 (by decide +kernel) rfl
theorem kI_X4_owedOf : Cond.instanceMethod yX4_owedOf ∈ TB := tb_of 590 (by decide +kernel) rfl
theorem kS_X4_owedOf : Cond.selects RX4 yX4_owedOf yX4_owedOf ∈ TB := tb_of 21 (by decide +kernel) rfl
theorem kC_X0_leastBeyond : Cond.code yX0_leastBeyond cX0_leastBeyond 3 (some .int) ∈ TB := tb_of 618 (by decide +kernel) rfl
theorem kM_RX4_267_X0_leastBeyond : Cond.methodLink RX4 267 yX0_leastBeyond ∈ TB := tb_of 615 (by decide +kernel) rfl
theorem kI_X0_leastBeyond : Cond.instanceMethod yX0_leastBeyond ∈ TB := tb_of 616 (by decide +kernel) rfl
theorem kS_X0_leastBeyond : Cond.selects RX0 yX0_leastBeyond yX0_leastBeyond ∈ TB := tb_of 617 (by decide +kernel) rfl
theorem kC_X0_aloneWorks : Cond.code yX0_aloneWorks cX0_aloneWorks 4 (some .int) ∈ TB := tb_of 628 (by decide +kernel) rfl
theorem kM_RX4_270_X0_aloneWorks : Cond.methodLink RX4 270 yX0_aloneWorks ∈ TB := tb_of 625 (by decide +kernel) rfl
theorem kI_X0_aloneWorks : Cond.instanceMethod yX0_aloneWorks ∈ TB := tb_of 626 (by decide +kernel) rfl
theorem kS_X0_aloneWorks : Cond.selects RX0 yX0_aloneWorks yX0_aloneWorks ∈ TB := tb_of 627 (by decide +kernel) rfl
theorem kC_X0_highestWork : Cond.code yX0_highestWork cX0_highestWork 3 (some .int) ∈ TB := tb_of 636 (by decide +kernel) rfl
theorem kM_RX4_273_X0_highestWork : Cond.methodLink RX4 273 yX0_highestWork ∈ TB := tb_of 633 (by decide +kernel) rfl
theorem kI_X0_highestWork : Cond.instanceMethod yX0_highestWork ∈ TB := tb_of 634 (by decide +kernel) rfl
theorem kS_X0_highestWork : Cond.selects RX0 yX0_highestWork yX0_highestWork ∈ TB := tb_of 635 (by decide +kernel) rfl
theorem kM_RX4_84_X0_kindOf : Cond.methodLink RX4 84 yX0_kindOf ∈ TB := tb_of 351 (by decide +kernel) rfl
theorem kM_RX4_87_X0_figureOf : Cond.methodLink RX4 87 yX0_figureOf ∈ TB := tb_of 355 (by decide +kernel) rfl
theorem kC_X0_takesFor : Cond.code yX0_takesFor cX0_takesFor 4 none ∈ TB := tb_of 562 (by decide +kernel) rfl
theorem kM_RX4_232_X0_takesFor : Cond.methodLink RX4 232 yX0_takesFor ∈ TB := tb_of 559 (by decide +kernel) rfl
theorem kI_X0_takesFor : Cond.instanceMethod yX0_takesFor ∈ TB := tb_of 560 (by decide +kernel) rfl
theorem kS_X0_takesFor : Cond.selects RX0 yX0_takesFor yX0_takesFor ∈ TB := tb_of 561 (by decide +kernel) rfl
theorem kC_X4_wearsAsTold : Cond.code yX4_wearsAsTold cX4_wearsAsTold 3 (some .boolean) ∈ TB := tb_of 566 (by decide +kernel) rfl
theorem kM_RX4_235_X4_wearsAsTold : Cond.methodLink RX4 235 yX4_wearsAsTold ∈ TB := tb_of 563 (by decide +kernel) rfl
theorem kI_X4_wearsAsTold : Cond.instanceMethod yX4_wearsAsTold ∈ TB := tb_of 565 (by decide +kernel) rfl
theorem kS_X4_wearsAsTold : Cond.selects RX4 yX4_wearsAsTold yX4_wearsAsTold ∈ TB := tb_of 17 (by decide +kernel) rfl
theorem kM_RX4_99_X0_holdsOf : Cond.methodLink RX4 99 yX0_holdsOf ∈ TB := tb_of 368 (by decide +kernel) rfl
theorem kM_RX4_105_X1_letsFor : Cond.methodLink RX4 105 yX1_letsFor ∈ TB := tb_of 378 (by decide +kernel) rfl
theorem kM_RX4_111_X1_stopsSea : Cond.methodLink RX4 111 yX1_stopsSea ∈ TB := tb_of 379 (by decide +kernel) rfl
theorem kF_RX5_221 : Cond.fieldLink RX5 221 RX5 (TX5 28).2.1 (TX5 28).2.2.1 ∈ TB := tb_of 742 (by decide +kernel) rfl
theorem kF_RX5_224 : Cond.fieldLink RX5 224 RX5 (TX5 29).2.1 (TX5 29).2.2.1 ∈ TB := tb_of 743 (by decide +kernel) rfl
theorem kF_RX5_227 : Cond.fieldLink RX5 227 RX5 (TX5 27).2.1 (TX5 27).2.2.1 ∈ TB := tb_of 741 (by decide +kernel) rfl
theorem kF_RX5_77 : Cond.fieldLink RX5 77 RX5 (TX5 0).2.1 (TX5 0).2.2.1 ∈ TB := tb_of 714 (by decide +kernel) rfl
theorem kC_X5_carry : Cond.code yX5_carry cX5_carry 2 (some .int) ∈ TB := tb_of 882 (by decide +kernel) rfl
theorem kM_RX5_230_X5_carry : Cond.methodLink RX5 230 yX5_carry ∈ TB := tb_of 879 (by decide +kernel) rfl
theorem kI_X5_carry : Cond.instanceMethod yX5_carry ∈ TB := tb_of 881 (by decide +kernel) rfl
theorem kS_X5_carry : Cond.selects RX5 yX5_carry yX5_carry ∈ TB := tb_of 31 (by decide +kernel) rfl
theorem kN_RX5 : Cond.initialized RX5 ∈ TB := tb_of 72 (by decide +kernel) rfl
theorem kF_RX5_131 : Cond.fieldLink RX5 131 RX5 (TX5 6).2.1 (TX5 6).2.2.1 ∈ TB := tb_of 720 (by decide +kernel) rfl
theorem kF_RX5_137 : Cond.fieldLink RX5 137 RX5 (TX5 7).2.1 (TX5 7).2.2.1 ∈ TB := tb_of 721 (by decide +kernel) rfl
theorem kF_RX5_114 : Cond.fieldLink RX5 114 RX5 (TX5 8).2.1 (TX5 8).2.2.1 ∈ TB := tb_of 722 (by decide +kernel) rfl
theorem kF_RX5_7 : Cond.fieldLink RX5 7 RX5 (TX5 1).2.1 (TX5 1).2.2.1 ∈ TB := tb_of 715 (by decide +kernel) rfl
theorem kF_RX5_13 : Cond.fieldLink RX5 13 RX5 (TX5 2).2.1 (TX5 2).2.2.1 ∈ TB := tb_of 716 (by decide +kernel) rfl
theorem kF_RX5_16 : Cond.fieldLink RX5 16 RX5 (TX5 3).2.1 (TX5 3).2.2.1 ∈ TB := tb_of 717 (by decide +kernel) rfl
theorem kF_RX5_19 : Cond.fieldLink RX5 19 RX5 (TX5 4).2.1 (TX5 4).2.2.1 ∈ TB := tb_of 718 (by decide +kernel) rfl
theorem kF_RX5_22 : Cond.fieldLink RX5 22 RX5 (TX5 5).2.1 (TX5 5).2.2.1 ∈ TB := tb_of 719 (by decide +kernel) rfl
theorem kF_RX5_46 : Cond.fieldLink RX5 46 RX5 (TX5 24).2.1 (TX5 24).2.2.1 ∈ TB := tb_of 738 (by decide +kernel) rfl
theorem kC_X5_carryAll : Cond.code yX5_carryAll cX5_carryAll 4 none ∈ TB := tb_of 878 (by decide +kernel) rfl
theorem kM_RX5_233_X5_carryAll : Cond.methodLink RX5 233 yX5_carryAll ∈ TB := tb_of 875 (by decide +kernel) rfl
theorem kI_X5_carryAll : Cond.instanceMethod yX5_carryAll ∈ TB := tb_of 877 (by decide +kernel) rfl
theorem kS_X5_carryAll : Cond.selects RX5 yX5_carryAll yX5_carryAll ∈ TB := tb_of 30 (by decide +kernel) rfl
theorem kC_X5_areBeside : Cond.code yX5_areBeside cX5_areBeside 4 (some .boolean) ∈ TB := tb_of 1172 (by decide +kernel) rfl
theorem kM_RX5_317_X5_areBeside : Cond.methodLink RX5 317 yX5_areBeside ∈ TB := tb_of 1170 (by decide +kernel) rfl
theorem kT_X5_areBeside : Cond.static yX5_areBeside ∈ TB := tb_of 1171 (by decide +kernel) rfl
theorem kC_X5_hasBit : Cond.code yX5_hasBit cX5_hasBit 2 (some .boolean) ∈ TB := tb_of 932 (by decide +kernel) rfl
theorem kM_RX5_93_X5_hasBit : Cond.methodLink RX5 93 yX5_hasBit ∈ TB := tb_of 930 (by decide +kernel) rfl
theorem kT_X5_hasBit : Cond.static yX5_hasBit ∈ TB := tb_of 931 (by decide +kernel) rfl
theorem kC_X5_rateOf : Cond.code yX5_rateOf cX5_rateOf 3 (some .int) ∈ TB := tb_of 951 (by decide +kernel) rfl
theorem kM_RX5_140_X5_rateOf : Cond.methodLink RX5 140 yX5_rateOf ∈ TB := tb_of 948 (by decide +kernel) rfl
theorem kI_X5_rateOf : Cond.instanceMethod yX5_rateOf ∈ TB := tb_of 950 (by decide +kernel) rfl
theorem kS_X5_rateOf : Cond.selects RX5 yX5_rateOf yX5_rateOf ∈ TB := tb_of 44 (by decide +kernel) rfl
theorem kF_RX5_28 : Cond.fieldLink RX5 28 RX5 (TX5 11).2.1 (TX5 11).2.2.1 ∈ TB := tb_of 725 (by decide +kernel) rfl
theorem kF_RX5_90 : Cond.fieldLink RX5 90 RX5 (TX5 12).2.1 (TX5 12).2.2.1 ∈ TB := tb_of 726 (by decide +kernel) rfl
theorem kF_RX5_31 : Cond.fieldLink RX5 31 RX5 (TX5 13).2.1 (TX5 13).2.2.1 ∈ TB := tb_of 727 (by decide +kernel) rfl
theorem kF_RX5_97 : Cond.fieldLink RX5 97 RX5 (TX5 14).2.1 (TX5 14).2.2.1 ∈ TB := tb_of 728 (by decide +kernel) rfl
theorem kC_X5_isStop : Cond.code yX5_isStop cX5_isStop 2 (some .boolean) ∈ TB := tb_of 925 (by decide +kernel) rfl
theorem kM_RX5_100_X5_isStop : Cond.methodLink RX5 100 yX5_isStop ∈ TB := tb_of 922 (by decide +kernel) rfl
theorem kI_X5_isStop : Cond.instanceMethod yX5_isStop ∈ TB := tb_of 924 (by decide +kernel) rfl
theorem kS_X5_isStop : Cond.selects RX5 yX5_isStop yX5_isStop ∈ TB := tb_of 39 (by decide +kernel) rfl
theorem kC_X5_becomeWet : Cond.code yX5_becomeWet cX5_becomeWet 3 none ∈ TB := tb_of 929 (by decide +kernel) rfl
theorem kM_RX5_104_X5_becomeWet : Cond.methodLink RX5 104 yX5_becomeWet ∈ TB := tb_of 926 (by decide +kernel) rfl
theorem kI_X5_becomeWet : Cond.instanceMethod yX5_becomeWet ∈ TB := tb_of 928 (by decide +kernel) rfl
theorem kS_X5_becomeWet : Cond.selects RX5 yX5_becomeWet yX5_becomeWet ∈ TB := tb_of 40 (by decide +kernel) rfl
theorem kC_X5_beside : Cond.code yX5_beside cX5_beside 2 (some .int) ∈ TB := tb_of 935 (by decide +kernel) rfl
theorem kM_RX5_108_X5_beside : Cond.methodLink RX5 108 yX5_beside ∈ TB := tb_of 933 (by decide +kernel) rfl
theorem kT_X5_beside : Cond.static yX5_beside ∈ TB := tb_of 934 (by decide +kernel) rfl
theorem kC_X5_layWet : Cond.code yX5_layWet cX5_layWet 4 none ∈ TB := tb_of 921 (by decide +kernel) rfl
theorem kM_RX5_121_X5_layWet : Cond.methodLink RX5 121 yX5_layWet ∈ TB := tb_of 918 (by decide +kernel) rfl
theorem kI_X5_layWet : Cond.instanceMethod yX5_layWet ∈ TB := tb_of 920 (by decide +kernel) rfl
theorem kS_X5_layWet : Cond.selects RX5 yX5_layWet yX5_layWet ∈ TB := tb_of 38 (by decide +kernel) rfl
theorem kC_X5_isWet : Cond.code yX5_isWet cX5_isWet 2 (some .boolean) ∈ TB := tb_of 943 (by decide +kernel) rfl
theorem kM_RX5_111_X5_isWet : Cond.methodLink RX5 111 yX5_isWet ∈ TB := tb_of 940 (by decide +kernel) rfl
theorem kI_X5_isWet : Cond.instanceMethod yX5_isWet ∈ TB := tb_of 942 (by decide +kernel) rfl
theorem kS_X5_isWet : Cond.selects RX5 yX5_isWet yX5_isWet ∈ TB := tb_of 42 (by decide +kernel) rfl
theorem kF_RX5_25 : Cond.fieldLink RX5 25 RX5 (TX5 10).2.1 (TX5 10).2.2.1 ∈ TB := tb_of 724 (by decide +kernel) rfl
theorem kF_RX5_73 : Cond.fieldLink RX5 73 RX5 (TX5 9).2.1 (TX5 9).2.2.1 ∈ TB := tb_of 723 (by decide +kernel) rfl
theorem kC_X5_standing : Cond.code yX5_standing cX5_standing 3 (some .int) ∈ TB := tb_of 1008 (by decide +kernel) rfl
theorem kM_RX5_251_X5_standing : Cond.methodLink RX5 251 yX5_standing ∈ TB := tb_of 1005 (by decide +kernel) rfl
theorem kI_X5_standing : Cond.instanceMethod yX5_standing ∈ TB := tb_of 1007 (by decide +kernel) rfl
theorem kS_X5_standing : Cond.selects RX5 yX5_standing yX5_standing ∈ TB := tb_of 50 (by decide +kernel) rfl
theorem kC_X5_ratesIn : Cond.code yX5_ratesIn cX5_ratesIn 4 (some .int) ∈ TB := tb_of 1118 (by decide +kernel) rfl
theorem kM_RX5_292_X5_ratesIn : Cond.methodLink RX5 292 yX5_ratesIn ∈ TB := tb_of 1115 (by decide +kernel) rfl
theorem kI_X5_ratesIn : Cond.instanceMethod yX5_ratesIn ∈ TB := tb_of 1117 (by decide +kernel) rfl
theorem kS_X5_ratesIn : Cond.selects RX5 yX5_ratesIn yX5_ratesIn ∈ TB := tb_of 60 (by decide +kernel) rfl
theorem kC_X5_dearestOne : Cond.code yX5_dearestOne cX5_dearestOne 3 (some .int) ∈ TB := tb_of 1122 (by decide +kernel) rfl
theorem kM_RX5_295_X5_dearestOne : Cond.methodLink RX5 295 yX5_dearestOne ∈ TB := tb_of 1119 (by decide +kernel) rfl
theorem kI_X5_dearestOne : Cond.instanceMethod yX5_dearestOne ∈ TB := tb_of 1121 (by decide +kernel) rfl
theorem kS_X5_dearestOne : Cond.selects RX5 yX5_dearestOne yX5_dearestOne ∈ TB := tb_of 61 (by decide +kernel) rfl
theorem kC_X5_held : Cond.code yX5_held cX5_held 2 (some .int) ∈ TB := tb_of 905 (by decide +kernel) rfl
theorem kM_RX5_86_X5_held : Cond.methodLink RX5 86 yX5_held ∈ TB := tb_of 903 (by decide +kernel) rfl
theorem kT_X5_held : Cond.static yX5_held ∈ TB := tb_of 904 (by decide +kernel) rfl
theorem kC_X5_behindBits : Cond.code yX5_behindBits cX5_behindBits 3 (some .int) ∈ TB := tb_of 1126 (by decide +kernel) rfl
theorem kM_RX5_298_X5_behindBits : Cond.methodLink RX5 298 yX5_behindBits ∈ TB := tb_of 1123 (by decide +kernel) rfl
theorem kI_X5_behindBits : Cond.instanceMethod yX5_behindBits ∈ TB := tb_of 1125 (by decide +kernel) rfl
theorem kS_X5_behindBits : Cond.selects RX5 yX5_behindBits yX5_behindBits ∈ TB := tb_of 62 (by decide +kernel) rfl
theorem kC_X5_refuse : Cond.code yX5_refuse cX5_refuse 2 (some .int) ∈ TB := tb_of 842 (by decide +kernel) rfl
theorem kM_RX5_149_X5_refuse : Cond.methodLink RX5 149 yX5_refuse ∈ TB := tb_of 839 (by decide +kernel) rfl
theorem kI_X5_refuse : Cond.instanceMethod yX5_refuse ∈ TB := tb_of 841 (by decide +kernel) rfl
theorem kS_X5_refuse : Cond.selects RX5 yX5_refuse yX5_refuse ∈ TB := tb_of 24 (by decide +kernel) rfl
theorem kL_RX5_84 : Cond.constantLong RX5 84 (24) ∈ TB := tb_of 890 (by decide +kernel) rfl
theorem kC_X5_in : Cond.code yX5_in cX5_in 6 (some .boolean) ∈ TB := tb_of 870 (by decide +kernel) rfl
theorem kM_RX5_80_X5_in : Cond.methodLink RX5 80 yX5_in ∈ TB := tb_of 868 (by decide +kernel) rfl
theorem kT_X5_in : Cond.static yX5_in ∈ TB := tb_of 869 (by decide +kernel) rfl
theorem kC_X5_isCell : Cond.code yX5_isCell cX5_isCell 1 (some .boolean) ∈ TB := tb_of 889 (by decide +kernel) rfl
theorem kM_RX5_185_X5_isCell : Cond.methodLink RX5 185 yX5_isCell ∈ TB := tb_of 887 (by decide +kernel) rfl
theorem kT_X5_isCell : Cond.static yX5_isCell ∈ TB := tb_of 888 (by decide +kernel) rfl
theorem kC_X5_workAt : Cond.code yX5_workAt cX5_workAt 4 (some .int) ∈ TB := tb_of 894 (by decide +kernel) rfl
theorem kM_RX5_188_X5_workAt : Cond.methodLink RX5 188 yX5_workAt ∈ TB := tb_of 891 (by decide +kernel) rfl
theorem kI_X5_workAt : Cond.instanceMethod yX5_workAt ∈ TB := tb_of 893 (by decide +kernel) rfl
theorem kS_X5_workAt : Cond.selects RX5 yX5_workAt yX5_workAt ∈ TB := tb_of 33 (by decide +kernel) rfl
theorem kF_RX5_218 : Cond.fieldLink RX5 218 RX5 (TX5 32).2.1 (TX5 32).2.2.1 ∈ TB := tb_of 746 (by decide +kernel) rfl
theorem kF_RX5_55 : Cond.fieldLink RX5 55 RX5 (TX5 31).2.1 (TX5 31).2.2.1 ∈ TB := tb_of 745 (by decide +kernel) rfl
theorem kF_RX5_52 : Cond.fieldLink RX5 52 RX5 (TX5 30).2.1 (TX5 30).2.2.1 ∈ TB := tb_of 744 (by decide +kernel) rfl
theorem kF_RX5_155 : Cond.fieldLink RX5 155 RX5 (TX5 18).2.1 (TX5 18).2.2.1 ∈ TB := tb_of 732 (by decide +kernel) rfl
theorem kF_RX5_152 : Cond.fieldLink RX5 152 RX5 (TX5 17).2.1 (TX5 17).2.2.1 ∈ TB := tb_of 731 (by decide +kernel) rfl
theorem kF_RX5_34 : Cond.fieldLink RX5 34 RX5 (TX5 16).2.1 (TX5 16).2.2.1 ∈ TB := tb_of 730 (by decide +kernel) rfl
theorem kF_RX5_158 : Cond.fieldLink RX5 158 RX5 (TX5 19).2.1 (TX5 19).2.2.1 ∈ TB := tb_of 733 (by decide +kernel) rfl
theorem kC_X5_here : Cond.code yX5_here cX5_here 1 (some .int) ∈ TB := tb_of 854 (by decide +kernel) rfl
theorem kM_RX5_162_X5_here : Cond.methodLink RX5 162 yX5_here ∈ TB := tb_of 851 (by decide +kernel) rfl
theorem kI_X5_here : Cond.instanceMethod yX5_here ∈ TB := tb_of 853 (by decide +kernel) rfl
theorem kS_X5_here : Cond.selects RX5 yX5_here yX5_here ∈ TB := tb_of 26 (by decide +kernel) rfl
theorem kL_RX5_166 : Cond.constantLong RX5 166 (48) ∈ TB := tb_of 866 (by decide +kernel) rfl
theorem kL_RX5_168 : Cond.constantLong RX5 168 (57) ∈ TB := tb_of 867 (by decide +kernel) rfl
theorem kF_RX5_43 : Cond.fieldLink RX5 43 RX5 (TX5 23).2.1 (TX5 23).2.2.1 ∈ TB := tb_of 737 (by decide +kernel) rfl
theorem kC_X5_readDigits : Cond.code yX5_readDigits cX5_readDigits 4 (some .int) ∈ TB := tb_of 865 (by decide +kernel) rfl
theorem kM_RX5_170_X5_readDigits : Cond.methodLink RX5 170 yX5_readDigits ∈ TB := tb_of 862 (by decide +kernel) rfl
theorem kI_X5_readDigits : Cond.instanceMethod yX5_readDigits ∈ TB := tb_of 864 (by decide +kernel) rfl
theorem kS_X5_readDigits : Cond.selects RX5 yX5_readDigits yX5_readDigits ∈ TB := tb_of 28 (by decide +kernel) rfl
theorem kF_RX5_173 : Cond.fieldLink RX5 173 RX5 (TX5 20).2.1 (TX5 20).2.2.1 ∈ TB := tb_of 734 (by decide +kernel) rfl
theorem kF_RX5_37 : Cond.fieldLink RX5 37 RX5 (TX5 21).2.1 (TX5 21).2.2.1 ∈ TB := tb_of 735 (by decide +kernel) rfl
theorem kF_RX5_40 : Cond.fieldLink RX5 40 RX5 (TX5 22).2.1 (TX5 22).2.2.1 ∈ TB := tb_of 736 (by decide +kernel) rfl
theorem kC_X5_isLetter : Cond.code yX5_isLetter cX5_isLetter 1 (some .boolean) ∈ TB := tb_of 857 (by decide +kernel) rfl
theorem kM_RX5_176_X5_isLetter : Cond.methodLink RX5 176 yX5_isLetter ∈ TB := tb_of 855 (by decide +kernel) rfl
theorem kT_X5_isLetter : Cond.static yX5_isLetter ∈ TB := tb_of 856 (by decide +kernel) rfl
theorem kC_X5_readNumbers : Cond.code yX5_readNumbers cX5_readNumbers 3 none ∈ TB := tb_of 861 (by decide +kernel) rfl
theorem kM_RX5_179_X5_readNumbers : Cond.methodLink RX5 179 yX5_readNumbers ∈ TB := tb_of 858 (by decide +kernel) rfl
theorem kI_X5_readNumbers : Cond.instanceMethod yX5_readNumbers ∈ TB := tb_of 860 (by decide +kernel) rfl
theorem kS_X5_readNumbers : Cond.selects RX5 yX5_readNumbers yX5_readNumbers ∈ TB := tb_of 27 (by decide +kernel) rfl
theorem kC_X5_levelAt : Cond.code yX5_levelAt cX5_levelAt 2 (some .int) ∈ TB := tb_of 917 (by decide +kernel) rfl
theorem kM_RX5_117_X5_levelAt : Cond.methodLink RX5 117 yX5_levelAt ∈ TB := tb_of 915 (by decide +kernel) rfl
theorem kT_X5_levelAt : Cond.static yX5_levelAt ∈ TB := tb_of 916 (by decide +kernel) rfl
theorem kC_X5_isWorn : Cond.code yX5_isWorn cX5_isWorn 5 (some .boolean) ∈ TB := tb_of 939 (by decide +kernel) rfl
theorem kM_RX5_125_X5_isWorn : Cond.methodLink RX5 125 yX5_isWorn ∈ TB := tb_of 936 (by decide +kernel) rfl
theorem kI_X5_isWorn : Cond.instanceMethod yX5_isWorn ∈ TB := tb_of 938 (by decide +kernel) rfl
theorem kS_X5_isWorn : Cond.selects RX5 yX5_isWorn yX5_isWorn ∈ TB := tb_of 41 (by decide +kernel) rfl
theorem kF_RX5_128 : Cond.fieldLink RX5 128 RX5 (TX5 15).2.1 (TX5 15).2.2.1 ∈ TB := tb_of 729 (by decide +kernel) rfl
theorem kC_X5_holdsOf : Cond.code yX5_holdsOf cX5_holdsOf 3 (some .int) ∈ TB := tb_of 955 (by decide +kernel) rfl
theorem kM_RX5_143_X5_holdsOf : Cond.methodLink RX5 143 yX5_holdsOf ∈ TB := tb_of 952 (by decide +kernel) rfl
theorem kI_X5_holdsOf : Cond.instanceMethod yX5_holdsOf ∈ TB := tb_of 954 (by decide +kernel) rfl
theorem kS_X5_holdsOf : Cond.selects RX5 yX5_holdsOf yX5_holdsOf ∈ TB := tb_of 45 (by decide +kernel) rfl
theorem kC_X5_letsOf : Cond.code yX5_letsOf cX5_letsOf 3 (some .int) ∈ TB := tb_of 947 (by decide +kernel) rfl
theorem kM_RX5_134_X5_letsOf : Cond.methodLink RX5 134 yX5_letsOf ∈ TB := tb_of 944 (by decide +kernel) rfl
theorem kI_X5_letsOf : Cond.instanceMethod yX5_letsOf ∈ TB := tb_of 946 (by decide +kernel) rfl
theorem kS_X5_letsOf : Cond.selects RX5 yX5_letsOf yX5_letsOf ∈ TB := tb_of 43 (by decide +kernel) rfl
theorem kC_X5_hourBy : Cond.code yX5_hourBy cX5_hourBy 4 none ∈ TB := tb_of 914 (by decide +kernel) rfl
theorem kM_RX5_146_X5_hourBy : Cond.methodLink RX5 146 yX5_hourBy ∈ TB := tb_of 911 (by decide +kernel) rfl
theorem kI_X5_hourBy : Cond.instanceMethod yX5_hourBy ∈ TB := tb_of 913 (by decide +kernel) rfl
theorem kS_X5_hourBy : Cond.selects RX5 yX5_hourBy yX5_hourBy ∈ TB := tb_of 37 (by decide +kernel) rfl
theorem kC_X5_isWork : Cond.code yX5_isWork cX5_isWork 2 (some .boolean) ∈ TB := tb_of 963 (by decide +kernel) rfl
theorem kM_RX5_182_X5_isWork : Cond.methodLink RX5 182 yX5_isWork ∈ TB := tb_of 960 (by decide +kernel) rfl
theorem kI_X5_isWork : Cond.instanceMethod yX5_isWork ∈ TB := tb_of 962 (by decide +kernel) rfl
theorem kS_X5_isWork : Cond.selects RX5 yX5_isWork yX5_isWork ∈ TB := tb_of 47 (by decide +kernel) rfl
theorem kL_RX5_198 : Cond.constantLong RX5 198 (60) ∈ TB := tb_of 906 (by decide +kernel) rfl
theorem kC_X5_payAll : Cond.code yX5_payAll cX5_payAll 2 (some .int) ∈ TB := tb_of 902 (by decide +kernel) rfl
theorem kM_RX5_195_X5_payAll : Cond.methodLink RX5 195 yX5_payAll ∈ TB := tb_of 899 (by decide +kernel) rfl
theorem kI_X5_payAll : Cond.instanceMethod yX5_payAll ∈ TB := tb_of 901 (by decide +kernel) rfl
theorem kS_X5_payAll : Cond.selects RX5 yX5_payAll yX5_payAll ∈ TB := tb_of 35 (by decide +kernel) rfl
theorem kC_X5_isStanding : Cond.code yX5_isStanding cX5_isStanding 2 (some .boolean) ∈ TB := tb_of 959 (by decide +kernel) rfl
theorem kM_RX5_203_X5_isStanding : Cond.methodLink RX5 203 yX5_isStanding ∈ TB := tb_of 956 (by decide +kernel) rfl
theorem kI_X5_isStanding : Cond.instanceMethod yX5_isStanding ∈ TB := tb_of 958 (by decide +kernel) rfl
theorem kS_X5_isStanding : Cond.selects RX5 yX5_isStanding yX5_isStanding ∈ TB := tb_of 46 (by decide +kernel) rfl
theorem kC_X5_goHours : Cond.code yX5_goHours cX5_goHours 3 none ∈ TB := tb_of 910 (by decide +kernel) rfl
theorem kM_RX5_200_X5_goHours : Cond.methodLink RX5 200 yX5_goHours ∈ TB := tb_of 907 (by decide +kernel) rfl
theorem kI_X5_goHours : Cond.instanceMethod yX5_goHours ∈ TB := tb_of 909 (by decide +kernel) rfl
theorem kS_X5_goHours : Cond.selects RX5 yX5_goHours yX5_goHours ∈ TB := tb_of 36 (by decide +kernel) rfl
theorem kC_X5_workComes : Cond.code yX5_workComes cX5_workComes 4 none ∈ TB := tb_of 898 (by decide +kernel) rfl
theorem kM_RX5_191_X5_workComes : Cond.methodLink RX5 191 yX5_workComes ∈ TB := tb_of 895 (by decide +kernel) rfl
theorem kI_X5_workComes : Cond.instanceMethod yX5_workComes ∈ TB := tb_of 897 (by decide +kernel) rfl
theorem kS_X5_workComes : Cond.selects RX5 yX5_workComes yX5_workComes ∈ TB := tb_of 34 (by decide +kernel) rfl
theorem kC_X5_think : Cond.code yX5_think cX5_think 1 none ∈ TB := tb_of 874 (by decide +kernel) rfl
theorem kM_RX5_209_X5_think : Cond.methodLink RX5 209 yX5_think ∈ TB := tb_of 871 (by decide +kernel) rfl
theorem kI_X5_think : Cond.instanceMethod yX5_think ∈ TB := tb_of 873 (by decide +kernel) rfl
theorem kS_X5_think : Cond.selects RX5 yX5_think yX5_think ∈ TB := tb_of 29 (by decide +kernel) rfl
theorem kC_X5_readStatement : Cond.code yX5_readStatement cX5_readStatement 3 none ∈ TB := tb_of 850 (by decide +kernel) rfl
theorem kM_RX5_206_X5_readStatement : Cond.methodLink RX5 206 yX5_readStatement ∈ TB := tb_of 847 (by decide +kernel) rfl
theorem kI_X5_readStatement : Cond.instanceMethod yX5_readStatement ∈ TB := tb_of 849 (by decide +kernel) rfl
theorem kS_X5_readStatement : Cond.selects RX5 yX5_readStatement yX5_readStatement ∈ TB := tb_of 25 (by decide +kernel) rfl
theorem kC_X5_comesTold : Cond.code yX5_comesTold cX5_comesTold 6 (some .boolean) ∈ TB := tb_of 886 (by decide +kernel) rfl
theorem kM_RX5_212_X5_comesTold : Cond.methodLink RX5 212 yX5_comesTold ∈ TB := tb_of 883 (by decide +kernel) rfl
theorem kI_X5_comesTold : Cond.instanceMethod yX5_comesTold ∈ TB := tb_of 885 (by decide +kernel) rfl
theorem kS_X5_comesTold : Cond.selects RX5 yX5_comesTold yX5_comesTold ∈ TB := tb_of 32 (by decide +kernel) rfl
theorem kC_X5_again : Cond.code yX5_again cX5_again 1 none ∈ TB := tb_of 967 (by decide +kernel) rfl
theorem kM_RX5_215_X5_again : Cond.methodLink RX5 215 yX5_again ∈ TB := tb_of 964 (by decide +kernel) rfl
theorem kI_X5_again : Cond.instanceMethod yX5_again ∈ TB := tb_of 966 (by decide +kernel) rfl
theorem kS_X5_again : Cond.selects RX5 yX5_again yX5_again ∈ TB := tb_of 48 (by decide +kernel) rfl
theorem kL_RX5_242 : Cond.constantLong RX5 242 (5) ∈ TB := tb_of 993 (by decide +kernel) rfl
theorem kF_RX5_301 : Cond.fieldLink RX5 301 RX5 (TX5 36).2.1 (TX5 36).2.2.1 ∈ TB := tb_of 750 (by decide +kernel) rfl
theorem kC_X5_wetNow : Cond.code yX5_wetNow cX5_wetNow 1 (some .int) ∈ TB := tb_of 1035 (by decide +kernel) rfl
theorem kM_RX5_257_X5_wetNow : Cond.methodLink RX5 257 yX5_wetNow ∈ TB := tb_of 1032 (by decide +kernel) rfl
theorem kI_X5_wetNow : Cond.instanceMethod yX5_wetNow ∈ TB := tb_of 1034 (by decide +kernel) rfl
theorem kS_X5_wetNow : Cond.selects RX5 yX5_wetNow yX5_wetNow ∈ TB := tb_of 51 (by decide +kernel) rfl
theorem kL_RX5_341 : Cond.constantLong RX5 341 (11) ∈ TB := tb_of 1230 (by decide +kernel) rfl
theorem kL_RX5_343 : Cond.constantLong RX5 343 (16) ∈ TB := tb_of 1231 (by decide +kernel) rfl
theorem kF_RX5_332 : Cond.fieldLink RX5 332 RX5 (TX5 39).2.1 (TX5 39).2.2.1 ∈ TB := tb_of 753 (by decide +kernel) rfl
theorem kK_RX5_335 : Cond.constant RX5 335 (1103515245) ∈ TB := tb_of 1223 (by decide +kernel) rfl
theorem kK_RX5_336 : Cond.constant RX5 336 (2147483647) ∈ TB := tb_of 1224 (by decide +kernel) rfl
theorem kK_RX5_337 : Cond.constant RX5 337 (65536) ∈ TB := tb_of 1225 (by decide +kernel) rfl
theorem kC_X5_wrongNumber : Cond.code yX5_wrongNumber cX5_wrongNumber 3 (some .int) ∈ TB := tb_of 996 (by decide +kernel) rfl
theorem kM_RX5_244_X5_wrongNumber : Cond.methodLink RX5 244 yX5_wrongNumber ∈ TB := tb_of 994 (by decide +kernel) rfl
theorem kT_X5_wrongNumber : Cond.static yX5_wrongNumber ∈ TB := tb_of 995 (by decide +kernel) rfl
theorem kF_RX5_58 : Cond.fieldLink RX5 58 RX5 (TX5 33).2.1 (TX5 33).2.2.1 ∈ TB := tb_of 747 (by decide +kernel) rfl
theorem kC_X5_layDry : Cond.code yX5_layDry cX5_layDry 4 none ∈ TB := tb_of 1054 (by decide +kernel) rfl
theorem kM_RX5_263_X5_layDry : Cond.methodLink RX5 263 yX5_layDry ∈ TB := tb_of 1051 (by decide +kernel) rfl
theorem kI_X5_layDry : Cond.instanceMethod yX5_layDry ∈ TB := tb_of 1053 (by decide +kernel) rfl
theorem kS_X5_layDry : Cond.selects RX5 yX5_layDry yX5_layDry ∈ TB := tb_of 52 (by decide +kernel) rfl
theorem kL_RX5_266 : Cond.constantLong RX5 266 (-1) ∈ TB := tb_of 1063 (by decide +kernel) rfl
theorem kC_X5_fallOf : Cond.code yX5_fallOf cX5_fallOf 4 (some .int) ∈ TB := tb_of 1067 (by decide +kernel) rfl
theorem kM_RX5_268_X5_fallOf : Cond.methodLink RX5 268 yX5_fallOf ∈ TB := tb_of 1064 (by decide +kernel) rfl
theorem kI_X5_fallOf : Cond.instanceMethod yX5_fallOf ∈ TB := tb_of 1066 (by decide +kernel) rfl
theorem kS_X5_fallOf : Cond.selects RX5 yX5_fallOf yX5_fallOf ∈ TB := tb_of 53 (by decide +kernel) rfl
theorem kC_X5_staysDry : Cond.code yX5_staysDry cX5_staysDry 5 (some .boolean) ∈ TB := tb_of 1075 (by decide +kernel) rfl
theorem kM_RX5_271_X5_staysDry : Cond.methodLink RX5 271 yX5_staysDry ∈ TB := tb_of 1072 (by decide +kernel) rfl
theorem kI_X5_staysDry : Cond.instanceMethod yX5_staysDry ∈ TB := tb_of 1074 (by decide +kernel) rfl
theorem kS_X5_staysDry : Cond.selects RX5 yX5_staysDry yX5_staysDry ∈ TB := tb_of 54 (by decide +kernel) rfl
theorem kC_X5_keepTurn : Cond.code yX5_keepTurn cX5_keepTurn 2 none ∈ TB := tb_of 1004 (by decide +kernel) rfl
theorem kM_RX5_248_X5_keepTurn : Cond.methodLink RX5 248 yX5_keepTurn ∈ TB := tb_of 1001 (by decide +kernel) rfl
theorem kI_X5_keepTurn : Cond.instanceMethod yX5_keepTurn ∈ TB := tb_of 1003 (by decide +kernel) rfl
theorem kS_X5_keepTurn : Cond.selects RX5 yX5_keepTurn yX5_keepTurn ∈ TB := tb_of 49 (by decide +kernel) rfl
theorem kF_RX5_64 : Cond.fieldLink RX5 64 RX5 (TX5 35).2.1 (TX5 35).2.2.1 ∈ TB := tb_of 749 (by decide +kernel) rfl
theorem kC_X5_onesOf : Cond.code yX5_onesOf cX5_onesOf 3 (some .int) ∈ TB := tb_of 1011 (by decide +kernel) rfl
theorem kM_RX5_254_X5_onesOf : Cond.methodLink RX5 254 yX5_onesOf ∈ TB := tb_of 1009 (by decide +kernel) rfl
theorem kT_X5_onesOf : Cond.static yX5_onesOf ∈ TB := tb_of 1010 (by decide +kernel) rfl
theorem kF_RX5_237 : Cond.fieldLink RX5 237 RX5 (TX5 26).2.1 (TX5 26).2.2.1 ∈ TB := tb_of 740 (by decide +kernel) rfl
theorem kF_RX5_49 : Cond.fieldLink RX5 49 RX5 (TX5 25).2.1 (TX5 25).2.2.1 ∈ TB := tb_of 739 (by decide +kernel) rfl
theorem kC_X5_wrongBit : Cond.code yX5_wrongBit cX5_wrongBit 3 (some .int) ∈ TB := tb_of 1042 (by decide +kernel) rfl
theorem kM_RX5_260_X5_wrongBit : Cond.methodLink RX5 260 yX5_wrongBit ∈ TB := tb_of 1040 (by decide +kernel) rfl
theorem kT_X5_wrongBit : Cond.static yX5_wrongBit ∈ TB := tb_of 1041 (by decide +kernel) rfl
theorem kC_X5_firstOfOne : Cond.code yX5_firstOfOne cX5_firstOfOne 4 (some .int) ∈ TB := tb_of 1079 (by decide +kernel) rfl
theorem kM_RX5_274_X5_firstOfOne : Cond.methodLink RX5 274 yX5_firstOfOne ∈ TB := tb_of 1076 (by decide +kernel) rfl
theorem kI_X5_firstOfOne : Cond.instanceMethod yX5_firstOfOne ∈ TB := tb_of 1078 (by decide +kernel) rfl
theorem kS_X5_firstOfOne : Cond.selects RX5 yX5_firstOfOne yX5_firstOfOne ∈ TB := tb_of 55 (by decide +kernel) rfl
theorem kC_X5_firstOfTwo : Cond.code yX5_firstOfTwo cX5_firstOfTwo 5 (some .int) ∈ TB := tb_of 1083 (by decide +kernel) rfl
theorem kM_RX5_277_X5_firstOfTwo : Cond.methodLink RX5 277 yX5_firstOfTwo ∈ TB := tb_of 1080 (by decide +kernel) rfl
theorem kI_X5_firstOfTwo : Cond.instanceMethod yX5_firstOfTwo ∈ TB := tb_of 1082 (by decide +kernel) rfl
theorem kS_X5_firstOfTwo : Cond.selects RX5 yX5_firstOfTwo yX5_firstOfTwo ∈ TB := tb_of 56 (by decide +kernel) rfl
theorem kC_X5_cellOf : Cond.code yX5_cellOf cX5_cellOf 2 (some .int) ∈ TB := tb_of 1103 (by decide +kernel) rfl
theorem kM_RX5_280_X5_cellOf : Cond.methodLink RX5 280 yX5_cellOf ∈ TB := tb_of 1100 (by decide +kernel) rfl
theorem kI_X5_cellOf : Cond.instanceMethod yX5_cellOf ∈ TB := tb_of 1102 (by decide +kernel) rfl
theorem kS_X5_cellOf : Cond.selects RX5 yX5_cellOf yX5_cellOf ∈ TB := tb_of 58 (by decide +kernel) rfl
theorem kC_X5_stepsOf : Cond.code yX5_stepsOf cX5_stepsOf 4 (some .int) ∈ TB := tb_of 1106 (by decide +kernel) rfl
theorem kM_RX5_283_X5_stepsOf : Cond.methodLink RX5 283 yX5_stepsOf ∈ TB := tb_of 1104 (by decide +kernel) rfl
theorem kT_X5_stepsOf : Cond.static yX5_stepsOf ∈ TB := tb_of 1105 (by decide +kernel) rfl
theorem kF_RX5_61 : Cond.fieldLink RX5 61 RX5 (TX5 34).2.1 (TX5 34).2.2.1 ∈ TB := tb_of 748 (by decide +kernel) rfl
theorem kC_X5_drawBelow : Cond.code yX5_drawBelow cX5_drawBelow 2 (some .int) ∈ TB := tb_of 1222 (by decide +kernel) rfl
theorem kM_RX5_338_X5_drawBelow : Cond.methodLink RX5 338 yX5_drawBelow ∈ TB := tb_of 1219 (by decide +kernel) rfl
theorem kI_X5_drawBelow : Cond.instanceMethod yX5_drawBelow ∈ TB := tb_of 1221 (by decide +kernel) rfl
theorem kS_X5_drawBelow : Cond.selects RX5 yX5_drawBelow yX5_drawBelow ∈ TB := tb_of 67 (by decide +kernel) rfl
theorem kC_X5_divisor : Cond.code yX5_divisor cX5_divisor 10 (some .long) ∈ TB := tb_of 1153 (by decide +kernel) rfl
theorem kM_RX5_307_X5_divisor : Cond.methodLink RX5 307 yX5_divisor ∈ TB := tb_of 1151 (by decide +kernel) rfl
theorem kT_X5_divisor : Cond.static yX5_divisor ∈ TB := tb_of 1152 (by decide +kernel) rfl
theorem kL_RX5_311 : Cond.constantLong RX5 311 (4000000000000000000) ∈ TB := tb_of 1147 (by decide +kernel) rfl
theorem kC_X5_partOf : Cond.code yX5_partOf cX5_partOf 7 (some .long) ∈ TB := tb_of 1150 (by decide +kernel) rfl
theorem kM_RX5_313_X5_partOf : Cond.methodLink RX5 313 yX5_partOf ∈ TB := tb_of 1148 (by decide +kernel) rfl
theorem kT_X5_partOf : Cond.static yX5_partOf ∈ TB := tb_of 1149 (by decide +kernel) rfl
theorem kK_RX5_329 : Cond.constant RX5 329 (1000000000) ∈ TB := tb_of 1193 (by decide +kernel) rfl
theorem kL_RX5_330 : Cond.constantLong RX5 330 (2) ∈ TB := tb_of 1198 (by decide +kernel) rfl
theorem kC_X5_layRound : Cond.code yX5_layRound cX5_layRound 6 none ∈ TB := tb_of 1099 (by decide +kernel) rfl
theorem kM_RX5_286_X5_layRound : Cond.methodLink RX5 286 yX5_layRound ∈ TB := tb_of 1096 (by decide +kernel) rfl
theorem kI_X5_layRound : Cond.instanceMethod yX5_layRound ∈ TB := tb_of 1098 (by decide +kernel) rfl
theorem kS_X5_layRound : Cond.selects RX5 yX5_layRound yX5_layRound ∈ TB := tb_of 57 (by decide +kernel) rfl
theorem kC_X5_nextOn : Cond.code yX5_nextOn cX5_nextOn 4 (some .int) ∈ TB := tb_of 1110 (by decide +kernel) rfl
theorem kM_RX5_289_X5_nextOn : Cond.methodLink RX5 289 yX5_nextOn ∈ TB := tb_of 1107 (by decide +kernel) rfl
theorem kI_X5_nextOn : Cond.instanceMethod yX5_nextOn ∈ TB := tb_of 1109 (by decide +kernel) rfl
theorem kS_X5_nextOn : Cond.selects RX5 yX5_nextOn yX5_nextOn ∈ TB := tb_of 59 (by decide +kernel) rfl
theorem kF_RX5_67 : Cond.fieldLink RX5 67 RX5 (TX5 37).2.1 (TX5 37).2.2.1 ∈ TB := tb_of 751 (by decide +kernel) rfl
theorem kF_RX5_70 : Cond.fieldLink RX5 70 RX5 (TX5 38).2.1 (TX5 38).2.2.1 ∈ TB := tb_of 752 (by decide +kernel) rfl
theorem kC_X5_weakestOne : Cond.code yX5_weakestOne cX5_weakestOne 6 (some .int) ∈ TB := tb_of 1165 (by decide +kernel) rfl
theorem kM_RX5_320_X5_weakestOne : Cond.methodLink RX5 320 yX5_weakestOne ∈ TB := tb_of 1162 (by decide +kernel) rfl
theorem kI_X5_weakestOne : Cond.instanceMethod yX5_weakestOne ∈ TB := tb_of 1164 (by decide +kernel) rfl
theorem kS_X5_weakestOne : Cond.selects RX5 yX5_weakestOne yX5_weakestOne ∈ TB := tb_of 64 (by decide +kernel) rfl
theorem kC_X5_aloneBits : Cond.code yX5_aloneBits cX5_aloneBits 5 (some .int) ∈ TB := tb_of 1169 (by decide +kernel) rfl
theorem kM_RX5_323_X5_aloneBits : Cond.methodLink RX5 323 yX5_aloneBits ∈ TB := tb_of 1166 (by decide +kernel) rfl
theorem kI_X5_aloneBits : Cond.instanceMethod yX5_aloneBits ∈ TB := tb_of 1168 (by decide +kernel) rfl
theorem kS_X5_aloneBits : Cond.selects RX5 yX5_aloneBits yX5_aloneBits ∈ TB := tb_of 65 (by decide +kernel) rfl
theorem kC_X5_highestOne : Cond.code yX5_highestOne cX5_highestOne 3 (some .int) ∈ TB := tb_of 1176 (by decide +kernel) rfl
theorem kM_RX5_326_X5_highestOne : Cond.methodLink RX5 326 yX5_highestOne ∈ TB := tb_of 1173 (by decide +kernel) rfl
theorem kI_X5_highestOne : Cond.instanceMethod yX5_highestOne ∈ TB := tb_of 1175 (by decide +kernel) rfl
theorem kS_X5_highestOne : Cond.selects RX5 yX5_highestOne yX5_highestOne ∈ TB := tb_of 66 (by decide +kernel) rfl
theorem kC_X5_isRow : Cond.code yX5_isRow cX5_isRow 4 (some .boolean) ∈ TB := tb_of 1134 (by decide +kernel) rfl
theorem kM_RX5_304_X5_isRow : Cond.methodLink RX5 304 yX5_isRow ∈ TB := tb_of 1131 (by decide +kernel) rfl
theorem kI_X5_isRow : Cond.instanceMethod yX5_isRow ∈ TB := tb_of 1133 (by decide +kernel) rfl
theorem kS_X5_isRow : Cond.selects RX5 yX5_isRow yX5_isRow ∈ TB := tb_of 63 (by decide +kernel) rfl
theorem kL_RX5_240 : Cond.constantLong RX5 240 (8) ∈ TB := tb_of 984 (by decide +kernel) rfl
end
section
/-! J6_bitCount_0f7a4 -/
theorem dJ6_bitCount_0f7a4_0 : decode cJ6_bitCount_0f7a4 0 = .ok (.iload_n 0, 1) := by decide +kernel
theorem dJ6_bitCount_0f7a4_1 : decode cJ6_bitCount_0f7a4 1 = .ok (.iload_n 0, 1) := by decide +kernel
theorem dJ6_bitCount_0f7a4_2 : decode cJ6_bitCount_0f7a4 2 = .ok (.iconst 1, 1) := by decide +kernel
theorem dJ6_bitCount_0f7a4_3 : decode cJ6_bitCount_0f7a4 3 = .ok (.iushr, 1) := by decide +kernel
theorem dJ6_bitCount_0f7a4_4 : decode cJ6_bitCount_0f7a4 4 = .ok (.ldc_w 265, 3) := by decide +kernel
theorem dJ6_bitCount_0f7a4_7 : decode cJ6_bitCount_0f7a4 7 = .ok (.iand, 1) := by decide +kernel
theorem dJ6_bitCount_0f7a4_8 : decode cJ6_bitCount_0f7a4 8 = .ok (.isub, 1) := by decide +kernel
theorem dJ6_bitCount_0f7a4_9 : decode cJ6_bitCount_0f7a4 9 = .ok (.istore_n 0, 1) := by decide +kernel
theorem dJ6_bitCount_0f7a4_10 : decode cJ6_bitCount_0f7a4 10 = .ok (.iload_n 0, 1) := by decide +kernel
theorem dJ6_bitCount_0f7a4_11 : decode cJ6_bitCount_0f7a4 11 = .ok (.ldc_w 266, 3) := by decide +kernel
theorem dJ6_bitCount_0f7a4_14 : decode cJ6_bitCount_0f7a4 14 = .ok (.iand, 1) := by decide +kernel
theorem dJ6_bitCount_0f7a4_15 : decode cJ6_bitCount_0f7a4 15 = .ok (.iload_n 0, 1) := by decide +kernel
theorem dJ6_bitCount_0f7a4_16 : decode cJ6_bitCount_0f7a4 16 = .ok (.iconst 2, 1) := by decide +kernel
theorem dJ6_bitCount_0f7a4_17 : decode cJ6_bitCount_0f7a4 17 = .ok (.iushr, 1) := by decide +kernel
theorem dJ6_bitCount_0f7a4_18 : decode cJ6_bitCount_0f7a4 18 = .ok (.ldc_w 266, 3) := by decide +kernel
theorem dJ6_bitCount_0f7a4_21 : decode cJ6_bitCount_0f7a4 21 = .ok (.iand, 1) := by decide +kernel
theorem dJ6_bitCount_0f7a4_22 : decode cJ6_bitCount_0f7a4 22 = .ok (.iadd, 1) := by decide +kernel
theorem dJ6_bitCount_0f7a4_23 : decode cJ6_bitCount_0f7a4 23 = .ok (.istore_n 0, 1) := by decide +kernel
theorem dJ6_bitCount_0f7a4_24 : decode cJ6_bitCount_0f7a4 24 = .ok (.iload_n 0, 1) := by decide +kernel
theorem dJ6_bitCount_0f7a4_25 : decode cJ6_bitCount_0f7a4 25 = .ok (.iload_n 0, 1) := by decide +kernel
theorem dJ6_bitCount_0f7a4_26 : decode cJ6_bitCount_0f7a4 26 = .ok (.iconst 4, 1) := by decide +kernel
theorem dJ6_bitCount_0f7a4_27 : decode cJ6_bitCount_0f7a4 27 = .ok (.iushr, 1) := by decide +kernel
theorem dJ6_bitCount_0f7a4_28 : decode cJ6_bitCount_0f7a4 28 = .ok (.iadd, 1) := by decide +kernel
theorem dJ6_bitCount_0f7a4_29 : decode cJ6_bitCount_0f7a4 29 = .ok (.ldc_w 267, 3) := by decide +kernel
theorem dJ6_bitCount_0f7a4_32 : decode cJ6_bitCount_0f7a4 32 = .ok (.iand, 1) := by decide +kernel
theorem dJ6_bitCount_0f7a4_33 : decode cJ6_bitCount_0f7a4 33 = .ok (.istore_n 0, 1) := by decide +kernel
theorem dJ6_bitCount_0f7a4_34 : decode cJ6_bitCount_0f7a4 34 = .ok (.iload_n 0, 1) := by decide +kernel
theorem dJ6_bitCount_0f7a4_35 : decode cJ6_bitCount_0f7a4 35 = .ok (.iload_n 0, 1) := by decide +kernel
theorem dJ6_bitCount_0f7a4_36 : decode cJ6_bitCount_0f7a4 36 = .ok (.bipush 8, 2) := by decide +kernel
theorem dJ6_bitCount_0f7a4_38 : decode cJ6_bitCount_0f7a4 38 = .ok (.iushr, 1) := by decide +kernel
theorem dJ6_bitCount_0f7a4_39 : decode cJ6_bitCount_0f7a4 39 = .ok (.iadd, 1) := by decide +kernel
theorem dJ6_bitCount_0f7a4_40 : decode cJ6_bitCount_0f7a4 40 = .ok (.istore_n 0, 1) := by decide +kernel
theorem dJ6_bitCount_0f7a4_41 : decode cJ6_bitCount_0f7a4 41 = .ok (.iload_n 0, 1) := by decide +kernel
theorem dJ6_bitCount_0f7a4_42 : decode cJ6_bitCount_0f7a4 42 = .ok (.iload_n 0, 1) := by decide +kernel
theorem dJ6_bitCount_0f7a4_43 : decode cJ6_bitCount_0f7a4 43 = .ok (.bipush 16, 2) := by decide +kernel
theorem dJ6_bitCount_0f7a4_45 : decode cJ6_bitCount_0f7a4 45 = .ok (.iushr, 1) := by decide +kernel
theorem dJ6_bitCount_0f7a4_46 : decode cJ6_bitCount_0f7a4 46 = .ok (.iadd, 1) := by decide +kernel
theorem dJ6_bitCount_0f7a4_47 : decode cJ6_bitCount_0f7a4 47 = .ok (.istore_n 0, 1) := by decide +kernel
theorem dJ6_bitCount_0f7a4_48 : decode cJ6_bitCount_0f7a4 48 = .ok (.iload_n 0, 1) := by decide +kernel
theorem dJ6_bitCount_0f7a4_49 : decode cJ6_bitCount_0f7a4 49 = .ok (.bipush 63, 2) := by decide +kernel
theorem dJ6_bitCount_0f7a4_51 : decode cJ6_bitCount_0f7a4 51 = .ok (.iand, 1) := by decide +kernel
theorem dJ6_bitCount_0f7a4_52 : decode cJ6_bitCount_0f7a4 52 = .ok (.ireturn, 1) := by decide +kernel
abbrev AJ6_bitCount (G : GG) (Q : Int32 → MM → Prop) := AW G E0 (MZ G (qI Q)) (WY yJ6_bitCount_0f7a4 cJ6_bitCount_0f7a4 1 (some .int)) RJ6 cJ6_bitCount_0f7a4 1 (some .int) ({ frames := 0, cells := 0, slots := 0, locals := 0 } : Room) 0 0
def DJ6_bitCount (x0 : Int32) (M : MM) (Q : Int32 → MM → Prop) : Prop := (fun v1 : Int32 => (fun v2 : Int32 => (fun v3 : Int32 => (fun v4 : Int32 => (fun v5 : Int32 => Q (v5 &&& (63 : Int32)) M) (v4 + ((v4.toUInt32 >>> ((16 : Int32).toUInt32 &&& Int32.toUInt32 31)).toInt32))) (v3 + ((v3.toUInt32 >>> ((8 : Int32).toUInt32 &&& Int32.toUInt32 31)).toInt32))) ((v2 + ((v2.toUInt32 >>> ((4 : Int32).toUInt32 &&& Int32.toUInt32 31)).toInt32)) &&& (252645135 : Int32))) ((v1 &&& (858993459 : Int32)) + (((v1.toUInt32 >>> ((2 : Int32).toUInt32 &&& Int32.toUInt32 31)).toInt32) &&& (858993459 : Int32)))) (x0 - (((x0.toUInt32 >>> ((1 : Int32).toUInt32 &&& Int32.toUInt32 31)).toInt32) &&& (1431655765 : Int32)))
set_option maxHeartbeats 4000000 in
set_option maxRecDepth 100000 in
theorem sJ6_bitCount {G : GG} {x0 : Int32} {M : MM} {Q : Int32 → MM → Prop} (h : DJ6_bitCount x0 M Q) : CM G yJ6_bitCount_0f7a4 (WY yJ6_bitCount_0f7a4 cJ6_bitCount_0f7a4 1 (some .int)) 0 0 [.int x0] M (qI Q) := by
  refine CM.of (cc := cJ6_bitCount_0f7a4) (nL := 1) (ret := (some .int)) (own := RJ6) (by decide +kernel) rfl rfl (Nat.le_of_ble_eq_true rfl) ?_
  show AJ6_bitCount G Q 0 [(0, .int x0)] [] M
  unfold DJ6_bitCount at h
  refine a_iload_n dJ6_bitCount_0f7a4_0 0 rfl ?_
  refine a_iload_n dJ6_bitCount_0f7a4_1 0 rfl ?_
  refine a_iconst (v := 1) dJ6_bitCount_0f7a4_2 (by decide) ?_
  refine a_iushr dJ6_bitCount_0f7a4_3 rfl ?_
  refine a_ldcw dJ6_bitCount_0f7a4_4 (tbc _ kK_RJ6_265) ?_
  refine a_iand dJ6_bitCount_0f7a4_7 ?_
  refine a_isub dJ6_bitCount_0f7a4_8 ?_
  refine a_istore_n (i := 0) (L' := [(0, .int _)]) dJ6_bitCount_0f7a4_9 rfl (by decide) rfl ?_
  refine a_iload_n dJ6_bitCount_0f7a4_10 0 rfl ?_
  refine a_ldcw dJ6_bitCount_0f7a4_11 (tbc _ kK_RJ6_266) ?_
  refine a_iand dJ6_bitCount_0f7a4_14 ?_
  refine a_iload_n dJ6_bitCount_0f7a4_15 0 rfl ?_
  refine a_iconst (v := 2) dJ6_bitCount_0f7a4_16 (by decide) ?_
  refine a_iushr dJ6_bitCount_0f7a4_17 rfl ?_
  refine a_ldcw dJ6_bitCount_0f7a4_18 (tbc _ kK_RJ6_266) ?_
  refine a_iand dJ6_bitCount_0f7a4_21 ?_
  refine a_iadd dJ6_bitCount_0f7a4_22 ?_
  refine a_istore_n (i := 0) (L' := [(0, .int _)]) dJ6_bitCount_0f7a4_23 rfl (by decide) rfl ?_
  refine a_iload_n dJ6_bitCount_0f7a4_24 0 rfl ?_
  refine a_iload_n dJ6_bitCount_0f7a4_25 0 rfl ?_
  refine a_iconst (v := 4) dJ6_bitCount_0f7a4_26 (by decide) ?_
  refine a_iushr dJ6_bitCount_0f7a4_27 rfl ?_
  refine a_iadd dJ6_bitCount_0f7a4_28 ?_
  refine a_ldcw dJ6_bitCount_0f7a4_29 (tbc _ kK_RJ6_267) ?_
  refine a_iand dJ6_bitCount_0f7a4_32 ?_
  refine a_istore_n (i := 0) (L' := [(0, .int _)]) dJ6_bitCount_0f7a4_33 rfl (by decide) rfl ?_
  refine a_iload_n dJ6_bitCount_0f7a4_34 0 rfl ?_
  refine a_iload_n dJ6_bitCount_0f7a4_35 0 rfl ?_
  refine a_bipush (v := 8) dJ6_bitCount_0f7a4_36 (by decide) ?_
  refine a_iushr dJ6_bitCount_0f7a4_38 rfl ?_
  refine a_iadd dJ6_bitCount_0f7a4_39 ?_
  refine a_istore_n (i := 0) (L' := [(0, .int _)]) dJ6_bitCount_0f7a4_40 rfl (by decide) rfl ?_
  refine a_iload_n dJ6_bitCount_0f7a4_41 0 rfl ?_
  refine a_iload_n dJ6_bitCount_0f7a4_42 0 rfl ?_
  refine a_bipush (v := 16) dJ6_bitCount_0f7a4_43 (by decide) ?_
  refine a_iushr dJ6_bitCount_0f7a4_45 rfl ?_
  refine a_iadd dJ6_bitCount_0f7a4_46 ?_
  refine a_istore_n (i := 0) (L' := [(0, .int _)]) dJ6_bitCount_0f7a4_47 rfl (by decide) rfl ?_
  refine a_iload_n dJ6_bitCount_0f7a4_48 0 rfl ?_
  refine a_bipush (v := 63) dJ6_bitCount_0f7a4_49 (by decide) ?_
  refine a_iand dJ6_bitCount_0f7a4_51 ?_
  exact a_iret dJ6_bitCount_0f7a4_52 ⟨_, rfl, h⟩

/-! J9_floorMod_7cf53 -/
theorem dJ9_floorMod_7cf53_0 : decode cJ9_floorMod_7cf53 0 = .ok (.iload_n 0, 1) := by decide +kernel
theorem dJ9_floorMod_7cf53_1 : decode cJ9_floorMod_7cf53 1 = .ok (.iload_n 1, 1) := by decide +kernel
theorem dJ9_floorMod_7cf53_2 : decode cJ9_floorMod_7cf53 2 = .ok (.irem, 1) := by decide +kernel
theorem dJ9_floorMod_7cf53_3 : decode cJ9_floorMod_7cf53 3 = .ok (.istore_n 2, 1) := by decide +kernel
theorem dJ9_floorMod_7cf53_4 : decode cJ9_floorMod_7cf53 4 = .ok (.iload_n 0, 1) := by decide +kernel
theorem dJ9_floorMod_7cf53_5 : decode cJ9_floorMod_7cf53 5 = .ok (.iload_n 1, 1) := by decide +kernel
theorem dJ9_floorMod_7cf53_6 : decode cJ9_floorMod_7cf53 6 = .ok (.ixor, 1) := by decide +kernel
theorem dJ9_floorMod_7cf53_7 : decode cJ9_floorMod_7cf53 7 = .ok (.ifCond .ge 11, 3) := by decide +kernel
theorem dJ9_floorMod_7cf53_10 : decode cJ9_floorMod_7cf53 10 = .ok (.iload_n 2, 1) := by decide +kernel
theorem dJ9_floorMod_7cf53_11 : decode cJ9_floorMod_7cf53 11 = .ok (.ifCond .eq 7, 3) := by decide +kernel
theorem dJ9_floorMod_7cf53_14 : decode cJ9_floorMod_7cf53 14 = .ok (.iload_n 2, 1) := by decide +kernel
theorem dJ9_floorMod_7cf53_15 : decode cJ9_floorMod_7cf53 15 = .ok (.iload_n 1, 1) := by decide +kernel
theorem dJ9_floorMod_7cf53_16 : decode cJ9_floorMod_7cf53 16 = .ok (.iadd, 1) := by decide +kernel
theorem dJ9_floorMod_7cf53_17 : decode cJ9_floorMod_7cf53 17 = .ok (.ireturn, 1) := by decide +kernel
theorem dJ9_floorMod_7cf53_18 : decode cJ9_floorMod_7cf53 18 = .ok (.iload_n 2, 1) := by decide +kernel
theorem dJ9_floorMod_7cf53_19 : decode cJ9_floorMod_7cf53 19 = .ok (.ireturn, 1) := by decide +kernel
abbrev AJ9_floorMod (G : GG) (Q : Int32 → MM → Prop) := AW G E0 (MZ G (qI Q)) (WY yJ9_floorMod_7cf53 cJ9_floorMod_7cf53 3 (some .int)) RJ9 cJ9_floorMod_7cf53 3 (some .int) ({ frames := 0, cells := 0, slots := 0, locals := 0 } : Room) 0 0
def DJ9_floorMod (x0 : Int32) (x1 : Int32) (M : MM) (Q : Int32 → MM → Prop) : Prop := ¬ x1 = 0 ∧ (fun v1 : Int32 => ((0 ≤ (x0 ^^^ x1) → Q v1 M) ∧ (¬ 0 ≤ (x0 ^^^ x1) → ((v1 = 0 → Q v1 M) ∧ (¬ v1 = 0 → Q (v1 + x1) M))))) (x0 - x0 / x1 * x1)
set_option maxHeartbeats 4000000 in
set_option maxRecDepth 100000 in
theorem sJ9_floorMod {G : GG} {x0 : Int32} {x1 : Int32} {M : MM} {Q : Int32 → MM → Prop} (h : DJ9_floorMod x0 x1 M Q) : CM G yJ9_floorMod_7cf53 (WY yJ9_floorMod_7cf53 cJ9_floorMod_7cf53 3 (some .int)) 0 0 [.int x0, .int x1] M (qI Q) := by
  refine CM.of (cc := cJ9_floorMod_7cf53) (nL := 3) (ret := (some .int)) (own := RJ9) (by decide +kernel) rfl rfl (Nat.le_of_ble_eq_true rfl) ?_
  show AJ9_floorMod G Q 0 [(0, .int x0), (1, .int x1)] [] M
  unfold DJ9_floorMod at h
  refine a_iload_n dJ9_floorMod_7cf53_0 0 rfl ?_
  refine a_iload_n dJ9_floorMod_7cf53_1 1 rfl ?_
  refine a_irem dJ9_floorMod_7cf53_2 h.1 ?_
  have h := h.2
  refine a_istore_n (i := 2) (L' := [(2, .int _), (0, .int _), (1, .int _)]) dJ9_floorMod_7cf53_3 rfl (by decide) rfl ?_
  refine a_iload_n dJ9_floorMod_7cf53_4 1 rfl ?_
  refine a_iload_n dJ9_floorMod_7cf53_5 2 rfl ?_
  refine a_ixor dJ9_floorMod_7cf53_6 ?_
  refine a_if_ge (tgt := 18) dJ9_floorMod_7cf53_7 (by decide) (fun c => ?_) (fun c => ?_)
  · have h := h.1 c
    refine a_iload_n dJ9_floorMod_7cf53_18 0 rfl ?_
    exact a_iret dJ9_floorMod_7cf53_19 ⟨_, rfl, h⟩
  · have h := h.2 c
    refine a_iload_n dJ9_floorMod_7cf53_10 0 rfl ?_
    refine a_if_eq (tgt := 18) dJ9_floorMod_7cf53_11 (by decide) (fun c => ?_) (fun c => ?_)
    · have h := h.1 c
      refine a_iload_n dJ9_floorMod_7cf53_18 0 rfl ?_
      exact a_iret dJ9_floorMod_7cf53_19 ⟨_, rfl, h⟩
    · have h := h.2 c
      refine a_iload_n dJ9_floorMod_7cf53_14 0 rfl ?_
      refine a_iload_n dJ9_floorMod_7cf53_15 2 rfl ?_
      refine a_iadd dJ9_floorMod_7cf53_16 ?_
      exact a_iret dJ9_floorMod_7cf53_17 ⟨_, rfl, h⟩

/-! X3_beside -/
theorem dX3_beside_0 : decode cX3_beside 0 = .ok (.iload_n 0, 1) := by decide +kernel
theorem dX3_beside_1 : decode cX3_beside 1 = .ok (.ldc 24, 2) := by decide +kernel
theorem dX3_beside_3 : decode cX3_beside 3 = .ok (.iand, 1) := by decide +kernel
theorem dX3_beside_4 : decode cX3_beside 4 = .ok (.iconst 1, 1) := by decide +kernel
theorem dX3_beside_5 : decode cX3_beside 5 = .ok (.ishl, 1) := by decide +kernel
theorem dX3_beside_6 : decode cX3_beside 6 = .ok (.iload_n 0, 1) := by decide +kernel
theorem dX3_beside_7 : decode cX3_beside 7 = .ok (.ldc 25, 2) := by decide +kernel
theorem dX3_beside_9 : decode cX3_beside 9 = .ok (.iand, 1) := by decide +kernel
theorem dX3_beside_10 : decode cX3_beside 10 = .ok (.iconst 1, 1) := by decide +kernel
theorem dX3_beside_11 : decode cX3_beside 11 = .ok (.ishr, 1) := by decide +kernel
theorem dX3_beside_12 : decode cX3_beside 12 = .ok (.ior, 1) := by decide +kernel
theorem dX3_beside_13 : decode cX3_beside 13 = .ok (.istore_n 1, 1) := by decide +kernel
theorem dX3_beside_14 : decode cX3_beside 14 = .ok (.iload_n 1, 1) := by decide +kernel
theorem dX3_beside_15 : decode cX3_beside 15 = .ok (.iload_n 0, 1) := by decide +kernel
theorem dX3_beside_16 : decode cX3_beside 16 = .ok (.iconst 5, 1) := by decide +kernel
theorem dX3_beside_17 : decode cX3_beside 17 = .ok (.ishl, 1) := by decide +kernel
theorem dX3_beside_18 : decode cX3_beside 18 = .ok (.ior, 1) := by decide +kernel
theorem dX3_beside_19 : decode cX3_beside 19 = .ok (.iload_n 0, 1) := by decide +kernel
theorem dX3_beside_20 : decode cX3_beside 20 = .ok (.iconst 5, 1) := by decide +kernel
theorem dX3_beside_21 : decode cX3_beside 21 = .ok (.ishr, 1) := by decide +kernel
theorem dX3_beside_22 : decode cX3_beside 22 = .ok (.ior, 1) := by decide +kernel
theorem dX3_beside_23 : decode cX3_beside 23 = .ok (.ldc 26, 2) := by decide +kernel
theorem dX3_beside_25 : decode cX3_beside 25 = .ok (.iand, 1) := by decide +kernel
theorem dX3_beside_26 : decode cX3_beside 26 = .ok (.ireturn, 1) := by decide +kernel
abbrev A3_beside (G : GG) (Q : Int32 → MM → Prop) := AW G E0 (MZ G (qI Q)) (WY yX3_beside cX3_beside 2 (some .int)) RX3 cX3_beside 2 (some .int) ({ frames := 0, cells := 0, slots := 0, locals := 0 } : Room) 0 0
def D3_beside (x0 : Int32) (M : MM) (Q : Int32 → MM → Prop) : Prop := (fun v1 : Int32 => Q (((v1 ||| (x0 <<< ((5 : Int32) &&& 31))) ||| (x0 >>> ((5 : Int32) &&& 31))) &&& (33554431 : Int32)) M) (((x0 &&& (16236015 : Int32)) <<< ((1 : Int32) &&& 31)) ||| ((x0 &&& (32472030 : Int32)) >>> ((1 : Int32) &&& 31)))
set_option maxHeartbeats 4000000 in
set_option maxRecDepth 100000 in
theorem s3_beside {G : GG} {x0 : Int32} {M : MM} {Q : Int32 → MM → Prop} (h : D3_beside x0 M Q) : CM G yX3_beside (WY yX3_beside cX3_beside 2 (some .int)) 0 0 [.int x0] M (qI Q) := by
  refine CM.of (cc := cX3_beside) (nL := 2) (ret := (some .int)) (own := RX3) (by decide +kernel) rfl rfl (Nat.le_of_ble_eq_true rfl) ?_
  show A3_beside G Q 0 [(0, .int x0)] [] M
  unfold D3_beside at h
  refine a_iload_n dX3_beside_0 0 rfl ?_
  refine a_ldc dX3_beside_1 (tbc _ kK_RX3_24) ?_
  refine a_iand dX3_beside_3 ?_
  refine a_iconst (v := 1) dX3_beside_4 (by decide) ?_
  refine a_ishl dX3_beside_5 ?_
  refine a_iload_n dX3_beside_6 0 rfl ?_
  refine a_ldc dX3_beside_7 (tbc _ kK_RX3_25) ?_
  refine a_iand dX3_beside_9 ?_
  refine a_iconst (v := 1) dX3_beside_10 (by decide) ?_
  refine a_ishr dX3_beside_11 ?_
  refine a_ior dX3_beside_12 ?_
  refine a_istore_n (i := 1) (L' := [(1, .int _), (0, .int _)]) dX3_beside_13 rfl (by decide) rfl ?_
  refine a_iload_n dX3_beside_14 0 rfl ?_
  refine a_iload_n dX3_beside_15 1 rfl ?_
  refine a_iconst (v := 5) dX3_beside_16 (by decide) ?_
  refine a_ishl dX3_beside_17 ?_
  refine a_ior dX3_beside_18 ?_
  refine a_iload_n dX3_beside_19 1 rfl ?_
  refine a_iconst (v := 5) dX3_beside_20 (by decide) ?_
  refine a_ishr dX3_beside_21 ?_
  refine a_ior dX3_beside_22 ?_
  refine a_ldc dX3_beside_23 (tbc _ kK_RX3_26) ?_
  refine a_iand dX3_beside_25 ?_
  exact a_iret dX3_beside_26 ⟨_, rfl, h⟩

/-! X3_has -/
theorem dX3_has_0 : decode cX3_has 0 = .ok (.iload_n 0, 1) := by decide +kernel
theorem dX3_has_1 : decode cX3_has 1 = .ok (.iload_n 1, 1) := by decide +kernel
theorem dX3_has_2 : decode cX3_has 2 = .ok (.ishr, 1) := by decide +kernel
theorem dX3_has_3 : decode cX3_has 3 = .ok (.iconst 1, 1) := by decide +kernel
theorem dX3_has_4 : decode cX3_has 4 = .ok (.iand, 1) := by decide +kernel
theorem dX3_has_5 : decode cX3_has 5 = .ok (.ifCond .eq 7, 3) := by decide +kernel
theorem dX3_has_8 : decode cX3_has 8 = .ok (.iconst 1, 1) := by decide +kernel
theorem dX3_has_9 : decode cX3_has 9 = .ok (.goto 4, 3) := by decide +kernel
theorem dX3_has_12 : decode cX3_has 12 = .ok (.iconst 0, 1) := by decide +kernel
theorem dX3_has_13 : decode cX3_has 13 = .ok (.ireturn, 1) := by decide +kernel
abbrev A3_has (G : GG) (Q : Int32 → MM → Prop) := AW G E0 (MZ G (qI Q)) (WY yX3_has cX3_has 2 (some .boolean)) RX3 cX3_has 2 (some .boolean) ({ frames := 0, cells := 0, slots := 0, locals := 0 } : Room) 0 0
def D3_has (x0 : Int32) (x1 : Int32) (M : MM) (Q : Int32 → MM → Prop) : Prop := ((((x0 >>> (x1 &&& 31)) &&& (1 : Int32)) = 0 → Q (0 : Int32) M) ∧ (¬ ((x0 >>> (x1 &&& 31)) &&& (1 : Int32)) = 0 → Q (1 : Int32) M))
set_option maxHeartbeats 4000000 in
set_option maxRecDepth 100000 in
theorem s3_has {G : GG} {x0 : Int32} {x1 : Int32} {M : MM} {Q : Int32 → MM → Prop} (h : D3_has x0 x1 M Q) : CM G yX3_has (WY yX3_has cX3_has 2 (some .boolean)) 0 0 [.int x0, .int x1] M (qI Q) := by
  refine CM.of (cc := cX3_has) (nL := 2) (ret := (some .boolean)) (own := RX3) (by decide +kernel) rfl rfl (Nat.le_of_ble_eq_true rfl) ?_
  show A3_has G Q 0 [(0, .int x0), (1, .int x1)] [] M
  unfold D3_has at h
  refine a_iload_n dX3_has_0 0 rfl ?_
  refine a_iload_n dX3_has_1 1 rfl ?_
  refine a_ishr dX3_has_2 ?_
  refine a_iconst (v := 1) dX3_has_3 (by decide) ?_
  refine a_iand dX3_has_4 ?_
  refine a_if_eq (tgt := 12) dX3_has_5 (by decide) (fun c => ?_) (fun c => ?_)
  · have h := h.1 c
    refine a_iconst (v := 0) dX3_has_12 (by decide) ?_
    exact a_zret dX3_has_13 (Or.inl rfl) ⟨_, rfl, h⟩
  · have h := h.2 c
    refine a_iconst (v := 1) dX3_has_8 (by decide) ?_
    refine a_goto (tgt := 13) dX3_has_9 (by decide) ?_
    exact a_zret dX3_has_13 (Or.inr rfl) ⟨_, rfl, h⟩

/-! X3_height -/
theorem dX3_height_0 : decode cX3_height 0 = .ok (.iconst 0, 1) := by decide +kernel
theorem dX3_height_1 : decode cX3_height 1 = .ok (.iconst 5, 1) := by decide +kernel
theorem dX3_height_2 : decode cX3_height 2 = .ok (.iload_n 0, 1) := by decide +kernel
theorem dX3_height_3 : decode cX3_height 3 = .ok (.bipush 12, 2) := by decide +kernel
theorem dX3_height_5 : decode cX3_height 5 = .ok (.invokestatic 11, 3) := by decide +kernel
theorem dX3_height_8 : decode cX3_height 8 = .ok (.bipush 6, 2) := by decide +kernel
theorem dX3_height_10 : decode cX3_height 10 = .ok (.isub, 1) := by decide +kernel
theorem dX3_height_11 : decode cX3_height 11 = .ok (.invokestatic 17, 3) := by decide +kernel
theorem dX3_height_14 : decode cX3_height 14 = .ok (.isub, 1) := by decide +kernel
theorem dX3_height_15 : decode cX3_height 15 = .ok (.invokestatic 21, 3) := by decide +kernel
theorem dX3_height_18 : decode cX3_height 18 = .ok (.ireturn, 1) := by decide +kernel
abbrev A3_height (G : GG) (Q : Int32 → MM → Prop) := AW G E0 (MZ G (qI Q)) (WY yX3_height cX3_height 1 (some .int)) RX3 cX3_height 1 (some .int) ({ frames := 1, cells := 0, slots := 0, locals := 22 } : Room) 0 0
def D3_height (x0 : Int32) (M : MM) (Q : Int32 → MM → Prop) : Prop := DJ9_floorMod x0 (12 : Int32) M (fun (r1 : Int32) (M2 : MM) => Q (if (0 : Int32) < ((5 : Int32) - (if 0 ≤ (r1 - (6 : Int32)) then (r1 - (6 : Int32)) else 0 - (r1 - (6 : Int32)))) then ((5 : Int32) - (if 0 ≤ (r1 - (6 : Int32)) then (r1 - (6 : Int32)) else 0 - (r1 - (6 : Int32)))) else (0 : Int32)) M2)
set_option maxHeartbeats 4000000 in
set_option maxRecDepth 100000 in
theorem s3_height {G : GG} {x0 : Int32} {M : MM} {Q : Int32 → MM → Prop} (h : D3_height x0 M Q) : CM G yX3_height (WY yX3_height cX3_height 1 (some .int)) 1 22 [.int x0] M (qI Q) := by
  refine CM.of (cc := cX3_height) (nL := 1) (ret := (some .int)) (own := RX3) (by decide +kernel) rfl rfl (Nat.le_of_ble_eq_true rfl) ?_
  show A3_height G Q 0 [(0, .int x0)] [] M
  unfold D3_height at h
  refine a_iconst (v := 0) dX3_height_0 (by decide) ?_
  refine a_iconst (v := 5) dX3_height_1 (by decide) ?_
  refine a_iload_n dX3_height_2 0 rfl ?_
  refine a_bipush (v := 12) dX3_height_3 (by decide) ?_
  refine a_callSi (n := 2) [.int _, .int _] dX3_height_5 (sJ9_floorMod h) (gS tbc kM_RX3_11_J9_floorMod_7cf53 kT_J9_floorMod_7cf53 kN_RJ9 kC_J9_floorMod_7cf53) rfl (by decide +kernel) ⟨Nat.le_of_ble_eq_true rfl, Nat.le_of_ble_eq_true rfl⟩ rfl rfl (Nat.le_of_ble_eq_true rfl) ⟨Nat.le_refl 0, Nat.le_refl 0⟩ (fun r M h => ?_)
  refine a_bipush (v := 6) dX3_height_8 (by decide) ?_
  refine a_isub dX3_height_10 ?_
  refine a_mabs dX3_height_11 (tbc _ kM_RX3_17_Lib_Math_abs_name) (tbc _ kT_Lib_Math_abs_name) (tbc _ kN_Math) (tbc _ kC_Lib_Math_abs_name) (Nat.le_of_ble_eq_true rfl) (Nat.le_of_ble_eq_true rfl) (Nat.le_refl 0) (Nat.le_refl 0) ?_
  refine a_isub dX3_height_14 ?_
  refine a_mmax dX3_height_15 (tbc _ kM_RX3_21_Lib_Math_max_name) (tbc _ kT_Lib_Math_max_name) (tbc _ kN_Math) (tbc _ kC_Lib_Math_max_name) (Nat.le_of_ble_eq_true rfl) (Nat.le_of_ble_eq_true rfl) (Nat.le_refl 0) (Nat.le_refl 0) ?_
  exact a_iret dX3_height_18 ⟨_, rfl, h⟩

/-! X3_lowestRows -/
theorem dX3_lowestRows_0 : decode cX3_lowestRows 0 = .ok (.ldc 26, 2) := by decide +kernel
theorem dX3_lowestRows_2 : decode cX3_lowestRows 2 = .ok (.ldc 26, 2) := by decide +kernel
theorem dX3_lowestRows_4 : decode cX3_lowestRows 4 = .ok (.iconst 5, 1) := by decide +kernel
theorem dX3_lowestRows_5 : decode cX3_lowestRows 5 = .ok (.iconst 5, 1) := by decide +kernel
theorem dX3_lowestRows_6 : decode cX3_lowestRows 6 = .ok (.iload_n 0, 1) := by decide +kernel
theorem dX3_lowestRows_7 : decode cX3_lowestRows 7 = .ok (.isub, 1) := by decide +kernel
theorem dX3_lowestRows_8 : decode cX3_lowestRows 8 = .ok (.imul, 1) := by decide +kernel
theorem dX3_lowestRows_9 : decode cX3_lowestRows 9 = .ok (.ishl, 1) := by decide +kernel
theorem dX3_lowestRows_10 : decode cX3_lowestRows 10 = .ok (.iand, 1) := by decide +kernel
theorem dX3_lowestRows_11 : decode cX3_lowestRows 11 = .ok (.ireturn, 1) := by decide +kernel
abbrev A3_lowestRows (G : GG) (Q : Int32 → MM → Prop) := AW G E0 (MZ G (qI Q)) (WY yX3_lowestRows cX3_lowestRows 1 (some .int)) RX3 cX3_lowestRows 1 (some .int) ({ frames := 0, cells := 0, slots := 0, locals := 0 } : Room) 0 0
def D3_lowestRows (x0 : Int32) (M : MM) (Q : Int32 → MM → Prop) : Prop := Q ((33554431 : Int32) &&& ((33554431 : Int32) <<< (((5 : Int32) * ((5 : Int32) - x0)) &&& 31))) M
set_option maxHeartbeats 4000000 in
set_option maxRecDepth 100000 in
theorem s3_lowestRows {G : GG} {x0 : Int32} {M : MM} {Q : Int32 → MM → Prop} (h : D3_lowestRows x0 M Q) : CM G yX3_lowestRows (WY yX3_lowestRows cX3_lowestRows 1 (some .int)) 0 0 [.int x0] M (qI Q) := by
  refine CM.of (cc := cX3_lowestRows) (nL := 1) (ret := (some .int)) (own := RX3) (by decide +kernel) rfl rfl (Nat.le_of_ble_eq_true rfl) ?_
  show A3_lowestRows G Q 0 [(0, .int x0)] [] M
  unfold D3_lowestRows at h
  refine a_ldc dX3_lowestRows_0 (tbc _ kK_RX3_26) ?_
  refine a_ldc dX3_lowestRows_2 (tbc _ kK_RX3_26) ?_
  refine a_iconst (v := 5) dX3_lowestRows_4 (by decide) ?_
  refine a_iconst (v := 5) dX3_lowestRows_5 (by decide) ?_
  refine a_iload_n dX3_lowestRows_6 0 rfl ?_
  refine a_isub dX3_lowestRows_7 ?_
  refine a_imul dX3_lowestRows_8 ?_
  refine a_ishl dX3_lowestRows_9 ?_
  refine a_iand dX3_lowestRows_10 ?_
  exact a_iret dX3_lowestRows_11 ⟨_, rfl, h⟩

/-! X1_stopsSea -/
theorem dX1_stopsSea_0 : decode cX1_stopsSea 0 = .ok (.iload_n 0, 1) := by decide +kernel
theorem dX1_stopsSea_1 : decode cX1_stopsSea 1 = .ok (.iconst 2, 1) := by decide +kernel
theorem dX1_stopsSea_2 : decode cX1_stopsSea 2 = .ok (.if_icmp .eq 7, 3) := by decide +kernel
theorem dX1_stopsSea_5 : decode cX1_stopsSea 5 = .ok (.iconst 1, 1) := by decide +kernel
theorem dX1_stopsSea_6 : decode cX1_stopsSea 6 = .ok (.goto 4, 3) := by decide +kernel
theorem dX1_stopsSea_9 : decode cX1_stopsSea 9 = .ok (.iconst 0, 1) := by decide +kernel
theorem dX1_stopsSea_10 : decode cX1_stopsSea 10 = .ok (.ireturn, 1) := by decide +kernel
abbrev A1_stopsSea (G : GG) (Q : Int32 → MM → Prop) := AW G E0 (MZ G (qI Q)) (WY yX1_stopsSea cX1_stopsSea 1 (some .boolean)) RX1 cX1_stopsSea 1 (some .boolean) ({ frames := 0, cells := 0, slots := 0, locals := 0 } : Room) 0 0
def D1_stopsSea (x0 : Int32) (M : MM) (Q : Int32 → MM → Prop) : Prop := ((x0 = (2 : Int32) → Q (0 : Int32) M) ∧ (¬ x0 = (2 : Int32) → Q (1 : Int32) M))
set_option maxHeartbeats 4000000 in
set_option maxRecDepth 100000 in
theorem s1_stopsSea {G : GG} {x0 : Int32} {M : MM} {Q : Int32 → MM → Prop} (h : D1_stopsSea x0 M Q) : CM G yX1_stopsSea (WY yX1_stopsSea cX1_stopsSea 1 (some .boolean)) 0 0 [.int x0] M (qI Q) := by
  refine CM.of (cc := cX1_stopsSea) (nL := 1) (ret := (some .boolean)) (own := RX1) (by decide +kernel) rfl rfl (Nat.le_of_ble_eq_true rfl) ?_
  show A1_stopsSea G Q 0 [(0, .int x0)] [] M
  unfold D1_stopsSea at h
  refine a_iload_n dX1_stopsSea_0 0 rfl ?_
  refine a_iconst (v := 2) dX1_stopsSea_1 (by decide) ?_
  refine a_icmp_eq (tgt := 9) dX1_stopsSea_2 (by decide) (fun c => ?_) (fun c => ?_)
  · have h := h.1 c
    refine a_iconst (v := 0) dX1_stopsSea_9 (by decide) ?_
    exact a_zret dX1_stopsSea_10 (Or.inl rfl) ⟨_, rfl, h⟩
  · have h := h.2 c
    refine a_iconst (v := 1) dX1_stopsSea_5 (by decide) ?_
    refine a_goto (tgt := 10) dX1_stopsSea_6 (by decide) ?_
    exact a_zret dX1_stopsSea_10 (Or.inr rfl) ⟨_, rfl, h⟩

/-! X1_letsFor -/
theorem dX1_letsFor_0 : decode cX1_letsFor 0 = .ok (.iload_n 1, 1) := by decide +kernel
theorem dX1_letsFor_1 : decode cX1_letsFor 1 = .ok (.iconst 5, 1) := by decide +kernel
theorem dX1_letsFor_2 : decode cX1_letsFor 2 = .ok (.iadd, 1) := by decide +kernel
theorem dX1_letsFor_3 : decode cX1_letsFor 3 = .ok (.istore_n 2, 1) := by decide +kernel
theorem dX1_letsFor_4 : decode cX1_letsFor 4 = .ok (.iload_n 0, 1) := by decide +kernel
theorem dX1_letsFor_5 : decode cX1_letsFor 5 = .ok (.tableswitch 46 0 4 #[35, 37, 39, 41, 43], 35) := by decide +kernel
theorem dX1_letsFor_40 : decode cX1_letsFor 40 = .ok (.iconst 0, 1) := by decide +kernel
theorem dX1_letsFor_41 : decode cX1_letsFor 41 = .ok (.ireturn, 1) := by decide +kernel
theorem dX1_letsFor_42 : decode cX1_letsFor 42 = .ok (.iload_n 1, 1) := by decide +kernel
theorem dX1_letsFor_43 : decode cX1_letsFor 43 = .ok (.ireturn, 1) := by decide +kernel
theorem dX1_letsFor_44 : decode cX1_letsFor 44 = .ok (.iconst 0, 1) := by decide +kernel
theorem dX1_letsFor_45 : decode cX1_letsFor 45 = .ok (.ireturn, 1) := by decide +kernel
theorem dX1_letsFor_46 : decode cX1_letsFor 46 = .ok (.iload_n 2, 1) := by decide +kernel
theorem dX1_letsFor_47 : decode cX1_letsFor 47 = .ok (.ireturn, 1) := by decide +kernel
theorem dX1_letsFor_48 : decode cX1_letsFor 48 = .ok (.bipush 7, 2) := by decide +kernel
theorem dX1_letsFor_50 : decode cX1_letsFor 50 = .ok (.ireturn, 1) := by decide +kernel
theorem dX1_letsFor_51 : decode cX1_letsFor 51 = .ok (.iload_n 2, 1) := by decide +kernel
theorem dX1_letsFor_52 : decode cX1_letsFor 52 = .ok (.iload_n 1, 1) := by decide +kernel
theorem dX1_letsFor_53 : decode cX1_letsFor 53 = .ok (.iadd, 1) := by decide +kernel
theorem dX1_letsFor_54 : decode cX1_letsFor 54 = .ok (.ireturn, 1) := by decide +kernel
abbrev A1_letsFor (G : GG) (Q : Int32 → MM → Prop) := AW G E0 (MZ G (qI Q)) (WY yX1_letsFor cX1_letsFor 3 (some .int)) RX1 cX1_letsFor 3 (some .int) ({ frames := 0, cells := 0, slots := 0, locals := 0 } : Room) 0 0
def D1_letsFor (x0 : Int32) (x1 : Int32) (M : MM) (Q : Int32 → MM → Prop) : Prop := (fun v1 : Int32 => ((x0 = 0 → Q (0 : Int32) M) ∧ (¬ x0 = 0 → ((x0 = 1 → Q x1 M) ∧ (¬ x0 = 1 → ((x0 = 2 → Q (0 : Int32) M) ∧ (¬ x0 = 2 → ((x0 = 3 → Q v1 M) ∧ (¬ x0 = 3 → ((x0 = 4 → Q (7 : Int32) M) ∧ (¬ x0 = 4 → Q (v1 + x1) M))))))))))) (x1 + (5 : Int32))
set_option maxHeartbeats 4000000 in
set_option maxRecDepth 100000 in
theorem s1_letsFor {G : GG} {x0 : Int32} {x1 : Int32} {M : MM} {Q : Int32 → MM → Prop} (h : D1_letsFor x0 x1 M Q) : CM G yX1_letsFor (WY yX1_letsFor cX1_letsFor 3 (some .int)) 0 0 [.int x0, .int x1] M (qI Q) := by
  refine CM.of (cc := cX1_letsFor) (nL := 3) (ret := (some .int)) (own := RX1) (by decide +kernel) rfl rfl (Nat.le_of_ble_eq_true rfl) ?_
  show A1_letsFor G Q 0 [(0, .int x0), (1, .int x1)] [] M
  unfold D1_letsFor at h
  refine a_iload_n dX1_letsFor_0 1 rfl ?_
  refine a_iconst (v := 5) dX1_letsFor_1 (by decide) ?_
  refine a_iadd dX1_letsFor_2 ?_
  refine a_istore_n (i := 2) (L' := [(2, .int _), (0, .int _), (1, .int _)]) dX1_letsFor_3 rfl (by decide) rfl ?_
  refine a_iload_n dX1_letsFor_4 1 rfl ?_
  refine em_c h (fun c0 h => ?_) (fun c0 h => ?_)
  · refine a_tableIn (off := 35) (tgt := 40) dX1_letsFor_5 (by rw [c0]; decide) (by rw [c0]; decide) (by rw [c0]; rfl) (by decide) ?_
    refine a_iconst (v := 0) dX1_letsFor_40 (by decide) ?_
    exact a_iret dX1_letsFor_41 ⟨_, rfl, h⟩
  · refine em_c h (fun c1 h => ?_) (fun c1 h => ?_)
    · refine a_tableIn (off := 37) (tgt := 42) dX1_letsFor_5 (by rw [c1]; decide) (by rw [c1]; decide) (by rw [c1]; rfl) (by decide) ?_
      refine a_iload_n dX1_letsFor_42 2 rfl ?_
      exact a_iret dX1_letsFor_43 ⟨_, rfl, h⟩
    · refine em_c h (fun c2 h => ?_) (fun c2 h => ?_)
      · refine a_tableIn (off := 39) (tgt := 44) dX1_letsFor_5 (by rw [c2]; decide) (by rw [c2]; decide) (by rw [c2]; rfl) (by decide) ?_
        refine a_iconst (v := 0) dX1_letsFor_44 (by decide) ?_
        exact a_iret dX1_letsFor_45 ⟨_, rfl, h⟩
      · refine em_c h (fun c3 h => ?_) (fun c3 h => ?_)
        · refine a_tableIn (off := 41) (tgt := 46) dX1_letsFor_5 (by rw [c3]; decide) (by rw [c3]; decide) (by rw [c3]; rfl) (by decide) ?_
          refine a_iload_n dX1_letsFor_46 0 rfl ?_
          exact a_iret dX1_letsFor_47 ⟨_, rfl, h⟩
        · refine em_c h (fun c4 h => ?_) (fun c4 h => ?_)
          · refine a_tableIn (off := 43) (tgt := 48) dX1_letsFor_5 (by rw [c4]; decide) (by rw [c4]; decide) (by rw [c4]; rfl) (by decide) ?_
            refine a_bipush (v := 7) dX1_letsFor_48 (by decide) ?_
            exact a_iret dX1_letsFor_50 ⟨_, rfl, h⟩
          · refine a_tableD (tgt := 51) dX1_letsFor_5 (by decide) (fun k h1 h2 e => by have hk : k = 0 ∨ k = 1 ∨ k = 2 ∨ k = 3 ∨ k = 4 := (by omega); rcases hk with rfl | rfl | rfl | rfl | rfl <;> first | rfl | exact absurd e (ne_ti c0 (by decide)) | exact absurd e (ne_ti c1 (by decide)) | exact absurd e (ne_ti c2 (by decide)) | exact absurd e (ne_ti c3 (by decide)) | exact absurd e (ne_ti c4 (by decide))) ?_
            refine a_iload_n dX1_letsFor_51 0 rfl ?_
            refine a_iload_n dX1_letsFor_52 2 rfl ?_
            refine a_iadd dX1_letsFor_53 ?_
            exact a_iret dX1_letsFor_54 ⟨_, rfl, h⟩

/-! X1_rateFor -/
theorem dX1_rateFor_0 : decode cX1_rateFor 0 = .ok (.iload_n 1, 1) := by decide +kernel
theorem dX1_rateFor_1 : decode cX1_rateFor 1 = .ok (.bipush 10, 2) := by decide +kernel
theorem dX1_rateFor_3 : decode cX1_rateFor 3 = .ok (.iadd, 1) := by decide +kernel
theorem dX1_rateFor_4 : decode cX1_rateFor 4 = .ok (.istore_n 2, 1) := by decide +kernel
theorem dX1_rateFor_5 : decode cX1_rateFor 5 = .ok (.iconst 3, 1) := by decide +kernel
theorem dX1_rateFor_6 : decode cX1_rateFor 6 = .ok (.iload_n 2, 1) := by decide +kernel
theorem dX1_rateFor_7 : decode cX1_rateFor 7 = .ok (.imul, 1) := by decide +kernel
theorem dX1_rateFor_8 : decode cX1_rateFor 8 = .ok (.bipush 10, 2) := by decide +kernel
theorem dX1_rateFor_10 : decode cX1_rateFor 10 = .ok (.isub, 1) := by decide +kernel
theorem dX1_rateFor_11 : decode cX1_rateFor 11 = .ok (.istore_n 3, 1) := by decide +kernel
theorem dX1_rateFor_12 : decode cX1_rateFor 12 = .ok (.iload_n 0, 1) := by decide +kernel
theorem dX1_rateFor_13 : decode cX1_rateFor 13 = .ok (.tableswitch 46 0 4 #[35, 37, 39, 41, 43], 35) := by decide +kernel
theorem dX1_rateFor_48 : decode cX1_rateFor 48 = .ok (.iload_n 1, 1) := by decide +kernel
theorem dX1_rateFor_49 : decode cX1_rateFor 49 = .ok (.ireturn, 1) := by decide +kernel
theorem dX1_rateFor_50 : decode cX1_rateFor 50 = .ok (.iload_n 2, 1) := by decide +kernel
theorem dX1_rateFor_51 : decode cX1_rateFor 51 = .ok (.ireturn, 1) := by decide +kernel
theorem dX1_rateFor_52 : decode cX1_rateFor 52 = .ok (.iconst 5, 1) := by decide +kernel
theorem dX1_rateFor_53 : decode cX1_rateFor 53 = .ok (.ireturn, 1) := by decide +kernel
theorem dX1_rateFor_54 : decode cX1_rateFor 54 = .ok (.iload_n 3, 1) := by decide +kernel
theorem dX1_rateFor_55 : decode cX1_rateFor 55 = .ok (.ireturn, 1) := by decide +kernel
theorem dX1_rateFor_56 : decode cX1_rateFor 56 = .ok (.bipush 20, 2) := by decide +kernel
theorem dX1_rateFor_58 : decode cX1_rateFor 58 = .ok (.ireturn, 1) := by decide +kernel
theorem dX1_rateFor_59 : decode cX1_rateFor 59 = .ok (.iconst 2, 1) := by decide +kernel
theorem dX1_rateFor_60 : decode cX1_rateFor 60 = .ok (.iload_n 3, 1) := by decide +kernel
theorem dX1_rateFor_61 : decode cX1_rateFor 61 = .ok (.imul, 1) := by decide +kernel
theorem dX1_rateFor_62 : decode cX1_rateFor 62 = .ok (.ireturn, 1) := by decide +kernel
abbrev A1_rateFor (G : GG) (Q : Int32 → MM → Prop) := AW G E0 (MZ G (qI Q)) (WY yX1_rateFor cX1_rateFor 4 (some .int)) RX1 cX1_rateFor 4 (some .int) ({ frames := 0, cells := 0, slots := 0, locals := 0 } : Room) 0 0
def D1_rateFor (x0 : Int32) (x1 : Int32) (M : MM) (Q : Int32 → MM → Prop) : Prop := (fun v1 : Int32 => (fun v2 : Int32 => ((x0 = 0 → Q x1 M) ∧ (¬ x0 = 0 → ((x0 = 1 → Q v1 M) ∧ (¬ x0 = 1 → ((x0 = 2 → Q (5 : Int32) M) ∧ (¬ x0 = 2 → ((x0 = 3 → Q v2 M) ∧ (¬ x0 = 3 → ((x0 = 4 → Q (20 : Int32) M) ∧ (¬ x0 = 4 → Q ((2 : Int32) * v2) M))))))))))) (((3 : Int32) * v1) - (10 : Int32))) (x1 + (10 : Int32))
set_option maxHeartbeats 4000000 in
set_option maxRecDepth 100000 in
theorem s1_rateFor {G : GG} {x0 : Int32} {x1 : Int32} {M : MM} {Q : Int32 → MM → Prop} (h : D1_rateFor x0 x1 M Q) : CM G yX1_rateFor (WY yX1_rateFor cX1_rateFor 4 (some .int)) 0 0 [.int x0, .int x1] M (qI Q) := by
  refine CM.of (cc := cX1_rateFor) (nL := 4) (ret := (some .int)) (own := RX1) (by decide +kernel) rfl rfl (Nat.le_of_ble_eq_true rfl) ?_
  show A1_rateFor G Q 0 [(0, .int x0), (1, .int x1)] [] M
  unfold D1_rateFor at h
  refine a_iload_n dX1_rateFor_0 1 rfl ?_
  refine a_bipush (v := 10) dX1_rateFor_1 (by decide) ?_
  refine a_iadd dX1_rateFor_3 ?_
  refine a_istore_n (i := 2) (L' := [(2, .int _), (0, .int _), (1, .int _)]) dX1_rateFor_4 rfl (by decide) rfl ?_
  refine a_iconst (v := 3) dX1_rateFor_5 (by decide) ?_
  refine a_iload_n dX1_rateFor_6 0 rfl ?_
  refine a_imul dX1_rateFor_7 ?_
  refine a_bipush (v := 10) dX1_rateFor_8 (by decide) ?_
  refine a_isub dX1_rateFor_10 ?_
  refine a_istore_n (i := 3) (L' := [(3, .int _), (2, .int _), (0, .int _), (1, .int _)]) dX1_rateFor_11 rfl (by decide) rfl ?_
  refine a_iload_n dX1_rateFor_12 2 rfl ?_
  refine em_c h (fun c0 h => ?_) (fun c0 h => ?_)
  · refine a_tableIn (off := 35) (tgt := 48) dX1_rateFor_13 (by rw [c0]; decide) (by rw [c0]; decide) (by rw [c0]; rfl) (by decide) ?_
    refine a_iload_n dX1_rateFor_48 3 rfl ?_
    exact a_iret dX1_rateFor_49 ⟨_, rfl, h⟩
  · refine em_c h (fun c1 h => ?_) (fun c1 h => ?_)
    · refine a_tableIn (off := 37) (tgt := 50) dX1_rateFor_13 (by rw [c1]; decide) (by rw [c1]; decide) (by rw [c1]; rfl) (by decide) ?_
      refine a_iload_n dX1_rateFor_50 1 rfl ?_
      exact a_iret dX1_rateFor_51 ⟨_, rfl, h⟩
    · refine em_c h (fun c2 h => ?_) (fun c2 h => ?_)
      · refine a_tableIn (off := 39) (tgt := 52) dX1_rateFor_13 (by rw [c2]; decide) (by rw [c2]; decide) (by rw [c2]; rfl) (by decide) ?_
        refine a_iconst (v := 5) dX1_rateFor_52 (by decide) ?_
        exact a_iret dX1_rateFor_53 ⟨_, rfl, h⟩
      · refine em_c h (fun c3 h => ?_) (fun c3 h => ?_)
        · refine a_tableIn (off := 41) (tgt := 54) dX1_rateFor_13 (by rw [c3]; decide) (by rw [c3]; decide) (by rw [c3]; rfl) (by decide) ?_
          refine a_iload_n dX1_rateFor_54 0 rfl ?_
          exact a_iret dX1_rateFor_55 ⟨_, rfl, h⟩
        · refine em_c h (fun c4 h => ?_) (fun c4 h => ?_)
          · refine a_tableIn (off := 43) (tgt := 56) dX1_rateFor_13 (by rw [c4]; decide) (by rw [c4]; decide) (by rw [c4]; rfl) (by decide) ?_
            refine a_bipush (v := 20) dX1_rateFor_56 (by decide) ?_
            exact a_iret dX1_rateFor_58 ⟨_, rfl, h⟩
          · refine a_tableD (tgt := 59) dX1_rateFor_13 (by decide) (fun k h1 h2 e => by have hk : k = 0 ∨ k = 1 ∨ k = 2 ∨ k = 3 ∨ k = 4 := (by omega); rcases hk with rfl | rfl | rfl | rfl | rfl <;> first | rfl | exact absurd e (ne_ti c0 (by decide)) | exact absurd e (ne_ti c1 (by decide)) | exact absurd e (ne_ti c2 (by decide)) | exact absurd e (ne_ti c3 (by decide)) | exact absurd e (ne_ti c4 (by decide))) ?_
            refine a_iconst (v := 2) dX1_rateFor_59 (by decide) ?_
            refine a_iload_n dX1_rateFor_60 0 rfl ?_
            refine a_imul dX1_rateFor_61 ?_
            exact a_iret dX1_rateFor_62 ⟨_, rfl, h⟩

/-! X1_holdsFor -/
theorem dX1_holdsFor_0 : decode cX1_holdsFor 0 = .ok (.iload_n 1, 1) := by decide +kernel
theorem dX1_holdsFor_1 : decode cX1_holdsFor 1 = .ok (.iconst 3, 1) := by decide +kernel
theorem dX1_holdsFor_2 : decode cX1_holdsFor 2 = .ok (.idiv, 1) := by decide +kernel
theorem dX1_holdsFor_3 : decode cX1_holdsFor 3 = .ok (.iconst 1, 1) := by decide +kernel
theorem dX1_holdsFor_4 : decode cX1_holdsFor 4 = .ok (.iadd, 1) := by decide +kernel
theorem dX1_holdsFor_5 : decode cX1_holdsFor 5 = .ok (.istore_n 2, 1) := by decide +kernel
theorem dX1_holdsFor_6 : decode cX1_holdsFor 6 = .ok (.iload_n 2, 1) := by decide +kernel
theorem dX1_holdsFor_7 : decode cX1_holdsFor 7 = .ok (.iconst 1, 1) := by decide +kernel
theorem dX1_holdsFor_8 : decode cX1_holdsFor 8 = .ok (.iadd, 1) := by decide +kernel
theorem dX1_holdsFor_9 : decode cX1_holdsFor 9 = .ok (.istore_n 3, 1) := by decide +kernel
theorem dX1_holdsFor_10 : decode cX1_holdsFor 10 = .ok (.iconst 2, 1) := by decide +kernel
theorem dX1_holdsFor_11 : decode cX1_holdsFor 11 = .ok (.iload_n 3, 1) := by decide +kernel
theorem dX1_holdsFor_12 : decode cX1_holdsFor 12 = .ok (.imul, 1) := by decide +kernel
theorem dX1_holdsFor_13 : decode cX1_holdsFor 13 = .ok (.istore 4, 2) := by decide +kernel
theorem dX1_holdsFor_15 : decode cX1_holdsFor 15 = .ok (.iload_n 0, 1) := by decide +kernel
theorem dX1_holdsFor_16 : decode cX1_holdsFor 16 = .ok (.tableswitch 49 0 4 #[36, 38, 40, 44, 47], 36) := by decide +kernel
theorem dX1_holdsFor_52 : decode cX1_holdsFor 52 = .ok (.iload_n 2, 1) := by decide +kernel
theorem dX1_holdsFor_53 : decode cX1_holdsFor 53 = .ok (.ireturn, 1) := by decide +kernel
theorem dX1_holdsFor_54 : decode cX1_holdsFor 54 = .ok (.iload_n 3, 1) := by decide +kernel
theorem dX1_holdsFor_55 : decode cX1_holdsFor 55 = .ok (.ireturn, 1) := by decide +kernel
theorem dX1_holdsFor_56 : decode cX1_holdsFor 56 = .ok (.iload_n 1, 1) := by decide +kernel
theorem dX1_holdsFor_57 : decode cX1_holdsFor 57 = .ok (.iconst 2, 1) := by decide +kernel
theorem dX1_holdsFor_58 : decode cX1_holdsFor 58 = .ok (.iadd, 1) := by decide +kernel
theorem dX1_holdsFor_59 : decode cX1_holdsFor 59 = .ok (.ireturn, 1) := by decide +kernel
theorem dX1_holdsFor_60 : decode cX1_holdsFor 60 = .ok (.iload 4, 2) := by decide +kernel
theorem dX1_holdsFor_62 : decode cX1_holdsFor 62 = .ok (.ireturn, 1) := by decide +kernel
theorem dX1_holdsFor_63 : decode cX1_holdsFor 63 = .ok (.iload_n 3, 1) := by decide +kernel
theorem dX1_holdsFor_64 : decode cX1_holdsFor 64 = .ok (.ireturn, 1) := by decide +kernel
theorem dX1_holdsFor_65 : decode cX1_holdsFor 65 = .ok (.iload 4, 2) := by decide +kernel
theorem dX1_holdsFor_67 : decode cX1_holdsFor 67 = .ok (.iconst 1, 1) := by decide +kernel
theorem dX1_holdsFor_68 : decode cX1_holdsFor 68 = .ok (.isub, 1) := by decide +kernel
theorem dX1_holdsFor_69 : decode cX1_holdsFor 69 = .ok (.ireturn, 1) := by decide +kernel
abbrev A1_holdsFor (G : GG) (Q : Int32 → MM → Prop) := AW G E0 (MZ G (qI Q)) (WY yX1_holdsFor cX1_holdsFor 5 (some .int)) RX1 cX1_holdsFor 5 (some .int) ({ frames := 0, cells := 0, slots := 0, locals := 0 } : Room) 0 0
def D1_holdsFor (x0 : Int32) (x1 : Int32) (M : MM) (Q : Int32 → MM → Prop) : Prop := (fun v1 : Int32 => (fun v2 : Int32 => (fun v3 : Int32 => ((x0 = 0 → Q v1 M) ∧ (¬ x0 = 0 → ((x0 = 1 → Q v2 M) ∧ (¬ x0 = 1 → ((x0 = 2 → Q (x1 + (2 : Int32)) M) ∧ (¬ x0 = 2 → ((x0 = 3 → Q v3 M) ∧ (¬ x0 = 3 → ((x0 = 4 → Q v2 M) ∧ (¬ x0 = 4 → Q (v3 - (1 : Int32)) M))))))))))) ((2 : Int32) * v2)) (v1 + (1 : Int32))) ((x1 / (3 : Int32)) + (1 : Int32))
set_option maxHeartbeats 4000000 in
set_option maxRecDepth 100000 in
theorem s1_holdsFor {G : GG} {x0 : Int32} {x1 : Int32} {M : MM} {Q : Int32 → MM → Prop} (h : D1_holdsFor x0 x1 M Q) : CM G yX1_holdsFor (WY yX1_holdsFor cX1_holdsFor 5 (some .int)) 0 0 [.int x0, .int x1] M (qI Q) := by
  refine CM.of (cc := cX1_holdsFor) (nL := 5) (ret := (some .int)) (own := RX1) (by decide +kernel) rfl rfl (Nat.le_of_ble_eq_true rfl) ?_
  show A1_holdsFor G Q 0 [(0, .int x0), (1, .int x1)] [] M
  unfold D1_holdsFor at h
  refine a_iload_n dX1_holdsFor_0 1 rfl ?_
  refine a_iconst (v := 3) dX1_holdsFor_1 (by decide) ?_
  refine a_idiv dX1_holdsFor_2 (by decide) ?_
  refine a_iconst (v := 1) dX1_holdsFor_3 (by decide) ?_
  refine a_iadd dX1_holdsFor_4 ?_
  refine a_istore_n (i := 2) (L' := [(2, .int _), (0, .int _), (1, .int _)]) dX1_holdsFor_5 rfl (by decide) rfl ?_
  refine a_iload_n dX1_holdsFor_6 0 rfl ?_
  refine a_iconst (v := 1) dX1_holdsFor_7 (by decide) ?_
  refine a_iadd dX1_holdsFor_8 ?_
  refine a_istore_n (i := 3) (L' := [(3, .int _), (2, .int _), (0, .int _), (1, .int _)]) dX1_holdsFor_9 rfl (by decide) rfl ?_
  refine a_iconst (v := 2) dX1_holdsFor_10 (by decide) ?_
  refine a_iload_n dX1_holdsFor_11 0 rfl ?_
  refine a_imul dX1_holdsFor_12 ?_
  refine a_istore (i := 4) (L' := [(4, .int _), (3, .int _), (2, .int _), (0, .int _), (1, .int _)]) dX1_holdsFor_13 (by decide) rfl ?_
  refine a_iload_n dX1_holdsFor_15 3 rfl ?_
  refine em_c h (fun c0 h => ?_) (fun c0 h => ?_)
  · refine a_tableIn (off := 36) (tgt := 52) dX1_holdsFor_16 (by rw [c0]; decide) (by rw [c0]; decide) (by rw [c0]; rfl) (by decide) ?_
    refine a_iload_n dX1_holdsFor_52 2 rfl ?_
    exact a_iret dX1_holdsFor_53 ⟨_, rfl, h⟩
  · refine em_c h (fun c1 h => ?_) (fun c1 h => ?_)
    · refine a_tableIn (off := 38) (tgt := 54) dX1_holdsFor_16 (by rw [c1]; decide) (by rw [c1]; decide) (by rw [c1]; rfl) (by decide) ?_
      refine a_iload_n dX1_holdsFor_54 1 rfl ?_
      exact a_iret dX1_holdsFor_55 ⟨_, rfl, h⟩
    · refine em_c h (fun c2 h => ?_) (fun c2 h => ?_)
      · refine a_tableIn (off := 40) (tgt := 56) dX1_holdsFor_16 (by rw [c2]; decide) (by rw [c2]; decide) (by rw [c2]; rfl) (by decide) ?_
        refine a_iload_n dX1_holdsFor_56 4 rfl ?_
        refine a_iconst (v := 2) dX1_holdsFor_57 (by decide) ?_
        refine a_iadd dX1_holdsFor_58 ?_
        exact a_iret dX1_holdsFor_59 ⟨_, rfl, h⟩
      · refine em_c h (fun c3 h => ?_) (fun c3 h => ?_)
        · refine a_tableIn (off := 44) (tgt := 60) dX1_holdsFor_16 (by rw [c3]; decide) (by rw [c3]; decide) (by rw [c3]; rfl) (by decide) ?_
          refine a_iload dX1_holdsFor_60 0 rfl ?_
          exact a_iret dX1_holdsFor_62 ⟨_, rfl, h⟩
        · refine em_c h (fun c4 h => ?_) (fun c4 h => ?_)
          · refine a_tableIn (off := 47) (tgt := 63) dX1_holdsFor_16 (by rw [c4]; decide) (by rw [c4]; decide) (by rw [c4]; rfl) (by decide) ?_
            refine a_iload_n dX1_holdsFor_63 1 rfl ?_
            exact a_iret dX1_holdsFor_64 ⟨_, rfl, h⟩
          · refine a_tableD (tgt := 65) dX1_holdsFor_16 (by decide) (fun k h1 h2 e => by have hk : k = 0 ∨ k = 1 ∨ k = 2 ∨ k = 3 ∨ k = 4 := (by omega); rcases hk with rfl | rfl | rfl | rfl | rfl <;> first | rfl | exact absurd e (ne_ti c0 (by decide)) | exact absurd e (ne_ti c1 (by decide)) | exact absurd e (ne_ti c2 (by decide)) | exact absurd e (ne_ti c3 (by decide)) | exact absurd e (ne_ti c4 (by decide))) ?_
            refine a_iload dX1_holdsFor_65 0 rfl ?_
            refine a_iconst (v := 1) dX1_holdsFor_67 (by decide) ?_
            refine a_isub dX1_holdsFor_68 ?_
            exact a_iret dX1_holdsFor_69 ⟨_, rfl, h⟩

/-! X3_steps -/
theorem dX3_steps_0 : decode cX3_steps 0 = .ok (.iload_n 0, 1) := by decide +kernel
theorem dX3_steps_1 : decode cX3_steps 1 = .ok (.iconst 5, 1) := by decide +kernel
theorem dX3_steps_2 : decode cX3_steps 2 = .ok (.idiv, 1) := by decide +kernel
theorem dX3_steps_3 : decode cX3_steps 3 = .ok (.iload_n 1, 1) := by decide +kernel
theorem dX3_steps_4 : decode cX3_steps 4 = .ok (.iconst 5, 1) := by decide +kernel
theorem dX3_steps_5 : decode cX3_steps 5 = .ok (.idiv, 1) := by decide +kernel
theorem dX3_steps_6 : decode cX3_steps 6 = .ok (.isub, 1) := by decide +kernel
theorem dX3_steps_7 : decode cX3_steps 7 = .ok (.invokestatic 17, 3) := by decide +kernel
theorem dX3_steps_10 : decode cX3_steps 10 = .ok (.iload_n 0, 1) := by decide +kernel
theorem dX3_steps_11 : decode cX3_steps 11 = .ok (.iconst 5, 1) := by decide +kernel
theorem dX3_steps_12 : decode cX3_steps 12 = .ok (.irem, 1) := by decide +kernel
theorem dX3_steps_13 : decode cX3_steps 13 = .ok (.iload_n 1, 1) := by decide +kernel
theorem dX3_steps_14 : decode cX3_steps 14 = .ok (.iconst 5, 1) := by decide +kernel
theorem dX3_steps_15 : decode cX3_steps 15 = .ok (.irem, 1) := by decide +kernel
theorem dX3_steps_16 : decode cX3_steps 16 = .ok (.isub, 1) := by decide +kernel
theorem dX3_steps_17 : decode cX3_steps 17 = .ok (.invokestatic 17, 3) := by decide +kernel
theorem dX3_steps_20 : decode cX3_steps 20 = .ok (.iadd, 1) := by decide +kernel
theorem dX3_steps_21 : decode cX3_steps 21 = .ok (.ireturn, 1) := by decide +kernel
abbrev A3_steps (G : GG) (Q : Int32 → MM → Prop) := AW G E0 (MZ G (qI Q)) (WY yX3_steps cX3_steps 2 (some .int)) RX3 cX3_steps 2 (some .int) ({ frames := 1, cells := 0, slots := 0, locals := 21 } : Room) 0 0
def D3_steps (x0 : Int32) (x1 : Int32) (M : MM) (Q : Int32 → MM → Prop) : Prop := Q ((if 0 ≤ ((x0 / (5 : Int32)) - (x1 / (5 : Int32))) then ((x0 / (5 : Int32)) - (x1 / (5 : Int32))) else 0 - ((x0 / (5 : Int32)) - (x1 / (5 : Int32)))) + (if 0 ≤ ((x0 - x0 / (5 : Int32) * (5 : Int32)) - (x1 - x1 / (5 : Int32) * (5 : Int32))) then ((x0 - x0 / (5 : Int32) * (5 : Int32)) - (x1 - x1 / (5 : Int32) * (5 : Int32))) else 0 - ((x0 - x0 / (5 : Int32) * (5 : Int32)) - (x1 - x1 / (5 : Int32) * (5 : Int32))))) M
set_option maxHeartbeats 4000000 in
set_option maxRecDepth 100000 in
theorem s3_steps {G : GG} {x0 : Int32} {x1 : Int32} {M : MM} {Q : Int32 → MM → Prop} (h : D3_steps x0 x1 M Q) : CM G yX3_steps (WY yX3_steps cX3_steps 2 (some .int)) 1 21 [.int x0, .int x1] M (qI Q) := by
  refine CM.of (cc := cX3_steps) (nL := 2) (ret := (some .int)) (own := RX3) (by decide +kernel) rfl rfl (Nat.le_of_ble_eq_true rfl) ?_
  show A3_steps G Q 0 [(0, .int x0), (1, .int x1)] [] M
  unfold D3_steps at h
  refine a_iload_n dX3_steps_0 0 rfl ?_
  refine a_iconst (v := 5) dX3_steps_1 (by decide) ?_
  refine a_idiv dX3_steps_2 (by decide) ?_
  refine a_iload_n dX3_steps_3 1 rfl ?_
  refine a_iconst (v := 5) dX3_steps_4 (by decide) ?_
  refine a_idiv dX3_steps_5 (by decide) ?_
  refine a_isub dX3_steps_6 ?_
  refine a_mabs dX3_steps_7 (tbc _ kM_RX3_17_Lib_Math_abs_name) (tbc _ kT_Lib_Math_abs_name) (tbc _ kN_Math) (tbc _ kC_Lib_Math_abs_name) (Nat.le_of_ble_eq_true rfl) (Nat.le_of_ble_eq_true rfl) (Nat.le_refl 0) (Nat.le_refl 0) ?_
  refine a_iload_n dX3_steps_10 0 rfl ?_
  refine a_iconst (v := 5) dX3_steps_11 (by decide) ?_
  refine a_irem dX3_steps_12 (by decide) ?_
  refine a_iload_n dX3_steps_13 1 rfl ?_
  refine a_iconst (v := 5) dX3_steps_14 (by decide) ?_
  refine a_irem dX3_steps_15 (by decide) ?_
  refine a_isub dX3_steps_16 ?_
  refine a_mabs dX3_steps_17 (tbc _ kM_RX3_17_Lib_Math_abs_name) (tbc _ kT_Lib_Math_abs_name) (tbc _ kN_Math) (tbc _ kC_Lib_Math_abs_name) (Nat.le_of_ble_eq_true rfl) (Nat.le_of_ble_eq_true rfl) (Nat.le_refl 0) (Nat.le_refl 0) ?_
  refine a_iadd dX3_steps_20 ?_
  exact a_iret dX3_steps_21 ⟨_, rfl, h⟩

/-! X4_isKind -/
theorem dX4_isKind_0 : decode cX4_isKind 0 = .ok (.iload_n 0, 1) := by decide +kernel
theorem dX4_isKind_1 : decode cX4_isKind 1 = .ok (.ifCond .lt 13, 3) := by decide +kernel
theorem dX4_isKind_4 : decode cX4_isKind 4 = .ok (.iload_n 0, 1) := by decide +kernel
theorem dX4_isKind_5 : decode cX4_isKind 5 = .ok (.bipush 6, 2) := by decide +kernel
theorem dX4_isKind_7 : decode cX4_isKind 7 = .ok (.if_icmp .ge 7, 3) := by decide +kernel
theorem dX4_isKind_10 : decode cX4_isKind 10 = .ok (.iconst 1, 1) := by decide +kernel
theorem dX4_isKind_11 : decode cX4_isKind 11 = .ok (.goto 4, 3) := by decide +kernel
theorem dX4_isKind_14 : decode cX4_isKind 14 = .ok (.iconst 0, 1) := by decide +kernel
theorem dX4_isKind_15 : decode cX4_isKind 15 = .ok (.ireturn, 1) := by decide +kernel
abbrev A4_isKind (G : GG) (Q : Int32 → MM → Prop) := AW G E0 (MZ G (qI Q)) (WY yX4_isKind cX4_isKind 1 (some .boolean)) RX4 cX4_isKind 1 (some .boolean) ({ frames := 0, cells := 0, slots := 0, locals := 0 } : Room) 0 0
def D4_isKind (x0 : Int32) (M : MM) (Q : Int32 → MM → Prop) : Prop := ((x0 < 0 → Q (0 : Int32) M) ∧ (¬ x0 < 0 → (((6 : Int32) ≤ x0 → Q (0 : Int32) M) ∧ (¬ (6 : Int32) ≤ x0 → Q (1 : Int32) M))))
set_option maxHeartbeats 4000000 in
set_option maxRecDepth 100000 in
theorem s4_isKind {G : GG} {x0 : Int32} {M : MM} {Q : Int32 → MM → Prop} (h : D4_isKind x0 M Q) : CM G yX4_isKind (WY yX4_isKind cX4_isKind 1 (some .boolean)) 0 0 [.int x0] M (qI Q) := by
  refine CM.of (cc := cX4_isKind) (nL := 1) (ret := (some .boolean)) (own := RX4) (by decide +kernel) rfl rfl (Nat.le_of_ble_eq_true rfl) ?_
  show A4_isKind G Q 0 [(0, .int x0)] [] M
  unfold D4_isKind at h
  refine a_iload_n dX4_isKind_0 0 rfl ?_
  refine a_if_lt (tgt := 14) dX4_isKind_1 (by decide) (fun c => ?_) (fun c => ?_)
  · have h := h.1 c
    refine a_iconst (v := 0) dX4_isKind_14 (by decide) ?_
    exact a_zret dX4_isKind_15 (Or.inl rfl) ⟨_, rfl, h⟩
  · have h := h.2 c
    refine a_iload_n dX4_isKind_4 0 rfl ?_
    refine a_bipush (v := 6) dX4_isKind_5 (by decide) ?_
    refine a_icmp_ge (tgt := 14) dX4_isKind_7 (by decide) (fun c => ?_) (fun c => ?_)
    · have h := h.1 c
      refine a_iconst (v := 0) dX4_isKind_14 (by decide) ?_
      exact a_zret dX4_isKind_15 (Or.inl rfl) ⟨_, rfl, h⟩
    · have h := h.2 c
      refine a_iconst (v := 1) dX4_isKind_10 (by decide) ?_
      refine a_goto (tgt := 15) dX4_isKind_11 (by decide) ?_
      exact a_zret dX4_isKind_15 (Or.inr rfl) ⟨_, rfl, h⟩

/-! X4_isCell -/
theorem dX4_isCell_0 : decode cX4_isCell 0 = .ok (.iload_n 0, 1) := by decide +kernel
theorem dX4_isCell_1 : decode cX4_isCell 1 = .ok (.ifCond .lt 13, 3) := by decide +kernel
theorem dX4_isCell_4 : decode cX4_isCell 4 = .ok (.iload_n 0, 1) := by decide +kernel
theorem dX4_isCell_5 : decode cX4_isCell 5 = .ok (.bipush 25, 2) := by decide +kernel
theorem dX4_isCell_7 : decode cX4_isCell 7 = .ok (.if_icmp .ge 7, 3) := by decide +kernel
theorem dX4_isCell_10 : decode cX4_isCell 10 = .ok (.iconst 1, 1) := by decide +kernel
theorem dX4_isCell_11 : decode cX4_isCell 11 = .ok (.goto 4, 3) := by decide +kernel
theorem dX4_isCell_14 : decode cX4_isCell 14 = .ok (.iconst 0, 1) := by decide +kernel
theorem dX4_isCell_15 : decode cX4_isCell 15 = .ok (.ireturn, 1) := by decide +kernel
abbrev A4_isCell (G : GG) (Q : Int32 → MM → Prop) := AW G E0 (MZ G (qI Q)) (WY yX4_isCell cX4_isCell 1 (some .boolean)) RX4 cX4_isCell 1 (some .boolean) ({ frames := 0, cells := 0, slots := 0, locals := 0 } : Room) 0 0
def D4_isCell (x0 : Int32) (M : MM) (Q : Int32 → MM → Prop) : Prop := ((x0 < 0 → Q (0 : Int32) M) ∧ (¬ x0 < 0 → (((25 : Int32) ≤ x0 → Q (0 : Int32) M) ∧ (¬ (25 : Int32) ≤ x0 → Q (1 : Int32) M))))
set_option maxHeartbeats 4000000 in
set_option maxRecDepth 100000 in
theorem s4_isCell {G : GG} {x0 : Int32} {M : MM} {Q : Int32 → MM → Prop} (h : D4_isCell x0 M Q) : CM G yX4_isCell (WY yX4_isCell cX4_isCell 1 (some .boolean)) 0 0 [.int x0] M (qI Q) := by
  refine CM.of (cc := cX4_isCell) (nL := 1) (ret := (some .boolean)) (own := RX4) (by decide +kernel) rfl rfl (Nat.le_of_ble_eq_true rfl) ?_
  show A4_isCell G Q 0 [(0, .int x0)] [] M
  unfold D4_isCell at h
  refine a_iload_n dX4_isCell_0 0 rfl ?_
  refine a_if_lt (tgt := 14) dX4_isCell_1 (by decide) (fun c => ?_) (fun c => ?_)
  · have h := h.1 c
    refine a_iconst (v := 0) dX4_isCell_14 (by decide) ?_
    exact a_zret dX4_isCell_15 (Or.inl rfl) ⟨_, rfl, h⟩
  · have h := h.2 c
    refine a_iload_n dX4_isCell_4 0 rfl ?_
    refine a_bipush (v := 25) dX4_isCell_5 (by decide) ?_
    refine a_icmp_ge (tgt := 14) dX4_isCell_7 (by decide) (fun c => ?_) (fun c => ?_)
    · have h := h.1 c
      refine a_iconst (v := 0) dX4_isCell_14 (by decide) ?_
      exact a_zret dX4_isCell_15 (Or.inl rfl) ⟨_, rfl, h⟩
    · have h := h.2 c
      refine a_iconst (v := 1) dX4_isCell_10 (by decide) ?_
      refine a_goto (tgt := 15) dX4_isCell_11 (by decide) ?_
      exact a_zret dX4_isCell_15 (Or.inr rfl) ⟨_, rfl, h⟩
end
section
/-! X0_stands -/
theorem dX0_stands_0 : decode cX0_stands 0 = .ok (.iload_n 1, 1) := by decide +kernel
theorem dX0_stands_1 : decode cX0_stands 1 = .ok (.ifCond .lt 24, 3) := by decide +kernel
theorem dX0_stands_4 : decode cX0_stands 4 = .ok (.iload_n 1, 1) := by decide +kernel
theorem dX0_stands_5 : decode cX0_stands 5 = .ok (.bipush 10, 2) := by decide +kernel
theorem dX0_stands_7 : decode cX0_stands 7 = .ok (.if_icmp .ge 18, 3) := by decide +kernel
theorem dX0_stands_10 : decode cX0_stands 10 = .ok (.aload_n 0, 1) := by decide +kernel
theorem dX0_stands_11 : decode cX0_stands 11 = .ok (.getfield 28, 3) := by decide +kernel
theorem dX0_stands_14 : decode cX0_stands 14 = .ok (.iload_n 1, 1) := by decide +kernel
theorem dX0_stands_15 : decode cX0_stands 15 = .ok (.ishr, 1) := by decide +kernel
theorem dX0_stands_16 : decode cX0_stands 16 = .ok (.iconst 1, 1) := by decide +kernel
theorem dX0_stands_17 : decode cX0_stands 17 = .ok (.iand, 1) := by decide +kernel
theorem dX0_stands_18 : decode cX0_stands 18 = .ok (.ifCond .eq 7, 3) := by decide +kernel
theorem dX0_stands_21 : decode cX0_stands 21 = .ok (.iconst 1, 1) := by decide +kernel
theorem dX0_stands_22 : decode cX0_stands 22 = .ok (.goto 4, 3) := by decide +kernel
theorem dX0_stands_25 : decode cX0_stands 25 = .ok (.iconst 0, 1) := by decide +kernel
theorem dX0_stands_26 : decode cX0_stands 26 = .ok (.ireturn, 1) := by decide +kernel
abbrev A0_stands (G : GG) (Q : Int32 → MM → Prop) := AW G E0 (MZ G (qI Q)) (WY yX0_stands cX0_stands 2 (some .boolean)) RX0 cX0_stands 2 (some .boolean) ({ frames := 0, cells := 0, slots := 0, locals := 0 } : Room) 0 0
def D0_stands (b : Nat) (x1 : Int32) (M : MM) (Q : Int32 → MM → Prop) : Prop := ((x1 < 0 → Q (0 : Int32) M) ∧ (¬ x1 < 0 → (((10 : Int32) ≤ x1 → Q (0 : Int32) M) ∧ (¬ (10 : Int32) ≤ x1 → (((((M b 5) >>> (x1 &&& 31)) &&& (1 : Int32)) = 0 → Q (0 : Int32) M) ∧ (¬ (((M b 5) >>> (x1 &&& 31)) &&& (1 : Int32)) = 0 → Q (1 : Int32) M))))))
set_option maxHeartbeats 4000000 in
set_option maxRecDepth 100000 in
theorem s0_stands {G : GG} {b : Nat} (hb : ob b 0) {x1 : Int32} {M : MM} {Q : Int32 → MM → Prop} (h : D0_stands b x1 M Q) : CM G yX0_stands (WY yX0_stands cX0_stands 2 (some .boolean)) 0 0 [.ref (gA G b), .int x1] M (qI Q) := by
  refine CM.of (cc := cX0_stands) (nL := 2) (ret := (some .boolean)) (own := RX0) (by decide +kernel) rfl rfl (Nat.le_of_ble_eq_true rfl) ?_
  show A0_stands G Q 0 [(0, .ref (gA G b)), (1, .int x1)] [] M
  unfold D0_stands at h
  refine a_iload_n dX0_stands_0 1 rfl ?_
  refine a_if_lt (tgt := 25) dX0_stands_1 (by decide) (fun c => ?_) (fun c => ?_)
  · have h := h.1 c
    refine a_iconst (v := 0) dX0_stands_25 (by decide) ?_
    exact a_zret dX0_stands_26 (Or.inl rfl) ⟨_, rfl, h⟩
  · have h := h.2 c
    refine a_iload_n dX0_stands_4 1 rfl ?_
    refine a_bipush (v := 10) dX0_stands_5 (by decide) ?_
    refine a_icmp_ge (tgt := 25) dX0_stands_7 (by decide) (fun c => ?_) (fun c => ?_)
    · have h := h.1 c
      refine a_iconst (v := 0) dX0_stands_25 (by decide) ?_
      exact a_zret dX0_stands_26 (Or.inl rfl) ⟨_, rfl, h⟩
    · have h := h.2 c
      refine a_aload_n dX0_stands_10 0 rfl ?_
      refine a_get0 dX0_stands_11 5 (by decide) (tbc _ kF_RX0_28) (fun w h => tbc _ (uW0 w h)) rfl hb rfl ?_
      refine a_iload_n dX0_stands_14 1 rfl ?_
      refine a_ishr dX0_stands_15 ?_
      refine a_iconst (v := 1) dX0_stands_16 (by decide) ?_
      refine a_iand dX0_stands_17 ?_
      refine a_if_eq (tgt := 25) dX0_stands_18 (by decide) (fun c => ?_) (fun c => ?_)
      · have h := h.1 c
        refine a_iconst (v := 0) dX0_stands_25 (by decide) ?_
        exact a_zret dX0_stands_26 (Or.inl rfl) ⟨_, rfl, h⟩
      · have h := h.2 c
        refine a_iconst (v := 1) dX0_stands_21 (by decide) ?_
        refine a_goto (tgt := 26) dX0_stands_22 (by decide) ?_
        exact a_zret dX0_stands_26 (Or.inr rfl) ⟨_, rfl, h⟩

/-! X0_standingCells -/
theorem dX0_standingCells_0 : decode cX0_standingCells 0 = .ok (.iconst 0, 1) := by decide +kernel
theorem dX0_standingCells_1 : decode cX0_standingCells 1 = .ok (.istore_n 1, 1) := by decide +kernel
theorem dX0_standingCells_2 : decode cX0_standingCells 2 = .ok (.iconst 0, 1) := by decide +kernel
theorem dX0_standingCells_3 : decode cX0_standingCells 3 = .ok (.istore_n 2, 1) := by decide +kernel
theorem dX0_standingCells_4 : decode cX0_standingCells 4 = .ok (.iload_n 2, 1) := by decide +kernel
theorem dX0_standingCells_5 : decode cX0_standingCells 5 = .ok (.bipush 10, 2) := by decide +kernel
theorem dX0_standingCells_7 : decode cX0_standingCells 7 = .ok (.if_icmp .ge 28, 3) := by decide +kernel
theorem dX0_standingCells_10 : decode cX0_standingCells 10 = .ok (.aload_n 0, 1) := by decide +kernel
theorem dX0_standingCells_11 : decode cX0_standingCells 11 = .ok (.iload_n 2, 1) := by decide +kernel
theorem dX0_standingCells_12 : decode cX0_standingCells 12 = .ok (.invokevirtual 60, 3) := by decide +kernel
theorem dX0_standingCells_15 : decode cX0_standingCells 15 = .ok (.ifCond .eq 14, 3) := by decide +kernel
theorem dX0_standingCells_18 : decode cX0_standingCells 18 = .ok (.iload_n 1, 1) := by decide +kernel
theorem dX0_standingCells_19 : decode cX0_standingCells 19 = .ok (.iconst 1, 1) := by decide +kernel
theorem dX0_standingCells_20 : decode cX0_standingCells 20 = .ok (.aload_n 0, 1) := by decide +kernel
theorem dX0_standingCells_21 : decode cX0_standingCells 21 = .ok (.getfield 18, 3) := by decide +kernel
theorem dX0_standingCells_24 : decode cX0_standingCells 24 = .ok (.iload_n 2, 1) := by decide +kernel
theorem dX0_standingCells_25 : decode cX0_standingCells 25 = .ok (.iaload, 1) := by decide +kernel
theorem dX0_standingCells_26 : decode cX0_standingCells 26 = .ok (.ishl, 1) := by decide +kernel
theorem dX0_standingCells_27 : decode cX0_standingCells 27 = .ok (.ior, 1) := by decide +kernel
theorem dX0_standingCells_28 : decode cX0_standingCells 28 = .ok (.istore_n 1, 1) := by decide +kernel
theorem dX0_standingCells_29 : decode cX0_standingCells 29 = .ok (.iinc 2 1, 3) := by decide +kernel
theorem dX0_standingCells_32 : decode cX0_standingCells 32 = .ok (.goto (-28), 3) := by decide +kernel
theorem dX0_standingCells_35 : decode cX0_standingCells 35 = .ok (.iload_n 1, 1) := by decide +kernel
theorem dX0_standingCells_36 : decode cX0_standingCells 36 = .ok (.ireturn, 1) := by decide +kernel
abbrev A0_standingCells (G : GG) (Q : Int32 → MM → Prop) := AW G E0 (MZ G (qI Q)) (WY yX0_standingCells cX0_standingCells 3 (some .int)) RX0 cX0_standingCells 3 (some .int) ({ frames := 1, cells := 0, slots := 0, locals := 21 } : Room) 0 0
def D0_standingCells_c29 (b : Nat) (K4 : Int32 → Int32 → MM → Prop) (Q : Int32 → MM → Prop) (x1 : Int32) (x2 : Int32) (M : MM) : Prop := (fun v4 : Int32 => K4 x1 v4 M) (x2 + (1 : Int32))
def D0_standingCells_c4 (b : Nat) (Q : Int32 → MM → Prop) : Nat → Int32 → Int32 → MM → Prop
  | 0, _, _, _ => False
  | n + 1, x1, x2, M => (((10 : Int32) ≤ x2 → Q x1 M) ∧ (¬ (10 : Int32) ≤ x2 → D0_stands b x2 M (fun (r1 : Int32) (M2 : MM) => ((r1 = 0 → D0_standingCells_c29 b (D0_standingCells_c4 b Q n) Q x1 x2 M2) ∧ (¬ r1 = 0 → ib (b + 3) x2 ∧ (fun v3 : Int32 => D0_standingCells_c29 b (D0_standingCells_c4 b Q n) Q v3 x2 M2) (x1 ||| ((1 : Int32) <<< ((M2 (b + 3) (ix x2)) &&& 31))))))))
def D0_standingCells (b : Nat) (M : MM) (Q : Int32 → MM → Prop) : Prop := D0_standingCells_c4 b Q FU (0 : Int32) (0 : Int32) M
set_option maxHeartbeats 4000000 in
set_option maxRecDepth 100000 in
theorem s0_standingCells_c29 {G : GG} {b : Nat} (hb : ob b 0) {K4 : Int32 → Int32 → MM → Prop} {Q : Int32 → MM → Prop} (hK4 : ∀ (x1 : Int32) (x2 : Int32) (M : MM), K4 x1 x2 M → A0_standingCells G Q 4 [(0, .ref (gA G b)), (1, .int x1), (2, .int x2)] [] M) : ∀ (x1 : Int32) (x2 : Int32) (M : MM), D0_standingCells_c29 b K4 Q x1 x2 M → A0_standingCells G Q 29 [(0, .ref (gA G b)), (1, .int x1), (2, .int x2)] [] M := by
  intro x1 x2 M h
  unfold D0_standingCells_c29 at h
  refine a_iinc (L' := [(2, .int _), (0, .ref _), (1, .int _)]) dX0_standingCells_29 2 rfl (show _ + Int32.ofInt (1 : Int) = _ + (1 : Int32) from rfl) (by decide) rfl ?_
  refine a_goto (tgt := 4) dX0_standingCells_32 (by decide) ?_
  refine a_sub [1, 2, 0] rfl ?_
  exact hK4 _ _ _ h
set_option maxHeartbeats 4000000 in
set_option maxRecDepth 100000 in
theorem s0_standingCells_c4 {G : GG} {b : Nat} (hb : ob b 0) {Q : Int32 → MM → Prop} : ∀ (n : Nat) (x1 : Int32) (x2 : Int32) (M : MM), D0_standingCells_c4 b Q n x1 x2 M → A0_standingCells G Q 4 [(0, .ref (gA G b)), (1, .int x1), (2, .int x2)] [] M := by
  intro n
  induction n with
  | zero => intro x1 x2 M h; exact h.elim
  | succ n ih =>
    intro x1 x2 M h
    unfold D0_standingCells_c4 at h
    refine a_iload_n dX0_standingCells_4 2 rfl ?_
    refine a_bipush (v := 10) dX0_standingCells_5 (by decide) ?_
    refine a_icmp_ge (tgt := 35) dX0_standingCells_7 (by decide) (fun c => ?_) (fun c => ?_)
    · have h := h.1 c
      refine a_iload_n dX0_standingCells_35 1 rfl ?_
      exact a_iret dX0_standingCells_36 ⟨_, rfl, h⟩
    · have h := h.2 c
      refine a_aload_n dX0_standingCells_10 0 rfl ?_
      refine a_iload_n dX0_standingCells_11 2 rfl ?_
      refine a_callVi (n := 1) [.int _] (C := RX0) (ci := 0) (qc := (RX0, TX0, 9)) (fsF := fl0 G _) hb.1 (fun _ => en0 hb.2) rfl rfl dX0_standingCells_12 (s0_stands hb h) (gV tbc kM_RX0_60_X0_stands kI_X0_stands kS_X0_stands kN_RX0 kC_X0_stands) rfl (by decide +kernel) ⟨Nat.le_of_ble_eq_true rfl, Nat.le_of_ble_eq_true rfl⟩ rfl rfl (Nat.le_of_ble_eq_true rfl) ⟨Nat.le_refl 0, Nat.le_refl 0⟩ (fun r M h => ?_)
      refine a_if_eq (tgt := 29) dX0_standingCells_15 (by decide) (fun c => ?_) (fun c => ?_)
      · have h := h.1 c
        refine a_sub [0, 1, 2] rfl ?_
        exact s0_standingCells_c29 hb ih _ _ _ h
      · have h := h.2 c
        refine a_iload_n dX0_standingCells_18 1 rfl ?_
        refine a_iconst (v := 1) dX0_standingCells_19 (by decide) ?_
        refine a_aload_n dX0_standingCells_20 0 rfl ?_
        refine a_get0 dX0_standingCells_21 2 (by decide) (tbc _ kF_RX0_18) (fun w h => tbc _ (uW0 w h)) rfl hb rfl ?_
        refine a_iload_n dX0_standingCells_24 2 rfl ?_
        refine a_iald dX0_standingCells_25 h.1 ?_
        have h := h.2
        refine a_ishl dX0_standingCells_26 ?_
        refine a_ior dX0_standingCells_27 ?_
        refine a_istore_n (i := 1) (L' := [(1, .int _), (0, .ref _), (2, .int _)]) dX0_standingCells_28 rfl (by decide) rfl ?_
        refine a_sub [1, 0, 2] rfl ?_
        exact s0_standingCells_c29 hb ih _ _ _ h
set_option maxHeartbeats 4000000 in
set_option maxRecDepth 100000 in
theorem s0_standingCells {G : GG} {b : Nat} (hb : ob b 0) {M : MM} {Q : Int32 → MM → Prop} (h : D0_standingCells b M Q) : CM G yX0_standingCells (WY yX0_standingCells cX0_standingCells 3 (some .int)) 1 21 [.ref (gA G b)] M (qI Q) := by
  refine CM.of (cc := cX0_standingCells) (nL := 3) (ret := (some .int)) (own := RX0) (by decide +kernel) rfl rfl (Nat.le_of_ble_eq_true rfl) ?_
  show A0_standingCells G Q 0 [(0, .ref (gA G b))] [] M
  unfold D0_standingCells at h
  refine a_iconst (v := 0) dX0_standingCells_0 (by decide) ?_
  refine a_istore_n (i := 1) (L' := [(1, .int _), (0, .ref _)]) dX0_standingCells_1 rfl (by decide) rfl ?_
  refine a_iconst (v := 0) dX0_standingCells_2 (by decide) ?_
  refine a_istore_n (i := 2) (L' := [(2, .int _), (1, .int _), (0, .ref _)]) dX0_standingCells_3 rfl (by decide) rfl ?_
  refine a_sub [2, 1, 0] rfl ?_
  exact s0_standingCells_c4 hb _ _ _ _ h

/-! X0_aloneWorks -/
theorem dX0_aloneWorks_0 : decode cX0_aloneWorks 0 = .ok (.iconst 0, 1) := by decide +kernel
theorem dX0_aloneWorks_1 : decode cX0_aloneWorks 1 = .ok (.istore_n 1, 1) := by decide +kernel
theorem dX0_aloneWorks_2 : decode cX0_aloneWorks 2 = .ok (.aload_n 0, 1) := by decide +kernel
theorem dX0_aloneWorks_3 : decode cX0_aloneWorks 3 = .ok (.invokevirtual 120, 3) := by decide +kernel
theorem dX0_aloneWorks_6 : decode cX0_aloneWorks 6 = .ok (.invokestatic 83, 3) := by decide +kernel
theorem dX0_aloneWorks_9 : decode cX0_aloneWorks 9 = .ok (.istore_n 2, 1) := by decide +kernel
theorem dX0_aloneWorks_10 : decode cX0_aloneWorks 10 = .ok (.iconst 0, 1) := by decide +kernel
theorem dX0_aloneWorks_11 : decode cX0_aloneWorks 11 = .ok (.istore_n 3, 1) := by decide +kernel
theorem dX0_aloneWorks_12 : decode cX0_aloneWorks 12 = .ok (.iload_n 3, 1) := by decide +kernel
theorem dX0_aloneWorks_13 : decode cX0_aloneWorks 13 = .ok (.bipush 10, 2) := by decide +kernel
theorem dX0_aloneWorks_15 : decode cX0_aloneWorks 15 = .ok (.if_icmp .ge 36, 3) := by decide +kernel
theorem dX0_aloneWorks_18 : decode cX0_aloneWorks 18 = .ok (.aload_n 0, 1) := by decide +kernel
theorem dX0_aloneWorks_19 : decode cX0_aloneWorks 19 = .ok (.iload_n 3, 1) := by decide +kernel
theorem dX0_aloneWorks_20 : decode cX0_aloneWorks 20 = .ok (.invokevirtual 60, 3) := by decide +kernel
theorem dX0_aloneWorks_23 : decode cX0_aloneWorks 23 = .ok (.ifCond .eq 22, 3) := by decide +kernel
theorem dX0_aloneWorks_26 : decode cX0_aloneWorks 26 = .ok (.iload_n 2, 1) := by decide +kernel
theorem dX0_aloneWorks_27 : decode cX0_aloneWorks 27 = .ok (.aload_n 0, 1) := by decide +kernel
theorem dX0_aloneWorks_28 : decode cX0_aloneWorks 28 = .ok (.getfield 18, 3) := by decide +kernel
theorem dX0_aloneWorks_31 : decode cX0_aloneWorks 31 = .ok (.iload_n 3, 1) := by decide +kernel
theorem dX0_aloneWorks_32 : decode cX0_aloneWorks 32 = .ok (.iaload, 1) := by decide +kernel
theorem dX0_aloneWorks_33 : decode cX0_aloneWorks 33 = .ok (.invokestatic 86, 3) := by decide +kernel
theorem dX0_aloneWorks_36 : decode cX0_aloneWorks 36 = .ok (.ifCond .ne 9, 3) := by decide +kernel
theorem dX0_aloneWorks_39 : decode cX0_aloneWorks 39 = .ok (.iload_n 1, 1) := by decide +kernel
theorem dX0_aloneWorks_40 : decode cX0_aloneWorks 40 = .ok (.iconst 1, 1) := by decide +kernel
theorem dX0_aloneWorks_41 : decode cX0_aloneWorks 41 = .ok (.iload_n 3, 1) := by decide +kernel
theorem dX0_aloneWorks_42 : decode cX0_aloneWorks 42 = .ok (.ishl, 1) := by decide +kernel
theorem dX0_aloneWorks_43 : decode cX0_aloneWorks 43 = .ok (.ior, 1) := by decide +kernel
theorem dX0_aloneWorks_44 : decode cX0_aloneWorks 44 = .ok (.istore_n 1, 1) := by decide +kernel
theorem dX0_aloneWorks_45 : decode cX0_aloneWorks 45 = .ok (.iinc 3 1, 3) := by decide +kernel
theorem dX0_aloneWorks_48 : decode cX0_aloneWorks 48 = .ok (.goto (-36), 3) := by decide +kernel
theorem dX0_aloneWorks_51 : decode cX0_aloneWorks 51 = .ok (.iload_n 1, 1) := by decide +kernel
theorem dX0_aloneWorks_52 : decode cX0_aloneWorks 52 = .ok (.ireturn, 1) := by decide +kernel
abbrev A0_aloneWorks (G : GG) (Q : Int32 → MM → Prop) := AW G E0 (MZ G (qI Q)) (WY yX0_aloneWorks cX0_aloneWorks 4 (some .int)) RX0 cX0_aloneWorks 4 (some .int) ({ frames := 2, cells := 0, slots := 0, locals := 43 } : Room) 0 0
def D0_aloneWorks_c45 (b : Nat) (K12 : Int32 → Int32 → Int32 → MM → Prop) (Q : Int32 → MM → Prop) (x1 : Int32) (x2 : Int32) (x3 : Int32) (M : MM) : Prop := (fun v10 : Int32 => K12 x1 x2 v10 M) (x3 + (1 : Int32))
def D0_aloneWorks_c12 (b : Nat) (Q : Int32 → MM → Prop) : Nat → Int32 → Int32 → Int32 → MM → Prop
  | 0, _, _, _, _ => False
  | n + 1, x1, x2, x3, M => (((10 : Int32) ≤ x3 → Q x1 M) ∧ (¬ (10 : Int32) ≤ x3 → D0_stands b x3 M (fun (r5 : Int32) (M6 : MM) => ((r5 = 0 → D0_aloneWorks_c45 b (D0_aloneWorks_c12 b Q n) Q x1 x2 x3 M6) ∧ (¬ r5 = 0 → ib (b + 3) x3 ∧ D3_has x2 (M6 (b + 3) (ix x3)) M6 (fun (r7 : Int32) (M8 : MM) => ((r7 ≠ 0 → D0_aloneWorks_c45 b (D0_aloneWorks_c12 b Q n) Q x1 x2 x3 M8) ∧ (r7 = 0 → (fun v9 : Int32 => D0_aloneWorks_c45 b (D0_aloneWorks_c12 b Q n) Q v9 x2 x3 M8) (x1 ||| ((1 : Int32) <<< (x3 &&& 31)))))))))))
def D0_aloneWorks (b : Nat) (M : MM) (Q : Int32 → MM → Prop) : Prop := D0_standingCells b M (fun (r1 : Int32) (M2 : MM) => D3_beside r1 M2 (fun (r3 : Int32) (M4 : MM) => D0_aloneWorks_c12 b Q FU (0 : Int32) r3 (0 : Int32) M4))
set_option maxHeartbeats 4000000 in
set_option maxRecDepth 100000 in
theorem s0_aloneWorks_c45 {G : GG} {b : Nat} (hb : ob b 0) {K12 : Int32 → Int32 → Int32 → MM → Prop} {Q : Int32 → MM → Prop} (hK12 : ∀ (x1 : Int32) (x2 : Int32) (x3 : Int32) (M : MM), K12 x1 x2 x3 M → A0_aloneWorks G Q 12 [(0, .ref (gA G b)), (1, .int x1), (2, .int x2), (3, .int x3)] [] M) : ∀ (x1 : Int32) (x2 : Int32) (x3 : Int32) (M : MM), D0_aloneWorks_c45 b K12 Q x1 x2 x3 M → A0_aloneWorks G Q 45 [(0, .ref (gA G b)), (1, .int x1), (2, .int x2), (3, .int x3)] [] M := by
  intro x1 x2 x3 M h
  unfold D0_aloneWorks_c45 at h
  refine a_iinc (L' := [(3, .int _), (0, .ref _), (1, .int _), (2, .int _)]) dX0_aloneWorks_45 3 rfl (show _ + Int32.ofInt (1 : Int) = _ + (1 : Int32) from rfl) (by decide) rfl ?_
  refine a_goto (tgt := 12) dX0_aloneWorks_48 (by decide) ?_
  refine a_sub [1, 2, 3, 0] rfl ?_
  exact hK12 _ _ _ _ h
set_option maxHeartbeats 4000000 in
set_option maxRecDepth 100000 in
theorem s0_aloneWorks_c12 {G : GG} {b : Nat} (hb : ob b 0) {Q : Int32 → MM → Prop} : ∀ (n : Nat) (x1 : Int32) (x2 : Int32) (x3 : Int32) (M : MM), D0_aloneWorks_c12 b Q n x1 x2 x3 M → A0_aloneWorks G Q 12 [(0, .ref (gA G b)), (1, .int x1), (2, .int x2), (3, .int x3)] [] M := by
  intro n
  induction n with
  | zero => intro x1 x2 x3 M h; exact h.elim
  | succ n ih =>
    intro x1 x2 x3 M h
    unfold D0_aloneWorks_c12 at h
    refine a_iload_n dX0_aloneWorks_12 3 rfl ?_
    refine a_bipush (v := 10) dX0_aloneWorks_13 (by decide) ?_
    refine a_icmp_ge (tgt := 51) dX0_aloneWorks_15 (by decide) (fun c => ?_) (fun c => ?_)
    · have h := h.1 c
      refine a_iload_n dX0_aloneWorks_51 1 rfl ?_
      exact a_iret dX0_aloneWorks_52 ⟨_, rfl, h⟩
    · have h := h.2 c
      refine a_aload_n dX0_aloneWorks_18 0 rfl ?_
      refine a_iload_n dX0_aloneWorks_19 3 rfl ?_
      refine a_callVi (n := 1) [.int _] (C := RX0) (ci := 0) (qc := (RX0, TX0, 9)) (fsF := fl0 G _) hb.1 (fun _ => en0 hb.2) rfl rfl dX0_aloneWorks_20 (s0_stands hb h) (gV tbc kM_RX0_60_X0_stands kI_X0_stands kS_X0_stands kN_RX0 kC_X0_stands) rfl (by decide +kernel) ⟨Nat.le_of_ble_eq_true rfl, Nat.le_of_ble_eq_true rfl⟩ rfl rfl (Nat.le_of_ble_eq_true rfl) ⟨Nat.le_refl 0, Nat.le_refl 0⟩ (fun r M h => ?_)
      refine a_if_eq (tgt := 45) dX0_aloneWorks_23 (by decide) (fun c => ?_) (fun c => ?_)
      · have h := h.1 c
        refine a_sub [0, 1, 2, 3] rfl ?_
        exact s0_aloneWorks_c45 hb ih _ _ _ _ h
      · have h := h.2 c
        refine a_iload_n dX0_aloneWorks_26 2 rfl ?_
        refine a_aload_n dX0_aloneWorks_27 0 rfl ?_
        refine a_get0 dX0_aloneWorks_28 2 (by decide) (tbc _ kF_RX0_18) (fun w h => tbc _ (uW0 w h)) rfl hb rfl ?_
        refine a_iload_n dX0_aloneWorks_31 3 rfl ?_
        refine a_iald dX0_aloneWorks_32 h.1 ?_
        have h := h.2
        refine a_callSi (n := 2) [.int _, .int _] dX0_aloneWorks_33 (s3_has h) (gS tbc kM_RX0_86_X3_has kT_X3_has kN_RX3 kC_X3_has) rfl (by decide +kernel) ⟨Nat.le_of_ble_eq_true rfl, Nat.le_of_ble_eq_true rfl⟩ rfl rfl (Nat.le_of_ble_eq_true rfl) ⟨Nat.le_refl 0, Nat.le_refl 0⟩ (fun r M h => ?_)
        refine a_if_ne (tgt := 45) dX0_aloneWorks_36 (by decide) (fun c => ?_) (fun c => ?_)
        · have h := h.1 c
          refine a_sub [0, 1, 2, 3] rfl ?_
          exact s0_aloneWorks_c45 hb ih _ _ _ _ h
        · have h := h.2 c
          refine a_iload_n dX0_aloneWorks_39 1 rfl ?_
          refine a_iconst (v := 1) dX0_aloneWorks_40 (by decide) ?_
          refine a_iload_n dX0_aloneWorks_41 3 rfl ?_
          refine a_ishl dX0_aloneWorks_42 ?_
          refine a_ior dX0_aloneWorks_43 ?_
          refine a_istore_n (i := 1) (L' := [(1, .int _), (0, .ref _), (2, .int _), (3, .int _)]) dX0_aloneWorks_44 rfl (by decide) rfl ?_
          refine a_sub [1, 0, 2, 3] rfl ?_
          exact s0_aloneWorks_c45 hb ih _ _ _ _ h
set_option maxHeartbeats 4000000 in
set_option maxRecDepth 100000 in
theorem s0_aloneWorks {G : GG} {b : Nat} (hb : ob b 0) {M : MM} {Q : Int32 → MM → Prop} (h : D0_aloneWorks b M Q) : CM G yX0_aloneWorks (WY yX0_aloneWorks cX0_aloneWorks 4 (some .int)) 2 43 [.ref (gA G b)] M (qI Q) := by
  refine CM.of (cc := cX0_aloneWorks) (nL := 4) (ret := (some .int)) (own := RX0) (by decide +kernel) rfl rfl (Nat.le_of_ble_eq_true rfl) ?_
  show A0_aloneWorks G Q 0 [(0, .ref (gA G b))] [] M
  unfold D0_aloneWorks at h
  refine a_iconst (v := 0) dX0_aloneWorks_0 (by decide) ?_
  refine a_istore_n (i := 1) (L' := [(1, .int _), (0, .ref _)]) dX0_aloneWorks_1 rfl (by decide) rfl ?_
  refine a_aload_n dX0_aloneWorks_2 1 rfl ?_
  refine a_callVi (n := 0) [] (C := RX0) (ci := 0) (qc := (RX0, TX0, 9)) (fsF := fl0 G _) hb.1 (fun _ => en0 hb.2) rfl rfl dX0_aloneWorks_3 (s0_standingCells hb h) (gV tbc kM_RX0_120_X0_standingCells kI_X0_standingCells kS_X0_standingCells kN_RX0 kC_X0_standingCells) rfl (by decide +kernel) ⟨Nat.le_of_ble_eq_true rfl, Nat.le_of_ble_eq_true rfl⟩ rfl rfl (Nat.le_of_ble_eq_true rfl) ⟨Nat.le_refl 0, Nat.le_refl 0⟩ (fun r M h => ?_)
  refine a_callSi (n := 1) [.int _] dX0_aloneWorks_6 (s3_beside h) (gS tbc kM_RX0_83_X3_beside kT_X3_beside kN_RX3 kC_X3_beside) rfl (by decide +kernel) ⟨Nat.le_of_ble_eq_true rfl, Nat.le_of_ble_eq_true rfl⟩ rfl rfl (Nat.le_of_ble_eq_true rfl) ⟨Nat.le_refl 0, Nat.le_refl 0⟩ (fun r M h => ?_)
  refine a_istore_n (i := 2) (L' := [(2, .int _), (1, .int _), (0, .ref _)]) dX0_aloneWorks_9 rfl (by decide) rfl ?_
  refine a_iconst (v := 0) dX0_aloneWorks_10 (by decide) ?_
  refine a_istore_n (i := 3) (L' := [(3, .int _), (2, .int _), (1, .int _), (0, .ref _)]) dX0_aloneWorks_11 rfl (by decide) rfl ?_
  refine a_sub [3, 2, 1, 0] rfl ?_
  exact s0_aloneWorks_c12 hb _ _ _ _ _ h

/-! X0_wetAt -/
theorem dX0_wetAt_0 : decode cX0_wetAt 0 = .ok (.iload_n 1, 1) := by decide +kernel
theorem dX0_wetAt_1 : decode cX0_wetAt 1 = .ok (.invokestatic 93, 3) := by decide +kernel
theorem dX0_wetAt_4 : decode cX0_wetAt 4 = .ok (.istore_n 2, 1) := by decide +kernel
theorem dX0_wetAt_5 : decode cX0_wetAt 5 = .ok (.iconst 0, 1) := by decide +kernel
theorem dX0_wetAt_6 : decode cX0_wetAt 6 = .ok (.istore_n 3, 1) := by decide +kernel
theorem dX0_wetAt_7 : decode cX0_wetAt 7 = .ok (.iload_n 3, 1) := by decide +kernel
theorem dX0_wetAt_8 : decode cX0_wetAt 8 = .ok (.bipush 10, 2) := by decide +kernel
theorem dX0_wetAt_10 : decode cX0_wetAt 10 = .ok (.if_icmp .ge 42, 3) := by decide +kernel
theorem dX0_wetAt_13 : decode cX0_wetAt 13 = .ok (.aload_n 0, 1) := by decide +kernel
theorem dX0_wetAt_14 : decode cX0_wetAt 14 = .ok (.iload_n 3, 1) := by decide +kernel
theorem dX0_wetAt_15 : decode cX0_wetAt 15 = .ok (.invokevirtual 60, 3) := by decide +kernel
theorem dX0_wetAt_18 : decode cX0_wetAt 18 = .ok (.ifCond .eq 28, 3) := by decide +kernel
theorem dX0_wetAt_21 : decode cX0_wetAt 21 = .ok (.aload_n 0, 1) := by decide +kernel
theorem dX0_wetAt_22 : decode cX0_wetAt 22 = .ok (.getfield 11, 3) := by decide +kernel
theorem dX0_wetAt_25 : decode cX0_wetAt 25 = .ok (.iload_n 3, 1) := by decide +kernel
theorem dX0_wetAt_26 : decode cX0_wetAt 26 = .ok (.iaload, 1) := by decide +kernel
theorem dX0_wetAt_27 : decode cX0_wetAt 27 = .ok (.invokestatic 96, 3) := by decide +kernel
theorem dX0_wetAt_30 : decode cX0_wetAt 30 = .ok (.ifCond .eq 16, 3) := by decide +kernel
theorem dX0_wetAt_33 : decode cX0_wetAt 33 = .ok (.iload_n 2, 1) := by decide +kernel
theorem dX0_wetAt_34 : decode cX0_wetAt 34 = .ok (.iconst 1, 1) := by decide +kernel
theorem dX0_wetAt_35 : decode cX0_wetAt 35 = .ok (.aload_n 0, 1) := by decide +kernel
theorem dX0_wetAt_36 : decode cX0_wetAt 36 = .ok (.getfield 18, 3) := by decide +kernel
theorem dX0_wetAt_39 : decode cX0_wetAt 39 = .ok (.iload_n 3, 1) := by decide +kernel
theorem dX0_wetAt_40 : decode cX0_wetAt 40 = .ok (.iaload, 1) := by decide +kernel
theorem dX0_wetAt_41 : decode cX0_wetAt 41 = .ok (.ishl, 1) := by decide +kernel
theorem dX0_wetAt_42 : decode cX0_wetAt 42 = .ok (.iconst (-1), 1) := by decide +kernel
theorem dX0_wetAt_43 : decode cX0_wetAt 43 = .ok (.ixor, 1) := by decide +kernel
theorem dX0_wetAt_44 : decode cX0_wetAt 44 = .ok (.iand, 1) := by decide +kernel
theorem dX0_wetAt_45 : decode cX0_wetAt 45 = .ok (.istore_n 2, 1) := by decide +kernel
theorem dX0_wetAt_46 : decode cX0_wetAt 46 = .ok (.iinc 3 1, 3) := by decide +kernel
theorem dX0_wetAt_49 : decode cX0_wetAt 49 = .ok (.goto (-42), 3) := by decide +kernel
theorem dX0_wetAt_52 : decode cX0_wetAt 52 = .ok (.iconst 0, 1) := by decide +kernel
theorem dX0_wetAt_53 : decode cX0_wetAt 53 = .ok (.istore_n 3, 1) := by decide +kernel
theorem dX0_wetAt_54 : decode cX0_wetAt 54 = .ok (.iload_n 2, 1) := by decide +kernel
theorem dX0_wetAt_55 : decode cX0_wetAt 55 = .ok (.ldc 99, 2) := by decide +kernel
theorem dX0_wetAt_57 : decode cX0_wetAt 57 = .ok (.iand, 1) := by decide +kernel
theorem dX0_wetAt_58 : decode cX0_wetAt 58 = .ok (.istore 4, 2) := by decide +kernel
theorem dX0_wetAt_60 : decode cX0_wetAt 60 = .ok (.iconst 0, 1) := by decide +kernel
theorem dX0_wetAt_61 : decode cX0_wetAt 61 = .ok (.istore 5, 2) := by decide +kernel
theorem dX0_wetAt_63 : decode cX0_wetAt 63 = .ok (.iload 5, 2) := by decide +kernel
theorem dX0_wetAt_65 : decode cX0_wetAt 65 = .ok (.bipush 25, 2) := by decide +kernel
theorem dX0_wetAt_67 : decode cX0_wetAt 67 = .ok (.if_icmp .ge 28, 3) := by decide +kernel
theorem dX0_wetAt_70 : decode cX0_wetAt 70 = .ok (.iload 4, 2) := by decide +kernel
theorem dX0_wetAt_72 : decode cX0_wetAt 72 = .ok (.iload_n 3, 1) := by decide +kernel
theorem dX0_wetAt_73 : decode cX0_wetAt 73 = .ok (.if_icmp .eq 22, 3) := by decide +kernel
theorem dX0_wetAt_76 : decode cX0_wetAt 76 = .ok (.iload 4, 2) := by decide +kernel
theorem dX0_wetAt_78 : decode cX0_wetAt 78 = .ok (.istore_n 3, 1) := by decide +kernel
theorem dX0_wetAt_79 : decode cX0_wetAt 79 = .ok (.iload_n 3, 1) := by decide +kernel
theorem dX0_wetAt_80 : decode cX0_wetAt 80 = .ok (.iload_n 3, 1) := by decide +kernel
theorem dX0_wetAt_81 : decode cX0_wetAt 81 = .ok (.invokestatic 83, 3) := by decide +kernel
theorem dX0_wetAt_84 : decode cX0_wetAt 84 = .ok (.iload_n 2, 1) := by decide +kernel
theorem dX0_wetAt_85 : decode cX0_wetAt 85 = .ok (.iand, 1) := by decide +kernel
theorem dX0_wetAt_86 : decode cX0_wetAt 86 = .ok (.ior, 1) := by decide +kernel
theorem dX0_wetAt_87 : decode cX0_wetAt 87 = .ok (.istore 4, 2) := by decide +kernel
theorem dX0_wetAt_89 : decode cX0_wetAt 89 = .ok (.iinc 5 1, 3) := by decide +kernel
theorem dX0_wetAt_92 : decode cX0_wetAt 92 = .ok (.goto (-29), 3) := by decide +kernel
theorem dX0_wetAt_95 : decode cX0_wetAt 95 = .ok (.iload_n 3, 1) := by decide +kernel
theorem dX0_wetAt_96 : decode cX0_wetAt 96 = .ok (.ireturn, 1) := by decide +kernel
abbrev A0_wetAt (G : GG) (Q : Int32 → MM → Prop) := AW G E0 (MZ G (qI Q)) (WY yX0_wetAt cX0_wetAt 6 (some .int)) RX0 cX0_wetAt 6 (some .int) ({ frames := 1, cells := 0, slots := 0, locals := 21 } : Room) 0 0
def D0_wetAt_c46 (b : Nat) (K7 : Int32 → Int32 → MM → Prop) (Q : Int32 → MM → Prop) (x2 : Int32) (x3 : Int32) (M : MM) : Prop := (fun v9 : Int32 => K7 x2 v9 M) (x3 + (1 : Int32))
def D0_wetAt_c63 (b : Nat) (Q : Int32 → MM → Prop) : Nat → Int32 → Int32 → Int32 → Int32 → MM → Prop
  | 0, _, _, _, _, _ => False
  | n + 1, x2, x3, x4, x5, M => (((25 : Int32) ≤ x5 → Q x3 M) ∧ (¬ (25 : Int32) ≤ x5 → ((x4 = x3 → Q x3 M) ∧ (¬ x4 = x3 → D3_beside x4 M (fun (r10 : Int32) (M11 : MM) => (fun v12 : Int32 => (fun v13 : Int32 => D0_wetAt_c63 b Q n x2 x4 v12 v13 M11) (x5 + (1 : Int32))) (x4 ||| (r10 &&& x2)))))))
def D0_wetAt_c52 (b : Nat) (Q : Int32 → MM → Prop) (x2 : Int32) (M : MM) : Prop := (fun v8 : Int32 => D0_wetAt_c63 b Q FU x2 (0 : Int32) v8 (0 : Int32) M) (x2 &&& (32505856 : Int32))
def D0_wetAt_c7 (b : Nat) (Q : Int32 → MM → Prop) : Nat → Int32 → Int32 → MM → Prop
  | 0, _, _, _ => False
  | n + 1, x2, x3, M => (((10 : Int32) ≤ x3 → D0_wetAt_c52 b Q x2 M) ∧ (¬ (10 : Int32) ≤ x3 → D0_stands b x3 M (fun (r3 : Int32) (M4 : MM) => ((r3 = 0 → D0_wetAt_c46 b (D0_wetAt_c7 b Q n) Q x2 x3 M4) ∧ (¬ r3 = 0 → ib (b + 1) x3 ∧ D1_stopsSea (M4 (b + 1) (ix x3)) M4 (fun (r5 : Int32) (M6 : MM) => ((r5 = 0 → D0_wetAt_c46 b (D0_wetAt_c7 b Q n) Q x2 x3 M6) ∧ (¬ r5 = 0 → ib (b + 3) x3 ∧ (fun v7 : Int32 => D0_wetAt_c46 b (D0_wetAt_c7 b Q n) Q v7 x3 M6) (x2 &&& (((1 : Int32) <<< ((M6 (b + 3) (ix x3)) &&& 31)) ^^^ (-1 : Int32)))))))))))
def D0_wetAt (b : Nat) (x1 : Int32) (M : MM) (Q : Int32 → MM → Prop) : Prop := D3_lowestRows x1 M (fun (r1 : Int32) (M2 : MM) => D0_wetAt_c7 b Q FU r1 (0 : Int32) M2)
set_option maxHeartbeats 4000000 in
set_option maxRecDepth 100000 in
theorem s0_wetAt_c46 {G : GG} {b : Nat} (hb : ob b 0) {K7 : Int32 → Int32 → MM → Prop} {Q : Int32 → MM → Prop} (hK7 : ∀ (x2 : Int32) (x3 : Int32) (M : MM), K7 x2 x3 M → A0_wetAt G Q 7 [(0, .ref (gA G b)), (2, .int x2), (3, .int x3)] [] M) : ∀ (x2 : Int32) (x3 : Int32) (M : MM), D0_wetAt_c46 b K7 Q x2 x3 M → A0_wetAt G Q 46 [(0, .ref (gA G b)), (2, .int x2), (3, .int x3)] [] M := by
  intro x2 x3 M h
  unfold D0_wetAt_c46 at h
  refine a_iinc (L' := [(3, .int _), (0, .ref _), (2, .int _)]) dX0_wetAt_46 2 rfl (show _ + Int32.ofInt (1 : Int) = _ + (1 : Int32) from rfl) (by decide) rfl ?_
  refine a_goto (tgt := 7) dX0_wetAt_49 (by decide) ?_
  refine a_sub [1, 2, 0] rfl ?_
  exact hK7 _ _ _ h
set_option maxHeartbeats 4000000 in
set_option maxRecDepth 100000 in
theorem s0_wetAt_c63 {G : GG} {b : Nat} (hb : ob b 0) {Q : Int32 → MM → Prop} : ∀ (n : Nat) (x2 : Int32) (x3 : Int32) (x4 : Int32) (x5 : Int32) (M : MM), D0_wetAt_c63 b Q n x2 x3 x4 x5 M → A0_wetAt G Q 63 [(2, .int x2), (3, .int x3), (4, .int x4), (5, .int x5)] [] M := by
  intro n
  induction n with
  | zero => intro x2 x3 x4 x5 M h; exact h.elim
  | succ n ih =>
    intro x2 x3 x4 x5 M h
    unfold D0_wetAt_c63 at h
    refine a_iload dX0_wetAt_63 3 rfl ?_
    refine a_bipush (v := 25) dX0_wetAt_65 (by decide) ?_
    refine a_icmp_ge (tgt := 95) dX0_wetAt_67 (by decide) (fun c => ?_) (fun c => ?_)
    · have h := h.1 c
      refine a_iload_n dX0_wetAt_95 1 rfl ?_
      exact a_iret dX0_wetAt_96 ⟨_, rfl, h⟩
    · have h := h.2 c
      refine a_iload dX0_wetAt_70 2 rfl ?_
      refine a_iload_n dX0_wetAt_72 1 rfl ?_
      refine a_icmp_eq (tgt := 95) dX0_wetAt_73 (by decide) (fun c => ?_) (fun c => ?_)
      · have h := h.1 c
        refine a_iload_n dX0_wetAt_95 1 rfl ?_
        exact a_iret dX0_wetAt_96 ⟨_, rfl, h⟩
      · have h := h.2 c
        refine a_iload dX0_wetAt_76 2 rfl ?_
        refine a_istore_n (i := 3) (L' := [(3, .int _), (2, .int _), (4, .int _), (5, .int _)]) dX0_wetAt_78 rfl (by decide) rfl ?_
        refine a_iload_n dX0_wetAt_79 0 rfl ?_
        refine a_iload_n dX0_wetAt_80 0 rfl ?_
        refine a_callSi (n := 1) [.int _] dX0_wetAt_81 (s3_beside h) (gS tbc kM_RX0_83_X3_beside kT_X3_beside kN_RX3 kC_X3_beside) rfl (by decide +kernel) ⟨Nat.le_of_ble_eq_true rfl, Nat.le_of_ble_eq_true rfl⟩ rfl rfl (Nat.le_of_ble_eq_true rfl) ⟨Nat.le_refl 0, Nat.le_refl 0⟩ (fun r M h => ?_)
        refine a_iload_n dX0_wetAt_84 1 rfl ?_
        refine a_iand dX0_wetAt_85 ?_
        refine a_ior dX0_wetAt_86 ?_
        refine a_istore (i := 4) (L' := [(4, .int _), (3, .int _), (2, .int _), (5, .int _)]) dX0_wetAt_87 (by decide) rfl ?_
        refine a_iinc (L' := [(5, .int _), (4, .int _), (3, .int _), (2, .int _)]) dX0_wetAt_89 3 rfl (show _ + Int32.ofInt (1 : Int) = _ + (1 : Int32) from rfl) (by decide) rfl ?_
        refine a_goto (tgt := 63) dX0_wetAt_92 (by decide) ?_
        refine a_sub [3, 2, 1, 0] rfl ?_
        exact ih _ _ _ _ _ h
set_option maxHeartbeats 4000000 in
set_option maxRecDepth 100000 in
theorem s0_wetAt_c52 {G : GG} {b : Nat} (hb : ob b 0) {Q : Int32 → MM → Prop} : ∀ (x2 : Int32) (M : MM), D0_wetAt_c52 b Q x2 M → A0_wetAt G Q 52 [(2, .int x2)] [] M := by
  intro x2 M h
  unfold D0_wetAt_c52 at h
  refine a_iconst (v := 0) dX0_wetAt_52 (by decide) ?_
  refine a_istore_n (i := 3) (L' := [(3, .int _), (2, .int _)]) dX0_wetAt_53 rfl (by decide) rfl ?_
  refine a_iload_n dX0_wetAt_54 1 rfl ?_
  refine a_ldc dX0_wetAt_55 (tbc _ kK_RX0_99) ?_
  refine a_iand dX0_wetAt_57 ?_
  refine a_istore (i := 4) (L' := [(4, .int _), (3, .int _), (2, .int _)]) dX0_wetAt_58 (by decide) rfl ?_
  refine a_iconst (v := 0) dX0_wetAt_60 (by decide) ?_
  refine a_istore (i := 5) (L' := [(5, .int _), (4, .int _), (3, .int _), (2, .int _)]) dX0_wetAt_61 (by decide) rfl ?_
  refine a_sub [3, 2, 1, 0] rfl ?_
  exact s0_wetAt_c63 hb _ _ _ _ _ _ h
set_option maxHeartbeats 4000000 in
set_option maxRecDepth 100000 in
theorem s0_wetAt_c7 {G : GG} {b : Nat} (hb : ob b 0) {Q : Int32 → MM → Prop} : ∀ (n : Nat) (x2 : Int32) (x3 : Int32) (M : MM), D0_wetAt_c7 b Q n x2 x3 M → A0_wetAt G Q 7 [(0, .ref (gA G b)), (2, .int x2), (3, .int x3)] [] M := by
  intro n
  induction n with
  | zero => intro x2 x3 M h; exact h.elim
  | succ n ih =>
    intro x2 x3 M h
    unfold D0_wetAt_c7 at h
    refine a_iload_n dX0_wetAt_7 2 rfl ?_
    refine a_bipush (v := 10) dX0_wetAt_8 (by decide) ?_
    refine a_icmp_ge (tgt := 52) dX0_wetAt_10 (by decide) (fun c => ?_) (fun c => ?_)
    · have h := h.1 c
      refine a_sub [1] rfl ?_
      exact s0_wetAt_c52 hb _ _ h
    · have h := h.2 c
      refine a_aload_n dX0_wetAt_13 0 rfl ?_
      refine a_iload_n dX0_wetAt_14 2 rfl ?_
      refine a_callVi (n := 1) [.int _] (C := RX0) (ci := 0) (qc := (RX0, TX0, 9)) (fsF := fl0 G _) hb.1 (fun _ => en0 hb.2) rfl rfl dX0_wetAt_15 (s0_stands hb h) (gV tbc kM_RX0_60_X0_stands kI_X0_stands kS_X0_stands kN_RX0 kC_X0_stands) rfl (by decide +kernel) ⟨Nat.le_of_ble_eq_true rfl, Nat.le_of_ble_eq_true rfl⟩ rfl rfl (Nat.le_of_ble_eq_true rfl) ⟨Nat.le_refl 0, Nat.le_refl 0⟩ (fun r M h => ?_)
      refine a_if_eq (tgt := 46) dX0_wetAt_18 (by decide) (fun c => ?_) (fun c => ?_)
      · have h := h.1 c
        refine a_sub [0, 1, 2] rfl ?_
        exact s0_wetAt_c46 hb ih _ _ _ h
      · have h := h.2 c
        refine a_aload_n dX0_wetAt_21 0 rfl ?_
        refine a_get0 dX0_wetAt_22 0 (by decide) (tbc _ kF_RX0_11) (fun w h => tbc _ (uW0 w h)) rfl hb rfl ?_
        refine a_iload_n dX0_wetAt_25 2 rfl ?_
        refine a_iald dX0_wetAt_26 h.1 ?_
        have h := h.2
        refine a_callSi (n := 1) [.int _] dX0_wetAt_27 (s1_stopsSea h) (gS tbc kM_RX0_96_X1_stopsSea kT_X1_stopsSea kN_RX1 kC_X1_stopsSea) rfl (by decide +kernel) ⟨Nat.le_of_ble_eq_true rfl, Nat.le_of_ble_eq_true rfl⟩ rfl rfl (Nat.le_of_ble_eq_true rfl) ⟨Nat.le_refl 0, Nat.le_refl 0⟩ (fun r M h => ?_)
        refine a_if_eq (tgt := 46) dX0_wetAt_30 (by decide) (fun c => ?_) (fun c => ?_)
        · have h := h.1 c
          refine a_sub [0, 1, 2] rfl ?_
          exact s0_wetAt_c46 hb ih _ _ _ h
        · have h := h.2 c
          refine a_iload_n dX0_wetAt_33 1 rfl ?_
          refine a_iconst (v := 1) dX0_wetAt_34 (by decide) ?_
          refine a_aload_n dX0_wetAt_35 0 rfl ?_
          refine a_get0 dX0_wetAt_36 2 (by decide) (tbc _ kF_RX0_18) (fun w h => tbc _ (uW0 w h)) rfl hb rfl ?_
          refine a_iload_n dX0_wetAt_39 2 rfl ?_
          refine a_iald dX0_wetAt_40 h.1 ?_
          have h := h.2
          refine a_ishl dX0_wetAt_41 ?_
          refine a_iconst (v := -1) dX0_wetAt_42 (by decide) ?_
          refine a_ixor dX0_wetAt_43 ?_
          refine a_iand dX0_wetAt_44 ?_
          refine a_istore_n (i := 2) (L' := [(2, .int _), (0, .ref _), (3, .int _)]) dX0_wetAt_45 rfl (by decide) rfl ?_
          refine a_sub [1, 0, 2] rfl ?_
          exact s0_wetAt_c46 hb ih _ _ _ h
set_option maxHeartbeats 4000000 in
set_option maxRecDepth 100000 in
theorem s0_wetAt {G : GG} {b : Nat} (hb : ob b 0) {x1 : Int32} {M : MM} {Q : Int32 → MM → Prop} (h : D0_wetAt b x1 M Q) : CM G yX0_wetAt (WY yX0_wetAt cX0_wetAt 6 (some .int)) 1 21 [.ref (gA G b), .int x1] M (qI Q) := by
  refine CM.of (cc := cX0_wetAt) (nL := 6) (ret := (some .int)) (own := RX0) (by decide +kernel) rfl rfl (Nat.le_of_ble_eq_true rfl) ?_
  show A0_wetAt G Q 0 [(0, .ref (gA G b)), (1, .int x1)] [] M
  unfold D0_wetAt at h
  refine a_iload_n dX0_wetAt_0 1 rfl ?_
  refine a_callSi (n := 1) [.int _] dX0_wetAt_1 (s3_lowestRows h) (gS tbc kM_RX0_93_X3_lowestRows kT_X3_lowestRows kN_RX3 kC_X3_lowestRows) rfl (by decide +kernel) ⟨Nat.le_of_ble_eq_true rfl, Nat.le_of_ble_eq_true rfl⟩ rfl rfl (Nat.le_of_ble_eq_true rfl) ⟨Nat.le_refl 0, Nat.le_refl 0⟩ (fun r M h => ?_)
  refine a_istore_n (i := 2) (L' := [(2, .int _), (0, .ref _), (1, .int _)]) dX0_wetAt_4 rfl (by decide) rfl ?_
  refine a_iconst (v := 0) dX0_wetAt_5 (by decide) ?_
  refine a_istore_n (i := 3) (L' := [(3, .int _), (2, .int _), (0, .ref _), (1, .int _)]) dX0_wetAt_6 rfl (by decide) rfl ?_
  refine a_sub [2, 1, 0] rfl ?_
  exact s0_wetAt_c7 hb _ _ _ _ h

/-! X0_anHour -/
theorem dX0_anHour_0 : decode cX0_anHour 0 = .ok (.aload_n 0, 1) := by decide +kernel
theorem dX0_anHour_1 : decode cX0_anHour 1 = .ok (.dup, 1) := by decide +kernel
theorem dX0_anHour_2 : decode cX0_anHour 2 = .ok (.getfield 31, 3) := by decide +kernel
theorem dX0_anHour_5 : decode cX0_anHour 5 = .ok (.iconst 1, 1) := by decide +kernel
theorem dX0_anHour_6 : decode cX0_anHour 6 = .ok (.iadd, 1) := by decide +kernel
theorem dX0_anHour_7 : decode cX0_anHour 7 = .ok (.putfield 31, 3) := by decide +kernel
theorem dX0_anHour_10 : decode cX0_anHour 10 = .ok (.aload_n 0, 1) := by decide +kernel
theorem dX0_anHour_11 : decode cX0_anHour 11 = .ok (.iconst 5, 1) := by decide +kernel
theorem dX0_anHour_12 : decode cX0_anHour 12 = .ok (.aload_n 0, 1) := by decide +kernel
theorem dX0_anHour_13 : decode cX0_anHour 13 = .ok (.getfield 31, 3) := by decide +kernel
theorem dX0_anHour_16 : decode cX0_anHour 16 = .ok (.invokestatic 74, 3) := by decide +kernel
theorem dX0_anHour_19 : decode cX0_anHour 19 = .ok (.iload_n 1, 1) := by decide +kernel
theorem dX0_anHour_20 : decode cX0_anHour 20 = .ok (.iadd, 1) := by decide +kernel
theorem dX0_anHour_21 : decode cX0_anHour 21 = .ok (.invokestatic 77, 3) := by decide +kernel
theorem dX0_anHour_24 : decode cX0_anHour 24 = .ok (.invokevirtual 80, 3) := by decide +kernel
theorem dX0_anHour_27 : decode cX0_anHour 27 = .ok (.istore_n 3, 1) := by decide +kernel
theorem dX0_anHour_28 : decode cX0_anHour 28 = .ok (.iload_n 3, 1) := by decide +kernel
theorem dX0_anHour_29 : decode cX0_anHour 29 = .ok (.iload_n 3, 1) := by decide +kernel
theorem dX0_anHour_30 : decode cX0_anHour 30 = .ok (.invokestatic 83, 3) := by decide +kernel
theorem dX0_anHour_33 : decode cX0_anHour 33 = .ok (.ior, 1) := by decide +kernel
theorem dX0_anHour_34 : decode cX0_anHour 34 = .ok (.istore 4, 2) := by decide +kernel
theorem dX0_anHour_36 : decode cX0_anHour 36 = .ok (.aload_n 0, 1) := by decide +kernel
theorem dX0_anHour_37 : decode cX0_anHour 37 = .ok (.getfield 28, 3) := by decide +kernel
theorem dX0_anHour_40 : decode cX0_anHour 40 = .ok (.istore 5, 2) := by decide +kernel
theorem dX0_anHour_42 : decode cX0_anHour 42 = .ok (.iconst 0, 1) := by decide +kernel
theorem dX0_anHour_43 : decode cX0_anHour 43 = .ok (.istore 6, 2) := by decide +kernel
theorem dX0_anHour_45 : decode cX0_anHour 45 = .ok (.iload 6, 2) := by decide +kernel
theorem dX0_anHour_47 : decode cX0_anHour 47 = .ok (.bipush 10, 2) := by decide +kernel
theorem dX0_anHour_49 : decode cX0_anHour 49 = .ok (.if_icmp .ge 179, 3) := by decide +kernel
theorem dX0_anHour_52 : decode cX0_anHour 52 = .ok (.aload_n 0, 1) := by decide +kernel
theorem dX0_anHour_53 : decode cX0_anHour 53 = .ok (.iload 6, 2) := by decide +kernel
theorem dX0_anHour_55 : decode cX0_anHour 55 = .ok (.invokevirtual 60, 3) := by decide +kernel
theorem dX0_anHour_58 : decode cX0_anHour 58 = .ok (.ifCond .eq 164, 3) := by decide +kernel
theorem dX0_anHour_61 : decode cX0_anHour 61 = .ok (.iload 4, 2) := by decide +kernel
theorem dX0_anHour_63 : decode cX0_anHour 63 = .ok (.aload_n 0, 1) := by decide +kernel
theorem dX0_anHour_64 : decode cX0_anHour 64 = .ok (.getfield 18, 3) := by decide +kernel
theorem dX0_anHour_67 : decode cX0_anHour 67 = .ok (.iload 6, 2) := by decide +kernel
theorem dX0_anHour_69 : decode cX0_anHour 69 = .ok (.iaload, 1) := by decide +kernel
theorem dX0_anHour_70 : decode cX0_anHour 70 = .ok (.invokestatic 86, 3) := by decide +kernel
theorem dX0_anHour_73 : decode cX0_anHour 73 = .ok (.ifCond .eq 24, 3) := by decide +kernel
theorem dX0_anHour_76 : decode cX0_anHour 76 = .ok (.aload_n 0, 1) := by decide +kernel
theorem dX0_anHour_77 : decode cX0_anHour 77 = .ok (.getfield 21, 3) := by decide +kernel
theorem dX0_anHour_80 : decode cX0_anHour 80 = .ok (.iload 6, 2) := by decide +kernel
theorem dX0_anHour_82 : decode cX0_anHour 82 = .ok (.bipush 99, 2) := by decide +kernel
theorem dX0_anHour_84 : decode cX0_anHour 84 = .ok (.aload_n 0, 1) := by decide +kernel
theorem dX0_anHour_85 : decode cX0_anHour 85 = .ok (.getfield 21, 3) := by decide +kernel
theorem dX0_anHour_88 : decode cX0_anHour 88 = .ok (.iload 6, 2) := by decide +kernel
theorem dX0_anHour_90 : decode cX0_anHour 90 = .ok (.iaload, 1) := by decide +kernel
theorem dX0_anHour_91 : decode cX0_anHour 91 = .ok (.iconst 1, 1) := by decide +kernel
theorem dX0_anHour_92 : decode cX0_anHour 92 = .ok (.iadd, 1) := by decide +kernel
theorem dX0_anHour_93 : decode cX0_anHour 93 = .ok (.invokestatic 77, 3) := by decide +kernel
theorem dX0_anHour_96 : decode cX0_anHour 96 = .ok (.iastore, 1) := by decide +kernel
theorem dX0_anHour_97 : decode cX0_anHour 97 = .ok (.iload_n 3, 1) := by decide +kernel
theorem dX0_anHour_98 : decode cX0_anHour 98 = .ok (.aload_n 0, 1) := by decide +kernel
theorem dX0_anHour_99 : decode cX0_anHour 99 = .ok (.getfield 18, 3) := by decide +kernel
theorem dX0_anHour_102 : decode cX0_anHour 102 = .ok (.iload 6, 2) := by decide +kernel
theorem dX0_anHour_104 : decode cX0_anHour 104 = .ok (.iaload, 1) := by decide +kernel
theorem dX0_anHour_105 : decode cX0_anHour 105 = .ok (.invokestatic 86, 3) := by decide +kernel
theorem dX0_anHour_108 : decode cX0_anHour 108 = .ok (.ifCond .ne 76, 3) := by decide +kernel
theorem dX0_anHour_111 : decode cX0_anHour 111 = .ok (.iload_n 2, 1) := by decide +kernel
theorem dX0_anHour_112 : decode cX0_anHour 112 = .ok (.iload 6, 2) := by decide +kernel
theorem dX0_anHour_114 : decode cX0_anHour 114 = .ok (.ishr, 1) := by decide +kernel
theorem dX0_anHour_115 : decode cX0_anHour 115 = .ok (.iconst 1, 1) := by decide +kernel
theorem dX0_anHour_116 : decode cX0_anHour 116 = .ok (.iand, 1) := by decide +kernel
theorem dX0_anHour_117 : decode cX0_anHour 117 = .ok (.ifCond .ne 67, 3) := by decide +kernel
theorem dX0_anHour_120 : decode cX0_anHour 120 = .ok (.aload_n 0, 1) := by decide +kernel
theorem dX0_anHour_121 : decode cX0_anHour 121 = .ok (.sipush 9999, 3) := by decide +kernel
theorem dX0_anHour_124 : decode cX0_anHour 124 = .ok (.aload_n 0, 1) := by decide +kernel
theorem dX0_anHour_125 : decode cX0_anHour 125 = .ok (.getfield 34, 3) := by decide +kernel
theorem dX0_anHour_128 : decode cX0_anHour 128 = .ok (.aload_n 0, 1) := by decide +kernel
theorem dX0_anHour_129 : decode cX0_anHour 129 = .ok (.getfield 11, 3) := by decide +kernel
theorem dX0_anHour_132 : decode cX0_anHour 132 = .ok (.iload 6, 2) := by decide +kernel
theorem dX0_anHour_134 : decode cX0_anHour 134 = .ok (.iaload, 1) := by decide +kernel
theorem dX0_anHour_135 : decode cX0_anHour 135 = .ok (.aload_n 0, 1) := by decide +kernel
theorem dX0_anHour_136 : decode cX0_anHour 136 = .ok (.getfield 15, 3) := by decide +kernel
theorem dX0_anHour_139 : decode cX0_anHour 139 = .ok (.iload 6, 2) := by decide +kernel
theorem dX0_anHour_141 : decode cX0_anHour 141 = .ok (.iaload, 1) := by decide +kernel
theorem dX0_anHour_142 : decode cX0_anHour 142 = .ok (.invokestatic 90, 3) := by decide +kernel
theorem dX0_anHour_145 : decode cX0_anHour 145 = .ok (.iadd, 1) := by decide +kernel
theorem dX0_anHour_146 : decode cX0_anHour 146 = .ok (.invokestatic 77, 3) := by decide +kernel
theorem dX0_anHour_149 : decode cX0_anHour 149 = .ok (.putfield 34, 3) := by decide +kernel
theorem dX0_anHour_152 : decode cX0_anHour 152 = .ok (.aload_n 0, 1) := by decide +kernel
theorem dX0_anHour_153 : decode cX0_anHour 153 = .ok (.sipush 9999, 3) := by decide +kernel
theorem dX0_anHour_156 : decode cX0_anHour 156 = .ok (.aload_n 0, 1) := by decide +kernel
theorem dX0_anHour_157 : decode cX0_anHour 157 = .ok (.getfield 37, 3) := by decide +kernel
theorem dX0_anHour_160 : decode cX0_anHour 160 = .ok (.aload_n 0, 1) := by decide +kernel
theorem dX0_anHour_161 : decode cX0_anHour 161 = .ok (.getfield 11, 3) := by decide +kernel
theorem dX0_anHour_164 : decode cX0_anHour 164 = .ok (.iload 6, 2) := by decide +kernel
theorem dX0_anHour_166 : decode cX0_anHour 166 = .ok (.iaload, 1) := by decide +kernel
theorem dX0_anHour_167 : decode cX0_anHour 167 = .ok (.aload_n 0, 1) := by decide +kernel
theorem dX0_anHour_168 : decode cX0_anHour 168 = .ok (.getfield 15, 3) := by decide +kernel
theorem dX0_anHour_171 : decode cX0_anHour 171 = .ok (.iload 6, 2) := by decide +kernel
theorem dX0_anHour_173 : decode cX0_anHour 173 = .ok (.iaload, 1) := by decide +kernel
theorem dX0_anHour_174 : decode cX0_anHour 174 = .ok (.invokestatic 57, 3) := by decide +kernel
theorem dX0_anHour_177 : decode cX0_anHour 177 = .ok (.iadd, 1) := by decide +kernel
theorem dX0_anHour_178 : decode cX0_anHour 178 = .ok (.invokestatic 77, 3) := by decide +kernel
theorem dX0_anHour_181 : decode cX0_anHour 181 = .ok (.putfield 37, 3) := by decide +kernel
theorem dX0_anHour_184 : decode cX0_anHour 184 = .ok (.aload_n 0, 1) := by decide +kernel
theorem dX0_anHour_185 : decode cX0_anHour 185 = .ok (.getfield 21, 3) := by decide +kernel
theorem dX0_anHour_188 : decode cX0_anHour 188 = .ok (.iload 6, 2) := by decide +kernel
theorem dX0_anHour_190 : decode cX0_anHour 190 = .ok (.iaload, 1) := by decide +kernel
theorem dX0_anHour_191 : decode cX0_anHour 191 = .ok (.aload_n 0, 1) := by decide +kernel
theorem dX0_anHour_192 : decode cX0_anHour 192 = .ok (.getfield 11, 3) := by decide +kernel
theorem dX0_anHour_195 : decode cX0_anHour 195 = .ok (.iload 6, 2) := by decide +kernel
theorem dX0_anHour_197 : decode cX0_anHour 197 = .ok (.iaload, 1) := by decide +kernel
theorem dX0_anHour_198 : decode cX0_anHour 198 = .ok (.aload_n 0, 1) := by decide +kernel
theorem dX0_anHour_199 : decode cX0_anHour 199 = .ok (.getfield 15, 3) := by decide +kernel
theorem dX0_anHour_202 : decode cX0_anHour 202 = .ok (.iload 6, 2) := by decide +kernel
theorem dX0_anHour_204 : decode cX0_anHour 204 = .ok (.iaload, 1) := by decide +kernel
theorem dX0_anHour_205 : decode cX0_anHour 205 = .ok (.invokestatic 51, 3) := by decide +kernel
theorem dX0_anHour_208 : decode cX0_anHour 208 = .ok (.if_icmp .le 14, 3) := by decide +kernel
theorem dX0_anHour_211 : decode cX0_anHour 211 = .ok (.iload 5, 2) := by decide +kernel
theorem dX0_anHour_213 : decode cX0_anHour 213 = .ok (.iconst 1, 1) := by decide +kernel
theorem dX0_anHour_214 : decode cX0_anHour 214 = .ok (.iload 6, 2) := by decide +kernel
theorem dX0_anHour_216 : decode cX0_anHour 216 = .ok (.ishl, 1) := by decide +kernel
theorem dX0_anHour_217 : decode cX0_anHour 217 = .ok (.iconst (-1), 1) := by decide +kernel
theorem dX0_anHour_218 : decode cX0_anHour 218 = .ok (.ixor, 1) := by decide +kernel
theorem dX0_anHour_219 : decode cX0_anHour 219 = .ok (.iand, 1) := by decide +kernel
theorem dX0_anHour_220 : decode cX0_anHour 220 = .ok (.istore 5, 2) := by decide +kernel
theorem dX0_anHour_222 : decode cX0_anHour 222 = .ok (.iinc 6 1, 3) := by decide +kernel
theorem dX0_anHour_225 : decode cX0_anHour 225 = .ok (.goto (-180), 3) := by decide +kernel
theorem dX0_anHour_228 : decode cX0_anHour 228 = .ok (.aload_n 0, 1) := by decide +kernel
theorem dX0_anHour_229 : decode cX0_anHour 229 = .ok (.iload 5, 2) := by decide +kernel
theorem dX0_anHour_231 : decode cX0_anHour 231 = .ok (.putfield 28, 3) := by decide +kernel
theorem dX0_anHour_234 : decode cX0_anHour 234 = .ok (.return_, 1) := by decide +kernel
abbrev A0_anHour (G : GG) (Q : MM → Prop) := AW G E0 (MZ G (qV Q)) (WY yX0_anHour cX0_anHour 7 none) RX0 cX0_anHour 7 none ({ frames := 2, cells := 0, slots := 0, locals := 46 } : Room) 0 0
def D0_anHour_c222 (b : Nat) (K45 : Int32 → Int32 → Int32 → Int32 → Int32 → MM → Prop) (Q : MM → Prop) (x2 : Int32) (x3 : Int32) (x4 : Int32) (x5 : Int32) (x6 : Int32) (M : MM) : Prop := (fun v16 : Int32 => K45 x2 x3 x4 x5 v16 M) (x6 + (1 : Int32))
def D0_anHour_c184 (b : Nat) (K45 : Int32 → Int32 → Int32 → Int32 → Int32 → MM → Prop) (Q : MM → Prop) (x2 : Int32) (x3 : Int32) (x4 : Int32) (x5 : Int32) (x6 : Int32) (M : MM) : Prop := ib (b + 4) x6 ∧ ib (b + 1) x6 ∧ ib (b + 2) x6 ∧ D1_holdsFor (M (b + 1) (ix x6)) (M (b + 2) (ix x6)) M (fun (r25 : Int32) (M26 : MM) => (((M (b + 4) (ix x6)) ≤ r25 → D0_anHour_c222 b K45 Q x2 x3 x4 x5 x6 M26) ∧ (¬ (M (b + 4) (ix x6)) ≤ r25 → (fun v27 : Int32 => D0_anHour_c222 b K45 Q x2 x3 x4 v27 x6 M26) (x5 &&& (((1 : Int32) <<< (x6 &&& 31)) ^^^ (-1 : Int32))))))
def D0_anHour_c97 (b : Nat) (K45 : Int32 → Int32 → Int32 → Int32 → Int32 → MM → Prop) (Q : MM → Prop) (x2 : Int32) (x3 : Int32) (x4 : Int32) (x5 : Int32) (x6 : Int32) (M : MM) : Prop := ib (b + 3) x6 ∧ D3_has x3 (M (b + 3) (ix x6)) M (fun (r17 : Int32) (M18 : MM) => ((r17 ≠ 0 → D0_anHour_c184 b K45 Q x2 x3 x4 x5 x6 M18) ∧ (r17 = 0 → ((((x2 >>> (x6 &&& 31)) &&& (1 : Int32)) ≠ 0 → D0_anHour_c184 b K45 Q x2 x3 x4 x5 x6 M18) ∧ (((x2 >>> (x6 &&& 31)) &&& (1 : Int32)) = 0 → ib (b + 1) x6 ∧ ib (b + 2) x6 ∧ D1_letsFor (M18 (b + 1) (ix x6)) (M18 (b + 2) (ix x6)) M18 (fun (r19 : Int32) (M20 : MM) => (fun M21 : MM => ib (b + 1) x6 ∧ ib (b + 2) x6 ∧ D1_rateFor (M21 (b + 1) (ix x6)) (M21 (b + 2) (ix x6)) M21 (fun (r22 : Int32) (M23 : MM) => (fun M24 : MM => D0_anHour_c184 b K45 Q x2 x3 x4 x5 x6 M24) (up M23 b 8 (if ((M21 b 8) + r22) < (9999 : Int32) then ((M21 b 8) + r22) else (9999 : Int32))))) (up M20 b 7 (if ((M18 b 7) + r19) < (9999 : Int32) then ((M18 b 7) + r19) else (9999 : Int32)))))))))
def D0_anHour_c45 (b : Nat) (Q : MM → Prop) : Nat → Int32 → Int32 → Int32 → Int32 → Int32 → MM → Prop
  | 0, _, _, _, _, _, _ => False
  | n + 1, x2, x3, x4, x5, x6, M => (((10 : Int32) ≤ x6 → (fun M10 : MM => Q M10) (up M b 5 x5)) ∧ (¬ (10 : Int32) ≤ x6 → D0_stands b x6 M (fun (r11 : Int32) (M12 : MM) => ((r11 = 0 → D0_anHour_c222 b (D0_anHour_c45 b Q n) Q x2 x3 x4 x5 x6 M12) ∧ (¬ r11 = 0 → ib (b + 3) x6 ∧ D3_has x4 (M12 (b + 3) (ix x6)) M12 (fun (r13 : Int32) (M14 : MM) => ((r13 = 0 → D0_anHour_c97 b (D0_anHour_c45 b Q n) Q x2 x3 x4 x5 x6 M14) ∧ (¬ r13 = 0 → ib (b + 4) x6 ∧ ib (b + 4) x6 ∧ (fun M15 : MM => D0_anHour_c97 b (D0_anHour_c45 b Q n) Q x2 x3 x4 x5 x6 M15) (up M14 (b + 4) (ix x6) (if ((M14 (b + 4) (ix x6)) + (1 : Int32)) < (99 : Int32) then ((M14 (b + 4) (ix x6)) + (1 : Int32)) else (99 : Int32)))))))))))
def D0_anHour (b : Nat) (x1 : Int32) (x2 : Int32) (M : MM) (Q : MM → Prop) : Prop := (fun M1 : MM => D3_height (M1 b 6) M1 (fun (r2 : Int32) (M3 : MM) => D0_wetAt b (if (r2 + x1) < (5 : Int32) then (r2 + x1) else (5 : Int32)) M3 (fun (r4 : Int32) (M5 : MM) => D3_beside r4 M5 (fun (r6 : Int32) (M7 : MM) => (fun v8 : Int32 => (fun v9 : Int32 => D0_anHour_c45 b Q FU x2 r4 v8 v9 (0 : Int32) M7) (M7 b 5)) (r4 ||| r6))))) (up M b 6 ((M b 6) + (1 : Int32)))
set_option maxHeartbeats 4000000 in
set_option maxRecDepth 100000 in
theorem s0_anHour_c222 {G : GG} {b : Nat} (hb : ob b 0) {K45 : Int32 → Int32 → Int32 → Int32 → Int32 → MM → Prop} {Q : MM → Prop} (hK45 : ∀ (x2 : Int32) (x3 : Int32) (x4 : Int32) (x5 : Int32) (x6 : Int32) (M : MM), K45 x2 x3 x4 x5 x6 M → A0_anHour G Q 45 [(0, .ref (gA G b)), (2, .int x2), (3, .int x3), (4, .int x4), (5, .int x5), (6, .int x6)] [] M) : ∀ (x2 : Int32) (x3 : Int32) (x4 : Int32) (x5 : Int32) (x6 : Int32) (M : MM), D0_anHour_c222 b K45 Q x2 x3 x4 x5 x6 M → A0_anHour G Q 222 [(0, .ref (gA G b)), (2, .int x2), (3, .int x3), (4, .int x4), (5, .int x5), (6, .int x6)] [] M := by
  intro x2 x3 x4 x5 x6 M h
  unfold D0_anHour_c222 at h
  refine a_iinc (L' := [(6, .int _), (0, .ref _), (2, .int _), (3, .int _), (4, .int _), (5, .int _)]) dX0_anHour_222 5 rfl (show _ + Int32.ofInt (1 : Int) = _ + (1 : Int32) from rfl) (by decide) rfl ?_
  refine a_goto (tgt := 45) dX0_anHour_225 (by decide) ?_
  refine a_sub [1, 2, 3, 4, 5, 0] rfl ?_
  exact hK45 _ _ _ _ _ _ h
set_option maxHeartbeats 4000000 in
set_option maxRecDepth 100000 in
theorem s0_anHour_c184 {G : GG} {b : Nat} (hb : ob b 0) {K45 : Int32 → Int32 → Int32 → Int32 → Int32 → MM → Prop} {Q : MM → Prop} (hK45 : ∀ (x2 : Int32) (x3 : Int32) (x4 : Int32) (x5 : Int32) (x6 : Int32) (M : MM), K45 x2 x3 x4 x5 x6 M → A0_anHour G Q 45 [(0, .ref (gA G b)), (2, .int x2), (3, .int x3), (4, .int x4), (5, .int x5), (6, .int x6)] [] M) : ∀ (x2 : Int32) (x3 : Int32) (x4 : Int32) (x5 : Int32) (x6 : Int32) (M : MM), D0_anHour_c184 b K45 Q x2 x3 x4 x5 x6 M → A0_anHour G Q 184 [(0, .ref (gA G b)), (2, .int x2), (3, .int x3), (4, .int x4), (5, .int x5), (6, .int x6)] [] M := by
  intro x2 x3 x4 x5 x6 M h
  unfold D0_anHour_c184 at h
  refine a_aload_n dX0_anHour_184 0 rfl ?_
  refine a_get0 dX0_anHour_185 3 (by decide) (tbc _ kF_RX0_21) (fun w h => tbc _ (uW0 w h)) rfl hb rfl ?_
  refine a_iload dX0_anHour_188 5 rfl ?_
  refine a_iald dX0_anHour_190 h.1 ?_
  have h := h.2
  refine a_aload_n dX0_anHour_191 0 rfl ?_
  refine a_get0 dX0_anHour_192 0 (by decide) (tbc _ kF_RX0_11) (fun w h => tbc _ (uW0 w h)) rfl hb rfl ?_
  refine a_iload dX0_anHour_195 5 rfl ?_
  refine a_iald dX0_anHour_197 h.1 ?_
  have h := h.2
  refine a_aload_n dX0_anHour_198 0 rfl ?_
  refine a_get0 dX0_anHour_199 1 (by decide) (tbc _ kF_RX0_15) (fun w h => tbc _ (uW0 w h)) rfl hb rfl ?_
  refine a_iload dX0_anHour_202 5 rfl ?_
  refine a_iald dX0_anHour_204 h.1 ?_
  have h := h.2
  refine a_callSi (n := 2) [.int _, .int _] dX0_anHour_205 (s1_holdsFor h) (gS tbc kM_RX0_51_X1_holdsFor kT_X1_holdsFor kN_RX1 kC_X1_holdsFor) rfl (by decide +kernel) ⟨Nat.le_of_ble_eq_true rfl, Nat.le_of_ble_eq_true rfl⟩ rfl rfl (Nat.le_of_ble_eq_true rfl) ⟨Nat.le_refl 0, Nat.le_refl 0⟩ (fun r M h => ?_)
  refine a_icmp_le (tgt := 222) dX0_anHour_208 (by decide) (fun c => ?_) (fun c => ?_)
  · have h := h.1 c
    refine a_sub [0, 1, 2, 3, 4, 5] rfl ?_
    exact s0_anHour_c222 hb hK45 _ _ _ _ _ _ h
  · have h := h.2 c
    refine a_iload dX0_anHour_211 4 rfl ?_
    refine a_iconst (v := 1) dX0_anHour_213 (by decide) ?_
    refine a_iload dX0_anHour_214 5 rfl ?_
    refine a_ishl dX0_anHour_216 ?_
    refine a_iconst (v := -1) dX0_anHour_217 (by decide) ?_
    refine a_ixor dX0_anHour_218 ?_
    refine a_iand dX0_anHour_219 ?_
    refine a_istore (i := 5) (L' := [(5, .int _), (0, .ref _), (2, .int _), (3, .int _), (4, .int _), (6, .int _)]) dX0_anHour_220 (by decide) rfl ?_
    refine a_sub [1, 2, 3, 4, 0, 5] rfl ?_
    exact s0_anHour_c222 hb hK45 _ _ _ _ _ _ h
set_option maxHeartbeats 4000000 in
set_option maxRecDepth 100000 in
theorem s0_anHour_c97 {G : GG} {b : Nat} (hb : ob b 0) {K45 : Int32 → Int32 → Int32 → Int32 → Int32 → MM → Prop} {Q : MM → Prop} (hK45 : ∀ (x2 : Int32) (x3 : Int32) (x4 : Int32) (x5 : Int32) (x6 : Int32) (M : MM), K45 x2 x3 x4 x5 x6 M → A0_anHour G Q 45 [(0, .ref (gA G b)), (2, .int x2), (3, .int x3), (4, .int x4), (5, .int x5), (6, .int x6)] [] M) : ∀ (x2 : Int32) (x3 : Int32) (x4 : Int32) (x5 : Int32) (x6 : Int32) (M : MM), D0_anHour_c97 b K45 Q x2 x3 x4 x5 x6 M → A0_anHour G Q 97 [(0, .ref (gA G b)), (2, .int x2), (3, .int x3), (4, .int x4), (5, .int x5), (6, .int x6)] [] M := by
  intro x2 x3 x4 x5 x6 M h
  unfold D0_anHour_c97 at h
  refine a_iload_n dX0_anHour_97 2 rfl ?_
  refine a_aload_n dX0_anHour_98 0 rfl ?_
  refine a_get0 dX0_anHour_99 2 (by decide) (tbc _ kF_RX0_18) (fun w h => tbc _ (uW0 w h)) rfl hb rfl ?_
  refine a_iload dX0_anHour_102 5 rfl ?_
  refine a_iald dX0_anHour_104 h.1 ?_
  have h := h.2
  refine a_callSi (n := 2) [.int _, .int _] dX0_anHour_105 (s3_has h) (gS tbc kM_RX0_86_X3_has kT_X3_has kN_RX3 kC_X3_has) rfl (by decide +kernel) ⟨Nat.le_of_ble_eq_true rfl, Nat.le_of_ble_eq_true rfl⟩ rfl rfl (Nat.le_of_ble_eq_true rfl) ⟨Nat.le_refl 0, Nat.le_refl 0⟩ (fun r M h => ?_)
  refine a_if_ne (tgt := 184) dX0_anHour_108 (by decide) (fun c => ?_) (fun c => ?_)
  · have h := h.1 c
    refine a_sub [0, 1, 2, 3, 4, 5] rfl ?_
    exact s0_anHour_c184 hb hK45 _ _ _ _ _ _ h
  · have h := h.2 c
    refine a_iload_n dX0_anHour_111 1 rfl ?_
    refine a_iload dX0_anHour_112 5 rfl ?_
    refine a_ishr dX0_anHour_114 ?_
    refine a_iconst (v := 1) dX0_anHour_115 (by decide) ?_
    refine a_iand dX0_anHour_116 ?_
    refine a_if_ne (tgt := 184) dX0_anHour_117 (by decide) (fun c => ?_) (fun c => ?_)
    · have h := h.1 c
      refine a_sub [0, 1, 2, 3, 4, 5] rfl ?_
      exact s0_anHour_c184 hb hK45 _ _ _ _ _ _ h
    · have h := h.2 c
      refine a_aload_n dX0_anHour_120 0 rfl ?_
      refine a_sipush (v := 9999) dX0_anHour_121 (by decide) ?_
      refine a_aload_n dX0_anHour_124 0 rfl ?_
      refine a_get0 dX0_anHour_125 7 (by decide) (tbc _ kF_RX0_34) (fun w h => tbc _ (uW0 w h)) rfl hb rfl ?_
      refine a_aload_n dX0_anHour_128 0 rfl ?_
      refine a_get0 dX0_anHour_129 0 (by decide) (tbc _ kF_RX0_11) (fun w h => tbc _ (uW0 w h)) rfl hb rfl ?_
      refine a_iload dX0_anHour_132 5 rfl ?_
      refine a_iald dX0_anHour_134 h.1 ?_
      have h := h.2
      refine a_aload_n dX0_anHour_135 0 rfl ?_
      refine a_get0 dX0_anHour_136 1 (by decide) (tbc _ kF_RX0_15) (fun w h => tbc _ (uW0 w h)) rfl hb rfl ?_
      refine a_iload dX0_anHour_139 5 rfl ?_
      refine a_iald dX0_anHour_141 h.1 ?_
      have h := h.2
      refine a_callSi (n := 2) [.int _, .int _] dX0_anHour_142 (s1_letsFor h) (gS tbc kM_RX0_90_X1_letsFor kT_X1_letsFor kN_RX1 kC_X1_letsFor) rfl (by decide +kernel) ⟨Nat.le_of_ble_eq_true rfl, Nat.le_of_ble_eq_true rfl⟩ rfl rfl (Nat.le_of_ble_eq_true rfl) ⟨Nat.le_refl 0, Nat.le_refl 0⟩ (fun r M h => ?_)
      refine a_iadd dX0_anHour_145 ?_
      refine a_mmin dX0_anHour_146 (tbc _ kM_RX0_77_Lib_Math_min_name) (tbc _ kT_Lib_Math_min_name) (tbc _ kN_Math) (tbc _ kC_Lib_Math_min_name) (Nat.le_of_ble_eq_true rfl) (Nat.le_of_ble_eq_true rfl) (Nat.le_refl 0) (Nat.le_refl 0) ?_
      refine a_put0 dX0_anHour_149 7 (by decide) (tbc _ kF_RX0_34) (fun w h => tbc _ (uW0 w h)) rfl rfl rfl rfl hb fs0_7 ?_
      refine a_aload_n dX0_anHour_152 0 rfl ?_
      refine a_sipush (v := 9999) dX0_anHour_153 (by decide) ?_
      refine a_aload_n dX0_anHour_156 0 rfl ?_
      refine a_get0 dX0_anHour_157 8 (by decide) (tbc _ kF_RX0_37) (fun w h => tbc _ (uW0 w h)) rfl hb rfl ?_
      refine a_aload_n dX0_anHour_160 0 rfl ?_
      refine a_get0 dX0_anHour_161 0 (by decide) (tbc _ kF_RX0_11) (fun w h => tbc _ (uW0 w h)) rfl hb rfl ?_
      refine a_iload dX0_anHour_164 5 rfl ?_
      refine a_iald dX0_anHour_166 h.1 ?_
      have h := h.2
      refine a_aload_n dX0_anHour_167 0 rfl ?_
      refine a_get0 dX0_anHour_168 1 (by decide) (tbc _ kF_RX0_15) (fun w h => tbc _ (uW0 w h)) rfl hb rfl ?_
      refine a_iload dX0_anHour_171 5 rfl ?_
      refine a_iald dX0_anHour_173 h.1 ?_
      have h := h.2
      refine a_callSi (n := 2) [.int _, .int _] dX0_anHour_174 (s1_rateFor h) (gS tbc kM_RX0_57_X1_rateFor kT_X1_rateFor kN_RX1 kC_X1_rateFor) rfl (by decide +kernel) ⟨Nat.le_of_ble_eq_true rfl, Nat.le_of_ble_eq_true rfl⟩ rfl rfl (Nat.le_of_ble_eq_true rfl) ⟨Nat.le_refl 0, Nat.le_refl 0⟩ (fun r M h => ?_)
      refine a_iadd dX0_anHour_177 ?_
      refine a_mmin dX0_anHour_178 (tbc _ kM_RX0_77_Lib_Math_min_name) (tbc _ kT_Lib_Math_min_name) (tbc _ kN_Math) (tbc _ kC_Lib_Math_min_name) (Nat.le_of_ble_eq_true rfl) (Nat.le_of_ble_eq_true rfl) (Nat.le_refl 0) (Nat.le_refl 0) ?_
      refine a_put0 dX0_anHour_181 8 (by decide) (tbc _ kF_RX0_37) (fun w h => tbc _ (uW0 w h)) rfl rfl rfl rfl hb fs0_8 ?_
      refine a_sub [0, 1, 2, 3, 4, 5] rfl ?_
      exact s0_anHour_c184 hb hK45 _ _ _ _ _ _ h
set_option maxHeartbeats 4000000 in
set_option maxRecDepth 100000 in
theorem s0_anHour_c45 {G : GG} {b : Nat} (hb : ob b 0) {Q : MM → Prop} : ∀ (n : Nat) (x2 : Int32) (x3 : Int32) (x4 : Int32) (x5 : Int32) (x6 : Int32) (M : MM), D0_anHour_c45 b Q n x2 x3 x4 x5 x6 M → A0_anHour G Q 45 [(0, .ref (gA G b)), (2, .int x2), (3, .int x3), (4, .int x4), (5, .int x5), (6, .int x6)] [] M := by
  intro n
  induction n with
  | zero => intro x2 x3 x4 x5 x6 M h; exact h.elim
  | succ n ih =>
    intro x2 x3 x4 x5 x6 M h
    unfold D0_anHour_c45 at h
    refine a_iload dX0_anHour_45 5 rfl ?_
    refine a_bipush (v := 10) dX0_anHour_47 (by decide) ?_
    refine a_icmp_ge (tgt := 228) dX0_anHour_49 (by decide) (fun c => ?_) (fun c => ?_)
    · have h := h.1 c
      refine a_aload_n dX0_anHour_228 0 rfl ?_
      refine a_iload dX0_anHour_229 4 rfl ?_
      refine a_put0 dX0_anHour_231 5 (by decide) (tbc _ kF_RX0_28) (fun w h => tbc _ (uW0 w h)) rfl rfl rfl rfl hb fs0_5 ?_
      exact a_vret dX0_anHour_234 ⟨rfl, h⟩
    · have h := h.2 c
      refine a_aload_n dX0_anHour_52 0 rfl ?_
      refine a_iload dX0_anHour_53 5 rfl ?_
      refine a_callVi (n := 1) [.int _] (C := RX0) (ci := 0) (qc := (RX0, TX0, 9)) (fsF := fl0 G _) hb.1 (fun _ => en0 hb.2) rfl rfl dX0_anHour_55 (s0_stands hb h) (gV tbc kM_RX0_60_X0_stands kI_X0_stands kS_X0_stands kN_RX0 kC_X0_stands) rfl (by decide +kernel) ⟨Nat.le_of_ble_eq_true rfl, Nat.le_of_ble_eq_true rfl⟩ rfl rfl (Nat.le_of_ble_eq_true rfl) ⟨Nat.le_refl 0, Nat.le_refl 0⟩ (fun r M h => ?_)
      refine a_if_eq (tgt := 222) dX0_anHour_58 (by decide) (fun c => ?_) (fun c => ?_)
      · have h := h.1 c
        refine a_sub [0, 1, 2, 3, 4, 5] rfl ?_
        exact s0_anHour_c222 hb ih _ _ _ _ _ _ h
      · have h := h.2 c
        refine a_iload dX0_anHour_61 3 rfl ?_
        refine a_aload_n dX0_anHour_63 0 rfl ?_
        refine a_get0 dX0_anHour_64 2 (by decide) (tbc _ kF_RX0_18) (fun w h => tbc _ (uW0 w h)) rfl hb rfl ?_
        refine a_iload dX0_anHour_67 5 rfl ?_
        refine a_iald dX0_anHour_69 h.1 ?_
        have h := h.2
        refine a_callSi (n := 2) [.int _, .int _] dX0_anHour_70 (s3_has h) (gS tbc kM_RX0_86_X3_has kT_X3_has kN_RX3 kC_X3_has) rfl (by decide +kernel) ⟨Nat.le_of_ble_eq_true rfl, Nat.le_of_ble_eq_true rfl⟩ rfl rfl (Nat.le_of_ble_eq_true rfl) ⟨Nat.le_refl 0, Nat.le_refl 0⟩ (fun r M h => ?_)
        refine a_if_eq (tgt := 97) dX0_anHour_73 (by decide) (fun c => ?_) (fun c => ?_)
        · have h := h.1 c
          refine a_sub [0, 1, 2, 3, 4, 5] rfl ?_
          exact s0_anHour_c97 hb ih _ _ _ _ _ _ h
        · have h := h.2 c
          refine a_aload_n dX0_anHour_76 0 rfl ?_
          refine a_get0 dX0_anHour_77 3 (by decide) (tbc _ kF_RX0_21) (fun w h => tbc _ (uW0 w h)) rfl hb rfl ?_
          refine a_iload dX0_anHour_80 5 rfl ?_
          refine a_bipush (v := 99) dX0_anHour_82 (by decide) ?_
          refine a_aload_n dX0_anHour_84 0 rfl ?_
          refine a_get0 dX0_anHour_85 3 (by decide) (tbc _ kF_RX0_21) (fun w h => tbc _ (uW0 w h)) rfl hb rfl ?_
          refine a_iload dX0_anHour_88 5 rfl ?_
          refine a_iald dX0_anHour_90 h.1 ?_
          have h := h.2
          refine a_iconst (v := 1) dX0_anHour_91 (by decide) ?_
          refine a_iadd dX0_anHour_92 ?_
          refine a_mmin dX0_anHour_93 (tbc _ kM_RX0_77_Lib_Math_min_name) (tbc _ kT_Lib_Math_min_name) (tbc _ kN_Math) (tbc _ kC_Lib_Math_min_name) (Nat.le_of_ble_eq_true rfl) (Nat.le_of_ble_eq_true rfl) (Nat.le_refl 0) (Nat.le_refl 0) ?_
          refine a_iast dX0_anHour_96 h.1 ?_
          have h := h.2
          refine a_sub [0, 1, 2, 3, 4, 5] rfl ?_
          exact s0_anHour_c97 hb ih _ _ _ _ _ _ h
set_option maxHeartbeats 4000000 in
set_option maxRecDepth 100000 in
theorem s0_anHour {G : GG} {b : Nat} (hb : ob b 0) {x1 : Int32} {x2 : Int32} {M : MM} {Q : MM → Prop} (h : D0_anHour b x1 x2 M Q) : CM G yX0_anHour (WY yX0_anHour cX0_anHour 7 none) 2 46 [.ref (gA G b), .int x1, .int x2] M (qV Q) := by
  refine CM.of (cc := cX0_anHour) (nL := 7) (ret := none) (own := RX0) (by decide +kernel) rfl rfl (Nat.le_of_ble_eq_true rfl) ?_
  show A0_anHour G Q 0 [(0, .ref (gA G b)), (1, .int x1), (2, .int x2)] [] M
  unfold D0_anHour at h
  refine a_aload_n dX0_anHour_0 0 rfl ?_
  refine a_dup dX0_anHour_1 rfl ?_
  refine a_get0 dX0_anHour_2 6 (by decide) (tbc _ kF_RX0_31) (fun w h => tbc _ (uW0 w h)) rfl hb rfl ?_
  refine a_iconst (v := 1) dX0_anHour_5 (by decide) ?_
  refine a_iadd dX0_anHour_6 ?_
  refine a_put0 dX0_anHour_7 6 (by decide) (tbc _ kF_RX0_31) (fun w h => tbc _ (uW0 w h)) rfl rfl rfl rfl hb fs0_6 ?_
  refine a_aload_n dX0_anHour_10 0 rfl ?_
  refine a_iconst (v := 5) dX0_anHour_11 (by decide) ?_
  refine a_aload_n dX0_anHour_12 0 rfl ?_
  refine a_get0 dX0_anHour_13 6 (by decide) (tbc _ kF_RX0_31) (fun w h => tbc _ (uW0 w h)) rfl hb rfl ?_
  refine a_callSi (n := 1) [.int _] dX0_anHour_16 (s3_height h) (gS tbc kM_RX0_74_X3_height kT_X3_height kN_RX3 kC_X3_height) rfl (by decide +kernel) ⟨Nat.le_of_ble_eq_true rfl, Nat.le_of_ble_eq_true rfl⟩ rfl rfl (Nat.le_of_ble_eq_true rfl) ⟨Nat.le_refl 0, Nat.le_refl 0⟩ (fun r M h => ?_)
  refine a_iload_n dX0_anHour_19 1 rfl ?_
  refine a_iadd dX0_anHour_20 ?_
  refine a_mmin dX0_anHour_21 (tbc _ kM_RX0_77_Lib_Math_min_name) (tbc _ kT_Lib_Math_min_name) (tbc _ kN_Math) (tbc _ kC_Lib_Math_min_name) (Nat.le_of_ble_eq_true rfl) (Nat.le_of_ble_eq_true rfl) (Nat.le_refl 0) (Nat.le_refl 0) ?_
  refine a_callVi (n := 1) [.int _] (C := RX0) (ci := 0) (qc := (RX0, TX0, 9)) (fsF := fl0 G _) hb.1 (fun _ => en0 hb.2) rfl rfl dX0_anHour_24 (s0_wetAt hb h) (gV tbc kM_RX0_80_X0_wetAt kI_X0_wetAt kS_X0_wetAt kN_RX0 kC_X0_wetAt) rfl (by decide +kernel) ⟨Nat.le_of_ble_eq_true rfl, Nat.le_of_ble_eq_true rfl⟩ rfl rfl (Nat.le_of_ble_eq_true rfl) ⟨Nat.le_refl 0, Nat.le_refl 0⟩ (fun r M h => ?_)
  refine a_istore_n (i := 3) (L' := [(3, .int _), (0, .ref _), (1, .int _), (2, .int _)]) dX0_anHour_27 rfl (by decide) rfl ?_
  refine a_iload_n dX0_anHour_28 0 rfl ?_
  refine a_iload_n dX0_anHour_29 0 rfl ?_
  refine a_callSi (n := 1) [.int _] dX0_anHour_30 (s3_beside h) (gS tbc kM_RX0_83_X3_beside kT_X3_beside kN_RX3 kC_X3_beside) rfl (by decide +kernel) ⟨Nat.le_of_ble_eq_true rfl, Nat.le_of_ble_eq_true rfl⟩ rfl rfl (Nat.le_of_ble_eq_true rfl) ⟨Nat.le_refl 0, Nat.le_refl 0⟩ (fun r M h => ?_)
  refine a_ior dX0_anHour_33 ?_
  refine a_istore (i := 4) (L' := [(4, .int _), (3, .int _), (0, .ref _), (1, .int _), (2, .int _)]) dX0_anHour_34 (by decide) rfl ?_
  refine a_aload_n dX0_anHour_36 2 rfl ?_
  refine a_get0 dX0_anHour_37 5 (by decide) (tbc _ kF_RX0_28) (fun w h => tbc _ (uW0 w h)) rfl hb rfl ?_
  refine a_istore (i := 5) (L' := [(5, .int _), (4, .int _), (3, .int _), (0, .ref _), (1, .int _), (2, .int _)]) dX0_anHour_40 (by decide) rfl ?_
  refine a_iconst (v := 0) dX0_anHour_42 (by decide) ?_
  refine a_istore (i := 6) (L' := [(6, .int _), (5, .int _), (4, .int _), (3, .int _), (0, .ref _), (1, .int _), (2, .int _)]) dX0_anHour_43 (by decide) rfl ?_
  refine a_sub [4, 6, 3, 2, 1, 0] rfl ?_
  exact s0_anHour_c45 hb _ _ _ _ _ _ _ h

/-! X0_becomes -/
theorem dX0_becomes_0 : decode cX0_becomes 0 = .ok (.aload_n 1, 1) := by decide +kernel
theorem dX0_becomes_1 : decode cX0_becomes 1 = .ok (.ifnonnull 4, 3) := by decide +kernel
theorem dX0_becomes_4 : decode cX0_becomes 4 = .ok (.return_, 1) := by decide +kernel
theorem dX0_becomes_5 : decode cX0_becomes 5 = .ok (.iconst 0, 1) := by decide +kernel
theorem dX0_becomes_6 : decode cX0_becomes 6 = .ok (.istore_n 2, 1) := by decide +kernel
theorem dX0_becomes_7 : decode cX0_becomes 7 = .ok (.iload_n 2, 1) := by decide +kernel
theorem dX0_becomes_8 : decode cX0_becomes 8 = .ok (.bipush 10, 2) := by decide +kernel
theorem dX0_becomes_10 : decode cX0_becomes 10 = .ok (.if_icmp .ge 57, 3) := by decide +kernel
theorem dX0_becomes_13 : decode cX0_becomes 13 = .ok (.aload_n 0, 1) := by decide +kernel
theorem dX0_becomes_14 : decode cX0_becomes 14 = .ok (.getfield 11, 3) := by decide +kernel
theorem dX0_becomes_17 : decode cX0_becomes 17 = .ok (.iload_n 2, 1) := by decide +kernel
theorem dX0_becomes_18 : decode cX0_becomes 18 = .ok (.aload_n 1, 1) := by decide +kernel
theorem dX0_becomes_19 : decode cX0_becomes 19 = .ok (.getfield 11, 3) := by decide +kernel
theorem dX0_becomes_22 : decode cX0_becomes 22 = .ok (.iload_n 2, 1) := by decide +kernel
theorem dX0_becomes_23 : decode cX0_becomes 23 = .ok (.iaload, 1) := by decide +kernel
theorem dX0_becomes_24 : decode cX0_becomes 24 = .ok (.iastore, 1) := by decide +kernel
theorem dX0_becomes_25 : decode cX0_becomes 25 = .ok (.aload_n 0, 1) := by decide +kernel
theorem dX0_becomes_26 : decode cX0_becomes 26 = .ok (.getfield 15, 3) := by decide +kernel
theorem dX0_becomes_29 : decode cX0_becomes 29 = .ok (.iload_n 2, 1) := by decide +kernel
theorem dX0_becomes_30 : decode cX0_becomes 30 = .ok (.aload_n 1, 1) := by decide +kernel
theorem dX0_becomes_31 : decode cX0_becomes 31 = .ok (.getfield 15, 3) := by decide +kernel
theorem dX0_becomes_34 : decode cX0_becomes 34 = .ok (.iload_n 2, 1) := by decide +kernel
theorem dX0_becomes_35 : decode cX0_becomes 35 = .ok (.iaload, 1) := by decide +kernel
theorem dX0_becomes_36 : decode cX0_becomes 36 = .ok (.iastore, 1) := by decide +kernel
theorem dX0_becomes_37 : decode cX0_becomes 37 = .ok (.aload_n 0, 1) := by decide +kernel
theorem dX0_becomes_38 : decode cX0_becomes 38 = .ok (.getfield 18, 3) := by decide +kernel
theorem dX0_becomes_41 : decode cX0_becomes 41 = .ok (.iload_n 2, 1) := by decide +kernel
theorem dX0_becomes_42 : decode cX0_becomes 42 = .ok (.aload_n 1, 1) := by decide +kernel
theorem dX0_becomes_43 : decode cX0_becomes 43 = .ok (.getfield 18, 3) := by decide +kernel
theorem dX0_becomes_46 : decode cX0_becomes 46 = .ok (.iload_n 2, 1) := by decide +kernel
theorem dX0_becomes_47 : decode cX0_becomes 47 = .ok (.iaload, 1) := by decide +kernel
theorem dX0_becomes_48 : decode cX0_becomes 48 = .ok (.iastore, 1) := by decide +kernel
theorem dX0_becomes_49 : decode cX0_becomes 49 = .ok (.aload_n 0, 1) := by decide +kernel
theorem dX0_becomes_50 : decode cX0_becomes 50 = .ok (.getfield 21, 3) := by decide +kernel
theorem dX0_becomes_53 : decode cX0_becomes 53 = .ok (.iload_n 2, 1) := by decide +kernel
theorem dX0_becomes_54 : decode cX0_becomes 54 = .ok (.aload_n 1, 1) := by decide +kernel
theorem dX0_becomes_55 : decode cX0_becomes 55 = .ok (.getfield 21, 3) := by decide +kernel
theorem dX0_becomes_58 : decode cX0_becomes 58 = .ok (.iload_n 2, 1) := by decide +kernel
theorem dX0_becomes_59 : decode cX0_becomes 59 = .ok (.iaload, 1) := by decide +kernel
theorem dX0_becomes_60 : decode cX0_becomes 60 = .ok (.iastore, 1) := by decide +kernel
theorem dX0_becomes_61 : decode cX0_becomes 61 = .ok (.iinc 2 1, 3) := by decide +kernel
theorem dX0_becomes_64 : decode cX0_becomes 64 = .ok (.goto (-57), 3) := by decide +kernel
theorem dX0_becomes_67 : decode cX0_becomes 67 = .ok (.aload_n 0, 1) := by decide +kernel
theorem dX0_becomes_68 : decode cX0_becomes 68 = .ok (.aload_n 1, 1) := by decide +kernel
theorem dX0_becomes_69 : decode cX0_becomes 69 = .ok (.getfield 24, 3) := by decide +kernel
theorem dX0_becomes_72 : decode cX0_becomes 72 = .ok (.putfield 24, 3) := by decide +kernel
theorem dX0_becomes_75 : decode cX0_becomes 75 = .ok (.aload_n 0, 1) := by decide +kernel
theorem dX0_becomes_76 : decode cX0_becomes 76 = .ok (.aload_n 1, 1) := by decide +kernel
theorem dX0_becomes_77 : decode cX0_becomes 77 = .ok (.getfield 28, 3) := by decide +kernel
theorem dX0_becomes_80 : decode cX0_becomes 80 = .ok (.putfield 28, 3) := by decide +kernel
theorem dX0_becomes_83 : decode cX0_becomes 83 = .ok (.aload_n 0, 1) := by decide +kernel
theorem dX0_becomes_84 : decode cX0_becomes 84 = .ok (.aload_n 1, 1) := by decide +kernel
theorem dX0_becomes_85 : decode cX0_becomes 85 = .ok (.getfield 31, 3) := by decide +kernel
theorem dX0_becomes_88 : decode cX0_becomes 88 = .ok (.putfield 31, 3) := by decide +kernel
theorem dX0_becomes_91 : decode cX0_becomes 91 = .ok (.aload_n 0, 1) := by decide +kernel
theorem dX0_becomes_92 : decode cX0_becomes 92 = .ok (.aload_n 1, 1) := by decide +kernel
theorem dX0_becomes_93 : decode cX0_becomes 93 = .ok (.getfield 34, 3) := by decide +kernel
theorem dX0_becomes_96 : decode cX0_becomes 96 = .ok (.putfield 34, 3) := by decide +kernel
theorem dX0_becomes_99 : decode cX0_becomes 99 = .ok (.aload_n 0, 1) := by decide +kernel
theorem dX0_becomes_100 : decode cX0_becomes 100 = .ok (.aload_n 1, 1) := by decide +kernel
theorem dX0_becomes_101 : decode cX0_becomes 101 = .ok (.getfield 37, 3) := by decide +kernel
theorem dX0_becomes_104 : decode cX0_becomes 104 = .ok (.putfield 37, 3) := by decide +kernel
theorem dX0_becomes_107 : decode cX0_becomes 107 = .ok (.return_, 1) := by decide +kernel
abbrev A0_becomes (G : GG) (Q : MM → Prop) := AW G E0 (MZ G (qV Q)) (WY yX0_becomes cX0_becomes 3 none) RX0 cX0_becomes 3 none ({ frames := 0, cells := 0, slots := 0, locals := 0 } : Room) 0 0
def D0_becomes_c67 (b : Nat) (Q : MM → Prop) (x1 : Nat) (M : MM) : Prop := (fun M6 : MM => (fun M7 : MM => (fun M8 : MM => (fun M9 : MM => (fun M10 : MM => Q M10) (up M9 b 8 (M9 x1 8))) (up M8 b 7 (M8 x1 7))) (up M7 b 6 (M7 x1 6))) (up M6 b 5 (M6 x1 5))) (up M b 4 (M x1 4))
def D0_becomes_c7 (b : Nat) (Q : MM → Prop) : Nat → Nat → Int32 → MM → Prop
  | 0, _, _, _ => False
  | n + 1, x1, x2, M => (((10 : Int32) ≤ x2 → D0_becomes_c67 b Q x1 M) ∧ (¬ (10 : Int32) ≤ x2 → ib (x1 + 1) x2 ∧ ib (b + 1) x2 ∧ (fun M1 : MM => ib (x1 + 2) x2 ∧ ib (b + 2) x2 ∧ (fun M2 : MM => ib (x1 + 3) x2 ∧ ib (b + 3) x2 ∧ (fun M3 : MM => ib (x1 + 4) x2 ∧ ib (b + 4) x2 ∧ (fun M4 : MM => (fun v5 : Int32 => D0_becomes_c7 b Q n x1 v5 M4) (x2 + (1 : Int32))) (up M3 (b + 4) (ix x2) (M3 (x1 + 4) (ix x2)))) (up M2 (b + 3) (ix x2) (M2 (x1 + 3) (ix x2)))) (up M1 (b + 2) (ix x2) (M1 (x1 + 2) (ix x2)))) (up M (b + 1) (ix x2) (M (x1 + 1) (ix x2)))))
def D0_becomes (b : Nat) (x1 : Nat) (M : MM) (Q : MM → Prop) : Prop := D0_becomes_c7 b Q FU x1 (0 : Int32) M
set_option maxHeartbeats 4000000 in
set_option maxRecDepth 100000 in
theorem s0_becomes_c67 {G : GG} {b : Nat} (hb : ob b 0) {Q : MM → Prop} : ∀ (x1 : Nat) (M : MM), ob x1 0 → D0_becomes_c67 b Q x1 M → A0_becomes G Q 67 [(0, .ref (gA G b)), (1, .ref (gA G x1))] [] M := by
  intro x1 M hx1 h
  unfold D0_becomes_c67 at h
  refine a_aload_n dX0_becomes_67 0 rfl ?_
  refine a_aload_n dX0_becomes_68 1 rfl ?_
  refine a_get0 dX0_becomes_69 4 (by decide) (tbc _ kF_RX0_24) (fun w h => tbc _ (uW0 w h)) rfl hx1 rfl ?_
  refine a_put0 dX0_becomes_72 4 (by decide) (tbc _ kF_RX0_24) (fun w h => tbc _ (uW0 w h)) rfl rfl rfl rfl hb fs0_4 ?_
  refine a_aload_n dX0_becomes_75 0 rfl ?_
  refine a_aload_n dX0_becomes_76 1 rfl ?_
  refine a_get0 dX0_becomes_77 5 (by decide) (tbc _ kF_RX0_28) (fun w h => tbc _ (uW0 w h)) rfl hx1 rfl ?_
  refine a_put0 dX0_becomes_80 5 (by decide) (tbc _ kF_RX0_28) (fun w h => tbc _ (uW0 w h)) rfl rfl rfl rfl hb fs0_5 ?_
  refine a_aload_n dX0_becomes_83 0 rfl ?_
  refine a_aload_n dX0_becomes_84 1 rfl ?_
  refine a_get0 dX0_becomes_85 6 (by decide) (tbc _ kF_RX0_31) (fun w h => tbc _ (uW0 w h)) rfl hx1 rfl ?_
  refine a_put0 dX0_becomes_88 6 (by decide) (tbc _ kF_RX0_31) (fun w h => tbc _ (uW0 w h)) rfl rfl rfl rfl hb fs0_6 ?_
  refine a_aload_n dX0_becomes_91 0 rfl ?_
  refine a_aload_n dX0_becomes_92 1 rfl ?_
  refine a_get0 dX0_becomes_93 7 (by decide) (tbc _ kF_RX0_34) (fun w h => tbc _ (uW0 w h)) rfl hx1 rfl ?_
  refine a_put0 dX0_becomes_96 7 (by decide) (tbc _ kF_RX0_34) (fun w h => tbc _ (uW0 w h)) rfl rfl rfl rfl hb fs0_7 ?_
  refine a_aload_n dX0_becomes_99 0 rfl ?_
  refine a_aload_n dX0_becomes_100 1 rfl ?_
  refine a_get0 dX0_becomes_101 8 (by decide) (tbc _ kF_RX0_37) (fun w h => tbc _ (uW0 w h)) rfl hx1 rfl ?_
  refine a_put0 dX0_becomes_104 8 (by decide) (tbc _ kF_RX0_37) (fun w h => tbc _ (uW0 w h)) rfl rfl rfl rfl hb fs0_8 ?_
  exact a_vret dX0_becomes_107 ⟨rfl, h⟩
set_option maxHeartbeats 4000000 in
set_option maxRecDepth 100000 in
theorem s0_becomes_c7 {G : GG} {b : Nat} (hb : ob b 0) {Q : MM → Prop} : ∀ (n : Nat) (x1 : Nat) (x2 : Int32) (M : MM), ob x1 0 → D0_becomes_c7 b Q n x1 x2 M → A0_becomes G Q 7 [(0, .ref (gA G b)), (1, .ref (gA G x1)), (2, .int x2)] [] M := by
  intro n
  induction n with
  | zero => intro x1 x2 M hx1 h; exact h.elim
  | succ n ih =>
    intro x1 x2 M hx1 h
    unfold D0_becomes_c7 at h
    refine a_iload_n dX0_becomes_7 2 rfl ?_
    refine a_bipush (v := 10) dX0_becomes_8 (by decide) ?_
    refine a_icmp_ge (tgt := 67) dX0_becomes_10 (by decide) (fun c => ?_) (fun c => ?_)
    · have h := h.1 c
      refine a_sub [0, 1] rfl ?_
      exact s0_becomes_c67 hb _ _ hx1 h
    · have h := h.2 c
      refine a_aload_n dX0_becomes_13 0 rfl ?_
      refine a_get0 dX0_becomes_14 0 (by decide) (tbc _ kF_RX0_11) (fun w h => tbc _ (uW0 w h)) rfl hb rfl ?_
      refine a_iload_n dX0_becomes_17 2 rfl ?_
      refine a_aload_n dX0_becomes_18 1 rfl ?_
      refine a_get0 dX0_becomes_19 0 (by decide) (tbc _ kF_RX0_11) (fun w h => tbc _ (uW0 w h)) rfl hx1 rfl ?_
      refine a_iload_n dX0_becomes_22 2 rfl ?_
      refine a_iald dX0_becomes_23 h.1 ?_
      have h := h.2
      refine a_iast dX0_becomes_24 h.1 ?_
      have h := h.2
      refine a_aload_n dX0_becomes_25 0 rfl ?_
      refine a_get0 dX0_becomes_26 1 (by decide) (tbc _ kF_RX0_15) (fun w h => tbc _ (uW0 w h)) rfl hb rfl ?_
      refine a_iload_n dX0_becomes_29 2 rfl ?_
      refine a_aload_n dX0_becomes_30 1 rfl ?_
      refine a_get0 dX0_becomes_31 1 (by decide) (tbc _ kF_RX0_15) (fun w h => tbc _ (uW0 w h)) rfl hx1 rfl ?_
      refine a_iload_n dX0_becomes_34 2 rfl ?_
      refine a_iald dX0_becomes_35 h.1 ?_
      have h := h.2
      refine a_iast dX0_becomes_36 h.1 ?_
      have h := h.2
      refine a_aload_n dX0_becomes_37 0 rfl ?_
      refine a_get0 dX0_becomes_38 2 (by decide) (tbc _ kF_RX0_18) (fun w h => tbc _ (uW0 w h)) rfl hb rfl ?_
      refine a_iload_n dX0_becomes_41 2 rfl ?_
      refine a_aload_n dX0_becomes_42 1 rfl ?_
      refine a_get0 dX0_becomes_43 2 (by decide) (tbc _ kF_RX0_18) (fun w h => tbc _ (uW0 w h)) rfl hx1 rfl ?_
      refine a_iload_n dX0_becomes_46 2 rfl ?_
      refine a_iald dX0_becomes_47 h.1 ?_
      have h := h.2
      refine a_iast dX0_becomes_48 h.1 ?_
      have h := h.2
      refine a_aload_n dX0_becomes_49 0 rfl ?_
      refine a_get0 dX0_becomes_50 3 (by decide) (tbc _ kF_RX0_21) (fun w h => tbc _ (uW0 w h)) rfl hb rfl ?_
      refine a_iload_n dX0_becomes_53 2 rfl ?_
      refine a_aload_n dX0_becomes_54 1 rfl ?_
      refine a_get0 dX0_becomes_55 3 (by decide) (tbc _ kF_RX0_21) (fun w h => tbc _ (uW0 w h)) rfl hx1 rfl ?_
      refine a_iload_n dX0_becomes_58 2 rfl ?_
      refine a_iald dX0_becomes_59 h.1 ?_
      have h := h.2
      refine a_iast dX0_becomes_60 h.1 ?_
      have h := h.2
      refine a_iinc (L' := [(2, .int _), (0, .ref _), (1, .ref _)]) dX0_becomes_61 2 rfl (show _ + Int32.ofInt (1 : Int) = _ + (1 : Int32) from rfl) (by decide) rfl ?_
      refine a_goto (tgt := 7) dX0_becomes_64 (by decide) ?_
      refine a_sub [1, 2, 0] rfl ?_
      exact ih _ _ _ hx1 h
set_option maxHeartbeats 4000000 in
set_option maxRecDepth 100000 in
theorem s0_becomes {G : GG} {b : Nat} (hb : ob b 0) {x1 : Nat} {M : MM} {Q : MM → Prop} (hx1 : ob x1 0) (h : D0_becomes b x1 M Q) : CM G yX0_becomes (WY yX0_becomes cX0_becomes 3 none) 0 0 [.ref (gA G b), .ref (gA G x1)] M (qV Q) := by
  refine CM.of (cc := cX0_becomes) (nL := 3) (ret := none) (own := RX0) (by decide +kernel) rfl rfl (Nat.le_of_ble_eq_true rfl) ?_
  show A0_becomes G Q 0 [(0, .ref (gA G b)), (1, .ref (gA G x1))] [] M
  unfold D0_becomes at h
  refine a_aload_n dX0_becomes_0 1 rfl ?_
  refine a_ifnonnull (tgt := 5) dX0_becomes_1 (by decide) ?_
  refine a_iconst (v := 0) dX0_becomes_5 (by decide) ?_
  refine a_istore_n (i := 2) (L' := [(2, .int _), (0, .ref _), (1, .ref _)]) dX0_becomes_6 rfl (by decide) rfl ?_
  refine a_sub [1, 2, 0] rfl ?_
  exact s0_becomes_c7 hb _ _ _ _ hx1 h

/-! X0_knows -/
theorem dX0_knows_0 : decode cX0_knows 0 = .ok (.iload_n 1, 1) := by decide +kernel
theorem dX0_knows_1 : decode cX0_knows 1 = .ok (.ifCond .lt 21, 3) := by decide +kernel
theorem dX0_knows_4 : decode cX0_knows 4 = .ok (.iload_n 1, 1) := by decide +kernel
theorem dX0_knows_5 : decode cX0_knows 5 = .ok (.aload_n 0, 1) := by decide +kernel
theorem dX0_knows_6 : decode cX0_knows 6 = .ok (.getfield 24, 3) := by decide +kernel
theorem dX0_knows_9 : decode cX0_knows 9 = .ok (.if_icmp .ge 13, 3) := by decide +kernel
theorem dX0_knows_12 : decode cX0_knows 12 = .ok (.iload_n 1, 1) := by decide +kernel
theorem dX0_knows_13 : decode cX0_knows 13 = .ok (.bipush 10, 2) := by decide +kernel
theorem dX0_knows_15 : decode cX0_knows 15 = .ok (.if_icmp .ge 7, 3) := by decide +kernel
theorem dX0_knows_18 : decode cX0_knows 18 = .ok (.iconst 1, 1) := by decide +kernel
theorem dX0_knows_19 : decode cX0_knows 19 = .ok (.goto 4, 3) := by decide +kernel
theorem dX0_knows_22 : decode cX0_knows 22 = .ok (.iconst 0, 1) := by decide +kernel
theorem dX0_knows_23 : decode cX0_knows 23 = .ok (.ireturn, 1) := by decide +kernel
abbrev A0_knows (G : GG) (Q : Int32 → MM → Prop) := AW G E0 (MZ G (qI Q)) (WY yX0_knows cX0_knows 2 (some .boolean)) RX0 cX0_knows 2 (some .boolean) ({ frames := 0, cells := 0, slots := 0, locals := 0 } : Room) 0 0
def D0_knows (b : Nat) (x1 : Int32) (M : MM) (Q : Int32 → MM → Prop) : Prop := ((x1 < 0 → Q (0 : Int32) M) ∧ (¬ x1 < 0 → (((M b 4) ≤ x1 → Q (0 : Int32) M) ∧ (¬ (M b 4) ≤ x1 → (((10 : Int32) ≤ x1 → Q (0 : Int32) M) ∧ (¬ (10 : Int32) ≤ x1 → Q (1 : Int32) M))))))
set_option maxHeartbeats 4000000 in
set_option maxRecDepth 100000 in
theorem s0_knows {G : GG} {b : Nat} (hb : ob b 0) {x1 : Int32} {M : MM} {Q : Int32 → MM → Prop} (h : D0_knows b x1 M Q) : CM G yX0_knows (WY yX0_knows cX0_knows 2 (some .boolean)) 0 0 [.ref (gA G b), .int x1] M (qI Q) := by
  refine CM.of (cc := cX0_knows) (nL := 2) (ret := (some .boolean)) (own := RX0) (by decide +kernel) rfl rfl (Nat.le_of_ble_eq_true rfl) ?_
  show A0_knows G Q 0 [(0, .ref (gA G b)), (1, .int x1)] [] M
  unfold D0_knows at h
  refine a_iload_n dX0_knows_0 1 rfl ?_
  refine a_if_lt (tgt := 22) dX0_knows_1 (by decide) (fun c => ?_) (fun c => ?_)
  · have h := h.1 c
    refine a_iconst (v := 0) dX0_knows_22 (by decide) ?_
    exact a_zret dX0_knows_23 (Or.inl rfl) ⟨_, rfl, h⟩
  · have h := h.2 c
    refine a_iload_n dX0_knows_4 1 rfl ?_
    refine a_aload_n dX0_knows_5 0 rfl ?_
    refine a_get0 dX0_knows_6 4 (by decide) (tbc _ kF_RX0_24) (fun w h => tbc _ (uW0 w h)) rfl hb rfl ?_
    refine a_icmp_ge (tgt := 22) dX0_knows_9 (by decide) (fun c => ?_) (fun c => ?_)
    · have h := h.1 c
      refine a_iconst (v := 0) dX0_knows_22 (by decide) ?_
      exact a_zret dX0_knows_23 (Or.inl rfl) ⟨_, rfl, h⟩
    · have h := h.2 c
      refine a_iload_n dX0_knows_12 1 rfl ?_
      refine a_bipush (v := 10) dX0_knows_13 (by decide) ?_
      refine a_icmp_ge (tgt := 22) dX0_knows_15 (by decide) (fun c => ?_) (fun c => ?_)
      · have h := h.1 c
        refine a_iconst (v := 0) dX0_knows_22 (by decide) ?_
        exact a_zret dX0_knows_23 (Or.inl rfl) ⟨_, rfl, h⟩
      · have h := h.2 c
        refine a_iconst (v := 1) dX0_knows_18 (by decide) ?_
        refine a_goto (tgt := 23) dX0_knows_19 (by decide) ?_
        exact a_zret dX0_knows_23 (Or.inr rfl) ⟨_, rfl, h⟩

/-! X0_kindOf -/
theorem dX0_kindOf_0 : decode cX0_kindOf 0 = .ok (.aload_n 0, 1) := by decide +kernel
theorem dX0_kindOf_1 : decode cX0_kindOf 1 = .ok (.iload_n 1, 1) := by decide +kernel
theorem dX0_kindOf_2 : decode cX0_kindOf 2 = .ok (.invokevirtual 40, 3) := by decide +kernel
theorem dX0_kindOf_5 : decode cX0_kindOf 5 = .ok (.ifCond .eq 12, 3) := by decide +kernel
theorem dX0_kindOf_8 : decode cX0_kindOf 8 = .ok (.aload_n 0, 1) := by decide +kernel
theorem dX0_kindOf_9 : decode cX0_kindOf 9 = .ok (.getfield 11, 3) := by decide +kernel
theorem dX0_kindOf_12 : decode cX0_kindOf 12 = .ok (.iload_n 1, 1) := by decide +kernel
theorem dX0_kindOf_13 : decode cX0_kindOf 13 = .ok (.iaload, 1) := by decide +kernel
theorem dX0_kindOf_14 : decode cX0_kindOf 14 = .ok (.goto 4, 3) := by decide +kernel
theorem dX0_kindOf_17 : decode cX0_kindOf 17 = .ok (.iconst 0, 1) := by decide +kernel
theorem dX0_kindOf_18 : decode cX0_kindOf 18 = .ok (.ireturn, 1) := by decide +kernel
abbrev A0_kindOf (G : GG) (Q : Int32 → MM → Prop) := AW G E0 (MZ G (qI Q)) (WY yX0_kindOf cX0_kindOf 2 (some .int)) RX0 cX0_kindOf 2 (some .int) ({ frames := 1, cells := 0, slots := 0, locals := 21 } : Room) 0 0
def D0_kindOf (b : Nat) (x1 : Int32) (M : MM) (Q : Int32 → MM → Prop) : Prop := D0_knows b x1 M (fun (r1 : Int32) (M2 : MM) => ((r1 = 0 → Q (0 : Int32) M2) ∧ (¬ r1 = 0 → ib (b + 1) x1 ∧ Q (M2 (b + 1) (ix x1)) M2)))
set_option maxHeartbeats 4000000 in
set_option maxRecDepth 100000 in
theorem s0_kindOf {G : GG} {b : Nat} (hb : ob b 0) {x1 : Int32} {M : MM} {Q : Int32 → MM → Prop} (h : D0_kindOf b x1 M Q) : CM G yX0_kindOf (WY yX0_kindOf cX0_kindOf 2 (some .int)) 1 21 [.ref (gA G b), .int x1] M (qI Q) := by
  refine CM.of (cc := cX0_kindOf) (nL := 2) (ret := (some .int)) (own := RX0) (by decide +kernel) rfl rfl (Nat.le_of_ble_eq_true rfl) ?_
  show A0_kindOf G Q 0 [(0, .ref (gA G b)), (1, .int x1)] [] M
  unfold D0_kindOf at h
  refine a_aload_n dX0_kindOf_0 0 rfl ?_
  refine a_iload_n dX0_kindOf_1 1 rfl ?_
  refine a_callVi (n := 1) [.int _] (C := RX0) (ci := 0) (qc := (RX0, TX0, 9)) (fsF := fl0 G _) hb.1 (fun _ => en0 hb.2) rfl rfl dX0_kindOf_2 (s0_knows hb h) (gV tbc kM_RX0_40_X0_knows kI_X0_knows kS_X0_knows kN_RX0 kC_X0_knows) rfl (by decide +kernel) ⟨Nat.le_of_ble_eq_true rfl, Nat.le_of_ble_eq_true rfl⟩ rfl rfl (Nat.le_of_ble_eq_true rfl) ⟨Nat.le_refl 0, Nat.le_refl 0⟩ (fun r M h => ?_)
  refine a_if_eq (tgt := 17) dX0_kindOf_5 (by decide) (fun c => ?_) (fun c => ?_)
  · have h := h.1 c
    refine a_iconst (v := 0) dX0_kindOf_17 (by decide) ?_
    exact a_iret dX0_kindOf_18 ⟨_, rfl, h⟩
  · have h := h.2 c
    refine a_aload_n dX0_kindOf_8 0 rfl ?_
    refine a_get0 dX0_kindOf_9 0 (by decide) (tbc _ kF_RX0_11) (fun w h => tbc _ (uW0 w h)) rfl hb rfl ?_
    refine a_iload_n dX0_kindOf_12 1 rfl ?_
    refine a_iald dX0_kindOf_13 h.1 ?_
    have h := h.2
    refine a_goto (tgt := 18) dX0_kindOf_14 (by decide) ?_
    exact a_iret dX0_kindOf_18 ⟨_, rfl, h⟩

/-! X0_figureOf -/
theorem dX0_figureOf_0 : decode cX0_figureOf 0 = .ok (.aload_n 0, 1) := by decide +kernel
theorem dX0_figureOf_1 : decode cX0_figureOf 1 = .ok (.iload_n 1, 1) := by decide +kernel
theorem dX0_figureOf_2 : decode cX0_figureOf 2 = .ok (.invokevirtual 40, 3) := by decide +kernel
theorem dX0_figureOf_5 : decode cX0_figureOf 5 = .ok (.ifCond .eq 12, 3) := by decide +kernel
theorem dX0_figureOf_8 : decode cX0_figureOf 8 = .ok (.aload_n 0, 1) := by decide +kernel
theorem dX0_figureOf_9 : decode cX0_figureOf 9 = .ok (.getfield 15, 3) := by decide +kernel
theorem dX0_figureOf_12 : decode cX0_figureOf 12 = .ok (.iload_n 1, 1) := by decide +kernel
theorem dX0_figureOf_13 : decode cX0_figureOf 13 = .ok (.iaload, 1) := by decide +kernel
theorem dX0_figureOf_14 : decode cX0_figureOf 14 = .ok (.goto 4, 3) := by decide +kernel
theorem dX0_figureOf_17 : decode cX0_figureOf 17 = .ok (.iconst 0, 1) := by decide +kernel
theorem dX0_figureOf_18 : decode cX0_figureOf 18 = .ok (.ireturn, 1) := by decide +kernel
abbrev A0_figureOf (G : GG) (Q : Int32 → MM → Prop) := AW G E0 (MZ G (qI Q)) (WY yX0_figureOf cX0_figureOf 2 (some .int)) RX0 cX0_figureOf 2 (some .int) ({ frames := 1, cells := 0, slots := 0, locals := 21 } : Room) 0 0
def D0_figureOf (b : Nat) (x1 : Int32) (M : MM) (Q : Int32 → MM → Prop) : Prop := D0_knows b x1 M (fun (r1 : Int32) (M2 : MM) => ((r1 = 0 → Q (0 : Int32) M2) ∧ (¬ r1 = 0 → ib (b + 2) x1 ∧ Q (M2 (b + 2) (ix x1)) M2)))
set_option maxHeartbeats 4000000 in
set_option maxRecDepth 100000 in
theorem s0_figureOf {G : GG} {b : Nat} (hb : ob b 0) {x1 : Int32} {M : MM} {Q : Int32 → MM → Prop} (h : D0_figureOf b x1 M Q) : CM G yX0_figureOf (WY yX0_figureOf cX0_figureOf 2 (some .int)) 1 21 [.ref (gA G b), .int x1] M (qI Q) := by
  refine CM.of (cc := cX0_figureOf) (nL := 2) (ret := (some .int)) (own := RX0) (by decide +kernel) rfl rfl (Nat.le_of_ble_eq_true rfl) ?_
  show A0_figureOf G Q 0 [(0, .ref (gA G b)), (1, .int x1)] [] M
  unfold D0_figureOf at h
  refine a_aload_n dX0_figureOf_0 0 rfl ?_
  refine a_iload_n dX0_figureOf_1 1 rfl ?_
  refine a_callVi (n := 1) [.int _] (C := RX0) (ci := 0) (qc := (RX0, TX0, 9)) (fsF := fl0 G _) hb.1 (fun _ => en0 hb.2) rfl rfl dX0_figureOf_2 (s0_knows hb h) (gV tbc kM_RX0_40_X0_knows kI_X0_knows kS_X0_knows kN_RX0 kC_X0_knows) rfl (by decide +kernel) ⟨Nat.le_of_ble_eq_true rfl, Nat.le_of_ble_eq_true rfl⟩ rfl rfl (Nat.le_of_ble_eq_true rfl) ⟨Nat.le_refl 0, Nat.le_refl 0⟩ (fun r M h => ?_)
  refine a_if_eq (tgt := 17) dX0_figureOf_5 (by decide) (fun c => ?_) (fun c => ?_)
  · have h := h.1 c
    refine a_iconst (v := 0) dX0_figureOf_17 (by decide) ?_
    exact a_iret dX0_figureOf_18 ⟨_, rfl, h⟩
  · have h := h.2 c
    refine a_aload_n dX0_figureOf_8 0 rfl ?_
    refine a_get0 dX0_figureOf_9 1 (by decide) (tbc _ kF_RX0_15) (fun w h => tbc _ (uW0 w h)) rfl hb rfl ?_
    refine a_iload_n dX0_figureOf_12 1 rfl ?_
    refine a_iald dX0_figureOf_13 h.1 ?_
    have h := h.2
    refine a_goto (tgt := 18) dX0_figureOf_14 (by decide) ?_
    exact a_iret dX0_figureOf_18 ⟨_, rfl, h⟩

/-! X0_holdsOf -/
theorem dX0_holdsOf_0 : decode cX0_holdsOf 0 = .ok (.aload_n 0, 1) := by decide +kernel
theorem dX0_holdsOf_1 : decode cX0_holdsOf 1 = .ok (.iload_n 1, 1) := by decide +kernel
theorem dX0_holdsOf_2 : decode cX0_holdsOf 2 = .ok (.invokevirtual 44, 3) := by decide +kernel
theorem dX0_holdsOf_5 : decode cX0_holdsOf 5 = .ok (.aload_n 0, 1) := by decide +kernel
theorem dX0_holdsOf_6 : decode cX0_holdsOf 6 = .ok (.iload_n 1, 1) := by decide +kernel
theorem dX0_holdsOf_7 : decode cX0_holdsOf 7 = .ok (.invokevirtual 48, 3) := by decide +kernel
theorem dX0_holdsOf_10 : decode cX0_holdsOf 10 = .ok (.invokestatic 51, 3) := by decide +kernel
theorem dX0_holdsOf_13 : decode cX0_holdsOf 13 = .ok (.ireturn, 1) := by decide +kernel
abbrev A0_holdsOf (G : GG) (Q : Int32 → MM → Prop) := AW G E0 (MZ G (qI Q)) (WY yX0_holdsOf cX0_holdsOf 2 (some .int)) RX0 cX0_holdsOf 2 (some .int) ({ frames := 2, cells := 0, slots := 0, locals := 42 } : Room) 0 0
def D0_holdsOf (b : Nat) (x1 : Int32) (M : MM) (Q : Int32 → MM → Prop) : Prop := D0_kindOf b x1 M (fun (r1 : Int32) (M2 : MM) => D0_figureOf b x1 M2 (fun (r3 : Int32) (M4 : MM) => D1_holdsFor r1 r3 M4 (fun (r5 : Int32) (M6 : MM) => Q r5 M6)))
set_option maxHeartbeats 4000000 in
set_option maxRecDepth 100000 in
theorem s0_holdsOf {G : GG} {b : Nat} (hb : ob b 0) {x1 : Int32} {M : MM} {Q : Int32 → MM → Prop} (h : D0_holdsOf b x1 M Q) : CM G yX0_holdsOf (WY yX0_holdsOf cX0_holdsOf 2 (some .int)) 2 42 [.ref (gA G b), .int x1] M (qI Q) := by
  refine CM.of (cc := cX0_holdsOf) (nL := 2) (ret := (some .int)) (own := RX0) (by decide +kernel) rfl rfl (Nat.le_of_ble_eq_true rfl) ?_
  show A0_holdsOf G Q 0 [(0, .ref (gA G b)), (1, .int x1)] [] M
  unfold D0_holdsOf at h
  refine a_aload_n dX0_holdsOf_0 0 rfl ?_
  refine a_iload_n dX0_holdsOf_1 1 rfl ?_
  refine a_callVi (n := 1) [.int _] (C := RX0) (ci := 0) (qc := (RX0, TX0, 9)) (fsF := fl0 G _) hb.1 (fun _ => en0 hb.2) rfl rfl dX0_holdsOf_2 (s0_kindOf hb h) (gV tbc kM_RX0_44_X0_kindOf kI_X0_kindOf kS_X0_kindOf kN_RX0 kC_X0_kindOf) rfl (by decide +kernel) ⟨Nat.le_of_ble_eq_true rfl, Nat.le_of_ble_eq_true rfl⟩ rfl rfl (Nat.le_of_ble_eq_true rfl) ⟨Nat.le_refl 0, Nat.le_refl 0⟩ (fun r M h => ?_)
  refine a_aload_n dX0_holdsOf_5 0 rfl ?_
  refine a_iload_n dX0_holdsOf_6 1 rfl ?_
  refine a_callVi (n := 1) [.int _] (C := RX0) (ci := 0) (qc := (RX0, TX0, 9)) (fsF := fl0 G _) hb.1 (fun _ => en0 hb.2) rfl rfl dX0_holdsOf_7 (s0_figureOf hb h) (gV tbc kM_RX0_48_X0_figureOf kI_X0_figureOf kS_X0_figureOf kN_RX0 kC_X0_figureOf) rfl (by decide +kernel) ⟨Nat.le_of_ble_eq_true rfl, Nat.le_of_ble_eq_true rfl⟩ rfl rfl (Nat.le_of_ble_eq_true rfl) ⟨Nat.le_refl 0, Nat.le_refl 0⟩ (fun r M h => ?_)
  refine a_callSi (n := 2) [.int _, .int _] dX0_holdsOf_10 (s1_holdsFor h) (gS tbc kM_RX0_51_X1_holdsFor kT_X1_holdsFor kN_RX1 kC_X1_holdsFor) rfl (by decide +kernel) ⟨Nat.le_of_ble_eq_true rfl, Nat.le_of_ble_eq_true rfl⟩ rfl rfl (Nat.le_of_ble_eq_true rfl) ⟨Nat.le_refl 0, Nat.le_refl 0⟩ (fun r M h => ?_)
  exact a_iret dX0_holdsOf_13 ⟨_, rfl, h⟩

/-! X0_wornOf -/
theorem dX0_wornOf_0 : decode cX0_wornOf 0 = .ok (.aload_n 0, 1) := by decide +kernel
theorem dX0_wornOf_1 : decode cX0_wornOf 1 = .ok (.iload_n 1, 1) := by decide +kernel
theorem dX0_wornOf_2 : decode cX0_wornOf 2 = .ok (.invokevirtual 40, 3) := by decide +kernel
theorem dX0_wornOf_5 : decode cX0_wornOf 5 = .ok (.ifCond .eq 12, 3) := by decide +kernel
theorem dX0_wornOf_8 : decode cX0_wornOf 8 = .ok (.aload_n 0, 1) := by decide +kernel
theorem dX0_wornOf_9 : decode cX0_wornOf 9 = .ok (.getfield 21, 3) := by decide +kernel
theorem dX0_wornOf_12 : decode cX0_wornOf 12 = .ok (.iload_n 1, 1) := by decide +kernel
theorem dX0_wornOf_13 : decode cX0_wornOf 13 = .ok (.iaload, 1) := by decide +kernel
theorem dX0_wornOf_14 : decode cX0_wornOf 14 = .ok (.goto 4, 3) := by decide +kernel
theorem dX0_wornOf_17 : decode cX0_wornOf 17 = .ok (.iconst 0, 1) := by decide +kernel
theorem dX0_wornOf_18 : decode cX0_wornOf 18 = .ok (.ireturn, 1) := by decide +kernel
abbrev A0_wornOf (G : GG) (Q : Int32 → MM → Prop) := AW G E0 (MZ G (qI Q)) (WY yX0_wornOf cX0_wornOf 2 (some .int)) RX0 cX0_wornOf 2 (some .int) ({ frames := 1, cells := 0, slots := 0, locals := 21 } : Room) 0 0
def D0_wornOf (b : Nat) (x1 : Int32) (M : MM) (Q : Int32 → MM → Prop) : Prop := D0_knows b x1 M (fun (r1 : Int32) (M2 : MM) => ((r1 = 0 → Q (0 : Int32) M2) ∧ (¬ r1 = 0 → ib (b + 4) x1 ∧ Q (M2 (b + 4) (ix x1)) M2)))
set_option maxHeartbeats 4000000 in
set_option maxRecDepth 100000 in
theorem s0_wornOf {G : GG} {b : Nat} (hb : ob b 0) {x1 : Int32} {M : MM} {Q : Int32 → MM → Prop} (h : D0_wornOf b x1 M Q) : CM G yX0_wornOf (WY yX0_wornOf cX0_wornOf 2 (some .int)) 1 21 [.ref (gA G b), .int x1] M (qI Q) := by
  refine CM.of (cc := cX0_wornOf) (nL := 2) (ret := (some .int)) (own := RX0) (by decide +kernel) rfl rfl (Nat.le_of_ble_eq_true rfl) ?_
  show A0_wornOf G Q 0 [(0, .ref (gA G b)), (1, .int x1)] [] M
  unfold D0_wornOf at h
  refine a_aload_n dX0_wornOf_0 0 rfl ?_
  refine a_iload_n dX0_wornOf_1 1 rfl ?_
  refine a_callVi (n := 1) [.int _] (C := RX0) (ci := 0) (qc := (RX0, TX0, 9)) (fsF := fl0 G _) hb.1 (fun _ => en0 hb.2) rfl rfl dX0_wornOf_2 (s0_knows hb h) (gV tbc kM_RX0_40_X0_knows kI_X0_knows kS_X0_knows kN_RX0 kC_X0_knows) rfl (by decide +kernel) ⟨Nat.le_of_ble_eq_true rfl, Nat.le_of_ble_eq_true rfl⟩ rfl rfl (Nat.le_of_ble_eq_true rfl) ⟨Nat.le_refl 0, Nat.le_refl 0⟩ (fun r M h => ?_)
  refine a_if_eq (tgt := 17) dX0_wornOf_5 (by decide) (fun c => ?_) (fun c => ?_)
  · have h := h.1 c
    refine a_iconst (v := 0) dX0_wornOf_17 (by decide) ?_
    exact a_iret dX0_wornOf_18 ⟨_, rfl, h⟩
  · have h := h.2 c
    refine a_aload_n dX0_wornOf_8 0 rfl ?_
    refine a_get0 dX0_wornOf_9 3 (by decide) (tbc _ kF_RX0_21) (fun w h => tbc _ (uW0 w h)) rfl hb rfl ?_
    refine a_iload_n dX0_wornOf_12 1 rfl ?_
    refine a_iald dX0_wornOf_13 h.1 ?_
    have h := h.2
    refine a_goto (tgt := 18) dX0_wornOf_14 (by decide) ?_
    exact a_iret dX0_wornOf_18 ⟨_, rfl, h⟩

/-! X0_beyond -/
theorem dX0_beyond_0 : decode cX0_beyond 0 = .ok (.aload_n 0, 1) := by decide +kernel
theorem dX0_beyond_1 : decode cX0_beyond 1 = .ok (.iload_n 1, 1) := by decide +kernel
theorem dX0_beyond_2 : decode cX0_beyond 2 = .ok (.invokevirtual 111, 3) := by decide +kernel
theorem dX0_beyond_5 : decode cX0_beyond 5 = .ok (.aload_n 0, 1) := by decide +kernel
theorem dX0_beyond_6 : decode cX0_beyond 6 = .ok (.iload_n 1, 1) := by decide +kernel
theorem dX0_beyond_7 : decode cX0_beyond 7 = .ok (.invokevirtual 114, 3) := by decide +kernel
theorem dX0_beyond_10 : decode cX0_beyond 10 = .ok (.isub, 1) := by decide +kernel
theorem dX0_beyond_11 : decode cX0_beyond 11 = .ok (.ireturn, 1) := by decide +kernel
abbrev A0_beyond (G : GG) (Q : Int32 → MM → Prop) := AW G E0 (MZ G (qI Q)) (WY yX0_beyond cX0_beyond 2 (some .int)) RX0 cX0_beyond 2 (some .int) ({ frames := 3, cells := 0, slots := 0, locals := 63 } : Room) 0 0
def D0_beyond (b : Nat) (x1 : Int32) (M : MM) (Q : Int32 → MM → Prop) : Prop := D0_holdsOf b x1 M (fun (r1 : Int32) (M2 : MM) => D0_wornOf b x1 M2 (fun (r3 : Int32) (M4 : MM) => Q (r1 - r3) M4))
set_option maxHeartbeats 4000000 in
set_option maxRecDepth 100000 in
theorem s0_beyond {G : GG} {b : Nat} (hb : ob b 0) {x1 : Int32} {M : MM} {Q : Int32 → MM → Prop} (h : D0_beyond b x1 M Q) : CM G yX0_beyond (WY yX0_beyond cX0_beyond 2 (some .int)) 3 63 [.ref (gA G b), .int x1] M (qI Q) := by
  refine CM.of (cc := cX0_beyond) (nL := 2) (ret := (some .int)) (own := RX0) (by decide +kernel) rfl rfl (Nat.le_of_ble_eq_true rfl) ?_
  show A0_beyond G Q 0 [(0, .ref (gA G b)), (1, .int x1)] [] M
  unfold D0_beyond at h
  refine a_aload_n dX0_beyond_0 0 rfl ?_
  refine a_iload_n dX0_beyond_1 1 rfl ?_
  refine a_callVi (n := 1) [.int _] (C := RX0) (ci := 0) (qc := (RX0, TX0, 9)) (fsF := fl0 G _) hb.1 (fun _ => en0 hb.2) rfl rfl dX0_beyond_2 (s0_holdsOf hb h) (gV tbc kM_RX0_111_X0_holdsOf kI_X0_holdsOf kS_X0_holdsOf kN_RX0 kC_X0_holdsOf) rfl (by decide +kernel) ⟨Nat.le_of_ble_eq_true rfl, Nat.le_of_ble_eq_true rfl⟩ rfl rfl (Nat.le_of_ble_eq_true rfl) ⟨Nat.le_refl 0, Nat.le_refl 0⟩ (fun r M h => ?_)
  refine a_aload_n dX0_beyond_5 0 rfl ?_
  refine a_iload_n dX0_beyond_6 1 rfl ?_
  refine a_callVi (n := 1) [.int _] (C := RX0) (ci := 0) (qc := (RX0, TX0, 9)) (fsF := fl0 G _) hb.1 (fun _ => en0 hb.2) rfl rfl dX0_beyond_7 (s0_wornOf hb h) (gV tbc kM_RX0_114_X0_wornOf kI_X0_wornOf kS_X0_wornOf kN_RX0 kC_X0_wornOf) rfl (by decide +kernel) ⟨Nat.le_of_ble_eq_true rfl, Nat.le_of_ble_eq_true rfl⟩ rfl rfl (Nat.le_of_ble_eq_true rfl) ⟨Nat.le_refl 0, Nat.le_refl 0⟩ (fun r M h => ?_)
  refine a_isub dX0_beyond_10 ?_
  exact a_iret dX0_beyond_11 ⟨_, rfl, h⟩

/-! X0_builds -/
theorem dX0_builds_0 : decode cX0_builds 0 = .ok (.aload_n 0, 1) := by decide +kernel
theorem dX0_builds_1 : decode cX0_builds 1 = .ok (.getfield 24, 3) := by decide +kernel
theorem dX0_builds_4 : decode cX0_builds 4 = .ok (.istore 4, 2) := by decide +kernel
theorem dX0_builds_6 : decode cX0_builds 6 = .ok (.iload 4, 2) := by decide +kernel
theorem dX0_builds_8 : decode cX0_builds 8 = .ok (.ifCond .lt 10, 3) := by decide +kernel
theorem dX0_builds_11 : decode cX0_builds 11 = .ok (.iload 4, 2) := by decide +kernel
theorem dX0_builds_13 : decode cX0_builds 13 = .ok (.bipush 10, 2) := by decide +kernel
theorem dX0_builds_15 : decode cX0_builds 15 = .ok (.if_icmp .lt 4, 3) := by decide +kernel
theorem dX0_builds_18 : decode cX0_builds 18 = .ok (.return_, 1) := by decide +kernel
theorem dX0_builds_19 : decode cX0_builds 19 = .ok (.aload_n 0, 1) := by decide +kernel
theorem dX0_builds_20 : decode cX0_builds 20 = .ok (.getfield 11, 3) := by decide +kernel
theorem dX0_builds_23 : decode cX0_builds 23 = .ok (.iload 4, 2) := by decide +kernel
theorem dX0_builds_25 : decode cX0_builds 25 = .ok (.iload_n 1, 1) := by decide +kernel
theorem dX0_builds_26 : decode cX0_builds 26 = .ok (.iastore, 1) := by decide +kernel
theorem dX0_builds_27 : decode cX0_builds 27 = .ok (.aload_n 0, 1) := by decide +kernel
theorem dX0_builds_28 : decode cX0_builds 28 = .ok (.getfield 15, 3) := by decide +kernel
theorem dX0_builds_31 : decode cX0_builds 31 = .ok (.iload 4, 2) := by decide +kernel
theorem dX0_builds_33 : decode cX0_builds 33 = .ok (.iload_n 2, 1) := by decide +kernel
theorem dX0_builds_34 : decode cX0_builds 34 = .ok (.iastore, 1) := by decide +kernel
theorem dX0_builds_35 : decode cX0_builds 35 = .ok (.aload_n 0, 1) := by decide +kernel
theorem dX0_builds_36 : decode cX0_builds 36 = .ok (.getfield 18, 3) := by decide +kernel
theorem dX0_builds_39 : decode cX0_builds 39 = .ok (.iload 4, 2) := by decide +kernel
theorem dX0_builds_41 : decode cX0_builds 41 = .ok (.iload_n 3, 1) := by decide +kernel
theorem dX0_builds_42 : decode cX0_builds 42 = .ok (.iastore, 1) := by decide +kernel
theorem dX0_builds_43 : decode cX0_builds 43 = .ok (.aload_n 0, 1) := by decide +kernel
theorem dX0_builds_44 : decode cX0_builds 44 = .ok (.getfield 21, 3) := by decide +kernel
theorem dX0_builds_47 : decode cX0_builds 47 = .ok (.iload 4, 2) := by decide +kernel
theorem dX0_builds_49 : decode cX0_builds 49 = .ok (.iconst 0, 1) := by decide +kernel
theorem dX0_builds_50 : decode cX0_builds 50 = .ok (.iastore, 1) := by decide +kernel
theorem dX0_builds_51 : decode cX0_builds 51 = .ok (.aload_n 0, 1) := by decide +kernel
theorem dX0_builds_52 : decode cX0_builds 52 = .ok (.dup, 1) := by decide +kernel
theorem dX0_builds_53 : decode cX0_builds 53 = .ok (.getfield 28, 3) := by decide +kernel
theorem dX0_builds_56 : decode cX0_builds 56 = .ok (.iconst 1, 1) := by decide +kernel
theorem dX0_builds_57 : decode cX0_builds 57 = .ok (.iload 4, 2) := by decide +kernel
theorem dX0_builds_59 : decode cX0_builds 59 = .ok (.ishl, 1) := by decide +kernel
theorem dX0_builds_60 : decode cX0_builds 60 = .ok (.ior, 1) := by decide +kernel
theorem dX0_builds_61 : decode cX0_builds 61 = .ok (.putfield 28, 3) := by decide +kernel
theorem dX0_builds_64 : decode cX0_builds 64 = .ok (.aload_n 0, 1) := by decide +kernel
theorem dX0_builds_65 : decode cX0_builds 65 = .ok (.dup, 1) := by decide +kernel
theorem dX0_builds_66 : decode cX0_builds 66 = .ok (.getfield 24, 3) := by decide +kernel
theorem dX0_builds_69 : decode cX0_builds 69 = .ok (.iconst 1, 1) := by decide +kernel
theorem dX0_builds_70 : decode cX0_builds 70 = .ok (.iadd, 1) := by decide +kernel
theorem dX0_builds_71 : decode cX0_builds 71 = .ok (.putfield 24, 3) := by decide +kernel
theorem dX0_builds_74 : decode cX0_builds 74 = .ok (.return_, 1) := by decide +kernel
abbrev A0_builds (G : GG) (Q : MM → Prop) := AW G E0 (MZ G (qV Q)) (WY yX0_builds cX0_builds 5 none) RX0 cX0_builds 5 none ({ frames := 0, cells := 0, slots := 0, locals := 0 } : Room) 0 0
def D0_builds (b : Nat) (x1 : Int32) (x2 : Int32) (x3 : Int32) (M : MM) (Q : MM → Prop) : Prop := (fun v1 : Int32 => ((v1 < 0 → Q M) ∧ (¬ v1 < 0 → ((v1 < (10 : Int32) → ib (b + 1) v1 ∧ (fun M2 : MM => ib (b + 2) v1 ∧ (fun M3 : MM => ib (b + 3) v1 ∧ (fun M4 : MM => ib (b + 4) v1 ∧ (fun M5 : MM => (fun M6 : MM => (fun M7 : MM => Q M7) (up M6 b 4 ((M6 b 4) + (1 : Int32)))) (up M5 b 5 ((M5 b 5) ||| ((1 : Int32) <<< (v1 &&& 31))))) (up M4 (b + 4) (ix v1) (0 : Int32))) (up M3 (b + 3) (ix v1) x3)) (up M2 (b + 2) (ix v1) x2)) (up M (b + 1) (ix v1) x1)) ∧ (¬ v1 < (10 : Int32) → Q M))))) (M b 4)
set_option maxHeartbeats 4000000 in
set_option maxRecDepth 100000 in
theorem s0_builds {G : GG} {b : Nat} (hb : ob b 0) {x1 : Int32} {x2 : Int32} {x3 : Int32} {M : MM} {Q : MM → Prop} (h : D0_builds b x1 x2 x3 M Q) : CM G yX0_builds (WY yX0_builds cX0_builds 5 none) 0 0 [.ref (gA G b), .int x1, .int x2, .int x3] M (qV Q) := by
  refine CM.of (cc := cX0_builds) (nL := 5) (ret := none) (own := RX0) (by decide +kernel) rfl rfl (Nat.le_of_ble_eq_true rfl) ?_
  show A0_builds G Q 0 [(0, .ref (gA G b)), (1, .int x1), (2, .int x2), (3, .int x3)] [] M
  unfold D0_builds at h
  refine a_aload_n dX0_builds_0 0 rfl ?_
  refine a_get0 dX0_builds_1 4 (by decide) (tbc _ kF_RX0_24) (fun w h => tbc _ (uW0 w h)) rfl hb rfl ?_
  refine a_istore (i := 4) (L' := [(4, .int _), (0, .ref _), (1, .int _), (2, .int _), (3, .int _)]) dX0_builds_4 (by decide) rfl ?_
  refine a_iload dX0_builds_6 0 rfl ?_
  refine a_if_lt (tgt := 18) dX0_builds_8 (by decide) (fun c => ?_) (fun c => ?_)
  · have h := h.1 c
    exact a_vret dX0_builds_18 ⟨rfl, h⟩
  · have h := h.2 c
    refine a_iload dX0_builds_11 0 rfl ?_
    refine a_bipush (v := 10) dX0_builds_13 (by decide) ?_
    refine a_icmp_lt (tgt := 19) dX0_builds_15 (by decide) (fun c => ?_) (fun c => ?_)
    · have h := h.1 c
      refine a_aload_n dX0_builds_19 1 rfl ?_
      refine a_get0 dX0_builds_20 0 (by decide) (tbc _ kF_RX0_11) (fun w h => tbc _ (uW0 w h)) rfl hb rfl ?_
      refine a_iload dX0_builds_23 0 rfl ?_
      refine a_iload_n dX0_builds_25 2 rfl ?_
      refine a_iast dX0_builds_26 h.1 ?_
      have h := h.2
      refine a_aload_n dX0_builds_27 1 rfl ?_
      refine a_get0 dX0_builds_28 1 (by decide) (tbc _ kF_RX0_15) (fun w h => tbc _ (uW0 w h)) rfl hb rfl ?_
      refine a_iload dX0_builds_31 0 rfl ?_
      refine a_iload_n dX0_builds_33 3 rfl ?_
      refine a_iast dX0_builds_34 h.1 ?_
      have h := h.2
      refine a_aload_n dX0_builds_35 1 rfl ?_
      refine a_get0 dX0_builds_36 2 (by decide) (tbc _ kF_RX0_18) (fun w h => tbc _ (uW0 w h)) rfl hb rfl ?_
      refine a_iload dX0_builds_39 0 rfl ?_
      refine a_iload_n dX0_builds_41 4 rfl ?_
      refine a_iast dX0_builds_42 h.1 ?_
      have h := h.2
      refine a_aload_n dX0_builds_43 1 rfl ?_
      refine a_get0 dX0_builds_44 3 (by decide) (tbc _ kF_RX0_21) (fun w h => tbc _ (uW0 w h)) rfl hb rfl ?_
      refine a_iload dX0_builds_47 0 rfl ?_
      refine a_iconst (v := 0) dX0_builds_49 (by decide) ?_
      refine a_iast dX0_builds_50 h.1 ?_
      have h := h.2
      refine a_aload_n dX0_builds_51 1 rfl ?_
      refine a_dup dX0_builds_52 rfl ?_
      refine a_get0 dX0_builds_53 5 (by decide) (tbc _ kF_RX0_28) (fun w h => tbc _ (uW0 w h)) rfl hb rfl ?_
      refine a_iconst (v := 1) dX0_builds_56 (by decide) ?_
      refine a_iload dX0_builds_57 0 rfl ?_
      refine a_ishl dX0_builds_59 ?_
      refine a_ior dX0_builds_60 ?_
      refine a_put0 dX0_builds_61 5 (by decide) (tbc _ kF_RX0_28) (fun w h => tbc _ (uW0 w h)) rfl rfl rfl rfl hb fs0_5 ?_
      refine a_aload_n dX0_builds_64 1 rfl ?_
      refine a_dup dX0_builds_65 rfl ?_
      refine a_get0 dX0_builds_66 4 (by decide) (tbc _ kF_RX0_24) (fun w h => tbc _ (uW0 w h)) rfl hb rfl ?_
      refine a_iconst (v := 1) dX0_builds_69 (by decide) ?_
      refine a_iadd dX0_builds_70 ?_
      refine a_put0 dX0_builds_71 4 (by decide) (tbc _ kF_RX0_24) (fun w h => tbc _ (uW0 w h)) rfl rfl rfl rfl hb fs0_4 ?_
      exact a_vret dX0_builds_74 ⟨rfl, h⟩
    · have h := h.2 c
      exact a_vret dX0_builds_18 ⟨rfl, h⟩

/-! X0_cellOf -/
theorem dX0_cellOf_0 : decode cX0_cellOf 0 = .ok (.aload_n 0, 1) := by decide +kernel
theorem dX0_cellOf_1 : decode cX0_cellOf 1 = .ok (.iload_n 1, 1) := by decide +kernel
theorem dX0_cellOf_2 : decode cX0_cellOf 2 = .ok (.invokevirtual 40, 3) := by decide +kernel
theorem dX0_cellOf_5 : decode cX0_cellOf 5 = .ok (.ifCond .eq 12, 3) := by decide +kernel
theorem dX0_cellOf_8 : decode cX0_cellOf 8 = .ok (.aload_n 0, 1) := by decide +kernel
theorem dX0_cellOf_9 : decode cX0_cellOf 9 = .ok (.getfield 18, 3) := by decide +kernel
theorem dX0_cellOf_12 : decode cX0_cellOf 12 = .ok (.iload_n 1, 1) := by decide +kernel
theorem dX0_cellOf_13 : decode cX0_cellOf 13 = .ok (.iaload, 1) := by decide +kernel
theorem dX0_cellOf_14 : decode cX0_cellOf 14 = .ok (.goto 4, 3) := by decide +kernel
theorem dX0_cellOf_17 : decode cX0_cellOf 17 = .ok (.iconst 0, 1) := by decide +kernel
theorem dX0_cellOf_18 : decode cX0_cellOf 18 = .ok (.ireturn, 1) := by decide +kernel
abbrev A0_cellOf (G : GG) (Q : Int32 → MM → Prop) := AW G E0 (MZ G (qI Q)) (WY yX0_cellOf cX0_cellOf 2 (some .int)) RX0 cX0_cellOf 2 (some .int) ({ frames := 1, cells := 0, slots := 0, locals := 21 } : Room) 0 0
def D0_cellOf (b : Nat) (x1 : Int32) (M : MM) (Q : Int32 → MM → Prop) : Prop := D0_knows b x1 M (fun (r1 : Int32) (M2 : MM) => ((r1 = 0 → Q (0 : Int32) M2) ∧ (¬ r1 = 0 → ib (b + 3) x1 ∧ Q (M2 (b + 3) (ix x1)) M2)))
set_option maxHeartbeats 4000000 in
set_option maxRecDepth 100000 in
theorem s0_cellOf {G : GG} {b : Nat} (hb : ob b 0) {x1 : Int32} {M : MM} {Q : Int32 → MM → Prop} (h : D0_cellOf b x1 M Q) : CM G yX0_cellOf (WY yX0_cellOf cX0_cellOf 2 (some .int)) 1 21 [.ref (gA G b), .int x1] M (qI Q) := by
  refine CM.of (cc := cX0_cellOf) (nL := 2) (ret := (some .int)) (own := RX0) (by decide +kernel) rfl rfl (Nat.le_of_ble_eq_true rfl) ?_
  show A0_cellOf G Q 0 [(0, .ref (gA G b)), (1, .int x1)] [] M
  unfold D0_cellOf at h
  refine a_aload_n dX0_cellOf_0 0 rfl ?_
  refine a_iload_n dX0_cellOf_1 1 rfl ?_
  refine a_callVi (n := 1) [.int _] (C := RX0) (ci := 0) (qc := (RX0, TX0, 9)) (fsF := fl0 G _) hb.1 (fun _ => en0 hb.2) rfl rfl dX0_cellOf_2 (s0_knows hb h) (gV tbc kM_RX0_40_X0_knows kI_X0_knows kS_X0_knows kN_RX0 kC_X0_knows) rfl (by decide +kernel) ⟨Nat.le_of_ble_eq_true rfl, Nat.le_of_ble_eq_true rfl⟩ rfl rfl (Nat.le_of_ble_eq_true rfl) ⟨Nat.le_refl 0, Nat.le_refl 0⟩ (fun r M h => ?_)
  refine a_if_eq (tgt := 17) dX0_cellOf_5 (by decide) (fun c => ?_) (fun c => ?_)
  · have h := h.1 c
    refine a_iconst (v := 0) dX0_cellOf_17 (by decide) ?_
    exact a_iret dX0_cellOf_18 ⟨_, rfl, h⟩
  · have h := h.2 c
    refine a_aload_n dX0_cellOf_8 0 rfl ?_
    refine a_get0 dX0_cellOf_9 2 (by decide) (tbc _ kF_RX0_18) (fun w h => tbc _ (uW0 w h)) rfl hb rfl ?_
    refine a_iload_n dX0_cellOf_12 1 rfl ?_
    refine a_iald dX0_cellOf_13 h.1 ?_
    have h := h.2
    refine a_goto (tgt := 18) dX0_cellOf_14 (by decide) ?_
    exact a_iret dX0_cellOf_18 ⟨_, rfl, h⟩

/-! X0_rateOf -/
theorem dX0_rateOf_0 : decode cX0_rateOf 0 = .ok (.aload_n 0, 1) := by decide +kernel
theorem dX0_rateOf_1 : decode cX0_rateOf 1 = .ok (.iload_n 1, 1) := by decide +kernel
theorem dX0_rateOf_2 : decode cX0_rateOf 2 = .ok (.invokevirtual 44, 3) := by decide +kernel
theorem dX0_rateOf_5 : decode cX0_rateOf 5 = .ok (.aload_n 0, 1) := by decide +kernel
theorem dX0_rateOf_6 : decode cX0_rateOf 6 = .ok (.iload_n 1, 1) := by decide +kernel
theorem dX0_rateOf_7 : decode cX0_rateOf 7 = .ok (.invokevirtual 48, 3) := by decide +kernel
theorem dX0_rateOf_10 : decode cX0_rateOf 10 = .ok (.invokestatic 57, 3) := by decide +kernel
theorem dX0_rateOf_13 : decode cX0_rateOf 13 = .ok (.ireturn, 1) := by decide +kernel
abbrev A0_rateOf (G : GG) (Q : Int32 → MM → Prop) := AW G E0 (MZ G (qI Q)) (WY yX0_rateOf cX0_rateOf 2 (some .int)) RX0 cX0_rateOf 2 (some .int) ({ frames := 2, cells := 0, slots := 0, locals := 42 } : Room) 0 0
def D0_rateOf (b : Nat) (x1 : Int32) (M : MM) (Q : Int32 → MM → Prop) : Prop := D0_kindOf b x1 M (fun (r1 : Int32) (M2 : MM) => D0_figureOf b x1 M2 (fun (r3 : Int32) (M4 : MM) => D1_rateFor r1 r3 M4 (fun (r5 : Int32) (M6 : MM) => Q r5 M6)))
set_option maxHeartbeats 4000000 in
set_option maxRecDepth 100000 in
theorem s0_rateOf {G : GG} {b : Nat} (hb : ob b 0) {x1 : Int32} {M : MM} {Q : Int32 → MM → Prop} (h : D0_rateOf b x1 M Q) : CM G yX0_rateOf (WY yX0_rateOf cX0_rateOf 2 (some .int)) 2 42 [.ref (gA G b), .int x1] M (qI Q) := by
  refine CM.of (cc := cX0_rateOf) (nL := 2) (ret := (some .int)) (own := RX0) (by decide +kernel) rfl rfl (Nat.le_of_ble_eq_true rfl) ?_
  show A0_rateOf G Q 0 [(0, .ref (gA G b)), (1, .int x1)] [] M
  unfold D0_rateOf at h
  refine a_aload_n dX0_rateOf_0 0 rfl ?_
  refine a_iload_n dX0_rateOf_1 1 rfl ?_
  refine a_callVi (n := 1) [.int _] (C := RX0) (ci := 0) (qc := (RX0, TX0, 9)) (fsF := fl0 G _) hb.1 (fun _ => en0 hb.2) rfl rfl dX0_rateOf_2 (s0_kindOf hb h) (gV tbc kM_RX0_44_X0_kindOf kI_X0_kindOf kS_X0_kindOf kN_RX0 kC_X0_kindOf) rfl (by decide +kernel) ⟨Nat.le_of_ble_eq_true rfl, Nat.le_of_ble_eq_true rfl⟩ rfl rfl (Nat.le_of_ble_eq_true rfl) ⟨Nat.le_refl 0, Nat.le_refl 0⟩ (fun r M h => ?_)
  refine a_aload_n dX0_rateOf_5 0 rfl ?_
  refine a_iload_n dX0_rateOf_6 1 rfl ?_
  refine a_callVi (n := 1) [.int _] (C := RX0) (ci := 0) (qc := (RX0, TX0, 9)) (fsF := fl0 G _) hb.1 (fun _ => en0 hb.2) rfl rfl dX0_rateOf_7 (s0_figureOf hb h) (gV tbc kM_RX0_48_X0_figureOf kI_X0_figureOf kS_X0_figureOf kN_RX0 kC_X0_figureOf) rfl (by decide +kernel) ⟨Nat.le_of_ble_eq_true rfl, Nat.le_of_ble_eq_true rfl⟩ rfl rfl (Nat.le_of_ble_eq_true rfl) ⟨Nat.le_refl 0, Nat.le_refl 0⟩ (fun r M h => ?_)
  refine a_callSi (n := 2) [.int _, .int _] dX0_rateOf_10 (s1_rateFor h) (gS tbc kM_RX0_57_X1_rateFor kT_X1_rateFor kN_RX1 kC_X1_rateFor) rfl (by decide +kernel) ⟨Nat.le_of_ble_eq_true rfl, Nat.le_of_ble_eq_true rfl⟩ rfl rfl (Nat.le_of_ble_eq_true rfl) ⟨Nat.le_refl 0, Nat.le_refl 0⟩ (fun r M h => ?_)
  exact a_iret dX0_rateOf_13 ⟨_, rfl, h⟩

/-! X0_dearest -/
theorem dX0_dearest_0 : decode cX0_dearest 0 = .ok (.bipush (-9), 2) := by decide +kernel
theorem dX0_dearest_2 : decode cX0_dearest 2 = .ok (.istore_n 1, 1) := by decide +kernel
theorem dX0_dearest_3 : decode cX0_dearest 3 = .ok (.iconst 0, 1) := by decide +kernel
theorem dX0_dearest_4 : decode cX0_dearest 4 = .ok (.istore_n 2, 1) := by decide +kernel
theorem dX0_dearest_5 : decode cX0_dearest 5 = .ok (.iload_n 2, 1) := by decide +kernel
theorem dX0_dearest_6 : decode cX0_dearest 6 = .ok (.bipush 10, 2) := by decide +kernel
theorem dX0_dearest_8 : decode cX0_dearest 8 = .ok (.if_icmp .ge 36, 3) := by decide +kernel
theorem dX0_dearest_11 : decode cX0_dearest 11 = .ok (.aload_n 0, 1) := by decide +kernel
theorem dX0_dearest_12 : decode cX0_dearest 12 = .ok (.iload_n 2, 1) := by decide +kernel
theorem dX0_dearest_13 : decode cX0_dearest 13 = .ok (.invokevirtual 60, 3) := by decide +kernel
theorem dX0_dearest_16 : decode cX0_dearest 16 = .ok (.ifCond .eq 22, 3) := by decide +kernel
theorem dX0_dearest_19 : decode cX0_dearest 19 = .ok (.iload_n 1, 1) := by decide +kernel
theorem dX0_dearest_20 : decode cX0_dearest 20 = .ok (.ifCond .lt 16, 3) := by decide +kernel
theorem dX0_dearest_23 : decode cX0_dearest 23 = .ok (.aload_n 0, 1) := by decide +kernel
theorem dX0_dearest_24 : decode cX0_dearest 24 = .ok (.iload_n 2, 1) := by decide +kernel
theorem dX0_dearest_25 : decode cX0_dearest 25 = .ok (.invokevirtual 105, 3) := by decide +kernel
theorem dX0_dearest_28 : decode cX0_dearest 28 = .ok (.aload_n 0, 1) := by decide +kernel
theorem dX0_dearest_29 : decode cX0_dearest 29 = .ok (.iload_n 1, 1) := by decide +kernel
theorem dX0_dearest_30 : decode cX0_dearest 30 = .ok (.invokevirtual 105, 3) := by decide +kernel
theorem dX0_dearest_33 : decode cX0_dearest 33 = .ok (.if_icmp .le 5, 3) := by decide +kernel
theorem dX0_dearest_36 : decode cX0_dearest 36 = .ok (.iload_n 2, 1) := by decide +kernel
theorem dX0_dearest_37 : decode cX0_dearest 37 = .ok (.istore_n 1, 1) := by decide +kernel
theorem dX0_dearest_38 : decode cX0_dearest 38 = .ok (.iinc 2 1, 3) := by decide +kernel
theorem dX0_dearest_41 : decode cX0_dearest 41 = .ok (.goto (-36), 3) := by decide +kernel
theorem dX0_dearest_44 : decode cX0_dearest 44 = .ok (.iload_n 1, 1) := by decide +kernel
theorem dX0_dearest_45 : decode cX0_dearest 45 = .ok (.ireturn, 1) := by decide +kernel
abbrev A0_dearest (G : GG) (Q : Int32 → MM → Prop) := AW G E0 (MZ G (qI Q)) (WY yX0_dearest cX0_dearest 3 (some .int)) RX0 cX0_dearest 3 (some .int) ({ frames := 3, cells := 0, slots := 0, locals := 63 } : Room) 0 0
def D0_dearest_c38 (b : Nat) (K5 : Int32 → Int32 → MM → Prop) (Q : Int32 → MM → Prop) (x1 : Int32) (x2 : Int32) (M : MM) : Prop := (fun v7 : Int32 => K5 x1 v7 M) (x2 + (1 : Int32))
def D0_dearest_c36 (b : Nat) (K5 : Int32 → Int32 → MM → Prop) (Q : Int32 → MM → Prop) (x2 : Int32) (M : MM) : Prop := D0_dearest_c38 b K5 Q x2 x2 M
def D0_dearest_c5 (b : Nat) (Q : Int32 → MM → Prop) : Nat → Int32 → Int32 → MM → Prop
  | 0, _, _, _ => False
  | n + 1, x1, x2, M => (((10 : Int32) ≤ x2 → Q x1 M) ∧ (¬ (10 : Int32) ≤ x2 → D0_stands b x2 M (fun (r1 : Int32) (M2 : MM) => ((r1 = 0 → D0_dearest_c38 b (D0_dearest_c5 b Q n) Q x1 x2 M2) ∧ (¬ r1 = 0 → ((x1 < 0 → D0_dearest_c36 b (D0_dearest_c5 b Q n) Q x2 M2) ∧ (¬ x1 < 0 → D0_rateOf b x2 M2 (fun (r3 : Int32) (M4 : MM) => D0_rateOf b x1 M4 (fun (r5 : Int32) (M6 : MM) => ((r3 ≤ r5 → D0_dearest_c38 b (D0_dearest_c5 b Q n) Q x1 x2 M6) ∧ (¬ r3 ≤ r5 → D0_dearest_c36 b (D0_dearest_c5 b Q n) Q x2 M6)))))))))))
def D0_dearest (b : Nat) (M : MM) (Q : Int32 → MM → Prop) : Prop := D0_dearest_c5 b Q FU (-9 : Int32) (0 : Int32) M
set_option maxHeartbeats 4000000 in
set_option maxRecDepth 100000 in
theorem s0_dearest_c38 {G : GG} {b : Nat} (hb : ob b 0) {K5 : Int32 → Int32 → MM → Prop} {Q : Int32 → MM → Prop} (hK5 : ∀ (x1 : Int32) (x2 : Int32) (M : MM), K5 x1 x2 M → A0_dearest G Q 5 [(0, .ref (gA G b)), (1, .int x1), (2, .int x2)] [] M) : ∀ (x1 : Int32) (x2 : Int32) (M : MM), D0_dearest_c38 b K5 Q x1 x2 M → A0_dearest G Q 38 [(0, .ref (gA G b)), (1, .int x1), (2, .int x2)] [] M := by
  intro x1 x2 M h
  unfold D0_dearest_c38 at h
  refine a_iinc (L' := [(2, .int _), (0, .ref _), (1, .int _)]) dX0_dearest_38 2 rfl (show _ + Int32.ofInt (1 : Int) = _ + (1 : Int32) from rfl) (by decide) rfl ?_
  refine a_goto (tgt := 5) dX0_dearest_41 (by decide) ?_
  refine a_sub [1, 2, 0] rfl ?_
  exact hK5 _ _ _ h
set_option maxHeartbeats 4000000 in
set_option maxRecDepth 100000 in
theorem s0_dearest_c36 {G : GG} {b : Nat} (hb : ob b 0) {K5 : Int32 → Int32 → MM → Prop} {Q : Int32 → MM → Prop} (hK5 : ∀ (x1 : Int32) (x2 : Int32) (M : MM), K5 x1 x2 M → A0_dearest G Q 5 [(0, .ref (gA G b)), (1, .int x1), (2, .int x2)] [] M) : ∀ (x2 : Int32) (M : MM), D0_dearest_c36 b K5 Q x2 M → A0_dearest G Q 36 [(0, .ref (gA G b)), (2, .int x2)] [] M := by
  intro x2 M h
  unfold D0_dearest_c36 at h
  refine a_iload_n dX0_dearest_36 1 rfl ?_
  refine a_istore_n (i := 1) (L' := [(1, .int _), (0, .ref _), (2, .int _)]) dX0_dearest_37 rfl (by decide) rfl ?_
  refine a_sub [1, 0, 2] rfl ?_
  exact s0_dearest_c38 hb hK5 _ _ _ h
set_option maxHeartbeats 4000000 in
set_option maxRecDepth 100000 in
theorem s0_dearest_c5 {G : GG} {b : Nat} (hb : ob b 0) {Q : Int32 → MM → Prop} : ∀ (n : Nat) (x1 : Int32) (x2 : Int32) (M : MM), D0_dearest_c5 b Q n x1 x2 M → A0_dearest G Q 5 [(0, .ref (gA G b)), (1, .int x1), (2, .int x2)] [] M := by
  intro n
  induction n with
  | zero => intro x1 x2 M h; exact h.elim
  | succ n ih =>
    intro x1 x2 M h
    unfold D0_dearest_c5 at h
    refine a_iload_n dX0_dearest_5 2 rfl ?_
    refine a_bipush (v := 10) dX0_dearest_6 (by decide) ?_
    refine a_icmp_ge (tgt := 44) dX0_dearest_8 (by decide) (fun c => ?_) (fun c => ?_)
    · have h := h.1 c
      refine a_iload_n dX0_dearest_44 1 rfl ?_
      exact a_iret dX0_dearest_45 ⟨_, rfl, h⟩
    · have h := h.2 c
      refine a_aload_n dX0_dearest_11 0 rfl ?_
      refine a_iload_n dX0_dearest_12 2 rfl ?_
      refine a_callVi (n := 1) [.int _] (C := RX0) (ci := 0) (qc := (RX0, TX0, 9)) (fsF := fl0 G _) hb.1 (fun _ => en0 hb.2) rfl rfl dX0_dearest_13 (s0_stands hb h) (gV tbc kM_RX0_60_X0_stands kI_X0_stands kS_X0_stands kN_RX0 kC_X0_stands) rfl (by decide +kernel) ⟨Nat.le_of_ble_eq_true rfl, Nat.le_of_ble_eq_true rfl⟩ rfl rfl (Nat.le_of_ble_eq_true rfl) ⟨Nat.le_refl 0, Nat.le_refl 0⟩ (fun r M h => ?_)
      refine a_if_eq (tgt := 38) dX0_dearest_16 (by decide) (fun c => ?_) (fun c => ?_)
      · have h := h.1 c
        refine a_sub [0, 1, 2] rfl ?_
        exact s0_dearest_c38 hb ih _ _ _ h
      · have h := h.2 c
        refine a_iload_n dX0_dearest_19 1 rfl ?_
        refine a_if_lt (tgt := 36) dX0_dearest_20 (by decide) (fun c => ?_) (fun c => ?_)
        · have h := h.1 c
          refine a_sub [0, 2] rfl ?_
          exact s0_dearest_c36 hb ih _ _ h
        · have h := h.2 c
          refine a_aload_n dX0_dearest_23 0 rfl ?_
          refine a_iload_n dX0_dearest_24 2 rfl ?_
          refine a_callVi (n := 1) [.int _] (C := RX0) (ci := 0) (qc := (RX0, TX0, 9)) (fsF := fl0 G _) hb.1 (fun _ => en0 hb.2) rfl rfl dX0_dearest_25 (s0_rateOf hb h) (gV tbc kM_RX0_105_X0_rateOf kI_X0_rateOf kS_X0_rateOf kN_RX0 kC_X0_rateOf) rfl (by decide +kernel) ⟨Nat.le_of_ble_eq_true rfl, Nat.le_of_ble_eq_true rfl⟩ rfl rfl (Nat.le_of_ble_eq_true rfl) ⟨Nat.le_refl 0, Nat.le_refl 0⟩ (fun r M h => ?_)
          refine a_aload_n dX0_dearest_28 0 rfl ?_
          refine a_iload_n dX0_dearest_29 1 rfl ?_
          refine a_callVi (n := 1) [.int _] (C := RX0) (ci := 0) (qc := (RX0, TX0, 9)) (fsF := fl0 G _) hb.1 (fun _ => en0 hb.2) rfl rfl dX0_dearest_30 (s0_rateOf hb h) (gV tbc kM_RX0_105_X0_rateOf kI_X0_rateOf kS_X0_rateOf kN_RX0 kC_X0_rateOf) rfl (by decide +kernel) ⟨Nat.le_of_ble_eq_true rfl, Nat.le_of_ble_eq_true rfl⟩ rfl rfl (Nat.le_of_ble_eq_true rfl) ⟨Nat.le_refl 0, Nat.le_refl 0⟩ (fun r M h => ?_)
          refine a_icmp_le (tgt := 38) dX0_dearest_33 (by decide) (fun c => ?_) (fun c => ?_)
          · have h := h.1 c
            refine a_sub [0, 1, 2] rfl ?_
            exact s0_dearest_c38 hb ih _ _ _ h
          · have h := h.2 c
            refine a_sub [0, 2] rfl ?_
            exact s0_dearest_c36 hb ih _ _ h
set_option maxHeartbeats 4000000 in
set_option maxRecDepth 100000 in
theorem s0_dearest {G : GG} {b : Nat} (hb : ob b 0) {M : MM} {Q : Int32 → MM → Prop} (h : D0_dearest b M Q) : CM G yX0_dearest (WY yX0_dearest cX0_dearest 3 (some .int)) 3 63 [.ref (gA G b)] M (qI Q) := by
  refine CM.of (cc := cX0_dearest) (nL := 3) (ret := (some .int)) (own := RX0) (by decide +kernel) rfl rfl (Nat.le_of_ble_eq_true rfl) ?_
  show A0_dearest G Q 0 [(0, .ref (gA G b))] [] M
  unfold D0_dearest at h
  refine a_bipush (v := -9) dX0_dearest_0 (by decide) ?_
  refine a_istore_n (i := 1) (L' := [(1, .int _), (0, .ref _)]) dX0_dearest_2 rfl (by decide) rfl ?_
  refine a_iconst (v := 0) dX0_dearest_3 (by decide) ?_
  refine a_istore_n (i := 2) (L' := [(2, .int _), (1, .int _), (0, .ref _)]) dX0_dearest_4 rfl (by decide) rfl ?_
  refine a_sub [2, 1, 0] rfl ?_
  exact s0_dearest_c5 hb _ _ _ _ h

/-! X0_dryWorks -/
theorem dX0_dryWorks_0 : decode cX0_dryWorks 0 = .ok (.iconst 0, 1) := by decide +kernel
theorem dX0_dryWorks_1 : decode cX0_dryWorks 1 = .ok (.istore_n 2, 1) := by decide +kernel
theorem dX0_dryWorks_2 : decode cX0_dryWorks 2 = .ok (.iconst 0, 1) := by decide +kernel
theorem dX0_dryWorks_3 : decode cX0_dryWorks 3 = .ok (.istore_n 3, 1) := by decide +kernel
theorem dX0_dryWorks_4 : decode cX0_dryWorks 4 = .ok (.iload_n 3, 1) := by decide +kernel
theorem dX0_dryWorks_5 : decode cX0_dryWorks 5 = .ok (.bipush 10, 2) := by decide +kernel
theorem dX0_dryWorks_7 : decode cX0_dryWorks 7 = .ok (.if_icmp .ge 36, 3) := by decide +kernel
theorem dX0_dryWorks_10 : decode cX0_dryWorks 10 = .ok (.aload_n 0, 1) := by decide +kernel
theorem dX0_dryWorks_11 : decode cX0_dryWorks 11 = .ok (.iload_n 3, 1) := by decide +kernel
theorem dX0_dryWorks_12 : decode cX0_dryWorks 12 = .ok (.invokevirtual 60, 3) := by decide +kernel
theorem dX0_dryWorks_15 : decode cX0_dryWorks 15 = .ok (.ifCond .eq 22, 3) := by decide +kernel
theorem dX0_dryWorks_18 : decode cX0_dryWorks 18 = .ok (.iload_n 1, 1) := by decide +kernel
theorem dX0_dryWorks_19 : decode cX0_dryWorks 19 = .ok (.aload_n 0, 1) := by decide +kernel
theorem dX0_dryWorks_20 : decode cX0_dryWorks 20 = .ok (.getfield 18, 3) := by decide +kernel
theorem dX0_dryWorks_23 : decode cX0_dryWorks 23 = .ok (.iload_n 3, 1) := by decide +kernel
theorem dX0_dryWorks_24 : decode cX0_dryWorks 24 = .ok (.iaload, 1) := by decide +kernel
theorem dX0_dryWorks_25 : decode cX0_dryWorks 25 = .ok (.invokestatic 86, 3) := by decide +kernel
theorem dX0_dryWorks_28 : decode cX0_dryWorks 28 = .ok (.ifCond .ne 9, 3) := by decide +kernel
theorem dX0_dryWorks_31 : decode cX0_dryWorks 31 = .ok (.iload_n 2, 1) := by decide +kernel
theorem dX0_dryWorks_32 : decode cX0_dryWorks 32 = .ok (.iconst 1, 1) := by decide +kernel
theorem dX0_dryWorks_33 : decode cX0_dryWorks 33 = .ok (.iload_n 3, 1) := by decide +kernel
theorem dX0_dryWorks_34 : decode cX0_dryWorks 34 = .ok (.ishl, 1) := by decide +kernel
theorem dX0_dryWorks_35 : decode cX0_dryWorks 35 = .ok (.ior, 1) := by decide +kernel
theorem dX0_dryWorks_36 : decode cX0_dryWorks 36 = .ok (.istore_n 2, 1) := by decide +kernel
theorem dX0_dryWorks_37 : decode cX0_dryWorks 37 = .ok (.iinc 3 1, 3) := by decide +kernel
theorem dX0_dryWorks_40 : decode cX0_dryWorks 40 = .ok (.goto (-36), 3) := by decide +kernel
theorem dX0_dryWorks_43 : decode cX0_dryWorks 43 = .ok (.iload_n 2, 1) := by decide +kernel
theorem dX0_dryWorks_44 : decode cX0_dryWorks 44 = .ok (.ireturn, 1) := by decide +kernel
abbrev A0_dryWorks (G : GG) (Q : Int32 → MM → Prop) := AW G E0 (MZ G (qI Q)) (WY yX0_dryWorks cX0_dryWorks 4 (some .int)) RX0 cX0_dryWorks 4 (some .int) ({ frames := 1, cells := 0, slots := 0, locals := 21 } : Room) 0 0
def D0_dryWorks_c37 (b : Nat) (K4 : Int32 → Int32 → Int32 → MM → Prop) (Q : Int32 → MM → Prop) (x1 : Int32) (x2 : Int32) (x3 : Int32) (M : MM) : Prop := (fun v6 : Int32 => K4 x1 x2 v6 M) (x3 + (1 : Int32))
def D0_dryWorks_c4 (b : Nat) (Q : Int32 → MM → Prop) : Nat → Int32 → Int32 → Int32 → MM → Prop
  | 0, _, _, _, _ => False
  | n + 1, x1, x2, x3, M => (((10 : Int32) ≤ x3 → Q x2 M) ∧ (¬ (10 : Int32) ≤ x3 → D0_stands b x3 M (fun (r1 : Int32) (M2 : MM) => ((r1 = 0 → D0_dryWorks_c37 b (D0_dryWorks_c4 b Q n) Q x1 x2 x3 M2) ∧ (¬ r1 = 0 → ib (b + 3) x3 ∧ D3_has x1 (M2 (b + 3) (ix x3)) M2 (fun (r3 : Int32) (M4 : MM) => ((r3 ≠ 0 → D0_dryWorks_c37 b (D0_dryWorks_c4 b Q n) Q x1 x2 x3 M4) ∧ (r3 = 0 → (fun v5 : Int32 => D0_dryWorks_c37 b (D0_dryWorks_c4 b Q n) Q x1 v5 x3 M4) (x2 ||| ((1 : Int32) <<< (x3 &&& 31)))))))))))
def D0_dryWorks (b : Nat) (x1 : Int32) (M : MM) (Q : Int32 → MM → Prop) : Prop := D0_dryWorks_c4 b Q FU x1 (0 : Int32) (0 : Int32) M
set_option maxHeartbeats 4000000 in
set_option maxRecDepth 100000 in
theorem s0_dryWorks_c37 {G : GG} {b : Nat} (hb : ob b 0) {K4 : Int32 → Int32 → Int32 → MM → Prop} {Q : Int32 → MM → Prop} (hK4 : ∀ (x1 : Int32) (x2 : Int32) (x3 : Int32) (M : MM), K4 x1 x2 x3 M → A0_dryWorks G Q 4 [(0, .ref (gA G b)), (1, .int x1), (2, .int x2), (3, .int x3)] [] M) : ∀ (x1 : Int32) (x2 : Int32) (x3 : Int32) (M : MM), D0_dryWorks_c37 b K4 Q x1 x2 x3 M → A0_dryWorks G Q 37 [(0, .ref (gA G b)), (1, .int x1), (2, .int x2), (3, .int x3)] [] M := by
  intro x1 x2 x3 M h
  unfold D0_dryWorks_c37 at h
  refine a_iinc (L' := [(3, .int _), (0, .ref _), (1, .int _), (2, .int _)]) dX0_dryWorks_37 3 rfl (show _ + Int32.ofInt (1 : Int) = _ + (1 : Int32) from rfl) (by decide) rfl ?_
  refine a_goto (tgt := 4) dX0_dryWorks_40 (by decide) ?_
  refine a_sub [1, 2, 3, 0] rfl ?_
  exact hK4 _ _ _ _ h
set_option maxHeartbeats 4000000 in
set_option maxRecDepth 100000 in
theorem s0_dryWorks_c4 {G : GG} {b : Nat} (hb : ob b 0) {Q : Int32 → MM → Prop} : ∀ (n : Nat) (x1 : Int32) (x2 : Int32) (x3 : Int32) (M : MM), D0_dryWorks_c4 b Q n x1 x2 x3 M → A0_dryWorks G Q 4 [(0, .ref (gA G b)), (1, .int x1), (2, .int x2), (3, .int x3)] [] M := by
  intro n
  induction n with
  | zero => intro x1 x2 x3 M h; exact h.elim
  | succ n ih =>
    intro x1 x2 x3 M h
    unfold D0_dryWorks_c4 at h
    refine a_iload_n dX0_dryWorks_4 3 rfl ?_
    refine a_bipush (v := 10) dX0_dryWorks_5 (by decide) ?_
    refine a_icmp_ge (tgt := 43) dX0_dryWorks_7 (by decide) (fun c => ?_) (fun c => ?_)
    · have h := h.1 c
      refine a_iload_n dX0_dryWorks_43 2 rfl ?_
      exact a_iret dX0_dryWorks_44 ⟨_, rfl, h⟩
    · have h := h.2 c
      refine a_aload_n dX0_dryWorks_10 0 rfl ?_
      refine a_iload_n dX0_dryWorks_11 3 rfl ?_
      refine a_callVi (n := 1) [.int _] (C := RX0) (ci := 0) (qc := (RX0, TX0, 9)) (fsF := fl0 G _) hb.1 (fun _ => en0 hb.2) rfl rfl dX0_dryWorks_12 (s0_stands hb h) (gV tbc kM_RX0_60_X0_stands kI_X0_stands kS_X0_stands kN_RX0 kC_X0_stands) rfl (by decide +kernel) ⟨Nat.le_of_ble_eq_true rfl, Nat.le_of_ble_eq_true rfl⟩ rfl rfl (Nat.le_of_ble_eq_true rfl) ⟨Nat.le_refl 0, Nat.le_refl 0⟩ (fun r M h => ?_)
      refine a_if_eq (tgt := 37) dX0_dryWorks_15 (by decide) (fun c => ?_) (fun c => ?_)
      · have h := h.1 c
        refine a_sub [0, 1, 2, 3] rfl ?_
        exact s0_dryWorks_c37 hb ih _ _ _ _ h
      · have h := h.2 c
        refine a_iload_n dX0_dryWorks_18 1 rfl ?_
        refine a_aload_n dX0_dryWorks_19 0 rfl ?_
        refine a_get0 dX0_dryWorks_20 2 (by decide) (tbc _ kF_RX0_18) (fun w h => tbc _ (uW0 w h)) rfl hb rfl ?_
        refine a_iload_n dX0_dryWorks_23 3 rfl ?_
        refine a_iald dX0_dryWorks_24 h.1 ?_
        have h := h.2
        refine a_callSi (n := 2) [.int _, .int _] dX0_dryWorks_25 (s3_has h) (gS tbc kM_RX0_86_X3_has kT_X3_has kN_RX3 kC_X3_has) rfl (by decide +kernel) ⟨Nat.le_of_ble_eq_true rfl, Nat.le_of_ble_eq_true rfl⟩ rfl rfl (Nat.le_of_ble_eq_true rfl) ⟨Nat.le_refl 0, Nat.le_refl 0⟩ (fun r M h => ?_)
        refine a_if_ne (tgt := 37) dX0_dryWorks_28 (by decide) (fun c => ?_) (fun c => ?_)
        · have h := h.1 c
          refine a_sub [0, 1, 2, 3] rfl ?_
          exact s0_dryWorks_c37 hb ih _ _ _ _ h
        · have h := h.2 c
          refine a_iload_n dX0_dryWorks_31 2 rfl ?_
          refine a_iconst (v := 1) dX0_dryWorks_32 (by decide) ?_
          refine a_iload_n dX0_dryWorks_33 3 rfl ?_
          refine a_ishl dX0_dryWorks_34 ?_
          refine a_ior dX0_dryWorks_35 ?_
          refine a_istore_n (i := 2) (L' := [(2, .int _), (0, .ref _), (1, .int _), (3, .int _)]) dX0_dryWorks_36 rfl (by decide) rfl ?_
          refine a_sub [1, 2, 0, 3] rfl ?_
          exact s0_dryWorks_c37 hb ih _ _ _ _ h
set_option maxHeartbeats 4000000 in
set_option maxRecDepth 100000 in
theorem s0_dryWorks {G : GG} {b : Nat} (hb : ob b 0) {x1 : Int32} {M : MM} {Q : Int32 → MM → Prop} (h : D0_dryWorks b x1 M Q) : CM G yX0_dryWorks (WY yX0_dryWorks cX0_dryWorks 4 (some .int)) 1 21 [.ref (gA G b), .int x1] M (qI Q) := by
  refine CM.of (cc := cX0_dryWorks) (nL := 4) (ret := (some .int)) (own := RX0) (by decide +kernel) rfl rfl (Nat.le_of_ble_eq_true rfl) ?_
  show A0_dryWorks G Q 0 [(0, .ref (gA G b)), (1, .int x1)] [] M
  unfold D0_dryWorks at h
  refine a_iconst (v := 0) dX0_dryWorks_0 (by decide) ?_
  refine a_istore_n (i := 2) (L' := [(2, .int _), (0, .ref _), (1, .int _)]) dX0_dryWorks_1 rfl (by decide) rfl ?_
  refine a_iconst (v := 0) dX0_dryWorks_2 (by decide) ?_
  refine a_istore_n (i := 3) (L' := [(3, .int _), (2, .int _), (0, .ref _), (1, .int _)]) dX0_dryWorks_3 rfl (by decide) rfl ?_
  refine a_sub [2, 3, 1, 0] rfl ?_
  exact s0_dryWorks_c4 hb _ _ _ _ _ h

/-! X0_goesOn -/
theorem dX0_goesOn_0 : decode cX0_goesOn 0 = .ok (.iconst 0, 1) := by decide +kernel
theorem dX0_goesOn_1 : decode cX0_goesOn 1 = .ok (.istore_n 2, 1) := by decide +kernel
theorem dX0_goesOn_2 : decode cX0_goesOn 2 = .ok (.iload_n 2, 1) := by decide +kernel
theorem dX0_goesOn_3 : decode cX0_goesOn 3 = .ok (.iload_n 1, 1) := by decide +kernel
theorem dX0_goesOn_4 : decode cX0_goesOn 4 = .ok (.if_icmp .ge 15, 3) := by decide +kernel
theorem dX0_goesOn_7 : decode cX0_goesOn 7 = .ok (.aload_n 0, 1) := by decide +kernel
theorem dX0_goesOn_8 : decode cX0_goesOn 8 = .ok (.iconst 0, 1) := by decide +kernel
theorem dX0_goesOn_9 : decode cX0_goesOn 9 = .ok (.iconst 0, 1) := by decide +kernel
theorem dX0_goesOn_10 : decode cX0_goesOn 10 = .ok (.invokevirtual 68, 3) := by decide +kernel
theorem dX0_goesOn_13 : decode cX0_goesOn 13 = .ok (.iinc 2 1, 3) := by decide +kernel
theorem dX0_goesOn_16 : decode cX0_goesOn 16 = .ok (.goto (-14), 3) := by decide +kernel
theorem dX0_goesOn_19 : decode cX0_goesOn 19 = .ok (.return_, 1) := by decide +kernel
abbrev A0_goesOn (G : GG) (Q : MM → Prop) := AW G E0 (MZ G (qV Q)) (WY yX0_goesOn cX0_goesOn 3 none) RX0 cX0_goesOn 3 none ({ frames := 3, cells := 0, slots := 0, locals := 72 } : Room) 0 0
def D0_goesOn_c2 (b : Nat) (Q : MM → Prop) : Nat → Int32 → Int32 → MM → Prop
  | 0, _, _, _ => False
  | n + 1, x1, x2, M => ((x1 ≤ x2 → Q M) ∧ (¬ x1 ≤ x2 → D0_anHour b (0 : Int32) (0 : Int32) M (fun (M2 : MM) => (fun v3 : Int32 => D0_goesOn_c2 b Q n x1 v3 M2) (x2 + (1 : Int32)))))
def D0_goesOn (b : Nat) (x1 : Int32) (M : MM) (Q : MM → Prop) : Prop := D0_goesOn_c2 b Q FU x1 (0 : Int32) M
set_option maxHeartbeats 4000000 in
set_option maxRecDepth 100000 in
theorem s0_goesOn_c2 {G : GG} {b : Nat} (hb : ob b 0) {Q : MM → Prop} : ∀ (n : Nat) (x1 : Int32) (x2 : Int32) (M : MM), D0_goesOn_c2 b Q n x1 x2 M → A0_goesOn G Q 2 [(0, .ref (gA G b)), (1, .int x1), (2, .int x2)] [] M := by
  intro n
  induction n with
  | zero => intro x1 x2 M h; exact h.elim
  | succ n ih =>
    intro x1 x2 M h
    unfold D0_goesOn_c2 at h
    refine a_iload_n dX0_goesOn_2 2 rfl ?_
    refine a_iload_n dX0_goesOn_3 1 rfl ?_
    refine a_icmp_ge (tgt := 19) dX0_goesOn_4 (by decide) (fun c => ?_) (fun c => ?_)
    · have h := h.1 c
      exact a_vret dX0_goesOn_19 ⟨rfl, h⟩
    · have h := h.2 c
      refine a_aload_n dX0_goesOn_7 0 rfl ?_
      refine a_iconst (v := 0) dX0_goesOn_8 (by decide) ?_
      refine a_iconst (v := 0) dX0_goesOn_9 (by decide) ?_
      refine a_callVv (n := 2) [.int _, .int _] (C := RX0) (ci := 0) (qc := (RX0, TX0, 9)) (fsF := fl0 G _) hb.1 (fun _ => en0 hb.2) rfl rfl dX0_goesOn_10 (s0_anHour hb h) (gV tbc kM_RX0_68_X0_anHour kI_X0_anHour kS_X0_anHour kN_RX0 kC_X0_anHour) rfl (by decide +kernel) ⟨Nat.le_of_ble_eq_true rfl, Nat.le_of_ble_eq_true rfl⟩ rfl rfl (Nat.le_of_ble_eq_true rfl) ⟨Nat.le_refl 0, Nat.le_refl 0⟩ (fun M h => ?_)
      refine a_iinc (L' := [(2, .int _), (0, .ref _), (1, .int _)]) dX0_goesOn_13 2 rfl (show _ + Int32.ofInt (1 : Int) = _ + (1 : Int32) from rfl) (by decide) rfl ?_
      refine a_goto (tgt := 2) dX0_goesOn_16 (by decide) ?_
      refine a_sub [1, 2, 0] rfl ?_
      exact ih _ _ _ h
set_option maxHeartbeats 4000000 in
set_option maxRecDepth 100000 in
theorem s0_goesOn {G : GG} {b : Nat} (hb : ob b 0) {x1 : Int32} {M : MM} {Q : MM → Prop} (h : D0_goesOn b x1 M Q) : CM G yX0_goesOn (WY yX0_goesOn cX0_goesOn 3 none) 3 72 [.ref (gA G b), .int x1] M (qV Q) := by
  refine CM.of (cc := cX0_goesOn) (nL := 3) (ret := none) (own := RX0) (by decide +kernel) rfl rfl (Nat.le_of_ble_eq_true rfl) ?_
  show A0_goesOn G Q 0 [(0, .ref (gA G b)), (1, .int x1)] [] M
  unfold D0_goesOn at h
  refine a_iconst (v := 0) dX0_goesOn_0 (by decide) ?_
  refine a_istore_n (i := 2) (L' := [(2, .int _), (0, .ref _), (1, .int _)]) dX0_goesOn_1 rfl (by decide) rfl ?_
  refine a_sub [1, 2, 0] rfl ?_
  exact s0_goesOn_c2 hb _ _ _ _ h

/-! X0_highestWork -/
theorem dX0_highestWork_0 : decode cX0_highestWork 0 = .ok (.bipush (-9), 2) := by decide +kernel
theorem dX0_highestWork_2 : decode cX0_highestWork 2 = .ok (.istore_n 1, 1) := by decide +kernel
theorem dX0_highestWork_3 : decode cX0_highestWork 3 = .ok (.iconst 0, 1) := by decide +kernel
theorem dX0_highestWork_4 : decode cX0_highestWork 4 = .ok (.istore_n 2, 1) := by decide +kernel
theorem dX0_highestWork_5 : decode cX0_highestWork 5 = .ok (.iload_n 2, 1) := by decide +kernel
theorem dX0_highestWork_6 : decode cX0_highestWork 6 = .ok (.bipush 10, 2) := by decide +kernel
theorem dX0_highestWork_8 : decode cX0_highestWork 8 = .ok (.if_icmp .ge 40, 3) := by decide +kernel
theorem dX0_highestWork_11 : decode cX0_highestWork 11 = .ok (.aload_n 0, 1) := by decide +kernel
theorem dX0_highestWork_12 : decode cX0_highestWork 12 = .ok (.iload_n 2, 1) := by decide +kernel
theorem dX0_highestWork_13 : decode cX0_highestWork 13 = .ok (.invokevirtual 60, 3) := by decide +kernel
theorem dX0_highestWork_16 : decode cX0_highestWork 16 = .ok (.ifCond .eq 26, 3) := by decide +kernel
theorem dX0_highestWork_19 : decode cX0_highestWork 19 = .ok (.iload_n 1, 1) := by decide +kernel
theorem dX0_highestWork_20 : decode cX0_highestWork 20 = .ok (.ifCond .lt 20, 3) := by decide +kernel
theorem dX0_highestWork_23 : decode cX0_highestWork 23 = .ok (.aload_n 0, 1) := by decide +kernel
theorem dX0_highestWork_24 : decode cX0_highestWork 24 = .ok (.iload_n 2, 1) := by decide +kernel
theorem dX0_highestWork_25 : decode cX0_highestWork 25 = .ok (.invokevirtual 117, 3) := by decide +kernel
theorem dX0_highestWork_28 : decode cX0_highestWork 28 = .ok (.iconst 5, 1) := by decide +kernel
theorem dX0_highestWork_29 : decode cX0_highestWork 29 = .ok (.idiv, 1) := by decide +kernel
theorem dX0_highestWork_30 : decode cX0_highestWork 30 = .ok (.aload_n 0, 1) := by decide +kernel
theorem dX0_highestWork_31 : decode cX0_highestWork 31 = .ok (.iload_n 1, 1) := by decide +kernel
theorem dX0_highestWork_32 : decode cX0_highestWork 32 = .ok (.invokevirtual 117, 3) := by decide +kernel
theorem dX0_highestWork_35 : decode cX0_highestWork 35 = .ok (.iconst 5, 1) := by decide +kernel
theorem dX0_highestWork_36 : decode cX0_highestWork 36 = .ok (.idiv, 1) := by decide +kernel
theorem dX0_highestWork_37 : decode cX0_highestWork 37 = .ok (.if_icmp .ge 5, 3) := by decide +kernel
theorem dX0_highestWork_40 : decode cX0_highestWork 40 = .ok (.iload_n 2, 1) := by decide +kernel
theorem dX0_highestWork_41 : decode cX0_highestWork 41 = .ok (.istore_n 1, 1) := by decide +kernel
theorem dX0_highestWork_42 : decode cX0_highestWork 42 = .ok (.iinc 2 1, 3) := by decide +kernel
theorem dX0_highestWork_45 : decode cX0_highestWork 45 = .ok (.goto (-40), 3) := by decide +kernel
theorem dX0_highestWork_48 : decode cX0_highestWork 48 = .ok (.iload_n 1, 1) := by decide +kernel
theorem dX0_highestWork_49 : decode cX0_highestWork 49 = .ok (.ireturn, 1) := by decide +kernel
abbrev A0_highestWork (G : GG) (Q : Int32 → MM → Prop) := AW G E0 (MZ G (qI Q)) (WY yX0_highestWork cX0_highestWork 3 (some .int)) RX0 cX0_highestWork 3 (some .int) ({ frames := 2, cells := 0, slots := 0, locals := 42 } : Room) 0 0
def D0_highestWork_c42 (b : Nat) (K5 : Int32 → Int32 → MM → Prop) (Q : Int32 → MM → Prop) (x1 : Int32) (x2 : Int32) (M : MM) : Prop := (fun v7 : Int32 => K5 x1 v7 M) (x2 + (1 : Int32))
def D0_highestWork_c40 (b : Nat) (K5 : Int32 → Int32 → MM → Prop) (Q : Int32 → MM → Prop) (x2 : Int32) (M : MM) : Prop := D0_highestWork_c42 b K5 Q x2 x2 M
def D0_highestWork_c5 (b : Nat) (Q : Int32 → MM → Prop) : Nat → Int32 → Int32 → MM → Prop
  | 0, _, _, _ => False
  | n + 1, x1, x2, M => (((10 : Int32) ≤ x2 → Q x1 M) ∧ (¬ (10 : Int32) ≤ x2 → D0_stands b x2 M (fun (r1 : Int32) (M2 : MM) => ((r1 = 0 → D0_highestWork_c42 b (D0_highestWork_c5 b Q n) Q x1 x2 M2) ∧ (¬ r1 = 0 → ((x1 < 0 → D0_highestWork_c40 b (D0_highestWork_c5 b Q n) Q x2 M2) ∧ (¬ x1 < 0 → D0_cellOf b x2 M2 (fun (r3 : Int32) (M4 : MM) => D0_cellOf b x1 M4 (fun (r5 : Int32) (M6 : MM) => (((r5 / (5 : Int32)) ≤ (r3 / (5 : Int32)) → D0_highestWork_c42 b (D0_highestWork_c5 b Q n) Q x1 x2 M6) ∧ (¬ (r5 / (5 : Int32)) ≤ (r3 / (5 : Int32)) → D0_highestWork_c40 b (D0_highestWork_c5 b Q n) Q x2 M6)))))))))))
def D0_highestWork (b : Nat) (M : MM) (Q : Int32 → MM → Prop) : Prop := D0_highestWork_c5 b Q FU (-9 : Int32) (0 : Int32) M
set_option maxHeartbeats 4000000 in
set_option maxRecDepth 100000 in
theorem s0_highestWork_c42 {G : GG} {b : Nat} (hb : ob b 0) {K5 : Int32 → Int32 → MM → Prop} {Q : Int32 → MM → Prop} (hK5 : ∀ (x1 : Int32) (x2 : Int32) (M : MM), K5 x1 x2 M → A0_highestWork G Q 5 [(0, .ref (gA G b)), (1, .int x1), (2, .int x2)] [] M) : ∀ (x1 : Int32) (x2 : Int32) (M : MM), D0_highestWork_c42 b K5 Q x1 x2 M → A0_highestWork G Q 42 [(0, .ref (gA G b)), (1, .int x1), (2, .int x2)] [] M := by
  intro x1 x2 M h
  unfold D0_highestWork_c42 at h
  refine a_iinc (L' := [(2, .int _), (0, .ref _), (1, .int _)]) dX0_highestWork_42 2 rfl (show _ + Int32.ofInt (1 : Int) = _ + (1 : Int32) from rfl) (by decide) rfl ?_
  refine a_goto (tgt := 5) dX0_highestWork_45 (by decide) ?_
  refine a_sub [1, 2, 0] rfl ?_
  exact hK5 _ _ _ h
set_option maxHeartbeats 4000000 in
set_option maxRecDepth 100000 in
theorem s0_highestWork_c40 {G : GG} {b : Nat} (hb : ob b 0) {K5 : Int32 → Int32 → MM → Prop} {Q : Int32 → MM → Prop} (hK5 : ∀ (x1 : Int32) (x2 : Int32) (M : MM), K5 x1 x2 M → A0_highestWork G Q 5 [(0, .ref (gA G b)), (1, .int x1), (2, .int x2)] [] M) : ∀ (x2 : Int32) (M : MM), D0_highestWork_c40 b K5 Q x2 M → A0_highestWork G Q 40 [(0, .ref (gA G b)), (2, .int x2)] [] M := by
  intro x2 M h
  unfold D0_highestWork_c40 at h
  refine a_iload_n dX0_highestWork_40 1 rfl ?_
  refine a_istore_n (i := 1) (L' := [(1, .int _), (0, .ref _), (2, .int _)]) dX0_highestWork_41 rfl (by decide) rfl ?_
  refine a_sub [1, 0, 2] rfl ?_
  exact s0_highestWork_c42 hb hK5 _ _ _ h
set_option maxHeartbeats 4000000 in
set_option maxRecDepth 100000 in
theorem s0_highestWork_c5 {G : GG} {b : Nat} (hb : ob b 0) {Q : Int32 → MM → Prop} : ∀ (n : Nat) (x1 : Int32) (x2 : Int32) (M : MM), D0_highestWork_c5 b Q n x1 x2 M → A0_highestWork G Q 5 [(0, .ref (gA G b)), (1, .int x1), (2, .int x2)] [] M := by
  intro n
  induction n with
  | zero => intro x1 x2 M h; exact h.elim
  | succ n ih =>
    intro x1 x2 M h
    unfold D0_highestWork_c5 at h
    refine a_iload_n dX0_highestWork_5 2 rfl ?_
    refine a_bipush (v := 10) dX0_highestWork_6 (by decide) ?_
    refine a_icmp_ge (tgt := 48) dX0_highestWork_8 (by decide) (fun c => ?_) (fun c => ?_)
    · have h := h.1 c
      refine a_iload_n dX0_highestWork_48 1 rfl ?_
      exact a_iret dX0_highestWork_49 ⟨_, rfl, h⟩
    · have h := h.2 c
      refine a_aload_n dX0_highestWork_11 0 rfl ?_
      refine a_iload_n dX0_highestWork_12 2 rfl ?_
      refine a_callVi (n := 1) [.int _] (C := RX0) (ci := 0) (qc := (RX0, TX0, 9)) (fsF := fl0 G _) hb.1 (fun _ => en0 hb.2) rfl rfl dX0_highestWork_13 (s0_stands hb h) (gV tbc kM_RX0_60_X0_stands kI_X0_stands kS_X0_stands kN_RX0 kC_X0_stands) rfl (by decide +kernel) ⟨Nat.le_of_ble_eq_true rfl, Nat.le_of_ble_eq_true rfl⟩ rfl rfl (Nat.le_of_ble_eq_true rfl) ⟨Nat.le_refl 0, Nat.le_refl 0⟩ (fun r M h => ?_)
      refine a_if_eq (tgt := 42) dX0_highestWork_16 (by decide) (fun c => ?_) (fun c => ?_)
      · have h := h.1 c
        refine a_sub [0, 1, 2] rfl ?_
        exact s0_highestWork_c42 hb ih _ _ _ h
      · have h := h.2 c
        refine a_iload_n dX0_highestWork_19 1 rfl ?_
        refine a_if_lt (tgt := 40) dX0_highestWork_20 (by decide) (fun c => ?_) (fun c => ?_)
        · have h := h.1 c
          refine a_sub [0, 2] rfl ?_
          exact s0_highestWork_c40 hb ih _ _ h
        · have h := h.2 c
          refine a_aload_n dX0_highestWork_23 0 rfl ?_
          refine a_iload_n dX0_highestWork_24 2 rfl ?_
          refine a_callVi (n := 1) [.int _] (C := RX0) (ci := 0) (qc := (RX0, TX0, 9)) (fsF := fl0 G _) hb.1 (fun _ => en0 hb.2) rfl rfl dX0_highestWork_25 (s0_cellOf hb h) (gV tbc kM_RX0_117_X0_cellOf kI_X0_cellOf kS_X0_cellOf kN_RX0 kC_X0_cellOf) rfl (by decide +kernel) ⟨Nat.le_of_ble_eq_true rfl, Nat.le_of_ble_eq_true rfl⟩ rfl rfl (Nat.le_of_ble_eq_true rfl) ⟨Nat.le_refl 0, Nat.le_refl 0⟩ (fun r M h => ?_)
          refine a_iconst (v := 5) dX0_highestWork_28 (by decide) ?_
          refine a_idiv dX0_highestWork_29 (by decide) ?_
          refine a_aload_n dX0_highestWork_30 0 rfl ?_
          refine a_iload_n dX0_highestWork_31 1 rfl ?_
          refine a_callVi (n := 1) [.int _] (C := RX0) (ci := 0) (qc := (RX0, TX0, 9)) (fsF := fl0 G _) hb.1 (fun _ => en0 hb.2) rfl rfl dX0_highestWork_32 (s0_cellOf hb h) (gV tbc kM_RX0_117_X0_cellOf kI_X0_cellOf kS_X0_cellOf kN_RX0 kC_X0_cellOf) rfl (by decide +kernel) ⟨Nat.le_of_ble_eq_true rfl, Nat.le_of_ble_eq_true rfl⟩ rfl rfl (Nat.le_of_ble_eq_true rfl) ⟨Nat.le_refl 0, Nat.le_refl 0⟩ (fun r M h => ?_)
          refine a_iconst (v := 5) dX0_highestWork_35 (by decide) ?_
          refine a_idiv dX0_highestWork_36 (by decide) ?_
          refine a_icmp_ge (tgt := 42) dX0_highestWork_37 (by decide) (fun c => ?_) (fun c => ?_)
          · have h := h.1 c
            refine a_sub [0, 1, 2] rfl ?_
            exact s0_highestWork_c42 hb ih _ _ _ h
          · have h := h.2 c
            refine a_sub [0, 2] rfl ?_
            exact s0_highestWork_c40 hb ih _ _ h
set_option maxHeartbeats 4000000 in
set_option maxRecDepth 100000 in
theorem s0_highestWork {G : GG} {b : Nat} (hb : ob b 0) {M : MM} {Q : Int32 → MM → Prop} (h : D0_highestWork b M Q) : CM G yX0_highestWork (WY yX0_highestWork cX0_highestWork 3 (some .int)) 2 42 [.ref (gA G b)] M (qI Q) := by
  refine CM.of (cc := cX0_highestWork) (nL := 3) (ret := (some .int)) (own := RX0) (by decide +kernel) rfl rfl (Nat.le_of_ble_eq_true rfl) ?_
  show A0_highestWork G Q 0 [(0, .ref (gA G b))] [] M
  unfold D0_highestWork at h
  refine a_bipush (v := -9) dX0_highestWork_0 (by decide) ?_
  refine a_istore_n (i := 1) (L' := [(1, .int _), (0, .ref _)]) dX0_highestWork_2 rfl (by decide) rfl ?_
  refine a_iconst (v := 0) dX0_highestWork_3 (by decide) ?_
  refine a_istore_n (i := 2) (L' := [(2, .int _), (1, .int _), (0, .ref _)]) dX0_highestWork_4 rfl (by decide) rfl ?_
  refine a_sub [2, 1, 0] rfl ?_
  exact s0_highestWork_c5 hb _ _ _ _ h

/-! X0_leastBeyond -/
theorem dX0_leastBeyond_0 : decode cX0_leastBeyond 0 = .ok (.bipush (-9), 2) := by decide +kernel
theorem dX0_leastBeyond_2 : decode cX0_leastBeyond 2 = .ok (.istore_n 1, 1) := by decide +kernel
theorem dX0_leastBeyond_3 : decode cX0_leastBeyond 3 = .ok (.iconst 0, 1) := by decide +kernel
theorem dX0_leastBeyond_4 : decode cX0_leastBeyond 4 = .ok (.istore_n 2, 1) := by decide +kernel
theorem dX0_leastBeyond_5 : decode cX0_leastBeyond 5 = .ok (.iload_n 2, 1) := by decide +kernel
theorem dX0_leastBeyond_6 : decode cX0_leastBeyond 6 = .ok (.bipush 10, 2) := by decide +kernel
theorem dX0_leastBeyond_8 : decode cX0_leastBeyond 8 = .ok (.if_icmp .ge 36, 3) := by decide +kernel
theorem dX0_leastBeyond_11 : decode cX0_leastBeyond 11 = .ok (.aload_n 0, 1) := by decide +kernel
theorem dX0_leastBeyond_12 : decode cX0_leastBeyond 12 = .ok (.iload_n 2, 1) := by decide +kernel
theorem dX0_leastBeyond_13 : decode cX0_leastBeyond 13 = .ok (.invokevirtual 60, 3) := by decide +kernel
theorem dX0_leastBeyond_16 : decode cX0_leastBeyond 16 = .ok (.ifCond .eq 22, 3) := by decide +kernel
theorem dX0_leastBeyond_19 : decode cX0_leastBeyond 19 = .ok (.iload_n 1, 1) := by decide +kernel
theorem dX0_leastBeyond_20 : decode cX0_leastBeyond 20 = .ok (.ifCond .lt 16, 3) := by decide +kernel
theorem dX0_leastBeyond_23 : decode cX0_leastBeyond 23 = .ok (.aload_n 0, 1) := by decide +kernel
theorem dX0_leastBeyond_24 : decode cX0_leastBeyond 24 = .ok (.iload_n 2, 1) := by decide +kernel
theorem dX0_leastBeyond_25 : decode cX0_leastBeyond 25 = .ok (.invokevirtual 108, 3) := by decide +kernel
theorem dX0_leastBeyond_28 : decode cX0_leastBeyond 28 = .ok (.aload_n 0, 1) := by decide +kernel
theorem dX0_leastBeyond_29 : decode cX0_leastBeyond 29 = .ok (.iload_n 1, 1) := by decide +kernel
theorem dX0_leastBeyond_30 : decode cX0_leastBeyond 30 = .ok (.invokevirtual 108, 3) := by decide +kernel
theorem dX0_leastBeyond_33 : decode cX0_leastBeyond 33 = .ok (.if_icmp .ge 5, 3) := by decide +kernel
theorem dX0_leastBeyond_36 : decode cX0_leastBeyond 36 = .ok (.iload_n 2, 1) := by decide +kernel
theorem dX0_leastBeyond_37 : decode cX0_leastBeyond 37 = .ok (.istore_n 1, 1) := by decide +kernel
theorem dX0_leastBeyond_38 : decode cX0_leastBeyond 38 = .ok (.iinc 2 1, 3) := by decide +kernel
theorem dX0_leastBeyond_41 : decode cX0_leastBeyond 41 = .ok (.goto (-36), 3) := by decide +kernel
theorem dX0_leastBeyond_44 : decode cX0_leastBeyond 44 = .ok (.iload_n 1, 1) := by decide +kernel
theorem dX0_leastBeyond_45 : decode cX0_leastBeyond 45 = .ok (.ireturn, 1) := by decide +kernel
abbrev A0_leastBeyond (G : GG) (Q : Int32 → MM → Prop) := AW G E0 (MZ G (qI Q)) (WY yX0_leastBeyond cX0_leastBeyond 3 (some .int)) RX0 cX0_leastBeyond 3 (some .int) ({ frames := 4, cells := 0, slots := 0, locals := 84 } : Room) 0 0
def D0_leastBeyond_c38 (b : Nat) (K5 : Int32 → Int32 → MM → Prop) (Q : Int32 → MM → Prop) (x1 : Int32) (x2 : Int32) (M : MM) : Prop := (fun v7 : Int32 => K5 x1 v7 M) (x2 + (1 : Int32))
def D0_leastBeyond_c36 (b : Nat) (K5 : Int32 → Int32 → MM → Prop) (Q : Int32 → MM → Prop) (x2 : Int32) (M : MM) : Prop := D0_leastBeyond_c38 b K5 Q x2 x2 M
def D0_leastBeyond_c5 (b : Nat) (Q : Int32 → MM → Prop) : Nat → Int32 → Int32 → MM → Prop
  | 0, _, _, _ => False
  | n + 1, x1, x2, M => (((10 : Int32) ≤ x2 → Q x1 M) ∧ (¬ (10 : Int32) ≤ x2 → D0_stands b x2 M (fun (r1 : Int32) (M2 : MM) => ((r1 = 0 → D0_leastBeyond_c38 b (D0_leastBeyond_c5 b Q n) Q x1 x2 M2) ∧ (¬ r1 = 0 → ((x1 < 0 → D0_leastBeyond_c36 b (D0_leastBeyond_c5 b Q n) Q x2 M2) ∧ (¬ x1 < 0 → D0_beyond b x2 M2 (fun (r3 : Int32) (M4 : MM) => D0_beyond b x1 M4 (fun (r5 : Int32) (M6 : MM) => ((r5 ≤ r3 → D0_leastBeyond_c38 b (D0_leastBeyond_c5 b Q n) Q x1 x2 M6) ∧ (¬ r5 ≤ r3 → D0_leastBeyond_c36 b (D0_leastBeyond_c5 b Q n) Q x2 M6)))))))))))
def D0_leastBeyond (b : Nat) (M : MM) (Q : Int32 → MM → Prop) : Prop := D0_leastBeyond_c5 b Q FU (-9 : Int32) (0 : Int32) M
set_option maxHeartbeats 4000000 in
set_option maxRecDepth 100000 in
theorem s0_leastBeyond_c38 {G : GG} {b : Nat} (hb : ob b 0) {K5 : Int32 → Int32 → MM → Prop} {Q : Int32 → MM → Prop} (hK5 : ∀ (x1 : Int32) (x2 : Int32) (M : MM), K5 x1 x2 M → A0_leastBeyond G Q 5 [(0, .ref (gA G b)), (1, .int x1), (2, .int x2)] [] M) : ∀ (x1 : Int32) (x2 : Int32) (M : MM), D0_leastBeyond_c38 b K5 Q x1 x2 M → A0_leastBeyond G Q 38 [(0, .ref (gA G b)), (1, .int x1), (2, .int x2)] [] M := by
  intro x1 x2 M h
  unfold D0_leastBeyond_c38 at h
  refine a_iinc (L' := [(2, .int _), (0, .ref _), (1, .int _)]) dX0_leastBeyond_38 2 rfl (show _ + Int32.ofInt (1 : Int) = _ + (1 : Int32) from rfl) (by decide) rfl ?_
  refine a_goto (tgt := 5) dX0_leastBeyond_41 (by decide) ?_
  refine a_sub [1, 2, 0] rfl ?_
  exact hK5 _ _ _ h
set_option maxHeartbeats 4000000 in
set_option maxRecDepth 100000 in
theorem s0_leastBeyond_c36 {G : GG} {b : Nat} (hb : ob b 0) {K5 : Int32 → Int32 → MM → Prop} {Q : Int32 → MM → Prop} (hK5 : ∀ (x1 : Int32) (x2 : Int32) (M : MM), K5 x1 x2 M → A0_leastBeyond G Q 5 [(0, .ref (gA G b)), (1, .int x1), (2, .int x2)] [] M) : ∀ (x2 : Int32) (M : MM), D0_leastBeyond_c36 b K5 Q x2 M → A0_leastBeyond G Q 36 [(0, .ref (gA G b)), (2, .int x2)] [] M := by
  intro x2 M h
  unfold D0_leastBeyond_c36 at h
  refine a_iload_n dX0_leastBeyond_36 1 rfl ?_
  refine a_istore_n (i := 1) (L' := [(1, .int _), (0, .ref _), (2, .int _)]) dX0_leastBeyond_37 rfl (by decide) rfl ?_
  refine a_sub [1, 0, 2] rfl ?_
  exact s0_leastBeyond_c38 hb hK5 _ _ _ h
set_option maxHeartbeats 4000000 in
set_option maxRecDepth 100000 in
theorem s0_leastBeyond_c5 {G : GG} {b : Nat} (hb : ob b 0) {Q : Int32 → MM → Prop} : ∀ (n : Nat) (x1 : Int32) (x2 : Int32) (M : MM), D0_leastBeyond_c5 b Q n x1 x2 M → A0_leastBeyond G Q 5 [(0, .ref (gA G b)), (1, .int x1), (2, .int x2)] [] M := by
  intro n
  induction n with
  | zero => intro x1 x2 M h; exact h.elim
  | succ n ih =>
    intro x1 x2 M h
    unfold D0_leastBeyond_c5 at h
    refine a_iload_n dX0_leastBeyond_5 2 rfl ?_
    refine a_bipush (v := 10) dX0_leastBeyond_6 (by decide) ?_
    refine a_icmp_ge (tgt := 44) dX0_leastBeyond_8 (by decide) (fun c => ?_) (fun c => ?_)
    · have h := h.1 c
      refine a_iload_n dX0_leastBeyond_44 1 rfl ?_
      exact a_iret dX0_leastBeyond_45 ⟨_, rfl, h⟩
    · have h := h.2 c
      refine a_aload_n dX0_leastBeyond_11 0 rfl ?_
      refine a_iload_n dX0_leastBeyond_12 2 rfl ?_
      refine a_callVi (n := 1) [.int _] (C := RX0) (ci := 0) (qc := (RX0, TX0, 9)) (fsF := fl0 G _) hb.1 (fun _ => en0 hb.2) rfl rfl dX0_leastBeyond_13 (s0_stands hb h) (gV tbc kM_RX0_60_X0_stands kI_X0_stands kS_X0_stands kN_RX0 kC_X0_stands) rfl (by decide +kernel) ⟨Nat.le_of_ble_eq_true rfl, Nat.le_of_ble_eq_true rfl⟩ rfl rfl (Nat.le_of_ble_eq_true rfl) ⟨Nat.le_refl 0, Nat.le_refl 0⟩ (fun r M h => ?_)
      refine a_if_eq (tgt := 38) dX0_leastBeyond_16 (by decide) (fun c => ?_) (fun c => ?_)
      · have h := h.1 c
        refine a_sub [0, 1, 2] rfl ?_
        exact s0_leastBeyond_c38 hb ih _ _ _ h
      · have h := h.2 c
        refine a_iload_n dX0_leastBeyond_19 1 rfl ?_
        refine a_if_lt (tgt := 36) dX0_leastBeyond_20 (by decide) (fun c => ?_) (fun c => ?_)
        · have h := h.1 c
          refine a_sub [0, 2] rfl ?_
          exact s0_leastBeyond_c36 hb ih _ _ h
        · have h := h.2 c
          refine a_aload_n dX0_leastBeyond_23 0 rfl ?_
          refine a_iload_n dX0_leastBeyond_24 2 rfl ?_
          refine a_callVi (n := 1) [.int _] (C := RX0) (ci := 0) (qc := (RX0, TX0, 9)) (fsF := fl0 G _) hb.1 (fun _ => en0 hb.2) rfl rfl dX0_leastBeyond_25 (s0_beyond hb h) (gV tbc kM_RX0_108_X0_beyond kI_X0_beyond kS_X0_beyond kN_RX0 kC_X0_beyond) rfl (by decide +kernel) ⟨Nat.le_of_ble_eq_true rfl, Nat.le_of_ble_eq_true rfl⟩ rfl rfl (Nat.le_of_ble_eq_true rfl) ⟨Nat.le_refl 0, Nat.le_refl 0⟩ (fun r M h => ?_)
          refine a_aload_n dX0_leastBeyond_28 0 rfl ?_
          refine a_iload_n dX0_leastBeyond_29 1 rfl ?_
          refine a_callVi (n := 1) [.int _] (C := RX0) (ci := 0) (qc := (RX0, TX0, 9)) (fsF := fl0 G _) hb.1 (fun _ => en0 hb.2) rfl rfl dX0_leastBeyond_30 (s0_beyond hb h) (gV tbc kM_RX0_108_X0_beyond kI_X0_beyond kS_X0_beyond kN_RX0 kC_X0_beyond) rfl (by decide +kernel) ⟨Nat.le_of_ble_eq_true rfl, Nat.le_of_ble_eq_true rfl⟩ rfl rfl (Nat.le_of_ble_eq_true rfl) ⟨Nat.le_refl 0, Nat.le_refl 0⟩ (fun r M h => ?_)
          refine a_icmp_ge (tgt := 38) dX0_leastBeyond_33 (by decide) (fun c => ?_) (fun c => ?_)
          · have h := h.1 c
            refine a_sub [0, 1, 2] rfl ?_
            exact s0_leastBeyond_c38 hb ih _ _ _ h
          · have h := h.2 c
            refine a_sub [0, 2] rfl ?_
            exact s0_leastBeyond_c36 hb ih _ _ h
set_option maxHeartbeats 4000000 in
set_option maxRecDepth 100000 in
theorem s0_leastBeyond {G : GG} {b : Nat} (hb : ob b 0) {M : MM} {Q : Int32 → MM → Prop} (h : D0_leastBeyond b M Q) : CM G yX0_leastBeyond (WY yX0_leastBeyond cX0_leastBeyond 3 (some .int)) 4 84 [.ref (gA G b)] M (qI Q) := by
  refine CM.of (cc := cX0_leastBeyond) (nL := 3) (ret := (some .int)) (own := RX0) (by decide +kernel) rfl rfl (Nat.le_of_ble_eq_true rfl) ?_
  show A0_leastBeyond G Q 0 [(0, .ref (gA G b))] [] M
  unfold D0_leastBeyond at h
  refine a_bipush (v := -9) dX0_leastBeyond_0 (by decide) ?_
  refine a_istore_n (i := 1) (L' := [(1, .int _), (0, .ref _)]) dX0_leastBeyond_2 rfl (by decide) rfl ?_
  refine a_iconst (v := 0) dX0_leastBeyond_3 (by decide) ?_
  refine a_istore_n (i := 2) (L' := [(2, .int _), (1, .int _), (0, .ref _)]) dX0_leastBeyond_4 rfl (by decide) rfl ?_
  refine a_sub [2, 1, 0] rfl ?_
  exact s0_leastBeyond_c5 hb _ _ _ _ h

/-! X0_loses -/
theorem dX0_loses_0 : decode cX0_loses 0 = .ok (.aload_n 0, 1) := by decide +kernel
theorem dX0_loses_1 : decode cX0_loses 1 = .ok (.iload_n 1, 1) := by decide +kernel
theorem dX0_loses_2 : decode cX0_loses 2 = .ok (.invokevirtual 40, 3) := by decide +kernel
theorem dX0_loses_5 : decode cX0_loses 5 = .ok (.ifCond .eq 17, 3) := by decide +kernel
theorem dX0_loses_8 : decode cX0_loses 8 = .ok (.aload_n 0, 1) := by decide +kernel
theorem dX0_loses_9 : decode cX0_loses 9 = .ok (.dup, 1) := by decide +kernel
theorem dX0_loses_10 : decode cX0_loses 10 = .ok (.getfield 28, 3) := by decide +kernel
theorem dX0_loses_13 : decode cX0_loses 13 = .ok (.iconst 1, 1) := by decide +kernel
theorem dX0_loses_14 : decode cX0_loses 14 = .ok (.iload_n 1, 1) := by decide +kernel
theorem dX0_loses_15 : decode cX0_loses 15 = .ok (.ishl, 1) := by decide +kernel
theorem dX0_loses_16 : decode cX0_loses 16 = .ok (.iconst (-1), 1) := by decide +kernel
theorem dX0_loses_17 : decode cX0_loses 17 = .ok (.ixor, 1) := by decide +kernel
theorem dX0_loses_18 : decode cX0_loses 18 = .ok (.iand, 1) := by decide +kernel
theorem dX0_loses_19 : decode cX0_loses 19 = .ok (.putfield 28, 3) := by decide +kernel
theorem dX0_loses_22 : decode cX0_loses 22 = .ok (.return_, 1) := by decide +kernel
abbrev A0_loses (G : GG) (Q : MM → Prop) := AW G E0 (MZ G (qV Q)) (WY yX0_loses cX0_loses 2 none) RX0 cX0_loses 2 none ({ frames := 1, cells := 0, slots := 0, locals := 21 } : Room) 0 0
def D0_loses (b : Nat) (x1 : Int32) (M : MM) (Q : MM → Prop) : Prop := D0_knows b x1 M (fun (r1 : Int32) (M2 : MM) => ((r1 = 0 → Q M2) ∧ (¬ r1 = 0 → (fun M3 : MM => Q M3) (up M2 b 5 ((M2 b 5) &&& (((1 : Int32) <<< (x1 &&& 31)) ^^^ (-1 : Int32)))))))
set_option maxHeartbeats 4000000 in
set_option maxRecDepth 100000 in
theorem s0_loses {G : GG} {b : Nat} (hb : ob b 0) {x1 : Int32} {M : MM} {Q : MM → Prop} (h : D0_loses b x1 M Q) : CM G yX0_loses (WY yX0_loses cX0_loses 2 none) 1 21 [.ref (gA G b), .int x1] M (qV Q) := by
  refine CM.of (cc := cX0_loses) (nL := 2) (ret := none) (own := RX0) (by decide +kernel) rfl rfl (Nat.le_of_ble_eq_true rfl) ?_
  show A0_loses G Q 0 [(0, .ref (gA G b)), (1, .int x1)] [] M
  unfold D0_loses at h
  refine a_aload_n dX0_loses_0 0 rfl ?_
  refine a_iload_n dX0_loses_1 1 rfl ?_
  refine a_callVi (n := 1) [.int _] (C := RX0) (ci := 0) (qc := (RX0, TX0, 9)) (fsF := fl0 G _) hb.1 (fun _ => en0 hb.2) rfl rfl dX0_loses_2 (s0_knows hb h) (gV tbc kM_RX0_40_X0_knows kI_X0_knows kS_X0_knows kN_RX0 kC_X0_knows) rfl (by decide +kernel) ⟨Nat.le_of_ble_eq_true rfl, Nat.le_of_ble_eq_true rfl⟩ rfl rfl (Nat.le_of_ble_eq_true rfl) ⟨Nat.le_refl 0, Nat.le_refl 0⟩ (fun r M h => ?_)
  refine a_if_eq (tgt := 22) dX0_loses_5 (by decide) (fun c => ?_) (fun c => ?_)
  · have h := h.1 c
    exact a_vret dX0_loses_22 ⟨rfl, h⟩
  · have h := h.2 c
    refine a_aload_n dX0_loses_8 0 rfl ?_
    refine a_dup dX0_loses_9 rfl ?_
    refine a_get0 dX0_loses_10 5 (by decide) (tbc _ kF_RX0_28) (fun w h => tbc _ (uW0 w h)) rfl hb rfl ?_
    refine a_iconst (v := 1) dX0_loses_13 (by decide) ?_
    refine a_iload_n dX0_loses_14 1 rfl ?_
    refine a_ishl dX0_loses_15 ?_
    refine a_iconst (v := -1) dX0_loses_16 (by decide) ?_
    refine a_ixor dX0_loses_17 ?_
    refine a_iand dX0_loses_18 ?_
    refine a_put0 dX0_loses_19 5 (by decide) (tbc _ kF_RX0_28) (fun w h => tbc _ (uW0 w h)) rfl rfl rfl rfl hb fs0_5 ?_
    exact a_vret dX0_loses_22 ⟨rfl, h⟩

/-! X0_pairsBeside -/
theorem dX0_pairsBeside_0 : decode cX0_pairsBeside 0 = .ok (.iconst 0, 1) := by decide +kernel
theorem dX0_pairsBeside_1 : decode cX0_pairsBeside 1 = .ok (.istore_n 1, 1) := by decide +kernel
theorem dX0_pairsBeside_2 : decode cX0_pairsBeside 2 = .ok (.iconst 0, 1) := by decide +kernel
theorem dX0_pairsBeside_3 : decode cX0_pairsBeside 3 = .ok (.istore_n 2, 1) := by decide +kernel
theorem dX0_pairsBeside_4 : decode cX0_pairsBeside 4 = .ok (.iload_n 2, 1) := by decide +kernel
theorem dX0_pairsBeside_5 : decode cX0_pairsBeside 5 = .ok (.bipush 10, 2) := by decide +kernel
theorem dX0_pairsBeside_7 : decode cX0_pairsBeside 7 = .ok (.if_icmp .ge 63, 3) := by decide +kernel
theorem dX0_pairsBeside_10 : decode cX0_pairsBeside 10 = .ok (.iload_n 2, 1) := by decide +kernel
theorem dX0_pairsBeside_11 : decode cX0_pairsBeside 11 = .ok (.iconst 1, 1) := by decide +kernel
theorem dX0_pairsBeside_12 : decode cX0_pairsBeside 12 = .ok (.iadd, 1) := by decide +kernel
theorem dX0_pairsBeside_13 : decode cX0_pairsBeside 13 = .ok (.istore_n 3, 1) := by decide +kernel
theorem dX0_pairsBeside_14 : decode cX0_pairsBeside 14 = .ok (.iload_n 3, 1) := by decide +kernel
theorem dX0_pairsBeside_15 : decode cX0_pairsBeside 15 = .ok (.bipush 10, 2) := by decide +kernel
theorem dX0_pairsBeside_17 : decode cX0_pairsBeside 17 = .ok (.if_icmp .ge 47, 3) := by decide +kernel
theorem dX0_pairsBeside_20 : decode cX0_pairsBeside 20 = .ok (.aload_n 0, 1) := by decide +kernel
theorem dX0_pairsBeside_21 : decode cX0_pairsBeside 21 = .ok (.iload_n 2, 1) := by decide +kernel
theorem dX0_pairsBeside_22 : decode cX0_pairsBeside 22 = .ok (.invokevirtual 60, 3) := by decide +kernel
theorem dX0_pairsBeside_25 : decode cX0_pairsBeside 25 = .ok (.ifCond .eq 33, 3) := by decide +kernel
theorem dX0_pairsBeside_28 : decode cX0_pairsBeside 28 = .ok (.aload_n 0, 1) := by decide +kernel
theorem dX0_pairsBeside_29 : decode cX0_pairsBeside 29 = .ok (.iload_n 3, 1) := by decide +kernel
theorem dX0_pairsBeside_30 : decode cX0_pairsBeside 30 = .ok (.invokevirtual 60, 3) := by decide +kernel
theorem dX0_pairsBeside_33 : decode cX0_pairsBeside 33 = .ok (.ifCond .eq 25, 3) := by decide +kernel
theorem dX0_pairsBeside_36 : decode cX0_pairsBeside 36 = .ok (.aload_n 0, 1) := by decide +kernel
theorem dX0_pairsBeside_37 : decode cX0_pairsBeside 37 = .ok (.getfield 18, 3) := by decide +kernel
theorem dX0_pairsBeside_40 : decode cX0_pairsBeside 40 = .ok (.iload_n 2, 1) := by decide +kernel
theorem dX0_pairsBeside_41 : decode cX0_pairsBeside 41 = .ok (.iaload, 1) := by decide +kernel
theorem dX0_pairsBeside_42 : decode cX0_pairsBeside 42 = .ok (.aload_n 0, 1) := by decide +kernel
theorem dX0_pairsBeside_43 : decode cX0_pairsBeside 43 = .ok (.getfield 18, 3) := by decide +kernel
theorem dX0_pairsBeside_46 : decode cX0_pairsBeside 46 = .ok (.iload_n 3, 1) := by decide +kernel
theorem dX0_pairsBeside_47 : decode cX0_pairsBeside 47 = .ok (.iaload, 1) := by decide +kernel
theorem dX0_pairsBeside_48 : decode cX0_pairsBeside 48 = .ok (.invokestatic 124, 3) := by decide +kernel
theorem dX0_pairsBeside_51 : decode cX0_pairsBeside 51 = .ok (.iconst 1, 1) := by decide +kernel
theorem dX0_pairsBeside_52 : decode cX0_pairsBeside 52 = .ok (.if_icmp .ne 6, 3) := by decide +kernel
theorem dX0_pairsBeside_55 : decode cX0_pairsBeside 55 = .ok (.iinc 1 1, 3) := by decide +kernel
theorem dX0_pairsBeside_58 : decode cX0_pairsBeside 58 = .ok (.iinc 3 1, 3) := by decide +kernel
theorem dX0_pairsBeside_61 : decode cX0_pairsBeside 61 = .ok (.goto (-47), 3) := by decide +kernel
theorem dX0_pairsBeside_64 : decode cX0_pairsBeside 64 = .ok (.iinc 2 1, 3) := by decide +kernel
theorem dX0_pairsBeside_67 : decode cX0_pairsBeside 67 = .ok (.goto (-63), 3) := by decide +kernel
theorem dX0_pairsBeside_70 : decode cX0_pairsBeside 70 = .ok (.iload_n 1, 1) := by decide +kernel
theorem dX0_pairsBeside_71 : decode cX0_pairsBeside 71 = .ok (.ireturn, 1) := by decide +kernel
abbrev A0_pairsBeside (G : GG) (Q : Int32 → MM → Prop) := AW G E0 (MZ G (qI Q)) (WY yX0_pairsBeside cX0_pairsBeside 4 (some .int)) RX0 cX0_pairsBeside 4 (some .int) ({ frames := 2, cells := 0, slots := 0, locals := 42 } : Room) 0 0
def D0_pairsBeside_c58 (b : Nat) (K14 : Int32 → Int32 → Int32 → MM → Prop) (K4 : Int32 → Int32 → MM → Prop) (Q : Int32 → MM → Prop) (x1 : Int32) (x2 : Int32) (x3 : Int32) (M : MM) : Prop := (fun v10 : Int32 => K14 x1 x2 v10 M) (x3 + (1 : Int32))
def D0_pairsBeside_c64 (b : Nat) (K4 : Int32 → Int32 → MM → Prop) (Q : Int32 → MM → Prop) (x1 : Int32) (x2 : Int32) (M : MM) : Prop := (fun v9 : Int32 => K4 x1 v9 M) (x2 + (1 : Int32))
def D0_pairsBeside_c14 (b : Nat) (K4 : Int32 → Int32 → MM → Prop) (Q : Int32 → MM → Prop) : Nat → Int32 → Int32 → Int32 → MM → Prop
  | 0, _, _, _, _ => False
  | n + 1, x1, x2, x3, M => (((10 : Int32) ≤ x3 → D0_pairsBeside_c64 b K4 Q x1 x2 M) ∧ (¬ (10 : Int32) ≤ x3 → D0_stands b x2 M (fun (r2 : Int32) (M3 : MM) => ((r2 = 0 → D0_pairsBeside_c58 b (D0_pairsBeside_c14 b K4 Q n) K4 Q x1 x2 x3 M3) ∧ (¬ r2 = 0 → D0_stands b x3 M3 (fun (r4 : Int32) (M5 : MM) => ((r4 = 0 → D0_pairsBeside_c58 b (D0_pairsBeside_c14 b K4 Q n) K4 Q x1 x2 x3 M5) ∧ (¬ r4 = 0 → ib (b + 3) x2 ∧ ib (b + 3) x3 ∧ D3_steps (M5 (b + 3) (ix x2)) (M5 (b + 3) (ix x3)) M5 (fun (r6 : Int32) (M7 : MM) => ((r6 ≠ (1 : Int32) → D0_pairsBeside_c58 b (D0_pairsBeside_c14 b K4 Q n) K4 Q x1 x2 x3 M7) ∧ (r6 = (1 : Int32) → (fun v8 : Int32 => D0_pairsBeside_c58 b (D0_pairsBeside_c14 b K4 Q n) K4 Q v8 x2 x3 M7) (x1 + (1 : Int32)))))))))))))
def D0_pairsBeside_c4 (b : Nat) (Q : Int32 → MM → Prop) : Nat → Int32 → Int32 → MM → Prop
  | 0, _, _, _ => False
  | n + 1, x1, x2, M => (((10 : Int32) ≤ x2 → Q x1 M) ∧ (¬ (10 : Int32) ≤ x2 → (fun v1 : Int32 => D0_pairsBeside_c14 b (D0_pairsBeside_c4 b Q n) Q FU x1 x2 v1 M) (x2 + (1 : Int32))))
def D0_pairsBeside (b : Nat) (M : MM) (Q : Int32 → MM → Prop) : Prop := D0_pairsBeside_c4 b Q FU (0 : Int32) (0 : Int32) M
set_option maxHeartbeats 4000000 in
set_option maxRecDepth 100000 in
theorem s0_pairsBeside_c58 {G : GG} {b : Nat} (hb : ob b 0) {K14 : Int32 → Int32 → Int32 → MM → Prop} {K4 : Int32 → Int32 → MM → Prop} {Q : Int32 → MM → Prop} (hK14 : ∀ (x1 : Int32) (x2 : Int32) (x3 : Int32) (M : MM), K14 x1 x2 x3 M → A0_pairsBeside G Q 14 [(0, .ref (gA G b)), (1, .int x1), (2, .int x2), (3, .int x3)] [] M) (hK4 : ∀ (x1 : Int32) (x2 : Int32) (M : MM), K4 x1 x2 M → A0_pairsBeside G Q 4 [(0, .ref (gA G b)), (1, .int x1), (2, .int x2)] [] M) : ∀ (x1 : Int32) (x2 : Int32) (x3 : Int32) (M : MM), D0_pairsBeside_c58 b K14 K4 Q x1 x2 x3 M → A0_pairsBeside G Q 58 [(0, .ref (gA G b)), (1, .int x1), (2, .int x2), (3, .int x3)] [] M := by
  intro x1 x2 x3 M h
  unfold D0_pairsBeside_c58 at h
  refine a_iinc (L' := [(3, .int _), (0, .ref _), (1, .int _), (2, .int _)]) dX0_pairsBeside_58 3 rfl (show _ + Int32.ofInt (1 : Int) = _ + (1 : Int32) from rfl) (by decide) rfl ?_
  refine a_goto (tgt := 14) dX0_pairsBeside_61 (by decide) ?_
  refine a_sub [1, 2, 3, 0] rfl ?_
  exact hK14 _ _ _ _ h
set_option maxHeartbeats 4000000 in
set_option maxRecDepth 100000 in
theorem s0_pairsBeside_c64 {G : GG} {b : Nat} (hb : ob b 0) {K4 : Int32 → Int32 → MM → Prop} {Q : Int32 → MM → Prop} (hK4 : ∀ (x1 : Int32) (x2 : Int32) (M : MM), K4 x1 x2 M → A0_pairsBeside G Q 4 [(0, .ref (gA G b)), (1, .int x1), (2, .int x2)] [] M) : ∀ (x1 : Int32) (x2 : Int32) (M : MM), D0_pairsBeside_c64 b K4 Q x1 x2 M → A0_pairsBeside G Q 64 [(0, .ref (gA G b)), (1, .int x1), (2, .int x2)] [] M := by
  intro x1 x2 M h
  unfold D0_pairsBeside_c64 at h
  refine a_iinc (L' := [(2, .int _), (0, .ref _), (1, .int _)]) dX0_pairsBeside_64 2 rfl (show _ + Int32.ofInt (1 : Int) = _ + (1 : Int32) from rfl) (by decide) rfl ?_
  refine a_goto (tgt := 4) dX0_pairsBeside_67 (by decide) ?_
  refine a_sub [1, 2, 0] rfl ?_
  exact hK4 _ _ _ h
set_option maxHeartbeats 4000000 in
set_option maxRecDepth 100000 in
theorem s0_pairsBeside_c14 {G : GG} {b : Nat} (hb : ob b 0) {K4 : Int32 → Int32 → MM → Prop} {Q : Int32 → MM → Prop} (hK4 : ∀ (x1 : Int32) (x2 : Int32) (M : MM), K4 x1 x2 M → A0_pairsBeside G Q 4 [(0, .ref (gA G b)), (1, .int x1), (2, .int x2)] [] M) : ∀ (n : Nat) (x1 : Int32) (x2 : Int32) (x3 : Int32) (M : MM), D0_pairsBeside_c14 b K4 Q n x1 x2 x3 M → A0_pairsBeside G Q 14 [(0, .ref (gA G b)), (1, .int x1), (2, .int x2), (3, .int x3)] [] M := by
  intro n
  induction n with
  | zero => intro x1 x2 x3 M h; exact h.elim
  | succ n ih =>
    intro x1 x2 x3 M h
    unfold D0_pairsBeside_c14 at h
    refine a_iload_n dX0_pairsBeside_14 3 rfl ?_
    refine a_bipush (v := 10) dX0_pairsBeside_15 (by decide) ?_
    refine a_icmp_ge (tgt := 64) dX0_pairsBeside_17 (by decide) (fun c => ?_) (fun c => ?_)
    · have h := h.1 c
      refine a_sub [0, 1, 2] rfl ?_
      exact s0_pairsBeside_c64 hb hK4 _ _ _ h
    · have h := h.2 c
      refine a_aload_n dX0_pairsBeside_20 0 rfl ?_
      refine a_iload_n dX0_pairsBeside_21 2 rfl ?_
      refine a_callVi (n := 1) [.int _] (C := RX0) (ci := 0) (qc := (RX0, TX0, 9)) (fsF := fl0 G _) hb.1 (fun _ => en0 hb.2) rfl rfl dX0_pairsBeside_22 (s0_stands hb h) (gV tbc kM_RX0_60_X0_stands kI_X0_stands kS_X0_stands kN_RX0 kC_X0_stands) rfl (by decide +kernel) ⟨Nat.le_of_ble_eq_true rfl, Nat.le_of_ble_eq_true rfl⟩ rfl rfl (Nat.le_of_ble_eq_true rfl) ⟨Nat.le_refl 0, Nat.le_refl 0⟩ (fun r M h => ?_)
      refine a_if_eq (tgt := 58) dX0_pairsBeside_25 (by decide) (fun c => ?_) (fun c => ?_)
      · have h := h.1 c
        refine a_sub [0, 1, 2, 3] rfl ?_
        exact s0_pairsBeside_c58 hb ih hK4 _ _ _ _ h
      · have h := h.2 c
        refine a_aload_n dX0_pairsBeside_28 0 rfl ?_
        refine a_iload_n dX0_pairsBeside_29 3 rfl ?_
        refine a_callVi (n := 1) [.int _] (C := RX0) (ci := 0) (qc := (RX0, TX0, 9)) (fsF := fl0 G _) hb.1 (fun _ => en0 hb.2) rfl rfl dX0_pairsBeside_30 (s0_stands hb h) (gV tbc kM_RX0_60_X0_stands kI_X0_stands kS_X0_stands kN_RX0 kC_X0_stands) rfl (by decide +kernel) ⟨Nat.le_of_ble_eq_true rfl, Nat.le_of_ble_eq_true rfl⟩ rfl rfl (Nat.le_of_ble_eq_true rfl) ⟨Nat.le_refl 0, Nat.le_refl 0⟩ (fun r M h => ?_)
        refine a_if_eq (tgt := 58) dX0_pairsBeside_33 (by decide) (fun c => ?_) (fun c => ?_)
        · have h := h.1 c
          refine a_sub [0, 1, 2, 3] rfl ?_
          exact s0_pairsBeside_c58 hb ih hK4 _ _ _ _ h
        · have h := h.2 c
          refine a_aload_n dX0_pairsBeside_36 0 rfl ?_
          refine a_get0 dX0_pairsBeside_37 2 (by decide) (tbc _ kF_RX0_18) (fun w h => tbc _ (uW0 w h)) rfl hb rfl ?_
          refine a_iload_n dX0_pairsBeside_40 2 rfl ?_
          refine a_iald dX0_pairsBeside_41 h.1 ?_
          have h := h.2
          refine a_aload_n dX0_pairsBeside_42 0 rfl ?_
          refine a_get0 dX0_pairsBeside_43 2 (by decide) (tbc _ kF_RX0_18) (fun w h => tbc _ (uW0 w h)) rfl hb rfl ?_
          refine a_iload_n dX0_pairsBeside_46 3 rfl ?_
          refine a_iald dX0_pairsBeside_47 h.1 ?_
          have h := h.2
          refine a_callSi (n := 2) [.int _, .int _] dX0_pairsBeside_48 (s3_steps h) (gS tbc kM_RX0_124_X3_steps kT_X3_steps kN_RX3 kC_X3_steps) rfl (by decide +kernel) ⟨Nat.le_of_ble_eq_true rfl, Nat.le_of_ble_eq_true rfl⟩ rfl rfl (Nat.le_of_ble_eq_true rfl) ⟨Nat.le_refl 0, Nat.le_refl 0⟩ (fun r M h => ?_)
          refine a_iconst (v := 1) dX0_pairsBeside_51 (by decide) ?_
          refine a_icmp_ne (tgt := 58) dX0_pairsBeside_52 (by decide) (fun c => ?_) (fun c => ?_)
          · have h := h.1 c
            refine a_sub [0, 1, 2, 3] rfl ?_
            exact s0_pairsBeside_c58 hb ih hK4 _ _ _ _ h
          · have h := h.2 c
            refine a_iinc (L' := [(1, .int _), (0, .ref _), (2, .int _), (3, .int _)]) dX0_pairsBeside_55 1 rfl (show _ + Int32.ofInt (1 : Int) = _ + (1 : Int32) from rfl) (by decide) rfl ?_
            refine a_sub [1, 0, 2, 3] rfl ?_
            exact s0_pairsBeside_c58 hb ih hK4 _ _ _ _ h
set_option maxHeartbeats 4000000 in
set_option maxRecDepth 100000 in
theorem s0_pairsBeside_c4 {G : GG} {b : Nat} (hb : ob b 0) {Q : Int32 → MM → Prop} : ∀ (n : Nat) (x1 : Int32) (x2 : Int32) (M : MM), D0_pairsBeside_c4 b Q n x1 x2 M → A0_pairsBeside G Q 4 [(0, .ref (gA G b)), (1, .int x1), (2, .int x2)] [] M := by
  intro n
  induction n with
  | zero => intro x1 x2 M h; exact h.elim
  | succ n ih =>
    intro x1 x2 M h
    unfold D0_pairsBeside_c4 at h
    refine a_iload_n dX0_pairsBeside_4 2 rfl ?_
    refine a_bipush (v := 10) dX0_pairsBeside_5 (by decide) ?_
    refine a_icmp_ge (tgt := 70) dX0_pairsBeside_7 (by decide) (fun c => ?_) (fun c => ?_)
    · have h := h.1 c
      refine a_iload_n dX0_pairsBeside_70 1 rfl ?_
      exact a_iret dX0_pairsBeside_71 ⟨_, rfl, h⟩
    · have h := h.2 c
      refine a_iload_n dX0_pairsBeside_10 2 rfl ?_
      refine a_iconst (v := 1) dX0_pairsBeside_11 (by decide) ?_
      refine a_iadd dX0_pairsBeside_12 ?_
      refine a_istore_n (i := 3) (L' := [(3, .int _), (0, .ref _), (1, .int _), (2, .int _)]) dX0_pairsBeside_13 rfl (by decide) rfl ?_
      refine a_sub [1, 2, 3, 0] rfl ?_
      exact s0_pairsBeside_c14 hb ih _ _ _ _ _ h
set_option maxHeartbeats 4000000 in
set_option maxRecDepth 100000 in
theorem s0_pairsBeside {G : GG} {b : Nat} (hb : ob b 0) {M : MM} {Q : Int32 → MM → Prop} (h : D0_pairsBeside b M Q) : CM G yX0_pairsBeside (WY yX0_pairsBeside cX0_pairsBeside 4 (some .int)) 2 42 [.ref (gA G b)] M (qI Q) := by
  refine CM.of (cc := cX0_pairsBeside) (nL := 4) (ret := (some .int)) (own := RX0) (by decide +kernel) rfl rfl (Nat.le_of_ble_eq_true rfl) ?_
  show A0_pairsBeside G Q 0 [(0, .ref (gA G b))] [] M
  unfold D0_pairsBeside at h
  refine a_iconst (v := 0) dX0_pairsBeside_0 (by decide) ?_
  refine a_istore_n (i := 1) (L' := [(1, .int _), (0, .ref _)]) dX0_pairsBeside_1 rfl (by decide) rfl ?_
  refine a_iconst (v := 0) dX0_pairsBeside_2 (by decide) ?_
  refine a_istore_n (i := 2) (L' := [(2, .int _), (1, .int _), (0, .ref _)]) dX0_pairsBeside_3 rfl (by decide) rfl ?_
  refine a_sub [2, 1, 0] rfl ?_
  exact s0_pairsBeside_c4 hb _ _ _ _ h

/-! X0_rates -/
theorem dX0_rates_0 : decode cX0_rates 0 = .ok (.iconst 0, 1) := by decide +kernel
theorem dX0_rates_1 : decode cX0_rates 1 = .ok (.istore_n 1, 1) := by decide +kernel
theorem dX0_rates_2 : decode cX0_rates 2 = .ok (.iconst 0, 1) := by decide +kernel
theorem dX0_rates_3 : decode cX0_rates 3 = .ok (.istore_n 2, 1) := by decide +kernel
theorem dX0_rates_4 : decode cX0_rates 4 = .ok (.iload_n 2, 1) := by decide +kernel
theorem dX0_rates_5 : decode cX0_rates 5 = .ok (.bipush 10, 2) := by decide +kernel
theorem dX0_rates_7 : decode cX0_rates 7 = .ok (.if_icmp .ge 25, 3) := by decide +kernel
theorem dX0_rates_10 : decode cX0_rates 10 = .ok (.aload_n 0, 1) := by decide +kernel
theorem dX0_rates_11 : decode cX0_rates 11 = .ok (.iload_n 2, 1) := by decide +kernel
theorem dX0_rates_12 : decode cX0_rates 12 = .ok (.invokevirtual 60, 3) := by decide +kernel
theorem dX0_rates_15 : decode cX0_rates 15 = .ok (.ifCond .eq 11, 3) := by decide +kernel
theorem dX0_rates_18 : decode cX0_rates 18 = .ok (.iload_n 1, 1) := by decide +kernel
theorem dX0_rates_19 : decode cX0_rates 19 = .ok (.aload_n 0, 1) := by decide +kernel
theorem dX0_rates_20 : decode cX0_rates 20 = .ok (.iload_n 2, 1) := by decide +kernel
theorem dX0_rates_21 : decode cX0_rates 21 = .ok (.invokevirtual 105, 3) := by decide +kernel
theorem dX0_rates_24 : decode cX0_rates 24 = .ok (.iadd, 1) := by decide +kernel
theorem dX0_rates_25 : decode cX0_rates 25 = .ok (.istore_n 1, 1) := by decide +kernel
theorem dX0_rates_26 : decode cX0_rates 26 = .ok (.iinc 2 1, 3) := by decide +kernel
theorem dX0_rates_29 : decode cX0_rates 29 = .ok (.goto (-25), 3) := by decide +kernel
theorem dX0_rates_32 : decode cX0_rates 32 = .ok (.iload_n 1, 1) := by decide +kernel
theorem dX0_rates_33 : decode cX0_rates 33 = .ok (.ireturn, 1) := by decide +kernel
abbrev A0_rates (G : GG) (Q : Int32 → MM → Prop) := AW G E0 (MZ G (qI Q)) (WY yX0_rates cX0_rates 3 (some .int)) RX0 cX0_rates 3 (some .int) ({ frames := 3, cells := 0, slots := 0, locals := 63 } : Room) 0 0
def D0_rates_c26 (b : Nat) (K4 : Int32 → Int32 → MM → Prop) (Q : Int32 → MM → Prop) (x1 : Int32) (x2 : Int32) (M : MM) : Prop := (fun v6 : Int32 => K4 x1 v6 M) (x2 + (1 : Int32))
def D0_rates_c4 (b : Nat) (Q : Int32 → MM → Prop) : Nat → Int32 → Int32 → MM → Prop
  | 0, _, _, _ => False
  | n + 1, x1, x2, M => (((10 : Int32) ≤ x2 → Q x1 M) ∧ (¬ (10 : Int32) ≤ x2 → D0_stands b x2 M (fun (r1 : Int32) (M2 : MM) => ((r1 = 0 → D0_rates_c26 b (D0_rates_c4 b Q n) Q x1 x2 M2) ∧ (¬ r1 = 0 → D0_rateOf b x2 M2 (fun (r3 : Int32) (M4 : MM) => (fun v5 : Int32 => D0_rates_c26 b (D0_rates_c4 b Q n) Q v5 x2 M4) (x1 + r3)))))))
def D0_rates (b : Nat) (M : MM) (Q : Int32 → MM → Prop) : Prop := D0_rates_c4 b Q FU (0 : Int32) (0 : Int32) M
set_option maxHeartbeats 4000000 in
set_option maxRecDepth 100000 in
theorem s0_rates_c26 {G : GG} {b : Nat} (hb : ob b 0) {K4 : Int32 → Int32 → MM → Prop} {Q : Int32 → MM → Prop} (hK4 : ∀ (x1 : Int32) (x2 : Int32) (M : MM), K4 x1 x2 M → A0_rates G Q 4 [(0, .ref (gA G b)), (1, .int x1), (2, .int x2)] [] M) : ∀ (x1 : Int32) (x2 : Int32) (M : MM), D0_rates_c26 b K4 Q x1 x2 M → A0_rates G Q 26 [(0, .ref (gA G b)), (1, .int x1), (2, .int x2)] [] M := by
  intro x1 x2 M h
  unfold D0_rates_c26 at h
  refine a_iinc (L' := [(2, .int _), (0, .ref _), (1, .int _)]) dX0_rates_26 2 rfl (show _ + Int32.ofInt (1 : Int) = _ + (1 : Int32) from rfl) (by decide) rfl ?_
  refine a_goto (tgt := 4) dX0_rates_29 (by decide) ?_
  refine a_sub [1, 2, 0] rfl ?_
  exact hK4 _ _ _ h
set_option maxHeartbeats 4000000 in
set_option maxRecDepth 100000 in
theorem s0_rates_c4 {G : GG} {b : Nat} (hb : ob b 0) {Q : Int32 → MM → Prop} : ∀ (n : Nat) (x1 : Int32) (x2 : Int32) (M : MM), D0_rates_c4 b Q n x1 x2 M → A0_rates G Q 4 [(0, .ref (gA G b)), (1, .int x1), (2, .int x2)] [] M := by
  intro n
  induction n with
  | zero => intro x1 x2 M h; exact h.elim
  | succ n ih =>
    intro x1 x2 M h
    unfold D0_rates_c4 at h
    refine a_iload_n dX0_rates_4 2 rfl ?_
    refine a_bipush (v := 10) dX0_rates_5 (by decide) ?_
    refine a_icmp_ge (tgt := 32) dX0_rates_7 (by decide) (fun c => ?_) (fun c => ?_)
    · have h := h.1 c
      refine a_iload_n dX0_rates_32 1 rfl ?_
      exact a_iret dX0_rates_33 ⟨_, rfl, h⟩
    · have h := h.2 c
      refine a_aload_n dX0_rates_10 0 rfl ?_
      refine a_iload_n dX0_rates_11 2 rfl ?_
      refine a_callVi (n := 1) [.int _] (C := RX0) (ci := 0) (qc := (RX0, TX0, 9)) (fsF := fl0 G _) hb.1 (fun _ => en0 hb.2) rfl rfl dX0_rates_12 (s0_stands hb h) (gV tbc kM_RX0_60_X0_stands kI_X0_stands kS_X0_stands kN_RX0 kC_X0_stands) rfl (by decide +kernel) ⟨Nat.le_of_ble_eq_true rfl, Nat.le_of_ble_eq_true rfl⟩ rfl rfl (Nat.le_of_ble_eq_true rfl) ⟨Nat.le_refl 0, Nat.le_refl 0⟩ (fun r M h => ?_)
      refine a_if_eq (tgt := 26) dX0_rates_15 (by decide) (fun c => ?_) (fun c => ?_)
      · have h := h.1 c
        refine a_sub [0, 1, 2] rfl ?_
        exact s0_rates_c26 hb ih _ _ _ h
      · have h := h.2 c
        refine a_iload_n dX0_rates_18 1 rfl ?_
        refine a_aload_n dX0_rates_19 0 rfl ?_
        refine a_iload_n dX0_rates_20 2 rfl ?_
        refine a_callVi (n := 1) [.int _] (C := RX0) (ci := 0) (qc := (RX0, TX0, 9)) (fsF := fl0 G _) hb.1 (fun _ => en0 hb.2) rfl rfl dX0_rates_21 (s0_rateOf hb h) (gV tbc kM_RX0_105_X0_rateOf kI_X0_rateOf kS_X0_rateOf kN_RX0 kC_X0_rateOf) rfl (by decide +kernel) ⟨Nat.le_of_ble_eq_true rfl, Nat.le_of_ble_eq_true rfl⟩ rfl rfl (Nat.le_of_ble_eq_true rfl) ⟨Nat.le_refl 0, Nat.le_refl 0⟩ (fun r M h => ?_)
        refine a_iadd dX0_rates_24 ?_
        refine a_istore_n (i := 1) (L' := [(1, .int _), (0, .ref _), (2, .int _)]) dX0_rates_25 rfl (by decide) rfl ?_
        refine a_sub [1, 0, 2] rfl ?_
        exact s0_rates_c26 hb ih _ _ _ h
set_option maxHeartbeats 4000000 in
set_option maxRecDepth 100000 in
theorem s0_rates {G : GG} {b : Nat} (hb : ob b 0) {M : MM} {Q : Int32 → MM → Prop} (h : D0_rates b M Q) : CM G yX0_rates (WY yX0_rates cX0_rates 3 (some .int)) 3 63 [.ref (gA G b)] M (qI Q) := by
  refine CM.of (cc := cX0_rates) (nL := 3) (ret := (some .int)) (own := RX0) (by decide +kernel) rfl rfl (Nat.le_of_ble_eq_true rfl) ?_
  show A0_rates G Q 0 [(0, .ref (gA G b))] [] M
  unfold D0_rates at h
  refine a_iconst (v := 0) dX0_rates_0 (by decide) ?_
  refine a_istore_n (i := 1) (L' := [(1, .int _), (0, .ref _)]) dX0_rates_1 rfl (by decide) rfl ?_
  refine a_iconst (v := 0) dX0_rates_2 (by decide) ?_
  refine a_istore_n (i := 2) (L' := [(2, .int _), (1, .int _), (0, .ref _)]) dX0_rates_3 rfl (by decide) rfl ?_
  refine a_sub [2, 1, 0] rfl ?_
  exact s0_rates_c4 hb _ _ _ _ h

/-! X0_settles -/
theorem dX0_settles_0 : decode cX0_settles 0 = .ok (.aload_n 0, 1) := by decide +kernel
theorem dX0_settles_1 : decode cX0_settles 1 = .ok (.iconst 0, 1) := by decide +kernel
theorem dX0_settles_2 : decode cX0_settles 2 = .ok (.aload_n 0, 1) := by decide +kernel
theorem dX0_settles_3 : decode cX0_settles 3 = .ok (.getfield 34, 3) := by decide +kernel
theorem dX0_settles_6 : decode cX0_settles 6 = .ok (.aload_n 0, 1) := by decide +kernel
theorem dX0_settles_7 : decode cX0_settles 7 = .ok (.getfield 37, 3) := by decide +kernel
theorem dX0_settles_10 : decode cX0_settles 10 = .ok (.isub, 1) := by decide +kernel
theorem dX0_settles_11 : decode cX0_settles 11 = .ok (.invokestatic 63, 3) := by decide +kernel
theorem dX0_settles_14 : decode cX0_settles 14 = .ok (.putfield 34, 3) := by decide +kernel
theorem dX0_settles_17 : decode cX0_settles 17 = .ok (.aload_n 0, 1) := by decide +kernel
theorem dX0_settles_18 : decode cX0_settles 18 = .ok (.iconst 0, 1) := by decide +kernel
theorem dX0_settles_19 : decode cX0_settles 19 = .ok (.putfield 37, 3) := by decide +kernel
theorem dX0_settles_22 : decode cX0_settles 22 = .ok (.return_, 1) := by decide +kernel
abbrev A0_settles (G : GG) (Q : MM → Prop) := AW G E0 (MZ G (qV Q)) (WY yX0_settles cX0_settles 1 none) RX0 cX0_settles 1 none ({ frames := 1, cells := 0, slots := 0, locals := 21 } : Room) 0 0
def D0_settles (b : Nat) (M : MM) (Q : MM → Prop) : Prop := (fun M1 : MM => (fun M2 : MM => Q M2) (up M1 b 8 (0 : Int32))) (up M b 7 (if (0 : Int32) < ((M b 7) - (M b 8)) then ((M b 7) - (M b 8)) else (0 : Int32)))
set_option maxHeartbeats 4000000 in
set_option maxRecDepth 100000 in
theorem s0_settles {G : GG} {b : Nat} (hb : ob b 0) {M : MM} {Q : MM → Prop} (h : D0_settles b M Q) : CM G yX0_settles (WY yX0_settles cX0_settles 1 none) 1 21 [.ref (gA G b)] M (qV Q) := by
  refine CM.of (cc := cX0_settles) (nL := 1) (ret := none) (own := RX0) (by decide +kernel) rfl rfl (Nat.le_of_ble_eq_true rfl) ?_
  show A0_settles G Q 0 [(0, .ref (gA G b))] [] M
  unfold D0_settles at h
  refine a_aload_n dX0_settles_0 0 rfl ?_
  refine a_iconst (v := 0) dX0_settles_1 (by decide) ?_
  refine a_aload_n dX0_settles_2 0 rfl ?_
  refine a_get0 dX0_settles_3 7 (by decide) (tbc _ kF_RX0_34) (fun w h => tbc _ (uW0 w h)) rfl hb rfl ?_
  refine a_aload_n dX0_settles_6 0 rfl ?_
  refine a_get0 dX0_settles_7 8 (by decide) (tbc _ kF_RX0_37) (fun w h => tbc _ (uW0 w h)) rfl hb rfl ?_
  refine a_isub dX0_settles_10 ?_
  refine a_mmax dX0_settles_11 (tbc _ kM_RX0_63_Lib_Math_max_name) (tbc _ kT_Lib_Math_max_name) (tbc _ kN_Math) (tbc _ kC_Lib_Math_max_name) (Nat.le_of_ble_eq_true rfl) (Nat.le_of_ble_eq_true rfl) (Nat.le_refl 0) (Nat.le_refl 0) ?_
  refine a_put0 dX0_settles_14 7 (by decide) (tbc _ kF_RX0_34) (fun w h => tbc _ (uW0 w h)) rfl rfl rfl rfl hb fs0_7 ?_
  refine a_aload_n dX0_settles_17 0 rfl ?_
  refine a_iconst (v := 0) dX0_settles_18 (by decide) ?_
  refine a_put0 dX0_settles_19 8 (by decide) (tbc _ kF_RX0_37) (fun w h => tbc _ (uW0 w h)) rfl rfl rfl rfl hb fs0_8 ?_
  exact a_vret dX0_settles_22 ⟨rfl, h⟩

/-! X0_spread -/
theorem dX0_spread_0 : decode cX0_spread 0 = .ok (.iconst 0, 1) := by decide +kernel
theorem dX0_spread_1 : decode cX0_spread 1 = .ok (.istore_n 1, 1) := by decide +kernel
theorem dX0_spread_2 : decode cX0_spread 2 = .ok (.iconst 0, 1) := by decide +kernel
theorem dX0_spread_3 : decode cX0_spread 3 = .ok (.istore_n 2, 1) := by decide +kernel
theorem dX0_spread_4 : decode cX0_spread 4 = .ok (.iload_n 2, 1) := by decide +kernel
theorem dX0_spread_5 : decode cX0_spread 5 = .ok (.bipush 10, 2) := by decide +kernel
theorem dX0_spread_7 : decode cX0_spread 7 = .ok (.if_icmp .ge 61, 3) := by decide +kernel
theorem dX0_spread_10 : decode cX0_spread 10 = .ok (.iload_n 2, 1) := by decide +kernel
theorem dX0_spread_11 : decode cX0_spread 11 = .ok (.iconst 1, 1) := by decide +kernel
theorem dX0_spread_12 : decode cX0_spread 12 = .ok (.iadd, 1) := by decide +kernel
theorem dX0_spread_13 : decode cX0_spread 13 = .ok (.istore_n 3, 1) := by decide +kernel
theorem dX0_spread_14 : decode cX0_spread 14 = .ok (.iload_n 3, 1) := by decide +kernel
theorem dX0_spread_15 : decode cX0_spread 15 = .ok (.bipush 10, 2) := by decide +kernel
theorem dX0_spread_17 : decode cX0_spread 17 = .ok (.if_icmp .ge 45, 3) := by decide +kernel
theorem dX0_spread_20 : decode cX0_spread 20 = .ok (.aload_n 0, 1) := by decide +kernel
theorem dX0_spread_21 : decode cX0_spread 21 = .ok (.iload_n 2, 1) := by decide +kernel
theorem dX0_spread_22 : decode cX0_spread 22 = .ok (.invokevirtual 60, 3) := by decide +kernel
theorem dX0_spread_25 : decode cX0_spread 25 = .ok (.ifCond .eq 31, 3) := by decide +kernel
theorem dX0_spread_28 : decode cX0_spread 28 = .ok (.aload_n 0, 1) := by decide +kernel
theorem dX0_spread_29 : decode cX0_spread 29 = .ok (.iload_n 3, 1) := by decide +kernel
theorem dX0_spread_30 : decode cX0_spread 30 = .ok (.invokevirtual 60, 3) := by decide +kernel
theorem dX0_spread_33 : decode cX0_spread 33 = .ok (.ifCond .eq 23, 3) := by decide +kernel
theorem dX0_spread_36 : decode cX0_spread 36 = .ok (.iload_n 1, 1) := by decide +kernel
theorem dX0_spread_37 : decode cX0_spread 37 = .ok (.aload_n 0, 1) := by decide +kernel
theorem dX0_spread_38 : decode cX0_spread 38 = .ok (.getfield 18, 3) := by decide +kernel
theorem dX0_spread_41 : decode cX0_spread 41 = .ok (.iload_n 2, 1) := by decide +kernel
theorem dX0_spread_42 : decode cX0_spread 42 = .ok (.iaload, 1) := by decide +kernel
theorem dX0_spread_43 : decode cX0_spread 43 = .ok (.aload_n 0, 1) := by decide +kernel
theorem dX0_spread_44 : decode cX0_spread 44 = .ok (.getfield 18, 3) := by decide +kernel
theorem dX0_spread_47 : decode cX0_spread 47 = .ok (.iload_n 3, 1) := by decide +kernel
theorem dX0_spread_48 : decode cX0_spread 48 = .ok (.iaload, 1) := by decide +kernel
theorem dX0_spread_49 : decode cX0_spread 49 = .ok (.invokestatic 124, 3) := by decide +kernel
theorem dX0_spread_52 : decode cX0_spread 52 = .ok (.invokestatic 63, 3) := by decide +kernel
theorem dX0_spread_55 : decode cX0_spread 55 = .ok (.istore_n 1, 1) := by decide +kernel
theorem dX0_spread_56 : decode cX0_spread 56 = .ok (.iinc 3 1, 3) := by decide +kernel
theorem dX0_spread_59 : decode cX0_spread 59 = .ok (.goto (-45), 3) := by decide +kernel
theorem dX0_spread_62 : decode cX0_spread 62 = .ok (.iinc 2 1, 3) := by decide +kernel
theorem dX0_spread_65 : decode cX0_spread 65 = .ok (.goto (-61), 3) := by decide +kernel
theorem dX0_spread_68 : decode cX0_spread 68 = .ok (.iload_n 1, 1) := by decide +kernel
theorem dX0_spread_69 : decode cX0_spread 69 = .ok (.ireturn, 1) := by decide +kernel
abbrev A0_spread (G : GG) (Q : Int32 → MM → Prop) := AW G E0 (MZ G (qI Q)) (WY yX0_spread cX0_spread 4 (some .int)) RX0 cX0_spread 4 (some .int) ({ frames := 2, cells := 0, slots := 0, locals := 42 } : Room) 0 0
def D0_spread_c56 (b : Nat) (K14 : Int32 → Int32 → Int32 → MM → Prop) (K4 : Int32 → Int32 → MM → Prop) (Q : Int32 → MM → Prop) (x1 : Int32) (x2 : Int32) (x3 : Int32) (M : MM) : Prop := (fun v10 : Int32 => K14 x1 x2 v10 M) (x3 + (1 : Int32))
def D0_spread_c62 (b : Nat) (K4 : Int32 → Int32 → MM → Prop) (Q : Int32 → MM → Prop) (x1 : Int32) (x2 : Int32) (M : MM) : Prop := (fun v9 : Int32 => K4 x1 v9 M) (x2 + (1 : Int32))
def D0_spread_c14 (b : Nat) (K4 : Int32 → Int32 → MM → Prop) (Q : Int32 → MM → Prop) : Nat → Int32 → Int32 → Int32 → MM → Prop
  | 0, _, _, _, _ => False
  | n + 1, x1, x2, x3, M => (((10 : Int32) ≤ x3 → D0_spread_c62 b K4 Q x1 x2 M) ∧ (¬ (10 : Int32) ≤ x3 → D0_stands b x2 M (fun (r2 : Int32) (M3 : MM) => ((r2 = 0 → D0_spread_c56 b (D0_spread_c14 b K4 Q n) K4 Q x1 x2 x3 M3) ∧ (¬ r2 = 0 → D0_stands b x3 M3 (fun (r4 : Int32) (M5 : MM) => ((r4 = 0 → D0_spread_c56 b (D0_spread_c14 b K4 Q n) K4 Q x1 x2 x3 M5) ∧ (¬ r4 = 0 → ib (b + 3) x2 ∧ ib (b + 3) x3 ∧ D3_steps (M5 (b + 3) (ix x2)) (M5 (b + 3) (ix x3)) M5 (fun (r6 : Int32) (M7 : MM) => (fun v8 : Int32 => D0_spread_c56 b (D0_spread_c14 b K4 Q n) K4 Q v8 x2 x3 M7) (if x1 < r6 then r6 else x1))))))))))
def D0_spread_c4 (b : Nat) (Q : Int32 → MM → Prop) : Nat → Int32 → Int32 → MM → Prop
  | 0, _, _, _ => False
  | n + 1, x1, x2, M => (((10 : Int32) ≤ x2 → Q x1 M) ∧ (¬ (10 : Int32) ≤ x2 → (fun v1 : Int32 => D0_spread_c14 b (D0_spread_c4 b Q n) Q FU x1 x2 v1 M) (x2 + (1 : Int32))))
def D0_spread (b : Nat) (M : MM) (Q : Int32 → MM → Prop) : Prop := D0_spread_c4 b Q FU (0 : Int32) (0 : Int32) M
set_option maxHeartbeats 4000000 in
set_option maxRecDepth 100000 in
theorem s0_spread_c56 {G : GG} {b : Nat} (hb : ob b 0) {K14 : Int32 → Int32 → Int32 → MM → Prop} {K4 : Int32 → Int32 → MM → Prop} {Q : Int32 → MM → Prop} (hK14 : ∀ (x1 : Int32) (x2 : Int32) (x3 : Int32) (M : MM), K14 x1 x2 x3 M → A0_spread G Q 14 [(0, .ref (gA G b)), (1, .int x1), (2, .int x2), (3, .int x3)] [] M) (hK4 : ∀ (x1 : Int32) (x2 : Int32) (M : MM), K4 x1 x2 M → A0_spread G Q 4 [(0, .ref (gA G b)), (1, .int x1), (2, .int x2)] [] M) : ∀ (x1 : Int32) (x2 : Int32) (x3 : Int32) (M : MM), D0_spread_c56 b K14 K4 Q x1 x2 x3 M → A0_spread G Q 56 [(0, .ref (gA G b)), (1, .int x1), (2, .int x2), (3, .int x3)] [] M := by
  intro x1 x2 x3 M h
  unfold D0_spread_c56 at h
  refine a_iinc (L' := [(3, .int _), (0, .ref _), (1, .int _), (2, .int _)]) dX0_spread_56 3 rfl (show _ + Int32.ofInt (1 : Int) = _ + (1 : Int32) from rfl) (by decide) rfl ?_
  refine a_goto (tgt := 14) dX0_spread_59 (by decide) ?_
  refine a_sub [1, 2, 3, 0] rfl ?_
  exact hK14 _ _ _ _ h
set_option maxHeartbeats 4000000 in
set_option maxRecDepth 100000 in
theorem s0_spread_c62 {G : GG} {b : Nat} (hb : ob b 0) {K4 : Int32 → Int32 → MM → Prop} {Q : Int32 → MM → Prop} (hK4 : ∀ (x1 : Int32) (x2 : Int32) (M : MM), K4 x1 x2 M → A0_spread G Q 4 [(0, .ref (gA G b)), (1, .int x1), (2, .int x2)] [] M) : ∀ (x1 : Int32) (x2 : Int32) (M : MM), D0_spread_c62 b K4 Q x1 x2 M → A0_spread G Q 62 [(0, .ref (gA G b)), (1, .int x1), (2, .int x2)] [] M := by
  intro x1 x2 M h
  unfold D0_spread_c62 at h
  refine a_iinc (L' := [(2, .int _), (0, .ref _), (1, .int _)]) dX0_spread_62 2 rfl (show _ + Int32.ofInt (1 : Int) = _ + (1 : Int32) from rfl) (by decide) rfl ?_
  refine a_goto (tgt := 4) dX0_spread_65 (by decide) ?_
  refine a_sub [1, 2, 0] rfl ?_
  exact hK4 _ _ _ h
set_option maxHeartbeats 4000000 in
set_option maxRecDepth 100000 in
theorem s0_spread_c14 {G : GG} {b : Nat} (hb : ob b 0) {K4 : Int32 → Int32 → MM → Prop} {Q : Int32 → MM → Prop} (hK4 : ∀ (x1 : Int32) (x2 : Int32) (M : MM), K4 x1 x2 M → A0_spread G Q 4 [(0, .ref (gA G b)), (1, .int x1), (2, .int x2)] [] M) : ∀ (n : Nat) (x1 : Int32) (x2 : Int32) (x3 : Int32) (M : MM), D0_spread_c14 b K4 Q n x1 x2 x3 M → A0_spread G Q 14 [(0, .ref (gA G b)), (1, .int x1), (2, .int x2), (3, .int x3)] [] M := by
  intro n
  induction n with
  | zero => intro x1 x2 x3 M h; exact h.elim
  | succ n ih =>
    intro x1 x2 x3 M h
    unfold D0_spread_c14 at h
    refine a_iload_n dX0_spread_14 3 rfl ?_
    refine a_bipush (v := 10) dX0_spread_15 (by decide) ?_
    refine a_icmp_ge (tgt := 62) dX0_spread_17 (by decide) (fun c => ?_) (fun c => ?_)
    · have h := h.1 c
      refine a_sub [0, 1, 2] rfl ?_
      exact s0_spread_c62 hb hK4 _ _ _ h
    · have h := h.2 c
      refine a_aload_n dX0_spread_20 0 rfl ?_
      refine a_iload_n dX0_spread_21 2 rfl ?_
      refine a_callVi (n := 1) [.int _] (C := RX0) (ci := 0) (qc := (RX0, TX0, 9)) (fsF := fl0 G _) hb.1 (fun _ => en0 hb.2) rfl rfl dX0_spread_22 (s0_stands hb h) (gV tbc kM_RX0_60_X0_stands kI_X0_stands kS_X0_stands kN_RX0 kC_X0_stands) rfl (by decide +kernel) ⟨Nat.le_of_ble_eq_true rfl, Nat.le_of_ble_eq_true rfl⟩ rfl rfl (Nat.le_of_ble_eq_true rfl) ⟨Nat.le_refl 0, Nat.le_refl 0⟩ (fun r M h => ?_)
      refine a_if_eq (tgt := 56) dX0_spread_25 (by decide) (fun c => ?_) (fun c => ?_)
      · have h := h.1 c
        refine a_sub [0, 1, 2, 3] rfl ?_
        exact s0_spread_c56 hb ih hK4 _ _ _ _ h
      · have h := h.2 c
        refine a_aload_n dX0_spread_28 0 rfl ?_
        refine a_iload_n dX0_spread_29 3 rfl ?_
        refine a_callVi (n := 1) [.int _] (C := RX0) (ci := 0) (qc := (RX0, TX0, 9)) (fsF := fl0 G _) hb.1 (fun _ => en0 hb.2) rfl rfl dX0_spread_30 (s0_stands hb h) (gV tbc kM_RX0_60_X0_stands kI_X0_stands kS_X0_stands kN_RX0 kC_X0_stands) rfl (by decide +kernel) ⟨Nat.le_of_ble_eq_true rfl, Nat.le_of_ble_eq_true rfl⟩ rfl rfl (Nat.le_of_ble_eq_true rfl) ⟨Nat.le_refl 0, Nat.le_refl 0⟩ (fun r M h => ?_)
        refine a_if_eq (tgt := 56) dX0_spread_33 (by decide) (fun c => ?_) (fun c => ?_)
        · have h := h.1 c
          refine a_sub [0, 1, 2, 3] rfl ?_
          exact s0_spread_c56 hb ih hK4 _ _ _ _ h
        · have h := h.2 c
          refine a_iload_n dX0_spread_36 1 rfl ?_
          refine a_aload_n dX0_spread_37 0 rfl ?_
          refine a_get0 dX0_spread_38 2 (by decide) (tbc _ kF_RX0_18) (fun w h => tbc _ (uW0 w h)) rfl hb rfl ?_
          refine a_iload_n dX0_spread_41 2 rfl ?_
          refine a_iald dX0_spread_42 h.1 ?_
          have h := h.2
          refine a_aload_n dX0_spread_43 0 rfl ?_
          refine a_get0 dX0_spread_44 2 (by decide) (tbc _ kF_RX0_18) (fun w h => tbc _ (uW0 w h)) rfl hb rfl ?_
          refine a_iload_n dX0_spread_47 3 rfl ?_
          refine a_iald dX0_spread_48 h.1 ?_
          have h := h.2
          refine a_callSi (n := 2) [.int _, .int _] dX0_spread_49 (s3_steps h) (gS tbc kM_RX0_124_X3_steps kT_X3_steps kN_RX3 kC_X3_steps) rfl (by decide +kernel) ⟨Nat.le_of_ble_eq_true rfl, Nat.le_of_ble_eq_true rfl⟩ rfl rfl (Nat.le_of_ble_eq_true rfl) ⟨Nat.le_refl 0, Nat.le_refl 0⟩ (fun r M h => ?_)
          refine a_mmax dX0_spread_52 (tbc _ kM_RX0_63_Lib_Math_max_name) (tbc _ kT_Lib_Math_max_name) (tbc _ kN_Math) (tbc _ kC_Lib_Math_max_name) (Nat.le_of_ble_eq_true rfl) (Nat.le_of_ble_eq_true rfl) (Nat.le_refl 0) (Nat.le_refl 0) ?_
          refine a_istore_n (i := 1) (L' := [(1, .int _), (0, .ref _), (2, .int _), (3, .int _)]) dX0_spread_55 rfl (by decide) rfl ?_
          refine a_sub [1, 0, 2, 3] rfl ?_
          exact s0_spread_c56 hb ih hK4 _ _ _ _ h
set_option maxHeartbeats 4000000 in
set_option maxRecDepth 100000 in
theorem s0_spread_c4 {G : GG} {b : Nat} (hb : ob b 0) {Q : Int32 → MM → Prop} : ∀ (n : Nat) (x1 : Int32) (x2 : Int32) (M : MM), D0_spread_c4 b Q n x1 x2 M → A0_spread G Q 4 [(0, .ref (gA G b)), (1, .int x1), (2, .int x2)] [] M := by
  intro n
  induction n with
  | zero => intro x1 x2 M h; exact h.elim
  | succ n ih =>
    intro x1 x2 M h
    unfold D0_spread_c4 at h
    refine a_iload_n dX0_spread_4 2 rfl ?_
    refine a_bipush (v := 10) dX0_spread_5 (by decide) ?_
    refine a_icmp_ge (tgt := 68) dX0_spread_7 (by decide) (fun c => ?_) (fun c => ?_)
    · have h := h.1 c
      refine a_iload_n dX0_spread_68 1 rfl ?_
      exact a_iret dX0_spread_69 ⟨_, rfl, h⟩
    · have h := h.2 c
      refine a_iload_n dX0_spread_10 2 rfl ?_
      refine a_iconst (v := 1) dX0_spread_11 (by decide) ?_
      refine a_iadd dX0_spread_12 ?_
      refine a_istore_n (i := 3) (L' := [(3, .int _), (0, .ref _), (1, .int _), (2, .int _)]) dX0_spread_13 rfl (by decide) rfl ?_
      refine a_sub [1, 2, 3, 0] rfl ?_
      exact s0_spread_c14 hb ih _ _ _ _ _ h
set_option maxHeartbeats 4000000 in
set_option maxRecDepth 100000 in
theorem s0_spread {G : GG} {b : Nat} (hb : ob b 0) {M : MM} {Q : Int32 → MM → Prop} (h : D0_spread b M Q) : CM G yX0_spread (WY yX0_spread cX0_spread 4 (some .int)) 2 42 [.ref (gA G b)] M (qI Q) := by
  refine CM.of (cc := cX0_spread) (nL := 4) (ret := (some .int)) (own := RX0) (by decide +kernel) rfl rfl (Nat.le_of_ble_eq_true rfl) ?_
  show A0_spread G Q 0 [(0, .ref (gA G b))] [] M
  unfold D0_spread at h
  refine a_iconst (v := 0) dX0_spread_0 (by decide) ?_
  refine a_istore_n (i := 1) (L' := [(1, .int _), (0, .ref _)]) dX0_spread_1 rfl (by decide) rfl ?_
  refine a_iconst (v := 0) dX0_spread_2 (by decide) ?_
  refine a_istore_n (i := 2) (L' := [(2, .int _), (1, .int _), (0, .ref _)]) dX0_spread_3 rfl (by decide) rfl ?_
  refine a_sub [2, 1, 0] rfl ?_
  exact s0_spread_c4 hb _ _ _ _ h

/-! X0_standingOf -/
theorem dX0_standingOf_0 : decode cX0_standingOf 0 = .ok (.iconst 0, 1) := by decide +kernel
theorem dX0_standingOf_1 : decode cX0_standingOf 1 = .ok (.istore_n 2, 1) := by decide +kernel
theorem dX0_standingOf_2 : decode cX0_standingOf 2 = .ok (.iconst 0, 1) := by decide +kernel
theorem dX0_standingOf_3 : decode cX0_standingOf 3 = .ok (.istore_n 3, 1) := by decide +kernel
theorem dX0_standingOf_4 : decode cX0_standingOf 4 = .ok (.iload_n 3, 1) := by decide +kernel
theorem dX0_standingOf_5 : decode cX0_standingOf 5 = .ok (.bipush 10, 2) := by decide +kernel
theorem dX0_standingOf_7 : decode cX0_standingOf 7 = .ok (.if_icmp .ge 30, 3) := by decide +kernel
theorem dX0_standingOf_10 : decode cX0_standingOf 10 = .ok (.aload_n 0, 1) := by decide +kernel
theorem dX0_standingOf_11 : decode cX0_standingOf 11 = .ok (.iload_n 3, 1) := by decide +kernel
theorem dX0_standingOf_12 : decode cX0_standingOf 12 = .ok (.invokevirtual 60, 3) := by decide +kernel
theorem dX0_standingOf_15 : decode cX0_standingOf 15 = .ok (.ifCond .eq 16, 3) := by decide +kernel
theorem dX0_standingOf_18 : decode cX0_standingOf 18 = .ok (.aload_n 0, 1) := by decide +kernel
theorem dX0_standingOf_19 : decode cX0_standingOf 19 = .ok (.getfield 11, 3) := by decide +kernel
theorem dX0_standingOf_22 : decode cX0_standingOf 22 = .ok (.iload_n 3, 1) := by decide +kernel
theorem dX0_standingOf_23 : decode cX0_standingOf 23 = .ok (.iaload, 1) := by decide +kernel
theorem dX0_standingOf_24 : decode cX0_standingOf 24 = .ok (.iload_n 1, 1) := by decide +kernel
theorem dX0_standingOf_25 : decode cX0_standingOf 25 = .ok (.if_icmp .ne 6, 3) := by decide +kernel
theorem dX0_standingOf_28 : decode cX0_standingOf 28 = .ok (.iinc 2 1, 3) := by decide +kernel
theorem dX0_standingOf_31 : decode cX0_standingOf 31 = .ok (.iinc 3 1, 3) := by decide +kernel
theorem dX0_standingOf_34 : decode cX0_standingOf 34 = .ok (.goto (-30), 3) := by decide +kernel
theorem dX0_standingOf_37 : decode cX0_standingOf 37 = .ok (.iload_n 2, 1) := by decide +kernel
theorem dX0_standingOf_38 : decode cX0_standingOf 38 = .ok (.ireturn, 1) := by decide +kernel
abbrev A0_standingOf (G : GG) (Q : Int32 → MM → Prop) := AW G E0 (MZ G (qI Q)) (WY yX0_standingOf cX0_standingOf 4 (some .int)) RX0 cX0_standingOf 4 (some .int) ({ frames := 1, cells := 0, slots := 0, locals := 21 } : Room) 0 0
def D0_standingOf_c31 (b : Nat) (K4 : Int32 → Int32 → Int32 → MM → Prop) (Q : Int32 → MM → Prop) (x1 : Int32) (x2 : Int32) (x3 : Int32) (M : MM) : Prop := (fun v4 : Int32 => K4 x1 x2 v4 M) (x3 + (1 : Int32))
def D0_standingOf_c4 (b : Nat) (Q : Int32 → MM → Prop) : Nat → Int32 → Int32 → Int32 → MM → Prop
  | 0, _, _, _, _ => False
  | n + 1, x1, x2, x3, M => (((10 : Int32) ≤ x3 → Q x2 M) ∧ (¬ (10 : Int32) ≤ x3 → D0_stands b x3 M (fun (r1 : Int32) (M2 : MM) => ((r1 = 0 → D0_standingOf_c31 b (D0_standingOf_c4 b Q n) Q x1 x2 x3 M2) ∧ (¬ r1 = 0 → ib (b + 1) x3 ∧ (((M2 (b + 1) (ix x3)) ≠ x1 → D0_standingOf_c31 b (D0_standingOf_c4 b Q n) Q x1 x2 x3 M2) ∧ ((M2 (b + 1) (ix x3)) = x1 → (fun v3 : Int32 => D0_standingOf_c31 b (D0_standingOf_c4 b Q n) Q x1 v3 x3 M2) (x2 + (1 : Int32)))))))))
def D0_standingOf (b : Nat) (x1 : Int32) (M : MM) (Q : Int32 → MM → Prop) : Prop := D0_standingOf_c4 b Q FU x1 (0 : Int32) (0 : Int32) M
set_option maxHeartbeats 4000000 in
set_option maxRecDepth 100000 in
theorem s0_standingOf_c31 {G : GG} {b : Nat} (hb : ob b 0) {K4 : Int32 → Int32 → Int32 → MM → Prop} {Q : Int32 → MM → Prop} (hK4 : ∀ (x1 : Int32) (x2 : Int32) (x3 : Int32) (M : MM), K4 x1 x2 x3 M → A0_standingOf G Q 4 [(0, .ref (gA G b)), (1, .int x1), (2, .int x2), (3, .int x3)] [] M) : ∀ (x1 : Int32) (x2 : Int32) (x3 : Int32) (M : MM), D0_standingOf_c31 b K4 Q x1 x2 x3 M → A0_standingOf G Q 31 [(0, .ref (gA G b)), (1, .int x1), (2, .int x2), (3, .int x3)] [] M := by
  intro x1 x2 x3 M h
  unfold D0_standingOf_c31 at h
  refine a_iinc (L' := [(3, .int _), (0, .ref _), (1, .int _), (2, .int _)]) dX0_standingOf_31 3 rfl (show _ + Int32.ofInt (1 : Int) = _ + (1 : Int32) from rfl) (by decide) rfl ?_
  refine a_goto (tgt := 4) dX0_standingOf_34 (by decide) ?_
  refine a_sub [1, 2, 3, 0] rfl ?_
  exact hK4 _ _ _ _ h
set_option maxHeartbeats 4000000 in
set_option maxRecDepth 100000 in
theorem s0_standingOf_c4 {G : GG} {b : Nat} (hb : ob b 0) {Q : Int32 → MM → Prop} : ∀ (n : Nat) (x1 : Int32) (x2 : Int32) (x3 : Int32) (M : MM), D0_standingOf_c4 b Q n x1 x2 x3 M → A0_standingOf G Q 4 [(0, .ref (gA G b)), (1, .int x1), (2, .int x2), (3, .int x3)] [] M := by
  intro n
  induction n with
  | zero => intro x1 x2 x3 M h; exact h.elim
  | succ n ih =>
    intro x1 x2 x3 M h
    unfold D0_standingOf_c4 at h
    refine a_iload_n dX0_standingOf_4 3 rfl ?_
    refine a_bipush (v := 10) dX0_standingOf_5 (by decide) ?_
    refine a_icmp_ge (tgt := 37) dX0_standingOf_7 (by decide) (fun c => ?_) (fun c => ?_)
    · have h := h.1 c
      refine a_iload_n dX0_standingOf_37 2 rfl ?_
      exact a_iret dX0_standingOf_38 ⟨_, rfl, h⟩
    · have h := h.2 c
      refine a_aload_n dX0_standingOf_10 0 rfl ?_
      refine a_iload_n dX0_standingOf_11 3 rfl ?_
      refine a_callVi (n := 1) [.int _] (C := RX0) (ci := 0) (qc := (RX0, TX0, 9)) (fsF := fl0 G _) hb.1 (fun _ => en0 hb.2) rfl rfl dX0_standingOf_12 (s0_stands hb h) (gV tbc kM_RX0_60_X0_stands kI_X0_stands kS_X0_stands kN_RX0 kC_X0_stands) rfl (by decide +kernel) ⟨Nat.le_of_ble_eq_true rfl, Nat.le_of_ble_eq_true rfl⟩ rfl rfl (Nat.le_of_ble_eq_true rfl) ⟨Nat.le_refl 0, Nat.le_refl 0⟩ (fun r M h => ?_)
      refine a_if_eq (tgt := 31) dX0_standingOf_15 (by decide) (fun c => ?_) (fun c => ?_)
      · have h := h.1 c
        refine a_sub [0, 1, 2, 3] rfl ?_
        exact s0_standingOf_c31 hb ih _ _ _ _ h
      · have h := h.2 c
        refine a_aload_n dX0_standingOf_18 0 rfl ?_
        refine a_get0 dX0_standingOf_19 0 (by decide) (tbc _ kF_RX0_11) (fun w h => tbc _ (uW0 w h)) rfl hb rfl ?_
        refine a_iload_n dX0_standingOf_22 3 rfl ?_
        refine a_iald dX0_standingOf_23 h.1 ?_
        have h := h.2
        refine a_iload_n dX0_standingOf_24 1 rfl ?_
        refine a_icmp_ne (tgt := 31) dX0_standingOf_25 (by decide) (fun c => ?_) (fun c => ?_)
        · have h := h.1 c
          refine a_sub [0, 1, 2, 3] rfl ?_
          exact s0_standingOf_c31 hb ih _ _ _ _ h
        · have h := h.2 c
          refine a_iinc (L' := [(2, .int _), (0, .ref _), (1, .int _), (3, .int _)]) dX0_standingOf_28 2 rfl (show _ + Int32.ofInt (1 : Int) = _ + (1 : Int32) from rfl) (by decide) rfl ?_
          refine a_sub [1, 2, 0, 3] rfl ?_
          exact s0_standingOf_c31 hb ih _ _ _ _ h
set_option maxHeartbeats 4000000 in
set_option maxRecDepth 100000 in
theorem s0_standingOf {G : GG} {b : Nat} (hb : ob b 0) {x1 : Int32} {M : MM} {Q : Int32 → MM → Prop} (h : D0_standingOf b x1 M Q) : CM G yX0_standingOf (WY yX0_standingOf cX0_standingOf 4 (some .int)) 1 21 [.ref (gA G b), .int x1] M (qI Q) := by
  refine CM.of (cc := cX0_standingOf) (nL := 4) (ret := (some .int)) (own := RX0) (by decide +kernel) rfl rfl (Nat.le_of_ble_eq_true rfl) ?_
  show A0_standingOf G Q 0 [(0, .ref (gA G b)), (1, .int x1)] [] M
  unfold D0_standingOf at h
  refine a_iconst (v := 0) dX0_standingOf_0 (by decide) ?_
  refine a_istore_n (i := 2) (L' := [(2, .int _), (0, .ref _), (1, .int _)]) dX0_standingOf_1 rfl (by decide) rfl ?_
  refine a_iconst (v := 0) dX0_standingOf_2 (by decide) ?_
  refine a_istore_n (i := 3) (L' := [(3, .int _), (2, .int _), (0, .ref _), (1, .int _)]) dX0_standingOf_3 rfl (by decide) rfl ?_
  refine a_sub [2, 3, 1, 0] rfl ?_
  exact s0_standingOf_c4 hb _ _ _ _ _ h

/-! X0_standingWorks -/
theorem dX0_standingWorks_0 : decode cX0_standingWorks 0 = .ok (.aload_n 0, 1) := by decide +kernel
theorem dX0_standingWorks_1 : decode cX0_standingWorks 1 = .ok (.getfield 28, 3) := by decide +kernel
theorem dX0_standingWorks_4 : decode cX0_standingWorks 4 = .ok (.invokestatic 100, 3) := by decide +kernel
theorem dX0_standingWorks_7 : decode cX0_standingWorks 7 = .ok (.ireturn, 1) := by decide +kernel
abbrev A0_standingWorks (G : GG) (Q : Int32 → MM → Prop) := AW G E0 (MZ G (qI Q)) (WY yX0_standingWorks cX0_standingWorks 1 (some .int)) RX0 cX0_standingWorks 1 (some .int) ({ frames := 1, cells := 0, slots := 0, locals := 20 } : Room) 0 0
def D0_standingWorks (b : Nat) (M : MM) (Q : Int32 → MM → Prop) : Prop := DJ6_bitCount (M b 5) M (fun (r1 : Int32) (M2 : MM) => Q r1 M2)
set_option maxHeartbeats 4000000 in
set_option maxRecDepth 100000 in
theorem s0_standingWorks {G : GG} {b : Nat} (hb : ob b 0) {M : MM} {Q : Int32 → MM → Prop} (h : D0_standingWorks b M Q) : CM G yX0_standingWorks (WY yX0_standingWorks cX0_standingWorks 1 (some .int)) 1 20 [.ref (gA G b)] M (qI Q) := by
  refine CM.of (cc := cX0_standingWorks) (nL := 1) (ret := (some .int)) (own := RX0) (by decide +kernel) rfl rfl (Nat.le_of_ble_eq_true rfl) ?_
  show A0_standingWorks G Q 0 [(0, .ref (gA G b))] [] M
  unfold D0_standingWorks at h
  refine a_aload_n dX0_standingWorks_0 0 rfl ?_
  refine a_get0 dX0_standingWorks_1 5 (by decide) (tbc _ kF_RX0_28) (fun w h => tbc _ (uW0 w h)) rfl hb rfl ?_
  refine a_callSi (n := 1) [.int _] dX0_standingWorks_4 (sJ6_bitCount h) (gS tbc kM_RX0_100_J6_bitCount_0f7a4 kT_J6_bitCount_0f7a4 kN_RJ6 kC_J6_bitCount_0f7a4) rfl (by decide +kernel) ⟨Nat.le_of_ble_eq_true rfl, Nat.le_of_ble_eq_true rfl⟩ rfl rfl (Nat.le_of_ble_eq_true rfl) ⟨Nat.le_refl 0, Nat.le_refl 0⟩ (fun r M h => ?_)
  exact a_iret dX0_standingWorks_7 ⟨_, rfl, h⟩

/-! X0_takesFor -/
theorem dX0_takesFor_0 : decode cX0_takesFor 0 = .ok (.aload_n 0, 1) := by decide +kernel
theorem dX0_takesFor_1 : decode cX0_takesFor 1 = .ok (.iload_n 1, 1) := by decide +kernel
theorem dX0_takesFor_2 : decode cX0_takesFor 2 = .ok (.invokevirtual 40, 3) := by decide +kernel
theorem dX0_takesFor_5 : decode cX0_takesFor 5 = .ok (.ifCond .eq 17, 3) := by decide +kernel
theorem dX0_takesFor_8 : decode cX0_takesFor 8 = .ok (.aload_n 0, 1) := by decide +kernel
theorem dX0_takesFor_9 : decode cX0_takesFor 9 = .ok (.getfield 11, 3) := by decide +kernel
theorem dX0_takesFor_12 : decode cX0_takesFor 12 = .ok (.iload_n 1, 1) := by decide +kernel
theorem dX0_takesFor_13 : decode cX0_takesFor 13 = .ok (.iload_n 2, 1) := by decide +kernel
theorem dX0_takesFor_14 : decode cX0_takesFor 14 = .ok (.iastore, 1) := by decide +kernel
theorem dX0_takesFor_15 : decode cX0_takesFor 15 = .ok (.aload_n 0, 1) := by decide +kernel
theorem dX0_takesFor_16 : decode cX0_takesFor 16 = .ok (.getfield 15, 3) := by decide +kernel
theorem dX0_takesFor_19 : decode cX0_takesFor 19 = .ok (.iload_n 1, 1) := by decide +kernel
theorem dX0_takesFor_20 : decode cX0_takesFor 20 = .ok (.iload_n 3, 1) := by decide +kernel
theorem dX0_takesFor_21 : decode cX0_takesFor 21 = .ok (.iastore, 1) := by decide +kernel
theorem dX0_takesFor_22 : decode cX0_takesFor 22 = .ok (.return_, 1) := by decide +kernel
abbrev A0_takesFor (G : GG) (Q : MM → Prop) := AW G E0 (MZ G (qV Q)) (WY yX0_takesFor cX0_takesFor 4 none) RX0 cX0_takesFor 4 none ({ frames := 1, cells := 0, slots := 0, locals := 21 } : Room) 0 0
def D0_takesFor (b : Nat) (x1 : Int32) (x2 : Int32) (x3 : Int32) (M : MM) (Q : MM → Prop) : Prop := D0_knows b x1 M (fun (r1 : Int32) (M2 : MM) => ((r1 = 0 → Q M2) ∧ (¬ r1 = 0 → ib (b + 1) x1 ∧ (fun M3 : MM => ib (b + 2) x1 ∧ (fun M4 : MM => Q M4) (up M3 (b + 2) (ix x1) x3)) (up M2 (b + 1) (ix x1) x2))))
set_option maxHeartbeats 4000000 in
set_option maxRecDepth 100000 in
theorem s0_takesFor {G : GG} {b : Nat} (hb : ob b 0) {x1 : Int32} {x2 : Int32} {x3 : Int32} {M : MM} {Q : MM → Prop} (h : D0_takesFor b x1 x2 x3 M Q) : CM G yX0_takesFor (WY yX0_takesFor cX0_takesFor 4 none) 1 21 [.ref (gA G b), .int x1, .int x2, .int x3] M (qV Q) := by
  refine CM.of (cc := cX0_takesFor) (nL := 4) (ret := none) (own := RX0) (by decide +kernel) rfl rfl (Nat.le_of_ble_eq_true rfl) ?_
  show A0_takesFor G Q 0 [(0, .ref (gA G b)), (1, .int x1), (2, .int x2), (3, .int x3)] [] M
  unfold D0_takesFor at h
  refine a_aload_n dX0_takesFor_0 0 rfl ?_
  refine a_iload_n dX0_takesFor_1 1 rfl ?_
  refine a_callVi (n := 1) [.int _] (C := RX0) (ci := 0) (qc := (RX0, TX0, 9)) (fsF := fl0 G _) hb.1 (fun _ => en0 hb.2) rfl rfl dX0_takesFor_2 (s0_knows hb h) (gV tbc kM_RX0_40_X0_knows kI_X0_knows kS_X0_knows kN_RX0 kC_X0_knows) rfl (by decide +kernel) ⟨Nat.le_of_ble_eq_true rfl, Nat.le_of_ble_eq_true rfl⟩ rfl rfl (Nat.le_of_ble_eq_true rfl) ⟨Nat.le_refl 0, Nat.le_refl 0⟩ (fun r M h => ?_)
  refine a_if_eq (tgt := 22) dX0_takesFor_5 (by decide) (fun c => ?_) (fun c => ?_)
  · have h := h.1 c
    exact a_vret dX0_takesFor_22 ⟨rfl, h⟩
  · have h := h.2 c
    refine a_aload_n dX0_takesFor_8 0 rfl ?_
    refine a_get0 dX0_takesFor_9 0 (by decide) (tbc _ kF_RX0_11) (fun w h => tbc _ (uW0 w h)) rfl hb rfl ?_
    refine a_iload_n dX0_takesFor_12 1 rfl ?_
    refine a_iload_n dX0_takesFor_13 2 rfl ?_
    refine a_iast dX0_takesFor_14 h.1 ?_
    have h := h.2
    refine a_aload_n dX0_takesFor_15 0 rfl ?_
    refine a_get0 dX0_takesFor_16 1 (by decide) (tbc _ kF_RX0_15) (fun w h => tbc _ (uW0 w h)) rfl hb rfl ?_
    refine a_iload_n dX0_takesFor_19 1 rfl ?_
    refine a_iload_n dX0_takesFor_20 3 rfl ?_
    refine a_iast dX0_takesFor_21 h.1 ?_
    have h := h.2
    exact a_vret dX0_takesFor_22 ⟨rfl, h⟩

/-! X0_wears -/
theorem dX0_wears_0 : decode cX0_wears 0 = .ok (.aload_n 0, 1) := by decide +kernel
theorem dX0_wears_1 : decode cX0_wears 1 = .ok (.iload_n 1, 1) := by decide +kernel
theorem dX0_wears_2 : decode cX0_wears 2 = .ok (.invokevirtual 40, 3) := by decide +kernel
theorem dX0_wears_5 : decode cX0_wears 5 = .ok (.ifCond .eq 10, 3) := by decide +kernel
theorem dX0_wears_8 : decode cX0_wears 8 = .ok (.aload_n 0, 1) := by decide +kernel
theorem dX0_wears_9 : decode cX0_wears 9 = .ok (.getfield 21, 3) := by decide +kernel
theorem dX0_wears_12 : decode cX0_wears 12 = .ok (.iload_n 1, 1) := by decide +kernel
theorem dX0_wears_13 : decode cX0_wears 13 = .ok (.iload_n 2, 1) := by decide +kernel
theorem dX0_wears_14 : decode cX0_wears 14 = .ok (.iastore, 1) := by decide +kernel
theorem dX0_wears_15 : decode cX0_wears 15 = .ok (.return_, 1) := by decide +kernel
abbrev A0_wears (G : GG) (Q : MM → Prop) := AW G E0 (MZ G (qV Q)) (WY yX0_wears cX0_wears 3 none) RX0 cX0_wears 3 none ({ frames := 1, cells := 0, slots := 0, locals := 21 } : Room) 0 0
def D0_wears (b : Nat) (x1 : Int32) (x2 : Int32) (M : MM) (Q : MM → Prop) : Prop := D0_knows b x1 M (fun (r1 : Int32) (M2 : MM) => ((r1 = 0 → Q M2) ∧ (¬ r1 = 0 → ib (b + 4) x1 ∧ (fun M3 : MM => Q M3) (up M2 (b + 4) (ix x1) x2))))
set_option maxHeartbeats 4000000 in
set_option maxRecDepth 100000 in
theorem s0_wears {G : GG} {b : Nat} (hb : ob b 0) {x1 : Int32} {x2 : Int32} {M : MM} {Q : MM → Prop} (h : D0_wears b x1 x2 M Q) : CM G yX0_wears (WY yX0_wears cX0_wears 3 none) 1 21 [.ref (gA G b), .int x1, .int x2] M (qV Q) := by
  refine CM.of (cc := cX0_wears) (nL := 3) (ret := none) (own := RX0) (by decide +kernel) rfl rfl (Nat.le_of_ble_eq_true rfl) ?_
  show A0_wears G Q 0 [(0, .ref (gA G b)), (1, .int x1), (2, .int x2)] [] M
  unfold D0_wears at h
  refine a_aload_n dX0_wears_0 0 rfl ?_
  refine a_iload_n dX0_wears_1 1 rfl ?_
  refine a_callVi (n := 1) [.int _] (C := RX0) (ci := 0) (qc := (RX0, TX0, 9)) (fsF := fl0 G _) hb.1 (fun _ => en0 hb.2) rfl rfl dX0_wears_2 (s0_knows hb h) (gV tbc kM_RX0_40_X0_knows kI_X0_knows kS_X0_knows kN_RX0 kC_X0_knows) rfl (by decide +kernel) ⟨Nat.le_of_ble_eq_true rfl, Nat.le_of_ble_eq_true rfl⟩ rfl rfl (Nat.le_of_ble_eq_true rfl) ⟨Nat.le_refl 0, Nat.le_refl 0⟩ (fun r M h => ?_)
  refine a_if_eq (tgt := 15) dX0_wears_5 (by decide) (fun c => ?_) (fun c => ?_)
  · have h := h.1 c
    exact a_vret dX0_wears_15 ⟨rfl, h⟩
  · have h := h.2 c
    refine a_aload_n dX0_wears_8 0 rfl ?_
    refine a_get0 dX0_wears_9 3 (by decide) (tbc _ kF_RX0_21) (fun w h => tbc _ (uW0 w h)) rfl hb rfl ?_
    refine a_iload_n dX0_wears_12 1 rfl ?_
    refine a_iload_n dX0_wears_13 2 rfl ?_
    refine a_iast dX0_wears_14 h.1 ?_
    have h := h.2
    exact a_vret dX0_wears_15 ⟨rfl, h⟩

/-! X0_wetNow -/
theorem dX0_wetNow_0 : decode cX0_wetNow 0 = .ok (.aload_n 0, 1) := by decide +kernel
theorem dX0_wetNow_1 : decode cX0_wetNow 1 = .ok (.aload_n 0, 1) := by decide +kernel
theorem dX0_wetNow_2 : decode cX0_wetNow 2 = .ok (.getfield 31, 3) := by decide +kernel
theorem dX0_wetNow_5 : decode cX0_wetNow 5 = .ok (.invokestatic 74, 3) := by decide +kernel
theorem dX0_wetNow_8 : decode cX0_wetNow 8 = .ok (.invokevirtual 80, 3) := by decide +kernel
theorem dX0_wetNow_11 : decode cX0_wetNow 11 = .ok (.ireturn, 1) := by decide +kernel
abbrev A0_wetNow (G : GG) (Q : Int32 → MM → Prop) := AW G E0 (MZ G (qI Q)) (WY yX0_wetNow cX0_wetNow 1 (some .int)) RX0 cX0_wetNow 1 (some .int) ({ frames := 2, cells := 0, slots := 0, locals := 46 } : Room) 0 0
def D0_wetNow (b : Nat) (M : MM) (Q : Int32 → MM → Prop) : Prop := D3_height (M b 6) M (fun (r1 : Int32) (M2 : MM) => D0_wetAt b r1 M2 (fun (r3 : Int32) (M4 : MM) => Q r3 M4))
set_option maxHeartbeats 4000000 in
set_option maxRecDepth 100000 in
theorem s0_wetNow {G : GG} {b : Nat} (hb : ob b 0) {M : MM} {Q : Int32 → MM → Prop} (h : D0_wetNow b M Q) : CM G yX0_wetNow (WY yX0_wetNow cX0_wetNow 1 (some .int)) 2 46 [.ref (gA G b)] M (qI Q) := by
  refine CM.of (cc := cX0_wetNow) (nL := 1) (ret := (some .int)) (own := RX0) (by decide +kernel) rfl rfl (Nat.le_of_ble_eq_true rfl) ?_
  show A0_wetNow G Q 0 [(0, .ref (gA G b))] [] M
  unfold D0_wetNow at h
  refine a_aload_n dX0_wetNow_0 0 rfl ?_
  refine a_aload_n dX0_wetNow_1 0 rfl ?_
  refine a_get0 dX0_wetNow_2 6 (by decide) (tbc _ kF_RX0_31) (fun w h => tbc _ (uW0 w h)) rfl hb rfl ?_
  refine a_callSi (n := 1) [.int _] dX0_wetNow_5 (s3_height h) (gS tbc kM_RX0_74_X3_height kT_X3_height kN_RX3 kC_X3_height) rfl (by decide +kernel) ⟨Nat.le_of_ble_eq_true rfl, Nat.le_of_ble_eq_true rfl⟩ rfl rfl (Nat.le_of_ble_eq_true rfl) ⟨Nat.le_refl 0, Nat.le_refl 0⟩ (fun r M h => ?_)
  refine a_callVi (n := 1) [.int _] (C := RX0) (ci := 0) (qc := (RX0, TX0, 9)) (fsF := fl0 G _) hb.1 (fun _ => en0 hb.2) rfl rfl dX0_wetNow_8 (s0_wetAt hb h) (gV tbc kM_RX0_80_X0_wetAt kI_X0_wetAt kS_X0_wetAt kN_RX0 kC_X0_wetAt) rfl (by decide +kernel) ⟨Nat.le_of_ble_eq_true rfl, Nat.le_of_ble_eq_true rfl⟩ rfl rfl (Nat.le_of_ble_eq_true rfl) ⟨Nat.le_refl 0, Nat.le_refl 0⟩ (fun r M h => ?_)
  exact a_iret dX0_wetNow_11 ⟨_, rfl, h⟩

/-! X0_workIn -/
theorem dX0_workIn_0 : decode cX0_workIn 0 = .ok (.iconst 0, 1) := by decide +kernel
theorem dX0_workIn_1 : decode cX0_workIn 1 = .ok (.istore_n 2, 1) := by decide +kernel
theorem dX0_workIn_2 : decode cX0_workIn 2 = .ok (.iload_n 2, 1) := by decide +kernel
theorem dX0_workIn_3 : decode cX0_workIn 3 = .ok (.bipush 10, 2) := by decide +kernel
theorem dX0_workIn_5 : decode cX0_workIn 5 = .ok (.if_icmp .ge 29, 3) := by decide +kernel
theorem dX0_workIn_8 : decode cX0_workIn 8 = .ok (.aload_n 0, 1) := by decide +kernel
theorem dX0_workIn_9 : decode cX0_workIn 9 = .ok (.iload_n 2, 1) := by decide +kernel
theorem dX0_workIn_10 : decode cX0_workIn 10 = .ok (.invokevirtual 60, 3) := by decide +kernel
theorem dX0_workIn_13 : decode cX0_workIn 13 = .ok (.ifCond .eq 15, 3) := by decide +kernel
theorem dX0_workIn_16 : decode cX0_workIn 16 = .ok (.aload_n 0, 1) := by decide +kernel
theorem dX0_workIn_17 : decode cX0_workIn 17 = .ok (.getfield 18, 3) := by decide +kernel
theorem dX0_workIn_20 : decode cX0_workIn 20 = .ok (.iload_n 2, 1) := by decide +kernel
theorem dX0_workIn_21 : decode cX0_workIn 21 = .ok (.iaload, 1) := by decide +kernel
theorem dX0_workIn_22 : decode cX0_workIn 22 = .ok (.iload_n 1, 1) := by decide +kernel
theorem dX0_workIn_23 : decode cX0_workIn 23 = .ok (.if_icmp .ne 5, 3) := by decide +kernel
theorem dX0_workIn_26 : decode cX0_workIn 26 = .ok (.iload_n 2, 1) := by decide +kernel
theorem dX0_workIn_27 : decode cX0_workIn 27 = .ok (.ireturn, 1) := by decide +kernel
theorem dX0_workIn_28 : decode cX0_workIn 28 = .ok (.iinc 2 1, 3) := by decide +kernel
theorem dX0_workIn_31 : decode cX0_workIn 31 = .ok (.goto (-29), 3) := by decide +kernel
theorem dX0_workIn_34 : decode cX0_workIn 34 = .ok (.bipush (-9), 2) := by decide +kernel
theorem dX0_workIn_36 : decode cX0_workIn 36 = .ok (.ireturn, 1) := by decide +kernel
abbrev A0_workIn (G : GG) (Q : Int32 → MM → Prop) := AW G E0 (MZ G (qI Q)) (WY yX0_workIn cX0_workIn 3 (some .int)) RX0 cX0_workIn 3 (some .int) ({ frames := 1, cells := 0, slots := 0, locals := 21 } : Room) 0 0
def D0_workIn_c28 (b : Nat) (K2 : Int32 → Int32 → MM → Prop) (Q : Int32 → MM → Prop) (x1 : Int32) (x2 : Int32) (M : MM) : Prop := (fun v3 : Int32 => K2 x1 v3 M) (x2 + (1 : Int32))
def D0_workIn_c2 (b : Nat) (Q : Int32 → MM → Prop) : Nat → Int32 → Int32 → MM → Prop
  | 0, _, _, _ => False
  | n + 1, x1, x2, M => (((10 : Int32) ≤ x2 → Q (-9 : Int32) M) ∧ (¬ (10 : Int32) ≤ x2 → D0_stands b x2 M (fun (r1 : Int32) (M2 : MM) => ((r1 = 0 → D0_workIn_c28 b (D0_workIn_c2 b Q n) Q x1 x2 M2) ∧ (¬ r1 = 0 → ib (b + 3) x2 ∧ (((M2 (b + 3) (ix x2)) ≠ x1 → D0_workIn_c28 b (D0_workIn_c2 b Q n) Q x1 x2 M2) ∧ ((M2 (b + 3) (ix x2)) = x1 → Q x2 M2)))))))
def D0_workIn (b : Nat) (x1 : Int32) (M : MM) (Q : Int32 → MM → Prop) : Prop := D0_workIn_c2 b Q FU x1 (0 : Int32) M
set_option maxHeartbeats 4000000 in
set_option maxRecDepth 100000 in
theorem s0_workIn_c28 {G : GG} {b : Nat} (hb : ob b 0) {K2 : Int32 → Int32 → MM → Prop} {Q : Int32 → MM → Prop} (hK2 : ∀ (x1 : Int32) (x2 : Int32) (M : MM), K2 x1 x2 M → A0_workIn G Q 2 [(0, .ref (gA G b)), (1, .int x1), (2, .int x2)] [] M) : ∀ (x1 : Int32) (x2 : Int32) (M : MM), D0_workIn_c28 b K2 Q x1 x2 M → A0_workIn G Q 28 [(0, .ref (gA G b)), (1, .int x1), (2, .int x2)] [] M := by
  intro x1 x2 M h
  unfold D0_workIn_c28 at h
  refine a_iinc (L' := [(2, .int _), (0, .ref _), (1, .int _)]) dX0_workIn_28 2 rfl (show _ + Int32.ofInt (1 : Int) = _ + (1 : Int32) from rfl) (by decide) rfl ?_
  refine a_goto (tgt := 2) dX0_workIn_31 (by decide) ?_
  refine a_sub [1, 2, 0] rfl ?_
  exact hK2 _ _ _ h
set_option maxHeartbeats 4000000 in
set_option maxRecDepth 100000 in
theorem s0_workIn_c2 {G : GG} {b : Nat} (hb : ob b 0) {Q : Int32 → MM → Prop} : ∀ (n : Nat) (x1 : Int32) (x2 : Int32) (M : MM), D0_workIn_c2 b Q n x1 x2 M → A0_workIn G Q 2 [(0, .ref (gA G b)), (1, .int x1), (2, .int x2)] [] M := by
  intro n
  induction n with
  | zero => intro x1 x2 M h; exact h.elim
  | succ n ih =>
    intro x1 x2 M h
    unfold D0_workIn_c2 at h
    refine a_iload_n dX0_workIn_2 2 rfl ?_
    refine a_bipush (v := 10) dX0_workIn_3 (by decide) ?_
    refine a_icmp_ge (tgt := 34) dX0_workIn_5 (by decide) (fun c => ?_) (fun c => ?_)
    · have h := h.1 c
      refine a_bipush (v := -9) dX0_workIn_34 (by decide) ?_
      exact a_iret dX0_workIn_36 ⟨_, rfl, h⟩
    · have h := h.2 c
      refine a_aload_n dX0_workIn_8 0 rfl ?_
      refine a_iload_n dX0_workIn_9 2 rfl ?_
      refine a_callVi (n := 1) [.int _] (C := RX0) (ci := 0) (qc := (RX0, TX0, 9)) (fsF := fl0 G _) hb.1 (fun _ => en0 hb.2) rfl rfl dX0_workIn_10 (s0_stands hb h) (gV tbc kM_RX0_60_X0_stands kI_X0_stands kS_X0_stands kN_RX0 kC_X0_stands) rfl (by decide +kernel) ⟨Nat.le_of_ble_eq_true rfl, Nat.le_of_ble_eq_true rfl⟩ rfl rfl (Nat.le_of_ble_eq_true rfl) ⟨Nat.le_refl 0, Nat.le_refl 0⟩ (fun r M h => ?_)
      refine a_if_eq (tgt := 28) dX0_workIn_13 (by decide) (fun c => ?_) (fun c => ?_)
      · have h := h.1 c
        refine a_sub [0, 1, 2] rfl ?_
        exact s0_workIn_c28 hb ih _ _ _ h
      · have h := h.2 c
        refine a_aload_n dX0_workIn_16 0 rfl ?_
        refine a_get0 dX0_workIn_17 2 (by decide) (tbc _ kF_RX0_18) (fun w h => tbc _ (uW0 w h)) rfl hb rfl ?_
        refine a_iload_n dX0_workIn_20 2 rfl ?_
        refine a_iald dX0_workIn_21 h.1 ?_
        have h := h.2
        refine a_iload_n dX0_workIn_22 1 rfl ?_
        refine a_icmp_ne (tgt := 28) dX0_workIn_23 (by decide) (fun c => ?_) (fun c => ?_)
        · have h := h.1 c
          refine a_sub [0, 1, 2] rfl ?_
          exact s0_workIn_c28 hb ih _ _ _ h
        · have h := h.2 c
          refine a_iload_n dX0_workIn_26 2 rfl ?_
          exact a_iret dX0_workIn_27 ⟨_, rfl, h⟩
set_option maxHeartbeats 4000000 in
set_option maxRecDepth 100000 in
theorem s0_workIn {G : GG} {b : Nat} (hb : ob b 0) {x1 : Int32} {M : MM} {Q : Int32 → MM → Prop} (h : D0_workIn b x1 M Q) : CM G yX0_workIn (WY yX0_workIn cX0_workIn 3 (some .int)) 1 21 [.ref (gA G b), .int x1] M (qI Q) := by
  refine CM.of (cc := cX0_workIn) (nL := 3) (ret := (some .int)) (own := RX0) (by decide +kernel) rfl rfl (Nat.le_of_ble_eq_true rfl) ?_
  show A0_workIn G Q 0 [(0, .ref (gA G b)), (1, .int x1)] [] M
  unfold D0_workIn at h
  refine a_iconst (v := 0) dX0_workIn_0 (by decide) ?_
  refine a_istore_n (i := 2) (L' := [(2, .int _), (0, .ref _), (1, .int _)]) dX0_workIn_1 rfl (by decide) rfl ?_
  refine a_sub [1, 2, 0] rfl ?_
  exact s0_workIn_c2 hb _ _ _ _ h
end
section
/-! X2_add -/
theorem dX2_add_0 : decode cX2_add 0 = .ok (.aload_n 0, 1) := by decide +kernel
theorem dX2_add_1 : decode cX2_add 1 = .ok (.getfield 15, 3) := by decide +kernel
theorem dX2_add_4 : decode cX2_add 4 = .ok (.ifCond .lt 32, 3) := by decide +kernel
theorem dX2_add_7 : decode cX2_add 7 = .ok (.aload_n 0, 1) := by decide +kernel
theorem dX2_add_8 : decode cX2_add 8 = .ok (.getfield 15, 3) := by decide +kernel
theorem dX2_add_11 : decode cX2_add 11 = .ok (.bipush 96, 2) := by decide +kernel
theorem dX2_add_13 : decode cX2_add 13 = .ok (.if_icmp .ge 23, 3) := by decide +kernel
theorem dX2_add_16 : decode cX2_add 16 = .ok (.aload_n 0, 1) := by decide +kernel
theorem dX2_add_17 : decode cX2_add 17 = .ok (.getfield 9, 3) := by decide +kernel
theorem dX2_add_20 : decode cX2_add 20 = .ok (.aload_n 0, 1) := by decide +kernel
theorem dX2_add_21 : decode cX2_add 21 = .ok (.getfield 15, 3) := by decide +kernel
theorem dX2_add_24 : decode cX2_add 24 = .ok (.iload_n 1, 1) := by decide +kernel
theorem dX2_add_25 : decode cX2_add 25 = .ok (.iastore, 1) := by decide +kernel
theorem dX2_add_26 : decode cX2_add 26 = .ok (.aload_n 0, 1) := by decide +kernel
theorem dX2_add_27 : decode cX2_add 27 = .ok (.dup, 1) := by decide +kernel
theorem dX2_add_28 : decode cX2_add 28 = .ok (.getfield 15, 3) := by decide +kernel
theorem dX2_add_31 : decode cX2_add 31 = .ok (.iconst 1, 1) := by decide +kernel
theorem dX2_add_32 : decode cX2_add 32 = .ok (.iadd, 1) := by decide +kernel
theorem dX2_add_33 : decode cX2_add 33 = .ok (.putfield 15, 3) := by decide +kernel
theorem dX2_add_36 : decode cX2_add 36 = .ok (.return_, 1) := by decide +kernel
abbrev A2_add (G : GG) (Q : MM → Prop) := AW G E0 (MZ G (qV Q)) (WY yX2_add cX2_add 2 none) RX2 cX2_add 2 none ({ frames := 0, cells := 0, slots := 0, locals := 0 } : Room) 0 0
def D2_add (x1 : Int32) (M : MM) (Q : MM → Prop) : Prop := (((M 57 1) < 0 → Q M) ∧ (¬ (M 57 1) < 0 → (((96 : Int32) ≤ (M 57 1) → Q M) ∧ (¬ (96 : Int32) ≤ (M 57 1) → ib 58 (M 57 1) ∧ (fun M1 : MM => (fun M2 : MM => Q M2) (up M1 57 1 ((M1 57 1) + (1 : Int32)))) (up M 58 (ix (M 57 1)) x1)))))
set_option maxHeartbeats 4000000 in
set_option maxRecDepth 100000 in
theorem s2_add {G : GG} {x1 : Int32} {M : MM} {Q : MM → Prop} (h : D2_add x1 M Q) : CM G yX2_add (WY yX2_add cX2_add 2 none) 0 0 [.ref (gA G 57), .int x1] M (qV Q) := by
  refine CM.of (cc := cX2_add) (nL := 2) (ret := none) (own := RX2) (by decide +kernel) rfl rfl (Nat.le_of_ble_eq_true rfl) ?_
  show A2_add G Q 0 [(0, .ref (gA G 57)), (1, .int x1)] [] M
  unfold D2_add at h
  refine a_aload_n dX2_add_0 0 rfl ?_
  refine a_get1 dX2_add_1 1 (by decide) (tbc _ kF_RX2_15) (fun w h => tbc _ (uW1 w h)) rfl ob_57 rfl ?_
  refine a_if_lt (tgt := 36) dX2_add_4 (by decide) (fun c => ?_) (fun c => ?_)
  · have h := h.1 c
    exact a_vret dX2_add_36 ⟨rfl, h⟩
  · have h := h.2 c
    refine a_aload_n dX2_add_7 0 rfl ?_
    refine a_get1 dX2_add_8 1 (by decide) (tbc _ kF_RX2_15) (fun w h => tbc _ (uW1 w h)) rfl ob_57 rfl ?_
    refine a_bipush (v := 96) dX2_add_11 (by decide) ?_
    refine a_icmp_ge (tgt := 36) dX2_add_13 (by decide) (fun c => ?_) (fun c => ?_)
    · have h := h.1 c
      exact a_vret dX2_add_36 ⟨rfl, h⟩
    · have h := h.2 c
      refine a_aload_n dX2_add_16 0 rfl ?_
      refine a_get1 dX2_add_17 0 (by decide) (tbc _ kF_RX2_9) (fun w h => tbc _ (uW1 w h)) rfl ob_57 rfl ?_
      refine a_aload_n dX2_add_20 0 rfl ?_
      refine a_get1 dX2_add_21 1 (by decide) (tbc _ kF_RX2_15) (fun w h => tbc _ (uW1 w h)) rfl ob_57 rfl ?_
      refine a_iload_n dX2_add_24 1 rfl ?_
      refine a_iast dX2_add_25 h.1 ?_
      have h := h.2
      refine a_aload_n dX2_add_26 0 rfl ?_
      refine a_dup dX2_add_27 rfl ?_
      refine a_get1 dX2_add_28 1 (by decide) (tbc _ kF_RX2_15) (fun w h => tbc _ (uW1 w h)) rfl ob_57 rfl ?_
      refine a_iconst (v := 1) dX2_add_31 (by decide) ?_
      refine a_iadd dX2_add_32 ?_
      refine a_put1 dX2_add_33 1 (by decide) (tbc _ kF_RX2_15) (fun w h => tbc _ (uW1 w h)) rfl rfl rfl rfl ob_57 fs1_1 ?_
      exact a_vret dX2_add_36 ⟨rfl, h⟩

/-! X2_built -/
theorem dX2_built_0 : decode cX2_built 0 = .ok (.iload_n 0, 1) := by decide +kernel
theorem dX2_built_1 : decode cX2_built 1 = .ok (.invokestatic 64, 3) := by decide +kernel
theorem dX2_built_4 : decode cX2_built 4 = .ok (.ifCond .eq 27, 3) := by decide +kernel
theorem dX2_built_7 : decode cX2_built 7 = .ok (.iload_n 2, 1) := by decide +kernel
theorem dX2_built_8 : decode cX2_built 8 = .ok (.invokestatic 67, 3) := by decide +kernel
theorem dX2_built_11 : decode cX2_built 11 = .ok (.ifCond .eq 20, 3) := by decide +kernel
theorem dX2_built_14 : decode cX2_built 14 = .ok (.aload_n 3, 1) := by decide +kernel
theorem dX2_built_15 : decode cX2_built 15 = .ok (.getfield 70, 3) := by decide +kernel
theorem dX2_built_18 : decode cX2_built 18 = .ok (.bipush 8, 2) := by decide +kernel
theorem dX2_built_20 : decode cX2_built 20 = .ok (.if_icmp .ge 11, 3) := by decide +kernel
theorem dX2_built_23 : decode cX2_built 23 = .ok (.aload_n 3, 1) := by decide +kernel
theorem dX2_built_24 : decode cX2_built 24 = .ok (.iload_n 2, 1) := by decide +kernel
theorem dX2_built_25 : decode cX2_built 25 = .ok (.invokevirtual 75, 3) := by decide +kernel
theorem dX2_built_28 : decode cX2_built 28 = .ok (.ifCond .lt 5, 3) := by decide +kernel
theorem dX2_built_31 : decode cX2_built 31 = .ok (.iconst 0, 1) := by decide +kernel
theorem dX2_built_32 : decode cX2_built 32 = .ok (.ireturn, 1) := by decide +kernel
theorem dX2_built_33 : decode cX2_built 33 = .ok (.aload_n 3, 1) := by decide +kernel
theorem dX2_built_34 : decode cX2_built 34 = .ok (.iload_n 0, 1) := by decide +kernel
theorem dX2_built_35 : decode cX2_built 35 = .ok (.iload_n 1, 1) := by decide +kernel
theorem dX2_built_36 : decode cX2_built 36 = .ok (.iload_n 2, 1) := by decide +kernel
theorem dX2_built_37 : decode cX2_built 37 = .ok (.invokevirtual 78, 3) := by decide +kernel
theorem dX2_built_40 : decode cX2_built 40 = .ok (.iconst 1, 1) := by decide +kernel
theorem dX2_built_41 : decode cX2_built 41 = .ok (.ireturn, 1) := by decide +kernel
abbrev A2_built (G : GG) (Q : Int32 → MM → Prop) := AW G E0 (MZ G (qI Q)) (WY yX2_built cX2_built 4 (some .boolean)) RX2 cX2_built 4 (some .boolean) ({ frames := 2, cells := 0, slots := 0, locals := 43 } : Room) 0 0
def D2_built (x0 : Int32) (x1 : Int32) (x2 : Int32) (x3 : Nat) (M : MM) (Q : Int32 → MM → Prop) : Prop := D4_isKind x0 M (fun (r1 : Int32) (M2 : MM) => ((r1 = 0 → Q (0 : Int32) M2) ∧ (¬ r1 = 0 → D4_isCell x2 M2 (fun (r3 : Int32) (M4 : MM) => ((r3 = 0 → Q (0 : Int32) M4) ∧ (¬ r3 = 0 → (((8 : Int32) ≤ (M4 x3 4) → Q (0 : Int32) M4) ∧ (¬ (8 : Int32) ≤ (M4 x3 4) → D0_workIn x3 x2 M4 (fun (r5 : Int32) (M6 : MM) => ((r5 < 0 → D0_builds x3 x0 x1 x2 M6 (fun (M8 : MM) => Q (1 : Int32) M8)) ∧ (¬ r5 < 0 → Q (0 : Int32) M6)))))))))))
set_option maxHeartbeats 4000000 in
set_option maxRecDepth 100000 in
theorem s2_built {G : GG} {x0 : Int32} {x1 : Int32} {x2 : Int32} {x3 : Nat} {M : MM} {Q : Int32 → MM → Prop} (hx3 : ob x3 0) (h : D2_built x0 x1 x2 x3 M Q) : CM G yX2_built (WY yX2_built cX2_built 4 (some .boolean)) 2 43 [.int x0, .int x1, .int x2, .ref (gA G x3)] M (qI Q) := by
  refine CM.of (cc := cX2_built) (nL := 4) (ret := (some .boolean)) (own := RX2) (by decide +kernel) rfl rfl (Nat.le_of_ble_eq_true rfl) ?_
  show A2_built G Q 0 [(0, .int x0), (1, .int x1), (2, .int x2), (3, .ref (gA G x3))] [] M
  unfold D2_built at h
  refine a_iload_n dX2_built_0 0 rfl ?_
  refine a_callNi (n := 1) (host := RX4) [.int _] dX2_built_1 (s4_isKind h) (gW tbc kC_X4_isKind) (fun _ h => h.2.2.2.2.2.2.2.1) (tbc _ kN_RX4) (tbc _ kT_X4_isKind) rfl (by decide +kernel) ⟨Nat.le_of_ble_eq_true rfl, Nat.le_of_ble_eq_true rfl⟩ rfl rfl (Nat.le_of_ble_eq_true rfl) ⟨Nat.le_refl 0, Nat.le_refl 0⟩ (fun r M h => ?_)
  refine a_if_eq (tgt := 31) dX2_built_4 (by decide) (fun c => ?_) (fun c => ?_)
  · have h := h.1 c
    refine a_iconst (v := 0) dX2_built_31 (by decide) ?_
    exact a_zret dX2_built_32 (Or.inl rfl) ⟨_, rfl, h⟩
  · have h := h.2 c
    refine a_iload_n dX2_built_7 2 rfl ?_
    refine a_callNi (n := 1) (host := RX4) [.int _] dX2_built_8 (s4_isCell h) (gW tbc kC_X4_isCell) (fun _ h => h.2.2.2.2.2.2.2.2) (tbc _ kN_RX4) (tbc _ kT_X4_isCell) rfl (by decide +kernel) ⟨Nat.le_of_ble_eq_true rfl, Nat.le_of_ble_eq_true rfl⟩ rfl rfl (Nat.le_of_ble_eq_true rfl) ⟨Nat.le_refl 0, Nat.le_refl 0⟩ (fun r M h => ?_)
    refine a_if_eq (tgt := 31) dX2_built_11 (by decide) (fun c => ?_) (fun c => ?_)
    · have h := h.1 c
      refine a_iconst (v := 0) dX2_built_31 (by decide) ?_
      exact a_zret dX2_built_32 (Or.inl rfl) ⟨_, rfl, h⟩
    · have h := h.2 c
      refine a_aload_n dX2_built_14 3 rfl ?_
      refine a_getN0 dX2_built_15 4 (by decide) (fun _ h => h.2.2.2.2.2.1) (fun w h => tbc _ (uW0 w h)) rfl hx3 rfl ?_
      refine a_bipush (v := 8) dX2_built_18 (by decide) ?_
      refine a_icmp_ge (tgt := 31) dX2_built_20 (by decide) (fun c => ?_) (fun c => ?_)
      · have h := h.1 c
        refine a_iconst (v := 0) dX2_built_31 (by decide) ?_
        exact a_zret dX2_built_32 (Or.inl rfl) ⟨_, rfl, h⟩
      · have h := h.2 c
        refine a_aload_n dX2_built_23 3 rfl ?_
        refine a_iload_n dX2_built_24 2 rfl ?_
        refine a_callVi (n := 1) [.int _] (C := RX0) (ci := 0) (qc := (RX0, TX0, 9)) (fsF := fl0 G _) hx3.1 (fun _ => en0 hx3.2) rfl rfl dX2_built_25 (s0_workIn hx3 h) (gV tbc kM_RX2_75_X0_workIn kI_X0_workIn kS_X0_workIn kN_RX0 kC_X0_workIn) rfl (by decide +kernel) ⟨Nat.le_of_ble_eq_true rfl, Nat.le_of_ble_eq_true rfl⟩ rfl rfl (Nat.le_of_ble_eq_true rfl) ⟨Nat.le_refl 0, Nat.le_refl 0⟩ (fun r M h => ?_)
        refine a_if_lt (tgt := 33) dX2_built_28 (by decide) (fun c => ?_) (fun c => ?_)
        · have h := h.1 c
          refine a_aload_n dX2_built_33 3 rfl ?_
          refine a_iload_n dX2_built_34 0 rfl ?_
          refine a_iload_n dX2_built_35 1 rfl ?_
          refine a_iload_n dX2_built_36 2 rfl ?_
          refine a_callVv (n := 3) [.int _, .int _, .int _] (C := RX0) (ci := 0) (qc := (RX0, TX0, 9)) (fsF := fl0 G _) hx3.1 (fun _ => en0 hx3.2) rfl rfl dX2_built_37 (s0_builds hx3 h) (gV tbc kM_RX2_78_X0_builds kI_X0_builds kS_X0_builds kN_RX0 kC_X0_builds) rfl (by decide +kernel) ⟨Nat.le_of_ble_eq_true rfl, Nat.le_of_ble_eq_true rfl⟩ rfl rfl (Nat.le_of_ble_eq_true rfl) ⟨Nat.le_refl 0, Nat.le_refl 0⟩ (fun M h => ?_)
          refine a_iconst (v := 1) dX2_built_40 (by decide) ?_
          exact a_zret dX2_built_41 (Or.inr rfl) ⟨_, rfl, h⟩
        · have h := h.2 c
          refine a_iconst (v := 0) dX2_built_31 (by decide) ?_
          exact a_zret dX2_built_32 (Or.inl rfl) ⟨_, rfl, h⟩

/-! X2_signAt -/
theorem dX2_signAt_0 : decode cX2_signAt 0 = .ok (.iload_n 1, 1) := by decide +kernel
theorem dX2_signAt_1 : decode cX2_signAt 1 = .ok (.ifCond .lt 26, 3) := by decide +kernel
theorem dX2_signAt_4 : decode cX2_signAt 4 = .ok (.iload_n 1, 1) := by decide +kernel
theorem dX2_signAt_5 : decode cX2_signAt 5 = .ok (.aload_n 0, 1) := by decide +kernel
theorem dX2_signAt_6 : decode cX2_signAt 6 = .ok (.getfield 15, 3) := by decide +kernel
theorem dX2_signAt_9 : decode cX2_signAt 9 = .ok (.if_icmp .ge 18, 3) := by decide +kernel
theorem dX2_signAt_12 : decode cX2_signAt 12 = .ok (.iload_n 1, 1) := by decide +kernel
theorem dX2_signAt_13 : decode cX2_signAt 13 = .ok (.bipush 96, 2) := by decide +kernel
theorem dX2_signAt_15 : decode cX2_signAt 15 = .ok (.if_icmp .ge 12, 3) := by decide +kernel
theorem dX2_signAt_18 : decode cX2_signAt 18 = .ok (.aload_n 0, 1) := by decide +kernel
theorem dX2_signAt_19 : decode cX2_signAt 19 = .ok (.getfield 9, 3) := by decide +kernel
theorem dX2_signAt_22 : decode cX2_signAt 22 = .ok (.iload_n 1, 1) := by decide +kernel
theorem dX2_signAt_23 : decode cX2_signAt 23 = .ok (.iaload, 1) := by decide +kernel
theorem dX2_signAt_24 : decode cX2_signAt 24 = .ok (.goto 5, 3) := by decide +kernel
theorem dX2_signAt_27 : decode cX2_signAt 27 = .ok (.bipush (-9), 2) := by decide +kernel
theorem dX2_signAt_29 : decode cX2_signAt 29 = .ok (.ireturn, 1) := by decide +kernel
abbrev A2_signAt (G : GG) (Q : Int32 → MM → Prop) := AW G E0 (MZ G (qI Q)) (WY yX2_signAt cX2_signAt 2 (some .int)) RX2 cX2_signAt 2 (some .int) ({ frames := 0, cells := 0, slots := 0, locals := 0 } : Room) 0 0
def D2_signAt (x1 : Int32) (M : MM) (Q : Int32 → MM → Prop) : Prop := ((x1 < 0 → Q (-9 : Int32) M) ∧ (¬ x1 < 0 → (((M 57 1) ≤ x1 → Q (-9 : Int32) M) ∧ (¬ (M 57 1) ≤ x1 → (((96 : Int32) ≤ x1 → Q (-9 : Int32) M) ∧ (¬ (96 : Int32) ≤ x1 → ib 58 x1 ∧ Q (M 58 (ix x1)) M))))))
set_option maxHeartbeats 4000000 in
set_option maxRecDepth 100000 in
theorem s2_signAt {G : GG} {x1 : Int32} {M : MM} {Q : Int32 → MM → Prop} (h : D2_signAt x1 M Q) : CM G yX2_signAt (WY yX2_signAt cX2_signAt 2 (some .int)) 0 0 [.ref (gA G 57), .int x1] M (qI Q) := by
  refine CM.of (cc := cX2_signAt) (nL := 2) (ret := (some .int)) (own := RX2) (by decide +kernel) rfl rfl (Nat.le_of_ble_eq_true rfl) ?_
  show A2_signAt G Q 0 [(0, .ref (gA G 57)), (1, .int x1)] [] M
  unfold D2_signAt at h
  refine a_iload_n dX2_signAt_0 1 rfl ?_
  refine a_if_lt (tgt := 27) dX2_signAt_1 (by decide) (fun c => ?_) (fun c => ?_)
  · have h := h.1 c
    refine a_bipush (v := -9) dX2_signAt_27 (by decide) ?_
    exact a_iret dX2_signAt_29 ⟨_, rfl, h⟩
  · have h := h.2 c
    refine a_iload_n dX2_signAt_4 1 rfl ?_
    refine a_aload_n dX2_signAt_5 0 rfl ?_
    refine a_get1 dX2_signAt_6 1 (by decide) (tbc _ kF_RX2_15) (fun w h => tbc _ (uW1 w h)) rfl ob_57 rfl ?_
    refine a_icmp_ge (tgt := 27) dX2_signAt_9 (by decide) (fun c => ?_) (fun c => ?_)
    · have h := h.1 c
      refine a_bipush (v := -9) dX2_signAt_27 (by decide) ?_
      exact a_iret dX2_signAt_29 ⟨_, rfl, h⟩
    · have h := h.2 c
      refine a_iload_n dX2_signAt_12 1 rfl ?_
      refine a_bipush (v := 96) dX2_signAt_13 (by decide) ?_
      refine a_icmp_ge (tgt := 27) dX2_signAt_15 (by decide) (fun c => ?_) (fun c => ?_)
      · have h := h.1 c
        refine a_bipush (v := -9) dX2_signAt_27 (by decide) ?_
        exact a_iret dX2_signAt_29 ⟨_, rfl, h⟩
      · have h := h.2 c
        refine a_aload_n dX2_signAt_18 0 rfl ?_
        refine a_get1 dX2_signAt_19 0 (by decide) (tbc _ kF_RX2_9) (fun w h => tbc _ (uW1 w h)) rfl ob_57 rfl ?_
        refine a_iload_n dX2_signAt_22 1 rfl ?_
        refine a_iald dX2_signAt_23 h.1 ?_
        have h := h.2
        refine a_goto (tgt := 29) dX2_signAt_24 (by decide) ?_
        exact a_iret dX2_signAt_29 ⟨_, rfl, h⟩

/-! X2_isDigit -/
theorem dX2_isDigit_0 : decode cX2_isDigit 0 = .ok (.aload_n 0, 1) := by decide +kernel
theorem dX2_isDigit_1 : decode cX2_isDigit 1 = .ok (.iload_n 1, 1) := by decide +kernel
theorem dX2_isDigit_2 : decode cX2_isDigit 2 = .ok (.invokevirtual 19, 3) := by decide +kernel
theorem dX2_isDigit_5 : decode cX2_isDigit 5 = .ok (.bipush 48, 2) := by decide +kernel
theorem dX2_isDigit_7 : decode cX2_isDigit 7 = .ok (.if_icmp .lt 17, 3) := by decide +kernel
theorem dX2_isDigit_10 : decode cX2_isDigit 10 = .ok (.aload_n 0, 1) := by decide +kernel
theorem dX2_isDigit_11 : decode cX2_isDigit 11 = .ok (.iload_n 1, 1) := by decide +kernel
theorem dX2_isDigit_12 : decode cX2_isDigit 12 = .ok (.invokevirtual 19, 3) := by decide +kernel
theorem dX2_isDigit_15 : decode cX2_isDigit 15 = .ok (.bipush 57, 2) := by decide +kernel
theorem dX2_isDigit_17 : decode cX2_isDigit 17 = .ok (.if_icmp .gt 7, 3) := by decide +kernel
theorem dX2_isDigit_20 : decode cX2_isDigit 20 = .ok (.iconst 1, 1) := by decide +kernel
theorem dX2_isDigit_21 : decode cX2_isDigit 21 = .ok (.goto 4, 3) := by decide +kernel
theorem dX2_isDigit_24 : decode cX2_isDigit 24 = .ok (.iconst 0, 1) := by decide +kernel
theorem dX2_isDigit_25 : decode cX2_isDigit 25 = .ok (.ireturn, 1) := by decide +kernel
abbrev A2_isDigit (G : GG) (Q : Int32 → MM → Prop) := AW G E0 (MZ G (qI Q)) (WY yX2_isDigit cX2_isDigit 2 (some .boolean)) RX2 cX2_isDigit 2 (some .boolean) ({ frames := 1, cells := 0, slots := 0, locals := 21 } : Room) 0 0
def D2_isDigit (x1 : Int32) (M : MM) (Q : Int32 → MM → Prop) : Prop := D2_signAt x1 M (fun (r1 : Int32) (M2 : MM) => ((r1 < (48 : Int32) → Q (0 : Int32) M2) ∧ (¬ r1 < (48 : Int32) → D2_signAt x1 M2 (fun (r3 : Int32) (M4 : MM) => (((57 : Int32) < r3 → Q (0 : Int32) M4) ∧ (¬ (57 : Int32) < r3 → Q (1 : Int32) M4))))))
set_option maxHeartbeats 4000000 in
set_option maxRecDepth 100000 in
theorem s2_isDigit {G : GG} {x1 : Int32} {M : MM} {Q : Int32 → MM → Prop} (h : D2_isDigit x1 M Q) : CM G yX2_isDigit (WY yX2_isDigit cX2_isDigit 2 (some .boolean)) 1 21 [.ref (gA G 57), .int x1] M (qI Q) := by
  refine CM.of (cc := cX2_isDigit) (nL := 2) (ret := (some .boolean)) (own := RX2) (by decide +kernel) rfl rfl (Nat.le_of_ble_eq_true rfl) ?_
  show A2_isDigit G Q 0 [(0, .ref (gA G 57)), (1, .int x1)] [] M
  unfold D2_isDigit at h
  refine a_aload_n dX2_isDigit_0 0 rfl ?_
  refine a_iload_n dX2_isDigit_1 1 rfl ?_
  refine a_callVi (n := 1) [.int _] (C := RX2) (ci := 1) (qc := (RX2, TX2, 2)) (fsF := fl1 G _) ob_57.1 (fun _ => en1 ob_57.2) rfl rfl dX2_isDigit_2 (s2_signAt h) (gV tbc kM_RX2_19_X2_signAt kI_X2_signAt kS_X2_signAt kN_RX2 kC_X2_signAt) rfl (by decide +kernel) ⟨Nat.le_of_ble_eq_true rfl, Nat.le_of_ble_eq_true rfl⟩ rfl rfl (Nat.le_of_ble_eq_true rfl) ⟨Nat.le_refl 0, Nat.le_refl 0⟩ (fun r M h => ?_)
  refine a_bipush (v := 48) dX2_isDigit_5 (by decide) ?_
  refine a_icmp_lt (tgt := 24) dX2_isDigit_7 (by decide) (fun c => ?_) (fun c => ?_)
  · have h := h.1 c
    refine a_iconst (v := 0) dX2_isDigit_24 (by decide) ?_
    exact a_zret dX2_isDigit_25 (Or.inl rfl) ⟨_, rfl, h⟩
  · have h := h.2 c
    refine a_aload_n dX2_isDigit_10 0 rfl ?_
    refine a_iload_n dX2_isDigit_11 1 rfl ?_
    refine a_callVi (n := 1) [.int _] (C := RX2) (ci := 1) (qc := (RX2, TX2, 2)) (fsF := fl1 G _) ob_57.1 (fun _ => en1 ob_57.2) rfl rfl dX2_isDigit_12 (s2_signAt h) (gV tbc kM_RX2_19_X2_signAt kI_X2_signAt kS_X2_signAt kN_RX2 kC_X2_signAt) rfl (by decide +kernel) ⟨Nat.le_of_ble_eq_true rfl, Nat.le_of_ble_eq_true rfl⟩ rfl rfl (Nat.le_of_ble_eq_true rfl) ⟨Nat.le_refl 0, Nat.le_refl 0⟩ (fun r M h => ?_)
    refine a_bipush (v := 57) dX2_isDigit_15 (by decide) ?_
    refine a_icmp_gt (tgt := 24) dX2_isDigit_17 (by decide) (fun c => ?_) (fun c => ?_)
    · have h := h.1 c
      refine a_iconst (v := 0) dX2_isDigit_24 (by decide) ?_
      exact a_zret dX2_isDigit_25 (Or.inl rfl) ⟨_, rfl, h⟩
    · have h := h.2 c
      refine a_iconst (v := 1) dX2_isDigit_20 (by decide) ?_
      refine a_goto (tgt := 25) dX2_isDigit_21 (by decide) ?_
      exact a_zret dX2_isDigit_25 (Or.inr rfl) ⟨_, rfl, h⟩

/-! X2_digit -/
theorem dX2_digit_0 : decode cX2_digit 0 = .ok (.aload_n 0, 1) := by decide +kernel
theorem dX2_digit_1 : decode cX2_digit 1 = .ok (.iload_n 1, 1) := by decide +kernel
theorem dX2_digit_2 : decode cX2_digit 2 = .ok (.invokevirtual 23, 3) := by decide +kernel
theorem dX2_digit_5 : decode cX2_digit 5 = .ok (.ifCond .eq 14, 3) := by decide +kernel
theorem dX2_digit_8 : decode cX2_digit 8 = .ok (.aload_n 0, 1) := by decide +kernel
theorem dX2_digit_9 : decode cX2_digit 9 = .ok (.iload_n 1, 1) := by decide +kernel
theorem dX2_digit_10 : decode cX2_digit 10 = .ok (.invokevirtual 19, 3) := by decide +kernel
theorem dX2_digit_13 : decode cX2_digit 13 = .ok (.bipush 48, 2) := by decide +kernel
theorem dX2_digit_15 : decode cX2_digit 15 = .ok (.isub, 1) := by decide +kernel
theorem dX2_digit_16 : decode cX2_digit 16 = .ok (.goto 4, 3) := by decide +kernel
theorem dX2_digit_19 : decode cX2_digit 19 = .ok (.iconst 0, 1) := by decide +kernel
theorem dX2_digit_20 : decode cX2_digit 20 = .ok (.ireturn, 1) := by decide +kernel
abbrev A2_digit (G : GG) (Q : Int32 → MM → Prop) := AW G E0 (MZ G (qI Q)) (WY yX2_digit cX2_digit 2 (some .int)) RX2 cX2_digit 2 (some .int) ({ frames := 2, cells := 0, slots := 0, locals := 42 } : Room) 0 0
def D2_digit (x1 : Int32) (M : MM) (Q : Int32 → MM → Prop) : Prop := D2_isDigit x1 M (fun (r1 : Int32) (M2 : MM) => ((r1 = 0 → Q (0 : Int32) M2) ∧ (¬ r1 = 0 → D2_signAt x1 M2 (fun (r3 : Int32) (M4 : MM) => Q (r3 - (48 : Int32)) M4))))
set_option maxHeartbeats 4000000 in
set_option maxRecDepth 100000 in
theorem s2_digit {G : GG} {x1 : Int32} {M : MM} {Q : Int32 → MM → Prop} (h : D2_digit x1 M Q) : CM G yX2_digit (WY yX2_digit cX2_digit 2 (some .int)) 2 42 [.ref (gA G 57), .int x1] M (qI Q) := by
  refine CM.of (cc := cX2_digit) (nL := 2) (ret := (some .int)) (own := RX2) (by decide +kernel) rfl rfl (Nat.le_of_ble_eq_true rfl) ?_
  show A2_digit G Q 0 [(0, .ref (gA G 57)), (1, .int x1)] [] M
  unfold D2_digit at h
  refine a_aload_n dX2_digit_0 0 rfl ?_
  refine a_iload_n dX2_digit_1 1 rfl ?_
  refine a_callVi (n := 1) [.int _] (C := RX2) (ci := 1) (qc := (RX2, TX2, 2)) (fsF := fl1 G _) ob_57.1 (fun _ => en1 ob_57.2) rfl rfl dX2_digit_2 (s2_isDigit h) (gV tbc kM_RX2_23_X2_isDigit kI_X2_isDigit kS_X2_isDigit kN_RX2 kC_X2_isDigit) rfl (by decide +kernel) ⟨Nat.le_of_ble_eq_true rfl, Nat.le_of_ble_eq_true rfl⟩ rfl rfl (Nat.le_of_ble_eq_true rfl) ⟨Nat.le_refl 0, Nat.le_refl 0⟩ (fun r M h => ?_)
  refine a_if_eq (tgt := 19) dX2_digit_5 (by decide) (fun c => ?_) (fun c => ?_)
  · have h := h.1 c
    refine a_iconst (v := 0) dX2_digit_19 (by decide) ?_
    exact a_iret dX2_digit_20 ⟨_, rfl, h⟩
  · have h := h.2 c
    refine a_aload_n dX2_digit_8 0 rfl ?_
    refine a_iload_n dX2_digit_9 1 rfl ?_
    refine a_callVi (n := 1) [.int _] (C := RX2) (ci := 1) (qc := (RX2, TX2, 2)) (fsF := fl1 G _) ob_57.1 (fun _ => en1 ob_57.2) rfl rfl dX2_digit_10 (s2_signAt h) (gV tbc kM_RX2_19_X2_signAt kI_X2_signAt kS_X2_signAt kN_RX2 kC_X2_signAt) rfl (by decide +kernel) ⟨Nat.le_of_ble_eq_true rfl, Nat.le_of_ble_eq_true rfl⟩ rfl rfl (Nat.le_of_ble_eq_true rfl) ⟨Nat.le_refl 0, Nat.le_refl 0⟩ (fun r M h => ?_)
    refine a_bipush (v := 48) dX2_digit_13 (by decide) ?_
    refine a_isub dX2_digit_15 ?_
    refine a_goto (tgt := 20) dX2_digit_16 (by decide) ?_
    exact a_iret dX2_digit_20 ⟨_, rfl, h⟩

/-! X2_twoDigits -/
theorem dX2_twoDigits_0 : decode cX2_twoDigits 0 = .ok (.bipush 10, 2) := by decide +kernel
theorem dX2_twoDigits_2 : decode cX2_twoDigits 2 = .ok (.aload_n 0, 1) := by decide +kernel
theorem dX2_twoDigits_3 : decode cX2_twoDigits 3 = .ok (.iload_n 1, 1) := by decide +kernel
theorem dX2_twoDigits_4 : decode cX2_twoDigits 4 = .ok (.invokevirtual 27, 3) := by decide +kernel
theorem dX2_twoDigits_7 : decode cX2_twoDigits 7 = .ok (.imul, 1) := by decide +kernel
theorem dX2_twoDigits_8 : decode cX2_twoDigits 8 = .ok (.aload_n 0, 1) := by decide +kernel
theorem dX2_twoDigits_9 : decode cX2_twoDigits 9 = .ok (.iload_n 1, 1) := by decide +kernel
theorem dX2_twoDigits_10 : decode cX2_twoDigits 10 = .ok (.iconst 1, 1) := by decide +kernel
theorem dX2_twoDigits_11 : decode cX2_twoDigits 11 = .ok (.iadd, 1) := by decide +kernel
theorem dX2_twoDigits_12 : decode cX2_twoDigits 12 = .ok (.invokevirtual 27, 3) := by decide +kernel
theorem dX2_twoDigits_15 : decode cX2_twoDigits 15 = .ok (.iadd, 1) := by decide +kernel
theorem dX2_twoDigits_16 : decode cX2_twoDigits 16 = .ok (.ireturn, 1) := by decide +kernel
abbrev A2_twoDigits (G : GG) (Q : Int32 → MM → Prop) := AW G E0 (MZ G (qI Q)) (WY yX2_twoDigits cX2_twoDigits 2 (some .int)) RX2 cX2_twoDigits 2 (some .int) ({ frames := 3, cells := 0, slots := 0, locals := 63 } : Room) 0 0
def D2_twoDigits (x1 : Int32) (M : MM) (Q : Int32 → MM → Prop) : Prop := D2_digit x1 M (fun (r1 : Int32) (M2 : MM) => D2_digit (x1 + (1 : Int32)) M2 (fun (r3 : Int32) (M4 : MM) => Q (((10 : Int32) * r1) + r3) M4))
set_option maxHeartbeats 4000000 in
set_option maxRecDepth 100000 in
theorem s2_twoDigits {G : GG} {x1 : Int32} {M : MM} {Q : Int32 → MM → Prop} (h : D2_twoDigits x1 M Q) : CM G yX2_twoDigits (WY yX2_twoDigits cX2_twoDigits 2 (some .int)) 3 63 [.ref (gA G 57), .int x1] M (qI Q) := by
  refine CM.of (cc := cX2_twoDigits) (nL := 2) (ret := (some .int)) (own := RX2) (by decide +kernel) rfl rfl (Nat.le_of_ble_eq_true rfl) ?_
  show A2_twoDigits G Q 0 [(0, .ref (gA G 57)), (1, .int x1)] [] M
  unfold D2_twoDigits at h
  refine a_bipush (v := 10) dX2_twoDigits_0 (by decide) ?_
  refine a_aload_n dX2_twoDigits_2 0 rfl ?_
  refine a_iload_n dX2_twoDigits_3 1 rfl ?_
  refine a_callVi (n := 1) [.int _] (C := RX2) (ci := 1) (qc := (RX2, TX2, 2)) (fsF := fl1 G _) ob_57.1 (fun _ => en1 ob_57.2) rfl rfl dX2_twoDigits_4 (s2_digit h) (gV tbc kM_RX2_27_X2_digit kI_X2_digit kS_X2_digit kN_RX2 kC_X2_digit) rfl (by decide +kernel) ⟨Nat.le_of_ble_eq_true rfl, Nat.le_of_ble_eq_true rfl⟩ rfl rfl (Nat.le_of_ble_eq_true rfl) ⟨Nat.le_refl 0, Nat.le_refl 0⟩ (fun r M h => ?_)
  refine a_imul dX2_twoDigits_7 ?_
  refine a_aload_n dX2_twoDigits_8 0 rfl ?_
  refine a_iload_n dX2_twoDigits_9 1 rfl ?_
  refine a_iconst (v := 1) dX2_twoDigits_10 (by decide) ?_
  refine a_iadd dX2_twoDigits_11 ?_
  refine a_callVi (n := 1) [.int _] (C := RX2) (ci := 1) (qc := (RX2, TX2, 2)) (fsF := fl1 G _) ob_57.1 (fun _ => en1 ob_57.2) rfl rfl dX2_twoDigits_12 (s2_digit h) (gV tbc kM_RX2_27_X2_digit kI_X2_digit kS_X2_digit kN_RX2 kC_X2_digit) rfl (by decide +kernel) ⟨Nat.le_of_ble_eq_true rfl, Nat.le_of_ble_eq_true rfl⟩ rfl rfl (Nat.le_of_ble_eq_true rfl) ⟨Nat.le_refl 0, Nat.le_refl 0⟩ (fun r M h => ?_)
  refine a_iadd dX2_twoDigits_15 ?_
  exact a_iret dX2_twoDigits_16 ⟨_, rfl, h⟩

/-! X2_lost -/
theorem dX2_lost_0 : decode cX2_lost 0 = .ok (.aload_n 1, 1) := by decide +kernel
theorem dX2_lost_1 : decode cX2_lost 1 = .ok (.iload_n 0, 1) := by decide +kernel
theorem dX2_lost_2 : decode cX2_lost 2 = .ok (.invokevirtual 82, 3) := by decide +kernel
theorem dX2_lost_5 : decode cX2_lost 5 = .ok (.istore_n 2, 1) := by decide +kernel
theorem dX2_lost_6 : decode cX2_lost 6 = .ok (.aload_n 1, 1) := by decide +kernel
theorem dX2_lost_7 : decode cX2_lost 7 = .ok (.iload_n 0, 1) := by decide +kernel
theorem dX2_lost_8 : decode cX2_lost 8 = .ok (.invokevirtual 85, 3) := by decide +kernel
theorem dX2_lost_11 : decode cX2_lost 11 = .ok (.iload_n 2, 1) := by decide +kernel
theorem dX2_lost_12 : decode cX2_lost 12 = .ok (.ireturn, 1) := by decide +kernel
abbrev A2_lost (G : GG) (Q : Int32 → MM → Prop) := AW G E0 (MZ G (qI Q)) (WY yX2_lost cX2_lost 3 (some .boolean)) RX2 cX2_lost 3 (some .boolean) ({ frames := 2, cells := 0, slots := 0, locals := 42 } : Room) 0 0
def D2_lost (x0 : Int32) (x1 : Nat) (M : MM) (Q : Int32 → MM → Prop) : Prop := D0_stands x1 x0 M (fun (r1 : Int32) (M2 : MM) => D0_loses x1 x0 M2 (fun (M4 : MM) => bo r1 ∧ Q r1 M4))
set_option maxHeartbeats 4000000 in
set_option maxRecDepth 100000 in
theorem s2_lost {G : GG} {x0 : Int32} {x1 : Nat} {M : MM} {Q : Int32 → MM → Prop} (hx1 : ob x1 0) (h : D2_lost x0 x1 M Q) : CM G yX2_lost (WY yX2_lost cX2_lost 3 (some .boolean)) 2 42 [.int x0, .ref (gA G x1)] M (qI Q) := by
  refine CM.of (cc := cX2_lost) (nL := 3) (ret := (some .boolean)) (own := RX2) (by decide +kernel) rfl rfl (Nat.le_of_ble_eq_true rfl) ?_
  show A2_lost G Q 0 [(0, .int x0), (1, .ref (gA G x1))] [] M
  unfold D2_lost at h
  refine a_aload_n dX2_lost_0 1 rfl ?_
  refine a_iload_n dX2_lost_1 0 rfl ?_
  refine a_callVi (n := 1) [.int _] (C := RX0) (ci := 0) (qc := (RX0, TX0, 9)) (fsF := fl0 G _) hx1.1 (fun _ => en0 hx1.2) rfl rfl dX2_lost_2 (s0_stands hx1 h) (gV tbc kM_RX2_82_X0_stands kI_X0_stands kS_X0_stands kN_RX0 kC_X0_stands) rfl (by decide +kernel) ⟨Nat.le_of_ble_eq_true rfl, Nat.le_of_ble_eq_true rfl⟩ rfl rfl (Nat.le_of_ble_eq_true rfl) ⟨Nat.le_refl 0, Nat.le_refl 0⟩ (fun r M h => ?_)
  refine a_istore_n (i := 2) (L' := [(2, .int _), (0, .int _), (1, .ref _)]) dX2_lost_5 rfl (by decide) rfl ?_
  refine a_aload_n dX2_lost_6 2 rfl ?_
  refine a_iload_n dX2_lost_7 1 rfl ?_
  refine a_callVv (n := 1) [.int _] (C := RX0) (ci := 0) (qc := (RX0, TX0, 9)) (fsF := fl0 G _) hx1.1 (fun _ => en0 hx1.2) rfl rfl dX2_lost_8 (s0_loses hx1 h) (gV tbc kM_RX2_85_X0_loses kI_X0_loses kS_X0_loses kN_RX0 kC_X0_loses) rfl (by decide +kernel) ⟨Nat.le_of_ble_eq_true rfl, Nat.le_of_ble_eq_true rfl⟩ rfl rfl (Nat.le_of_ble_eq_true rfl) ⟨Nat.le_refl 0, Nat.le_refl 0⟩ (fun M h => ?_)
  refine a_iload_n dX2_lost_11 0 rfl ?_
  exact a_zret dX2_lost_12 h.1 ⟨_, rfl, h.2⟩

/-! X2_wornBy -/
theorem dX2_wornBy_0 : decode cX2_wornBy 0 = .ok (.aload_n 2, 1) := by decide +kernel
theorem dX2_wornBy_1 : decode cX2_wornBy 1 = .ok (.iload_n 0, 1) := by decide +kernel
theorem dX2_wornBy_2 : decode cX2_wornBy 2 = .ok (.invokevirtual 82, 3) := by decide +kernel
theorem dX2_wornBy_5 : decode cX2_wornBy 5 = .ok (.ifCond .ne 5, 3) := by decide +kernel
theorem dX2_wornBy_8 : decode cX2_wornBy 8 = .ok (.iconst 0, 1) := by decide +kernel
theorem dX2_wornBy_9 : decode cX2_wornBy 9 = .ok (.ireturn, 1) := by decide +kernel
theorem dX2_wornBy_10 : decode cX2_wornBy 10 = .ok (.aload_n 2, 1) := by decide +kernel
theorem dX2_wornBy_11 : decode cX2_wornBy 11 = .ok (.iload_n 0, 1) := by decide +kernel
theorem dX2_wornBy_12 : decode cX2_wornBy 12 = .ok (.iload_n 1, 1) := by decide +kernel
theorem dX2_wornBy_13 : decode cX2_wornBy 13 = .ok (.invokevirtual 89, 3) := by decide +kernel
theorem dX2_wornBy_16 : decode cX2_wornBy 16 = .ok (.iconst 1, 1) := by decide +kernel
theorem dX2_wornBy_17 : decode cX2_wornBy 17 = .ok (.ireturn, 1) := by decide +kernel
abbrev A2_wornBy (G : GG) (Q : Int32 → MM → Prop) := AW G E0 (MZ G (qI Q)) (WY yX2_wornBy cX2_wornBy 3 (some .boolean)) RX2 cX2_wornBy 3 (some .boolean) ({ frames := 2, cells := 0, slots := 0, locals := 43 } : Room) 0 0
def D2_wornBy (x0 : Int32) (x1 : Int32) (x2 : Nat) (M : MM) (Q : Int32 → MM → Prop) : Prop := D0_stands x2 x0 M (fun (r1 : Int32) (M2 : MM) => ((r1 ≠ 0 → D0_wears x2 x0 x1 M2 (fun (M4 : MM) => Q (1 : Int32) M4)) ∧ (r1 = 0 → Q (0 : Int32) M2)))
set_option maxHeartbeats 4000000 in
set_option maxRecDepth 100000 in
theorem s2_wornBy {G : GG} {x0 : Int32} {x1 : Int32} {x2 : Nat} {M : MM} {Q : Int32 → MM → Prop} (hx2 : ob x2 0) (h : D2_wornBy x0 x1 x2 M Q) : CM G yX2_wornBy (WY yX2_wornBy cX2_wornBy 3 (some .boolean)) 2 43 [.int x0, .int x1, .ref (gA G x2)] M (qI Q) := by
  refine CM.of (cc := cX2_wornBy) (nL := 3) (ret := (some .boolean)) (own := RX2) (by decide +kernel) rfl rfl (Nat.le_of_ble_eq_true rfl) ?_
  show A2_wornBy G Q 0 [(0, .int x0), (1, .int x1), (2, .ref (gA G x2))] [] M
  unfold D2_wornBy at h
  refine a_aload_n dX2_wornBy_0 2 rfl ?_
  refine a_iload_n dX2_wornBy_1 0 rfl ?_
  refine a_callVi (n := 1) [.int _] (C := RX0) (ci := 0) (qc := (RX0, TX0, 9)) (fsF := fl0 G _) hx2.1 (fun _ => en0 hx2.2) rfl rfl dX2_wornBy_2 (s0_stands hx2 h) (gV tbc kM_RX2_82_X0_stands kI_X0_stands kS_X0_stands kN_RX0 kC_X0_stands) rfl (by decide +kernel) ⟨Nat.le_of_ble_eq_true rfl, Nat.le_of_ble_eq_true rfl⟩ rfl rfl (Nat.le_of_ble_eq_true rfl) ⟨Nat.le_refl 0, Nat.le_refl 0⟩ (fun r M h => ?_)
  refine a_if_ne (tgt := 10) dX2_wornBy_5 (by decide) (fun c => ?_) (fun c => ?_)
  · have h := h.1 c
    refine a_aload_n dX2_wornBy_10 2 rfl ?_
    refine a_iload_n dX2_wornBy_11 0 rfl ?_
    refine a_iload_n dX2_wornBy_12 1 rfl ?_
    refine a_callVv (n := 2) [.int _, .int _] (C := RX0) (ci := 0) (qc := (RX0, TX0, 9)) (fsF := fl0 G _) hx2.1 (fun _ => en0 hx2.2) rfl rfl dX2_wornBy_13 (s0_wears hx2 h) (gV tbc kM_RX2_89_X0_wears kI_X0_wears kS_X0_wears kN_RX0 kC_X0_wears) rfl (by decide +kernel) ⟨Nat.le_of_ble_eq_true rfl, Nat.le_of_ble_eq_true rfl⟩ rfl rfl (Nat.le_of_ble_eq_true rfl) ⟨Nat.le_refl 0, Nat.le_refl 0⟩ (fun M h => ?_)
    refine a_iconst (v := 1) dX2_wornBy_16 (by decide) ?_
    exact a_zret dX2_wornBy_17 (Or.inr rfl) ⟨_, rfl, h⟩
  · have h := h.2 c
    refine a_iconst (v := 0) dX2_wornBy_8 (by decide) ?_
    exact a_zret dX2_wornBy_9 (Or.inl rfl) ⟨_, rfl, h⟩

/-! X2_paid -/
theorem dX2_paid_0 : decode cX2_paid 0 = .ok (.aload_n 0, 1) := by decide +kernel
theorem dX2_paid_1 : decode cX2_paid 1 = .ok (.invokevirtual 93, 3) := by decide +kernel
theorem dX2_paid_4 : decode cX2_paid 4 = .ok (.iconst 1, 1) := by decide +kernel
theorem dX2_paid_5 : decode cX2_paid 5 = .ok (.ireturn, 1) := by decide +kernel
abbrev A2_paid (G : GG) (Q : Int32 → MM → Prop) := AW G E0 (MZ G (qI Q)) (WY yX2_paid cX2_paid 1 (some .boolean)) RX2 cX2_paid 1 (some .boolean) ({ frames := 2, cells := 0, slots := 0, locals := 41 } : Room) 0 0
def D2_paid (x0 : Nat) (M : MM) (Q : Int32 → MM → Prop) : Prop := D0_settles x0 M (fun (M2 : MM) => Q (1 : Int32) M2)
set_option maxHeartbeats 4000000 in
set_option maxRecDepth 100000 in
theorem s2_paid {G : GG} {x0 : Nat} {M : MM} {Q : Int32 → MM → Prop} (hx0 : ob x0 0) (h : D2_paid x0 M Q) : CM G yX2_paid (WY yX2_paid cX2_paid 1 (some .boolean)) 2 41 [.ref (gA G x0)] M (qI Q) := by
  refine CM.of (cc := cX2_paid) (nL := 1) (ret := (some .boolean)) (own := RX2) (by decide +kernel) rfl rfl (Nat.le_of_ble_eq_true rfl) ?_
  show A2_paid G Q 0 [(0, .ref (gA G x0))] [] M
  unfold D2_paid at h
  refine a_aload_n dX2_paid_0 0 rfl ?_
  refine a_callVv (n := 0) [] (C := RX0) (ci := 0) (qc := (RX0, TX0, 9)) (fsF := fl0 G _) hx0.1 (fun _ => en0 hx0.2) rfl rfl dX2_paid_1 (s0_settles hx0 h) (gV tbc kM_RX2_93_X0_settles kI_X0_settles kS_X0_settles kN_RX0 kC_X0_settles) rfl (by decide +kernel) ⟨Nat.le_of_ble_eq_true rfl, Nat.le_of_ble_eq_true rfl⟩ rfl rfl (Nat.le_of_ble_eq_true rfl) ⟨Nat.le_refl 0, Nat.le_refl 0⟩ (fun M h => ?_)
  refine a_iconst (v := 1) dX2_paid_4 (by decide) ?_
  exact a_zret dX2_paid_5 (Or.inr rfl) ⟨_, rfl, h⟩

/-! X2_passed -/
theorem dX2_passed_0 : decode cX2_passed 0 = .ok (.iload_n 0, 1) := by decide +kernel
theorem dX2_passed_1 : decode cX2_passed 1 = .ok (.iconst 1, 1) := by decide +kernel
theorem dX2_passed_2 : decode cX2_passed 2 = .ok (.if_icmp .lt 21, 3) := by decide +kernel
theorem dX2_passed_5 : decode cX2_passed 5 = .ok (.iload_n 0, 1) := by decide +kernel
theorem dX2_passed_6 : decode cX2_passed 6 = .ok (.bipush 60, 2) := by decide +kernel
theorem dX2_passed_8 : decode cX2_passed 8 = .ok (.if_icmp .gt 15, 3) := by decide +kernel
theorem dX2_passed_11 : decode cX2_passed 11 = .ok (.aload_n 1, 1) := by decide +kernel
theorem dX2_passed_12 : decode cX2_passed 12 = .ok (.getfield 96, 3) := by decide +kernel
theorem dX2_passed_15 : decode cX2_passed 15 = .ok (.iload_n 0, 1) := by decide +kernel
theorem dX2_passed_16 : decode cX2_passed 16 = .ok (.iadd, 1) := by decide +kernel
theorem dX2_passed_17 : decode cX2_passed 17 = .ok (.sipush 999, 3) := by decide +kernel
theorem dX2_passed_20 : decode cX2_passed 20 = .ok (.if_icmp .le 5, 3) := by decide +kernel
theorem dX2_passed_23 : decode cX2_passed 23 = .ok (.iconst 0, 1) := by decide +kernel
theorem dX2_passed_24 : decode cX2_passed 24 = .ok (.ireturn, 1) := by decide +kernel
theorem dX2_passed_25 : decode cX2_passed 25 = .ok (.aload_n 1, 1) := by decide +kernel
theorem dX2_passed_26 : decode cX2_passed 26 = .ok (.iload_n 0, 1) := by decide +kernel
theorem dX2_passed_27 : decode cX2_passed 27 = .ok (.invokevirtual 99, 3) := by decide +kernel
theorem dX2_passed_30 : decode cX2_passed 30 = .ok (.iconst 1, 1) := by decide +kernel
theorem dX2_passed_31 : decode cX2_passed 31 = .ok (.ireturn, 1) := by decide +kernel
abbrev A2_passed (G : GG) (Q : Int32 → MM → Prop) := AW G E0 (MZ G (qI Q)) (WY yX2_passed cX2_passed 2 (some .boolean)) RX2 cX2_passed 2 (some .boolean) ({ frames := 4, cells := 0, slots := 0, locals := 94 } : Room) 0 0
def D2_passed (x0 : Int32) (x1 : Nat) (M : MM) (Q : Int32 → MM → Prop) : Prop := ((x0 < (1 : Int32) → Q (0 : Int32) M) ∧ (¬ x0 < (1 : Int32) → (((60 : Int32) < x0 → Q (0 : Int32) M) ∧ (¬ (60 : Int32) < x0 → ((((M x1 6) + x0) ≤ (999 : Int32) → D0_goesOn x1 x0 M (fun (M2 : MM) => Q (1 : Int32) M2)) ∧ (¬ ((M x1 6) + x0) ≤ (999 : Int32) → Q (0 : Int32) M))))))
set_option maxHeartbeats 4000000 in
set_option maxRecDepth 100000 in
theorem s2_passed {G : GG} {x0 : Int32} {x1 : Nat} {M : MM} {Q : Int32 → MM → Prop} (hx1 : ob x1 0) (h : D2_passed x0 x1 M Q) : CM G yX2_passed (WY yX2_passed cX2_passed 2 (some .boolean)) 4 94 [.int x0, .ref (gA G x1)] M (qI Q) := by
  refine CM.of (cc := cX2_passed) (nL := 2) (ret := (some .boolean)) (own := RX2) (by decide +kernel) rfl rfl (Nat.le_of_ble_eq_true rfl) ?_
  show A2_passed G Q 0 [(0, .int x0), (1, .ref (gA G x1))] [] M
  unfold D2_passed at h
  refine a_iload_n dX2_passed_0 0 rfl ?_
  refine a_iconst (v := 1) dX2_passed_1 (by decide) ?_
  refine a_icmp_lt (tgt := 23) dX2_passed_2 (by decide) (fun c => ?_) (fun c => ?_)
  · have h := h.1 c
    refine a_iconst (v := 0) dX2_passed_23 (by decide) ?_
    exact a_zret dX2_passed_24 (Or.inl rfl) ⟨_, rfl, h⟩
  · have h := h.2 c
    refine a_iload_n dX2_passed_5 0 rfl ?_
    refine a_bipush (v := 60) dX2_passed_6 (by decide) ?_
    refine a_icmp_gt (tgt := 23) dX2_passed_8 (by decide) (fun c => ?_) (fun c => ?_)
    · have h := h.1 c
      refine a_iconst (v := 0) dX2_passed_23 (by decide) ?_
      exact a_zret dX2_passed_24 (Or.inl rfl) ⟨_, rfl, h⟩
    · have h := h.2 c
      refine a_aload_n dX2_passed_11 1 rfl ?_
      refine a_getN0 dX2_passed_12 6 (by decide) (fun _ h => h.2.2.2.2.2.2.1) (fun w h => tbc _ (uW0 w h)) rfl hx1 rfl ?_
      refine a_iload_n dX2_passed_15 0 rfl ?_
      refine a_iadd dX2_passed_16 ?_
      refine a_sipush (v := 999) dX2_passed_17 (by decide) ?_
      refine a_icmp_le (tgt := 25) dX2_passed_20 (by decide) (fun c => ?_) (fun c => ?_)
      · have h := h.1 c
        refine a_aload_n dX2_passed_25 1 rfl ?_
        refine a_iload_n dX2_passed_26 0 rfl ?_
        refine a_callVv (n := 1) [.int _] (C := RX0) (ci := 0) (qc := (RX0, TX0, 9)) (fsF := fl0 G _) hx1.1 (fun _ => en0 hx1.2) rfl rfl dX2_passed_27 (s0_goesOn hx1 h) (gV tbc kM_RX2_99_X0_goesOn kI_X0_goesOn kS_X0_goesOn kN_RX0 kC_X0_goesOn) rfl (by decide +kernel) ⟨Nat.le_of_ble_eq_true rfl, Nat.le_of_ble_eq_true rfl⟩ rfl rfl (Nat.le_of_ble_eq_true rfl) ⟨Nat.le_refl 0, Nat.le_refl 0⟩ (fun M h => ?_)
        refine a_iconst (v := 1) dX2_passed_30 (by decide) ?_
        exact a_zret dX2_passed_31 (Or.inr rfl) ⟨_, rfl, h⟩
      · have h := h.2 c
        refine a_iconst (v := 0) dX2_passed_23 (by decide) ?_
        exact a_zret dX2_passed_24 (Or.inl rfl) ⟨_, rfl, h⟩

/-! X2_comes -/
theorem dX2_comes_0 : decode cX2_comes 0 = .ok (.aload_n 2, 1) := by decide +kernel
theorem dX2_comes_1 : decode cX2_comes 1 = .ok (.ifnonnull 5, 3) := by decide +kernel
theorem dX2_comes_4 : decode cX2_comes 4 = .ok (.iconst 0, 1) := by decide +kernel
theorem dX2_comes_5 : decode cX2_comes 5 = .ok (.ireturn, 1) := by decide +kernel
theorem dX2_comes_6 : decode cX2_comes 6 = .ok (.aload_n 0, 1) := by decide +kernel
theorem dX2_comes_7 : decode cX2_comes 7 = .ok (.iload_n 1, 1) := by decide +kernel
theorem dX2_comes_8 : decode cX2_comes 8 = .ok (.iconst 1, 1) := by decide +kernel
theorem dX2_comes_9 : decode cX2_comes 9 = .ok (.iadd, 1) := by decide +kernel
theorem dX2_comes_10 : decode cX2_comes 10 = .ok (.invokevirtual 27, 3) := by decide +kernel
theorem dX2_comes_13 : decode cX2_comes 13 = .ok (.istore_n 3, 1) := by decide +kernel
theorem dX2_comes_14 : decode cX2_comes 14 = .ok (.aload_n 0, 1) := by decide +kernel
theorem dX2_comes_15 : decode cX2_comes 15 = .ok (.iload_n 1, 1) := by decide +kernel
theorem dX2_comes_16 : decode cX2_comes 16 = .ok (.iconst 2, 1) := by decide +kernel
theorem dX2_comes_17 : decode cX2_comes 17 = .ok (.iadd, 1) := by decide +kernel
theorem dX2_comes_18 : decode cX2_comes 18 = .ok (.invokevirtual 27, 3) := by decide +kernel
theorem dX2_comes_21 : decode cX2_comes 21 = .ok (.istore 4, 2) := by decide +kernel
theorem dX2_comes_23 : decode cX2_comes 23 = .ok (.aload_n 0, 1) := by decide +kernel
theorem dX2_comes_24 : decode cX2_comes 24 = .ok (.iload_n 1, 1) := by decide +kernel
theorem dX2_comes_25 : decode cX2_comes 25 = .ok (.invokevirtual 19, 3) := by decide +kernel
theorem dX2_comes_28 : decode cX2_comes 28 = .ok (.tableswitch 145 102 120 #[113, 145, 133, 145, 145, 145, 145, 145, 145, 145, 128, 145, 107, 145, 145, 145, 145, 92, 120], 92) := by decide +kernel
theorem dX2_comes_120 : decode cX2_comes 120 = .ok (.iload_n 3, 1) := by decide +kernel
theorem dX2_comes_121 : decode cX2_comes 121 = .ok (.iload 4, 2) := by decide +kernel
theorem dX2_comes_123 : decode cX2_comes 123 = .ok (.aload_n 0, 1) := by decide +kernel
theorem dX2_comes_124 : decode cX2_comes 124 = .ok (.iload_n 1, 1) := by decide +kernel
theorem dX2_comes_125 : decode cX2_comes 125 = .ok (.iconst 3, 1) := by decide +kernel
theorem dX2_comes_126 : decode cX2_comes 126 = .ok (.iadd, 1) := by decide +kernel
theorem dX2_comes_127 : decode cX2_comes 127 = .ok (.invokevirtual 42, 3) := by decide +kernel
theorem dX2_comes_130 : decode cX2_comes 130 = .ok (.aload_n 2, 1) := by decide +kernel
theorem dX2_comes_131 : decode cX2_comes 131 = .ok (.invokestatic 45, 3) := by decide +kernel
theorem dX2_comes_134 : decode cX2_comes 134 = .ok (.ireturn, 1) := by decide +kernel
theorem dX2_comes_135 : decode cX2_comes 135 = .ok (.iload_n 3, 1) := by decide +kernel
theorem dX2_comes_136 : decode cX2_comes 136 = .ok (.aload_n 2, 1) := by decide +kernel
theorem dX2_comes_137 : decode cX2_comes 137 = .ok (.invokestatic 49, 3) := by decide +kernel
theorem dX2_comes_140 : decode cX2_comes 140 = .ok (.ireturn, 1) := by decide +kernel
theorem dX2_comes_141 : decode cX2_comes 141 = .ok (.iload_n 3, 1) := by decide +kernel
theorem dX2_comes_142 : decode cX2_comes 142 = .ok (.iconst 0, 1) := by decide +kernel
theorem dX2_comes_143 : decode cX2_comes 143 = .ok (.aload_n 2, 1) := by decide +kernel
theorem dX2_comes_144 : decode cX2_comes 144 = .ok (.invokestatic 53, 3) := by decide +kernel
theorem dX2_comes_147 : decode cX2_comes 147 = .ok (.ireturn, 1) := by decide +kernel
theorem dX2_comes_148 : decode cX2_comes 148 = .ok (.iload_n 3, 1) := by decide +kernel
theorem dX2_comes_149 : decode cX2_comes 149 = .ok (.iload 4, 2) := by decide +kernel
theorem dX2_comes_151 : decode cX2_comes 151 = .ok (.aload_n 2, 1) := by decide +kernel
theorem dX2_comes_152 : decode cX2_comes 152 = .ok (.invokestatic 53, 3) := by decide +kernel
theorem dX2_comes_155 : decode cX2_comes 155 = .ok (.ireturn, 1) := by decide +kernel
theorem dX2_comes_156 : decode cX2_comes 156 = .ok (.aload_n 2, 1) := by decide +kernel
theorem dX2_comes_157 : decode cX2_comes 157 = .ok (.invokestatic 57, 3) := by decide +kernel
theorem dX2_comes_160 : decode cX2_comes 160 = .ok (.ireturn, 1) := by decide +kernel
theorem dX2_comes_161 : decode cX2_comes 161 = .ok (.aload_n 0, 1) := by decide +kernel
theorem dX2_comes_162 : decode cX2_comes 162 = .ok (.iload_n 1, 1) := by decide +kernel
theorem dX2_comes_163 : decode cX2_comes 163 = .ok (.iconst 1, 1) := by decide +kernel
theorem dX2_comes_164 : decode cX2_comes 164 = .ok (.iadd, 1) := by decide +kernel
theorem dX2_comes_165 : decode cX2_comes 165 = .ok (.invokevirtual 42, 3) := by decide +kernel
theorem dX2_comes_168 : decode cX2_comes 168 = .ok (.aload_n 2, 1) := by decide +kernel
theorem dX2_comes_169 : decode cX2_comes 169 = .ok (.invokestatic 61, 3) := by decide +kernel
theorem dX2_comes_172 : decode cX2_comes 172 = .ok (.ireturn, 1) := by decide +kernel
theorem dX2_comes_173 : decode cX2_comes 173 = .ok (.iconst 0, 1) := by decide +kernel
theorem dX2_comes_174 : decode cX2_comes 174 = .ok (.ireturn, 1) := by decide +kernel
abbrev A2_comes (G : GG) (Q : Int32 → MM → Prop) := AW G E0 (MZ G (qI Q)) (WY yX2_comes cX2_comes 5 (some .boolean)) RX2 cX2_comes 5 (some .boolean) ({ frames := 5, cells := 0, slots := 0, locals := 115 } : Room) 0 0
def D2_comes (x1 : Int32) (x2 : Nat) (M : MM) (Q : Int32 → MM → Prop) : Prop := D2_digit (x1 + (1 : Int32)) M (fun (r1 : Int32) (M2 : MM) => D2_digit (x1 + (2 : Int32)) M2 (fun (r3 : Int32) (M4 : MM) => D2_signAt x1 M4 (fun (r5 : Int32) (M6 : MM) => ((r5 = 102 → D2_wornBy r1 (0 : Int32) x2 M6 (fun (r7 : Int32) (M8 : MM) => bo r7 ∧ Q r7 M8)) ∧ (¬ r5 = 102 → ((r5 = 104 → D2_twoDigits (x1 + (1 : Int32)) M6 (fun (r9 : Int32) (M10 : MM) => D2_passed r9 x2 M10 (fun (r11 : Int32) (M12 : MM) => bo r11 ∧ Q r11 M12))) ∧ (¬ r5 = 104 → ((r5 = 112 → D2_paid x2 M6 (fun (r13 : Int32) (M14 : MM) => bo r13 ∧ Q r13 M14)) ∧ (¬ r5 = 112 → ((r5 = 114 → D2_lost r1 x2 M6 (fun (r15 : Int32) (M16 : MM) => bo r15 ∧ Q r15 M16)) ∧ (¬ r5 = 114 → ((r5 = 119 → D2_twoDigits (x1 + (3 : Int32)) M6 (fun (r17 : Int32) (M18 : MM) => D2_built r1 r3 r17 x2 M18 (fun (r19 : Int32) (M20 : MM) => bo r19 ∧ Q r19 M20))) ∧ (¬ r5 = 119 → ((r5 = 120 → D2_wornBy r1 r3 x2 M6 (fun (r21 : Int32) (M22 : MM) => bo r21 ∧ Q r21 M22)) ∧ (¬ r5 = 120 → Q (0 : Int32) M6)))))))))))))))
set_option maxHeartbeats 4000000 in
set_option maxRecDepth 100000 in
theorem s2_comes {G : GG} {x1 : Int32} {x2 : Nat} {M : MM} {Q : Int32 → MM → Prop} (hx2 : ob x2 0) (h : D2_comes x1 x2 M Q) : CM G yX2_comes (WY yX2_comes cX2_comes 5 (some .boolean)) 5 115 [.ref (gA G 57), .int x1, .ref (gA G x2)] M (qI Q) := by
  refine CM.of (cc := cX2_comes) (nL := 5) (ret := (some .boolean)) (own := RX2) (by decide +kernel) rfl rfl (Nat.le_of_ble_eq_true rfl) ?_
  show A2_comes G Q 0 [(0, .ref (gA G 57)), (1, .int x1), (2, .ref (gA G x2))] [] M
  unfold D2_comes at h
  refine a_aload_n dX2_comes_0 2 rfl ?_
  refine a_ifnonnull (tgt := 6) dX2_comes_1 (by decide) ?_
  refine a_aload_n dX2_comes_6 0 rfl ?_
  refine a_iload_n dX2_comes_7 1 rfl ?_
  refine a_iconst (v := 1) dX2_comes_8 (by decide) ?_
  refine a_iadd dX2_comes_9 ?_
  refine a_callVi (n := 1) [.int _] (C := RX2) (ci := 1) (qc := (RX2, TX2, 2)) (fsF := fl1 G _) ob_57.1 (fun _ => en1 ob_57.2) rfl rfl dX2_comes_10 (s2_digit h) (gV tbc kM_RX2_27_X2_digit kI_X2_digit kS_X2_digit kN_RX2 kC_X2_digit) rfl (by decide +kernel) ⟨Nat.le_of_ble_eq_true rfl, Nat.le_of_ble_eq_true rfl⟩ rfl rfl (Nat.le_of_ble_eq_true rfl) ⟨Nat.le_refl 0, Nat.le_refl 0⟩ (fun r M h => ?_)
  refine a_istore_n (i := 3) (L' := [(3, .int _), (0, .ref _), (1, .int _), (2, .ref _)]) dX2_comes_13 rfl (by decide) rfl ?_
  refine a_aload_n dX2_comes_14 1 rfl ?_
  refine a_iload_n dX2_comes_15 2 rfl ?_
  refine a_iconst (v := 2) dX2_comes_16 (by decide) ?_
  refine a_iadd dX2_comes_17 ?_
  refine a_callVi (n := 1) [.int _] (C := RX2) (ci := 1) (qc := (RX2, TX2, 2)) (fsF := fl1 G _) ob_57.1 (fun _ => en1 ob_57.2) rfl rfl dX2_comes_18 (s2_digit h) (gV tbc kM_RX2_27_X2_digit kI_X2_digit kS_X2_digit kN_RX2 kC_X2_digit) rfl (by decide +kernel) ⟨Nat.le_of_ble_eq_true rfl, Nat.le_of_ble_eq_true rfl⟩ rfl rfl (Nat.le_of_ble_eq_true rfl) ⟨Nat.le_refl 0, Nat.le_refl 0⟩ (fun r M h => ?_)
  refine a_istore (i := 4) (L' := [(4, .int _), (3, .int _), (0, .ref _), (1, .int _), (2, .ref _)]) dX2_comes_21 (by decide) rfl ?_
  refine a_aload_n dX2_comes_23 2 rfl ?_
  refine a_iload_n dX2_comes_24 3 rfl ?_
  refine a_callVi (n := 1) [.int _] (C := RX2) (ci := 1) (qc := (RX2, TX2, 2)) (fsF := fl1 G _) ob_57.1 (fun _ => en1 ob_57.2) rfl rfl dX2_comes_25 (s2_signAt h) (gV tbc kM_RX2_19_X2_signAt kI_X2_signAt kS_X2_signAt kN_RX2 kC_X2_signAt) rfl (by decide +kernel) ⟨Nat.le_of_ble_eq_true rfl, Nat.le_of_ble_eq_true rfl⟩ rfl rfl (Nat.le_of_ble_eq_true rfl) ⟨Nat.le_refl 0, Nat.le_refl 0⟩ (fun r M h => ?_)
  refine em_c h (fun c102 h => ?_) (fun c102 h => ?_)
  · refine a_tableIn (off := 113) (tgt := 141) dX2_comes_28 (by rw [c102]; decide) (by rw [c102]; decide) (by rw [c102]; rfl) (by decide) ?_
    refine a_iload_n dX2_comes_141 1 rfl ?_
    refine a_iconst (v := 0) dX2_comes_142 (by decide) ?_
    refine a_aload_n dX2_comes_143 4 rfl ?_
    refine a_callSi (n := 3) [.int _, .int _, .ref _] dX2_comes_144 (s2_wornBy hx2 h) (gS tbc kM_RX2_53_X2_wornBy kT_X2_wornBy kN_RX2 kC_X2_wornBy) rfl (by decide +kernel) ⟨Nat.le_of_ble_eq_true rfl, Nat.le_of_ble_eq_true rfl⟩ rfl rfl (Nat.le_of_ble_eq_true rfl) ⟨Nat.le_refl 0, Nat.le_refl 0⟩ (fun r M h => ?_)
    exact a_zret dX2_comes_147 h.1 ⟨_, rfl, h.2⟩
  · refine em_c h (fun c104 h => ?_) (fun c104 h => ?_)
    · refine a_tableIn (off := 133) (tgt := 161) dX2_comes_28 (by rw [c104]; decide) (by rw [c104]; decide) (by rw [c104]; rfl) (by decide) ?_
      refine a_aload_n dX2_comes_161 2 rfl ?_
      refine a_iload_n dX2_comes_162 3 rfl ?_
      refine a_iconst (v := 1) dX2_comes_163 (by decide) ?_
      refine a_iadd dX2_comes_164 ?_
      refine a_callVi (n := 1) [.int _] (C := RX2) (ci := 1) (qc := (RX2, TX2, 2)) (fsF := fl1 G _) ob_57.1 (fun _ => en1 ob_57.2) rfl rfl dX2_comes_165 (s2_twoDigits h) (gV tbc kM_RX2_42_X2_twoDigits kI_X2_twoDigits kS_X2_twoDigits kN_RX2 kC_X2_twoDigits) rfl (by decide +kernel) ⟨Nat.le_of_ble_eq_true rfl, Nat.le_of_ble_eq_true rfl⟩ rfl rfl (Nat.le_of_ble_eq_true rfl) ⟨Nat.le_refl 0, Nat.le_refl 0⟩ (fun r M h => ?_)
      refine a_aload_n dX2_comes_168 4 rfl ?_
      refine a_callSi (n := 2) [.int _, .ref _] dX2_comes_169 (s2_passed hx2 h) (gS tbc kM_RX2_61_X2_passed kT_X2_passed kN_RX2 kC_X2_passed) rfl (by decide +kernel) ⟨Nat.le_of_ble_eq_true rfl, Nat.le_of_ble_eq_true rfl⟩ rfl rfl (Nat.le_of_ble_eq_true rfl) ⟨Nat.le_refl 0, Nat.le_refl 0⟩ (fun r M h => ?_)
      exact a_zret dX2_comes_172 h.1 ⟨_, rfl, h.2⟩
    · refine em_c h (fun c112 h => ?_) (fun c112 h => ?_)
      · refine a_tableIn (off := 128) (tgt := 156) dX2_comes_28 (by rw [c112]; decide) (by rw [c112]; decide) (by rw [c112]; rfl) (by decide) ?_
        refine a_aload_n dX2_comes_156 4 rfl ?_
        refine a_callSi (n := 1) [.ref _] dX2_comes_157 (s2_paid hx2 h) (gS tbc kM_RX2_57_X2_paid kT_X2_paid kN_RX2 kC_X2_paid) rfl (by decide +kernel) ⟨Nat.le_of_ble_eq_true rfl, Nat.le_of_ble_eq_true rfl⟩ rfl rfl (Nat.le_of_ble_eq_true rfl) ⟨Nat.le_refl 0, Nat.le_refl 0⟩ (fun r M h => ?_)
        exact a_zret dX2_comes_160 h.1 ⟨_, rfl, h.2⟩
      · refine em_c h (fun c114 h => ?_) (fun c114 h => ?_)
        · refine a_tableIn (off := 107) (tgt := 135) dX2_comes_28 (by rw [c114]; decide) (by rw [c114]; decide) (by rw [c114]; rfl) (by decide) ?_
          refine a_iload_n dX2_comes_135 1 rfl ?_
          refine a_aload_n dX2_comes_136 4 rfl ?_
          refine a_callSi (n := 2) [.int _, .ref _] dX2_comes_137 (s2_lost hx2 h) (gS tbc kM_RX2_49_X2_lost kT_X2_lost kN_RX2 kC_X2_lost) rfl (by decide +kernel) ⟨Nat.le_of_ble_eq_true rfl, Nat.le_of_ble_eq_true rfl⟩ rfl rfl (Nat.le_of_ble_eq_true rfl) ⟨Nat.le_refl 0, Nat.le_refl 0⟩ (fun r M h => ?_)
          exact a_zret dX2_comes_140 h.1 ⟨_, rfl, h.2⟩
        · refine em_c h (fun c119 h => ?_) (fun c119 h => ?_)
          · refine a_tableIn (off := 92) (tgt := 120) dX2_comes_28 (by rw [c119]; decide) (by rw [c119]; decide) (by rw [c119]; rfl) (by decide) ?_
            refine a_iload_n dX2_comes_120 1 rfl ?_
            refine a_iload dX2_comes_121 0 rfl ?_
            refine a_aload_n dX2_comes_123 2 rfl ?_
            refine a_iload_n dX2_comes_124 3 rfl ?_
            refine a_iconst (v := 3) dX2_comes_125 (by decide) ?_
            refine a_iadd dX2_comes_126 ?_
            refine a_callVi (n := 1) [.int _] (C := RX2) (ci := 1) (qc := (RX2, TX2, 2)) (fsF := fl1 G _) ob_57.1 (fun _ => en1 ob_57.2) rfl rfl dX2_comes_127 (s2_twoDigits h) (gV tbc kM_RX2_42_X2_twoDigits kI_X2_twoDigits kS_X2_twoDigits kN_RX2 kC_X2_twoDigits) rfl (by decide +kernel) ⟨Nat.le_of_ble_eq_true rfl, Nat.le_of_ble_eq_true rfl⟩ rfl rfl (Nat.le_of_ble_eq_true rfl) ⟨Nat.le_refl 0, Nat.le_refl 0⟩ (fun r M h => ?_)
            refine a_aload_n dX2_comes_130 4 rfl ?_
            refine a_callSi (n := 4) [.int _, .int _, .int _, .ref _] dX2_comes_131 (s2_built hx2 h) (gS tbc kM_RX2_45_X2_built kT_X2_built kN_RX2 kC_X2_built) rfl (by decide +kernel) ⟨Nat.le_of_ble_eq_true rfl, Nat.le_of_ble_eq_true rfl⟩ rfl rfl (Nat.le_of_ble_eq_true rfl) ⟨Nat.le_refl 0, Nat.le_refl 0⟩ (fun r M h => ?_)
            exact a_zret dX2_comes_134 h.1 ⟨_, rfl, h.2⟩
          · refine em_c h (fun c120 h => ?_) (fun c120 h => ?_)
            · refine a_tableIn (off := 120) (tgt := 148) dX2_comes_28 (by rw [c120]; decide) (by rw [c120]; decide) (by rw [c120]; rfl) (by decide) ?_
              refine a_iload_n dX2_comes_148 1 rfl ?_
              refine a_iload dX2_comes_149 0 rfl ?_
              refine a_aload_n dX2_comes_151 4 rfl ?_
              refine a_callSi (n := 3) [.int _, .int _, .ref _] dX2_comes_152 (s2_wornBy hx2 h) (gS tbc kM_RX2_53_X2_wornBy kT_X2_wornBy kN_RX2 kC_X2_wornBy) rfl (by decide +kernel) ⟨Nat.le_of_ble_eq_true rfl, Nat.le_of_ble_eq_true rfl⟩ rfl rfl (Nat.le_of_ble_eq_true rfl) ⟨Nat.le_refl 0, Nat.le_refl 0⟩ (fun r M h => ?_)
              exact a_zret dX2_comes_155 h.1 ⟨_, rfl, h.2⟩
            · refine a_tableD (tgt := 173) dX2_comes_28 (by decide) (fun k h1 h2 e => by have hk : k = 102 ∨ k = 103 ∨ k = 104 ∨ k = 105 ∨ k = 106 ∨ k = 107 ∨ k = 108 ∨ k = 109 ∨ k = 110 ∨ k = 111 ∨ k = 112 ∨ k = 113 ∨ k = 114 ∨ k = 115 ∨ k = 116 ∨ k = 117 ∨ k = 118 ∨ k = 119 ∨ k = 120 := (by omega); rcases hk with rfl | rfl | rfl | rfl | rfl | rfl | rfl | rfl | rfl | rfl | rfl | rfl | rfl | rfl | rfl | rfl | rfl | rfl | rfl <;> first | rfl | exact absurd e (ne_ti c102 (by decide)) | exact absurd e (ne_ti c104 (by decide)) | exact absurd e (ne_ti c112 (by decide)) | exact absurd e (ne_ti c114 (by decide)) | exact absurd e (ne_ti c119 (by decide)) | exact absurd e (ne_ti c120 (by decide))) ?_
              refine a_iconst (v := 0) dX2_comes_173 (by decide) ?_
              exact a_zret dX2_comes_174 (Or.inl rfl) ⟨_, rfl, h⟩

/-! X2_digitsBehind -/
theorem dX2_digitsBehind_0 : decode cX2_digitsBehind 0 = .ok (.iload_n 0, 1) := by decide +kernel
theorem dX2_digitsBehind_1 : decode cX2_digitsBehind 1 = .ok (.tableswitch 103 102 120 #[95, 103, 101, 103, 103, 103, 103, 103, 103, 103, 99, 103, 93, 103, 103, 103, 103, 91, 97], 91) := by decide +kernel
theorem dX2_digitsBehind_92 : decode cX2_digitsBehind 92 = .ok (.iconst 4, 1) := by decide +kernel
theorem dX2_digitsBehind_93 : decode cX2_digitsBehind 93 = .ok (.ireturn, 1) := by decide +kernel
theorem dX2_digitsBehind_94 : decode cX2_digitsBehind 94 = .ok (.iconst 1, 1) := by decide +kernel
theorem dX2_digitsBehind_95 : decode cX2_digitsBehind 95 = .ok (.ireturn, 1) := by decide +kernel
theorem dX2_digitsBehind_96 : decode cX2_digitsBehind 96 = .ok (.iconst 1, 1) := by decide +kernel
theorem dX2_digitsBehind_97 : decode cX2_digitsBehind 97 = .ok (.ireturn, 1) := by decide +kernel
theorem dX2_digitsBehind_98 : decode cX2_digitsBehind 98 = .ok (.iconst 2, 1) := by decide +kernel
theorem dX2_digitsBehind_99 : decode cX2_digitsBehind 99 = .ok (.ireturn, 1) := by decide +kernel
theorem dX2_digitsBehind_100 : decode cX2_digitsBehind 100 = .ok (.iconst 0, 1) := by decide +kernel
theorem dX2_digitsBehind_101 : decode cX2_digitsBehind 101 = .ok (.ireturn, 1) := by decide +kernel
theorem dX2_digitsBehind_102 : decode cX2_digitsBehind 102 = .ok (.iconst 2, 1) := by decide +kernel
theorem dX2_digitsBehind_103 : decode cX2_digitsBehind 103 = .ok (.ireturn, 1) := by decide +kernel
theorem dX2_digitsBehind_104 : decode cX2_digitsBehind 104 = .ok (.bipush (-9), 2) := by decide +kernel
theorem dX2_digitsBehind_106 : decode cX2_digitsBehind 106 = .ok (.ireturn, 1) := by decide +kernel
abbrev A2_digitsBehind (G : GG) (Q : Int32 → MM → Prop) := AW G E0 (MZ G (qI Q)) (WY yX2_digitsBehind cX2_digitsBehind 1 (some .int)) RX2 cX2_digitsBehind 1 (some .int) ({ frames := 0, cells := 0, slots := 0, locals := 0 } : Room) 0 0
def D2_digitsBehind (x0 : Int32) (M : MM) (Q : Int32 → MM → Prop) : Prop := ((x0 = 102 → Q (1 : Int32) M) ∧ (¬ x0 = 102 → ((x0 = 104 → Q (2 : Int32) M) ∧ (¬ x0 = 104 → ((x0 = 112 → Q (0 : Int32) M) ∧ (¬ x0 = 112 → ((x0 = 114 → Q (1 : Int32) M) ∧ (¬ x0 = 114 → ((x0 = 119 → Q (4 : Int32) M) ∧ (¬ x0 = 119 → ((x0 = 120 → Q (2 : Int32) M) ∧ (¬ x0 = 120 → Q (-9 : Int32) M))))))))))))
set_option maxHeartbeats 4000000 in
set_option maxRecDepth 100000 in
theorem s2_digitsBehind {G : GG} {x0 : Int32} {M : MM} {Q : Int32 → MM → Prop} (h : D2_digitsBehind x0 M Q) : CM G yX2_digitsBehind (WY yX2_digitsBehind cX2_digitsBehind 1 (some .int)) 0 0 [.int x0] M (qI Q) := by
  refine CM.of (cc := cX2_digitsBehind) (nL := 1) (ret := (some .int)) (own := RX2) (by decide +kernel) rfl rfl (Nat.le_of_ble_eq_true rfl) ?_
  show A2_digitsBehind G Q 0 [(0, .int x0)] [] M
  unfold D2_digitsBehind at h
  refine a_iload_n dX2_digitsBehind_0 0 rfl ?_
  refine em_c h (fun c102 h => ?_) (fun c102 h => ?_)
  · refine a_tableIn (off := 95) (tgt := 96) dX2_digitsBehind_1 (by rw [c102]; decide) (by rw [c102]; decide) (by rw [c102]; rfl) (by decide) ?_
    refine a_iconst (v := 1) dX2_digitsBehind_96 (by decide) ?_
    exact a_iret dX2_digitsBehind_97 ⟨_, rfl, h⟩
  · refine em_c h (fun c104 h => ?_) (fun c104 h => ?_)
    · refine a_tableIn (off := 101) (tgt := 102) dX2_digitsBehind_1 (by rw [c104]; decide) (by rw [c104]; decide) (by rw [c104]; rfl) (by decide) ?_
      refine a_iconst (v := 2) dX2_digitsBehind_102 (by decide) ?_
      exact a_iret dX2_digitsBehind_103 ⟨_, rfl, h⟩
    · refine em_c h (fun c112 h => ?_) (fun c112 h => ?_)
      · refine a_tableIn (off := 99) (tgt := 100) dX2_digitsBehind_1 (by rw [c112]; decide) (by rw [c112]; decide) (by rw [c112]; rfl) (by decide) ?_
        refine a_iconst (v := 0) dX2_digitsBehind_100 (by decide) ?_
        exact a_iret dX2_digitsBehind_101 ⟨_, rfl, h⟩
      · refine em_c h (fun c114 h => ?_) (fun c114 h => ?_)
        · refine a_tableIn (off := 93) (tgt := 94) dX2_digitsBehind_1 (by rw [c114]; decide) (by rw [c114]; decide) (by rw [c114]; rfl) (by decide) ?_
          refine a_iconst (v := 1) dX2_digitsBehind_94 (by decide) ?_
          exact a_iret dX2_digitsBehind_95 ⟨_, rfl, h⟩
        · refine em_c h (fun c119 h => ?_) (fun c119 h => ?_)
          · refine a_tableIn (off := 91) (tgt := 92) dX2_digitsBehind_1 (by rw [c119]; decide) (by rw [c119]; decide) (by rw [c119]; rfl) (by decide) ?_
            refine a_iconst (v := 4) dX2_digitsBehind_92 (by decide) ?_
            exact a_iret dX2_digitsBehind_93 ⟨_, rfl, h⟩
          · refine em_c h (fun c120 h => ?_) (fun c120 h => ?_)
            · refine a_tableIn (off := 97) (tgt := 98) dX2_digitsBehind_1 (by rw [c120]; decide) (by rw [c120]; decide) (by rw [c120]; rfl) (by decide) ?_
              refine a_iconst (v := 2) dX2_digitsBehind_98 (by decide) ?_
              exact a_iret dX2_digitsBehind_99 ⟨_, rfl, h⟩
            · refine a_tableD (tgt := 104) dX2_digitsBehind_1 (by decide) (fun k h1 h2 e => by have hk : k = 102 ∨ k = 103 ∨ k = 104 ∨ k = 105 ∨ k = 106 ∨ k = 107 ∨ k = 108 ∨ k = 109 ∨ k = 110 ∨ k = 111 ∨ k = 112 ∨ k = 113 ∨ k = 114 ∨ k = 115 ∨ k = 116 ∨ k = 117 ∨ k = 118 ∨ k = 119 ∨ k = 120 := (by omega); rcases hk with rfl | rfl | rfl | rfl | rfl | rfl | rfl | rfl | rfl | rfl | rfl | rfl | rfl | rfl | rfl | rfl | rfl | rfl | rfl <;> first | rfl | exact absurd e (ne_ti c102 (by decide)) | exact absurd e (ne_ti c104 (by decide)) | exact absurd e (ne_ti c112 (by decide)) | exact absurd e (ne_ti c114 (by decide)) | exact absurd e (ne_ti c119 (by decide)) | exact absurd e (ne_ti c120 (by decide))) ?_
              refine a_bipush (v := -9) dX2_digitsBehind_104 (by decide) ?_
              exact a_iret dX2_digitsBehind_106 ⟨_, rfl, h⟩

/-! X2_forget -/
theorem dX2_forget_0 : decode cX2_forget 0 = .ok (.aload_n 0, 1) := by decide +kernel
theorem dX2_forget_1 : decode cX2_forget 1 = .ok (.iconst 0, 1) := by decide +kernel
theorem dX2_forget_2 : decode cX2_forget 2 = .ok (.putfield 15, 3) := by decide +kernel
theorem dX2_forget_5 : decode cX2_forget 5 = .ok (.return_, 1) := by decide +kernel
abbrev A2_forget (G : GG) (Q : MM → Prop) := AW G E0 (MZ G (qV Q)) (WY yX2_forget cX2_forget 1 none) RX2 cX2_forget 1 none ({ frames := 0, cells := 0, slots := 0, locals := 0 } : Room) 0 0
def D2_forget (M : MM) (Q : MM → Prop) : Prop := (fun M1 : MM => Q M1) (up M 57 1 (0 : Int32))
set_option maxHeartbeats 4000000 in
set_option maxRecDepth 100000 in
theorem s2_forget {G : GG} {M : MM} {Q : MM → Prop} (h : D2_forget M Q) : CM G yX2_forget (WY yX2_forget cX2_forget 1 none) 0 0 [.ref (gA G 57)] M (qV Q) := by
  refine CM.of (cc := cX2_forget) (nL := 1) (ret := none) (own := RX2) (by decide +kernel) rfl rfl (Nat.le_of_ble_eq_true rfl) ?_
  show A2_forget G Q 0 [(0, .ref (gA G 57))] [] M
  unfold D2_forget at h
  refine a_aload_n dX2_forget_0 0 rfl ?_
  refine a_iconst (v := 0) dX2_forget_1 (by decide) ?_
  refine a_put1 dX2_forget_2 1 (by decide) (tbc _ kF_RX2_15) (fun w h => tbc _ (uW1 w h)) rfl rfl rfl rfl ob_57 fs1_1 ?_
  exact a_vret dX2_forget_5 ⟨rfl, h⟩

/-! X2_isFull -/
theorem dX2_isFull_0 : decode cX2_isFull 0 = .ok (.aload_n 0, 1) := by decide +kernel
theorem dX2_isFull_1 : decode cX2_isFull 1 = .ok (.getfield 15, 3) := by decide +kernel
theorem dX2_isFull_4 : decode cX2_isFull 4 = .ok (.bipush 96, 2) := by decide +kernel
theorem dX2_isFull_6 : decode cX2_isFull 6 = .ok (.if_icmp .lt 7, 3) := by decide +kernel
theorem dX2_isFull_9 : decode cX2_isFull 9 = .ok (.iconst 1, 1) := by decide +kernel
theorem dX2_isFull_10 : decode cX2_isFull 10 = .ok (.goto 4, 3) := by decide +kernel
theorem dX2_isFull_13 : decode cX2_isFull 13 = .ok (.iconst 0, 1) := by decide +kernel
theorem dX2_isFull_14 : decode cX2_isFull 14 = .ok (.ireturn, 1) := by decide +kernel
abbrev A2_isFull (G : GG) (Q : Int32 → MM → Prop) := AW G E0 (MZ G (qI Q)) (WY yX2_isFull cX2_isFull 1 (some .boolean)) RX2 cX2_isFull 1 (some .boolean) ({ frames := 0, cells := 0, slots := 0, locals := 0 } : Room) 0 0
def D2_isFull (M : MM) (Q : Int32 → MM → Prop) : Prop := (((M 57 1) < (96 : Int32) → Q (0 : Int32) M) ∧ (¬ (M 57 1) < (96 : Int32) → Q (1 : Int32) M))
set_option maxHeartbeats 4000000 in
set_option maxRecDepth 100000 in
theorem s2_isFull {G : GG} {M : MM} {Q : Int32 → MM → Prop} (h : D2_isFull M Q) : CM G yX2_isFull (WY yX2_isFull cX2_isFull 1 (some .boolean)) 0 0 [.ref (gA G 57)] M (qI Q) := by
  refine CM.of (cc := cX2_isFull) (nL := 1) (ret := (some .boolean)) (own := RX2) (by decide +kernel) rfl rfl (Nat.le_of_ble_eq_true rfl) ?_
  show A2_isFull G Q 0 [(0, .ref (gA G 57))] [] M
  unfold D2_isFull at h
  refine a_aload_n dX2_isFull_0 0 rfl ?_
  refine a_get1 dX2_isFull_1 1 (by decide) (tbc _ kF_RX2_15) (fun w h => tbc _ (uW1 w h)) rfl ob_57 rfl ?_
  refine a_bipush (v := 96) dX2_isFull_4 (by decide) ?_
  refine a_icmp_lt (tgt := 13) dX2_isFull_6 (by decide) (fun c => ?_) (fun c => ?_)
  · have h := h.1 c
    refine a_iconst (v := 0) dX2_isFull_13 (by decide) ?_
    exact a_zret dX2_isFull_14 (Or.inl rfl) ⟨_, rfl, h⟩
  · have h := h.2 c
    refine a_iconst (v := 1) dX2_isFull_9 (by decide) ?_
    refine a_goto (tgt := 14) dX2_isFull_10 (by decide) ?_
    exact a_zret dX2_isFull_14 (Or.inr rfl) ⟨_, rfl, h⟩

/-! X2_lengthAt -/
theorem dX2_lengthAt_0 : decode cX2_lengthAt 0 = .ok (.iconst 0, 1) := by decide +kernel
theorem dX2_lengthAt_1 : decode cX2_lengthAt 1 = .ok (.aload_n 0, 1) := by decide +kernel
theorem dX2_lengthAt_2 : decode cX2_lengthAt 2 = .ok (.iload_n 1, 1) := by decide +kernel
theorem dX2_lengthAt_3 : decode cX2_lengthAt 3 = .ok (.invokevirtual 19, 3) := by decide +kernel
theorem dX2_lengthAt_6 : decode cX2_lengthAt 6 = .ok (.invokestatic 30, 3) := by decide +kernel
theorem dX2_lengthAt_9 : decode cX2_lengthAt 9 = .ok (.invokestatic 33, 3) := by decide +kernel
theorem dX2_lengthAt_12 : decode cX2_lengthAt 12 = .ok (.iconst 2, 1) := by decide +kernel
theorem dX2_lengthAt_13 : decode cX2_lengthAt 13 = .ok (.iadd, 1) := by decide +kernel
theorem dX2_lengthAt_14 : decode cX2_lengthAt 14 = .ok (.ireturn, 1) := by decide +kernel
abbrev A2_lengthAt (G : GG) (Q : Int32 → MM → Prop) := AW G E0 (MZ G (qI Q)) (WY yX2_lengthAt cX2_lengthAt 2 (some .int)) RX2 cX2_lengthAt 2 (some .int) ({ frames := 1, cells := 0, slots := 0, locals := 21 } : Room) 0 0
def D2_lengthAt (x1 : Int32) (M : MM) (Q : Int32 → MM → Prop) : Prop := D2_signAt x1 M (fun (r1 : Int32) (M2 : MM) => D2_digitsBehind r1 M2 (fun (r3 : Int32) (M4 : MM) => Q ((if (0 : Int32) < r3 then r3 else (0 : Int32)) + (2 : Int32)) M4))
set_option maxHeartbeats 4000000 in
set_option maxRecDepth 100000 in
theorem s2_lengthAt {G : GG} {x1 : Int32} {M : MM} {Q : Int32 → MM → Prop} (h : D2_lengthAt x1 M Q) : CM G yX2_lengthAt (WY yX2_lengthAt cX2_lengthAt 2 (some .int)) 1 21 [.ref (gA G 57), .int x1] M (qI Q) := by
  refine CM.of (cc := cX2_lengthAt) (nL := 2) (ret := (some .int)) (own := RX2) (by decide +kernel) rfl rfl (Nat.le_of_ble_eq_true rfl) ?_
  show A2_lengthAt G Q 0 [(0, .ref (gA G 57)), (1, .int x1)] [] M
  unfold D2_lengthAt at h
  refine a_iconst (v := 0) dX2_lengthAt_0 (by decide) ?_
  refine a_aload_n dX2_lengthAt_1 0 rfl ?_
  refine a_iload_n dX2_lengthAt_2 1 rfl ?_
  refine a_callVi (n := 1) [.int _] (C := RX2) (ci := 1) (qc := (RX2, TX2, 2)) (fsF := fl1 G _) ob_57.1 (fun _ => en1 ob_57.2) rfl rfl dX2_lengthAt_3 (s2_signAt h) (gV tbc kM_RX2_19_X2_signAt kI_X2_signAt kS_X2_signAt kN_RX2 kC_X2_signAt) rfl (by decide +kernel) ⟨Nat.le_of_ble_eq_true rfl, Nat.le_of_ble_eq_true rfl⟩ rfl rfl (Nat.le_of_ble_eq_true rfl) ⟨Nat.le_refl 0, Nat.le_refl 0⟩ (fun r M h => ?_)
  refine a_callSi (n := 1) [.int _] dX2_lengthAt_6 (s2_digitsBehind h) (gS tbc kM_RX2_30_X2_digitsBehind kT_X2_digitsBehind kN_RX2 kC_X2_digitsBehind) rfl (by decide +kernel) ⟨Nat.le_of_ble_eq_true rfl, Nat.le_of_ble_eq_true rfl⟩ rfl rfl (Nat.le_of_ble_eq_true rfl) ⟨Nat.le_refl 0, Nat.le_refl 0⟩ (fun r M h => ?_)
  refine a_mmax dX2_lengthAt_9 (tbc _ kM_RX2_33_Lib_Math_max_name) (tbc _ kT_Lib_Math_max_name) (tbc _ kN_Math) (tbc _ kC_Lib_Math_max_name) (Nat.le_of_ble_eq_true rfl) (Nat.le_of_ble_eq_true rfl) (Nat.le_refl 0) (Nat.le_refl 0) ?_
  refine a_iconst (v := 2) dX2_lengthAt_12 (by decide) ?_
  refine a_iadd dX2_lengthAt_13 ?_
  exact a_iret dX2_lengthAt_14 ⟨_, rfl, h⟩

/-! X2_lackPlace -/
theorem dX2_lackPlace_0 : decode cX2_lackPlace 0 = .ok (.aload_n 0, 1) := by decide +kernel
theorem dX2_lackPlace_1 : decode cX2_lackPlace 1 = .ok (.getfield 15, 3) := by decide +kernel
theorem dX2_lackPlace_4 : decode cX2_lackPlace 4 = .ok (.ifCond .ne 5, 3) := by decide +kernel
theorem dX2_lackPlace_7 : decode cX2_lackPlace 7 = .ok (.iconst 0, 1) := by decide +kernel
theorem dX2_lackPlace_8 : decode cX2_lackPlace 8 = .ok (.ireturn, 1) := by decide +kernel
theorem dX2_lackPlace_9 : decode cX2_lackPlace 9 = .ok (.iconst 0, 1) := by decide +kernel
theorem dX2_lackPlace_10 : decode cX2_lackPlace 10 = .ok (.istore_n 1, 1) := by decide +kernel
theorem dX2_lackPlace_11 : decode cX2_lackPlace 11 = .ok (.iconst 0, 1) := by decide +kernel
theorem dX2_lackPlace_12 : decode cX2_lackPlace 12 = .ok (.istore_n 2, 1) := by decide +kernel
theorem dX2_lackPlace_13 : decode cX2_lackPlace 13 = .ok (.iload_n 2, 1) := by decide +kernel
theorem dX2_lackPlace_14 : decode cX2_lackPlace 14 = .ok (.bipush 96, 2) := by decide +kernel
theorem dX2_lackPlace_16 : decode cX2_lackPlace 16 = .ok (.if_icmp .ge 91, 3) := by decide +kernel
theorem dX2_lackPlace_19 : decode cX2_lackPlace 19 = .ok (.iload_n 1, 1) := by decide +kernel
theorem dX2_lackPlace_20 : decode cX2_lackPlace 20 = .ok (.aload_n 0, 1) := by decide +kernel
theorem dX2_lackPlace_21 : decode cX2_lackPlace 21 = .ok (.getfield 15, 3) := by decide +kernel
theorem dX2_lackPlace_24 : decode cX2_lackPlace 24 = .ok (.if_icmp .ge 83, 3) := by decide +kernel
theorem dX2_lackPlace_27 : decode cX2_lackPlace 27 = .ok (.aload_n 0, 1) := by decide +kernel
theorem dX2_lackPlace_28 : decode cX2_lackPlace 28 = .ok (.iload_n 1, 1) := by decide +kernel
theorem dX2_lackPlace_29 : decode cX2_lackPlace 29 = .ok (.invokevirtual 19, 3) := by decide +kernel
theorem dX2_lackPlace_32 : decode cX2_lackPlace 32 = .ok (.invokestatic 30, 3) := by decide +kernel
theorem dX2_lackPlace_35 : decode cX2_lackPlace 35 = .ok (.istore_n 3, 1) := by decide +kernel
theorem dX2_lackPlace_36 : decode cX2_lackPlace 36 = .ok (.iload_n 3, 1) := by decide +kernel
theorem dX2_lackPlace_37 : decode cX2_lackPlace 37 = .ok (.ifCond .ge 5, 3) := by decide +kernel
theorem dX2_lackPlace_40 : decode cX2_lackPlace 40 = .ok (.iload_n 1, 1) := by decide +kernel
theorem dX2_lackPlace_41 : decode cX2_lackPlace 41 = .ok (.ireturn, 1) := by decide +kernel
theorem dX2_lackPlace_42 : decode cX2_lackPlace 42 = .ok (.iconst 1, 1) := by decide +kernel
theorem dX2_lackPlace_43 : decode cX2_lackPlace 43 = .ok (.istore 4, 2) := by decide +kernel
theorem dX2_lackPlace_45 : decode cX2_lackPlace 45 = .ok (.iload 4, 2) := by decide +kernel
theorem dX2_lackPlace_47 : decode cX2_lackPlace 47 = .ok (.iload_n 3, 1) := by decide +kernel
theorem dX2_lackPlace_48 : decode cX2_lackPlace 48 = .ok (.if_icmp .gt 25, 3) := by decide +kernel
theorem dX2_lackPlace_51 : decode cX2_lackPlace 51 = .ok (.aload_n 0, 1) := by decide +kernel
theorem dX2_lackPlace_52 : decode cX2_lackPlace 52 = .ok (.iload_n 1, 1) := by decide +kernel
theorem dX2_lackPlace_53 : decode cX2_lackPlace 53 = .ok (.iload 4, 2) := by decide +kernel
theorem dX2_lackPlace_55 : decode cX2_lackPlace 55 = .ok (.iadd, 1) := by decide +kernel
theorem dX2_lackPlace_56 : decode cX2_lackPlace 56 = .ok (.invokevirtual 23, 3) := by decide +kernel
theorem dX2_lackPlace_59 : decode cX2_lackPlace 59 = .ok (.ifCond .ne 8, 3) := by decide +kernel
theorem dX2_lackPlace_62 : decode cX2_lackPlace 62 = .ok (.iload_n 1, 1) := by decide +kernel
theorem dX2_lackPlace_63 : decode cX2_lackPlace 63 = .ok (.iload 4, 2) := by decide +kernel
theorem dX2_lackPlace_65 : decode cX2_lackPlace 65 = .ok (.iadd, 1) := by decide +kernel
theorem dX2_lackPlace_66 : decode cX2_lackPlace 66 = .ok (.ireturn, 1) := by decide +kernel
theorem dX2_lackPlace_67 : decode cX2_lackPlace 67 = .ok (.iinc 4 1, 3) := by decide +kernel
theorem dX2_lackPlace_70 : decode cX2_lackPlace 70 = .ok (.goto (-25), 3) := by decide +kernel
theorem dX2_lackPlace_73 : decode cX2_lackPlace 73 = .ok (.aload_n 0, 1) := by decide +kernel
theorem dX2_lackPlace_74 : decode cX2_lackPlace 74 = .ok (.iload_n 1, 1) := by decide +kernel
theorem dX2_lackPlace_75 : decode cX2_lackPlace 75 = .ok (.iload_n 3, 1) := by decide +kernel
theorem dX2_lackPlace_76 : decode cX2_lackPlace 76 = .ok (.iadd, 1) := by decide +kernel
theorem dX2_lackPlace_77 : decode cX2_lackPlace 77 = .ok (.iconst 1, 1) := by decide +kernel
theorem dX2_lackPlace_78 : decode cX2_lackPlace 78 = .ok (.iadd, 1) := by decide +kernel
theorem dX2_lackPlace_79 : decode cX2_lackPlace 79 = .ok (.invokevirtual 19, 3) := by decide +kernel
theorem dX2_lackPlace_82 : decode cX2_lackPlace 82 = .ok (.bipush 59, 2) := by decide +kernel
theorem dX2_lackPlace_84 : decode cX2_lackPlace 84 = .ok (.if_icmp .eq 9, 3) := by decide +kernel
theorem dX2_lackPlace_87 : decode cX2_lackPlace 87 = .ok (.iload_n 1, 1) := by decide +kernel
theorem dX2_lackPlace_88 : decode cX2_lackPlace 88 = .ok (.iload_n 3, 1) := by decide +kernel
theorem dX2_lackPlace_89 : decode cX2_lackPlace 89 = .ok (.iadd, 1) := by decide +kernel
theorem dX2_lackPlace_90 : decode cX2_lackPlace 90 = .ok (.iconst 1, 1) := by decide +kernel
theorem dX2_lackPlace_91 : decode cX2_lackPlace 91 = .ok (.iadd, 1) := by decide +kernel
theorem dX2_lackPlace_92 : decode cX2_lackPlace 92 = .ok (.ireturn, 1) := by decide +kernel
theorem dX2_lackPlace_93 : decode cX2_lackPlace 93 = .ok (.iload_n 1, 1) := by decide +kernel
theorem dX2_lackPlace_94 : decode cX2_lackPlace 94 = .ok (.aload_n 0, 1) := by decide +kernel
theorem dX2_lackPlace_95 : decode cX2_lackPlace 95 = .ok (.iload_n 1, 1) := by decide +kernel
theorem dX2_lackPlace_96 : decode cX2_lackPlace 96 = .ok (.invokevirtual 39, 3) := by decide +kernel
theorem dX2_lackPlace_99 : decode cX2_lackPlace 99 = .ok (.iadd, 1) := by decide +kernel
theorem dX2_lackPlace_100 : decode cX2_lackPlace 100 = .ok (.istore_n 1, 1) := by decide +kernel
theorem dX2_lackPlace_101 : decode cX2_lackPlace 101 = .ok (.iinc 2 1, 3) := by decide +kernel
theorem dX2_lackPlace_104 : decode cX2_lackPlace 104 = .ok (.goto (-91), 3) := by decide +kernel
theorem dX2_lackPlace_107 : decode cX2_lackPlace 107 = .ok (.bipush (-9), 2) := by decide +kernel
theorem dX2_lackPlace_109 : decode cX2_lackPlace 109 = .ok (.ireturn, 1) := by decide +kernel
abbrev A2_lackPlace (G : GG) (Q : Int32 → MM → Prop) := AW G E0 (MZ G (qI Q)) (WY yX2_lackPlace cX2_lackPlace 5 (some .int)) RX2 cX2_lackPlace 5 (some .int) ({ frames := 2, cells := 0, slots := 0, locals := 42 } : Room) 0 0
def D2_lackPlace_c73 (K13 : Int32 → Int32 → MM → Prop) (Q : Int32 → MM → Prop) (x1 : Int32) (x2 : Int32) (x3 : Int32) (M : MM) : Prop := D2_signAt ((x1 + x3) + (1 : Int32)) M (fun (r8 : Int32) (M9 : MM) => ((r8 = (59 : Int32) → D2_lengthAt x1 M9 (fun (r10 : Int32) (M11 : MM) => (fun v12 : Int32 => (fun v13 : Int32 => K13 v12 v13 M11) (x2 + (1 : Int32))) (x1 + r10))) ∧ (¬ r8 = (59 : Int32) → Q ((x1 + x3) + (1 : Int32)) M9)))
def D2_lackPlace_c45 (K13 : Int32 → Int32 → MM → Prop) (Q : Int32 → MM → Prop) : Nat → Int32 → Int32 → Int32 → Int32 → MM → Prop
  | 0, _, _, _, _, _ => False
  | n + 1, x1, x2, x3, x4, M => ((x3 < x4 → D2_lackPlace_c73 K13 Q x1 x2 x3 M) ∧ (¬ x3 < x4 → D2_isDigit (x1 + x4) M (fun (r5 : Int32) (M6 : MM) => ((r5 ≠ 0 → (fun v7 : Int32 => D2_lackPlace_c45 K13 Q n x1 x2 x3 v7 M6) (x4 + (1 : Int32))) ∧ (r5 = 0 → Q (x1 + x4) M6)))))
def D2_lackPlace_c13 (Q : Int32 → MM → Prop) : Nat → Int32 → Int32 → MM → Prop
  | 0, _, _, _ => False
  | n + 1, x1, x2, M => (((96 : Int32) ≤ x2 → Q (-9 : Int32) M) ∧ (¬ (96 : Int32) ≤ x2 → (((M 57 1) ≤ x1 → Q (-9 : Int32) M) ∧ (¬ (M 57 1) ≤ x1 → D2_signAt x1 M (fun (r1 : Int32) (M2 : MM) => D2_digitsBehind r1 M2 (fun (r3 : Int32) (M4 : MM) => ((0 ≤ r3 → D2_lackPlace_c45 (D2_lackPlace_c13 Q n) Q FU x1 x2 r3 (1 : Int32) M4) ∧ (¬ 0 ≤ r3 → Q x1 M4))))))))
def D2_lackPlace (M : MM) (Q : Int32 → MM → Prop) : Prop := (((M 57 1) ≠ 0 → D2_lackPlace_c13 Q FU (0 : Int32) (0 : Int32) M) ∧ ((M 57 1) = 0 → Q (0 : Int32) M))
set_option maxHeartbeats 4000000 in
set_option maxRecDepth 100000 in
theorem s2_lackPlace_c73 {G : GG} {K13 : Int32 → Int32 → MM → Prop} {Q : Int32 → MM → Prop} (hK13 : ∀ (x1 : Int32) (x2 : Int32) (M : MM), K13 x1 x2 M → A2_lackPlace G Q 13 [(0, .ref (gA G 57)), (1, .int x1), (2, .int x2)] [] M) : ∀ (x1 : Int32) (x2 : Int32) (x3 : Int32) (M : MM), D2_lackPlace_c73 K13 Q x1 x2 x3 M → A2_lackPlace G Q 73 [(0, .ref (gA G 57)), (1, .int x1), (2, .int x2), (3, .int x3)] [] M := by
  intro x1 x2 x3 M h
  unfold D2_lackPlace_c73 at h
  refine a_aload_n dX2_lackPlace_73 0 rfl ?_
  refine a_iload_n dX2_lackPlace_74 1 rfl ?_
  refine a_iload_n dX2_lackPlace_75 3 rfl ?_
  refine a_iadd dX2_lackPlace_76 ?_
  refine a_iconst (v := 1) dX2_lackPlace_77 (by decide) ?_
  refine a_iadd dX2_lackPlace_78 ?_
  refine a_callVi (n := 1) [.int _] (C := RX2) (ci := 1) (qc := (RX2, TX2, 2)) (fsF := fl1 G _) ob_57.1 (fun _ => en1 ob_57.2) rfl rfl dX2_lackPlace_79 (s2_signAt h) (gV tbc kM_RX2_19_X2_signAt kI_X2_signAt kS_X2_signAt kN_RX2 kC_X2_signAt) rfl (by decide +kernel) ⟨Nat.le_of_ble_eq_true rfl, Nat.le_of_ble_eq_true rfl⟩ rfl rfl (Nat.le_of_ble_eq_true rfl) ⟨Nat.le_refl 0, Nat.le_refl 0⟩ (fun r M h => ?_)
  refine a_bipush (v := 59) dX2_lackPlace_82 (by decide) ?_
  refine a_icmp_eq (tgt := 93) dX2_lackPlace_84 (by decide) (fun c => ?_) (fun c => ?_)
  · have h := h.1 c
    refine a_iload_n dX2_lackPlace_93 1 rfl ?_
    refine a_aload_n dX2_lackPlace_94 0 rfl ?_
    refine a_iload_n dX2_lackPlace_95 1 rfl ?_
    refine a_callVi (n := 1) [.int _] (C := RX2) (ci := 1) (qc := (RX2, TX2, 2)) (fsF := fl1 G _) ob_57.1 (fun _ => en1 ob_57.2) rfl rfl dX2_lackPlace_96 (s2_lengthAt h) (gV tbc kM_RX2_39_X2_lengthAt kI_X2_lengthAt kS_X2_lengthAt kN_RX2 kC_X2_lengthAt) rfl (by decide +kernel) ⟨Nat.le_of_ble_eq_true rfl, Nat.le_of_ble_eq_true rfl⟩ rfl rfl (Nat.le_of_ble_eq_true rfl) ⟨Nat.le_refl 0, Nat.le_refl 0⟩ (fun r M h => ?_)
    refine a_iadd dX2_lackPlace_99 ?_
    refine a_istore_n (i := 1) (L' := [(1, .int _), (0, .ref _), (2, .int _), (3, .int _)]) dX2_lackPlace_100 rfl (by decide) rfl ?_
    refine a_iinc (L' := [(2, .int _), (1, .int _), (0, .ref _), (3, .int _)]) dX2_lackPlace_101 2 rfl (show _ + Int32.ofInt (1 : Int) = _ + (1 : Int32) from rfl) (by decide) rfl ?_
    refine a_goto (tgt := 13) dX2_lackPlace_104 (by decide) ?_
    refine a_sub [2, 1, 0] rfl ?_
    exact hK13 _ _ _ h
  · have h := h.2 c
    refine a_iload_n dX2_lackPlace_87 1 rfl ?_
    refine a_iload_n dX2_lackPlace_88 3 rfl ?_
    refine a_iadd dX2_lackPlace_89 ?_
    refine a_iconst (v := 1) dX2_lackPlace_90 (by decide) ?_
    refine a_iadd dX2_lackPlace_91 ?_
    exact a_iret dX2_lackPlace_92 ⟨_, rfl, h⟩
set_option maxHeartbeats 4000000 in
set_option maxRecDepth 100000 in
theorem s2_lackPlace_c45 {G : GG} {K13 : Int32 → Int32 → MM → Prop} {Q : Int32 → MM → Prop} (hK13 : ∀ (x1 : Int32) (x2 : Int32) (M : MM), K13 x1 x2 M → A2_lackPlace G Q 13 [(0, .ref (gA G 57)), (1, .int x1), (2, .int x2)] [] M) : ∀ (n : Nat) (x1 : Int32) (x2 : Int32) (x3 : Int32) (x4 : Int32) (M : MM), D2_lackPlace_c45 K13 Q n x1 x2 x3 x4 M → A2_lackPlace G Q 45 [(0, .ref (gA G 57)), (1, .int x1), (2, .int x2), (3, .int x3), (4, .int x4)] [] M := by
  intro n
  induction n with
  | zero => intro x1 x2 x3 x4 M h; exact h.elim
  | succ n ih =>
    intro x1 x2 x3 x4 M h
    unfold D2_lackPlace_c45 at h
    refine a_iload dX2_lackPlace_45 4 rfl ?_
    refine a_iload_n dX2_lackPlace_47 3 rfl ?_
    refine a_icmp_gt (tgt := 73) dX2_lackPlace_48 (by decide) (fun c => ?_) (fun c => ?_)
    · have h := h.1 c
      refine a_sub [0, 1, 2, 3] rfl ?_
      exact s2_lackPlace_c73 hK13 _ _ _ _ h
    · have h := h.2 c
      refine a_aload_n dX2_lackPlace_51 0 rfl ?_
      refine a_iload_n dX2_lackPlace_52 1 rfl ?_
      refine a_iload dX2_lackPlace_53 4 rfl ?_
      refine a_iadd dX2_lackPlace_55 ?_
      refine a_callVi (n := 1) [.int _] (C := RX2) (ci := 1) (qc := (RX2, TX2, 2)) (fsF := fl1 G _) ob_57.1 (fun _ => en1 ob_57.2) rfl rfl dX2_lackPlace_56 (s2_isDigit h) (gV tbc kM_RX2_23_X2_isDigit kI_X2_isDigit kS_X2_isDigit kN_RX2 kC_X2_isDigit) rfl (by decide +kernel) ⟨Nat.le_of_ble_eq_true rfl, Nat.le_of_ble_eq_true rfl⟩ rfl rfl (Nat.le_of_ble_eq_true rfl) ⟨Nat.le_refl 0, Nat.le_refl 0⟩ (fun r M h => ?_)
      refine a_if_ne (tgt := 67) dX2_lackPlace_59 (by decide) (fun c => ?_) (fun c => ?_)
      · have h := h.1 c
        refine a_iinc (L' := [(4, .int _), (0, .ref _), (1, .int _), (2, .int _), (3, .int _)]) dX2_lackPlace_67 4 rfl (show _ + Int32.ofInt (1 : Int) = _ + (1 : Int32) from rfl) (by decide) rfl ?_
        refine a_goto (tgt := 45) dX2_lackPlace_70 (by decide) ?_
        refine a_sub [1, 2, 3, 4, 0] rfl ?_
        exact ih _ _ _ _ _ h
      · have h := h.2 c
        refine a_iload_n dX2_lackPlace_62 1 rfl ?_
        refine a_iload dX2_lackPlace_63 4 rfl ?_
        refine a_iadd dX2_lackPlace_65 ?_
        exact a_iret dX2_lackPlace_66 ⟨_, rfl, h⟩
set_option maxHeartbeats 4000000 in
set_option maxRecDepth 100000 in
theorem s2_lackPlace_c13 {G : GG} {Q : Int32 → MM → Prop} : ∀ (n : Nat) (x1 : Int32) (x2 : Int32) (M : MM), D2_lackPlace_c13 Q n x1 x2 M → A2_lackPlace G Q 13 [(0, .ref (gA G 57)), (1, .int x1), (2, .int x2)] [] M := by
  intro n
  induction n with
  | zero => intro x1 x2 M h; exact h.elim
  | succ n ih =>
    intro x1 x2 M h
    unfold D2_lackPlace_c13 at h
    refine a_iload_n dX2_lackPlace_13 2 rfl ?_
    refine a_bipush (v := 96) dX2_lackPlace_14 (by decide) ?_
    refine a_icmp_ge (tgt := 107) dX2_lackPlace_16 (by decide) (fun c => ?_) (fun c => ?_)
    · have h := h.1 c
      refine a_bipush (v := -9) dX2_lackPlace_107 (by decide) ?_
      exact a_iret dX2_lackPlace_109 ⟨_, rfl, h⟩
    · have h := h.2 c
      refine a_iload_n dX2_lackPlace_19 1 rfl ?_
      refine a_aload_n dX2_lackPlace_20 0 rfl ?_
      refine a_get1 dX2_lackPlace_21 1 (by decide) (tbc _ kF_RX2_15) (fun w h => tbc _ (uW1 w h)) rfl ob_57 rfl ?_
      refine a_icmp_ge (tgt := 107) dX2_lackPlace_24 (by decide) (fun c => ?_) (fun c => ?_)
      · have h := h.1 c
        refine a_bipush (v := -9) dX2_lackPlace_107 (by decide) ?_
        exact a_iret dX2_lackPlace_109 ⟨_, rfl, h⟩
      · have h := h.2 c
        refine a_aload_n dX2_lackPlace_27 0 rfl ?_
        refine a_iload_n dX2_lackPlace_28 1 rfl ?_
        refine a_callVi (n := 1) [.int _] (C := RX2) (ci := 1) (qc := (RX2, TX2, 2)) (fsF := fl1 G _) ob_57.1 (fun _ => en1 ob_57.2) rfl rfl dX2_lackPlace_29 (s2_signAt h) (gV tbc kM_RX2_19_X2_signAt kI_X2_signAt kS_X2_signAt kN_RX2 kC_X2_signAt) rfl (by decide +kernel) ⟨Nat.le_of_ble_eq_true rfl, Nat.le_of_ble_eq_true rfl⟩ rfl rfl (Nat.le_of_ble_eq_true rfl) ⟨Nat.le_refl 0, Nat.le_refl 0⟩ (fun r M h => ?_)
        refine a_callSi (n := 1) [.int _] dX2_lackPlace_32 (s2_digitsBehind h) (gS tbc kM_RX2_30_X2_digitsBehind kT_X2_digitsBehind kN_RX2 kC_X2_digitsBehind) rfl (by decide +kernel) ⟨Nat.le_of_ble_eq_true rfl, Nat.le_of_ble_eq_true rfl⟩ rfl rfl (Nat.le_of_ble_eq_true rfl) ⟨Nat.le_refl 0, Nat.le_refl 0⟩ (fun r M h => ?_)
        refine a_istore_n (i := 3) (L' := [(3, .int _), (0, .ref _), (1, .int _), (2, .int _)]) dX2_lackPlace_35 rfl (by decide) rfl ?_
        refine a_iload_n dX2_lackPlace_36 0 rfl ?_
        refine a_if_ge (tgt := 42) dX2_lackPlace_37 (by decide) (fun c => ?_) (fun c => ?_)
        · have h := h.1 c
          refine a_iconst (v := 1) dX2_lackPlace_42 (by decide) ?_
          refine a_istore (i := 4) (L' := [(4, .int _), (3, .int _), (0, .ref _), (1, .int _), (2, .int _)]) dX2_lackPlace_43 (by decide) rfl ?_
          refine a_sub [2, 3, 4, 1, 0] rfl ?_
          exact s2_lackPlace_c45 ih _ _ _ _ _ _ h
        · have h := h.2 c
          refine a_iload_n dX2_lackPlace_40 2 rfl ?_
          exact a_iret dX2_lackPlace_41 ⟨_, rfl, h⟩
set_option maxHeartbeats 4000000 in
set_option maxRecDepth 100000 in
theorem s2_lackPlace {G : GG} {M : MM} {Q : Int32 → MM → Prop} (h : D2_lackPlace M Q) : CM G yX2_lackPlace (WY yX2_lackPlace cX2_lackPlace 5 (some .int)) 2 42 [.ref (gA G 57)] M (qI Q) := by
  refine CM.of (cc := cX2_lackPlace) (nL := 5) (ret := (some .int)) (own := RX2) (by decide +kernel) rfl rfl (Nat.le_of_ble_eq_true rfl) ?_
  show A2_lackPlace G Q 0 [(0, .ref (gA G 57))] [] M
  unfold D2_lackPlace at h
  refine a_aload_n dX2_lackPlace_0 0 rfl ?_
  refine a_get1 dX2_lackPlace_1 1 (by decide) (tbc _ kF_RX2_15) (fun w h => tbc _ (uW1 w h)) rfl ob_57 rfl ?_
  refine a_if_ne (tgt := 9) dX2_lackPlace_4 (by decide) (fun c => ?_) (fun c => ?_)
  · have h := h.1 c
    refine a_iconst (v := 0) dX2_lackPlace_9 (by decide) ?_
    refine a_istore_n (i := 1) (L' := [(1, .int _), (0, .ref _)]) dX2_lackPlace_10 rfl (by decide) rfl ?_
    refine a_iconst (v := 0) dX2_lackPlace_11 (by decide) ?_
    refine a_istore_n (i := 2) (L' := [(2, .int _), (1, .int _), (0, .ref _)]) dX2_lackPlace_12 rfl (by decide) rfl ?_
    refine a_sub [2, 1, 0] rfl ?_
    exact s2_lackPlace_c13 _ _ _ _ h
  · have h := h.2 c
    refine a_iconst (v := 0) dX2_lackPlace_7 (by decide) ?_
    exact a_iret dX2_lackPlace_8 ⟨_, rfl, h⟩

/-! X2_size -/
theorem dX2_size_0 : decode cX2_size 0 = .ok (.aload_n 0, 1) := by decide +kernel
theorem dX2_size_1 : decode cX2_size 1 = .ok (.getfield 15, 3) := by decide +kernel
theorem dX2_size_4 : decode cX2_size 4 = .ok (.ireturn, 1) := by decide +kernel
abbrev A2_size (G : GG) (Q : Int32 → MM → Prop) := AW G E0 (MZ G (qI Q)) (WY yX2_size cX2_size 1 (some .int)) RX2 cX2_size 1 (some .int) ({ frames := 0, cells := 0, slots := 0, locals := 0 } : Room) 0 0
def D2_size (M : MM) (Q : Int32 → MM → Prop) : Prop := Q (M 57 1) M
set_option maxHeartbeats 4000000 in
set_option maxRecDepth 100000 in
theorem s2_size {G : GG} {M : MM} {Q : Int32 → MM → Prop} (h : D2_size M Q) : CM G yX2_size (WY yX2_size cX2_size 1 (some .int)) 0 0 [.ref (gA G 57)] M (qI Q) := by
  refine CM.of (cc := cX2_size) (nL := 1) (ret := (some .int)) (own := RX2) (by decide +kernel) rfl rfl (Nat.le_of_ble_eq_true rfl) ?_
  show A2_size G Q 0 [(0, .ref (gA G 57))] [] M
  unfold D2_size at h
  refine a_aload_n dX2_size_0 0 rfl ?_
  refine a_get1 dX2_size_1 1 (by decide) (tbc _ kF_RX2_15) (fun w h => tbc _ (uW1 w h)) rfl ob_57 rfl ?_
  exact a_iret dX2_size_4 ⟨_, rfl, h⟩
end
