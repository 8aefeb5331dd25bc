section
-- ===== PART A: goes FIRST, ahead of the names: the tables' words, and 'selects' of the private methods out of them =====
/-- a private method of a class that the tables say can be made, by its rows of tables_1 -/
def lw_okq (q : MethodName × Nat) : Prop := (q.1.cls ≠ "java/lang/invoke/MethodHandle" ∧ q.1.cls ≠ "java/lang/invoke/VarHandle") ∧ Cond.instantiable q.1.cls q.2 ∈ tables_1 ∧ Cond.privateMethod q.1 ∈ tables_1 ∧ Cond.instanceMethod q.1 ∈ tables_1
theorem lw_p0 : lw_okq (⟨"LessonSpiral", "finding", "(I)I"⟩, 6) := ⟨⟨by decide +kernel, by decide +kernel⟩, List.mem_of_getElem? (i := 13) (by decide +kernel), List.mem_of_getElem? (i := 192) (by decide +kernel), List.mem_of_getElem? (i := 193) (by decide +kernel)⟩
theorem lw_p1 : lw_okq (⟨"LessonSpiral", "isNoTopic", "(I)Z"⟩, 6) := ⟨⟨by decide +kernel, by decide +kernel⟩, List.mem_of_getElem? (i := 13) (by decide +kernel), List.mem_of_getElem? (i := 227) (by decide +kernel), List.mem_of_getElem? (i := 228) (by decide +kernel)⟩
theorem lw_p2 : lw_okq (⟨"LessonSpiral", "change", "(III)I"⟩, 6) := ⟨⟨by decide +kernel, by decide +kernel⟩, List.mem_of_getElem? (i := 13) (by decide +kernel), List.mem_of_getElem? (i := 267) (by decide +kernel), List.mem_of_getElem? (i := 268) (by decide +kernel)⟩
theorem lw_p3 : lw_okq (⟨"LessonSpiral", "meet", "(III)I"⟩, 6) := ⟨⟨by decide +kernel, by decide +kernel⟩, List.mem_of_getElem? (i := 13) (by decide +kernel), List.mem_of_getElem? (i := 383) (by decide +kernel), List.mem_of_getElem? (i := 384) (by decide +kernel)⟩
theorem lw_p4 : lw_okq (⟨"LessonSpiral$Laws", "keeps", "(II)Z"⟩, 1) := ⟨⟨by decide +kernel, by decide +kernel⟩, List.mem_of_getElem? (i := 32) (by decide +kernel), List.mem_of_getElem? (i := 401) (by decide +kernel), List.mem_of_getElem? (i := 402) (by decide +kernel)⟩
theorem lw_p5 : lw_okq (⟨"LessonSpiral$Laws", "isBehindNeeds", "(II)Z"⟩, 1) := ⟨⟨by decide +kernel, by decide +kernel⟩, List.mem_of_getElem? (i := 32) (by decide +kernel), List.mem_of_getElem? (i := 411) (by decide +kernel), List.mem_of_getElem? (i := 412) (by decide +kernel)⟩
theorem lw_p6 : lw_okq (⟨"LessonSpiral$Laws", "isBesidePartner", "(II)Z"⟩, 1) := ⟨⟨by decide +kernel, by decide +kernel⟩, List.mem_of_getElem? (i := 32) (by decide +kernel), List.mem_of_getElem? (i := 426) (by decide +kernel), List.mem_of_getElem? (i := 427) (by decide +kernel)⟩
theorem lw_p7 : lw_okq (⟨"LessonSpiral", "seek", "(IZ)I"⟩, 6) := ⟨⟨by decide +kernel, by decide +kernel⟩, List.mem_of_getElem? (i := 13) (by decide +kernel), List.mem_of_getElem? (i := 457) (by decide +kernel), List.mem_of_getElem? (i := 458) (by decide +kernel)⟩
theorem lw_p8 : lw_okq (⟨"LessonSpiral$Place", "addOption", "(LLessonSpiral$Course;II)V"⟩, 12) := ⟨⟨by decide +kernel, by decide +kernel⟩, List.mem_of_getElem? (i := 49) (by decide +kernel), List.mem_of_getElem? (i := 481) (by decide +kernel), List.mem_of_getElem? (i := 482) (by decide +kernel)⟩
theorem lw_p9 : lw_okq (⟨"LessonSpiral$Search", "startLoads", "()Z"⟩, 10) := ⟨⟨by decide +kernel, by decide +kernel⟩, List.mem_of_getElem? (i := 42) (by decide +kernel), List.mem_of_getElem? (i := 489) (by decide +kernel), List.mem_of_getElem? (i := 490) (by decide +kernel)⟩
theorem lw_p10 : lw_okq (⟨"LessonSpiral$Search", "startEvenness", "()I"⟩, 10) := ⟨⟨by decide +kernel, by decide +kernel⟩, List.mem_of_getElem? (i := 42) (by decide +kernel), List.mem_of_getElem? (i := 495) (by decide +kernel), List.mem_of_getElem? (i := 496) (by decide +kernel)⟩
theorem lw_p11 : lw_okq (⟨"LessonSpiral$Search", "place", "(III)V"⟩, 10) := ⟨⟨by decide +kernel, by decide +kernel⟩, List.mem_of_getElem? (i := 42) (by decide +kernel), List.mem_of_getElem? (i := 499) (by decide +kernel), List.mem_of_getElem? (i := 500) (by decide +kernel)⟩
theorem lw_p12 : lw_okq (⟨"LessonSpiral$Search", "keepPlan", "(II)V"⟩, 10) := ⟨⟨by decide +kernel, by decide +kernel⟩, List.mem_of_getElem? (i := 42) (by decide +kernel), List.mem_of_getElem? (i := 503) (by decide +kernel), List.mem_of_getElem? (i := 504) (by decide +kernel)⟩
theorem lw_p13 : lw_okq (⟨"LessonSpiral$Search", "earliestFirst", "(I)I"⟩, 10) := ⟨⟨by decide +kernel, by decide +kernel⟩, List.mem_of_getElem? (i := 42) (by decide +kernel), List.mem_of_getElem? (i := 511) (by decide +kernel), List.mem_of_getElem? (i := 512) (by decide +kernel)⟩
theorem lw_p14 : lw_okq (⟨"LessonSpiral$Search", "latestFirst", "(I)I"⟩, 10) := ⟨⟨by decide +kernel, by decide +kernel⟩, List.mem_of_getElem? (i := 42) (by decide +kernel), List.mem_of_getElem? (i := 526) (by decide +kernel), List.mem_of_getElem? (i := 527) (by decide +kernel)⟩
theorem lw_p15 : lw_okq (⟨"LessonSpiral$Search", "fits", "(III)Z"⟩, 10) := ⟨⟨by decide +kernel, by decide +kernel⟩, List.mem_of_getElem? (i := 42) (by decide +kernel), List.mem_of_getElem? (i := 531) (by decide +kernel), List.mem_of_getElem? (i := 532) (by decide +kernel)⟩
def lw_privs_1 : List (MethodName × Nat) := [(⟨"LessonSpiral", "finding", "(I)I"⟩, 6), (⟨"LessonSpiral", "isNoTopic", "(I)Z"⟩, 6), (⟨"LessonSpiral", "change", "(III)I"⟩, 6), (⟨"LessonSpiral", "meet", "(III)I"⟩, 6), (⟨"LessonSpiral$Laws", "keeps", "(II)Z"⟩, 1), (⟨"LessonSpiral$Laws", "isBehindNeeds", "(II)Z"⟩, 1), (⟨"LessonSpiral$Laws", "isBesidePartner", "(II)Z"⟩, 1), (⟨"LessonSpiral", "seek", "(IZ)I"⟩, 6), (⟨"LessonSpiral$Place", "addOption", "(LLessonSpiral$Course;II)V"⟩, 12), (⟨"LessonSpiral$Search", "startLoads", "()Z"⟩, 10), (⟨"LessonSpiral$Search", "startEvenness", "()I"⟩, 10), (⟨"LessonSpiral$Search", "place", "(III)V"⟩, 10), (⟨"LessonSpiral$Search", "keepPlan", "(II)V"⟩, 10), (⟨"LessonSpiral$Search", "earliestFirst", "(I)I"⟩, 10), (⟨"LessonSpiral$Search", "latestFirst", "(I)I"⟩, 10), (⟨"LessonSpiral$Search", "fits", "(III)Z"⟩, 10)]
theorem lw_r1 : ∀ q ∈ lw_privs_1, lw_okq q := List.forall_mem_cons.mpr ⟨lw_p0, List.forall_mem_cons.mpr ⟨lw_p1, List.forall_mem_cons.mpr ⟨lw_p2, List.forall_mem_cons.mpr ⟨lw_p3, List.forall_mem_cons.mpr ⟨lw_p4, List.forall_mem_cons.mpr ⟨lw_p5, List.forall_mem_cons.mpr ⟨lw_p6, List.forall_mem_cons.mpr ⟨lw_p7, List.forall_mem_cons.mpr ⟨lw_p8, List.forall_mem_cons.mpr ⟨lw_p9, List.forall_mem_cons.mpr ⟨lw_p10, List.forall_mem_cons.mpr ⟨lw_p11, List.forall_mem_cons.mpr ⟨lw_p12, List.forall_mem_cons.mpr ⟨lw_p13, List.forall_mem_cons.mpr ⟨lw_p14, List.forall_mem_cons.mpr ⟨lw_p15, fun _ h => absurd h List.not_mem_nil⟩⟩⟩⟩⟩⟩⟩⟩⟩⟩⟩⟩⟩⟩⟩⟩
theorem lw_p16 : lw_okq (⟨"LessonSpiral$Search", "goOn", "(III)V"⟩, 10) := ⟨⟨by decide +kernel, by decide +kernel⟩, List.mem_of_getElem? (i := 42) (by decide +kernel), List.mem_of_getElem? (i := 539) (by decide +kernel), List.mem_of_getElem? (i := 540) (by decide +kernel)⟩
theorem lw_p17 : lw_okq (⟨"LessonSpiral$Search", "growth", "(II)I"⟩, 10) := ⟨⟨by decide +kernel, by decide +kernel⟩, List.mem_of_getElem? (i := 42) (by decide +kernel), List.mem_of_getElem? (i := 543) (by decide +kernel), List.mem_of_getElem? (i := 544) (by decide +kernel)⟩
theorem lw_p18 : lw_okq (⟨"LessonSpiral$Search", "canBeBest", "(II)Z"⟩, 10) := ⟨⟨by decide +kernel, by decide +kernel⟩, List.mem_of_getElem? (i := 42) (by decide +kernel), List.mem_of_getElem? (i := 547) (by decide +kernel), List.mem_of_getElem? (i := 548) (by decide +kernel)⟩
theorem lw_p19 : lw_okq (⟨"LessonSpiral$Search", "burden", "(II)V"⟩, 10) := ⟨⟨by decide +kernel, by decide +kernel⟩, List.mem_of_getElem? (i := 42) (by decide +kernel), List.mem_of_getElem? (i := 551) (by decide +kernel), List.mem_of_getElem? (i := 552) (by decide +kernel)⟩
theorem lw_p20 : lw_okq (⟨"LessonSpiral", "hoursOf", "(I)I"⟩, 6) := ⟨⟨by decide +kernel, by decide +kernel⟩, List.mem_of_getElem? (i := 13) (by decide +kernel), List.mem_of_getElem? (i := 589) (by decide +kernel), List.mem_of_getElem? (i := 590) (by decide +kernel)⟩
theorem lw_p21 : lw_okq (⟨"LessonSpiral", "dueHours", "(II)I"⟩, 6) := ⟨⟨by decide +kernel, by decide +kernel⟩, List.mem_of_getElem? (i := 13) (by decide +kernel), List.mem_of_getElem? (i := 613) (by decide +kernel), List.mem_of_getElem? (i := 614) (by decide +kernel)⟩
theorem lw_p22 : lw_okq (⟨"LessonSpiralModel", "finding", "(I)I"⟩, 15) := ⟨⟨by decide +kernel, by decide +kernel⟩, List.mem_of_getElem? (i := 657) (by decide +kernel), List.mem_of_getElem? (i := 714) (by decide +kernel), List.mem_of_getElem? (i := 715) (by decide +kernel)⟩
theorem lw_p23 : lw_okq (⟨"LessonSpiralModel", "act", "()V"⟩, 15) := ⟨⟨by decide +kernel, by decide +kernel⟩, List.mem_of_getElem? (i := 657) (by decide +kernel), List.mem_of_getElem? (i := 727) (by decide +kernel), List.mem_of_getElem? (i := 728) (by decide +kernel)⟩
theorem lw_p24 : lw_okq (⟨"LessonSpiralModel", "set", "(III)V"⟩, 15) := ⟨⟨by decide +kernel, by decide +kernel⟩, List.mem_of_getElem? (i := 657) (by decide +kernel), List.mem_of_getElem? (i := 731) (by decide +kernel), List.mem_of_getElem? (i := 732) (by decide +kernel)⟩
theorem lw_p25 : lw_okq (⟨"LessonSpiralModel", "isTopic", "(I)Z"⟩, 15) := ⟨⟨by decide +kernel, by decide +kernel⟩, List.mem_of_getElem? (i := 657) (by decide +kernel), List.mem_of_getElem? (i := 739) (by decide +kernel), List.mem_of_getElem? (i := 740) (by decide +kernel)⟩
theorem lw_p26 : lw_okq (⟨"LessonSpiralModel", "at", "(II)I"⟩, 15) := ⟨⟨by decide +kernel, by decide +kernel⟩, List.mem_of_getElem? (i := 657) (by decide +kernel), List.mem_of_getElem? (i := 743) (by decide +kernel), List.mem_of_getElem? (i := 744) (by decide +kernel)⟩
theorem lw_p27 : lw_okq (⟨"LessonSpiralModel", "allNeeds", "(I)I"⟩, 15) := ⟨⟨by decide +kernel, by decide +kernel⟩, List.mem_of_getElem? (i := 657) (by decide +kernel), List.mem_of_getElem? (i := 752) (by decide +kernel), List.mem_of_getElem? (i := 753) (by decide +kernel)⟩
theorem lw_p28 : lw_okq (⟨"LessonSpiralModel", "isStrand", "(I)Z"⟩, 15) := ⟨⟨by decide +kernel, by decide +kernel⟩, List.mem_of_getElem? (i := 657) (by decide +kernel), List.mem_of_getElem? (i := 761) (by decide +kernel), List.mem_of_getElem? (i := 762) (by decide +kernel)⟩
theorem lw_p29 : lw_okq (⟨"LessonSpiralModel", "change", "(III)I"⟩, 15) := ⟨⟨by decide +kernel, by decide +kernel⟩, List.mem_of_getElem? (i := 657) (by decide +kernel), List.mem_of_getElem? (i := 765) (by decide +kernel), List.mem_of_getElem? (i := 766) (by decide +kernel)⟩
theorem lw_p30 : lw_okq (⟨"LessonSpiralModel", "hasSnow", "(I)Z"⟩, 15) := ⟨⟨by decide +kernel, by decide +kernel⟩, List.mem_of_getElem? (i := 657) (by decide +kernel), List.mem_of_getElem? (i := 794) (by decide +kernel), List.mem_of_getElem? (i := 795) (by decide +kernel)⟩
theorem lw_p31 : lw_okq (⟨"LessonSpiralModel", "hasPart", "(III)Z"⟩, 15) := ⟨⟨by decide +kernel, by decide +kernel⟩, List.mem_of_getElem? (i := 657) (by decide +kernel), List.mem_of_getElem? (i := 818) (by decide +kernel), List.mem_of_getElem? (i := 819) (by decide +kernel)⟩
def lw_privs_2 : List (MethodName × Nat) := [(⟨"LessonSpiral$Search", "goOn", "(III)V"⟩, 10), (⟨"LessonSpiral$Search", "growth", "(II)I"⟩, 10), (⟨"LessonSpiral$Search", "canBeBest", "(II)Z"⟩, 10), (⟨"LessonSpiral$Search", "burden", "(II)V"⟩, 10), (⟨"LessonSpiral", "hoursOf", "(I)I"⟩, 6), (⟨"LessonSpiral", "dueHours", "(II)I"⟩, 6), (⟨"LessonSpiralModel", "finding", "(I)I"⟩, 15), (⟨"LessonSpiralModel", "act", "()V"⟩, 15), (⟨"LessonSpiralModel", "set", "(III)V"⟩, 15), (⟨"LessonSpiralModel", "isTopic", "(I)Z"⟩, 15), (⟨"LessonSpiralModel", "at", "(II)I"⟩, 15), (⟨"LessonSpiralModel", "allNeeds", "(I)I"⟩, 15), (⟨"LessonSpiralModel", "isStrand", "(I)Z"⟩, 15), (⟨"LessonSpiralModel", "change", "(III)I"⟩, 15), (⟨"LessonSpiralModel", "hasSnow", "(I)Z"⟩, 15), (⟨"LessonSpiralModel", "hasPart", "(III)Z"⟩, 15)]
theorem lw_r2 : ∀ q ∈ lw_privs_2, lw_okq q := List.forall_mem_cons.mpr ⟨lw_p16, List.forall_mem_cons.mpr ⟨lw_p17, List.forall_mem_cons.mpr ⟨lw_p18, List.forall_mem_cons.mpr ⟨lw_p19, List.forall_mem_cons.mpr ⟨lw_p20, List.forall_mem_cons.mpr ⟨lw_p21, List.forall_mem_cons.mpr ⟨lw_p22, List.forall_mem_cons.mpr ⟨lw_p23, List.forall_mem_cons.mpr ⟨lw_p24, List.forall_mem_cons.mpr ⟨lw_p25, List.forall_mem_cons.mpr ⟨lw_p26, List.forall_mem_cons.mpr ⟨lw_p27, List.forall_mem_cons.mpr ⟨lw_p28, List.forall_mem_cons.mpr ⟨lw_p29, List.forall_mem_cons.mpr ⟨lw_p30, List.forall_mem_cons.mpr ⟨lw_p31, fun _ h => absurd h List.not_mem_nil⟩⟩⟩⟩⟩⟩⟩⟩⟩⟩⟩⟩⟩⟩⟩⟩
theorem lw_p32 : lw_okq (⟨"LessonSpiralModel", "lay", "(III)I"⟩, 15) := ⟨⟨by decide +kernel, by decide +kernel⟩, List.mem_of_getElem? (i := 657) (by decide +kernel), List.mem_of_getElem? (i := 830) (by decide +kernel), List.mem_of_getElem? (i := 831) (by decide +kernel)⟩
theorem lw_p33 : lw_okq (⟨"LessonSpiralModel", "faultOf", "()I"⟩, 15) := ⟨⟨by decide +kernel, by decide +kernel⟩, List.mem_of_getElem? (i := 657) (by decide +kernel), List.mem_of_getElem? (i := 842) (by decide +kernel), List.mem_of_getElem? (i := 843) (by decide +kernel)⟩
theorem lw_p34 : lw_okq (⟨"LessonSpiralModel", "keeps", "(II)Z"⟩, 15) := ⟨⟨by decide +kernel, by decide +kernel⟩, List.mem_of_getElem? (i := 657) (by decide +kernel), List.mem_of_getElem? (i := 846) (by decide +kernel), List.mem_of_getElem? (i := 847) (by decide +kernel)⟩
theorem lw_p35 : lw_okq (⟨"LessonSpiralModel", "loadOf", "(I)I"⟩, 15) := ⟨⟨by decide +kernel, by decide +kernel⟩, List.mem_of_getElem? (i := 657) (by decide +kernel), List.mem_of_getElem? (i := 850) (by decide +kernel), List.mem_of_getElem? (i := 851) (by decide +kernel)⟩
theorem lw_p36 : lw_okq (⟨"LessonSpiralModel", "evennessOf", "()I"⟩, 15) := ⟨⟨by decide +kernel, by decide +kernel⟩, List.mem_of_getElem? (i := 657) (by decide +kernel), List.mem_of_getElem? (i := 862) (by decide +kernel), List.mem_of_getElem? (i := 863) (by decide +kernel)⟩
theorem lw_p37 : lw_okq (⟨"LessonSpiralModel", "goOver", "(Z)Z"⟩, 15) := ⟨⟨by decide +kernel, by decide +kernel⟩, List.mem_of_getElem? (i := 657) (by decide +kernel), List.mem_of_getElem? (i := 870) (by decide +kernel), List.mem_of_getElem? (i := 871) (by decide +kernel)⟩
theorem lw_p38 : lw_okq (⟨"LessonSpiralModel", "begin", "(I)Z"⟩, 15) := ⟨⟨by decide +kernel, by decide +kernel⟩, List.mem_of_getElem? (i := 657) (by decide +kernel), List.mem_of_getElem? (i := 874) (by decide +kernel), List.mem_of_getElem? (i := 875) (by decide +kernel)⟩
theorem lw_p39 : lw_okq (⟨"LessonSpiralModel", "firstSecond", "(I)I"⟩, 15) := ⟨⟨by decide +kernel, by decide +kernel⟩, List.mem_of_getElem? (i := 657) (by decide +kernel), List.mem_of_getElem? (i := 878) (by decide +kernel), List.mem_of_getElem? (i := 879) (by decide +kernel)⟩
theorem lw_p40 : lw_okq (⟨"LessonSpiralModel", "mayStand", "(I)Z"⟩, 15) := ⟨⟨by decide +kernel, by decide +kernel⟩, List.mem_of_getElem? (i := 657) (by decide +kernel), List.mem_of_getElem? (i := 882) (by decide +kernel), List.mem_of_getElem? (i := 883) (by decide +kernel)⟩
theorem lw_p41 : lw_okq (⟨"LessonSpiralModel", "next", "(I)Z"⟩, 15) := ⟨⟨by decide +kernel, by decide +kernel⟩, List.mem_of_getElem? (i := 657) (by decide +kernel), List.mem_of_getElem? (i := 886) (by decide +kernel), List.mem_of_getElem? (i := 887) (by decide +kernel)⟩
theorem lw_p42 : lw_okq (⟨"LessonSpiralModel", "look", "(Z)V"⟩, 15) := ⟨⟨by decide +kernel, by decide +kernel⟩, List.mem_of_getElem? (i := 657) (by decide +kernel), List.mem_of_getElem? (i := 890) (by decide +kernel), List.mem_of_getElem? (i := 891) (by decide +kernel)⟩
theorem lw_p43 : lw_okq (⟨"LessonSpiralModel", "moves", "()I"⟩, 15) := ⟨⟨by decide +kernel, by decide +kernel⟩, List.mem_of_getElem? (i := 657) (by decide +kernel), List.mem_of_getElem? (i := 894) (by decide +kernel), List.mem_of_getElem? (i := 895) (by decide +kernel)⟩
theorem lw_p44 : lw_okq (⟨"LessonSpiralModel", "lay", "([I)V"⟩, 15) := ⟨⟨by decide +kernel, by decide +kernel⟩, List.mem_of_getElem? (i := 657) (by decide +kernel), List.mem_of_getElem? (i := 898) (by decide +kernel), List.mem_of_getElem? (i := 899) (by decide +kernel)⟩
theorem lw_p45 : lw_okq (⟨"LessonSpiralModel", "isMet", "(I)Z"⟩, 15) := ⟨⟨by decide +kernel, by decide +kernel⟩, List.mem_of_getElem? (i := 657) (by decide +kernel), List.mem_of_getElem? (i := 919) (by decide +kernel), List.mem_of_getElem? (i := 920) (by decide +kernel)⟩
theorem lw_p46 : lw_okq (⟨"LessonSpiralModel", "dueOf", "(II)I"⟩, 15) := ⟨⟨by decide +kernel, by decide +kernel⟩, List.mem_of_getElem? (i := 657) (by decide +kernel), List.mem_of_getElem? (i := 935) (by decide +kernel), List.mem_of_getElem? (i := 936) (by decide +kernel)⟩
def lw_privs_3 : List (MethodName × Nat) := [(⟨"LessonSpiralModel", "lay", "(III)I"⟩, 15), (⟨"LessonSpiralModel", "faultOf", "()I"⟩, 15), (⟨"LessonSpiralModel", "keeps", "(II)Z"⟩, 15), (⟨"LessonSpiralModel", "loadOf", "(I)I"⟩, 15), (⟨"LessonSpiralModel", "evennessOf", "()I"⟩, 15), (⟨"LessonSpiralModel", "goOver", "(Z)Z"⟩, 15), (⟨"LessonSpiralModel", "begin", "(I)Z"⟩, 15), (⟨"LessonSpiralModel", "firstSecond", "(I)I"⟩, 15), (⟨"LessonSpiralModel", "mayStand", "(I)Z"⟩, 15), (⟨"LessonSpiralModel", "next", "(I)Z"⟩, 15), (⟨"LessonSpiralModel", "look", "(Z)V"⟩, 15), (⟨"LessonSpiralModel", "moves", "()I"⟩, 15), (⟨"LessonSpiralModel", "lay", "([I)V"⟩, 15), (⟨"LessonSpiralModel", "isMet", "(I)Z"⟩, 15), (⟨"LessonSpiralModel", "dueOf", "(II)I"⟩, 15)]
theorem lw_r3 : ∀ q ∈ lw_privs_3, lw_okq q := List.forall_mem_cons.mpr ⟨lw_p32, List.forall_mem_cons.mpr ⟨lw_p33, List.forall_mem_cons.mpr ⟨lw_p34, List.forall_mem_cons.mpr ⟨lw_p35, List.forall_mem_cons.mpr ⟨lw_p36, List.forall_mem_cons.mpr ⟨lw_p37, List.forall_mem_cons.mpr ⟨lw_p38, List.forall_mem_cons.mpr ⟨lw_p39, List.forall_mem_cons.mpr ⟨lw_p40, List.forall_mem_cons.mpr ⟨lw_p41, List.forall_mem_cons.mpr ⟨lw_p42, List.forall_mem_cons.mpr ⟨lw_p43, List.forall_mem_cons.mpr ⟨lw_p44, List.forall_mem_cons.mpr ⟨lw_p45, List.forall_mem_cons.mpr ⟨lw_p46, fun _ h => absurd h List.not_mem_nil⟩⟩⟩⟩⟩⟩⟩⟩⟩⟩⟩⟩⟩⟩⟩
def lw_privs : List (MethodName × Nat) := lw_privs_1 ++ (lw_privs_2 ++ (lw_privs_3))
def lw_tbl : List Cond := k2_sels lw_privs ++ tables_1
theorem lw_privs_ok : ∀ q ∈ lw_privs, lw_okq q := by
  show ∀ q ∈ lw_privs_1 ++ (lw_privs_2 ++ (lw_privs_3)), lw_okq q
  exact List.forall_mem_append.mpr ⟨lw_r1, List.forall_mem_append.mpr ⟨lw_r2, lw_r3⟩⟩
end
section
/-! values, cells, heaps, numbered instructions of a small machine -/
abbrev MV : Type := Int32 ⊕ Option Nat
abbrev MC : Type := (Nat × List MV) ⊕ (List Int32 ⊕ (Nat × List (Option Nat)))
abbrev MH : Type := List MC
abbrev ML : Type := List (Option MV)
abbrev MI : Type := Nat × Nat × Nat × Int32 × List Nat
abbrev MS : Type := Nat × ML × List MV × MH
abbrev MR : Type := (MS ⊕ (Nat × List MV × List MV)) ⊕ Bool
def m_scr : Nat := 1000000
def m_cell (h : MH) (a : Nat) : Option MC := if a = m_scr then none else h[a]?
def m_bin (w : Nat) (x y : Int32) : Int32 := match w with
  | 0 => x + y
  | 1 => x - y
  | 2 => x * y
  | 3 => x &&& y
  | 4 => x ||| y
  | 5 => x ^^^ y
  | 6 => x <<< (y &&& 31)
  | 7 => x >>> (y &&& 31)
  | _ => (x.toUInt32 >>> (y.toUInt32 &&& Int32.toUInt32 31)).toInt32
def m_un (w : Nat) (x : Int32) : Int32 := match w with
  | 0 => -x
  | 1 => x.toInt8.toInt32
  | _ => x.toInt16.toInt32
def m_cnd (w : Nat) (x y : Int32) : Bool := match w with
  | 0 => decide (x = y)
  | 1 => decide (¬ x = y)
  | 2 => decide (x < y)
  | 3 => decide (y ≤ x)
  | 4 => decide (y < x)
  | _ => decide (x ≤ y)
def m_nx (k : Nat) (ls : ML) (st : List MV) (h : MH) : MR := .inl (.inl (k + 1, ls, st, h))
def m_bad : MR := .inr false
def m_kind (f : Int32) (v : MV) : Bool := match v with
  | .inl _ => decide (f = 0)
  | .inr (some _) => decide (f = 1)
  | .inr none => false
def s_load (a : Nat) (f : Int32) (k : Nat) (ls : ML) (st : List MV) (h : MH) : MR := match ls[a]? with
  | some (some v) => if m_kind f v = true then m_nx k ls (v :: st) h else m_bad
  | _ => m_bad
def s_store (a : Nat) (f : Int32) (k : Nat) (ls : ML) (st : List MV) (h : MH) : MR := match st with
  | v :: r => if a < ls.length ∧ m_kind f v = true then m_nx k (ls.set a (some v)) r h else m_bad
  | _ => m_bad
def s_iinc (a : Nat) (v : Int32) (k : Nat) (ls : ML) (st : List MV) (h : MH) : MR := match ls[a]? with
  | some (some (.inl x)) => m_nx k (ls.set a (some (.inl (x + v)))) st h
  | _ => m_bad
def s_bin (w k : Nat) (ls : ML) (st : List MV) (h : MH) : MR := match st with
  | .inl y :: .inl x :: r => m_nx k ls (.inl (m_bin w x y) :: r) h
  | _ => m_bad
def s_un (w k : Nat) (ls : ML) (st : List MV) (h : MH) : MR := match st with
  | .inl x :: r => m_nx k ls (.inl (m_un w x) :: r) h
  | _ => m_bad
def s_dup (k : Nat) (ls : ML) (st : List MV) (h : MH) : MR := match st with
  | v :: r => m_nx k ls (v :: v :: r) h
  | _ => m_bad
def s_dup2 (k : Nat) (ls : ML) (st : List MV) (h : MH) : MR := match st with
  | v :: u :: r => m_nx k ls (v :: u :: v :: u :: r) h
  | _ => m_bad
def s_pop (k : Nat) (ls : ML) (st : List MV) (h : MH) : MR := match st with
  | _ :: r => m_nx k ls r h
  | _ => m_bad
def s_if (w t k : Nat) (ls : ML) (st : List MV) (h : MH) : MR := match st with
  | .inl x :: r => .inl (.inl (if m_cnd w x 0 = true then t else k + 1, ls, r, h))
  | _ => m_bad
def s_icmp (w t k : Nat) (ls : ML) (st : List MV) (h : MH) : MR := match st with
  | .inl y :: .inl x :: r => .inl (.inl (if m_cnd w x y = true then t else k + 1, ls, r, h))
  | _ => m_bad
def m_swt (d : Nat) (lo : Int32) (ts : List Nat) (x : Int32) : Nat := if x.toInt < lo.toInt then d else ts.getD (x.toInt - lo.toInt).toNat d
def s_switch (d : Nat) (lo : Int32) (ts : List Nat) (ls : ML) (st : List MV) (h : MH) : MR := match st with
  | .inl x :: r => .inl (.inl (m_swt d lo ts x, ls, r, h))
  | _ => m_bad
def s_getf (ci j k : Nat) (ls : ML) (st : List MV) (h : MH) : MR := match st with
  | .inr (some a) :: r => match m_cell h a with
    | some (.inl (c, fs)) => if c = ci then match fs[j]? with
      | some v => m_nx k ls (v :: r) h
      | none => m_bad else m_bad
    | _ => m_bad
  | _ => m_bad
def s_putf (ci j : Nat) (f : Int32) (k : Nat) (ls : ML) (st : List MV) (h : MH) : MR := match st with
  | v :: .inr (some a) :: r => match m_cell h a with
    | some (.inl (c, fs)) => if c = ci ∧ j < fs.length ∧ m_kind f v = true then m_nx k ls r (h.set a (.inl (c, fs.set j v))) else m_bad
    | _ => m_bad
  | _ => m_bad
def s_iald (S : Nat × (Nat → Int32)) (k : Nat) (ls : ML) (st : List MV) (h : MH) : MR := match st with
  | .inl i :: .inr (some a) :: r => if i < 0 then m_bad else if a = m_scr then (if i.toNatClampNeg < S.1 then m_nx k ls (.inl (S.2 i.toNatClampNeg) :: r) h else m_bad) else match h[a]? with
    | some (.inr (.inl l)) => match l[i.toNatClampNeg]? with
      | some x => m_nx k ls (.inl x :: r) h
      | none => m_bad
    | _ => m_bad
  | _ => m_bad
def s_iast (k : Nat) (ls : ML) (st : List MV) (h : MH) : MR := match st with
  | .inl x :: .inl i :: .inr (some a) :: r => match m_cell h a with
    | some (.inr (.inl l)) => if ¬ i < 0 ∧ i.toNatClampNeg < l.length then m_nx k ls r (h.set a (.inr (.inl (l.set i.toNatClampNeg x)))) else m_bad
    | _ => m_bad
  | _ => m_bad
def s_aald (k : Nat) (ls : ML) (st : List MV) (h : MH) : MR := match st with
  | .inl i :: .inr (some a) :: r => if i < 0 then m_bad else match m_cell h a with
    | some (.inr (.inr (kd, l))) => if kd < 4 ∧ 0 < kd then match l[i.toNatClampNeg]? with
      | some x => m_nx k ls (.inr x :: r) h
      | none => m_bad else m_bad
    | _ => m_bad
  | _ => m_bad
def m_kc (kd : Nat) : Nat := match kd with
  | 1 => 5
  | _ => 3
def s_aast (k : Nat) (ls : ML) (st : List MV) (h : MH) : MR := match st with
  | .inr (some v) :: .inl i :: .inr (some a) :: r => match m_cell h a, m_cell h v with
    | some (.inr (.inr (kd, l))), some (.inl (ci, _)) => if ¬ i < 0 ∧ i.toNatClampNeg < l.length ∧ (kd = 1 ∨ kd = 2) ∧ ci = m_kc kd then m_nx k ls r (h.set a (.inr (.inr (kd, l.set i.toNatClampNeg (some v))))) else m_bad
    | _, _ => m_bad
  | _ => m_bad
def s_alen (S : Nat × (Nat → Int32)) (k : Nat) (ls : ML) (st : List MV) (h : MH) : MR := match st with
  | .inr (some a) :: r => if a = m_scr then m_nx k ls (.inl (Int32.ofNat S.1) :: r) h else m_bad
  | _ => m_bad
def m_cpy (l g : List Int32) (sp dp n : Nat) : List Int32 := (List.range g.length).map fun k => if dp ≤ k ∧ k < dp + n then l.getD (sp + (k - dp)) 0 else g.getD k 0
def s_copy (d k : Nat) (ls : ML) (st : List MV) (h : MH) : MR := match st with
  | .inl n :: .inl dp :: .inr (some b) :: .inl sp :: .inr (some a) :: r => match m_cell h a, m_cell h b with
    | some (.inr (.inl l)), some (.inr (.inl g)) => if ¬ n < 0 ∧ ¬ dp < 0 ∧ ¬ sp < 0 ∧ sp.toNatClampNeg + n.toNatClampNeg ≤ l.length ∧ dp.toNatClampNeg + n.toNatClampNeg ≤ g.length ∧ 1 ≤ d ∧ r.length ≤ 8 then
      m_nx k ls r (h.set b (.inr (.inl (m_cpy l g sp.toNatClampNeg dp.toNatClampNeg n.toNatClampNeg)))) else m_bad
    | _, _ => m_bad
  | _ => m_bad
def s_oin (d k : Nat) (ls : ML) (st : List MV) (h : MH) : MR := match st with
  | .inr (some _) :: r => if 1 ≤ d ∧ r.length ≤ 8 then m_nx k ls r h else m_bad
  | _ => m_bad
def s_mm (w d k : Nat) (ls : ML) (st : List MV) (h : MH) : MR := match st with
  | .inl y :: .inl x :: r => if 1 ≤ d ∧ r.length ≤ 8 then m_nx k ls (.inl (if w = 0 then (if x < y then y else x) else (if y < x then y else x)) :: r) h else m_bad
  | _ => m_bad
end
section
-- 0 LessonSpiralLaw.law([I)Z
def mc_0 : List MI := [(20,6,0,0,[]), (6,0,0,0,[]), (30,74,1,0,[6]), (2,1,0,1,[]), (20,7,0,0,[]), (6,0,0,0,[]), (30,117,1,0,[7]), (2,2,0,1,[]), (0,0,0,0,[]), (2,3,0,0,[]), (1,3,0,0,[]), (1,0,0,1,[]), (19,0,0,0,[]), (0,0,0,6,[]), (4,1,0,0,[]), (10,4,772,0,[]), (1,0,0,1,[]), (1,3,0,0,[]), (15,0,0,0,[]), (0,0,0,31,[]), (4,3,0,0,[]), (12,0,770,0,[22,49,76,121,148,175,202,229,256,291,308,345,382,439,456,483,510,517,534,541,566,573,598,633,658,675,702,729,746,753]), (1,1,0,1,[]), (1,0,0,1,[]), (1,3,0,0,[]), (0,0,0,1,[]), (4,0,0,0,[]), (15,0,0,0,[]), (1,0,0,1,[]), (1,3,0,0,[]), (0,0,0,2,[]), (4,0,0,0,[]), (15,0,0,0,[]), (24,75,3,0,[6]), (1,2,0,1,[]), (1,0,0,1,[]), (1,3,0,0,[]), (0,0,0,1,[]), (4,0,0,0,[]), (15,0,0,0,[]), (1,0,0,1,[]), (1,3,0,0,[]), (0,0,0,2,[]), (4,0,0,0,[]), (15,0,0,0,[]), (24,128,3,0,[7]), (10,0,770,0,[]), (0,0,0,0,[]), (27,0,0,0,[]), (1,1,0,1,[]), (1,0,0,1,[]), (1,3,0,0,[]), (0,0,0,1,[]), (4,0,0,0,[]), (15,0,0,0,[]), (1,0,0,1,[]), (1,3,0,0,[]), (0,0,0,2,[]), (4,0,0,0,[]), (15,0,0,0,[]), (24,76,3,0,[6]), (1,2,0,1,[]), (1,0,0,1,[]), (1,3,0,0,[]), (0,0,0,1,[]), (4,0,0,0,[]), (15,0,0,0,[]), (1,0,0,1,[]), (1,3,0,0,[]), (0,0,0,2,[]), (4,0,0,0,[]), (15,0,0,0,[]), (24,129,3,0,[7]), (10,0,770,0,[]), (0,0,0,0,[]), (27,0,0,0,[]), (1,1,0,1,[]), (1,0,0,1,[]), (1,3,0,0,[]), (0,0,0,1,[]), (4,0,0,0,[]), (15,0,0,0,[]), (1,0,0,1,[]), (1,3,0,0,[]), (0,0,0,2,[]), (4,0,0,0,[]), (15,0,0,0,[]), (1,0,0,1,[]), (1,3,0,0,[]), (0,0,0,3,[]), (4,0,0,0,[]), (15,0,0,0,[]), (9,0,95,0,[]), (0,0,0,1,[]), (11,0,96,0,[]), (0,0,0,0,[]), (24,77,4,0,[6]), (1,2,0,1,[]), (1,0,0,1,[]), (1,3,0,0,[]), (0,0,0,1,[]), (4,0,0,0,[]), (15,0,0,0,[]), (1,0,0,1,[]), (1,3,0,0,[]), (0,0,0,2,[]), (4,0,0,0,[]), (15,0,0,0,[]), (1,0,0,1,[]), (1,3,0,0,[]), (0,0,0,3,[]), (4,0,0,0,[]), (15,0,0,0,[]), (9,0,116,0,[]), (0,0,0,1,[]), (11,0,117,0,[]), (0,0,0,0,[]), (24,131,4,0,[7]), (10,0,770,0,[]), (0,0,0,0,[]), (27,0,0,0,[]), (1,1,0,1,[]), (1,0,0,1,[]), (1,3,0,0,[]), (0,0,0,1,[]), (4,0,0,0,[]), (15,0,0,0,[]), (1,0,0,1,[]), (1,3,0,0,[]), (0,0,0,2,[]), (4,0,0,0,[]), (15,0,0,0,[]), (24,78,3,0,[6]), (1,2,0,1,[]), (1,0,0,1,[]), (1,3,0,0,[]), (0,0,0,1,[]), (4,0,0,0,[]), (15,0,0,0,[]), (1,0,0,1,[]), (1,3,0,0,[]), (0,0,0,2,[]), (4,0,0,0,[]), (15,0,0,0,[]), (24,133,3,0,[7]), (10,0,770,0,[]), (0,0,0,0,[]), (27,0,0,0,[]), (1,1,0,1,[]), (1,0,0,1,[]), (1,3,0,0,[]), (0,0,0,1,[]), (4,0,0,0,[]), (15,0,0,0,[]), (1,0,0,1,[]), (1,3,0,0,[]), (0,0,0,2,[]), (4,0,0,0,[]), (15,0,0,0,[]), (24,79,3,0,[6]), (1,2,0,1,[]), (1,0,0,1,[]), (1,3,0,0,[]), (0,0,0,1,[]), (4,0,0,0,[]), (15,0,0,0,[]), (1,0,0,1,[]), (1,3,0,0,[]), (0,0,0,2,[]), (4,0,0,0,[]), (15,0,0,0,[]), (24,134,3,0,[7]), (10,0,770,0,[]), (0,0,0,0,[]), (27,0,0,0,[]), (1,1,0,1,[]), (1,0,0,1,[]), (1,3,0,0,[]), (0,0,0,1,[]), (4,0,0,0,[]), (15,0,0,0,[]), (1,0,0,1,[]), (1,3,0,0,[]), (0,0,0,2,[]), (4,0,0,0,[]), (15,0,0,0,[]), (24,80,3,0,[6]), (1,2,0,1,[]), (1,0,0,1,[]), (1,3,0,0,[]), (0,0,0,1,[]), (4,0,0,0,[]), (15,0,0,0,[]), (1,0,0,1,[]), (1,3,0,0,[]), (0,0,0,2,[]), (4,0,0,0,[]), (15,0,0,0,[]), (24,135,3,0,[7]), (10,0,770,0,[]), (0,0,0,0,[]), (27,0,0,0,[]), (1,1,0,1,[]), (1,0,0,1,[]), (1,3,0,0,[]), (0,0,0,1,[]), (4,0,0,0,[]), (15,0,0,0,[]), (1,0,0,1,[]), (1,3,0,0,[]), (0,0,0,2,[]), (4,0,0,0,[]), (15,0,0,0,[]), (24,81,3,0,[6]), (1,2,0,1,[]), (1,0,0,1,[]), (1,3,0,0,[]), (0,0,0,1,[]), (4,0,0,0,[]), (15,0,0,0,[]), (1,0,0,1,[]), (1,3,0,0,[]), (0,0,0,2,[]), (4,0,0,0,[]), (15,0,0,0,[]), (24,136,3,0,[7]), (10,0,770,0,[]), (0,0,0,0,[]), (27,0,0,0,[]), (1,1,0,1,[]), (1,0,0,1,[]), (1,3,0,0,[]), (0,0,0,1,[]), (4,0,0,0,[]), (15,0,0,0,[]), (1,0,0,1,[]), (1,3,0,0,[]), (0,0,0,2,[]), (4,0,0,0,[]), (15,0,0,0,[]), (24,82,3,0,[6]), (1,2,0,1,[]), (1,0,0,1,[]), (1,3,0,0,[]), (0,0,0,1,[]), (4,0,0,0,[]), (15,0,0,0,[]), (1,0,0,1,[]), (1,3,0,0,[]), (0,0,0,2,[]), (4,0,0,0,[]), (15,0,0,0,[]), (24,137,3,0,[7]), (10,0,770,0,[]), (0,0,0,0,[]), (27,0,0,0,[]), (1,1,0,1,[]), (1,0,0,1,[]), (1,3,0,0,[]), (0,0,0,1,[]), (4,0,0,0,[]), (15,0,0,0,[]), (1,0,0,1,[]), (1,3,0,0,[]), (0,0,0,2,[]), (4,0,0,0,[]), (15,0,0,0,[]), (9,0,270,0,[]), (0,0,0,1,[]), (11,0,271,0,[]), (0,0,0,0,[]), (24,83,3,0,[6]), (1,2,0,1,[]), (1,0,0,1,[]), (1,3,0,0,[]), (0,0,0,1,[]), (4,0,0,0,[]), (15,0,0,0,[]), (1,0,0,1,[]), (1,3,0,0,[]), (0,0,0,2,[]), (4,0,0,0,[]), (15,0,0,0,[]), (9,0,286,0,[]), (0,0,0,1,[]), (11,0,287,0,[]), (0,0,0,0,[]), (24,138,3,0,[7]), (10,0,770,0,[]), (0,0,0,0,[]), (27,0,0,0,[]), (1,1,0,1,[]), (1,0,0,1,[]), (1,3,0,0,[]), (0,0,0,1,[]), (4,0,0,0,[]), (15,0,0,0,[]), (24,84,2,0,[6]), (1,2,0,1,[]), (1,0,0,1,[]), (1,3,0,0,[]), (0,0,0,1,[]), (4,0,0,0,[]), (15,0,0,0,[]), (24,139,2,0,[7]), (10,0,770,0,[]), (0,0,0,0,[]), (27,0,0,0,[]), (1,1,0,1,[]), (1,0,0,1,[]), (1,3,0,0,[]), (0,0,0,1,[]), (4,0,0,0,[]), (15,0,0,0,[]), (1,0,0,1,[]), (1,3,0,0,[]), (0,0,0,2,[]), (4,0,0,0,[]), (15,0,0,0,[]), (1,0,0,1,[]), (1,3,0,0,[]), (0,0,0,3,[]), (4,0,0,0,[]), (15,0,0,0,[]), (24,85,4,0,[6]), (1,2,0,1,[]), (1,0,0,1,[]), (1,3,0,0,[]), (0,0,0,1,[]), (4,0,0,0,[]), (15,0,0,0,[]), (1,0,0,1,[]), (1,3,0,0,[]), (0,0,0,2,[]), (4,0,0,0,[]), (15,0,0,0,[]), (1,0,0,1,[]), (1,3,0,0,[]), (0,0,0,3,[]), (4,0,0,0,[]), (15,0,0,0,[]), (24,141,4,0,[7]), (10,0,770,0,[]), (0,0,0,0,[]), (27,0,0,0,[]), (1,1,0,1,[]), (1,0,0,1,[]), (1,3,0,0,[]), (0,0,0,1,[]), (4,0,0,0,[]), (15,0,0,0,[]), (1,0,0,1,[]), (1,3,0,0,[]), (0,0,0,2,[]), (4,0,0,0,[]), (15,0,0,0,[]), (1,0,0,1,[]), (1,3,0,0,[]), (0,0,0,3,[]), (4,0,0,0,[]), (15,0,0,0,[]), (24,86,4,0,[6]), (1,2,0,1,[]), (1,0,0,1,[]), (1,3,0,0,[]), (0,0,0,1,[]), (4,0,0,0,[]), (15,0,0,0,[]), (1,0,0,1,[]), (1,3,0,0,[]), (0,0,0,2,[]), (4,0,0,0,[]), (15,0,0,0,[]), (1,0,0,1,[]), (1,3,0,0,[]), (0,0,0,3,[]), (4,0,0,0,[]), (15,0,0,0,[]), (24,142,4,0,[7]), (10,0,770,0,[]), (0,0,0,0,[]), (27,0,0,0,[]), (1,1,0,1,[]), (1,0,0,1,[]), (1,3,0,0,[]), (0,0,0,1,[]), (4,0,0,0,[]), (15,0,0,0,[]), (1,0,0,1,[]), (1,3,0,0,[]), (0,0,0,2,[]), (4,0,0,0,[]), (15,0,0,0,[]), (1,0,0,1,[]), (1,3,0,0,[]), (0,0,0,3,[]), (4,0,0,0,[]), (15,0,0,0,[]), (1,0,0,1,[]), (1,3,0,0,[]), (0,0,0,4,[]), (4,0,0,0,[]), (15,0,0,0,[]), (1,0,0,1,[]), (1,3,0,0,[]), (0,0,0,5,[]), (4,0,0,0,[]), (15,0,0,0,[]), (24,87,6,0,[6]), (1,2,0,1,[]), (1,0,0,1,[]), (1,3,0,0,[]), (0,0,0,1,[]), (4,0,0,0,[]), (15,0,0,0,[]), (1,0,0,1,[]), (1,3,0,0,[]), (0,0,0,2,[]), (4,0,0,0,[]), (15,0,0,0,[]), (1,0,0,1,[]), (1,3,0,0,[]), (0,0,0,3,[]), (4,0,0,0,[]), (15,0,0,0,[]), (1,0,0,1,[]), (1,3,0,0,[]), (0,0,0,4,[]), (4,0,0,0,[]), (15,0,0,0,[]), (1,0,0,1,[]), (1,3,0,0,[]), (0,0,0,5,[]), (4,0,0,0,[]), (15,0,0,0,[]), (24,144,6,0,[7]), (10,0,770,0,[]), (0,0,0,0,[]), (27,0,0,0,[]), (1,1,0,1,[]), (1,0,0,1,[]), (1,3,0,0,[]), (0,0,0,1,[]), (4,0,0,0,[]), (15,0,0,0,[]), (24,88,2,0,[6]), (1,2,0,1,[]), (1,0,0,1,[]), (1,3,0,0,[]), (0,0,0,1,[]), (4,0,0,0,[]), (15,0,0,0,[]), (24,145,2,0,[7]), (10,0,770,0,[]), (0,0,0,0,[]), (27,0,0,0,[]), (1,1,0,1,[]), (1,0,0,1,[]), (1,3,0,0,[]), (0,0,0,1,[]), (4,0,0,0,[]), (15,0,0,0,[]), (1,0,0,1,[]), (1,3,0,0,[]), (0,0,0,2,[]), (4,0,0,0,[]), (15,0,0,0,[]), (24,89,3,0,[6]), (1,2,0,1,[]), (1,0,0,1,[]), (1,3,0,0,[]), (0,0,0,1,[]), (4,0,0,0,[]), (15,0,0,0,[]), (1,0,0,1,[]), (1,3,0,0,[]), (0,0,0,2,[]), (4,0,0,0,[]), (15,0,0,0,[]), (24,147,3,0,[7]), (10,0,770,0,[]), (0,0,0,0,[]), (27,0,0,0,[]), (1,1,0,1,[]), (1,0,0,1,[]), (1,3,0,0,[]), (0,0,0,1,[]), (4,0,0,0,[]), (15,0,0,0,[]), (1,0,0,1,[]), (1,3,0,0,[]), (0,0,0,2,[]), (4,0,0,0,[]), (15,0,0,0,[]), (24,90,3,0,[6]), (1,2,0,1,[]), (1,0,0,1,[]), (1,3,0,0,[]), (0,0,0,1,[]), (4,0,0,0,[]), (15,0,0,0,[]), (1,0,0,1,[]), (1,3,0,0,[]), (0,0,0,2,[]), (4,0,0,0,[]), (15,0,0,0,[]), (24,148,3,0,[7]), (10,0,770,0,[]), (0,0,0,0,[]), (27,0,0,0,[]), (1,1,0,1,[]), (24,91,1,0,[6]), (1,2,0,1,[]), (24,152,1,0,[7]), (10,0,770,0,[]), (0,0,0,0,[]), (27,0,0,0,[]), (1,1,0,1,[]), (1,0,0,1,[]), (1,3,0,0,[]), (0,0,0,1,[]), (4,0,0,0,[]), (15,0,0,0,[]), (24,92,2,0,[6]), (1,2,0,1,[]), (1,0,0,1,[]), (1,3,0,0,[]), (0,0,0,1,[]), (4,0,0,0,[]), (15,0,0,0,[]), (24,153,2,0,[7]), (10,0,770,0,[]), (0,0,0,0,[]), (27,0,0,0,[]), (1,1,0,1,[]), (24,93,1,0,[6]), (1,2,0,1,[]), (24,155,1,0,[7]), (10,0,770,0,[]), (0,0,0,0,[]), (27,0,0,0,[]), (1,1,0,1,[]), (1,0,0,1,[]), (1,3,0,0,[]), (0,0,0,1,[]), (4,0,0,0,[]), (15,0,0,0,[]), (9,0,550,0,[]), (0,0,0,1,[]), (11,0,551,0,[]), (0,0,0,0,[]), (24,94,2,0,[6]), (1,2,0,1,[]), (1,0,0,1,[]), (1,3,0,0,[]), (0,0,0,1,[]), (4,0,0,0,[]), (15,0,0,0,[]), (9,0,561,0,[]), (0,0,0,1,[]), (11,0,562,0,[]), (0,0,0,0,[]), (24,164,2,0,[7]), (10,0,770,0,[]), (0,0,0,0,[]), (27,0,0,0,[]), (1,1,0,1,[]), (24,95,1,0,[6]), (1,2,0,1,[]), (24,165,1,0,[7]), (10,0,770,0,[]), (0,0,0,0,[]), (27,0,0,0,[]), (1,1,0,1,[]), (1,0,0,1,[]), (1,3,0,0,[]), (0,0,0,1,[]), (4,0,0,0,[]), (15,0,0,0,[]), (9,0,582,0,[]), (0,0,0,1,[]), (11,0,583,0,[]), (0,0,0,0,[]), (24,96,2,0,[6]), (1,2,0,1,[]), (1,0,0,1,[]), (1,3,0,0,[]), (0,0,0,1,[]), (4,0,0,0,[]), (15,0,0,0,[]), (9,0,593,0,[]), (0,0,0,1,[]), (11,0,594,0,[]), (0,0,0,0,[]), (24,166,2,0,[7]), (10,0,770,0,[]), (0,0,0,0,[]), (27,0,0,0,[]), (1,1,0,1,[]), (1,0,0,1,[]), (1,3,0,0,[]), (0,0,0,1,[]), (4,0,0,0,[]), (15,0,0,0,[]), (1,0,0,1,[]), (1,3,0,0,[]), (0,0,0,2,[]), (4,0,0,0,[]), (15,0,0,0,[]), (9,0,612,0,[]), (0,0,0,1,[]), (11,0,613,0,[]), (0,0,0,0,[]), (24,97,3,0,[6]), (1,2,0,1,[]), (1,0,0,1,[]), (1,3,0,0,[]), (0,0,0,1,[]), (4,0,0,0,[]), (15,0,0,0,[]), (1,0,0,1,[]), (1,3,0,0,[]), (0,0,0,2,[]), (4,0,0,0,[]), (15,0,0,0,[]), (9,0,628,0,[]), (0,0,0,1,[]), (11,0,629,0,[]), (0,0,0,0,[]), (24,167,3,0,[7]), (10,0,770,0,[]), (0,0,0,0,[]), (27,0,0,0,[]), (1,1,0,1,[]), (1,0,0,1,[]), (1,3,0,0,[]), (0,0,0,1,[]), (4,0,0,0,[]), (15,0,0,0,[]), (9,0,642,0,[]), (0,0,0,1,[]), (11,0,643,0,[]), (0,0,0,0,[]), (24,98,2,0,[6]), (1,2,0,1,[]), (1,0,0,1,[]), (1,3,0,0,[]), (0,0,0,1,[]), (4,0,0,0,[]), (15,0,0,0,[]), (9,0,653,0,[]), (0,0,0,1,[]), (11,0,654,0,[]), (0,0,0,0,[]), (24,169,2,0,[7]), (10,0,770,0,[]), (0,0,0,0,[]), (27,0,0,0,[]), (1,1,0,1,[]), (1,0,0,1,[]), (1,3,0,0,[]), (0,0,0,1,[]), (4,0,0,0,[]), (15,0,0,0,[]), (24,99,2,0,[6]), (1,2,0,1,[]), (1,0,0,1,[]), (1,3,0,0,[]), (0,0,0,1,[]), (4,0,0,0,[]), (15,0,0,0,[]), (24,170,2,0,[7]), (10,0,770,0,[]), (0,0,0,0,[]), (27,0,0,0,[]), (1,1,0,1,[]), (1,0,0,1,[]), (1,3,0,0,[]), (0,0,0,1,[]), (4,0,0,0,[]), (15,0,0,0,[]), (1,0,0,1,[]), (1,3,0,0,[]), (0,0,0,2,[]), (4,0,0,0,[]), (15,0,0,0,[]), (24,100,3,0,[6]), (1,2,0,1,[]), (1,0,0,1,[]), (1,3,0,0,[]), (0,0,0,1,[]), (4,0,0,0,[]), (15,0,0,0,[]), (1,0,0,1,[]), (1,3,0,0,[]), (0,0,0,2,[]), (4,0,0,0,[]), (15,0,0,0,[]), (24,171,3,0,[7]), (10,0,770,0,[]), (0,0,0,0,[]), (27,0,0,0,[]), (1,1,0,1,[]), (1,0,0,1,[]), (1,3,0,0,[]), (0,0,0,1,[]), (4,0,0,0,[]), (15,0,0,0,[]), (1,0,0,1,[]), (1,3,0,0,[]), (0,0,0,2,[]), (4,0,0,0,[]), (15,0,0,0,[]), (24,101,3,0,[6]), (1,2,0,1,[]), (1,0,0,1,[]), (1,3,0,0,[]), (0,0,0,1,[]), (4,0,0,0,[]), (15,0,0,0,[]), (1,0,0,1,[]), (1,3,0,0,[]), (0,0,0,2,[]), (4,0,0,0,[]), (15,0,0,0,[]), (24,173,3,0,[7]), (10,0,770,0,[]), (0,0,0,0,[]), (27,0,0,0,[]), (1,1,0,1,[]), (1,0,0,1,[]), (1,3,0,0,[]), (0,0,0,1,[]), (4,0,0,0,[]), (15,0,0,0,[]), (24,102,2,0,[6]), (1,2,0,1,[]), (1,0,0,1,[]), (1,3,0,0,[]), (0,0,0,1,[]), (4,0,0,0,[]), (15,0,0,0,[]), (24,174,2,0,[7]), (10,0,770,0,[]), (0,0,0,0,[]), (27,0,0,0,[]), (1,1,0,1,[]), (24,103,1,0,[6]), (1,2,0,1,[]), (24,127,1,0,[7]), (10,0,770,0,[]), (0,0,0,0,[]), (27,0,0,0,[]), (1,1,0,1,[]), (1,0,0,1,[]), (1,3,0,0,[]), (0,0,0,1,[]), (4,0,0,0,[]), (15,0,0,0,[]), (24,104,2,0,[6]), (1,2,0,1,[]), (1,0,0,1,[]), (1,3,0,0,[]), (0,0,0,1,[]), (4,0,0,0,[]), (15,0,0,0,[]), (24,175,2,0,[7]), (10,0,770,0,[]), (0,0,0,0,[]), (27,0,0,0,[]), (3,3,0,6,[]), (11,0,10,0,[]), (0,0,0,1,[]), (27,0,0,0,[])]
def mp_0 : List (Nat × List Nat) := [(0,[59,60,48]), (3,[]), (4,[61,0]), (7,[]), (8,[703,704,55]), (11,[]), (12,[705,0]), (15,[]), (16,[]), (17,[]), (18,[]), (19,[]), (20,[]), (21,[]), (23,[]), (24,[]), (27,[]), (28,[]), (29,[]), (30,[]), (32,[]), (33,[]), (168,[]), (169,[]), (170,[]), (171,[]), (172,[]), (173,[]), (174,[]), (175,[]), (176,[]), (177,[]), (178,[]), (179,[230,0]), (182,[]), (183,[]), (184,[]), (185,[]), (186,[]), (187,[]), (188,[]), (189,[]), (190,[]), (191,[]), (192,[]), (193,[764,0]), (196,[]), (199,[]), (200,[]), (201,[]), (202,[]), (203,[]), (204,[]), (205,[]), (206,[]), (207,[]), (208,[]), (209,[]), (210,[]), (211,[]), (212,[269,0]), (215,[]), (216,[]), (217,[]), (218,[]), (219,[]), (220,[]), (221,[]), (222,[]), (223,[]), (224,[]), (225,[]), (226,[781,0]), (229,[]), (232,[]), (233,[]), (234,[]), (235,[]), (236,[]), (237,[]), (238,[]), (239,[]), (240,[]), (241,[]), (242,[]), (243,[]), (244,[]), (245,[]), (246,[]), (247,[]), (248,[]), (249,[]), (250,[]), (253,[]), (254,[]), (257,[]), (258,[286,0]), (261,[]), (262,[]), (263,[]), (264,[]), (265,[]), (266,[]), (267,[]), (268,[]), (269,[]), (270,[]), (271,[]), (272,[]), (273,[]), (274,[]), (275,[]), (276,[]), (277,[]), (280,[]), (281,[]), (284,[]), (285,[794,0]), (288,[]), (291,[]), (292,[]), (293,[]), (294,[]), (295,[]), (296,[]), (297,[]), (298,[]), (299,[]), (300,[]), (301,[]), (302,[]), (303,[]), (304,[305,0]), (307,[]), (308,[]), (309,[]), (310,[]), (311,[]), (312,[]), (313,[]), (314,[]), (315,[]), (316,[]), (317,[]), (318,[803,0]), (321,[]), (324,[]), (325,[]), (326,[]), (327,[]), (328,[]), (329,[]), (330,[]), (331,[]), (332,[]), (333,[]), (334,[]), (335,[]), (336,[]), (337,[317,0]), (340,[]), (341,[]), (342,[]), (343,[]), (344,[]), (345,[]), (346,[]), (347,[]), (348,[]), (349,[]), (350,[]), (351,[815,0]), (354,[]), (357,[]), (358,[]), (359,[]), (360,[]), (361,[]), (362,[]), (363,[]), (364,[]), (365,[]), (366,[]), (367,[]), (368,[]), (369,[]), (370,[322,0]), (373,[]), (374,[]), (375,[]), (376,[]), (377,[]), (378,[]), (379,[]), (380,[]), (381,[]), (382,[]), (383,[]), (384,[820,0]), (387,[]), (390,[]), (391,[]), (392,[]), (393,[]), (394,[]), (395,[]), (396,[]), (397,[]), (398,[]), (399,[]), (400,[]), (401,[]), (402,[]), (403,[327,0]), (406,[]), (407,[]), (408,[]), (409,[]), (410,[]), (411,[]), (412,[]), (413,[]), (414,[]), (415,[]), (416,[]), (417,[825,0]), (420,[]), (423,[]), (424,[]), (425,[]), (426,[]), (427,[]), (428,[]), (429,[]), (430,[]), (431,[]), (432,[]), (433,[]), (434,[]), (435,[]), (436,[331,0]), (439,[]), (440,[]), (441,[]), (442,[]), (443,[]), (444,[]), (445,[]), (446,[]), (447,[]), (448,[]), (449,[]), (450,[829,0]), (453,[]), (456,[]), (457,[]), (458,[]), (459,[]), (460,[]), (461,[]), (462,[]), (463,[]), (464,[]), (465,[]), (466,[]), (467,[]), (468,[]), (469,[]), (472,[]), (473,[]), (476,[]), (477,[346,0]), (480,[]), (481,[]), (482,[]), (483,[]), (484,[]), (485,[]), (486,[]), (487,[]), (488,[]), (489,[]), (490,[]), (491,[]), (494,[]), (495,[]), (498,[]), (499,[836,0]), (502,[]), (505,[]), (506,[]), (507,[]), (508,[]), (509,[]), (510,[]), (511,[]), (512,[]), (513,[359,0]), (516,[]), (517,[]), (518,[]), (519,[]), (520,[]), (521,[]), (522,[844,0]), (525,[]), (528,[]), (529,[]), (530,[]), (531,[]), (532,[]), (533,[]), (534,[]), (535,[]), (536,[]), (537,[]), (538,[]), (539,[]), (540,[]), (541,[]), (542,[]), (543,[]), (544,[]), (545,[]), (546,[371,0]), (549,[]), (550,[]), (551,[]), (552,[]), (553,[]), (554,[]), (555,[]), (556,[]), (557,[]), (558,[]), (559,[]), (560,[]), (561,[]), (562,[]), (563,[]), (564,[]), (565,[848,0]), (568,[]), (571,[]), (572,[]), (573,[]), (574,[]), (575,[]), (576,[]), (577,[]), (578,[]), (579,[]), (580,[]), (581,[]), (582,[]), (583,[]), (584,[]), (585,[]), (586,[]), (587,[]), (588,[]), (589,[382,0]), (592,[]), (593,[]), (594,[]), (595,[]), (596,[]), (597,[]), (598,[]), (599,[]), (600,[]), (601,[]), (602,[]), (603,[]), (604,[]), (605,[]), (606,[]), (607,[]), (608,[855,0]), (611,[]), (614,[]), (615,[]), (616,[]), (617,[]), (618,[]), (619,[]), (620,[]), (621,[]), (622,[]), (623,[]), (624,[]), (625,[]), (626,[]), (627,[]), (628,[]), (629,[]), (630,[]), (631,[]), (632,[]), (633,[]), (634,[]), (635,[]), (636,[]), (637,[]), (638,[]), (639,[]), (640,[]), (641,[]), (642,[399,0]), (645,[]), (646,[]), (647,[]), (648,[]), (649,[]), (650,[]), (651,[]), (652,[]), (653,[]), (654,[]), (655,[]), (656,[]), (657,[]), (658,[]), (659,[]), (660,[]), (661,[]), (662,[]), (663,[]), (664,[]), (665,[]), (666,[]), (667,[]), (668,[]), (669,[]), (670,[]), (671,[860,0]), (674,[]), (677,[]), (678,[]), (679,[]), (680,[]), (681,[]), (682,[]), (683,[]), (684,[]), (685,[412,0]), (688,[]), (689,[]), (690,[]), (691,[]), (692,[]), (693,[]), (694,[868,0]), (697,[]), (700,[]), (701,[]), (702,[]), (703,[]), (704,[]), (705,[]), (706,[]), (707,[]), (708,[]), (709,[]), (710,[]), (711,[]), (712,[]), (713,[425,0]), (716,[]), (717,[]), (718,[]), (719,[]), (720,[]), (721,[]), (722,[]), (723,[]), (724,[]), (725,[]), (726,[]), (727,[872,0]), (730,[]), (733,[]), (734,[]), (735,[]), (736,[]), (737,[]), (738,[]), (739,[]), (740,[]), (741,[]), (742,[]), (743,[]), (744,[]), (745,[]), (746,[433,0]), (749,[]), (750,[]), (751,[]), (752,[]), (753,[]), (754,[]), (755,[]), (756,[]), (757,[]), (758,[]), (759,[]), (760,[880,0]), (763,[]), (766,[]), (767,[]), (768,[]), (769,[437,0]), (772,[]), (773,[884,0]), (776,[]), (779,[]), (780,[]), (781,[]), (782,[]), (783,[]), (784,[]), (785,[]), (786,[]), (787,[490,0]), (790,[]), (791,[]), (792,[]), (793,[]), (794,[]), (795,[]), (796,[900,0]), (799,[]), (802,[]), (803,[]), (804,[]), (805,[495,0]), (808,[]), (809,[904,0]), (812,[]), (815,[]), (816,[]), (817,[]), (818,[]), (819,[]), (820,[]), (821,[]), (822,[]), (823,[]), (826,[]), (827,[]), (830,[]), (831,[499,0]), (834,[]), (835,[]), (836,[]), (837,[]), (838,[]), (839,[]), (840,[]), (843,[]), (844,[]), (847,[]), (848,[912,0]), (851,[]), (854,[]), (855,[]), (856,[]), (857,[623,0]), (860,[]), (861,[949,0]), (864,[]), (867,[]), (868,[]), (869,[]), (870,[]), (871,[]), (872,[]), (873,[]), (874,[]), (875,[]), (878,[]), (879,[]), (882,[]), (883,[627,0]), (886,[]), (887,[]), (888,[]), (889,[]), (890,[]), (891,[]), (892,[]), (895,[]), (896,[]), (899,[]), (900,[953,0]), (903,[]), (906,[]), (907,[]), (908,[]), (909,[]), (910,[]), (911,[]), (912,[]), (913,[]), (914,[]), (915,[]), (916,[]), (917,[]), (918,[]), (919,[]), (922,[]), (923,[]), (926,[]), (927,[631,0]), (930,[]), (931,[]), (932,[]), (933,[]), (934,[]), (935,[]), (936,[]), (937,[]), (938,[]), (939,[]), (940,[]), (941,[]), (944,[]), (945,[]), (948,[]), (949,[957,0]), (952,[]), (955,[]), (956,[]), (957,[]), (958,[]), (959,[]), (960,[]), (961,[]), (962,[]), (963,[]), (966,[]), (967,[]), (970,[]), (971,[639,0]), (974,[]), (975,[]), (976,[]), (977,[]), (978,[]), (979,[]), (980,[]), (983,[]), (984,[]), (987,[]), (988,[961,0]), (991,[]), (994,[]), (995,[]), (996,[]), (997,[]), (998,[]), (999,[]), (1000,[]), (1001,[]), (1002,[647,0]), (1005,[]), (1006,[]), (1007,[]), (1008,[]), (1009,[]), (1010,[]), (1011,[969,0]), (1014,[]), (1017,[]), (1018,[]), (1019,[]), (1020,[]), (1021,[]), (1022,[]), (1023,[]), (1024,[]), (1025,[]), (1026,[]), (1027,[]), (1028,[]), (1029,[]), (1030,[651,0]), (1033,[]), (1034,[]), (1035,[]), (1036,[]), (1037,[]), (1038,[]), (1039,[]), (1040,[]), (1041,[]), (1042,[]), (1043,[]), (1044,[973,0]), (1047,[]), (1050,[]), (1051,[]), (1052,[]), (1053,[]), (1054,[]), (1055,[]), (1056,[]), (1057,[]), (1058,[]), (1059,[]), (1060,[]), (1061,[]), (1062,[]), (1063,[655,0]), (1066,[]), (1067,[]), (1068,[]), (1069,[]), (1070,[]), (1071,[]), (1072,[]), (1073,[]), (1074,[]), (1075,[]), (1076,[]), (1077,[977,0]), (1080,[]), (1083,[]), (1084,[]), (1085,[]), (1086,[]), (1087,[]), (1088,[]), (1089,[]), (1090,[]), (1091,[668,0]), (1094,[]), (1095,[]), (1096,[]), (1097,[]), (1098,[]), (1099,[]), (1100,[985,0]), (1103,[]), (1106,[]), (1107,[]), (1108,[]), (1109,[673,0]), (1112,[]), (1113,[755,0]), (1116,[]), (1119,[]), (1120,[]), (1121,[]), (1122,[]), (1123,[]), (1124,[]), (1125,[]), (1126,[]), (1127,[689,0]), (1130,[]), (1131,[]), (1132,[]), (1133,[]), (1134,[]), (1135,[]), (1136,[989,0]), (1139,[]), (1142,[]), (1143,[]), (1144,[]), (1147,[]), (1150,[]), (1151,[])]
-- 1 java/lang/Math.max(II)I
def mc_1 : List MI := [(1,0,0,0,[]), (1,1,0,0,[]), (10,2,5,0,[]), (1,0,0,0,[]), (11,0,6,0,[]), (1,1,0,0,[]), (27,0,0,0,[])]
def mp_1 : List (Nat × List Nat) := [(0,[]), (1,[]), (2,[]), (5,[]), (6,[]), (9,[]), (10,[])]
-- 2 java/lang/Math.min(II)I
def mc_2 : List MI := [(1,0,0,0,[]), (1,1,0,0,[]), (10,4,5,0,[]), (1,0,0,0,[]), (11,0,6,0,[]), (1,1,0,0,[]), (27,0,0,0,[])]
def mp_2 : List (Nat × List Nat) := [(0,[]), (1,[]), (2,[]), (5,[]), (6,[]), (9,[]), (10,[])]
-- 3 java/lang/Integer.bitCount(I)I
def mc_3 : List MI := [(1,0,0,0,[]), (1,0,0,0,[]), (0,0,0,1,[]), (4,8,0,0,[]), (0,0,0,1431655765,[]), (4,3,0,0,[]), (4,1,0,0,[]), (2,0,0,0,[]), (1,0,0,0,[]), (0,0,0,858993459,[]), (4,3,0,0,[]), (1,0,0,0,[]), (0,0,0,2,[]), (4,8,0,0,[]), (0,0,0,858993459,[]), (4,3,0,0,[]), (4,0,0,0,[]), (2,0,0,0,[]), (1,0,0,0,[]), (1,0,0,0,[]), (0,0,0,4,[]), (4,8,0,0,[]), (4,0,0,0,[]), (0,0,0,252645135,[]), (4,3,0,0,[]), (2,0,0,0,[]), (1,0,0,0,[]), (1,0,0,0,[]), (0,0,0,8,[]), (4,8,0,0,[]), (4,0,0,0,[]), (2,0,0,0,[]), (1,0,0,0,[]), (1,0,0,0,[]), (0,0,0,16,[]), (4,8,0,0,[]), (4,0,0,0,[]), (2,0,0,0,[]), (1,0,0,0,[]), (0,0,0,63,[]), (4,3,0,0,[]), (27,0,0,0,[])]
def mp_3 : List (Nat × List Nat) := [(0,[]), (1,[]), (2,[]), (3,[]), (4,[700]), (7,[]), (8,[]), (9,[]), (10,[]), (11,[701]), (14,[]), (15,[]), (16,[]), (17,[]), (18,[701]), (21,[]), (22,[]), (23,[]), (24,[]), (25,[]), (26,[]), (27,[]), (28,[]), (29,[702]), (32,[]), (33,[]), (34,[]), (35,[]), (36,[]), (38,[]), (39,[]), (40,[]), (41,[]), (42,[]), (43,[]), (45,[]), (46,[]), (47,[]), (48,[]), (49,[]), (51,[]), (52,[])]
-- 4 LessonSpiral.Course.<init>()V
def mc_4 : List MI := [(1,0,0,1,[]), (25,0,0,0,[]), (1,0,0,1,[]), (0,0,0,81,[]), (21,0,0,0,[]), (14,0,0,1,[]), (0,0,0,0,[]), (2,1,0,0,[]), (1,1,0,0,[]), (0,0,0,6,[]), (10,3,20,0,[]), (1,0,0,1,[]), (13,0,0,0,[]), (0,0,0,72,[]), (1,1,0,0,[]), (4,0,0,0,[]), (0,0,0,10,[]), (16,0,0,0,[]), (3,1,0,1,[]), (11,0,8,0,[]), (1,0,0,1,[]), (13,0,0,0,[]), (0,0,0,79,[]), (0,0,0,6,[]), (16,0,0,0,[]), (28,0,0,0,[])]
def mp_4 : List (Nat × List Nat) := [(0,[]), (1,[72]), (4,[]), (5,[]), (7,[]), (9,[73,0]), (12,[]), (13,[]), (14,[]), (15,[]), (17,[]), (20,[]), (21,[73,0]), (24,[]), (26,[]), (27,[]), (28,[]), (30,[]), (31,[]), (34,[]), (37,[]), (38,[73,0]), (41,[]), (43,[]), (45,[]), (46,[])]
-- 5 LessonSpiral.Course.saveTo([I)V
def mc_5 : List MI := [(1,0,0,1,[]), (13,0,0,0,[]), (0,0,0,0,[]), (1,1,0,1,[]), (0,0,0,0,[]), (0,0,0,81,[]), (26,0,0,0,[]), (28,0,0,0,[])]
def mp_5 : List (Nat × List Nat) := [(0,[]), (1,[73,0]), (4,[]), (5,[]), (6,[]), (7,[]), (9,[255]), (12,[])]
-- 6 LessonSpiral.Course.bringBack([I)V
def mc_6 : List MI := [(1,1,0,1,[]), (0,0,0,0,[]), (1,0,0,1,[]), (13,0,0,0,[]), (0,0,0,0,[]), (0,0,0,81,[]), (26,0,0,0,[]), (28,0,0,0,[])]
def mp_6 : List (Nat × List Nat) := [(0,[]), (1,[]), (2,[]), (3,[73,0]), (6,[]), (7,[]), (9,[255]), (12,[])]
-- 7 LessonSpiral.Course.size()I
def mc_7 : List MI := [(1,0,0,1,[]), (13,0,0,0,[]), (0,0,0,80,[]), (15,0,0,0,[]), (27,0,0,0,[])]
def mp_7 : List (Nat × List Nat) := [(0,[]), (1,[73,0]), (4,[]), (6,[]), (7,[])]
-- 8 LessonSpiral.Course.get(II)I
def mc_8 : List MI := [(1,0,0,1,[]), (13,0,0,0,[]), (1,1,0,0,[]), (0,0,0,8,[]), (4,2,0,0,[]), (1,2,0,0,[]), (4,0,0,0,[]), (15,0,0,0,[]), (27,0,0,0,[])]
def mp_8 : List (Nat × List Nat) := [(0,[]), (1,[73,0]), (4,[]), (5,[]), (7,[]), (8,[]), (9,[]), (10,[]), (11,[])]
-- 9 LessonSpiral.Course.set(III)V
def mc_9 : List MI := [(1,0,0,1,[]), (13,0,0,0,[]), (1,1,0,0,[]), (0,0,0,8,[]), (4,2,0,0,[]), (1,2,0,0,[]), (4,0,0,0,[]), (1,3,0,0,[]), (16,0,0,0,[]), (28,0,0,0,[])]
def mp_9 : List (Nat × List Nat) := [(0,[]), (1,[73,0]), (4,[]), (5,[]), (7,[]), (8,[]), (9,[]), (10,[]), (11,[]), (12,[])]
-- 10 LessonSpiral.Course.add(II)I
def mc_10 : List MI := [(1,0,0,1,[]), (13,0,0,0,[]), (0,0,0,80,[]), (15,0,0,0,[]), (2,3,0,0,[]), (1,0,0,1,[]), (0,0,0,0,[]), (1,3,0,0,[]), (1,1,0,0,[]), (24,9,4,0,[0]), (1,0,0,1,[]), (0,0,0,1,[]), (1,3,0,0,[]), (1,2,0,0,[]), (24,9,4,0,[0]), (1,0,0,1,[]), (0,0,0,2,[]), (1,3,0,0,[]), (0,0,0,0,[]), (24,9,4,0,[0]), (1,0,0,1,[]), (0,0,0,3,[]), (1,3,0,0,[]), (0,0,0,0,[]), (24,9,4,0,[0]), (1,0,0,1,[]), (0,0,0,4,[]), (1,3,0,0,[]), (0,0,0,0,[]), (24,9,4,0,[0]), (1,0,0,1,[]), (0,0,0,5,[]), (1,3,0,0,[]), (0,0,0,(-1),[]), (24,9,4,0,[0]), (1,0,0,1,[]), (0,0,0,6,[]), (1,3,0,0,[]), (0,0,0,(-1),[]), (24,9,4,0,[0]), (1,0,0,1,[]), (0,0,0,7,[]), (1,3,0,0,[]), (0,0,0,0,[]), (24,9,4,0,[0]), (1,0,0,1,[]), (0,0,0,8,[]), (1,3,0,0,[]), (0,0,0,(-1),[]), (24,9,4,0,[0]), (1,0,0,1,[]), (13,0,0,0,[]), (0,0,0,80,[]), (1,3,0,0,[]), (0,0,0,1,[]), (4,0,0,0,[]), (16,0,0,0,[]), (1,3,0,0,[]), (27,0,0,0,[])]
def mp_10 : List (Nat × List Nat) := [(0,[]), (1,[73,0]), (4,[]), (6,[]), (7,[]), (8,[]), (9,[]), (10,[]), (11,[]), (12,[265,0]), (15,[]), (16,[]), (17,[]), (18,[]), (19,[265,0]), (22,[]), (23,[]), (24,[]), (25,[]), (26,[265,0]), (29,[]), (30,[]), (31,[]), (32,[]), (33,[265,0]), (36,[]), (37,[]), (38,[]), (39,[]), (40,[265,0]), (43,[]), (44,[]), (45,[]), (46,[]), (47,[265,0]), (50,[]), (51,[]), (53,[]), (54,[]), (55,[265,0]), (58,[]), (59,[]), (61,[]), (62,[]), (63,[265,0]), (66,[]), (67,[]), (69,[]), (70,[]), (71,[265,0]), (74,[]), (75,[73,0]), (78,[]), (80,[]), (81,[]), (82,[]), (83,[]), (84,[]), (85,[])]
-- 11 LessonSpiral.Course.isOfKind(II)Z
def mc_11 : List MI := [(1,0,0,1,[]), (0,0,0,0,[]), (1,1,0,0,[]), (24,8,3,0,[0]), (2,3,0,0,[]), (1,2,0,0,[]), (9,0,16,0,[]), (1,2,0,0,[]), (1,3,0,0,[]), (10,0,16,0,[]), (1,2,0,0,[]), (0,0,0,1,[]), (10,1,18,0,[]), (1,3,0,0,[]), (0,0,0,3,[]), (10,1,18,0,[]), (0,0,0,1,[]), (11,0,19,0,[]), (0,0,0,0,[]), (27,0,0,0,[])]
def mp_11 : List (Nat × List Nat) := [(0,[]), (1,[]), (2,[]), (3,[281,0]), (6,[]), (7,[]), (8,[]), (11,[]), (12,[]), (13,[]), (16,[]), (17,[]), (18,[]), (21,[]), (22,[]), (23,[]), (26,[]), (27,[]), (30,[]), (31,[])]
-- 12 LessonSpiral.Course.isStrand(I)Z
def mc_12 : List MI := [(1,0,0,1,[]), (13,0,0,0,[]), (0,0,0,0,[]), (1,1,0,0,[]), (4,0,0,0,[]), (15,0,0,0,[]), (0,0,0,2,[]), (10,1,10,0,[]), (0,0,0,1,[]), (11,0,11,0,[]), (0,0,0,0,[]), (27,0,0,0,[])]
def mp_12 : List (Nat × List Nat) := [(0,[]), (1,[73,0]), (4,[]), (5,[]), (6,[]), (7,[]), (8,[]), (9,[]), (12,[]), (13,[]), (16,[]), (17,[])]
-- 13 LessonSpiral.Course.isMet(I)Z
def mc_13 : List MI := [(1,0,0,1,[]), (1,1,0,0,[]), (24,12,2,0,[0]), (9,1,10,0,[]), (1,0,0,1,[]), (0,0,0,5,[]), (1,1,0,0,[]), (24,8,3,0,[0]), (0,0,0,(-1),[]), (10,0,12,0,[]), (0,0,0,1,[]), (11,0,13,0,[]), (0,0,0,0,[]), (27,0,0,0,[])]
def mp_13 : List (Nat × List Nat) := [(0,[]), (1,[]), (2,[488,0]), (5,[]), (8,[]), (9,[]), (10,[]), (11,[281,0]), (14,[]), (15,[]), (18,[]), (19,[]), (22,[]), (23,[])]
-- 14 LessonSpiral.Course.strands()I
def mc_14 : List MI := [(0,0,0,0,[]), (2,1,0,0,[]), (0,0,0,0,[]), (2,2,0,0,[]), (1,2,0,0,[]), (1,0,0,1,[]), (24,7,1,0,[0]), (10,3,20,0,[]), (1,1,0,0,[]), (1,0,0,1,[]), (1,2,0,0,[]), (24,12,2,0,[0]), (9,0,15,0,[]), (0,0,0,1,[]), (11,0,16,0,[]), (0,0,0,0,[]), (4,0,0,0,[]), (2,1,0,0,[]), (3,2,0,1,[]), (11,0,4,0,[]), (1,1,0,0,[]), (27,0,0,0,[])]
def mp_14 : List (Nat × List Nat) := [(0,[]), (1,[]), (2,[]), (3,[]), (4,[]), (5,[]), (6,[294,0]), (9,[]), (12,[]), (13,[]), (14,[]), (15,[488,0]), (18,[]), (21,[]), (22,[]), (25,[]), (26,[]), (27,[]), (28,[]), (31,[]), (34,[]), (35,[])]
-- 15 LessonSpiral.Course.allNeeds(I)I
def mc_15 : List MI := [(0,0,0,0,[]), (2,2,0,0,[]), (0,0,0,0,[]), (2,3,0,0,[]), (1,3,0,0,[]), (0,0,0,8,[]), (10,3,32,0,[]), (1,1,0,0,[]), (1,2,0,0,[]), (4,4,0,0,[]), (2,4,0,0,[]), (0,0,0,0,[]), (2,5,0,0,[]), (1,5,0,0,[]), (1,0,0,1,[]), (24,7,1,0,[0]), (10,3,30,0,[]), (1,4,0,0,[]), (1,5,0,0,[]), (29,110,2,0,[]), (9,0,28,0,[]), (1,2,0,0,[]), (1,0,0,1,[]), (0,0,0,2,[]), (1,5,0,0,[]), (24,8,3,0,[0]), (4,4,0,0,[]), (2,2,0,0,[]), (3,5,0,1,[]), (11,0,13,0,[]), (3,3,0,1,[]), (11,0,4,0,[]), (1,2,0,0,[]), (27,0,0,0,[])]
def mp_15 : List (Nat × List Nat) := [(0,[]), (1,[]), (2,[]), (3,[]), (4,[]), (5,[]), (7,[]), (10,[]), (11,[]), (12,[]), (13,[]), (15,[]), (16,[]), (18,[]), (20,[]), (21,[294,0]), (24,[]), (27,[]), (29,[]), (31,[295,1]), (34,[]), (37,[]), (38,[]), (39,[]), (40,[]), (42,[281,0]), (45,[]), (46,[]), (47,[]), (50,[]), (53,[]), (56,[]), (59,[]), (60,[])]
-- 16 LessonSpiral.Course.roomOf(I)I
def mc_16 : List MI := [(1,0,0,1,[]), (13,0,0,0,[]), (0,0,0,72,[]), (1,1,0,0,[]), (4,0,0,0,[]), (15,0,0,0,[]), (27,0,0,0,[])]
def mp_16 : List (Nat × List Nat) := [(0,[]), (1,[73,0]), (4,[]), (6,[]), (7,[]), (8,[]), (9,[])]
-- 17 LessonSpiral.Course.setRoom(II)V
def mc_17 : List MI := [(1,0,0,1,[]), (13,0,0,0,[]), (0,0,0,72,[]), (1,1,0,0,[]), (4,0,0,0,[]), (1,2,0,0,[]), (16,0,0,0,[]), (28,0,0,0,[])]
def mp_17 : List (Nat × List Nat) := [(0,[]), (1,[73,0]), (4,[]), (6,[]), (7,[]), (8,[]), (9,[]), (10,[])]
-- 18 LessonSpiral.Course.hasSnow(I)Z
def mc_18 : List MI := [(1,0,0,1,[]), (13,0,0,0,[]), (0,0,0,78,[]), (15,0,0,0,[]), (1,1,0,0,[]), (29,110,2,0,[]), (27,0,0,0,[])]
def mp_18 : List (Nat × List Nat) := [(0,[]), (1,[73,0]), (4,[]), (6,[]), (7,[]), (8,[295,1]), (11,[])]
-- 19 LessonSpiral.Course.setSnow(IZ)V
def mc_19 : List MI := [(1,0,0,1,[]), (13,0,0,0,[]), (0,0,0,78,[]), (1,0,0,1,[]), (13,0,0,0,[]), (0,0,0,78,[]), (15,0,0,0,[]), (1,1,0,0,[]), (1,2,0,0,[]), (29,111,3,0,[]), (16,0,0,0,[]), (28,0,0,0,[])]
def mp_19 : List (Nat × List Nat) := [(0,[]), (1,[73,0]), (4,[]), (6,[]), (7,[73,0]), (10,[]), (12,[]), (13,[]), (14,[]), (15,[358,1]), (18,[]), (19,[])]
-- 20 LessonSpiral.Course.snowWeeks()I
def mc_20 : List MI := [(1,0,0,1,[]), (13,0,0,0,[]), (0,0,0,78,[]), (15,0,0,0,[]), (29,3,1,0,[]), (27,0,0,0,[])]
def mp_20 : List (Nat × List Nat) := [(0,[]), (1,[73,0]), (4,[]), (6,[]), (7,[697,0]), (10,[])]
-- 21 LessonSpiral.Course.openWeeksUpTo(I)I
def mc_21 : List MI := [(0,0,0,0,[]), (2,2,0,0,[]), (0,0,0,0,[]), (2,3,0,0,[]), (1,3,0,0,[]), (1,1,0,0,[]), (10,4,19,0,[]), (1,2,0,0,[]), (1,0,0,1,[]), (1,3,0,0,[]), (24,18,2,0,[0]), (9,0,14,0,[]), (0,0,0,0,[]), (11,0,15,0,[]), (0,0,0,1,[]), (4,0,0,0,[]), (2,2,0,0,[]), (3,3,0,1,[]), (11,0,4,0,[]), (1,2,0,0,[]), (27,0,0,0,[])]
def mp_21 : List (Nat × List Nat) := [(0,[]), (1,[]), (2,[]), (3,[]), (4,[]), (5,[]), (6,[]), (9,[]), (10,[]), (11,[]), (12,[667,0]), (15,[]), (18,[]), (19,[]), (22,[]), (23,[]), (24,[]), (25,[]), (28,[]), (31,[]), (32,[])]
-- 22 LessonSpiral.Course.testWeek()I
def mc_22 : List MI := [(1,0,0,1,[]), (13,0,0,0,[]), (0,0,0,79,[]), (15,0,0,0,[]), (27,0,0,0,[])]
def mp_22 : List (Nat × List Nat) := [(0,[]), (1,[73,0]), (4,[]), (6,[]), (7,[])]
-- 23 LessonSpiral.Course.setTestWeek(I)V
def mc_23 : List MI := [(1,0,0,1,[]), (13,0,0,0,[]), (0,0,0,79,[]), (1,1,0,0,[]), (16,0,0,0,[]), (28,0,0,0,[])]
def mp_23 : List (Nat × List Nat) := [(0,[]), (1,[73,0]), (4,[]), (6,[]), (7,[]), (8,[])]
-- 24 LessonSpiral.History.<init>()V
def mc_24 : List MI := [(1,0,0,1,[]), (25,0,0,0,[]), (1,0,0,1,[]), (0,0,0,25,[]), (0,0,0,81,[]), (23,3,0,0,[]), (14,1,0,1,[]), (28,0,0,0,[])]
def mp_24 : List (Nat × List Nat) := [(0,[]), (1,[181]), (4,[]), (5,[]), (7,[]), (9,[182]), (13,[184,0]), (16,[])]
-- 25 LessonSpiral.History.isEmpty()Z
def mc_25 : List MI := [(1,0,0,1,[]), (13,1,2,0,[]), (9,1,5,0,[]), (0,0,0,1,[]), (11,0,6,0,[]), (0,0,0,0,[]), (27,0,0,0,[])]
def mp_25 : List (Nat × List Nat) := [(0,[]), (1,[186,0]), (4,[]), (7,[]), (8,[]), (11,[]), (12,[])]
-- 26 LessonSpiral.History.keep(LLessonSpiral.Course;)V
def mc_26 : List MI := [(1,1,0,1,[]), (1,0,0,1,[]), (13,1,0,0,[]), (1,0,0,1,[]), (13,1,1,0,[]), (17,0,0,0,[]), (24,5,2,0,[0]), (1,0,0,1,[]), (1,0,0,1,[]), (13,1,1,0,[]), (0,0,0,1,[]), (4,0,0,0,[]), (0,0,0,25,[]), (10,3,19,0,[]), (1,0,0,1,[]), (13,1,1,0,[]), (0,0,0,1,[]), (4,0,0,0,[]), (11,0,20,0,[]), (0,0,0,0,[]), (14,1,1,0,[]), (1,0,0,1,[]), (1,0,0,1,[]), (13,1,2,0,[]), (0,0,0,1,[]), (4,0,0,0,[]), (0,0,0,25,[]), (32,0,0,0,[]), (14,1,2,0,[]), (28,0,0,0,[])]
def mp_26 : List (Nat × List Nat) := [(0,[]), (1,[]), (2,[184,0]), (5,[]), (6,[185,0]), (9,[]), (10,[251,0]), (13,[]), (14,[]), (15,[185,0]), (18,[]), (19,[]), (20,[]), (22,[]), (25,[]), (26,[185,0]), (29,[]), (30,[]), (31,[]), (34,[]), (35,[185,0]), (38,[]), (39,[]), (40,[186,0]), (43,[]), (44,[]), (45,[]), (47,[258]), (50,[186,0]), (53,[])]
-- 27 LessonSpiral.History.giveBack(LLessonSpiral.Course;)I
def mc_27 : List MI := [(1,0,0,1,[]), (1,0,0,1,[]), (13,1,1,0,[]), (9,5,9,0,[]), (1,0,0,1,[]), (13,1,1,0,[]), (0,0,0,1,[]), (4,1,0,0,[]), (11,0,10,0,[]), (0,0,0,24,[]), (14,1,1,0,[]), (1,0,0,1,[]), (6,0,0,0,[]), (13,1,2,0,[]), (0,0,0,1,[]), (4,1,0,0,[]), (14,1,2,0,[]), (1,1,0,1,[]), (1,0,0,1,[]), (13,1,0,0,[]), (1,0,0,1,[]), (13,1,1,0,[]), (17,0,0,0,[]), (24,6,2,0,[0]), (1,0,0,1,[]), (13,1,2,0,[]), (27,0,0,0,[])]
def mp_27 : List (Nat × List Nat) := [(0,[]), (1,[]), (2,[185,0]), (5,[]), (8,[]), (9,[185,0]), (12,[]), (13,[]), (14,[]), (17,[]), (19,[185,0]), (22,[]), (23,[]), (24,[186,0]), (27,[]), (28,[]), (29,[186,0]), (32,[]), (33,[]), (34,[184,0]), (37,[]), (38,[185,0]), (41,[]), (42,[685,0]), (45,[]), (46,[186,0]), (49,[])]
-- 28 LessonSpiral.Laws.<init>(LLessonSpiral.Course;)V
def mc_28 : List MI := [(1,0,0,1,[]), (25,0,0,0,[]), (1,0,0,1,[]), (1,1,0,1,[]), (14,2,0,1,[]), (28,0,0,0,[])]
def mp_28 : List (Nat × List Nat) := [(0,[]), (1,[83]), (4,[]), (5,[]), (6,[84,0]), (9,[])]
-- 29 LessonSpiral.Laws.firstFault()I
def mc_29 : List MI := [(0,0,0,1,[]), (2,1,0,0,[]), (1,1,0,0,[]), (0,0,0,5,[]), (10,4,32,0,[]), (0,0,0,0,[]), (2,2,0,0,[]), (1,2,0,0,[]), (1,0,0,1,[]), (13,2,0,0,[]), (24,7,1,0,[0]), (10,3,30,0,[]), (1,0,0,1,[]), (13,2,0,0,[]), (1,2,0,0,[]), (24,12,2,0,[0]), (9,1,28,0,[]), (1,0,0,1,[]), (1,1,0,0,[]), (1,2,0,0,[]), (24,35,3,0,[2]), (9,1,28,0,[]), (0,0,0,100,[]), (1,1,0,0,[]), (4,2,0,0,[]), (1,2,0,0,[]), (4,0,0,0,[]), (27,0,0,0,[]), (3,2,0,1,[]), (11,0,7,0,[]), (3,1,0,1,[]), (11,0,2,0,[]), (0,0,0,0,[]), (2,1,0,0,[]), (1,1,0,0,[]), (0,0,0,6,[]), (10,3,52,0,[]), (1,0,0,1,[]), (13,2,0,0,[]), (1,1,0,0,[]), (24,18,2,0,[0]), (9,0,50,0,[]), (1,0,0,1,[]), (1,1,0,0,[]), (24,30,2,0,[2]), (9,0,50,0,[]), (0,0,0,600,[]), (1,1,0,0,[]), (4,0,0,0,[]), (27,0,0,0,[]), (3,1,0,1,[]), (11,0,34,0,[]), (0,0,0,0,[]), (2,1,0,0,[]), (1,1,0,0,[]), (0,0,0,6,[]), (10,3,71,0,[]), (1,0,0,1,[]), (1,1,0,0,[]), (24,30,2,0,[2]), (1,0,0,1,[]), (13,2,0,0,[]), (1,1,0,0,[]), (24,16,2,0,[0]), (10,5,69,0,[]), (0,0,0,700,[]), (1,1,0,0,[]), (4,0,0,0,[]), (27,0,0,0,[]), (3,1,0,1,[]), (11,0,54,0,[]), (0,0,0,0,[]), (27,0,0,0,[])]
def mp_29 : List (Nat × List Nat) := [(0,[]), (1,[]), (2,[]), (3,[]), (4,[]), (7,[]), (8,[]), (9,[]), (10,[]), (11,[84,0]), (14,[445,0]), (17,[]), (20,[]), (21,[84,0]), (24,[]), (25,[446,0]), (28,[]), (31,[]), (32,[]), (33,[]), (34,[447,0]), (37,[]), (40,[]), (42,[]), (43,[]), (44,[]), (45,[]), (46,[]), (47,[]), (50,[]), (53,[]), (56,[]), (59,[]), (60,[]), (61,[]), (62,[]), (64,[]), (67,[]), (68,[84,0]), (71,[]), (72,[456,0]), (75,[]), (78,[]), (79,[]), (80,[476,0]), (83,[]), (86,[]), (89,[]), (90,[]), (91,[]), (92,[]), (95,[]), (98,[]), (99,[]), (100,[]), (101,[]), (103,[]), (106,[]), (107,[]), (108,[476,0]), (111,[]), (112,[84,0]), (115,[]), (116,[489,0]), (119,[]), (122,[]), (125,[]), (126,[]), (127,[]), (128,[]), (131,[]), (134,[]), (135,[])]
-- 30 LessonSpiral.Laws.loadOf(I)I
def mc_30 : List MI := [(1,0,0,1,[]), (1,1,0,0,[]), (24,31,2,0,[2]), (2,2,0,0,[]), (0,0,0,0,[]), (2,3,0,0,[]), (1,3,0,0,[]), (1,0,0,1,[]), (13,2,0,0,[]), (24,7,1,0,[0]), (10,3,36,0,[]), (1,0,0,1,[]), (13,2,0,0,[]), (0,0,0,5,[]), (1,3,0,0,[]), (24,8,3,0,[0]), (1,1,0,0,[]), (10,1,26,0,[]), (1,2,0,0,[]), (1,0,0,1,[]), (13,2,0,0,[]), (0,0,0,1,[]), (1,3,0,0,[]), (24,8,3,0,[0]), (4,0,0,0,[]), (2,2,0,0,[]), (1,0,0,1,[]), (13,2,0,0,[]), (0,0,0,6,[]), (1,3,0,0,[]), (24,8,3,0,[0]), (1,1,0,0,[]), (10,1,34,0,[]), (3,2,0,1,[]), (3,3,0,1,[]), (11,0,6,0,[]), (1,2,0,0,[]), (27,0,0,0,[])]
def mp_30 : List (Nat × List Nat) := [(0,[]), (1,[]), (2,[480,0]), (5,[]), (6,[]), (7,[]), (8,[]), (9,[]), (10,[84,0]), (13,[445,0]), (16,[]), (19,[]), (20,[84,0]), (23,[]), (24,[]), (25,[451,0]), (28,[]), (29,[]), (32,[]), (33,[]), (34,[84,0]), (37,[]), (38,[]), (39,[451,0]), (42,[]), (43,[]), (44,[]), (45,[84,0]), (48,[]), (50,[]), (51,[451,0]), (54,[]), (55,[]), (58,[]), (61,[]), (64,[]), (67,[]), (68,[])]
-- 31 LessonSpiral.Laws.strandLoad(I)I
def mc_31 : List MI := [(1,0,0,1,[]), (13,2,0,0,[]), (1,1,0,0,[]), (24,18,2,0,[0]), (9,0,7,0,[]), (0,0,0,0,[]), (11,0,10,0,[]), (1,0,0,1,[]), (13,2,0,0,[]), (24,14,1,0,[0]), (27,0,0,0,[])]
def mp_31 : List (Nat × List Nat) := [(0,[]), (1,[84,0]), (4,[]), (5,[456,0]), (8,[]), (11,[]), (12,[]), (15,[]), (16,[84,0]), (19,[484,0]), (22,[])]
-- 32 LessonSpiral.Laws.isOpen(I)Z
def mc_32 : List MI := [(1,1,0,0,[]), (0,0,0,(-1),[]), (10,0,10,0,[]), (1,0,0,1,[]), (13,2,0,0,[]), (1,1,0,0,[]), (24,18,2,0,[0]), (9,1,10,0,[]), (0,0,0,1,[]), (11,0,11,0,[]), (0,0,0,0,[]), (27,0,0,0,[])]
def mp_32 : List (Nat × List Nat) := [(0,[]), (1,[]), (2,[]), (5,[]), (6,[84,0]), (9,[]), (10,[456,0]), (13,[]), (16,[]), (17,[]), (20,[]), (21,[])]
-- 33 LessonSpiral.Laws.returnsInTime(III)Z
def mc_33 : List MI := [(1,0,0,1,[]), (13,2,0,0,[]), (0,0,0,3,[]), (1,1,0,0,[]), (24,8,3,0,[0]), (2,4,0,0,[]), (1,4,0,0,[]), (9,1,15,0,[]), (1,3,0,0,[]), (0,0,0,(-1),[]), (10,1,13,0,[]), (0,0,0,1,[]), (11,0,14,0,[]), (0,0,0,0,[]), (27,0,0,0,[]), (1,3,0,0,[]), (1,2,0,0,[]), (10,5,30,0,[]), (1,3,0,0,[]), (1,2,0,0,[]), (1,4,0,0,[]), (4,0,0,0,[]), (10,4,30,0,[]), (1,0,0,1,[]), (13,2,0,0,[]), (1,3,0,0,[]), (24,18,2,0,[0]), (9,1,30,0,[]), (0,0,0,1,[]), (11,0,31,0,[]), (0,0,0,0,[]), (27,0,0,0,[])]
def mp_33 : List (Nat × List Nat) := [(0,[]), (1,[84,0]), (4,[]), (5,[]), (6,[451,0]), (9,[]), (11,[]), (13,[]), (16,[]), (17,[]), (18,[]), (21,[]), (22,[]), (25,[]), (26,[]), (27,[]), (28,[]), (29,[]), (32,[]), (33,[]), (34,[]), (36,[]), (37,[]), (40,[]), (41,[84,0]), (44,[]), (45,[456,0]), (48,[]), (51,[]), (52,[]), (55,[]), (56,[])]
-- 34 LessonSpiral.Laws.isAheadOfTest(III)Z
def mc_34 : List MI := [(1,0,0,1,[]), (13,2,0,0,[]), (24,22,1,0,[0]), (2,4,0,0,[]), (1,0,0,1,[]), (13,2,0,0,[]), (1,1,0,0,[]), (0,0,0,1,[]), (24,11,3,0,[0]), (9,0,16,0,[]), (1,2,0,0,[]), (1,4,0,0,[]), (10,3,18,0,[]), (1,3,0,0,[]), (1,4,0,0,[]), (10,3,18,0,[]), (0,0,0,1,[]), (11,0,19,0,[]), (0,0,0,0,[]), (27,0,0,0,[])]
def mp_34 : List (Nat × List Nat) := [(0,[]), (1,[84,0]), (4,[470,0]), (7,[]), (9,[]), (10,[84,0]), (13,[]), (14,[]), (15,[471,0]), (18,[]), (21,[]), (22,[]), (24,[]), (27,[]), (28,[]), (30,[]), (33,[]), (34,[]), (37,[]), (38,[])]
-- 35 LessonSpiral.Laws.keeps(II)Z
def mc_35 : List MI := [(1,0,0,1,[]), (13,2,0,0,[]), (0,0,0,5,[]), (1,2,0,0,[]), (24,8,3,0,[0]), (2,3,0,0,[]), (1,0,0,1,[]), (13,2,0,0,[]), (0,0,0,6,[]), (1,2,0,0,[]), (24,8,3,0,[0]), (2,4,0,0,[]), (1,1,0,0,[]), (12,0,36,1,[14,21,25,30]), (1,3,0,0,[]), (0,0,0,(-1),[]), (10,0,19,0,[]), (0,0,0,1,[]), (11,0,20,0,[]), (0,0,0,0,[]), (27,0,0,0,[]), (1,0,0,1,[]), (1,3,0,0,[]), (24,32,2,0,[2]), (27,0,0,0,[]), (1,0,0,1,[]), (1,2,0,0,[]), (1,3,0,0,[]), (24,36,3,0,[2]), (27,0,0,0,[]), (1,0,0,1,[]), (1,2,0,0,[]), (1,3,0,0,[]), (1,4,0,0,[]), (24,33,4,0,[2]), (27,0,0,0,[]), (1,0,0,1,[]), (1,2,0,0,[]), (1,3,0,0,[]), (1,4,0,0,[]), (24,34,4,0,[2]), (9,0,49,0,[]), (1,0,0,1,[]), (1,2,0,0,[]), (1,3,0,0,[]), (24,37,3,0,[2]), (9,0,49,0,[]), (0,0,0,1,[]), (11,0,50,0,[]), (0,0,0,0,[]), (27,0,0,0,[])]
def mp_35 : List (Nat × List Nat) := [(0,[]), (1,[84,0]), (4,[]), (5,[]), (6,[451,0]), (9,[]), (10,[]), (11,[84,0]), (14,[]), (16,[]), (17,[451,0]), (20,[]), (22,[]), (23,[]), (52,[]), (53,[]), (54,[]), (57,[]), (58,[]), (61,[]), (62,[]), (63,[]), (64,[]), (65,[452,0]), (68,[]), (69,[]), (70,[]), (71,[]), (72,[457,0]), (75,[]), (76,[]), (77,[]), (78,[]), (79,[]), (81,[462,0]), (84,[]), (85,[]), (86,[]), (87,[]), (88,[]), (90,[466,0]), (93,[]), (96,[]), (97,[]), (98,[]), (99,[472,0]), (102,[]), (105,[]), (106,[]), (109,[]), (110,[])]
-- 36 LessonSpiral.Laws.isBehindNeeds(II)Z
def mc_36 : List MI := [(1,0,0,1,[]), (13,2,0,0,[]), (0,0,0,2,[]), (1,1,0,0,[]), (24,8,3,0,[0]), (2,3,0,0,[]), (0,0,0,0,[]), (2,4,0,0,[]), (1,4,0,0,[]), (1,0,0,1,[]), (13,2,0,0,[]), (24,7,1,0,[0]), (10,3,33,0,[]), (1,3,0,0,[]), (1,4,0,0,[]), (29,110,2,0,[]), (9,0,31,0,[]), (1,0,0,1,[]), (13,2,0,0,[]), (1,4,0,0,[]), (24,12,2,0,[0]), (9,1,31,0,[]), (1,0,0,1,[]), (13,2,0,0,[]), (0,0,0,5,[]), (1,4,0,0,[]), (24,8,3,0,[0]), (1,2,0,0,[]), (10,2,31,0,[]), (0,0,0,0,[]), (27,0,0,0,[]), (3,4,0,1,[]), (11,0,8,0,[]), (0,0,0,1,[]), (27,0,0,0,[])]
def mp_36 : List (Nat × List Nat) := [(0,[]), (1,[84,0]), (4,[]), (5,[]), (6,[451,0]), (9,[]), (10,[]), (11,[]), (13,[]), (15,[]), (16,[84,0]), (19,[445,0]), (22,[]), (25,[]), (26,[]), (28,[461,1]), (31,[]), (34,[]), (35,[84,0]), (38,[]), (40,[446,0]), (43,[]), (46,[]), (47,[84,0]), (50,[]), (51,[]), (53,[451,0]), (56,[]), (57,[]), (60,[]), (61,[]), (62,[]), (65,[]), (68,[]), (69,[])]
-- 37 LessonSpiral.Laws.isBesidePartner(II)Z
def mc_37 : List MI := [(1,0,0,1,[]), (13,2,0,0,[]), (0,0,0,8,[]), (1,1,0,0,[]), (24,8,3,0,[0]), (2,3,0,0,[]), (1,3,0,0,[]), (0,0,0,(-1),[]), (10,0,21,0,[]), (1,0,0,1,[]), (13,2,0,0,[]), (1,3,0,0,[]), (24,12,2,0,[0]), (9,1,21,0,[]), (1,0,0,1,[]), (13,2,0,0,[]), (0,0,0,5,[]), (1,3,0,0,[]), (24,8,3,0,[0]), (1,2,0,0,[]), (10,1,23,0,[]), (0,0,0,1,[]), (11,0,24,0,[]), (0,0,0,0,[]), (27,0,0,0,[])]
def mp_37 : List (Nat × List Nat) := [(0,[]), (1,[84,0]), (4,[]), (6,[]), (7,[451,0]), (10,[]), (11,[]), (12,[]), (13,[]), (16,[]), (17,[84,0]), (20,[]), (21,[446,0]), (24,[]), (27,[]), (28,[84,0]), (31,[]), (32,[]), (33,[451,0]), (36,[]), (37,[]), (40,[]), (41,[]), (44,[]), (45,[])]
-- 38 LessonSpiral.Place.<init>()V
def mc_38 : List MI := [(1,0,0,1,[]), (25,0,0,0,[]), (1,0,0,1,[]), (0,0,0,42,[]), (21,0,0,0,[]), (14,3,0,1,[]), (1,0,0,1,[]), (0,0,0,42,[]), (21,0,0,0,[]), (14,3,1,1,[]), (1,0,0,1,[]), (0,0,0,42,[]), (21,0,0,0,[]), (14,3,2,1,[]), (28,0,0,0,[])]
def mp_38 : List (Nat × List Nat) := [(0,[]), (1,[100]), (4,[]), (5,[]), (7,[]), (9,[101,0]), (12,[]), (13,[]), (15,[]), (17,[103,0]), (20,[]), (21,[]), (23,[]), (25,[105,0]), (28,[])]
-- 39 LessonSpiral.Place.begin(ILLessonSpiral.Course;LLessonSpiral.Laws;)V
def mc_39 : List MI := [(1,0,0,1,[]), (1,1,0,0,[]), (14,3,4,0,[]), (1,0,0,1,[]), (1,2,0,1,[]), (0,0,0,1,[]), (1,0,0,1,[]), (13,3,4,0,[]), (24,8,3,0,[0]), (14,3,5,0,[]), (1,0,0,1,[]), (1,2,0,1,[]), (0,0,0,2,[]), (1,0,0,1,[]), (13,3,4,0,[]), (24,8,3,0,[0]), (14,3,6,0,[]), (1,0,0,1,[]), (1,2,0,1,[]), (0,0,0,8,[]), (1,0,0,1,[]), (13,3,4,0,[]), (24,8,3,0,[0]), (14,3,7,0,[]), (1,0,0,1,[]), (0,0,0,0,[]), (14,3,3,0,[]), (0,0,0,0,[]), (2,4,0,0,[]), (1,4,0,0,[]), (0,0,0,6,[]), (10,3,64,0,[]), (0,0,0,(-1),[]), (2,5,0,0,[]), (1,5,0,0,[]), (0,0,0,6,[]), (10,3,62,0,[]), (1,3,0,1,[]), (1,4,0,0,[]), (24,32,2,0,[2]), (9,0,60,0,[]), (1,3,0,1,[]), (1,0,0,1,[]), (13,3,4,0,[]), (1,4,0,0,[]), (1,5,0,0,[]), (24,33,4,0,[2]), (9,0,60,0,[]), (1,3,0,1,[]), (1,0,0,1,[]), (13,3,4,0,[]), (1,4,0,0,[]), (1,5,0,0,[]), (24,34,4,0,[2]), (9,0,60,0,[]), (1,0,0,1,[]), (1,2,0,1,[]), (1,4,0,0,[]), (1,5,0,0,[]), (24,40,4,0,[3]), (3,5,0,1,[]), (11,0,34,0,[]), (3,4,0,1,[]), (11,0,29,0,[]), (28,0,0,0,[])]
def mp_39 : List (Nat × List Nat) := [(0,[]), (1,[]), (2,[109,0]), (5,[]), (6,[]), (7,[]), (8,[]), (9,[109,0]), (12,[523,0]), (15,[110,0]), (18,[]), (19,[]), (20,[]), (21,[]), (22,[109,0]), (25,[523,0]), (28,[112,0]), (31,[]), (32,[]), (33,[]), (35,[]), (36,[109,0]), (39,[523,0]), (42,[113,0]), (45,[]), (46,[]), (47,[107,0]), (50,[]), (51,[]), (53,[]), (55,[]), (57,[]), (60,[]), (61,[]), (63,[]), (65,[]), (67,[]), (70,[]), (71,[]), (73,[524,0]), (76,[]), (79,[]), (80,[]), (81,[109,0]), (84,[]), (86,[]), (88,[525,0]), (91,[]), (94,[]), (95,[]), (96,[109,0]), (99,[]), (101,[]), (103,[526,0]), (106,[]), (109,[]), (110,[]), (111,[]), (113,[]), (115,[527,0]), (118,[]), (121,[]), (124,[]), (127,[]), (130,[])]
-- 40 LessonSpiral.Place.addOption(LLessonSpiral.Course;II)V
def mc_40 : List MI := [(1,0,0,1,[]), (13,3,3,0,[]), (0,0,0,42,[]), (10,3,52,0,[]), (1,0,0,1,[]), (13,3,0,0,[]), (1,0,0,1,[]), (13,3,3,0,[]), (1,2,0,0,[]), (16,0,0,0,[]), (1,0,0,1,[]), (13,3,1,0,[]), (1,0,0,1,[]), (13,3,3,0,[]), (1,3,0,0,[]), (16,0,0,0,[]), (1,2,0,0,[]), (1,1,0,1,[]), (0,0,0,5,[]), (1,0,0,1,[]), (13,3,4,0,[]), (24,8,3,0,[0]), (10,1,25,0,[]), (0,0,0,0,[]), (11,0,26,0,[]), (0,0,0,1,[]), (2,4,0,0,[]), (1,3,0,0,[]), (1,1,0,1,[]), (0,0,0,6,[]), (1,0,0,1,[]), (13,3,4,0,[]), (24,8,3,0,[0]), (10,1,36,0,[]), (0,0,0,0,[]), (11,0,37,0,[]), (0,0,0,1,[]), (2,5,0,0,[]), (1,0,0,1,[]), (13,3,2,0,[]), (1,0,0,1,[]), (13,3,3,0,[]), (1,4,0,0,[]), (1,5,0,0,[]), (4,0,0,0,[]), (16,0,0,0,[]), (1,0,0,1,[]), (6,0,0,0,[]), (13,3,3,0,[]), (0,0,0,1,[]), (4,0,0,0,[]), (14,3,3,0,[]), (28,0,0,0,[])]
def mp_40 : List (Nat × List Nat) := [(0,[]), (1,[107,0]), (4,[]), (6,[]), (9,[]), (10,[101,0]), (13,[]), (14,[107,0]), (17,[]), (18,[]), (19,[]), (20,[103,0]), (23,[]), (24,[107,0]), (27,[]), (28,[]), (29,[]), (30,[]), (31,[]), (32,[]), (33,[109,0]), (36,[523,0]), (39,[]), (42,[]), (43,[]), (46,[]), (47,[]), (49,[]), (50,[]), (51,[]), (53,[]), (54,[109,0]), (57,[523,0]), (60,[]), (63,[]), (64,[]), (67,[]), (68,[]), (70,[]), (71,[105,0]), (74,[]), (75,[107,0]), (78,[]), (80,[]), (82,[]), (83,[]), (84,[]), (85,[]), (86,[107,0]), (89,[]), (90,[]), (91,[107,0]), (94,[])]
-- 41 LessonSpiral.Place.isBehind(LLessonSpiral.Place;)Z
def mc_41 : List MI := [(1,0,0,1,[]), (13,3,6,0,[]), (1,1,0,1,[]), (13,3,4,0,[]), (4,7,0,0,[]), (0,0,0,1,[]), (4,3,0,0,[]), (9,0,10,0,[]), (0,0,0,1,[]), (11,0,11,0,[]), (0,0,0,0,[]), (27,0,0,0,[])]
def mp_41 : List (Nat × List Nat) := [(0,[]), (1,[112,0]), (4,[]), (5,[109,0]), (8,[]), (9,[]), (10,[]), (11,[]), (14,[]), (15,[]), (18,[]), (19,[])]
-- 42 LessonSpiral.Place.isBeside(LLessonSpiral.Place;)Z
def mc_42 : List MI := [(1,0,0,1,[]), (13,3,7,0,[]), (1,1,0,1,[]), (13,3,4,0,[]), (10,0,10,0,[]), (1,1,0,1,[]), (13,3,7,0,[]), (1,0,0,1,[]), (13,3,4,0,[]), (10,1,12,0,[]), (0,0,0,1,[]), (11,0,13,0,[]), (0,0,0,0,[]), (27,0,0,0,[])]
def mp_42 : List (Nat × List Nat) := [(0,[]), (1,[113,0]), (4,[]), (5,[109,0]), (8,[]), (11,[]), (12,[113,0]), (15,[]), (16,[109,0]), (19,[]), (22,[]), (23,[]), (26,[]), (27,[])]
-- 43 LessonSpiral.Place.choose(I)V
def mc_43 : List MI := [(1,0,0,1,[]), (1,0,0,1,[]), (13,3,0,0,[]), (1,1,0,0,[]), (15,0,0,0,[]), (14,3,8,0,[]), (1,0,0,1,[]), (1,0,0,1,[]), (13,3,1,0,[]), (1,1,0,0,[]), (15,0,0,0,[]), (14,3,9,0,[]), (28,0,0,0,[])]
def mp_43 : List (Nat × List Nat) := [(0,[]), (1,[]), (2,[101,0]), (5,[]), (6,[]), (7,[114,0]), (10,[]), (11,[]), (12,[103,0]), (15,[]), (16,[]), (17,[116,0]), (20,[])]
-- 44 LessonSpiral.Place.keepAsBest()V
def mc_44 : List MI := [(1,0,0,1,[]), (1,0,0,1,[]), (13,3,8,0,[]), (14,3,10,0,[]), (1,0,0,1,[]), (1,0,0,1,[]), (13,3,9,0,[]), (14,3,11,0,[]), (28,0,0,0,[])]
def mp_44 : List (Nat × List Nat) := [(0,[]), (1,[]), (2,[114,0]), (5,[118,0]), (8,[]), (9,[]), (10,[116,0]), (13,[119,0]), (16,[])]
-- 45 LessonSpiral.Place.settleIn(LLessonSpiral.Course;)V
def mc_45 : List MI := [(1,1,0,1,[]), (0,0,0,5,[]), (1,0,0,1,[]), (13,3,4,0,[]), (1,0,0,1,[]), (13,3,10,0,[]), (24,9,4,0,[0]), (1,1,0,1,[]), (0,0,0,6,[]), (1,0,0,1,[]), (13,3,4,0,[]), (1,0,0,1,[]), (13,3,11,0,[]), (24,9,4,0,[0]), (28,0,0,0,[])]
def mp_45 : List (Nat × List Nat) := [(0,[]), (1,[]), (2,[]), (3,[109,0]), (6,[]), (7,[118,0]), (10,[622,0]), (13,[]), (14,[]), (16,[]), (17,[109,0]), (20,[]), (21,[119,0]), (24,[622,0]), (27,[])]
-- 46 LessonSpiral.Search.<init>(LLessonSpiral.Course;LLessonSpiral.Laws;)V
def mc_46 : List MI := [(1,0,0,1,[]), (25,0,0,0,[]), (1,0,0,1,[]), (1,1,0,1,[]), (14,4,0,1,[]), (1,0,0,1,[]), (1,2,0,1,[]), (14,4,1,1,[]), (1,0,0,1,[]), (0,0,0,4,[]), (22,2,0,0,[]), (14,4,2,1,[]), (0,0,0,0,[]), (2,3,0,0,[]), (1,3,0,0,[]), (0,0,0,4,[]), (10,3,26,0,[]), (1,0,0,1,[]), (13,4,2,0,[]), (1,3,0,0,[]), (20,3,0,0,[]), (6,0,0,0,[]), (30,38,1,0,[3]), (18,0,0,0,[]), (3,3,0,1,[]), (11,0,14,0,[]), (1,0,0,1,[]), (0,0,0,6,[]), (21,0,0,0,[]), (14,4,3,1,[]), (1,0,0,1,[]), (0,0,0,6,[]), (21,0,0,0,[]), (14,4,4,1,[]), (28,0,0,0,[])]
def mp_46 : List (Nat × List Nat) := [(0,[]), (1,[93]), (4,[]), (5,[]), (6,[145,0]), (9,[]), (10,[]), (11,[146,0]), (14,[]), (15,[]), (16,[94]), (19,[147,0]), (22,[]), (23,[]), (24,[]), (25,[]), (26,[]), (29,[]), (30,[147,0]), (33,[]), (34,[94,96,52]), (37,[]), (38,[97,0]), (41,[]), (42,[]), (45,[]), (48,[]), (49,[]), (51,[]), (53,[148,0]), (56,[]), (57,[]), (59,[]), (61,[149,0]), (64,[])]
-- 47 LessonSpiral.Search.isTooLong()Z
def mc_47 : List MI := [(1,0,0,1,[]), (13,4,0,0,[]), (24,7,1,0,[0]), (1,0,0,1,[]), (13,4,0,0,[]), (24,14,1,0,[0]), (4,1,0,0,[]), (0,0,0,4,[]), (10,5,11,0,[]), (0,0,0,1,[]), (11,0,12,0,[]), (0,0,0,0,[]), (27,0,0,0,[])]
def mp_47 : List (Nat × List Nat) := [(0,[]), (1,[145,0]), (4,[511,0]), (7,[]), (8,[145,0]), (11,[512,0]), (14,[]), (15,[]), (16,[]), (19,[]), (20,[]), (23,[]), (24,[])]
-- 48 LessonSpiral.Search.count()I
def mc_48 : List MI := [(1,0,0,1,[]), (13,4,7,0,[]), (27,0,0,0,[])]
def mp_48 : List (Nat × List Nat) := [(0,[]), (1,[152,0]), (4,[])]
-- 49 LessonSpiral.Search.leastEvenness()I
def mc_49 : List MI := [(1,0,0,1,[]), (13,4,9,0,[]), (27,0,0,0,[])]
def mp_49 : List (Nat × List Nat) := [(0,[]), (1,[154,0]), (4,[])]
-- 50 LessonSpiral.Search.leastMoves()I
def mc_50 : List MI := [(1,0,0,1,[]), (13,4,8,0,[]), (27,0,0,0,[])]
def mp_50 : List (Nat × List Nat) := [(0,[]), (1,[153,0]), (4,[])]
-- 51 LessonSpiral.Search.run(I)V
def mc_51 : List MI := [(1,0,0,1,[]), (1,1,0,0,[]), (14,4,5,0,[]), (1,0,0,1,[]), (0,0,0,0,[]), (14,4,7,0,[]), (1,0,0,1,[]), (24,54,1,0,[4]), (9,0,15,0,[]), (1,0,0,1,[]), (0,0,0,0,[]), (0,0,0,0,[]), (1,0,0,1,[]), (24,55,1,0,[4]), (24,56,4,0,[4]), (28,0,0,0,[])]
def mp_51 : List (Nat × List Nat) := [(0,[]), (1,[]), (2,[150,0]), (5,[]), (6,[]), (7,[152,0]), (10,[]), (11,[535,0]), (14,[]), (17,[]), (18,[]), (19,[]), (20,[]), (21,[541,0]), (24,[545,0]), (27,[])]
-- 52 LessonSpiral.Search.settle()V
def mc_52 : List MI := [(0,0,0,0,[]), (2,1,0,0,[]), (1,1,0,0,[]), (1,0,0,1,[]), (13,4,6,0,[]), (10,3,15,0,[]), (1,0,0,1,[]), (13,4,2,0,[]), (1,1,0,0,[]), (17,0,0,0,[]), (1,0,0,1,[]), (13,4,0,0,[]), (24,45,2,0,[3]), (3,1,0,1,[]), (11,0,2,0,[]), (28,0,0,0,[])]
def mp_52 : List (Nat × List Nat) := [(0,[]), (1,[]), (2,[]), (3,[]), (4,[151,0]), (7,[]), (10,[]), (11,[147,0]), (14,[]), (15,[]), (16,[]), (17,[145,0]), (20,[618,0]), (23,[]), (26,[]), (29,[])]
-- 53 LessonSpiral.Search.listPlaces()V
def mc_53 : List MI := [(1,0,0,1,[]), (0,0,0,0,[]), (14,4,6,0,[]), (0,0,0,0,[]), (2,1,0,0,[]), (1,1,0,0,[]), (1,0,0,1,[]), (13,4,0,0,[]), (24,7,1,0,[0]), (10,3,38,0,[]), (1,0,0,1,[]), (13,4,6,0,[]), (0,0,0,4,[]), (10,3,38,0,[]), (1,0,0,1,[]), (13,4,0,0,[]), (1,1,0,0,[]), (24,12,2,0,[0]), (9,1,36,0,[]), (1,0,0,1,[]), (13,4,2,0,[]), (1,0,0,1,[]), (13,4,6,0,[]), (17,0,0,0,[]), (1,1,0,0,[]), (1,0,0,1,[]), (13,4,0,0,[]), (1,0,0,1,[]), (13,4,1,0,[]), (24,39,4,0,[3]), (1,0,0,1,[]), (6,0,0,0,[]), (13,4,6,0,[]), (0,0,0,1,[]), (4,0,0,0,[]), (14,4,6,0,[]), (3,1,0,1,[]), (11,0,5,0,[]), (28,0,0,0,[])]
def mp_53 : List (Nat × List Nat) := [(0,[]), (1,[]), (2,[151,0]), (5,[]), (6,[]), (7,[]), (8,[]), (9,[145,0]), (12,[511,0]), (15,[]), (18,[]), (19,[151,0]), (22,[]), (23,[]), (26,[]), (27,[145,0]), (30,[]), (31,[518,0]), (34,[]), (37,[]), (38,[147,0]), (41,[]), (42,[151,0]), (45,[]), (46,[]), (47,[]), (48,[145,0]), (51,[]), (52,[146,0]), (55,[519,0]), (58,[]), (59,[]), (60,[151,0]), (63,[]), (64,[]), (65,[151,0]), (68,[]), (71,[]), (74,[])]
-- 54 LessonSpiral.Search.startLoads()Z
def mc_54 : List MI := [(0,0,0,1,[]), (2,1,0,0,[]), (0,0,0,0,[]), (2,2,0,0,[]), (1,2,0,0,[]), (0,0,0,6,[]), (10,3,40,0,[]), (1,0,0,1,[]), (13,4,3,0,[]), (1,2,0,0,[]), (1,0,0,1,[]), (13,4,0,0,[]), (1,2,0,0,[]), (24,16,2,0,[0]), (16,0,0,0,[]), (1,0,0,1,[]), (13,4,4,0,[]), (1,2,0,0,[]), (1,0,0,1,[]), (13,4,1,0,[]), (1,2,0,0,[]), (24,31,2,0,[2]), (16,0,0,0,[]), (1,1,0,0,[]), (1,0,0,1,[]), (13,4,4,0,[]), (1,2,0,0,[]), (15,0,0,0,[]), (1,0,0,1,[]), (13,4,3,0,[]), (1,2,0,0,[]), (15,0,0,0,[]), (10,4,35,0,[]), (0,0,0,1,[]), (11,0,36,0,[]), (0,0,0,0,[]), (4,3,0,0,[]), (2,1,0,0,[]), (3,2,0,1,[]), (11,0,4,0,[]), (1,1,0,0,[]), (27,0,0,0,[])]
def mp_54 : List (Nat × List Nat) := [(0,[]), (1,[]), (2,[]), (3,[]), (4,[]), (5,[]), (7,[]), (10,[]), (11,[148,0]), (14,[]), (15,[]), (16,[145,0]), (19,[]), (20,[539,0]), (23,[]), (24,[]), (25,[149,0]), (28,[]), (29,[]), (30,[146,0]), (33,[]), (34,[540,0]), (37,[]), (38,[]), (39,[]), (40,[149,0]), (43,[]), (44,[]), (45,[]), (46,[148,0]), (49,[]), (50,[]), (51,[]), (54,[]), (55,[]), (58,[]), (59,[]), (60,[]), (61,[]), (64,[]), (67,[]), (68,[])]
-- 55 LessonSpiral.Search.startEvenness()I
def mc_55 : List MI := [(0,0,0,0,[]), (2,1,0,0,[]), (0,0,0,0,[]), (2,2,0,0,[]), (1,2,0,0,[]), (0,0,0,6,[]), (10,3,21,0,[]), (1,1,0,0,[]), (1,0,0,1,[]), (13,4,4,0,[]), (1,2,0,0,[]), (15,0,0,0,[]), (1,0,0,1,[]), (13,4,4,0,[]), (1,2,0,0,[]), (15,0,0,0,[]), (4,2,0,0,[]), (4,0,0,0,[]), (2,1,0,0,[]), (3,2,0,1,[]), (11,0,4,0,[]), (1,1,0,0,[]), (27,0,0,0,[])]
def mp_55 : List (Nat × List Nat) := [(0,[]), (1,[]), (2,[]), (3,[]), (4,[]), (5,[]), (7,[]), (10,[]), (11,[]), (12,[149,0]), (15,[]), (16,[]), (17,[]), (18,[149,0]), (21,[]), (22,[]), (23,[]), (24,[]), (25,[]), (26,[]), (29,[]), (32,[]), (33,[])]
-- 56 LessonSpiral.Search.place(III)V
def mc_56 : List MI := [(1,1,0,0,[]), (1,0,0,1,[]), (13,4,6,0,[]), (10,2,9,0,[]), (1,0,0,1,[]), (1,2,0,0,[]), (1,3,0,0,[]), (24,64,3,0,[4]), (28,0,0,0,[]), (1,0,0,1,[]), (13,4,2,0,[]), (1,1,0,0,[]), (17,0,0,0,[]), (2,4,0,1,[]), (1,0,0,1,[]), (1,1,0,0,[]), (24,61,2,0,[4]), (2,5,0,0,[]), (1,0,0,1,[]), (1,1,0,0,[]), (24,62,2,0,[4]), (2,6,0,0,[]), (0,0,0,0,[]), (2,7,0,0,[]), (1,7,0,0,[]), (1,4,0,1,[]), (13,3,3,0,[]), (10,3,64,0,[]), (1,4,0,1,[]), (13,3,0,0,[]), (1,7,0,0,[]), (15,0,0,0,[]), (2,8,0,0,[]), (1,8,0,0,[]), (1,5,0,0,[]), (10,2,62,0,[]), (1,8,0,0,[]), (1,6,0,0,[]), (10,4,62,0,[]), (1,0,0,1,[]), (1,4,0,1,[]), (13,3,5,0,[]), (1,8,0,0,[]), (1,4,0,1,[]), (13,3,1,0,[]), (1,7,0,0,[]), (15,0,0,0,[]), (24,60,4,0,[4]), (9,0,62,0,[]), (1,4,0,1,[]), (1,7,0,0,[]), (24,43,2,0,[3]), (1,0,0,1,[]), (1,1,0,0,[]), (1,2,0,0,[]), (1,4,0,1,[]), (13,3,2,0,[]), (1,7,0,0,[]), (15,0,0,0,[]), (4,0,0,0,[]), (1,3,0,0,[]), (24,57,4,0,[4]), (3,7,0,1,[]), (11,0,24,0,[]), (28,0,0,0,[])]
def mp_56 : List (Nat × List Nat) := [(0,[]), (1,[]), (2,[151,0]), (5,[]), (8,[]), (9,[]), (10,[]), (11,[549,0]), (14,[]), (15,[]), (16,[147,0]), (19,[]), (20,[]), (21,[]), (23,[]), (24,[]), (25,[557,0]), (28,[]), (30,[]), (31,[]), (32,[572,0]), (35,[]), (37,[]), (38,[]), (40,[]), (42,[]), (44,[108,1]), (47,[]), (50,[]), (52,[102,1]), (55,[]), (57,[]), (58,[]), (60,[]), (62,[]), (64,[]), (67,[]), (69,[]), (71,[]), (74,[]), (75,[]), (77,[111,1]), (80,[]), (82,[]), (84,[104,1]), (87,[]), (89,[]), (90,[577,0]), (93,[]), (96,[]), (98,[]), (100,[581,0]), (103,[]), (104,[]), (105,[]), (106,[]), (108,[106,1]), (111,[]), (113,[]), (114,[]), (115,[]), (116,[585,0]), (119,[]), (122,[]), (125,[])]
-- 57 LessonSpiral.Search.goOn(III)V
def mc_57 : List MI := [(1,0,0,1,[]), (13,4,2,0,[]), (1,1,0,0,[]), (17,0,0,0,[]), (2,4,0,1,[]), (1,3,0,0,[]), (1,0,0,1,[]), (1,4,0,1,[]), (13,3,8,0,[]), (1,4,0,1,[]), (13,3,5,0,[]), (24,58,3,0,[4]), (4,0,0,0,[]), (1,0,0,1,[]), (1,4,0,1,[]), (13,3,9,0,[]), (0,0,0,1,[]), (24,58,3,0,[4]), (4,0,0,0,[]), (2,5,0,0,[]), (1,0,0,1,[]), (1,2,0,0,[]), (1,5,0,0,[]), (24,63,3,0,[4]), (9,0,55,0,[]), (1,0,0,1,[]), (1,4,0,1,[]), (13,3,8,0,[]), (1,4,0,1,[]), (13,3,5,0,[]), (24,59,3,0,[4]), (1,0,0,1,[]), (1,4,0,1,[]), (13,3,9,0,[]), (0,0,0,1,[]), (24,59,3,0,[4]), (1,0,0,1,[]), (1,1,0,0,[]), (0,0,0,1,[]), (4,0,0,0,[]), (1,2,0,0,[]), (1,5,0,0,[]), (24,56,4,0,[4]), (1,0,0,1,[]), (1,4,0,1,[]), (13,3,8,0,[]), (1,4,0,1,[]), (13,3,5,0,[]), (5,0,0,0,[]), (24,59,3,0,[4]), (1,0,0,1,[]), (1,4,0,1,[]), (13,3,9,0,[]), (0,0,0,(-1),[]), (24,59,3,0,[4]), (28,0,0,0,[])]
def mp_57 : List (Nat × List Nat) := [(0,[]), (1,[147,0]), (4,[]), (5,[]), (6,[]), (8,[]), (9,[]), (10,[]), (12,[115,1]), (15,[]), (17,[111,1]), (20,[589,0]), (23,[]), (24,[]), (25,[]), (27,[117,1]), (30,[]), (31,[589,0]), (34,[]), (35,[]), (37,[]), (38,[]), (39,[]), (41,[593,0]), (44,[]), (47,[]), (48,[]), (50,[115,1]), (53,[]), (55,[111,1]), (58,[597,0]), (61,[]), (62,[]), (64,[117,1]), (67,[]), (68,[597,0]), (71,[]), (72,[]), (73,[]), (74,[]), (75,[]), (76,[]), (78,[545,0]), (81,[]), (82,[]), (84,[115,1]), (87,[]), (89,[111,1]), (92,[]), (93,[597,0]), (96,[]), (97,[]), (99,[117,1]), (102,[]), (103,[597,0]), (106,[])]
-- 58 LessonSpiral.Search.growth(II)I
def mc_58 : List MI := [(1,1,0,0,[]), (0,0,0,(-1),[]), (10,1,5,0,[]), (0,0,0,0,[]), (11,0,15,0,[]), (1,2,0,0,[]), (0,0,0,2,[]), (1,0,0,1,[]), (13,4,4,0,[]), (1,1,0,0,[]), (15,0,0,0,[]), (4,2,0,0,[]), (1,2,0,0,[]), (4,0,0,0,[]), (4,2,0,0,[]), (27,0,0,0,[])]
def mp_58 : List (Nat × List Nat) := [(0,[]), (1,[]), (2,[]), (5,[]), (6,[]), (9,[]), (10,[]), (11,[]), (12,[149,0]), (15,[]), (16,[]), (17,[]), (18,[]), (19,[]), (20,[]), (21,[])]
-- 59 LessonSpiral.Search.burden(II)V
def mc_59 : List MI := [(1,1,0,0,[]), (0,0,0,(-1),[]), (10,0,11,0,[]), (1,0,0,1,[]), (13,4,4,0,[]), (1,1,0,0,[]), (7,0,0,0,[]), (15,0,0,0,[]), (1,2,0,0,[]), (4,0,0,0,[]), (16,0,0,0,[]), (28,0,0,0,[])]
def mp_59 : List (Nat × List Nat) := [(0,[]), (1,[]), (2,[]), (5,[]), (6,[149,0]), (9,[]), (10,[]), (11,[]), (12,[]), (13,[]), (14,[]), (15,[])]
-- 60 LessonSpiral.Search.fits(III)Z
def mc_60 : List MI := [(1,0,0,1,[]), (13,4,4,0,[]), (1,2,0,0,[]), (15,0,0,0,[]), (1,1,0,0,[]), (4,0,0,0,[]), (1,0,0,1,[]), (13,4,3,0,[]), (1,2,0,0,[]), (15,0,0,0,[]), (10,4,25,0,[]), (1,3,0,0,[]), (0,0,0,(-1),[]), (10,0,23,0,[]), (1,0,0,1,[]), (13,4,4,0,[]), (1,3,0,0,[]), (15,0,0,0,[]), (1,0,0,1,[]), (13,4,3,0,[]), (1,3,0,0,[]), (15,0,0,0,[]), (10,3,25,0,[]), (0,0,0,1,[]), (11,0,26,0,[]), (0,0,0,0,[]), (27,0,0,0,[])]
def mp_60 : List (Nat × List Nat) := [(0,[]), (1,[149,0]), (4,[]), (5,[]), (6,[]), (7,[]), (8,[]), (9,[148,0]), (12,[]), (13,[]), (14,[]), (17,[]), (18,[]), (19,[]), (22,[]), (23,[149,0]), (26,[]), (27,[]), (28,[]), (29,[148,0]), (32,[]), (33,[]), (34,[]), (37,[]), (38,[]), (41,[]), (42,[])]
-- 61 LessonSpiral.Search.earliestFirst(I)I
def mc_61 : List MI := [(1,0,0,1,[]), (13,4,2,0,[]), (1,1,0,0,[]), (17,0,0,0,[]), (2,2,0,1,[]), (0,0,0,0,[]), (2,3,0,0,[]), (0,0,0,0,[]), (2,4,0,0,[]), (1,4,0,0,[]), (1,1,0,0,[]), (10,3,39,0,[]), (1,0,0,1,[]), (13,4,2,0,[]), (1,4,0,0,[]), (17,0,0,0,[]), (2,5,0,1,[]), (1,2,0,1,[]), (1,5,0,1,[]), (24,41,2,0,[3]), (9,0,28,0,[]), (1,3,0,0,[]), (1,5,0,1,[]), (13,3,8,0,[]), (0,0,0,1,[]), (4,0,0,0,[]), (31,0,0,0,[]), (2,3,0,0,[]), (1,2,0,1,[]), (1,5,0,1,[]), (24,42,2,0,[3]), (9,0,37,0,[]), (1,3,0,0,[]), (1,5,0,1,[]), (13,3,8,0,[]), (31,0,0,0,[]), (2,3,0,0,[]), (3,4,0,1,[]), (11,0,9,0,[]), (1,3,0,0,[]), (27,0,0,0,[])]
def mp_61 : List (Nat × List Nat) := [(0,[]), (1,[147,0]), (4,[]), (5,[]), (6,[]), (7,[]), (8,[]), (9,[]), (10,[]), (12,[]), (14,[]), (15,[]), (18,[]), (19,[147,0]), (22,[]), (24,[]), (25,[]), (27,[]), (28,[]), (30,[561,0]), (33,[]), (36,[]), (37,[]), (39,[115,1]), (42,[]), (43,[]), (44,[565]), (47,[]), (48,[]), (49,[]), (51,[568,0]), (54,[]), (57,[]), (58,[]), (60,[115,1]), (63,[565]), (66,[]), (67,[]), (70,[]), (73,[]), (74,[])]
-- 62 LessonSpiral.Search.latestFirst(I)I
def mc_62 : List MI := [(1,0,0,1,[]), (13,4,2,0,[]), (1,1,0,0,[]), (17,0,0,0,[]), (2,2,0,1,[]), (0,0,0,5,[]), (2,3,0,0,[]), (0,0,0,0,[]), (2,4,0,0,[]), (1,4,0,0,[]), (1,1,0,0,[]), (10,3,39,0,[]), (1,0,0,1,[]), (13,4,2,0,[]), (1,4,0,0,[]), (17,0,0,0,[]), (2,5,0,1,[]), (1,5,0,1,[]), (1,2,0,1,[]), (24,41,2,0,[3]), (9,0,28,0,[]), (1,3,0,0,[]), (1,5,0,1,[]), (13,3,8,0,[]), (0,0,0,1,[]), (4,1,0,0,[]), (32,0,0,0,[]), (2,3,0,0,[]), (1,2,0,1,[]), (1,5,0,1,[]), (24,42,2,0,[3]), (9,0,37,0,[]), (1,3,0,0,[]), (1,5,0,1,[]), (13,3,8,0,[]), (32,0,0,0,[]), (2,3,0,0,[]), (3,4,0,1,[]), (11,0,9,0,[]), (1,3,0,0,[]), (27,0,0,0,[])]
def mp_62 : List (Nat × List Nat) := [(0,[]), (1,[147,0]), (4,[]), (5,[]), (6,[]), (7,[]), (8,[]), (9,[]), (10,[]), (12,[]), (14,[]), (15,[]), (18,[]), (19,[147,0]), (22,[]), (24,[]), (25,[]), (27,[]), (29,[]), (30,[561,0]), (33,[]), (36,[]), (37,[]), (39,[115,1]), (42,[]), (43,[]), (44,[576]), (47,[]), (48,[]), (49,[]), (51,[568,0]), (54,[]), (57,[]), (58,[]), (60,[115,1]), (63,[576]), (66,[]), (67,[]), (70,[]), (73,[]), (74,[])]
-- 63 LessonSpiral.Search.canBeBest(II)Z
def mc_63 : List MI := [(1,0,0,1,[]), (13,4,5,0,[]), (0,0,0,2,[]), (10,0,7,0,[]), (1,0,0,1,[]), (13,4,7,0,[]), (9,1,9,0,[]), (0,0,0,1,[]), (27,0,0,0,[]), (1,0,0,1,[]), (13,4,5,0,[]), (0,0,0,1,[]), (10,1,25,0,[]), (1,1,0,0,[]), (1,0,0,1,[]), (13,4,8,0,[]), (10,0,25,0,[]), (1,1,0,0,[]), (1,0,0,1,[]), (13,4,8,0,[]), (10,3,23,0,[]), (0,0,0,1,[]), (11,0,24,0,[]), (0,0,0,0,[]), (27,0,0,0,[]), (1,2,0,0,[]), (1,0,0,1,[]), (13,4,9,0,[]), (10,3,31,0,[]), (0,0,0,1,[]), (11,0,32,0,[]), (0,0,0,0,[]), (27,0,0,0,[])]
def mp_63 : List (Nat × List Nat) := [(0,[]), (1,[150,0]), (4,[]), (5,[]), (8,[]), (9,[152,0]), (12,[]), (15,[]), (16,[]), (17,[]), (18,[150,0]), (21,[]), (22,[]), (25,[]), (26,[]), (27,[153,0]), (30,[]), (33,[]), (34,[]), (35,[153,0]), (38,[]), (41,[]), (42,[]), (45,[]), (46,[]), (47,[]), (48,[]), (49,[154,0]), (52,[]), (55,[]), (56,[]), (59,[]), (60,[])]
-- 64 LessonSpiral.Search.keepPlan(II)V
def mc_64 : List MI := [(1,0,0,1,[]), (6,0,0,0,[]), (13,4,7,0,[]), (0,0,0,1,[]), (4,0,0,0,[]), (14,4,7,0,[]), (1,0,0,1,[]), (13,4,5,0,[]), (0,0,0,2,[]), (10,0,29,0,[]), (1,0,0,1,[]), (1,1,0,0,[]), (14,4,8,0,[]), (1,0,0,1,[]), (1,2,0,0,[]), (14,4,9,0,[]), (0,0,0,0,[]), (2,3,0,0,[]), (1,3,0,0,[]), (1,0,0,1,[]), (13,4,6,0,[]), (10,3,29,0,[]), (1,0,0,1,[]), (13,4,2,0,[]), (1,3,0,0,[]), (17,0,0,0,[]), (24,44,1,0,[3]), (3,3,0,1,[]), (11,0,18,0,[]), (28,0,0,0,[])]
def mp_64 : List (Nat × List Nat) := [(0,[]), (1,[]), (2,[152,0]), (5,[]), (6,[]), (7,[152,0]), (10,[]), (11,[150,0]), (14,[]), (15,[]), (18,[]), (19,[]), (20,[153,0]), (23,[]), (24,[]), (25,[154,0]), (28,[]), (29,[]), (30,[]), (31,[]), (32,[151,0]), (35,[]), (38,[]), (39,[147,0]), (42,[]), (43,[]), (44,[553,0]), (47,[]), (50,[]), (53,[])]
-- 65 LessonSpiral.Sheet.<init>()V
def mc_65 : List MI := [(1,0,0,1,[]), (25,0,0,0,[]), (1,0,0,1,[]), (0,0,0,6,[]), (21,0,0,0,[]), (14,5,0,1,[]), (28,0,0,0,[])]
def mp_65 : List (Nat × List Nat) := [(0,[]), (1,[200]), (4,[]), (5,[]), (7,[]), (9,[201,0]), (12,[])]
-- 66 LessonSpiral.Sheet.renew(II)I
def mc_66 : List MI := [(1,0,0,1,[]), (1,1,0,0,[]), (14,5,1,0,[]), (1,0,0,1,[]), (1,1,0,0,[]), (9,1,8,0,[]), (0,0,0,0,[]), (11,0,9,0,[]), (1,2,0,0,[]), (14,5,2,0,[]), (0,0,0,0,[]), (2,3,0,0,[]), (1,3,0,0,[]), (0,0,0,6,[]), (10,3,22,0,[]), (1,0,0,1,[]), (13,5,0,0,[]), (1,3,0,0,[]), (0,0,0,0,[]), (16,0,0,0,[]), (3,3,0,1,[]), (11,0,12,0,[]), (1,0,0,1,[]), (13,5,2,0,[]), (27,0,0,0,[])]
def mp_66 : List (Nat × List Nat) := [(0,[]), (1,[]), (2,[202,0]), (5,[]), (6,[]), (7,[]), (10,[]), (11,[]), (14,[]), (15,[203,0]), (18,[]), (19,[]), (20,[]), (21,[]), (23,[]), (26,[]), (27,[201,0]), (30,[]), (31,[]), (32,[]), (33,[]), (36,[]), (39,[]), (40,[203,0]), (43,[])]
-- 67 LessonSpiral.Sheet.isMissing()Z
def mc_67 : List MI := [(1,0,0,1,[]), (13,5,1,0,[]), (9,1,5,0,[]), (0,0,0,1,[]), (11,0,6,0,[]), (0,0,0,0,[]), (27,0,0,0,[])]
def mp_67 : List (Nat × List Nat) := [(0,[]), (1,[202,0]), (4,[]), (7,[]), (8,[]), (11,[]), (12,[])]
-- 68 LessonSpiral.Sheet.isAsWideAs(LLessonSpiral.Sheet;)Z
def mc_68 : List MI := [(1,0,0,1,[]), (13,5,1,0,[]), (1,1,0,1,[]), (13,5,1,0,[]), (10,1,7,0,[]), (0,0,0,1,[]), (11,0,8,0,[]), (0,0,0,0,[]), (27,0,0,0,[])]
def mp_68 : List (Nat × List Nat) := [(0,[]), (1,[202,0]), (4,[]), (5,[202,0]), (8,[]), (11,[]), (12,[]), (15,[]), (16,[])]
-- 69 LessonSpiral.Sheet.size()I
def mc_69 : List MI := [(1,0,0,1,[]), (13,5,2,0,[]), (27,0,0,0,[])]
def mp_69 : List (Nat × List Nat) := [(0,[]), (1,[203,0]), (4,[])]
-- 70 LessonSpiral.Sheet.holds(II)Z
def mc_70 : List MI := [(1,1,0,0,[]), (9,2,12,0,[]), (1,2,0,0,[]), (9,2,12,0,[]), (1,1,0,0,[]), (1,0,0,1,[]), (13,5,2,0,[]), (1,2,0,0,[]), (4,1,0,0,[]), (10,4,12,0,[]), (0,0,0,1,[]), (11,0,13,0,[]), (0,0,0,0,[]), (27,0,0,0,[])]
def mp_70 : List (Nat × List Nat) := [(0,[]), (1,[]), (4,[]), (5,[]), (8,[]), (9,[]), (10,[203,0]), (13,[]), (14,[]), (15,[]), (18,[]), (19,[]), (22,[]), (23,[])]
-- 71 LessonSpiral.Sheet.number(I)I
def mc_71 : List MI := [(1,0,0,1,[]), (13,5,0,0,[]), (1,1,0,0,[]), (15,0,0,0,[]), (27,0,0,0,[])]
def mp_71 : List (Nat × List Nat) := [(0,[]), (1,[201,0]), (4,[]), (5,[]), (6,[])]
-- 72 LessonSpiral.Sheet.setNumber(II)V
def mc_72 : List MI := [(1,0,0,1,[]), (13,5,1,0,[]), (0,0,0,8,[]), (10,1,11,0,[]), (1,0,0,1,[]), (13,5,0,0,[]), (1,1,0,0,[]), (1,2,0,0,[]), (5,1,0,0,[]), (16,0,0,0,[]), (11,0,27,0,[]), (1,0,0,1,[]), (13,5,1,0,[]), (0,0,0,16,[]), (10,1,22,0,[]), (1,0,0,1,[]), (13,5,0,0,[]), (1,1,0,0,[]), (1,2,0,0,[]), (5,2,0,0,[]), (16,0,0,0,[]), (11,0,27,0,[]), (1,0,0,1,[]), (13,5,0,0,[]), (1,1,0,0,[]), (1,2,0,0,[]), (16,0,0,0,[]), (28,0,0,0,[])]
def mp_72 : List (Nat × List Nat) := [(0,[]), (1,[202,0]), (4,[]), (6,[]), (9,[]), (10,[201,0]), (13,[]), (14,[]), (15,[]), (16,[]), (17,[]), (20,[]), (21,[202,0]), (24,[]), (26,[]), (29,[]), (30,[201,0]), (33,[]), (34,[]), (35,[]), (36,[]), (37,[]), (40,[]), (41,[201,0]), (44,[]), (45,[]), (46,[]), (47,[])]
-- 73 LessonSpiral.Sheet.takeFrom(LLessonSpiral.Sheet;III)V
def mc_73 : List MI := [(1,1,0,1,[]), (13,5,0,0,[]), (1,2,0,0,[]), (1,0,0,1,[]), (13,5,0,0,[]), (1,3,0,0,[]), (1,4,0,0,[]), (26,0,0,0,[]), (28,0,0,0,[])]
def mp_73 : List (Nat × List Nat) := [(0,[]), (1,[201,0]), (4,[]), (5,[]), (6,[201,0]), (9,[]), (10,[]), (12,[411]), (15,[])]
-- 74 LessonSpiral.<init>()V
def mc_74 : List MI := [(1,0,0,1,[]), (25,0,0,0,[]), (1,0,0,1,[]), (20,0,0,0,[]), (6,0,0,0,[]), (30,4,1,0,[0]), (14,6,0,1,[]), (1,0,0,1,[]), (20,2,0,0,[]), (6,0,0,0,[]), (1,0,0,1,[]), (13,6,0,0,[]), (30,28,2,0,[2]), (14,6,1,1,[]), (1,0,0,1,[]), (20,4,0,0,[]), (6,0,0,0,[]), (1,0,0,1,[]), (13,6,0,0,[]), (1,0,0,1,[]), (13,6,1,0,[]), (30,46,3,0,[4]), (14,6,2,1,[]), (1,0,0,1,[]), (20,1,0,0,[]), (6,0,0,0,[]), (30,24,1,0,[1]), (14,6,3,1,[]), (1,0,0,1,[]), (0,0,0,4,[]), (22,1,0,0,[]), (14,6,4,1,[]), (0,0,0,0,[]), (2,1,0,0,[]), (1,1,0,0,[]), (0,0,0,4,[]), (10,3,46,0,[]), (1,0,0,1,[]), (13,6,4,0,[]), (1,1,0,0,[]), (20,5,0,0,[]), (6,0,0,0,[]), (30,65,1,0,[5]), (18,0,0,0,[]), (3,1,0,1,[]), (11,0,34,0,[]), (28,0,0,0,[])]
def mp_74 : List (Nat × List Nat) := [(0,[]), (1,[64]), (4,[]), (5,[67,68,49]), (8,[]), (9,[69,0]), (12,[211,0]), (15,[]), (16,[78,79,50]), (19,[]), (20,[]), (21,[211,0]), (24,[80,0]), (27,[212,0]), (30,[]), (31,[88,89,51]), (34,[]), (35,[]), (36,[211,0]), (39,[]), (40,[212,0]), (43,[90,0]), (46,[213,0]), (49,[]), (50,[176,177,53]), (53,[]), (54,[178,0]), (57,[214,0]), (60,[]), (61,[]), (62,[194]), (65,[215,0]), (68,[]), (69,[]), (70,[]), (71,[]), (72,[]), (75,[]), (76,[215,0]), (79,[]), (80,[194,196,54]), (83,[]), (84,[197,0]), (87,[]), (88,[]), (91,[]), (94,[])]
-- 75 LessonSpiral.topic(II)I
def mc_75 : List MI := [(1,1,0,0,[]), (29,107,1,0,[]), (9,1,9,0,[]), (1,2,0,0,[]), (0,0,0,1,[]), (10,2,9,0,[]), (1,2,0,0,[]), (0,0,0,9,[]), (10,5,13,0,[]), (1,0,0,1,[]), (0,0,0,(-100001),[]), (24,105,2,0,[6]), (27,0,0,0,[]), (1,0,0,1,[]), (13,6,0,0,[]), (24,7,1,0,[0]), (0,0,0,8,[]), (10,2,22,0,[]), (1,0,0,1,[]), (0,0,0,(-100005),[]), (24,105,2,0,[6]), (27,0,0,0,[]), (1,0,0,1,[]), (13,6,3,0,[]), (1,0,0,1,[]), (13,6,0,0,[]), (24,26,2,0,[1]), (1,0,0,1,[]), (13,6,0,0,[]), (1,1,0,0,[]), (1,2,0,0,[]), (24,10,3,0,[0]), (27,0,0,0,[])]
def mp_75 : List (Nat × List Nat) := [(0,[]), (1,[234,0]), (4,[]), (7,[]), (8,[]), (9,[]), (12,[]), (13,[]), (15,[]), (18,[]), (19,[237]), (21,[238,0]), (24,[]), (25,[]), (26,[211,0]), (29,[242,0]), (32,[]), (34,[]), (37,[]), (38,[246]), (40,[238,0]), (43,[]), (44,[]), (45,[214,0]), (48,[]), (49,[211,0]), (52,[247,0]), (55,[]), (56,[211,0]), (59,[]), (60,[]), (61,[261,0]), (64,[])]
-- 76 LessonSpiral.as(II)I
def mc_76 : List MI := [(1,0,0,1,[]), (1,1,0,0,[]), (24,106,2,0,[6]), (9,1,7,0,[]), (1,2,0,0,[]), (29,107,1,0,[]), (9,0,11,0,[]), (1,0,0,1,[]), (0,0,0,(-100001),[]), (24,105,2,0,[6]), (27,0,0,0,[]), (1,0,0,1,[]), (13,6,0,0,[]), (1,1,0,0,[]), (1,2,0,0,[]), (24,11,3,0,[0]), (9,0,19,0,[]), (1,1,0,0,[]), (11,0,22,0,[]), (1,0,0,1,[]), (0,0,0,(-100004),[]), (24,105,2,0,[6]), (27,0,0,0,[])]
def mp_76 : List (Nat × List Nat) := [(0,[]), (1,[]), (2,[273,0]), (5,[]), (8,[]), (9,[234,0]), (12,[]), (15,[]), (16,[237]), (18,[238,0]), (21,[]), (22,[]), (23,[211,0]), (26,[]), (27,[]), (28,[277,0]), (31,[]), (34,[]), (35,[]), (38,[]), (39,[285]), (41,[238,0]), (44,[])]
-- 77 LessonSpiral.need(IIZ)I
def mc_77 : List MI := [(1,0,0,1,[]), (1,1,0,0,[]), (24,106,2,0,[6]), (9,1,8,0,[]), (1,0,0,1,[]), (1,2,0,0,[]), (24,106,2,0,[6]), (9,0,12,0,[]), (1,0,0,1,[]), (0,0,0,(-100001),[]), (24,105,2,0,[6]), (27,0,0,0,[]), (1,3,0,0,[]), (9,0,30,0,[]), (1,1,0,0,[]), (1,2,0,0,[]), (10,0,26,0,[]), (1,0,0,1,[]), (13,6,0,0,[]), (0,0,0,1,[]), (1,2,0,0,[]), (4,6,0,0,[]), (24,15,2,0,[0]), (1,1,0,0,[]), (29,110,2,0,[]), (9,0,30,0,[]), (1,0,0,1,[]), (0,0,0,(-100007),[]), (24,105,2,0,[6]), (27,0,0,0,[]), (1,0,0,1,[]), (13,6,3,0,[]), (1,0,0,1,[]), (13,6,0,0,[]), (24,26,2,0,[1]), (1,0,0,1,[]), (13,6,0,0,[]), (0,0,0,2,[]), (1,1,0,0,[]), (24,8,3,0,[0]), (2,4,0,0,[]), (1,4,0,0,[]), (1,2,0,0,[]), (1,3,0,0,[]), (29,111,3,0,[]), (2,5,0,0,[]), (1,0,0,1,[]), (13,6,0,0,[]), (0,0,0,2,[]), (1,1,0,0,[]), (1,5,0,0,[]), (24,9,4,0,[0]), (1,4,0,0,[]), (1,5,0,0,[]), (10,1,57,0,[]), (0,0,0,0,[]), (11,0,58,0,[]), (0,0,0,1,[]), (27,0,0,0,[])]
def mp_77 : List (Nat × List Nat) := [(0,[]), (1,[]), (2,[273,0]), (5,[]), (8,[]), (9,[]), (10,[273,0]), (13,[]), (16,[]), (17,[237]), (19,[238,0]), (22,[]), (23,[]), (24,[]), (27,[]), (28,[]), (29,[]), (32,[]), (33,[211,0]), (36,[]), (37,[]), (38,[]), (39,[290,0]), (42,[]), (43,[298,0]), (46,[]), (49,[]), (50,[299]), (52,[238,0]), (55,[]), (56,[]), (57,[214,0]), (60,[]), (61,[211,0]), (64,[247,0]), (67,[]), (68,[211,0]), (71,[]), (72,[]), (73,[300,0]), (76,[]), (78,[]), (80,[]), (81,[]), (82,[301,0]), (85,[]), (87,[]), (88,[211,0]), (91,[]), (92,[]), (93,[]), (95,[304,0]), (98,[]), (100,[]), (102,[]), (105,[]), (106,[]), (109,[]), (110,[])]
-- 78 LessonSpiral.comes(II)I
def mc_78 : List MI := [(1,0,0,1,[]), (1,1,0,0,[]), (24,106,2,0,[6]), (9,1,9,0,[]), (1,2,0,0,[]), (9,2,9,0,[]), (1,2,0,0,[]), (0,0,0,9,[]), (10,5,13,0,[]), (1,0,0,1,[]), (0,0,0,(-100001),[]), (24,105,2,0,[6]), (27,0,0,0,[]), (1,0,0,1,[]), (13,6,0,0,[]), (1,1,0,0,[]), (24,12,2,0,[0]), (9,0,22,0,[]), (1,0,0,1,[]), (0,0,0,(-100004),[]), (24,105,2,0,[6]), (27,0,0,0,[]), (1,0,0,1,[]), (0,0,0,3,[]), (1,1,0,0,[]), (1,2,0,0,[]), (24,112,4,0,[6]), (27,0,0,0,[])]
def mp_78 : List (Nat × List Nat) := [(0,[]), (1,[]), (2,[273,0]), (5,[]), (8,[]), (9,[]), (12,[]), (13,[]), (15,[]), (18,[]), (19,[237]), (21,[238,0]), (24,[]), (25,[]), (26,[211,0]), (29,[]), (30,[309,0]), (33,[]), (36,[]), (37,[285]), (39,[238,0]), (42,[]), (43,[]), (44,[]), (45,[]), (46,[]), (47,[313,0]), (50,[])]
-- 79 LessonSpiral.standards(II)I
def mc_79 : List MI := [(1,0,0,1,[]), (1,1,0,0,[]), (24,106,2,0,[6]), (9,1,9,0,[]), (1,2,0,0,[]), (9,2,9,0,[]), (1,2,0,0,[]), (0,0,0,65535,[]), (10,5,13,0,[]), (1,0,0,1,[]), (0,0,0,(-100001),[]), (24,105,2,0,[6]), (27,0,0,0,[]), (1,0,0,1,[]), (0,0,0,4,[]), (1,1,0,0,[]), (1,2,0,0,[]), (24,112,4,0,[6]), (27,0,0,0,[])]
def mp_79 : List (Nat × List Nat) := [(0,[]), (1,[]), (2,[273,0]), (5,[]), (8,[]), (9,[]), (12,[]), (13,[321]), (15,[]), (18,[]), (19,[237]), (21,[238,0]), (24,[]), (25,[]), (26,[]), (27,[]), (28,[]), (29,[313,0]), (32,[])]
-- 80 LessonSpiral.partner(II)I
def mc_80 : List MI := [(1,0,0,1,[]), (1,1,0,0,[]), (24,106,2,0,[6]), (9,1,11,0,[]), (1,2,0,0,[]), (0,0,0,(-1),[]), (10,0,15,0,[]), (1,0,0,1,[]), (1,2,0,0,[]), (24,106,2,0,[6]), (9,0,15,0,[]), (1,0,0,1,[]), (0,0,0,(-100001),[]), (24,105,2,0,[6]), (27,0,0,0,[]), (1,0,0,1,[]), (13,6,0,0,[]), (1,1,0,0,[]), (0,0,0,3,[]), (24,11,3,0,[0]), (9,1,25,0,[]), (1,0,0,1,[]), (0,0,0,(-100004),[]), (24,105,2,0,[6]), (27,0,0,0,[]), (1,1,0,0,[]), (1,2,0,0,[]), (10,1,32,0,[]), (1,0,0,1,[]), (0,0,0,(-100003),[]), (24,105,2,0,[6]), (27,0,0,0,[]), (1,0,0,1,[]), (0,0,0,8,[]), (1,1,0,0,[]), (1,2,0,0,[]), (24,112,4,0,[6]), (27,0,0,0,[])]
def mp_80 : List (Nat × List Nat) := [(0,[]), (1,[]), (2,[273,0]), (5,[]), (8,[]), (9,[]), (10,[]), (13,[]), (14,[]), (15,[273,0]), (18,[]), (21,[]), (22,[237]), (24,[238,0]), (27,[]), (28,[]), (29,[211,0]), (32,[]), (33,[]), (34,[277,0]), (37,[]), (40,[]), (41,[285]), (43,[238,0]), (46,[]), (47,[]), (48,[]), (49,[]), (52,[]), (53,[326]), (55,[238,0]), (58,[]), (59,[]), (60,[]), (62,[]), (63,[]), (64,[313,0]), (67,[])]
-- 81 LessonSpiral.of(II)I
def mc_81 : List MI := [(1,0,0,1,[]), (1,1,0,0,[]), (24,106,2,0,[6]), (9,1,9,0,[]), (1,2,0,0,[]), (9,2,9,0,[]), (1,2,0,0,[]), (0,0,0,7,[]), (10,5,13,0,[]), (1,0,0,1,[]), (0,0,0,(-100001),[]), (24,105,2,0,[6]), (27,0,0,0,[]), (1,0,0,1,[]), (13,6,0,0,[]), (1,2,0,0,[]), (1,1,0,0,[]), (24,8,3,0,[0]), (27,0,0,0,[])]
def mp_81 : List (Nat × List Nat) := [(0,[]), (1,[]), (2,[273,0]), (5,[]), (8,[]), (9,[]), (12,[]), (13,[]), (15,[]), (18,[]), (19,[237]), (21,[238,0]), (24,[]), (25,[]), (26,[211,0]), (29,[]), (30,[]), (31,[300,0]), (34,[])]
-- 82 LessonSpiral.room(II)I
def mc_82 : List MI := [(1,1,0,0,[]), (29,108,1,0,[]), (9,1,8,0,[]), (1,2,0,0,[]), (9,2,8,0,[]), (1,2,0,0,[]), (0,0,0,40,[]), (10,5,12,0,[]), (1,0,0,1,[]), (0,0,0,(-100001),[]), (24,105,2,0,[6]), (27,0,0,0,[]), (1,0,0,1,[]), (13,6,3,0,[]), (1,0,0,1,[]), (13,6,0,0,[]), (24,26,2,0,[1]), (1,0,0,1,[]), (13,6,0,0,[]), (1,1,0,0,[]), (24,16,2,0,[0]), (2,3,0,0,[]), (1,0,0,1,[]), (13,6,0,0,[]), (1,1,0,0,[]), (1,2,0,0,[]), (24,17,3,0,[0]), (1,3,0,0,[]), (27,0,0,0,[])]
def mp_82 : List (Nat × List Nat) := [(0,[]), (1,[335,0]), (4,[]), (7,[]), (8,[]), (11,[]), (12,[]), (14,[]), (17,[]), (18,[237]), (20,[238,0]), (23,[]), (24,[]), (25,[214,0]), (28,[]), (29,[211,0]), (32,[247,0]), (35,[]), (36,[211,0]), (39,[]), (40,[338,0]), (43,[]), (44,[]), (45,[211,0]), (48,[]), (49,[]), (50,[342,0]), (53,[]), (54,[])]
-- 83 LessonSpiral.snow(IZ)I
def mc_83 : List MI := [(1,1,0,0,[]), (29,108,1,0,[]), (9,0,7,0,[]), (1,0,0,1,[]), (0,0,0,(-100001),[]), (24,105,2,0,[6]), (27,0,0,0,[]), (1,0,0,1,[]), (13,6,3,0,[]), (1,0,0,1,[]), (13,6,0,0,[]), (24,26,2,0,[1]), (1,0,0,1,[]), (13,6,0,0,[]), (1,1,0,0,[]), (24,18,2,0,[0]), (1,2,0,0,[]), (10,0,20,0,[]), (0,0,0,1,[]), (11,0,21,0,[]), (0,0,0,0,[]), (2,3,0,0,[]), (1,0,0,1,[]), (13,6,0,0,[]), (1,1,0,0,[]), (1,2,0,0,[]), (24,19,3,0,[0]), (1,3,0,0,[]), (9,0,31,0,[]), (0,0,0,1,[]), (11,0,32,0,[]), (0,0,0,0,[]), (27,0,0,0,[])]
def mp_83 : List (Nat × List Nat) := [(0,[]), (1,[335,0]), (4,[]), (7,[]), (8,[237]), (10,[238,0]), (13,[]), (14,[]), (15,[214,0]), (18,[]), (19,[211,0]), (22,[247,0]), (25,[]), (26,[211,0]), (29,[]), (30,[350,0]), (33,[]), (34,[]), (37,[]), (38,[]), (41,[]), (42,[]), (43,[]), (44,[211,0]), (47,[]), (48,[]), (49,[354,0]), (52,[]), (53,[]), (56,[]), (57,[]), (60,[]), (61,[])]
-- 84 LessonSpiral.test(I)I
def mc_84 : List MI := [(1,1,0,0,[]), (9,2,5,0,[]), (1,1,0,0,[]), (0,0,0,6,[]), (10,5,9,0,[]), (1,0,0,1,[]), (0,0,0,(-100001),[]), (24,105,2,0,[6]), (27,0,0,0,[]), (1,0,0,1,[]), (13,6,3,0,[]), (1,0,0,1,[]), (13,6,0,0,[]), (24,26,2,0,[1]), (1,0,0,1,[]), (13,6,0,0,[]), (24,22,1,0,[0]), (2,2,0,0,[]), (1,0,0,1,[]), (13,6,0,0,[]), (1,1,0,0,[]), (24,23,2,0,[0]), (1,2,0,0,[]), (27,0,0,0,[])]
def mp_84 : List (Nat × List Nat) := [(0,[]), (1,[]), (4,[]), (5,[]), (7,[]), (10,[]), (11,[237]), (13,[238,0]), (16,[]), (17,[]), (18,[214,0]), (21,[]), (22,[211,0]), (25,[247,0]), (28,[]), (29,[211,0]), (32,[363,0]), (35,[]), (36,[]), (37,[211,0]), (40,[]), (41,[367,0]), (44,[]), (45,[])]
-- 85 LessonSpiral.sheet(III)I
def mc_85 : List MI := [(1,1,0,0,[]), (29,109,1,0,[]), (9,1,14,0,[]), (1,2,0,0,[]), (9,0,18,0,[]), (1,2,0,0,[]), (0,0,0,8,[]), (10,0,18,0,[]), (1,2,0,0,[]), (0,0,0,16,[]), (10,0,18,0,[]), (1,2,0,0,[]), (0,0,0,32,[]), (10,0,18,0,[]), (1,0,0,1,[]), (0,0,0,(-100001),[]), (24,105,2,0,[6]), (27,0,0,0,[]), (1,3,0,0,[]), (9,3,24,0,[]), (1,0,0,1,[]), (0,0,0,(-100003),[]), (24,105,2,0,[6]), (27,0,0,0,[]), (1,3,0,0,[]), (0,0,0,6,[]), (10,5,31,0,[]), (1,0,0,1,[]), (0,0,0,(-100001),[]), (24,105,2,0,[6]), (27,0,0,0,[]), (1,0,0,1,[]), (13,6,4,0,[]), (1,1,0,0,[]), (17,0,0,0,[]), (1,2,0,0,[]), (1,3,0,0,[]), (24,66,3,0,[5]), (27,0,0,0,[])]
def mp_85 : List (Nat × List Nat) := [(0,[]), (1,[375,0]), (4,[]), (7,[]), (8,[]), (11,[]), (12,[]), (14,[]), (17,[]), (18,[]), (20,[]), (23,[]), (24,[]), (26,[]), (29,[]), (30,[237]), (32,[238,0]), (35,[]), (36,[]), (37,[]), (40,[]), (41,[326]), (43,[238,0]), (46,[]), (47,[]), (48,[]), (50,[]), (53,[]), (54,[237]), (56,[238,0]), (59,[]), (60,[]), (61,[215,0]), (64,[]), (65,[]), (66,[]), (67,[]), (68,[378,0]), (71,[])]
-- 86 LessonSpiral.write(III)I
def mc_86 : List MI := [(1,1,0,0,[]), (29,109,1,0,[]), (9,0,7,0,[]), (1,0,0,1,[]), (0,0,0,(-100001),[]), (24,105,2,0,[6]), (27,0,0,0,[]), (1,0,0,1,[]), (13,6,4,0,[]), (1,1,0,0,[]), (17,0,0,0,[]), (2,4,0,1,[]), (1,4,0,1,[]), (24,67,1,0,[5]), (9,0,19,0,[]), (1,0,0,1,[]), (0,0,0,(-100002),[]), (24,105,2,0,[6]), (27,0,0,0,[]), (1,4,0,1,[]), (1,2,0,0,[]), (0,0,0,1,[]), (24,70,3,0,[5]), (9,1,28,0,[]), (1,0,0,1,[]), (0,0,0,(-100001),[]), (24,105,2,0,[6]), (27,0,0,0,[]), (1,4,0,1,[]), (1,2,0,0,[]), (1,3,0,0,[]), (24,72,3,0,[5]), (0,0,0,0,[]), (27,0,0,0,[])]
def mp_86 : List (Nat × List Nat) := [(0,[]), (1,[375,0]), (4,[]), (7,[]), (8,[237]), (10,[238,0]), (13,[]), (14,[]), (15,[215,0]), (18,[]), (19,[]), (20,[]), (22,[]), (24,[386,0]), (27,[]), (30,[]), (31,[390]), (33,[238,0]), (36,[]), (37,[]), (39,[]), (40,[]), (41,[391,0]), (44,[]), (47,[]), (48,[237]), (50,[238,0]), (53,[]), (54,[]), (56,[]), (57,[]), (58,[395,0]), (61,[]), (62,[])]
-- 87 LessonSpiral.copy(IIIII)I
def mc_87 : List MI := [(1,1,0,0,[]), (29,109,1,0,[]), (9,1,6,0,[]), (1,3,0,0,[]), (29,109,1,0,[]), (9,0,10,0,[]), (1,0,0,1,[]), (0,0,0,(-100001),[]), (24,105,2,0,[6]), (27,0,0,0,[]), (1,0,0,1,[]), (13,6,4,0,[]), (1,1,0,0,[]), (17,0,0,0,[]), (2,6,0,1,[]), (1,0,0,1,[]), (13,6,4,0,[]), (1,3,0,0,[]), (17,0,0,0,[]), (2,7,0,1,[]), (1,6,0,1,[]), (24,67,1,0,[5]), (9,1,26,0,[]), (1,7,0,1,[]), (24,67,1,0,[5]), (9,0,30,0,[]), (1,0,0,1,[]), (0,0,0,(-100002),[]), (24,105,2,0,[6]), (27,0,0,0,[]), (1,6,0,1,[]), (1,7,0,1,[]), (24,68,2,0,[5]), (9,1,38,0,[]), (1,0,0,1,[]), (0,0,0,(-100004),[]), (24,105,2,0,[6]), (27,0,0,0,[]), (1,6,0,1,[]), (1,2,0,0,[]), (1,5,0,0,[]), (24,70,3,0,[5]), (9,0,48,0,[]), (1,7,0,1,[]), (1,4,0,0,[]), (1,5,0,0,[]), (24,70,3,0,[5]), (9,1,52,0,[]), (1,0,0,1,[]), (0,0,0,(-100001),[]), (24,105,2,0,[6]), (27,0,0,0,[]), (1,7,0,1,[]), (1,6,0,1,[]), (1,2,0,0,[]), (1,4,0,0,[]), (1,5,0,0,[]), (24,73,5,0,[5]), (1,5,0,0,[]), (27,0,0,0,[])]
def mp_87 : List (Nat × List Nat) := [(0,[]), (1,[375,0]), (4,[]), (7,[]), (8,[375,0]), (11,[]), (14,[]), (15,[237]), (17,[238,0]), (20,[]), (21,[]), (22,[215,0]), (25,[]), (26,[]), (27,[]), (29,[]), (30,[215,0]), (33,[]), (34,[]), (35,[]), (37,[]), (39,[386,0]), (42,[]), (45,[]), (47,[386,0]), (50,[]), (53,[]), (54,[390]), (56,[238,0]), (59,[]), (60,[]), (62,[]), (64,[403,0]), (67,[]), (70,[]), (71,[285]), (73,[238,0]), (76,[]), (77,[]), (79,[]), (80,[]), (82,[391,0]), (85,[]), (88,[]), (90,[]), (92,[]), (94,[391,0]), (97,[]), (100,[]), (101,[237]), (103,[238,0]), (106,[]), (107,[]), (109,[]), (111,[]), (112,[]), (114,[]), (116,[407,0]), (119,[]), (121,[])]
-- 88 LessonSpiral.read(I)I
def mc_88 : List MI := [(1,1,0,0,[]), (29,109,1,0,[]), (9,0,7,0,[]), (1,0,0,1,[]), (0,0,0,(-100001),[]), (24,105,2,0,[6]), (27,0,0,0,[]), (1,0,0,1,[]), (13,6,4,0,[]), (1,1,0,0,[]), (17,0,0,0,[]), (2,2,0,1,[]), (1,2,0,1,[]), (24,67,1,0,[5]), (9,0,19,0,[]), (1,0,0,1,[]), (0,0,0,(-100002),[]), (24,105,2,0,[6]), (27,0,0,0,[]), (1,2,0,1,[]), (24,69,1,0,[5]), (0,0,0,6,[]), (32,0,0,0,[]), (2,3,0,0,[]), (0,0,0,0,[]), (2,4,0,0,[]), (1,4,0,0,[]), (1,3,0,0,[]), (10,3,40,0,[]), (1,2,0,1,[]), (1,4,0,0,[]), (24,71,2,0,[5]), (0,0,0,40,[]), (10,5,38,0,[]), (1,0,0,1,[]), (0,0,0,(-100001),[]), (24,105,2,0,[6]), (27,0,0,0,[]), (3,4,0,1,[]), (11,0,26,0,[]), (1,0,0,1,[]), (13,6,3,0,[]), (1,0,0,1,[]), (13,6,0,0,[]), (24,26,2,0,[1]), (0,0,0,0,[]), (2,4,0,0,[]), (1,4,0,0,[]), (1,3,0,0,[]), (10,3,72,0,[]), (1,2,0,1,[]), (1,4,0,0,[]), (24,71,2,0,[5]), (2,5,0,0,[]), (1,0,0,1,[]), (13,6,0,0,[]), (1,4,0,0,[]), (1,5,0,0,[]), (9,3,61,0,[]), (0,0,0,1,[]), (11,0,62,0,[]), (0,0,0,0,[]), (24,19,3,0,[0]), (1,5,0,0,[]), (9,2,70,0,[]), (1,0,0,1,[]), (13,6,0,0,[]), (1,4,0,0,[]), (1,5,0,0,[]), (24,17,3,0,[0]), (3,4,0,1,[]), (11,0,47,0,[]), (1,3,0,0,[]), (27,0,0,0,[])]
def mp_88 : List (Nat × List Nat) := [(0,[]), (1,[375,0]), (4,[]), (7,[]), (8,[237]), (10,[238,0]), (13,[]), (14,[]), (15,[215,0]), (18,[]), (19,[]), (20,[]), (21,[]), (22,[386,0]), (25,[]), (28,[]), (29,[390]), (31,[238,0]), (34,[]), (35,[]), (36,[416,0]), (39,[]), (41,[420]), (44,[]), (45,[]), (46,[]), (48,[]), (50,[]), (51,[]), (54,[]), (55,[]), (57,[421,0]), (60,[]), (62,[]), (65,[]), (66,[237]), (68,[238,0]), (71,[]), (72,[]), (75,[]), (78,[]), (79,[214,0]), (82,[]), (83,[211,0]), (86,[247,0]), (89,[]), (90,[]), (92,[]), (94,[]), (95,[]), (98,[]), (99,[]), (101,[421,0]), (104,[]), (106,[]), (107,[211,0]), (110,[]), (112,[]), (114,[]), (117,[]), (118,[]), (121,[]), (122,[354,0]), (125,[]), (127,[]), (130,[]), (131,[211,0]), (134,[]), (136,[]), (138,[342,0]), (141,[]), (144,[]), (147,[]), (148,[])]
-- 89 LessonSpiral.put(II)I
def mc_89 : List MI := [(1,0,0,1,[]), (0,0,0,5,[]), (1,1,0,0,[]), (1,2,0,0,[]), (24,113,4,0,[6]), (27,0,0,0,[])]
def mp_89 : List (Nat × List Nat) := [(0,[]), (1,[]), (2,[]), (3,[]), (4,[429,0]), (7,[])]
-- 90 LessonSpiral.again(II)I
def mc_90 : List MI := [(1,0,0,1,[]), (0,0,0,6,[]), (1,1,0,0,[]), (1,2,0,0,[]), (24,113,4,0,[6]), (27,0,0,0,[])]
def mp_90 : List (Nat × List Nat) := [(0,[]), (1,[]), (3,[]), (4,[]), (5,[429,0]), (8,[])]
-- 91 LessonSpiral.fault()I
def mc_91 : List MI := [(1,0,0,1,[]), (13,6,1,0,[]), (24,29,1,0,[2]), (27,0,0,0,[])]
def mp_91 : List (Nat × List Nat) := [(0,[]), (1,[212,0]), (4,[441,0]), (7,[])]
-- 92 LessonSpiral.load(I)I
def mc_92 : List MI := [(1,1,0,0,[]), (29,108,1,0,[]), (9,0,7,0,[]), (1,0,0,1,[]), (0,0,0,(-100001),[]), (24,105,2,0,[6]), (11,0,11,0,[]), (1,0,0,1,[]), (13,6,1,0,[]), (1,1,0,0,[]), (24,30,2,0,[2]), (27,0,0,0,[])]
def mp_92 : List (Nat × List Nat) := [(0,[]), (1,[335,0]), (4,[]), (7,[]), (8,[237]), (10,[238,0]), (13,[]), (16,[]), (17,[212,0]), (20,[]), (21,[494,0]), (24,[])]
-- 93 LessonSpiral.evenness()I
def mc_93 : List MI := [(0,0,0,0,[]), (2,1,0,0,[]), (0,0,0,0,[]), (2,2,0,0,[]), (1,2,0,0,[]), (0,0,0,6,[]), (10,3,20,0,[]), (1,0,0,1,[]), (13,6,1,0,[]), (1,2,0,0,[]), (24,30,2,0,[2]), (2,3,0,0,[]), (1,1,0,0,[]), (1,3,0,0,[]), (1,3,0,0,[]), (4,2,0,0,[]), (4,0,0,0,[]), (2,1,0,0,[]), (3,2,0,1,[]), (11,0,4,0,[]), (1,1,0,0,[]), (27,0,0,0,[])]
def mp_93 : List (Nat × List Nat) := [(0,[]), (1,[]), (2,[]), (3,[]), (4,[]), (5,[]), (7,[]), (10,[]), (11,[212,0]), (14,[]), (15,[494,0]), (18,[]), (19,[]), (20,[]), (21,[]), (22,[]), (23,[]), (24,[]), (25,[]), (28,[]), (31,[]), (32,[])]
-- 94 LessonSpiral.best(Z)I
def mc_94 : List MI := [(1,0,0,1,[]), (0,0,0,0,[]), (1,1,0,0,[]), (24,114,3,0,[6]), (27,0,0,0,[])]
def mp_94 : List (Nat × List Nat) := [(0,[]), (1,[]), (2,[]), (3,[503,0]), (6,[])]
-- 95 LessonSpiral.plans()I
def mc_95 : List MI := [(1,0,0,1,[]), (0,0,0,2,[]), (0,0,0,0,[]), (24,114,3,0,[6]), (27,0,0,0,[])]
def mp_95 : List (Nat × List Nat) := [(0,[]), (1,[]), (2,[]), (3,[503,0]), (6,[])]
-- 96 LessonSpiral.least(Z)I
def mc_96 : List MI := [(1,0,0,1,[]), (0,0,0,1,[]), (1,1,0,0,[]), (24,114,3,0,[6]), (27,0,0,0,[])]
def mp_96 : List (Nat × List Nat) := [(0,[]), (1,[]), (2,[]), (3,[503,0]), (6,[])]
-- 97 LessonSpiral.late(IZ)I
def mc_97 : List MI := [(1,1,0,0,[]), (29,108,1,0,[]), (9,0,7,0,[]), (1,0,0,1,[]), (0,0,0,(-100001),[]), (24,105,2,0,[6]), (27,0,0,0,[]), (0,0,0,0,[]), (2,3,0,0,[]), (0,0,0,0,[]), (2,4,0,0,[]), (0,0,0,0,[]), (2,5,0,0,[]), (1,5,0,0,[]), (1,0,0,1,[]), (13,6,0,0,[]), (24,7,1,0,[0]), (10,3,45,0,[]), (1,0,0,1,[]), (13,6,0,0,[]), (0,0,0,5,[]), (1,5,0,0,[]), (24,8,3,0,[0]), (2,6,0,0,[]), (1,6,0,0,[]), (1,1,0,0,[]), (10,2,34,0,[]), (1,4,0,0,[]), (0,0,0,1,[]), (1,5,0,0,[]), (4,6,0,0,[]), (4,4,0,0,[]), (2,4,0,0,[]), (11,0,43,0,[]), (1,6,0,0,[]), (0,0,0,(-1),[]), (10,0,43,0,[]), (1,3,0,0,[]), (0,0,0,1,[]), (1,5,0,0,[]), (4,6,0,0,[]), (4,4,0,0,[]), (2,3,0,0,[]), (3,5,0,1,[]), (11,0,13,0,[]), (1,3,0,0,[]), (1,0,0,1,[]), (13,6,0,0,[]), (1,4,0,0,[]), (24,15,2,0,[0]), (4,3,0,0,[]), (2,5,0,0,[]), (1,2,0,0,[]), (9,0,58,0,[]), (1,0,0,1,[]), (1,5,0,0,[]), (24,115,2,0,[6]), (11,0,59,0,[]), (1,5,0,0,[]), (27,0,0,0,[])]
def mp_97 : List (Nat × List Nat) := [(0,[]), (1,[335,0]), (4,[]), (7,[]), (8,[237]), (10,[238,0]), (13,[]), (14,[]), (15,[]), (16,[]), (17,[]), (19,[]), (20,[]), (22,[]), (24,[]), (25,[211,0]), (28,[242,0]), (31,[]), (34,[]), (35,[211,0]), (38,[]), (39,[]), (41,[300,0]), (44,[]), (46,[]), (48,[]), (49,[]), (52,[]), (54,[]), (55,[]), (57,[]), (58,[]), (59,[]), (61,[]), (64,[]), (66,[]), (67,[]), (70,[]), (71,[]), (72,[]), (74,[]), (75,[]), (76,[]), (77,[]), (80,[]), (83,[]), (84,[]), (85,[211,0]), (88,[]), (90,[290,0]), (93,[]), (94,[]), (96,[]), (97,[]), (100,[]), (101,[]), (103,[635,0]), (106,[]), (109,[]), (111,[])]
-- 98 LessonSpiral.met(Z)I
def mc_98 : List MI := [(0,0,0,0,[]), (2,2,0,0,[]), (0,0,0,0,[]), (2,3,0,0,[]), (1,3,0,0,[]), (1,0,0,1,[]), (13,6,0,0,[]), (24,7,1,0,[0]), (10,3,24,0,[]), (1,0,0,1,[]), (13,6,0,0,[]), (1,3,0,0,[]), (24,13,2,0,[0]), (9,0,22,0,[]), (1,2,0,0,[]), (1,0,0,1,[]), (13,6,0,0,[]), (0,0,0,4,[]), (1,3,0,0,[]), (24,8,3,0,[0]), (4,4,0,0,[]), (2,2,0,0,[]), (3,3,0,1,[]), (11,0,4,0,[]), (1,1,0,0,[]), (9,0,32,0,[]), (0,0,0,65535,[]), (1,2,0,0,[]), (0,0,0,(-1),[]), (4,5,0,0,[]), (4,3,0,0,[]), (11,0,33,0,[]), (1,2,0,0,[]), (27,0,0,0,[])]
def mp_98 : List (Nat × List Nat) := [(0,[]), (1,[]), (2,[]), (3,[]), (4,[]), (5,[]), (6,[211,0]), (9,[242,0]), (12,[]), (15,[]), (16,[211,0]), (19,[]), (20,[643,0]), (23,[]), (26,[]), (27,[]), (28,[211,0]), (31,[]), (32,[]), (33,[300,0]), (36,[]), (37,[]), (38,[]), (41,[]), (44,[]), (45,[]), (48,[321]), (50,[]), (51,[]), (52,[]), (53,[]), (54,[]), (57,[]), (58,[])]
-- 99 LessonSpiral.only(I)I
def mc_99 : List MI := [(1,1,0,0,[]), (9,2,5,0,[]), (1,1,0,0,[]), (0,0,0,15,[]), (10,5,9,0,[]), (1,0,0,1,[]), (0,0,0,(-100001),[]), (24,105,2,0,[6]), (27,0,0,0,[]), (0,0,0,(-1),[]), (2,2,0,0,[]), (0,0,0,0,[]), (2,3,0,0,[]), (1,3,0,0,[]), (1,0,0,1,[]), (13,6,0,0,[]), (24,7,1,0,[0]), (10,3,42,0,[]), (1,0,0,1,[]), (13,6,0,0,[]), (1,3,0,0,[]), (24,13,2,0,[0]), (9,0,40,0,[]), (1,0,0,1,[]), (13,6,0,0,[]), (0,0,0,4,[]), (1,3,0,0,[]), (24,8,3,0,[0]), (1,1,0,0,[]), (29,110,2,0,[]), (9,0,40,0,[]), (1,2,0,0,[]), (0,0,0,(-1),[]), (10,0,38,0,[]), (1,0,0,1,[]), (0,0,0,(-100006),[]), (24,105,2,0,[6]), (27,0,0,0,[]), (1,3,0,0,[]), (2,2,0,0,[]), (3,3,0,1,[]), (11,0,13,0,[]), (1,2,0,0,[]), (0,0,0,(-1),[]), (10,1,49,0,[]), (1,0,0,1,[]), (0,0,0,(-100006),[]), (24,105,2,0,[6]), (11,0,50,0,[]), (1,2,0,0,[]), (27,0,0,0,[])]
def mp_99 : List (Nat × List Nat) := [(0,[]), (1,[]), (4,[]), (5,[]), (7,[]), (10,[]), (11,[237]), (13,[238,0]), (16,[]), (17,[]), (18,[]), (19,[]), (20,[]), (21,[]), (22,[]), (23,[211,0]), (26,[242,0]), (29,[]), (32,[]), (33,[211,0]), (36,[]), (37,[643,0]), (40,[]), (43,[]), (44,[211,0]), (47,[]), (48,[]), (49,[300,0]), (52,[]), (53,[298,0]), (56,[]), (59,[]), (60,[]), (61,[]), (64,[]), (65,[605]), (67,[238,0]), (70,[]), (71,[]), (72,[]), (73,[]), (76,[]), (79,[]), (80,[]), (81,[]), (84,[]), (85,[605]), (87,[238,0]), (90,[]), (93,[]), (94,[])]
-- 100 LessonSpiral.book(II)I
def mc_100 : List MI := [(1,0,0,1,[]), (1,1,0,0,[]), (24,106,2,0,[6]), (9,1,10,0,[]), (1,2,0,0,[]), (0,0,0,1,[]), (10,2,10,0,[]), (1,2,0,0,[]), (0,0,0,100,[]), (10,5,14,0,[]), (1,0,0,1,[]), (0,0,0,(-100001),[]), (24,105,2,0,[6]), (27,0,0,0,[]), (1,0,0,1,[]), (13,6,0,0,[]), (0,0,0,7,[]), (1,1,0,0,[]), (24,8,3,0,[0]), (1,2,0,0,[]), (4,0,0,0,[]), (2,3,0,0,[]), (1,3,0,0,[]), (0,0,0,1000,[]), (10,5,29,0,[]), (1,0,0,1,[]), (0,0,0,(-100005),[]), (24,105,2,0,[6]), (27,0,0,0,[]), (1,0,0,1,[]), (0,0,0,7,[]), (1,1,0,0,[]), (1,3,0,0,[]), (24,112,4,0,[6]), (8,0,0,0,[]), (1,3,0,0,[]), (27,0,0,0,[])]
def mp_100 : List (Nat × List Nat) := [(0,[]), (1,[]), (2,[273,0]), (5,[]), (8,[]), (9,[]), (10,[]), (13,[]), (14,[]), (16,[]), (19,[]), (20,[237]), (22,[238,0]), (25,[]), (26,[]), (27,[211,0]), (30,[]), (32,[]), (33,[300,0]), (36,[]), (37,[]), (38,[]), (39,[]), (40,[]), (43,[]), (46,[]), (47,[246]), (49,[238,0]), (52,[]), (53,[]), (54,[]), (56,[]), (57,[]), (58,[313,0]), (61,[]), (62,[]), (63,[])]
-- 101 LessonSpiral.due(II)I
def mc_101 : List MI := [(1,0,0,1,[]), (1,1,0,0,[]), (24,106,2,0,[6]), (9,1,7,0,[]), (1,2,0,0,[]), (29,108,1,0,[]), (9,0,11,0,[]), (1,0,0,1,[]), (0,0,0,(-100001),[]), (24,105,2,0,[6]), (27,0,0,0,[]), (1,0,0,1,[]), (1,1,0,0,[]), (1,2,0,0,[]), (24,116,3,0,[6]), (27,0,0,0,[])]
def mp_101 : List (Nat × List Nat) := [(0,[]), (1,[]), (2,[273,0]), (5,[]), (8,[]), (9,[335,0]), (12,[]), (15,[]), (16,[237]), (18,[238,0]), (21,[]), (22,[]), (23,[]), (24,[]), (25,[659,0]), (28,[])]
-- 102 LessonSpiral.drift(I)I
def mc_102 : List MI := [(1,1,0,0,[]), (29,108,1,0,[]), (9,0,7,0,[]), (1,0,0,1,[]), (0,0,0,(-100001),[]), (24,105,2,0,[6]), (27,0,0,0,[]), (0,0,0,0,[]), (2,2,0,0,[]), (0,0,0,0,[]), (2,3,0,0,[]), (1,3,0,0,[]), (1,0,0,1,[]), (13,6,0,0,[]), (24,7,1,0,[0]), (10,3,33,0,[]), (1,2,0,0,[]), (0,0,0,0,[]), (1,0,0,1,[]), (1,3,0,0,[]), (1,1,0,0,[]), (24,116,3,0,[6]), (1,0,0,1,[]), (13,6,0,0,[]), (0,0,0,7,[]), (1,3,0,0,[]), (24,8,3,0,[0]), (4,1,0,0,[]), (31,0,0,0,[]), (4,0,0,0,[]), (2,2,0,0,[]), (3,3,0,1,[]), (11,0,11,0,[]), (1,2,0,0,[]), (27,0,0,0,[])]
def mp_102 : List (Nat × List Nat) := [(0,[]), (1,[335,0]), (4,[]), (7,[]), (8,[237]), (10,[238,0]), (13,[]), (14,[]), (15,[]), (16,[]), (17,[]), (18,[]), (19,[]), (20,[211,0]), (23,[242,0]), (26,[]), (29,[]), (30,[]), (31,[]), (32,[]), (33,[]), (34,[659,0]), (37,[]), (38,[211,0]), (41,[]), (43,[]), (44,[300,0]), (47,[]), (48,[672]), (51,[]), (52,[]), (53,[]), (56,[]), (59,[]), (60,[])]
-- 103 LessonSpiral.undo()I
def mc_103 : List MI := [(1,0,0,1,[]), (13,6,3,0,[]), (24,25,1,0,[1]), (9,0,8,0,[]), (1,0,0,1,[]), (0,0,0,(-100006),[]), (24,105,2,0,[6]), (11,0,13,0,[]), (1,0,0,1,[]), (13,6,3,0,[]), (1,0,0,1,[]), (13,6,0,0,[]), (24,27,2,0,[1]), (27,0,0,0,[])]
def mp_103 : List (Nat × List Nat) := [(0,[]), (1,[214,0]), (4,[677,0]), (7,[]), (10,[]), (11,[605]), (13,[238,0]), (16,[]), (19,[]), (20,[214,0]), (23,[]), (24,[211,0]), (27,[681,0]), (30,[])]
-- 104 LessonSpiral.told(I)I
def mc_104 : List MI := [(1,1,0,0,[]), (12,0,17,0,[2,6,10,14]), (1,0,0,1,[]), (13,6,0,0,[]), (24,7,1,0,[0]), (27,0,0,0,[]), (1,0,0,1,[]), (13,6,0,0,[]), (24,20,1,0,[0]), (27,0,0,0,[]), (1,0,0,1,[]), (13,6,0,0,[]), (24,22,1,0,[0]), (27,0,0,0,[]), (1,0,0,1,[]), (13,6,5,0,[]), (27,0,0,0,[]), (1,0,0,1,[]), (0,0,0,(-100001),[]), (24,105,2,0,[6]), (27,0,0,0,[])]
def mp_104 : List (Nat × List Nat) := [(0,[]), (1,[]), (32,[]), (33,[211,0]), (36,[242,0]), (39,[]), (40,[]), (41,[211,0]), (44,[693,0]), (47,[]), (48,[]), (49,[211,0]), (52,[363,0]), (55,[]), (56,[]), (57,[216,0]), (60,[]), (61,[]), (62,[237]), (64,[238,0]), (67,[])]
-- 105 LessonSpiral.finding(I)I
def mc_105 : List MI := [(1,0,0,1,[]), (6,0,0,0,[]), (13,6,5,0,[]), (0,0,0,1,[]), (4,0,0,0,[]), (14,6,5,0,[]), (1,1,0,0,[]), (27,0,0,0,[])]
def mp_105 : List (Nat × List Nat) := [(0,[]), (1,[]), (2,[216,0]), (5,[]), (6,[]), (7,[216,0]), (10,[]), (11,[])]
-- 106 LessonSpiral.isNoTopic(I)Z
def mc_106 : List MI := [(1,1,0,0,[]), (9,2,7,0,[]), (1,1,0,0,[]), (1,0,0,1,[]), (13,6,0,0,[]), (24,7,1,0,[0]), (10,2,9,0,[]), (0,0,0,1,[]), (11,0,10,0,[]), (0,0,0,0,[]), (27,0,0,0,[])]
def mp_106 : List (Nat × List Nat) := [(0,[]), (1,[]), (4,[]), (5,[]), (6,[211,0]), (9,[242,0]), (12,[]), (15,[]), (16,[]), (19,[]), (20,[])]
-- 107 LessonSpiral.isNoKind(I)Z
def mc_107 : List MI := [(1,0,0,0,[]), (9,2,5,0,[]), (1,0,0,0,[]), (0,0,0,3,[]), (10,5,7,0,[]), (0,0,0,1,[]), (11,0,8,0,[]), (0,0,0,0,[]), (27,0,0,0,[])]
def mp_107 : List (Nat × List Nat) := [(0,[]), (1,[]), (4,[]), (5,[]), (6,[]), (9,[]), (10,[]), (13,[]), (14,[])]
-- 108 LessonSpiral.isNoWeek(I)Z
def mc_108 : List MI := [(1,0,0,0,[]), (9,2,5,0,[]), (1,0,0,0,[]), (0,0,0,6,[]), (10,2,7,0,[]), (0,0,0,1,[]), (11,0,8,0,[]), (0,0,0,0,[]), (27,0,0,0,[])]
def mp_108 : List (Nat × List Nat) := [(0,[]), (1,[]), (4,[]), (5,[]), (7,[]), (10,[]), (11,[]), (14,[]), (15,[])]
-- 109 LessonSpiral.isNoSheet(I)Z
def mc_109 : List MI := [(1,0,0,0,[]), (9,2,5,0,[]), (1,0,0,0,[]), (0,0,0,4,[]), (10,2,7,0,[]), (0,0,0,1,[]), (11,0,8,0,[]), (0,0,0,0,[]), (27,0,0,0,[])]
def mp_109 : List (Nat × List Nat) := [(0,[]), (1,[]), (4,[]), (5,[]), (6,[]), (9,[]), (10,[]), (13,[]), (14,[])]
-- 110 LessonSpiral.has(II)Z
def mc_110 : List MI := [(1,0,0,0,[]), (1,1,0,0,[]), (4,7,0,0,[]), (0,0,0,1,[]), (4,3,0,0,[]), (9,0,8,0,[]), (0,0,0,1,[]), (11,0,9,0,[]), (0,0,0,0,[]), (27,0,0,0,[])]
def mp_110 : List (Nat × List Nat) := [(0,[]), (1,[]), (2,[]), (3,[]), (4,[]), (5,[]), (8,[]), (9,[]), (12,[]), (13,[])]
-- 111 LessonSpiral.with(IIZ)I
def mc_111 : List MI := [(1,2,0,0,[]), (9,0,8,0,[]), (1,0,0,0,[]), (0,0,0,1,[]), (1,1,0,0,[]), (4,6,0,0,[]), (4,4,0,0,[]), (11,0,15,0,[]), (1,0,0,0,[]), (0,0,0,1,[]), (1,1,0,0,[]), (4,6,0,0,[]), (0,0,0,(-1),[]), (4,5,0,0,[]), (4,3,0,0,[]), (27,0,0,0,[])]
def mp_111 : List (Nat × List Nat) := [(0,[]), (1,[]), (4,[]), (5,[]), (6,[]), (7,[]), (8,[]), (9,[]), (12,[]), (13,[]), (14,[]), (15,[]), (16,[]), (17,[]), (18,[]), (19,[])]
-- 112 LessonSpiral.change(III)I
def mc_112 : List MI := [(1,0,0,1,[]), (13,6,3,0,[]), (1,0,0,1,[]), (13,6,0,0,[]), (24,26,2,0,[1]), (1,0,0,1,[]), (13,6,0,0,[]), (1,1,0,0,[]), (1,2,0,0,[]), (24,8,3,0,[0]), (2,4,0,0,[]), (1,0,0,1,[]), (13,6,0,0,[]), (1,1,0,0,[]), (1,2,0,0,[]), (1,3,0,0,[]), (24,9,4,0,[0]), (1,4,0,0,[]), (27,0,0,0,[])]
def mp_112 : List (Nat × List Nat) := [(0,[]), (1,[214,0]), (4,[]), (5,[211,0]), (8,[247,0]), (11,[]), (12,[211,0]), (15,[]), (16,[]), (17,[300,0]), (20,[]), (22,[]), (23,[211,0]), (26,[]), (27,[]), (28,[]), (29,[304,0]), (32,[]), (34,[])]
-- 113 LessonSpiral.meet(III)I
def mc_113 : List MI := [(1,0,0,1,[]), (1,2,0,0,[]), (24,106,2,0,[6]), (9,1,10,0,[]), (1,3,0,0,[]), (0,0,0,(-1),[]), (10,0,14,0,[]), (1,3,0,0,[]), (29,108,1,0,[]), (9,0,14,0,[]), (1,0,0,1,[]), (0,0,0,(-100001),[]), (24,105,2,0,[6]), (27,0,0,0,[]), (1,0,0,1,[]), (13,6,0,0,[]), (1,2,0,0,[]), (24,12,2,0,[0]), (9,0,23,0,[]), (1,0,0,1,[]), (0,0,0,(-100004),[]), (24,105,2,0,[6]), (27,0,0,0,[]), (1,0,0,1,[]), (1,1,0,0,[]), (1,2,0,0,[]), (1,3,0,0,[]), (24,112,4,0,[6]), (27,0,0,0,[])]
def mp_113 : List (Nat × List Nat) := [(0,[]), (1,[]), (2,[273,0]), (5,[]), (8,[]), (9,[]), (10,[]), (13,[]), (14,[335,0]), (17,[]), (20,[]), (21,[237]), (23,[238,0]), (26,[]), (27,[]), (28,[211,0]), (31,[]), (32,[309,0]), (35,[]), (38,[]), (39,[285]), (41,[238,0]), (44,[]), (45,[]), (46,[]), (47,[]), (48,[]), (49,[313,0]), (52,[])]
-- 114 LessonSpiral.seek(IZ)I
def mc_114 : List MI := [(1,0,0,1,[]), (13,6,2,0,[]), (24,47,1,0,[4]), (9,0,8,0,[]), (1,0,0,1,[]), (0,0,0,(-100008),[]), (24,105,2,0,[6]), (27,0,0,0,[]), (1,0,0,1,[]), (13,6,2,0,[]), (24,53,1,0,[4]), (1,0,0,1,[]), (13,6,2,0,[]), (1,1,0,0,[]), (24,51,2,0,[4]), (1,1,0,0,[]), (0,0,0,2,[]), (10,1,22,0,[]), (1,0,0,1,[]), (13,6,2,0,[]), (24,48,1,0,[4]), (27,0,0,0,[]), (1,0,0,1,[]), (13,6,2,0,[]), (24,48,1,0,[4]), (9,1,30,0,[]), (1,0,0,1,[]), (0,0,0,(-100006),[]), (24,105,2,0,[6]), (27,0,0,0,[]), (1,1,0,0,[]), (9,1,36,0,[]), (1,0,0,1,[]), (13,6,2,0,[]), (24,49,1,0,[4]), (11,0,39,0,[]), (1,0,0,1,[]), (13,6,2,0,[]), (24,50,1,0,[4]), (2,3,0,0,[]), (1,2,0,0,[]), (9,0,50,0,[]), (1,0,0,1,[]), (13,6,3,0,[]), (1,0,0,1,[]), (13,6,0,0,[]), (24,26,2,0,[1]), (1,0,0,1,[]), (13,6,2,0,[]), (24,52,1,0,[4]), (1,3,0,0,[]), (27,0,0,0,[])]
def mp_114 : List (Nat × List Nat) := [(0,[]), (1,[213,0]), (4,[507,0]), (7,[]), (10,[]), (11,[513]), (13,[238,0]), (16,[]), (17,[]), (18,[213,0]), (21,[514,0]), (24,[]), (25,[213,0]), (28,[]), (29,[531,0]), (32,[]), (33,[]), (34,[]), (37,[]), (38,[213,0]), (41,[601,0]), (44,[]), (45,[]), (46,[213,0]), (49,[601,0]), (52,[]), (55,[]), (56,[605]), (58,[238,0]), (61,[]), (62,[]), (63,[]), (66,[]), (67,[213,0]), (70,[606,0]), (73,[]), (76,[]), (77,[213,0]), (80,[610,0]), (83,[]), (84,[]), (85,[]), (88,[]), (89,[214,0]), (92,[]), (93,[211,0]), (96,[247,0]), (99,[]), (100,[213,0]), (103,[614,0]), (106,[]), (107,[])]
-- 115 LessonSpiral.hoursOf(I)I
def mc_115 : List MI := [(0,0,0,0,[]), (2,2,0,0,[]), (0,0,0,0,[]), (2,3,0,0,[]), (1,3,0,0,[]), (1,0,0,1,[]), (13,6,0,0,[]), (24,7,1,0,[0]), (10,3,23,0,[]), (1,1,0,0,[]), (1,3,0,0,[]), (29,110,2,0,[]), (9,0,21,0,[]), (1,2,0,0,[]), (1,0,0,1,[]), (13,6,0,0,[]), (0,0,0,1,[]), (1,3,0,0,[]), (24,8,3,0,[0]), (4,0,0,0,[]), (2,2,0,0,[]), (3,3,0,1,[]), (11,0,4,0,[]), (1,2,0,0,[]), (27,0,0,0,[])]
def mp_115 : List (Nat × List Nat) := [(0,[]), (1,[]), (2,[]), (3,[]), (4,[]), (5,[]), (6,[211,0]), (9,[242,0]), (12,[]), (15,[]), (16,[]), (17,[298,0]), (20,[]), (23,[]), (24,[]), (25,[211,0]), (28,[]), (29,[]), (30,[300,0]), (33,[]), (34,[]), (35,[]), (38,[]), (41,[]), (42,[])]
-- 116 LessonSpiral.dueHours(II)I
def mc_116 : List MI := [(1,0,0,1,[]), (13,6,0,0,[]), (1,1,0,0,[]), (24,12,2,0,[0]), (9,0,10,0,[]), (1,0,0,1,[]), (13,6,0,0,[]), (1,2,0,0,[]), (24,21,2,0,[0]), (27,0,0,0,[]), (1,0,0,1,[]), (13,6,0,0,[]), (0,0,0,5,[]), (1,1,0,0,[]), (24,8,3,0,[0]), (2,3,0,0,[]), (1,0,0,1,[]), (13,6,0,0,[]), (0,0,0,6,[]), (1,1,0,0,[]), (24,8,3,0,[0]), (2,4,0,0,[]), (1,3,0,0,[]), (0,0,0,(-1),[]), (10,0,34,0,[]), (1,3,0,0,[]), (1,2,0,0,[]), (10,4,34,0,[]), (1,0,0,1,[]), (13,6,0,0,[]), (0,0,0,1,[]), (1,1,0,0,[]), (24,8,3,0,[0]), (11,0,35,0,[]), (0,0,0,0,[]), (2,5,0,0,[]), (1,4,0,0,[]), (0,0,0,(-1),[]), (10,0,46,0,[]), (1,4,0,0,[]), (1,2,0,0,[]), (10,4,46,0,[]), (1,5,0,0,[]), (0,0,0,1,[]), (4,0,0,0,[]), (11,0,47,0,[]), (1,5,0,0,[]), (27,0,0,0,[])]
def mp_116 : List (Nat × List Nat) := [(0,[]), (1,[211,0]), (4,[]), (5,[309,0]), (8,[]), (11,[]), (12,[211,0]), (15,[]), (16,[663,0]), (19,[]), (20,[]), (21,[211,0]), (24,[]), (25,[]), (26,[300,0]), (29,[]), (30,[]), (31,[211,0]), (34,[]), (36,[]), (37,[300,0]), (40,[]), (42,[]), (43,[]), (44,[]), (47,[]), (48,[]), (49,[]), (52,[]), (53,[211,0]), (56,[]), (57,[]), (58,[300,0]), (61,[]), (64,[]), (65,[]), (67,[]), (69,[]), (70,[]), (73,[]), (75,[]), (76,[]), (79,[]), (81,[]), (82,[]), (83,[]), (86,[]), (88,[])]
-- 117 LessonSpiralModel.<init>()V
def mc_117 : List MI := [(1,0,0,1,[]), (25,0,0,0,[]), (1,0,0,1,[]), (0,0,0,86,[]), (21,0,0,0,[]), (14,7,0,1,[]), (1,0,0,1,[]), (0,0,0,2150,[]), (21,0,0,0,[]), (14,7,1,1,[]), (1,0,0,1,[]), (0,0,0,4,[]), (21,0,0,0,[]), (14,7,3,1,[]), (1,0,0,1,[]), (0,0,0,4,[]), (21,0,0,0,[]), (14,7,4,1,[]), (1,0,0,1,[]), (0,0,0,24,[]), (21,0,0,0,[]), (14,7,5,1,[]), (1,0,0,1,[]), (0,0,0,6,[]), (21,0,0,0,[]), (14,7,7,1,[]), (1,0,0,1,[]), (0,0,0,8,[]), (21,0,0,0,[]), (14,7,8,1,[]), (1,0,0,1,[]), (0,0,0,16,[]), (21,0,0,0,[]), (14,7,10,1,[]), (1,0,0,1,[]), (0,0,0,16,[]), (21,0,0,0,[]), (14,7,11,1,[]), (0,0,0,0,[]), (2,1,0,0,[]), (1,1,0,0,[]), (0,0,0,6,[]), (10,3,52,0,[]), (1,0,0,1,[]), (13,7,0,0,[]), (0,0,0,73,[]), (1,1,0,0,[]), (4,0,0,0,[]), (0,0,0,10,[]), (16,0,0,0,[]), (3,1,0,1,[]), (11,0,40,0,[]), (1,0,0,1,[]), (13,7,0,0,[]), (0,0,0,85,[]), (0,0,0,6,[]), (16,0,0,0,[]), (28,0,0,0,[])]
def mp_117 : List (Nat × List Nat) := [(0,[]), (1,[708]), (4,[]), (5,[]), (7,[]), (9,[709,0]), (12,[]), (13,[]), (16,[]), (18,[710,0]), (21,[]), (22,[]), (23,[]), (25,[712,0]), (28,[]), (29,[]), (30,[]), (32,[713,0]), (35,[]), (36,[]), (38,[]), (40,[714,0]), (43,[]), (44,[]), (46,[]), (48,[716,0]), (51,[]), (52,[]), (54,[]), (56,[717,0]), (59,[]), (60,[]), (62,[]), (64,[719,0]), (67,[]), (68,[]), (70,[]), (72,[720,0]), (75,[]), (76,[]), (77,[]), (78,[]), (80,[]), (83,[]), (84,[709,0]), (87,[]), (89,[]), (90,[]), (91,[]), (93,[]), (94,[]), (97,[]), (100,[]), (101,[709,0]), (104,[]), (106,[]), (108,[]), (109,[])]
-- 118 LessonSpiralModel.finding(I)I
def mc_118 : List MI := [(1,0,0,1,[]), (6,0,0,0,[]), (13,7,6,0,[]), (0,0,0,1,[]), (4,0,0,0,[]), (14,7,6,0,[]), (1,1,0,0,[]), (27,0,0,0,[])]
def mp_118 : List (Nat × List Nat) := [(0,[]), (1,[]), (2,[715,0]), (5,[]), (6,[]), (7,[715,0]), (10,[]), (11,[])]
-- 119 LessonSpiralModel.isIn(III)Z
def mc_119 : List MI := [(1,0,0,0,[]), (1,1,0,0,[]), (10,2,8,0,[]), (1,0,0,0,[]), (1,2,0,0,[]), (10,4,8,0,[]), (0,0,0,1,[]), (11,0,9,0,[]), (0,0,0,0,[]), (27,0,0,0,[])]
def mp_119 : List (Nat × List Nat) := [(0,[]), (1,[]), (2,[]), (5,[]), (6,[]), (7,[]), (10,[]), (11,[]), (14,[]), (15,[])]
-- 120 LessonSpiralModel.isTopic(I)Z
def mc_120 : List MI := [(1,1,0,0,[]), (9,2,10,0,[]), (1,1,0,0,[]), (1,0,0,1,[]), (13,7,0,0,[]), (0,0,0,0,[]), (15,0,0,0,[]), (10,3,10,0,[]), (0,0,0,1,[]), (11,0,11,0,[]), (0,0,0,0,[]), (27,0,0,0,[])]
def mp_120 : List (Nat × List Nat) := [(0,[]), (1,[]), (4,[]), (5,[]), (6,[709,0]), (9,[]), (10,[]), (11,[]), (14,[]), (15,[]), (18,[]), (19,[])]
-- 121 LessonSpiralModel.isWeek(I)Z
def mc_121 : List MI := [(1,0,0,0,[]), (0,0,0,0,[]), (0,0,0,5,[]), (29,119,3,0,[]), (27,0,0,0,[])]
def mp_121 : List (Nat × List Nat) := [(0,[]), (1,[]), (2,[]), (3,[768,0]), (6,[])]
-- 122 LessonSpiralModel.at(II)I
def mc_122 : List MI := [(1,0,0,1,[]), (13,7,0,0,[]), (0,0,0,1,[]), (0,0,0,9,[]), (1,1,0,0,[]), (4,2,0,0,[]), (4,0,0,0,[]), (1,2,0,0,[]), (4,0,0,0,[]), (15,0,0,0,[]), (27,0,0,0,[])]
def mp_122 : List (Nat × List Nat) := [(0,[]), (1,[709,0]), (4,[]), (5,[]), (7,[]), (8,[]), (9,[]), (10,[]), (11,[]), (12,[]), (13,[])]
-- 123 LessonSpiralModel.set(III)V
def mc_123 : List MI := [(1,0,0,1,[]), (13,7,0,0,[]), (0,0,0,1,[]), (0,0,0,9,[]), (1,1,0,0,[]), (4,2,0,0,[]), (4,0,0,0,[]), (1,2,0,0,[]), (4,0,0,0,[]), (1,3,0,0,[]), (16,0,0,0,[]), (28,0,0,0,[])]
def mp_123 : List (Nat × List Nat) := [(0,[]), (1,[709,0]), (4,[]), (5,[]), (7,[]), (8,[]), (9,[]), (10,[]), (11,[]), (12,[]), (13,[]), (14,[])]
-- 124 LessonSpiralModel.isStrand(I)Z
def mc_124 : List MI := [(1,0,0,1,[]), (1,1,0,0,[]), (0,0,0,0,[]), (24,122,3,0,[7]), (0,0,0,2,[]), (10,1,8,0,[]), (0,0,0,1,[]), (11,0,9,0,[]), (0,0,0,0,[]), (27,0,0,0,[])]
def mp_124 : List (Nat × List Nat) := [(0,[]), (1,[]), (2,[]), (3,[789,0]), (6,[]), (7,[]), (10,[]), (11,[]), (14,[]), (15,[])]
-- 125 LessonSpiralModel.hasSnow(I)Z
def mc_125 : List MI := [(1,0,0,1,[]), (13,7,0,0,[]), (0,0,0,79,[]), (1,1,0,0,[]), (4,0,0,0,[]), (15,0,0,0,[]), (0,0,0,1,[]), (10,1,10,0,[]), (0,0,0,1,[]), (11,0,11,0,[]), (0,0,0,0,[]), (27,0,0,0,[])]
def mp_125 : List (Nat × List Nat) := [(0,[]), (1,[709,0]), (4,[]), (6,[]), (7,[]), (8,[]), (9,[]), (10,[]), (13,[]), (14,[]), (17,[]), (18,[])]
-- 126 LessonSpiralModel.act()V
def mc_126 : List MI := [(1,0,0,1,[]), (13,7,2,0,[]), (0,0,0,25,[]), (10,1,27,0,[]), (0,0,0,0,[]), (2,1,0,0,[]), (1,1,0,0,[]), (0,0,0,2064,[]), (10,3,21,0,[]), (1,0,0,1,[]), (13,7,1,0,[]), (1,1,0,0,[]), (1,0,0,1,[]), (13,7,1,0,[]), (1,1,0,0,[]), (0,0,0,86,[]), (4,0,0,0,[]), (15,0,0,0,[]), (16,0,0,0,[]), (3,1,0,1,[]), (11,0,6,0,[]), (1,0,0,1,[]), (6,0,0,0,[]), (13,7,2,0,[]), (0,0,0,1,[]), (4,1,0,0,[]), (14,7,2,0,[]), (0,0,0,0,[]), (2,1,0,0,[]), (1,1,0,0,[]), (0,0,0,86,[]), (10,3,47,0,[]), (1,0,0,1,[]), (13,7,1,0,[]), (0,0,0,86,[]), (1,0,0,1,[]), (13,7,2,0,[]), (4,2,0,0,[]), (1,1,0,0,[]), (4,0,0,0,[]), (1,0,0,1,[]), (13,7,0,0,[]), (1,1,0,0,[]), (15,0,0,0,[]), (16,0,0,0,[]), (3,1,0,1,[]), (11,0,29,0,[]), (1,0,0,1,[]), (6,0,0,0,[]), (13,7,2,0,[]), (0,0,0,1,[]), (4,0,0,0,[]), (14,7,2,0,[]), (28,0,0,0,[])]
def mp_126 : List (Nat × List Nat) := [(0,[]), (1,[711,0]), (4,[]), (6,[]), (9,[]), (10,[]), (11,[]), (12,[]), (15,[]), (18,[]), (19,[710,0]), (22,[]), (23,[]), (24,[710,0]), (27,[]), (28,[]), (30,[]), (31,[]), (32,[]), (33,[]), (36,[]), (39,[]), (40,[]), (41,[711,0]), (44,[]), (45,[]), (46,[711,0]), (49,[]), (50,[]), (51,[]), (52,[]), (54,[]), (57,[]), (58,[710,0]), (61,[]), (63,[]), (64,[711,0]), (67,[]), (68,[]), (69,[]), (70,[]), (71,[709,0]), (74,[]), (75,[]), (76,[]), (77,[]), (80,[]), (83,[]), (84,[]), (85,[711,0]), (88,[]), (89,[]), (90,[711,0]), (93,[])]
-- 127 LessonSpiralModel.undo()I
def mc_127 : List MI := [(1,0,0,1,[]), (13,7,2,0,[]), (9,1,7,0,[]), (1,0,0,1,[]), (0,0,0,(-100006),[]), (24,118,2,0,[7]), (27,0,0,0,[]), (1,0,0,1,[]), (6,0,0,0,[]), (13,7,2,0,[]), (0,0,0,1,[]), (4,1,0,0,[]), (14,7,2,0,[]), (0,0,0,0,[]), (2,1,0,0,[]), (1,1,0,0,[]), (0,0,0,86,[]), (10,3,33,0,[]), (1,0,0,1,[]), (13,7,0,0,[]), (1,1,0,0,[]), (1,0,0,1,[]), (13,7,1,0,[]), (0,0,0,86,[]), (1,0,0,1,[]), (13,7,2,0,[]), (4,2,0,0,[]), (1,1,0,0,[]), (4,0,0,0,[]), (15,0,0,0,[]), (16,0,0,0,[]), (3,1,0,1,[]), (11,0,15,0,[]), (1,0,0,1,[]), (13,7,2,0,[]), (27,0,0,0,[])]
def mp_127 : List (Nat × List Nat) := [(0,[]), (1,[711,0]), (4,[]), (7,[]), (8,[759]), (10,[760,0]), (13,[]), (14,[]), (15,[]), (16,[711,0]), (19,[]), (20,[]), (21,[711,0]), (24,[]), (25,[]), (26,[]), (27,[]), (29,[]), (32,[]), (33,[709,0]), (36,[]), (37,[]), (38,[710,0]), (41,[]), (43,[]), (44,[711,0]), (47,[]), (48,[]), (49,[]), (50,[]), (51,[]), (52,[]), (55,[]), (58,[]), (59,[711,0]), (62,[])]
-- 128 LessonSpiralModel.topic(II)I
def mc_128 : List MI := [(1,1,0,0,[]), (0,0,0,0,[]), (0,0,0,3,[]), (29,119,3,0,[]), (9,0,10,0,[]), (1,2,0,0,[]), (0,0,0,1,[]), (0,0,0,9,[]), (29,119,3,0,[]), (9,1,14,0,[]), (1,0,0,1,[]), (0,0,0,(-100001),[]), (24,118,2,0,[7]), (27,0,0,0,[]), (1,0,0,1,[]), (13,7,0,0,[]), (0,0,0,0,[]), (15,0,0,0,[]), (0,0,0,8,[]), (10,1,24,0,[]), (1,0,0,1,[]), (0,0,0,(-100005),[]), (24,118,2,0,[7]), (27,0,0,0,[]), (1,0,0,1,[]), (24,126,1,0,[7]), (1,0,0,1,[]), (13,7,0,0,[]), (0,0,0,0,[]), (15,0,0,0,[]), (2,3,0,0,[]), (0,0,0,0,[]), (2,4,0,0,[]), (1,4,0,0,[]), (0,0,0,9,[]), (10,3,43,0,[]), (1,0,0,1,[]), (1,3,0,0,[]), (1,4,0,0,[]), (0,0,0,0,[]), (24,123,4,0,[7]), (3,4,0,1,[]), (11,0,33,0,[]), (1,0,0,1,[]), (1,3,0,0,[]), (0,0,0,0,[]), (1,1,0,0,[]), (24,123,4,0,[7]), (1,0,0,1,[]), (1,3,0,0,[]), (0,0,0,1,[]), (1,2,0,0,[]), (24,123,4,0,[7]), (1,0,0,1,[]), (1,3,0,0,[]), (0,0,0,5,[]), (0,0,0,(-1),[]), (24,123,4,0,[7]), (1,0,0,1,[]), (1,3,0,0,[]), (0,0,0,6,[]), (0,0,0,(-1),[]), (24,123,4,0,[7]), (1,0,0,1,[]), (1,3,0,0,[]), (0,0,0,7,[]), (0,0,0,(-1),[]), (24,123,4,0,[7]), (1,0,0,1,[]), (13,7,0,0,[]), (0,0,0,0,[]), (7,0,0,0,[]), (15,0,0,0,[]), (0,0,0,1,[]), (4,0,0,0,[]), (16,0,0,0,[]), (1,3,0,0,[]), (27,0,0,0,[])]
def mp_128 : List (Nat × List Nat) := [(0,[]), (1,[]), (2,[]), (3,[768,0]), (6,[]), (9,[]), (10,[]), (11,[]), (13,[768,0]), (16,[]), (19,[]), (20,[771]), (22,[760,0]), (25,[]), (26,[]), (27,[709,0]), (30,[]), (31,[]), (32,[]), (34,[]), (37,[]), (38,[772]), (40,[760,0]), (43,[]), (44,[]), (45,[773,0]), (48,[]), (49,[709,0]), (52,[]), (53,[]), (54,[]), (55,[]), (56,[]), (58,[]), (60,[]), (62,[]), (65,[]), (66,[]), (67,[]), (69,[]), (70,[777,0]), (73,[]), (76,[]), (79,[]), (80,[]), (81,[]), (82,[]), (83,[777,0]), (86,[]), (87,[]), (88,[]), (89,[]), (90,[777,0]), (93,[]), (94,[]), (95,[]), (96,[]), (97,[777,0]), (100,[]), (101,[]), (102,[]), (104,[]), (105,[777,0]), (108,[]), (109,[]), (110,[]), (112,[]), (113,[777,0]), (116,[]), (117,[709,0]), (120,[]), (121,[]), (122,[]), (123,[]), (124,[]), (125,[]), (126,[]), (127,[])]
-- 129 LessonSpiralModel.as(II)I
def mc_129 : List MI := [(1,0,0,1,[]), (1,1,0,0,[]), (24,120,2,0,[7]), (9,0,9,0,[]), (1,2,0,0,[]), (0,0,0,0,[]), (0,0,0,3,[]), (29,119,3,0,[]), (9,1,13,0,[]), (1,0,0,1,[]), (0,0,0,(-100001),[]), (24,118,2,0,[7]), (27,0,0,0,[]), (1,0,0,1,[]), (1,1,0,0,[]), (0,0,0,0,[]), (24,122,3,0,[7]), (2,3,0,0,[]), (1,2,0,0,[]), (9,0,29,0,[]), (1,2,0,0,[]), (1,3,0,0,[]), (10,0,29,0,[]), (1,2,0,0,[]), (0,0,0,1,[]), (10,1,31,0,[]), (1,3,0,0,[]), (0,0,0,3,[]), (10,1,31,0,[]), (1,1,0,0,[]), (11,0,34,0,[]), (1,0,0,1,[]), (0,0,0,(-100004),[]), (24,118,2,0,[7]), (27,0,0,0,[])]
def mp_129 : List (Nat × List Nat) := [(0,[]), (1,[]), (2,[785,0]), (5,[]), (8,[]), (9,[]), (10,[]), (11,[768,0]), (14,[]), (17,[]), (18,[771]), (20,[760,0]), (23,[]), (24,[]), (25,[]), (26,[]), (27,[789,0]), (30,[]), (31,[]), (32,[]), (35,[]), (36,[]), (37,[]), (40,[]), (41,[]), (42,[]), (45,[]), (46,[]), (47,[]), (50,[]), (51,[]), (54,[]), (55,[793]), (57,[760,0]), (60,[])]
-- 130 LessonSpiralModel.allNeeds(I)I
def mc_130 : List MI := [(1,0,0,1,[]), (1,1,0,0,[]), (0,0,0,2,[]), (24,122,3,0,[7]), (2,2,0,0,[]), (0,0,0,(-1),[]), (2,3,0,0,[]), (1,3,0,0,[]), (1,2,0,0,[]), (10,0,39,0,[]), (1,2,0,0,[]), (2,3,0,0,[]), (0,0,0,0,[]), (2,4,0,0,[]), (1,4,0,0,[]), (1,0,0,1,[]), (13,7,0,0,[]), (0,0,0,0,[]), (15,0,0,0,[]), (10,3,38,0,[]), (1,2,0,0,[]), (1,2,0,0,[]), (1,4,0,0,[]), (4,7,0,0,[]), (0,0,0,1,[]), (4,3,0,0,[]), (0,0,0,1,[]), (10,1,33,0,[]), (1,0,0,1,[]), (1,4,0,0,[]), (0,0,0,2,[]), (24,122,3,0,[7]), (11,0,34,0,[]), (0,0,0,0,[]), (4,4,0,0,[]), (2,2,0,0,[]), (3,4,0,1,[]), (11,0,14,0,[]), (11,0,7,0,[]), (1,2,0,0,[]), (27,0,0,0,[])]
def mp_130 : List (Nat × List Nat) := [(0,[]), (1,[]), (2,[]), (3,[789,0]), (6,[]), (7,[]), (8,[]), (9,[]), (10,[]), (11,[]), (14,[]), (15,[]), (16,[]), (17,[]), (19,[]), (21,[]), (22,[709,0]), (25,[]), (26,[]), (27,[]), (30,[]), (31,[]), (32,[]), (34,[]), (35,[]), (36,[]), (37,[]), (38,[]), (41,[]), (42,[]), (44,[]), (45,[789,0]), (48,[]), (51,[]), (52,[]), (53,[]), (54,[]), (57,[]), (60,[]), (63,[]), (64,[])]
-- 131 LessonSpiralModel.need(IIZ)I
def mc_131 : List MI := [(1,0,0,1,[]), (1,1,0,0,[]), (24,120,2,0,[7]), (9,0,8,0,[]), (1,0,0,1,[]), (1,2,0,0,[]), (24,120,2,0,[7]), (9,1,12,0,[]), (1,0,0,1,[]), (0,0,0,(-100001),[]), (24,118,2,0,[7]), (27,0,0,0,[]), (1,3,0,0,[]), (9,0,30,0,[]), (1,1,0,0,[]), (1,2,0,0,[]), (10,0,26,0,[]), (1,0,0,1,[]), (1,2,0,0,[]), (24,130,2,0,[7]), (1,1,0,0,[]), (4,7,0,0,[]), (0,0,0,1,[]), (4,3,0,0,[]), (0,0,0,1,[]), (10,1,30,0,[]), (1,0,0,1,[]), (0,0,0,(-100007),[]), (24,118,2,0,[7]), (27,0,0,0,[]), (1,0,0,1,[]), (24,126,1,0,[7]), (1,0,0,1,[]), (1,1,0,0,[]), (0,0,0,2,[]), (24,122,3,0,[7]), (1,2,0,0,[]), (4,7,0,0,[]), (0,0,0,1,[]), (4,3,0,0,[]), (2,4,0,0,[]), (1,0,0,1,[]), (1,1,0,0,[]), (0,0,0,2,[]), (1,3,0,0,[]), (9,0,55,0,[]), (1,0,0,1,[]), (1,1,0,0,[]), (0,0,0,2,[]), (24,122,3,0,[7]), (0,0,0,1,[]), (1,2,0,0,[]), (4,6,0,0,[]), (4,4,0,0,[]), (11,0,65,0,[]), (1,0,0,1,[]), (1,1,0,0,[]), (0,0,0,2,[]), (24,122,3,0,[7]), (0,0,0,1,[]), (1,2,0,0,[]), (4,6,0,0,[]), (0,0,0,(-1),[]), (4,5,0,0,[]), (4,3,0,0,[]), (24,123,4,0,[7]), (1,4,0,0,[]), (1,3,0,0,[]), (9,0,71,0,[]), (0,0,0,1,[]), (11,0,72,0,[]), (0,0,0,0,[]), (10,1,75,0,[]), (0,0,0,0,[]), (11,0,76,0,[]), (0,0,0,1,[]), (27,0,0,0,[])]
def mp_131 : List (Nat × List Nat) := [(0,[]), (1,[]), (2,[785,0]), (5,[]), (8,[]), (9,[]), (10,[785,0]), (13,[]), (16,[]), (17,[771]), (19,[760,0]), (22,[]), (23,[]), (24,[]), (27,[]), (28,[]), (29,[]), (32,[]), (33,[]), (34,[798,0]), (37,[]), (38,[]), (39,[]), (40,[]), (41,[]), (42,[]), (45,[]), (46,[802]), (48,[760,0]), (51,[]), (52,[]), (53,[773,0]), (56,[]), (57,[]), (58,[]), (59,[789,0]), (62,[]), (63,[]), (64,[]), (65,[]), (66,[]), (68,[]), (69,[]), (70,[]), (71,[]), (72,[]), (75,[]), (76,[]), (77,[]), (78,[789,0]), (81,[]), (82,[]), (83,[]), (84,[]), (85,[]), (88,[]), (89,[]), (90,[]), (91,[789,0]), (94,[]), (95,[]), (96,[]), (97,[]), (98,[]), (99,[]), (100,[777,0]), (103,[]), (105,[]), (106,[]), (109,[]), (110,[]), (113,[]), (114,[]), (117,[]), (118,[]), (121,[]), (122,[])]
-- 132 LessonSpiralModel.change(III)I
def mc_132 : List MI := [(1,0,0,1,[]), (24,126,1,0,[7]), (1,0,0,1,[]), (1,1,0,0,[]), (1,2,0,0,[]), (24,122,3,0,[7]), (2,4,0,0,[]), (1,0,0,1,[]), (1,1,0,0,[]), (1,2,0,0,[]), (1,3,0,0,[]), (24,123,4,0,[7]), (1,4,0,0,[]), (27,0,0,0,[])]
def mp_132 : List (Nat × List Nat) := [(0,[]), (1,[773,0]), (4,[]), (5,[]), (6,[]), (7,[789,0]), (10,[]), (12,[]), (13,[]), (14,[]), (15,[]), (16,[777,0]), (19,[]), (21,[])]
-- 133 LessonSpiralModel.comes(II)I
def mc_133 : List MI := [(1,0,0,1,[]), (1,1,0,0,[]), (24,120,2,0,[7]), (9,0,9,0,[]), (1,2,0,0,[]), (0,0,0,0,[]), (0,0,0,9,[]), (29,119,3,0,[]), (9,1,13,0,[]), (1,0,0,1,[]), (0,0,0,(-100001),[]), (24,118,2,0,[7]), (27,0,0,0,[]), (1,0,0,1,[]), (1,1,0,0,[]), (24,124,2,0,[7]), (9,0,21,0,[]), (1,0,0,1,[]), (0,0,0,(-100004),[]), (24,118,2,0,[7]), (11,0,26,0,[]), (1,0,0,1,[]), (1,1,0,0,[]), (0,0,0,3,[]), (1,2,0,0,[]), (24,132,4,0,[7]), (27,0,0,0,[])]
def mp_133 : List (Nat × List Nat) := [(0,[]), (1,[]), (2,[785,0]), (5,[]), (8,[]), (9,[]), (10,[]), (12,[768,0]), (15,[]), (18,[]), (19,[771]), (21,[760,0]), (24,[]), (25,[]), (26,[]), (27,[807,0]), (30,[]), (33,[]), (34,[793]), (36,[760,0]), (39,[]), (42,[]), (43,[]), (44,[]), (45,[]), (46,[811,0]), (49,[])]
-- 134 LessonSpiralModel.standards(II)I
def mc_134 : List MI := [(1,0,0,1,[]), (1,1,0,0,[]), (24,120,2,0,[7]), (9,0,9,0,[]), (1,2,0,0,[]), (0,0,0,0,[]), (0,0,0,65535,[]), (29,119,3,0,[]), (9,1,13,0,[]), (1,0,0,1,[]), (0,0,0,(-100001),[]), (24,118,2,0,[7]), (27,0,0,0,[]), (1,0,0,1,[]), (1,1,0,0,[]), (0,0,0,4,[]), (1,2,0,0,[]), (24,132,4,0,[7]), (27,0,0,0,[])]
def mp_134 : List (Nat × List Nat) := [(0,[]), (1,[]), (2,[785,0]), (5,[]), (8,[]), (9,[]), (10,[819]), (12,[768,0]), (15,[]), (18,[]), (19,[771]), (21,[760,0]), (24,[]), (25,[]), (26,[]), (27,[]), (28,[]), (29,[811,0]), (32,[])]
-- 135 LessonSpiralModel.partner(II)I
def mc_135 : List MI := [(1,0,0,1,[]), (1,1,0,0,[]), (24,120,2,0,[7]), (9,0,11,0,[]), (1,2,0,0,[]), (0,0,0,(-1),[]), (10,0,15,0,[]), (1,0,0,1,[]), (1,2,0,0,[]), (24,120,2,0,[7]), (9,1,15,0,[]), (1,0,0,1,[]), (0,0,0,(-100001),[]), (24,118,2,0,[7]), (27,0,0,0,[]), (1,0,0,1,[]), (1,1,0,0,[]), (0,0,0,0,[]), (24,122,3,0,[7]), (0,0,0,3,[]), (10,0,25,0,[]), (1,0,0,1,[]), (0,0,0,(-100004),[]), (24,118,2,0,[7]), (27,0,0,0,[]), (1,1,0,0,[]), (1,2,0,0,[]), (10,1,32,0,[]), (1,0,0,1,[]), (0,0,0,(-100003),[]), (24,118,2,0,[7]), (11,0,37,0,[]), (1,0,0,1,[]), (1,1,0,0,[]), (0,0,0,5,[]), (1,2,0,0,[]), (24,132,4,0,[7]), (27,0,0,0,[])]
def mp_135 : List (Nat × List Nat) := [(0,[]), (1,[]), (2,[785,0]), (5,[]), (8,[]), (9,[]), (10,[]), (13,[]), (14,[]), (15,[785,0]), (18,[]), (21,[]), (22,[771]), (24,[760,0]), (27,[]), (28,[]), (29,[]), (30,[]), (31,[789,0]), (34,[]), (35,[]), (38,[]), (39,[793]), (41,[760,0]), (44,[]), (45,[]), (46,[]), (47,[]), (50,[]), (51,[824]), (53,[760,0]), (56,[]), (59,[]), (60,[]), (61,[]), (62,[]), (63,[811,0]), (66,[])]
-- 136 LessonSpiralModel.of(II)I
def mc_136 : List MI := [(1,0,0,1,[]), (1,1,0,0,[]), (24,120,2,0,[7]), (9,0,9,0,[]), (1,2,0,0,[]), (0,0,0,0,[]), (0,0,0,7,[]), (29,119,3,0,[]), (9,1,13,0,[]), (1,0,0,1,[]), (0,0,0,(-100001),[]), (24,118,2,0,[7]), (27,0,0,0,[]), (1,2,0,0,[]), (0,0,0,5,[]), (10,3,21,0,[]), (1,0,0,1,[]), (1,1,0,0,[]), (1,2,0,0,[]), (24,122,3,0,[7]), (11,0,27,0,[]), (1,0,0,1,[]), (1,1,0,0,[]), (1,2,0,0,[]), (0,0,0,1,[]), (4,0,0,0,[]), (24,122,3,0,[7]), (27,0,0,0,[])]
def mp_136 : List (Nat × List Nat) := [(0,[]), (1,[]), (2,[785,0]), (5,[]), (8,[]), (9,[]), (10,[]), (12,[768,0]), (15,[]), (18,[]), (19,[771]), (21,[760,0]), (24,[]), (25,[]), (26,[]), (27,[]), (30,[]), (31,[]), (32,[]), (33,[789,0]), (36,[]), (39,[]), (40,[]), (41,[]), (42,[]), (43,[]), (44,[789,0]), (47,[])]
-- 137 LessonSpiralModel.room(II)I
def mc_137 : List MI := [(1,1,0,0,[]), (29,121,1,0,[]), (9,0,8,0,[]), (1,2,0,0,[]), (0,0,0,0,[]), (0,0,0,40,[]), (29,119,3,0,[]), (9,1,12,0,[]), (1,0,0,1,[]), (0,0,0,(-100001),[]), (24,118,2,0,[7]), (27,0,0,0,[]), (1,0,0,1,[]), (24,126,1,0,[7]), (1,0,0,1,[]), (13,7,0,0,[]), (0,0,0,73,[]), (1,1,0,0,[]), (4,0,0,0,[]), (15,0,0,0,[]), (2,3,0,0,[]), (1,0,0,1,[]), (13,7,0,0,[]), (0,0,0,73,[]), (1,1,0,0,[]), (4,0,0,0,[]), (1,2,0,0,[]), (16,0,0,0,[]), (1,3,0,0,[]), (27,0,0,0,[])]
def mp_137 : List (Nat × List Nat) := [(0,[]), (1,[833,0]), (4,[]), (7,[]), (8,[]), (9,[]), (11,[768,0]), (14,[]), (17,[]), (18,[771]), (20,[760,0]), (23,[]), (24,[]), (25,[773,0]), (28,[]), (29,[709,0]), (32,[]), (34,[]), (35,[]), (36,[]), (37,[]), (38,[]), (39,[709,0]), (42,[]), (44,[]), (45,[]), (46,[]), (47,[]), (48,[]), (49,[])]
-- 138 LessonSpiralModel.snow(IZ)I
def mc_138 : List MI := [(1,1,0,0,[]), (29,121,1,0,[]), (9,1,7,0,[]), (1,0,0,1,[]), (0,0,0,(-100001),[]), (24,118,2,0,[7]), (27,0,0,0,[]), (1,0,0,1,[]), (24,126,1,0,[7]), (1,0,0,1,[]), (1,1,0,0,[]), (24,125,2,0,[7]), (2,3,0,0,[]), (1,0,0,1,[]), (13,7,0,0,[]), (0,0,0,79,[]), (1,1,0,0,[]), (4,0,0,0,[]), (1,2,0,0,[]), (9,0,22,0,[]), (0,0,0,1,[]), (11,0,23,0,[]), (0,0,0,0,[]), (16,0,0,0,[]), (1,3,0,0,[]), (1,2,0,0,[]), (10,1,29,0,[]), (0,0,0,0,[]), (11,0,30,0,[]), (0,0,0,1,[]), (27,0,0,0,[])]
def mp_138 : List (Nat × List Nat) := [(0,[]), (1,[833,0]), (4,[]), (7,[]), (8,[771]), (10,[760,0]), (13,[]), (14,[]), (15,[773,0]), (18,[]), (19,[]), (20,[840,0]), (23,[]), (24,[]), (25,[709,0]), (28,[]), (30,[]), (31,[]), (32,[]), (33,[]), (36,[]), (37,[]), (40,[]), (41,[]), (42,[]), (43,[]), (44,[]), (47,[]), (48,[]), (51,[]), (52,[])]
-- 139 LessonSpiralModel.test(I)I
def mc_139 : List MI := [(1,1,0,0,[]), (0,0,0,0,[]), (0,0,0,6,[]), (29,119,3,0,[]), (9,1,9,0,[]), (1,0,0,1,[]), (0,0,0,(-100001),[]), (24,118,2,0,[7]), (27,0,0,0,[]), (1,0,0,1,[]), (24,126,1,0,[7]), (1,0,0,1,[]), (13,7,0,0,[]), (0,0,0,85,[]), (15,0,0,0,[]), (2,2,0,0,[]), (1,0,0,1,[]), (13,7,0,0,[]), (0,0,0,85,[]), (1,1,0,0,[]), (16,0,0,0,[]), (1,2,0,0,[]), (27,0,0,0,[])]
def mp_139 : List (Nat × List Nat) := [(0,[]), (1,[]), (2,[]), (4,[768,0]), (7,[]), (10,[]), (11,[771]), (13,[760,0]), (16,[]), (17,[]), (18,[773,0]), (21,[]), (22,[709,0]), (25,[]), (27,[]), (28,[]), (29,[]), (30,[709,0]), (33,[]), (35,[]), (36,[]), (37,[]), (38,[])]
-- 140 LessonSpiralModel.isSheet(I)Z
def mc_140 : List MI := [(1,0,0,0,[]), (0,0,0,0,[]), (0,0,0,3,[]), (29,119,3,0,[]), (27,0,0,0,[])]
def mp_140 : List (Nat × List Nat) := [(0,[]), (1,[]), (2,[]), (3,[768,0]), (6,[])]
-- 141 LessonSpiralModel.sheet(III)I
def mc_141 : List MI := [(1,1,0,0,[]), (29,140,1,0,[]), (9,0,14,0,[]), (1,2,0,0,[]), (9,0,18,0,[]), (1,2,0,0,[]), (0,0,0,8,[]), (10,0,18,0,[]), (1,2,0,0,[]), (0,0,0,16,[]), (10,0,18,0,[]), (1,2,0,0,[]), (0,0,0,32,[]), (10,0,18,0,[]), (1,0,0,1,[]), (0,0,0,(-100001),[]), (24,118,2,0,[7]), (27,0,0,0,[]), (1,3,0,0,[]), (9,3,24,0,[]), (1,0,0,1,[]), (0,0,0,(-100003),[]), (24,118,2,0,[7]), (27,0,0,0,[]), (1,3,0,0,[]), (0,0,0,6,[]), (10,5,31,0,[]), (1,0,0,1,[]), (0,0,0,(-100001),[]), (24,118,2,0,[7]), (27,0,0,0,[]), (1,0,0,1,[]), (13,7,3,0,[]), (1,1,0,0,[]), (1,2,0,0,[]), (16,0,0,0,[]), (1,0,0,1,[]), (13,7,4,0,[]), (1,1,0,0,[]), (1,2,0,0,[]), (9,1,43,0,[]), (0,0,0,0,[]), (11,0,44,0,[]), (1,3,0,0,[]), (16,0,0,0,[]), (0,0,0,0,[]), (2,4,0,0,[]), (1,4,0,0,[]), (0,0,0,6,[]), (10,3,61,0,[]), (1,0,0,1,[]), (13,7,5,0,[]), (0,0,0,6,[]), (1,1,0,0,[]), (4,2,0,0,[]), (1,4,0,0,[]), (4,0,0,0,[]), (0,0,0,0,[]), (16,0,0,0,[]), (3,4,0,1,[]), (11,0,47,0,[]), (1,0,0,1,[]), (13,7,4,0,[]), (1,1,0,0,[]), (15,0,0,0,[]), (27,0,0,0,[])]
def mp_141 : List (Nat × List Nat) := [(0,[]), (1,[852,0]), (4,[]), (7,[]), (8,[]), (11,[]), (12,[]), (14,[]), (17,[]), (18,[]), (20,[]), (23,[]), (24,[]), (26,[]), (29,[]), (30,[771]), (32,[760,0]), (35,[]), (36,[]), (37,[]), (40,[]), (41,[824]), (43,[760,0]), (46,[]), (47,[]), (48,[]), (50,[]), (53,[]), (54,[771]), (56,[760,0]), (59,[]), (60,[]), (61,[712,0]), (64,[]), (65,[]), (66,[]), (67,[]), (68,[713,0]), (71,[]), (72,[]), (73,[]), (76,[]), (77,[]), (80,[]), (81,[]), (82,[]), (83,[]), (85,[]), (87,[]), (89,[]), (92,[]), (93,[714,0]), (96,[]), (98,[]), (99,[]), (100,[]), (102,[]), (103,[]), (104,[]), (105,[]), (108,[]), (111,[]), (112,[713,0]), (115,[]), (116,[]), (117,[])]
-- 142 LessonSpiralModel.write(III)I
def mc_142 : List MI := [(1,1,0,0,[]), (29,140,1,0,[]), (9,1,7,0,[]), (1,0,0,1,[]), (0,0,0,(-100001),[]), (24,118,2,0,[7]), (27,0,0,0,[]), (1,0,0,1,[]), (13,7,3,0,[]), (1,1,0,0,[]), (15,0,0,0,[]), (9,1,16,0,[]), (1,0,0,1,[]), (0,0,0,(-100002),[]), (24,118,2,0,[7]), (27,0,0,0,[]), (1,2,0,0,[]), (9,2,24,0,[]), (1,2,0,0,[]), (1,0,0,1,[]), (13,7,4,0,[]), (1,1,0,0,[]), (15,0,0,0,[]), (10,2,28,0,[]), (1,0,0,1,[]), (0,0,0,(-100001),[]), (24,118,2,0,[7]), (27,0,0,0,[]), (1,0,0,1,[]), (13,7,5,0,[]), (0,0,0,6,[]), (1,1,0,0,[]), (4,2,0,0,[]), (1,2,0,0,[]), (4,0,0,0,[]), (1,0,0,1,[]), (13,7,3,0,[]), (1,1,0,0,[]), (15,0,0,0,[]), (0,0,0,8,[]), (10,1,44,0,[]), (1,3,0,0,[]), (5,1,0,0,[]), (11,0,54,0,[]), (1,0,0,1,[]), (13,7,3,0,[]), (1,1,0,0,[]), (15,0,0,0,[]), (0,0,0,16,[]), (10,1,53,0,[]), (1,3,0,0,[]), (5,2,0,0,[]), (11,0,54,0,[]), (1,3,0,0,[]), (16,0,0,0,[]), (0,0,0,0,[]), (27,0,0,0,[])]
def mp_142 : List (Nat × List Nat) := [(0,[]), (1,[852,0]), (4,[]), (7,[]), (8,[771]), (10,[760,0]), (13,[]), (14,[]), (15,[712,0]), (18,[]), (19,[]), (20,[]), (23,[]), (24,[859]), (26,[760,0]), (29,[]), (30,[]), (31,[]), (34,[]), (35,[]), (36,[713,0]), (39,[]), (40,[]), (41,[]), (44,[]), (45,[771]), (47,[760,0]), (50,[]), (51,[]), (52,[714,0]), (55,[]), (57,[]), (58,[]), (59,[]), (60,[]), (61,[]), (62,[712,0]), (65,[]), (66,[]), (67,[]), (69,[]), (72,[]), (73,[]), (74,[]), (77,[]), (78,[712,0]), (81,[]), (82,[]), (83,[]), (85,[]), (88,[]), (89,[]), (90,[]), (93,[]), (94,[]), (95,[]), (96,[])]
-- 143 LessonSpiralModel.hasPart(III)Z
def mc_143 : List MI := [(1,2,0,0,[]), (9,2,20,0,[]), (1,3,0,0,[]), (9,2,20,0,[]), (1,3,0,0,[]), (1,0,0,1,[]), (13,7,4,0,[]), (1,1,0,0,[]), (15,0,0,0,[]), (10,4,20,0,[]), (1,2,0,0,[]), (1,0,0,1,[]), (13,7,4,0,[]), (1,1,0,0,[]), (15,0,0,0,[]), (1,3,0,0,[]), (4,1,0,0,[]), (10,4,20,0,[]), (0,0,0,1,[]), (11,0,21,0,[]), (0,0,0,0,[]), (27,0,0,0,[])]
def mp_143 : List (Nat × List Nat) := [(0,[]), (1,[]), (4,[]), (5,[]), (8,[]), (9,[]), (10,[713,0]), (13,[]), (14,[]), (15,[]), (18,[]), (19,[]), (20,[713,0]), (23,[]), (24,[]), (25,[]), (26,[]), (27,[]), (30,[]), (31,[]), (34,[]), (35,[])]
-- 144 LessonSpiralModel.copy(IIIII)I
def mc_144 : List MI := [(1,1,0,0,[]), (29,140,1,0,[]), (9,0,6,0,[]), (1,3,0,0,[]), (29,140,1,0,[]), (9,1,10,0,[]), (1,0,0,1,[]), (0,0,0,(-100001),[]), (24,118,2,0,[7]), (27,0,0,0,[]), (1,0,0,1,[]), (13,7,3,0,[]), (1,1,0,0,[]), (15,0,0,0,[]), (9,0,20,0,[]), (1,0,0,1,[]), (13,7,3,0,[]), (1,3,0,0,[]), (15,0,0,0,[]), (9,1,24,0,[]), (1,0,0,1,[]), (0,0,0,(-100002),[]), (24,118,2,0,[7]), (27,0,0,0,[]), (1,0,0,1,[]), (13,7,3,0,[]), (1,1,0,0,[]), (15,0,0,0,[]), (1,0,0,1,[]), (13,7,3,0,[]), (1,3,0,0,[]), (15,0,0,0,[]), (10,0,37,0,[]), (1,0,0,1,[]), (0,0,0,(-100004),[]), (24,118,2,0,[7]), (27,0,0,0,[]), (1,0,0,1,[]), (1,1,0,0,[]), (1,2,0,0,[]), (1,5,0,0,[]), (24,143,4,0,[7]), (9,0,49,0,[]), (1,0,0,1,[]), (1,3,0,0,[]), (1,4,0,0,[]), (1,5,0,0,[]), (24,143,4,0,[7]), (9,1,53,0,[]), (1,0,0,1,[]), (0,0,0,(-100001),[]), (24,118,2,0,[7]), (27,0,0,0,[]), (0,0,0,0,[]), (2,6,0,0,[]), (1,6,0,0,[]), (1,5,0,0,[]), (10,3,74,0,[]), (1,0,0,1,[]), (13,7,7,0,[]), (1,6,0,0,[]), (1,0,0,1,[]), (13,7,5,0,[]), (0,0,0,6,[]), (1,1,0,0,[]), (4,2,0,0,[]), (1,2,0,0,[]), (4,0,0,0,[]), (1,6,0,0,[]), (4,0,0,0,[]), (15,0,0,0,[]), (16,0,0,0,[]), (3,6,0,1,[]), (11,0,55,0,[]), (0,0,0,0,[]), (2,6,0,0,[]), (1,6,0,0,[]), (1,5,0,0,[]), (10,3,95,0,[]), (1,0,0,1,[]), (13,7,5,0,[]), (0,0,0,6,[]), (1,3,0,0,[]), (4,2,0,0,[]), (1,4,0,0,[]), (4,0,0,0,[]), (1,6,0,0,[]), (4,0,0,0,[]), (1,0,0,1,[]), (13,7,7,0,[]), (1,6,0,0,[]), (15,0,0,0,[]), (16,0,0,0,[]), (3,6,0,1,[]), (11,0,76,0,[]), (1,5,0,0,[]), (27,0,0,0,[])]
def mp_144 : List (Nat × List Nat) := [(0,[]), (1,[852,0]), (4,[]), (7,[]), (8,[852,0]), (11,[]), (14,[]), (15,[771]), (17,[760,0]), (20,[]), (21,[]), (22,[712,0]), (25,[]), (26,[]), (27,[]), (30,[]), (31,[712,0]), (34,[]), (35,[]), (36,[]), (39,[]), (40,[859]), (42,[760,0]), (45,[]), (46,[]), (47,[712,0]), (50,[]), (51,[]), (52,[]), (53,[712,0]), (56,[]), (57,[]), (58,[]), (61,[]), (62,[793]), (64,[760,0]), (67,[]), (68,[]), (69,[]), (70,[]), (71,[]), (73,[864,0]), (76,[]), (79,[]), (80,[]), (81,[]), (83,[]), (85,[864,0]), (88,[]), (91,[]), (92,[771]), (94,[760,0]), (97,[]), (98,[]), (99,[]), (101,[]), (103,[]), (105,[]), (108,[]), (109,[716,0]), (112,[]), (114,[]), (115,[714,0]), (118,[]), (120,[]), (121,[]), (122,[]), (123,[]), (124,[]), (126,[]), (127,[]), (128,[]), (129,[]), (132,[]), (135,[]), (136,[]), (138,[]), (140,[]), (142,[]), (145,[]), (146,[714,0]), (149,[]), (151,[]), (152,[]), (153,[]), (155,[]), (156,[]), (158,[]), (159,[]), (160,[716,0]), (163,[]), (165,[]), (166,[]), (167,[]), (170,[]), (173,[]), (175,[])]
-- 145 LessonSpiralModel.read(I)I
def mc_145 : List MI := [(1,1,0,0,[]), (29,140,1,0,[]), (9,1,7,0,[]), (1,0,0,1,[]), (0,0,0,(-100001),[]), (24,118,2,0,[7]), (27,0,0,0,[]), (1,0,0,1,[]), (13,7,3,0,[]), (1,1,0,0,[]), (15,0,0,0,[]), (9,1,16,0,[]), (1,0,0,1,[]), (0,0,0,(-100002),[]), (24,118,2,0,[7]), (27,0,0,0,[]), (0,0,0,0,[]), (2,2,0,0,[]), (1,2,0,0,[]), (1,0,0,1,[]), (13,7,4,0,[]), (1,1,0,0,[]), (15,0,0,0,[]), (10,3,40,0,[]), (1,0,0,1,[]), (13,7,5,0,[]), (0,0,0,6,[]), (1,1,0,0,[]), (4,2,0,0,[]), (1,2,0,0,[]), (4,0,0,0,[]), (15,0,0,0,[]), (0,0,0,40,[]), (10,5,38,0,[]), (1,0,0,1,[]), (0,0,0,(-100001),[]), (24,118,2,0,[7]), (27,0,0,0,[]), (3,2,0,1,[]), (11,0,18,0,[]), (1,0,0,1,[]), (24,126,1,0,[7]), (0,0,0,0,[]), (2,2,0,0,[]), (1,2,0,0,[]), (1,0,0,1,[]), (13,7,4,0,[]), (1,1,0,0,[]), (15,0,0,0,[]), (10,3,88,0,[]), (1,0,0,1,[]), (13,7,5,0,[]), (0,0,0,6,[]), (1,1,0,0,[]), (4,2,0,0,[]), (1,2,0,0,[]), (4,0,0,0,[]), (15,0,0,0,[]), (2,3,0,0,[]), (1,0,0,1,[]), (13,7,0,0,[]), (0,0,0,79,[]), (1,2,0,0,[]), (4,0,0,0,[]), (1,3,0,0,[]), (9,3,68,0,[]), (0,0,0,1,[]), (11,0,69,0,[]), (0,0,0,0,[]), (16,0,0,0,[]), (1,0,0,1,[]), (13,7,0,0,[]), (0,0,0,73,[]), (1,2,0,0,[]), (4,0,0,0,[]), (1,3,0,0,[]), (9,3,84,0,[]), (1,0,0,1,[]), (13,7,0,0,[]), (0,0,0,73,[]), (1,2,0,0,[]), (4,0,0,0,[]), (15,0,0,0,[]), (11,0,85,0,[]), (1,3,0,0,[]), (16,0,0,0,[]), (3,2,0,1,[]), (11,0,44,0,[]), (1,0,0,1,[]), (13,7,4,0,[]), (1,1,0,0,[]), (15,0,0,0,[]), (27,0,0,0,[])]
def mp_145 : List (Nat × List Nat) := [(0,[]), (1,[852,0]), (4,[]), (7,[]), (8,[771]), (10,[760,0]), (13,[]), (14,[]), (15,[712,0]), (18,[]), (19,[]), (20,[]), (23,[]), (24,[859]), (26,[760,0]), (29,[]), (30,[]), (31,[]), (32,[]), (33,[]), (34,[713,0]), (37,[]), (38,[]), (39,[]), (42,[]), (43,[714,0]), (46,[]), (48,[]), (49,[]), (50,[]), (51,[]), (52,[]), (53,[]), (55,[]), (58,[]), (59,[771]), (61,[760,0]), (64,[]), (65,[]), (68,[]), (71,[]), (72,[773,0]), (75,[]), (76,[]), (77,[]), (78,[]), (79,[713,0]), (82,[]), (83,[]), (84,[]), (87,[]), (88,[714,0]), (91,[]), (93,[]), (94,[]), (95,[]), (96,[]), (97,[]), (98,[]), (99,[]), (100,[709,0]), (103,[]), (105,[]), (106,[]), (107,[]), (108,[]), (111,[]), (112,[]), (115,[]), (116,[]), (117,[]), (118,[709,0]), (121,[]), (123,[]), (124,[]), (125,[]), (126,[]), (129,[]), (130,[709,0]), (133,[]), (135,[]), (136,[]), (137,[]), (138,[]), (141,[]), (142,[]), (143,[]), (146,[]), (149,[]), (150,[713,0]), (153,[]), (154,[]), (155,[])]
-- 146 LessonSpiralModel.lay(III)I
def mc_146 : List MI := [(1,0,0,1,[]), (1,1,0,0,[]), (24,120,2,0,[7]), (9,0,10,0,[]), (1,3,0,0,[]), (0,0,0,(-1),[]), (10,0,14,0,[]), (1,3,0,0,[]), (29,121,1,0,[]), (9,1,14,0,[]), (1,0,0,1,[]), (0,0,0,(-100001),[]), (24,118,2,0,[7]), (27,0,0,0,[]), (1,0,0,1,[]), (1,1,0,0,[]), (24,124,2,0,[7]), (9,0,22,0,[]), (1,0,0,1,[]), (0,0,0,(-100004),[]), (24,118,2,0,[7]), (11,0,27,0,[]), (1,0,0,1,[]), (1,1,0,0,[]), (1,2,0,0,[]), (1,3,0,0,[]), (24,132,4,0,[7]), (27,0,0,0,[])]
def mp_146 : List (Nat × List Nat) := [(0,[]), (1,[]), (2,[785,0]), (5,[]), (8,[]), (9,[]), (10,[]), (13,[]), (14,[833,0]), (17,[]), (20,[]), (21,[771]), (23,[760,0]), (26,[]), (27,[]), (28,[]), (29,[807,0]), (32,[]), (35,[]), (36,[793]), (38,[760,0]), (41,[]), (44,[]), (45,[]), (46,[]), (47,[]), (48,[811,0]), (51,[])]
-- 147 LessonSpiralModel.put(II)I
def mc_147 : List MI := [(1,0,0,1,[]), (1,1,0,0,[]), (0,0,0,6,[]), (1,2,0,0,[]), (24,146,4,0,[7]), (27,0,0,0,[])]
def mp_147 : List (Nat × List Nat) := [(0,[]), (1,[]), (2,[]), (4,[]), (5,[876,0]), (8,[])]
-- 148 LessonSpiralModel.again(II)I
def mc_148 : List MI := [(1,0,0,1,[]), (1,1,0,0,[]), (0,0,0,7,[]), (1,2,0,0,[]), (24,146,4,0,[7]), (27,0,0,0,[])]
def mp_148 : List (Nat × List Nat) := [(0,[]), (1,[]), (2,[]), (4,[]), (5,[876,0]), (8,[])]
-- 149 LessonSpiralModel.loadOf(I)I
def mc_149 : List MI := [(0,0,0,0,[]), (2,2,0,0,[]), (0,0,0,0,[]), (2,3,0,0,[]), (1,3,0,0,[]), (1,0,0,1,[]), (13,7,0,0,[]), (0,0,0,0,[]), (15,0,0,0,[]), (10,3,54,0,[]), (1,0,0,1,[]), (1,3,0,0,[]), (24,124,2,0,[7]), (9,0,25,0,[]), (1,2,0,0,[]), (1,0,0,1,[]), (1,1,0,0,[]), (24,125,2,0,[7]), (9,0,21,0,[]), (0,0,0,0,[]), (11,0,22,0,[]), (0,0,0,1,[]), (4,0,0,0,[]), (2,2,0,0,[]), (11,0,52,0,[]), (1,2,0,0,[]), (1,0,0,1,[]), (1,3,0,0,[]), (0,0,0,6,[]), (24,122,3,0,[7]), (1,1,0,0,[]), (10,1,37,0,[]), (1,0,0,1,[]), (1,3,0,0,[]), (0,0,0,1,[]), (24,122,3,0,[7]), (11,0,38,0,[]), (0,0,0,0,[]), (4,0,0,0,[]), (2,2,0,0,[]), (1,2,0,0,[]), (1,0,0,1,[]), (1,3,0,0,[]), (0,0,0,7,[]), (24,122,3,0,[7]), (1,1,0,0,[]), (10,1,49,0,[]), (0,0,0,1,[]), (11,0,50,0,[]), (0,0,0,0,[]), (4,0,0,0,[]), (2,2,0,0,[]), (3,3,0,1,[]), (11,0,4,0,[]), (1,2,0,0,[]), (27,0,0,0,[])]
def mp_149 : List (Nat × List Nat) := [(0,[]), (1,[]), (2,[]), (3,[]), (4,[]), (5,[]), (6,[709,0]), (9,[]), (10,[]), (11,[]), (14,[]), (15,[]), (16,[807,0]), (19,[]), (22,[]), (23,[]), (24,[]), (25,[840,0]), (28,[]), (31,[]), (32,[]), (35,[]), (36,[]), (37,[]), (38,[]), (41,[]), (42,[]), (43,[]), (44,[]), (46,[789,0]), (49,[]), (50,[]), (53,[]), (54,[]), (55,[]), (56,[789,0]), (59,[]), (62,[]), (63,[]), (64,[]), (65,[]), (66,[]), (67,[]), (68,[]), (70,[789,0]), (73,[]), (74,[]), (77,[]), (78,[]), (81,[]), (82,[]), (83,[]), (84,[]), (87,[]), (90,[]), (91,[])]
-- 150 LessonSpiralModel.keeps(II)Z
def mc_150 : List MI := [(1,0,0,1,[]), (1,2,0,0,[]), (0,0,0,6,[]), (24,122,3,0,[7]), (2,3,0,0,[]), (1,0,0,1,[]), (1,2,0,0,[]), (0,0,0,7,[]), (24,122,3,0,[7]), (2,4,0,0,[]), (1,1,0,0,[]), (12,0,99,1,[12,18,26,65]), (1,3,0,0,[]), (9,2,16,0,[]), (0,0,0,1,[]), (11,0,17,0,[]), (0,0,0,0,[]), (27,0,0,0,[]), (1,0,0,1,[]), (1,3,0,0,[]), (24,125,2,0,[7]), (9,1,24,0,[]), (0,0,0,1,[]), (11,0,25,0,[]), (0,0,0,0,[]), (27,0,0,0,[]), (0,0,0,1,[]), (2,5,0,0,[]), (0,0,0,0,[]), (2,6,0,0,[]), (1,6,0,0,[]), (1,0,0,1,[]), (13,7,0,0,[]), (0,0,0,0,[]), (15,0,0,0,[]), (10,3,63,0,[]), (1,5,0,0,[]), (1,0,0,1,[]), (1,2,0,0,[]), (0,0,0,2,[]), (24,122,3,0,[7]), (1,6,0,0,[]), (4,7,0,0,[]), (0,0,0,1,[]), (4,3,0,0,[]), (9,0,56,0,[]), (1,0,0,1,[]), (1,6,0,0,[]), (24,124,2,0,[7]), (9,1,56,0,[]), (1,0,0,1,[]), (1,6,0,0,[]), (0,0,0,6,[]), (24,122,3,0,[7]), (1,3,0,0,[]), (10,3,58,0,[]), (0,0,0,1,[]), (11,0,59,0,[]), (0,0,0,0,[]), (4,3,0,0,[]), (2,5,0,0,[]), (3,6,0,1,[]), (11,0,30,0,[]), (1,5,0,0,[]), (27,0,0,0,[]), (1,4,0,0,[]), (1,3,0,0,[]), (4,1,0,0,[]), (2,6,0,0,[]), (1,0,0,1,[]), (1,2,0,0,[]), (0,0,0,3,[]), (24,122,3,0,[7]), (9,1,80,0,[]), (1,4,0,0,[]), (9,3,78,0,[]), (0,0,0,1,[]), (11,0,98,0,[]), (0,0,0,0,[]), (11,0,98,0,[]), (1,4,0,0,[]), (9,2,97,0,[]), (1,0,0,1,[]), (1,4,0,0,[]), (24,125,2,0,[7]), (9,1,97,0,[]), (1,6,0,0,[]), (0,0,0,1,[]), (10,2,97,0,[]), (1,6,0,0,[]), (1,0,0,1,[]), (1,2,0,0,[]), (0,0,0,3,[]), (24,122,3,0,[7]), (10,4,97,0,[]), (0,0,0,1,[]), (11,0,98,0,[]), (0,0,0,0,[]), (27,0,0,0,[]), (1,0,0,1,[]), (1,2,0,0,[]), (0,0,0,0,[]), (24,122,3,0,[7]), (0,0,0,1,[]), (10,0,111,0,[]), (1,0,0,1,[]), (1,2,0,0,[]), (0,0,0,0,[]), (24,122,3,0,[7]), (0,0,0,3,[]), (10,1,113,0,[]), (0,0,0,1,[]), (11,0,114,0,[]), (0,0,0,0,[]), (2,7,0,0,[]), (1,0,0,1,[]), (1,2,0,0,[]), (0,0,0,0,[]), (24,122,3,0,[7]), (0,0,0,3,[]), (10,1,126,0,[]), (1,0,0,1,[]), (1,2,0,0,[]), (0,0,0,5,[]), (24,122,3,0,[7]), (11,0,127,0,[]), (0,0,0,(-1),[]), (2,8,0,0,[]), (1,8,0,0,[]), (9,2,140,0,[]), (1,0,0,1,[]), (1,8,0,0,[]), (24,124,2,0,[7]), (9,1,140,0,[]), (1,0,0,1,[]), (1,8,0,0,[]), (0,0,0,6,[]), (24,122,3,0,[7]), (1,3,0,0,[]), (10,1,142,0,[]), (0,0,0,1,[]), (11,0,143,0,[]), (0,0,0,0,[]), (2,9,0,0,[]), (1,7,0,0,[]), (9,0,158,0,[]), (1,3,0,0,[]), (1,0,0,1,[]), (13,7,0,0,[]), (0,0,0,85,[]), (15,0,0,0,[]), (10,3,162,0,[]), (1,4,0,0,[]), (1,0,0,1,[]), (13,7,0,0,[]), (0,0,0,85,[]), (15,0,0,0,[]), (10,3,162,0,[]), (1,9,0,0,[]), (9,0,162,0,[]), (0,0,0,1,[]), (11,0,163,0,[]), (0,0,0,0,[]), (27,0,0,0,[])]
def mp_150 : List (Nat × List Nat) := [(0,[]), (1,[]), (2,[]), (4,[789,0]), (7,[]), (8,[]), (9,[]), (10,[]), (12,[789,0]), (15,[]), (17,[]), (18,[]), (48,[]), (49,[]), (52,[]), (53,[]), (56,[]), (57,[]), (58,[]), (59,[]), (60,[840,0]), (63,[]), (66,[]), (67,[]), (70,[]), (71,[]), (72,[]), (73,[]), (75,[]), (76,[]), (78,[]), (80,[]), (81,[709,0]), (84,[]), (85,[]), (86,[]), (89,[]), (91,[]), (92,[]), (93,[]), (94,[789,0]), (97,[]), (99,[]), (100,[]), (101,[]), (102,[]), (105,[]), (106,[]), (108,[807,0]), (111,[]), (114,[]), (115,[]), (117,[]), (119,[789,0]), (122,[]), (123,[]), (126,[]), (127,[]), (130,[]), (131,[]), (132,[]), (134,[]), (137,[]), (140,[]), (142,[]), (143,[]), (145,[]), (146,[]), (147,[]), (149,[]), (150,[]), (151,[]), (152,[789,0]), (155,[]), (158,[]), (160,[]), (163,[]), (164,[]), (167,[]), (168,[]), (171,[]), (173,[]), (176,[]), (177,[]), (179,[840,0]), (182,[]), (185,[]), (187,[]), (188,[]), (191,[]), (193,[]), (194,[]), (195,[]), (196,[789,0]), (199,[]), (202,[]), (203,[]), (206,[]), (207,[]), (208,[]), (209,[]), (210,[]), (211,[789,0]), (214,[]), (215,[]), (218,[]), (219,[]), (220,[]), (221,[789,0]), (224,[]), (225,[]), (228,[]), (229,[]), (232,[]), (233,[]), (235,[]), (236,[]), (237,[]), (238,[789,0]), (241,[]), (242,[]), (245,[]), (246,[]), (247,[]), (248,[789,0]), (251,[]), (254,[]), (255,[]), (257,[]), (259,[]), (262,[]), (263,[]), (265,[807,0]), (268,[]), (271,[]), (272,[]), (274,[]), (276,[789,0]), (279,[]), (280,[]), (283,[]), (284,[]), (287,[]), (288,[]), (290,[]), (292,[]), (295,[]), (296,[]), (297,[709,0]), (300,[]), (302,[]), (303,[]), (306,[]), (308,[]), (309,[709,0]), (312,[]), (314,[]), (315,[]), (318,[]), (320,[]), (323,[]), (324,[]), (327,[]), (328,[])]
-- 151 LessonSpiralModel.faultOf()I
def mc_151 : List MI := [(0,0,0,1,[]), (2,1,0,0,[]), (1,1,0,0,[]), (0,0,0,5,[]), (10,4,32,0,[]), (0,0,0,0,[]), (2,2,0,0,[]), (1,2,0,0,[]), (1,0,0,1,[]), (13,7,0,0,[]), (0,0,0,0,[]), (15,0,0,0,[]), (10,3,30,0,[]), (1,0,0,1,[]), (1,2,0,0,[]), (24,124,2,0,[7]), (9,1,28,0,[]), (1,0,0,1,[]), (1,1,0,0,[]), (1,2,0,0,[]), (24,150,3,0,[7]), (9,1,28,0,[]), (0,0,0,100,[]), (1,1,0,0,[]), (4,2,0,0,[]), (1,2,0,0,[]), (4,0,0,0,[]), (27,0,0,0,[]), (3,2,0,1,[]), (11,0,7,0,[]), (3,1,0,1,[]), (11,0,2,0,[]), (0,0,0,0,[]), (2,1,0,0,[]), (1,1,0,0,[]), (0,0,0,6,[]), (10,3,51,0,[]), (1,0,0,1,[]), (1,1,0,0,[]), (24,125,2,0,[7]), (9,0,49,0,[]), (1,0,0,1,[]), (1,1,0,0,[]), (24,149,2,0,[7]), (9,5,49,0,[]), (0,0,0,600,[]), (1,1,0,0,[]), (4,0,0,0,[]), (27,0,0,0,[]), (3,1,0,1,[]), (11,0,34,0,[]), (0,0,0,0,[]), (2,1,0,0,[]), (1,1,0,0,[]), (0,0,0,6,[]), (10,3,72,0,[]), (1,0,0,1,[]), (1,1,0,0,[]), (24,149,2,0,[7]), (1,0,0,1,[]), (13,7,0,0,[]), (0,0,0,73,[]), (1,1,0,0,[]), (4,0,0,0,[]), (15,0,0,0,[]), (10,5,70,0,[]), (0,0,0,700,[]), (1,1,0,0,[]), (4,0,0,0,[]), (27,0,0,0,[]), (3,1,0,1,[]), (11,0,53,0,[]), (0,0,0,0,[]), (27,0,0,0,[])]
def mp_151 : List (Nat × List Nat) := [(0,[]), (1,[]), (2,[]), (3,[]), (4,[]), (7,[]), (8,[]), (9,[]), (10,[]), (11,[709,0]), (14,[]), (15,[]), (16,[]), (19,[]), (20,[]), (21,[807,0]), (24,[]), (27,[]), (28,[]), (29,[]), (30,[892,0]), (33,[]), (36,[]), (38,[]), (39,[]), (40,[]), (41,[]), (42,[]), (43,[]), (46,[]), (49,[]), (52,[]), (55,[]), (56,[]), (57,[]), (58,[]), (60,[]), (63,[]), (64,[]), (65,[840,0]), (68,[]), (71,[]), (72,[]), (73,[896,0]), (76,[]), (79,[]), (82,[]), (83,[]), (84,[]), (85,[]), (88,[]), (91,[]), (92,[]), (93,[]), (94,[]), (96,[]), (99,[]), (100,[]), (101,[896,0]), (104,[]), (105,[709,0]), (108,[]), (110,[]), (111,[]), (112,[]), (113,[]), (116,[]), (119,[]), (120,[]), (121,[]), (122,[]), (125,[]), (128,[]), (129,[])]
-- 152 LessonSpiralModel.fault()I
def mc_152 : List MI := [(1,0,0,1,[]), (24,151,1,0,[7]), (27,0,0,0,[])]
def mp_152 : List (Nat × List Nat) := [(0,[]), (1,[888,0]), (4,[])]
-- 153 LessonSpiralModel.load(I)I
def mc_153 : List MI := [(1,1,0,0,[]), (29,121,1,0,[]), (9,0,7,0,[]), (1,0,0,1,[]), (1,1,0,0,[]), (24,149,2,0,[7]), (11,0,10,0,[]), (1,0,0,1,[]), (0,0,0,(-100001),[]), (24,118,2,0,[7]), (27,0,0,0,[])]
def mp_153 : List (Nat × List Nat) := [(0,[]), (1,[833,0]), (4,[]), (7,[]), (8,[]), (9,[896,0]), (12,[]), (15,[]), (16,[771]), (18,[760,0]), (21,[])]
-- 154 LessonSpiralModel.evennessOf()I
def mc_154 : List MI := [(0,0,0,0,[]), (2,1,0,0,[]), (0,0,0,0,[]), (2,2,0,0,[]), (1,2,0,0,[]), (0,0,0,6,[]), (10,3,19,0,[]), (1,1,0,0,[]), (1,0,0,1,[]), (1,2,0,0,[]), (24,149,2,0,[7]), (1,0,0,1,[]), (1,2,0,0,[]), (24,149,2,0,[7]), (4,2,0,0,[]), (4,0,0,0,[]), (2,1,0,0,[]), (3,2,0,1,[]), (11,0,4,0,[]), (1,1,0,0,[]), (27,0,0,0,[])]
def mp_154 : List (Nat × List Nat) := [(0,[]), (1,[]), (2,[]), (3,[]), (4,[]), (5,[]), (7,[]), (10,[]), (11,[]), (12,[]), (13,[896,0]), (16,[]), (17,[]), (18,[896,0]), (21,[]), (22,[]), (23,[]), (24,[]), (27,[]), (30,[]), (31,[])]
-- 155 LessonSpiralModel.evenness()I
def mc_155 : List MI := [(1,0,0,1,[]), (24,154,1,0,[7]), (27,0,0,0,[])]
def mp_155 : List (Nat × List Nat) := [(0,[]), (1,[908,0]), (4,[])]
-- 156 LessonSpiralModel.firstSecond(I)I
def mc_156 : List MI := [(1,0,0,1,[]), (1,1,0,0,[]), (0,0,0,3,[]), (24,122,3,0,[7]), (9,1,7,0,[]), (0,0,0,(-1),[]), (11,0,13,0,[]), (1,0,0,1,[]), (1,1,0,0,[]), (0,0,0,6,[]), (24,122,3,0,[7]), (0,0,0,1,[]), (4,0,0,0,[]), (27,0,0,0,[])]
def mp_156 : List (Nat × List Nat) := [(0,[]), (1,[]), (2,[]), (3,[789,0]), (6,[]), (9,[]), (10,[]), (13,[]), (14,[]), (15,[]), (17,[789,0]), (20,[]), (21,[]), (22,[])]
-- 157 LessonSpiralModel.mayStand(I)Z
def mc_157 : List MI := [(1,0,0,1,[]), (1,1,0,0,[]), (0,0,0,6,[]), (24,122,3,0,[7]), (0,0,0,6,[]), (10,3,24,0,[]), (1,0,0,1,[]), (1,1,0,0,[]), (0,0,0,7,[]), (24,122,3,0,[7]), (0,0,0,6,[]), (10,3,24,0,[]), (1,0,0,1,[]), (0,0,0,2,[]), (1,1,0,0,[]), (24,150,3,0,[7]), (9,0,24,0,[]), (1,0,0,1,[]), (0,0,0,4,[]), (1,1,0,0,[]), (24,150,3,0,[7]), (9,0,24,0,[]), (0,0,0,1,[]), (11,0,25,0,[]), (0,0,0,0,[]), (27,0,0,0,[])]
def mp_157 : List (Nat × List Nat) := [(0,[]), (1,[]), (2,[]), (4,[789,0]), (7,[]), (9,[]), (12,[]), (13,[]), (14,[]), (16,[789,0]), (19,[]), (21,[]), (24,[]), (25,[]), (26,[]), (27,[892,0]), (30,[]), (33,[]), (34,[]), (35,[]), (36,[892,0]), (39,[]), (42,[]), (43,[]), (46,[]), (47,[])]
-- 158 LessonSpiralModel.next(I)Z
def mc_158 : List MI := [(1,0,0,1,[]), (1,1,0,0,[]), (0,0,0,3,[]), (24,122,3,0,[7]), (9,5,22,0,[]), (1,0,0,1,[]), (1,1,0,0,[]), (0,0,0,7,[]), (24,122,3,0,[7]), (0,0,0,5,[]), (10,3,22,0,[]), (1,0,0,1,[]), (1,1,0,0,[]), (0,0,0,7,[]), (1,0,0,1,[]), (1,1,0,0,[]), (0,0,0,7,[]), (24,122,3,0,[7]), (0,0,0,1,[]), (4,0,0,0,[]), (24,123,4,0,[7]), (11,0,39,0,[]), (1,0,0,1,[]), (1,1,0,0,[]), (0,0,0,6,[]), (1,0,0,1,[]), (1,1,0,0,[]), (0,0,0,6,[]), (24,122,3,0,[7]), (0,0,0,1,[]), (4,0,0,0,[]), (24,123,4,0,[7]), (1,0,0,1,[]), (1,1,0,0,[]), (0,0,0,7,[]), (1,0,0,1,[]), (1,1,0,0,[]), (24,156,2,0,[7]), (24,123,4,0,[7]), (1,0,0,1,[]), (1,1,0,0,[]), (0,0,0,6,[]), (24,122,3,0,[7]), (0,0,0,6,[]), (10,3,49,0,[]), (1,0,0,1,[]), (1,1,0,0,[]), (24,157,2,0,[7]), (9,0,0,0,[]), (1,0,0,1,[]), (1,1,0,0,[]), (0,0,0,6,[]), (24,122,3,0,[7]), (0,0,0,6,[]), (10,3,57,0,[]), (0,0,0,1,[]), (11,0,58,0,[]), (0,0,0,0,[]), (27,0,0,0,[])]
def mp_158 : List (Nat × List Nat) := [(0,[]), (1,[]), (2,[]), (3,[789,0]), (6,[]), (9,[]), (10,[]), (11,[]), (13,[789,0]), (16,[]), (17,[]), (20,[]), (21,[]), (22,[]), (24,[]), (25,[]), (26,[]), (28,[789,0]), (31,[]), (32,[]), (33,[777,0]), (36,[]), (39,[]), (40,[]), (41,[]), (43,[]), (44,[]), (45,[]), (47,[789,0]), (50,[]), (51,[]), (52,[777,0]), (55,[]), (56,[]), (57,[]), (59,[]), (60,[]), (61,[924,0]), (64,[777,0]), (67,[]), (68,[]), (69,[]), (71,[789,0]), (74,[]), (76,[]), (79,[]), (80,[]), (81,[928,0]), (84,[]), (87,[]), (88,[]), (89,[]), (91,[789,0]), (94,[]), (96,[]), (99,[]), (100,[]), (103,[]), (104,[])]
-- 159 LessonSpiralModel.begin(I)Z
def mc_159 : List MI := [(1,0,0,1,[]), (1,1,0,0,[]), (0,0,0,6,[]), (0,0,0,0,[]), (24,123,4,0,[7]), (1,0,0,1,[]), (1,1,0,0,[]), (0,0,0,7,[]), (1,0,0,1,[]), (1,1,0,0,[]), (24,156,2,0,[7]), (24,123,4,0,[7]), (1,0,0,1,[]), (1,1,0,0,[]), (24,157,2,0,[7]), (9,1,20,0,[]), (1,0,0,1,[]), (1,1,0,0,[]), (24,158,2,0,[7]), (9,0,22,0,[]), (0,0,0,1,[]), (11,0,23,0,[]), (0,0,0,0,[]), (27,0,0,0,[])]
def mp_159 : List (Nat × List Nat) := [(0,[]), (1,[]), (2,[]), (4,[]), (5,[777,0]), (8,[]), (9,[]), (10,[]), (12,[]), (13,[]), (14,[924,0]), (17,[777,0]), (20,[]), (21,[]), (22,[928,0]), (25,[]), (28,[]), (29,[]), (30,[932,0]), (33,[]), (36,[]), (37,[]), (40,[]), (41,[])]
-- 160 LessonSpiralModel.moves()I
def mc_160 : List MI := [(0,0,0,0,[]), (2,1,0,0,[]), (0,0,0,0,[]), (2,2,0,0,[]), (1,2,0,0,[]), (1,0,0,1,[]), (13,7,9,0,[]), (10,3,52,0,[]), (1,1,0,0,[]), (1,0,0,1,[]), (1,0,0,1,[]), (13,7,8,0,[]), (1,2,0,0,[]), (15,0,0,0,[]), (0,0,0,6,[]), (24,122,3,0,[7]), (1,0,0,1,[]), (13,7,10,0,[]), (0,0,0,2,[]), (1,2,0,0,[]), (4,2,0,0,[]), (15,0,0,0,[]), (10,0,25,0,[]), (0,0,0,1,[]), (11,0,26,0,[]), (0,0,0,0,[]), (4,0,0,0,[]), (2,1,0,0,[]), (1,1,0,0,[]), (1,0,0,1,[]), (1,0,0,1,[]), (13,7,8,0,[]), (1,2,0,0,[]), (15,0,0,0,[]), (0,0,0,7,[]), (24,122,3,0,[7]), (1,0,0,1,[]), (13,7,10,0,[]), (0,0,0,2,[]), (1,2,0,0,[]), (4,2,0,0,[]), (0,0,0,1,[]), (4,0,0,0,[]), (15,0,0,0,[]), (10,0,47,0,[]), (0,0,0,1,[]), (11,0,48,0,[]), (0,0,0,0,[]), (4,0,0,0,[]), (2,1,0,0,[]), (3,2,0,1,[]), (11,0,4,0,[]), (1,1,0,0,[]), (27,0,0,0,[])]
def mp_160 : List (Nat × List Nat) := [(0,[]), (1,[]), (2,[]), (3,[]), (4,[]), (5,[]), (6,[718,0]), (9,[]), (12,[]), (13,[]), (14,[]), (15,[717,0]), (18,[]), (19,[]), (20,[]), (22,[789,0]), (25,[]), (26,[719,0]), (29,[]), (30,[]), (31,[]), (32,[]), (33,[]), (36,[]), (37,[]), (40,[]), (41,[]), (42,[]), (43,[]), (44,[]), (45,[]), (46,[717,0]), (49,[]), (50,[]), (51,[]), (53,[789,0]), (56,[]), (57,[719,0]), (60,[]), (61,[]), (62,[]), (63,[]), (64,[]), (65,[]), (66,[]), (69,[]), (70,[]), (73,[]), (74,[]), (75,[]), (76,[]), (79,[]), (82,[]), (83,[])]
-- 161 LessonSpiralModel.look(Z)V
def mc_161 : List MI := [(1,0,0,1,[]), (24,151,1,0,[7]), (9,0,4,0,[]), (28,0,0,0,[]), (1,1,0,0,[]), (9,0,9,0,[]), (1,0,0,1,[]), (24,160,1,0,[7]), (11,0,10,0,[]), (0,0,0,0,[]), (2,2,0,0,[]), (1,0,0,1,[]), (24,154,1,0,[7]), (2,3,0,0,[]), (1,0,0,1,[]), (13,7,12,0,[]), (9,0,29,0,[]), (1,2,0,0,[]), (1,0,0,1,[]), (13,7,13,0,[]), (10,2,29,0,[]), (1,2,0,0,[]), (1,0,0,1,[]), (13,7,13,0,[]), (10,1,71,0,[]), (1,3,0,0,[]), (1,0,0,1,[]), (13,7,14,0,[]), (10,3,71,0,[]), (1,0,0,1,[]), (1,2,0,0,[]), (14,7,13,0,[]), (1,0,0,1,[]), (1,3,0,0,[]), (14,7,14,0,[]), (0,0,0,0,[]), (2,4,0,0,[]), (1,4,0,0,[]), (1,0,0,1,[]), (13,7,9,0,[]), (10,3,71,0,[]), (1,0,0,1,[]), (13,7,11,0,[]), (0,0,0,2,[]), (1,4,0,0,[]), (4,2,0,0,[]), (1,0,0,1,[]), (1,0,0,1,[]), (13,7,8,0,[]), (1,4,0,0,[]), (15,0,0,0,[]), (0,0,0,6,[]), (24,122,3,0,[7]), (16,0,0,0,[]), (1,0,0,1,[]), (13,7,11,0,[]), (0,0,0,2,[]), (1,4,0,0,[]), (4,2,0,0,[]), (0,0,0,1,[]), (4,0,0,0,[]), (1,0,0,1,[]), (1,0,0,1,[]), (13,7,8,0,[]), (1,4,0,0,[]), (15,0,0,0,[]), (0,0,0,7,[]), (24,122,3,0,[7]), (16,0,0,0,[]), (3,4,0,1,[]), (11,0,37,0,[]), (1,0,0,1,[]), (6,0,0,0,[]), (13,7,12,0,[]), (0,0,0,1,[]), (4,0,0,0,[]), (14,7,12,0,[]), (28,0,0,0,[])]
def mp_161 : List (Nat × List Nat) := [(0,[]), (1,[888,0]), (4,[]), (7,[]), (8,[]), (9,[]), (12,[]), (13,[940,0]), (16,[]), (19,[]), (20,[]), (21,[]), (22,[908,0]), (25,[]), (26,[]), (27,[721,0]), (30,[]), (33,[]), (34,[]), (35,[722,0]), (38,[]), (41,[]), (42,[]), (43,[722,0]), (46,[]), (49,[]), (50,[]), (51,[723,0]), (54,[]), (57,[]), (58,[]), (59,[722,0]), (62,[]), (63,[]), (64,[723,0]), (67,[]), (68,[]), (70,[]), (72,[]), (73,[718,0]), (76,[]), (79,[]), (80,[720,0]), (83,[]), (84,[]), (86,[]), (87,[]), (88,[]), (89,[717,0]), (92,[]), (94,[]), (95,[]), (97,[789,0]), (100,[]), (101,[]), (102,[720,0]), (105,[]), (106,[]), (108,[]), (109,[]), (110,[]), (111,[]), (112,[]), (113,[717,0]), (116,[]), (118,[]), (119,[]), (121,[789,0]), (124,[]), (125,[]), (128,[]), (131,[]), (132,[]), (133,[721,0]), (136,[]), (137,[]), (138,[721,0]), (141,[])]
-- 162 LessonSpiralModel.goOver(Z)Z
def mc_162 : List MI := [(1,0,0,1,[]), (0,0,0,0,[]), (14,7,9,0,[]), (0,0,0,0,[]), (2,2,0,0,[]), (1,2,0,0,[]), (1,0,0,1,[]), (13,7,0,0,[]), (0,0,0,0,[]), (15,0,0,0,[]), (10,3,53,0,[]), (1,0,0,1,[]), (1,2,0,0,[]), (24,124,2,0,[7]), (9,1,51,0,[]), (1,0,0,1,[]), (13,7,8,0,[]), (1,0,0,1,[]), (13,7,9,0,[]), (1,2,0,0,[]), (16,0,0,0,[]), (1,0,0,1,[]), (13,7,10,0,[]), (0,0,0,2,[]), (1,0,0,1,[]), (13,7,9,0,[]), (4,2,0,0,[]), (1,0,0,1,[]), (1,2,0,0,[]), (0,0,0,6,[]), (24,122,3,0,[7]), (16,0,0,0,[]), (1,0,0,1,[]), (13,7,10,0,[]), (0,0,0,2,[]), (1,0,0,1,[]), (13,7,9,0,[]), (4,2,0,0,[]), (0,0,0,1,[]), (4,0,0,0,[]), (1,0,0,1,[]), (1,2,0,0,[]), (0,0,0,7,[]), (24,122,3,0,[7]), (16,0,0,0,[]), (1,0,0,1,[]), (6,0,0,0,[]), (13,7,9,0,[]), (0,0,0,1,[]), (4,0,0,0,[]), (14,7,9,0,[]), (3,2,0,1,[]), (11,0,5,0,[]), (1,0,0,1,[]), (13,7,9,0,[]), (0,0,0,4,[]), (10,5,59,0,[]), (0,0,0,0,[]), (27,0,0,0,[]), (1,0,0,1,[]), (0,0,0,0,[]), (14,7,12,0,[]), (0,0,0,1,[]), (2,2,0,0,[]), (0,0,0,0,[]), (2,3,0,0,[]), (1,3,0,0,[]), (1,0,0,1,[]), (13,7,9,0,[]), (10,3,81,0,[]), (1,2,0,0,[]), (9,0,81,0,[]), (1,0,0,1,[]), (1,0,0,1,[]), (13,7,8,0,[]), (1,3,0,0,[]), (15,0,0,0,[]), (24,159,2,0,[7]), (2,2,0,0,[]), (3,3,0,1,[]), (11,0,66,0,[]), (1,2,0,0,[]), (9,0,116,0,[]), (1,0,0,1,[]), (1,1,0,0,[]), (24,161,2,0,[7]), (1,0,0,1,[]), (13,7,9,0,[]), (0,0,0,1,[]), (4,1,0,0,[]), (2,3,0,0,[]), (1,3,0,0,[]), (9,2,109,0,[]), (1,0,0,1,[]), (1,0,0,1,[]), (13,7,8,0,[]), (1,3,0,0,[]), (15,0,0,0,[]), (24,158,2,0,[7]), (9,1,109,0,[]), (1,0,0,1,[]), (1,0,0,1,[]), (13,7,8,0,[]), (1,3,0,0,[]), (15,0,0,0,[]), (24,159,2,0,[7]), (2,4,0,0,[]), (3,3,0,(-1),[]), (11,0,91,0,[]), (1,3,0,0,[]), (9,2,113,0,[]), (0,0,0,1,[]), (11,0,114,0,[]), (0,0,0,0,[]), (2,2,0,0,[]), (11,0,81,0,[]), (1,0,0,1,[]), (1,0,0,1,[]), (13,7,10,0,[]), (24,163,2,0,[7]), (0,0,0,1,[]), (27,0,0,0,[])]
def mp_162 : List (Nat × List Nat) := [(0,[]), (1,[]), (2,[718,0]), (5,[]), (6,[]), (7,[]), (8,[]), (9,[709,0]), (12,[]), (13,[]), (14,[]), (17,[]), (18,[]), (19,[807,0]), (22,[]), (25,[]), (26,[717,0]), (29,[]), (30,[718,0]), (33,[]), (34,[]), (35,[]), (36,[719,0]), (39,[]), (40,[]), (41,[718,0]), (44,[]), (45,[]), (46,[]), (47,[]), (49,[789,0]), (52,[]), (53,[]), (54,[719,0]), (57,[]), (58,[]), (59,[718,0]), (62,[]), (63,[]), (64,[]), (65,[]), (66,[]), (67,[]), (69,[789,0]), (72,[]), (73,[]), (74,[]), (75,[718,0]), (78,[]), (79,[]), (80,[718,0]), (83,[]), (86,[]), (89,[]), (90,[718,0]), (93,[]), (94,[]), (97,[]), (98,[]), (99,[]), (100,[]), (101,[721,0]), (104,[]), (105,[]), (106,[]), (107,[]), (108,[]), (109,[]), (110,[718,0]), (113,[]), (116,[]), (117,[]), (120,[]), (121,[]), (122,[717,0]), (125,[]), (126,[]), (127,[920,0]), (130,[]), (131,[]), (134,[]), (137,[]), (138,[]), (141,[]), (142,[]), (143,[936,0]), (146,[]), (147,[718,0]), (150,[]), (151,[]), (152,[]), (153,[]), (154,[]), (157,[]), (158,[]), (159,[717,0]), (162,[]), (163,[]), (164,[932,0]), (167,[]), (170,[]), (171,[]), (172,[717,0]), (175,[]), (176,[]), (177,[920,0]), (180,[]), (182,[]), (185,[]), (188,[]), (189,[]), (192,[]), (193,[]), (196,[]), (197,[]), (198,[]), (201,[]), (202,[]), (203,[719,0]), (206,[944,0]), (209,[]), (210,[])]
-- 163 LessonSpiralModel.lay([I)V
def mc_163 : List MI := [(0,0,0,0,[]), (2,2,0,0,[]), (1,2,0,0,[]), (1,0,0,1,[]), (13,7,9,0,[]), (10,3,34,0,[]), (1,0,0,1,[]), (1,0,0,1,[]), (13,7,8,0,[]), (1,2,0,0,[]), (15,0,0,0,[]), (0,0,0,6,[]), (1,1,0,1,[]), (0,0,0,2,[]), (1,2,0,0,[]), (4,2,0,0,[]), (15,0,0,0,[]), (24,123,4,0,[7]), (1,0,0,1,[]), (1,0,0,1,[]), (13,7,8,0,[]), (1,2,0,0,[]), (15,0,0,0,[]), (0,0,0,7,[]), (1,1,0,1,[]), (0,0,0,2,[]), (1,2,0,0,[]), (4,2,0,0,[]), (0,0,0,1,[]), (4,0,0,0,[]), (15,0,0,0,[]), (24,123,4,0,[7]), (3,2,0,1,[]), (11,0,2,0,[]), (28,0,0,0,[])]
def mp_163 : List (Nat × List Nat) := [(0,[]), (1,[]), (2,[]), (3,[]), (4,[718,0]), (7,[]), (10,[]), (11,[]), (12,[717,0]), (15,[]), (16,[]), (17,[]), (19,[]), (20,[]), (21,[]), (22,[]), (23,[]), (24,[777,0]), (27,[]), (28,[]), (29,[717,0]), (32,[]), (33,[]), (34,[]), (36,[]), (37,[]), (38,[]), (39,[]), (40,[]), (41,[]), (42,[]), (43,[777,0]), (46,[]), (49,[]), (52,[])]
-- 164 LessonSpiralModel.best(Z)I
def mc_164 : List MI := [(1,0,0,1,[]), (0,0,0,0,[]), (24,162,2,0,[7]), (9,1,8,0,[]), (1,0,0,1,[]), (0,0,0,(-100008),[]), (24,118,2,0,[7]), (27,0,0,0,[]), (1,0,0,1,[]), (13,7,12,0,[]), (9,1,15,0,[]), (1,0,0,1,[]), (0,0,0,(-100006),[]), (24,118,2,0,[7]), (27,0,0,0,[]), (1,1,0,0,[]), (9,0,23,0,[]), (1,0,0,1,[]), (24,126,1,0,[7]), (1,0,0,1,[]), (1,0,0,1,[]), (13,7,11,0,[]), (24,163,2,0,[7]), (1,0,0,1,[]), (13,7,14,0,[]), (27,0,0,0,[])]
def mp_164 : List (Nat × List Nat) := [(0,[]), (1,[]), (2,[916,0]), (5,[]), (8,[]), (9,[948]), (11,[760,0]), (14,[]), (15,[]), (16,[721,0]), (19,[]), (22,[]), (23,[759]), (25,[760,0]), (28,[]), (29,[]), (30,[]), (33,[]), (34,[773,0]), (37,[]), (38,[]), (39,[720,0]), (42,[944,0]), (45,[]), (46,[723,0]), (49,[])]
-- 165 LessonSpiralModel.plans()I
def mc_165 : List MI := [(1,0,0,1,[]), (0,0,0,0,[]), (24,162,2,0,[7]), (9,0,7,0,[]), (1,0,0,1,[]), (13,7,12,0,[]), (11,0,10,0,[]), (1,0,0,1,[]), (0,0,0,(-100008),[]), (24,118,2,0,[7]), (27,0,0,0,[])]
def mp_165 : List (Nat × List Nat) := [(0,[]), (1,[]), (2,[916,0]), (5,[]), (8,[]), (9,[721,0]), (12,[]), (15,[]), (16,[948]), (18,[760,0]), (21,[])]
-- 166 LessonSpiralModel.least(Z)I
def mc_166 : List MI := [(1,0,0,1,[]), (0,0,0,1,[]), (24,162,2,0,[7]), (9,1,8,0,[]), (1,0,0,1,[]), (0,0,0,(-100008),[]), (24,118,2,0,[7]), (27,0,0,0,[]), (1,0,0,1,[]), (13,7,12,0,[]), (9,1,15,0,[]), (1,0,0,1,[]), (0,0,0,(-100006),[]), (24,118,2,0,[7]), (27,0,0,0,[]), (1,1,0,0,[]), (9,0,23,0,[]), (1,0,0,1,[]), (24,126,1,0,[7]), (1,0,0,1,[]), (1,0,0,1,[]), (13,7,11,0,[]), (24,163,2,0,[7]), (1,0,0,1,[]), (13,7,13,0,[]), (27,0,0,0,[])]
def mp_166 : List (Nat × List Nat) := [(0,[]), (1,[]), (2,[916,0]), (5,[]), (8,[]), (9,[948]), (11,[760,0]), (14,[]), (15,[]), (16,[721,0]), (19,[]), (22,[]), (23,[759]), (25,[760,0]), (28,[]), (29,[]), (30,[]), (33,[]), (34,[773,0]), (37,[]), (38,[]), (39,[720,0]), (42,[944,0]), (45,[]), (46,[722,0]), (49,[])]
-- 167 LessonSpiralModel.late(IZ)I
def mc_167 : List MI := [(1,1,0,0,[]), (29,121,1,0,[]), (9,1,7,0,[]), (1,0,0,1,[]), (0,0,0,(-100001),[]), (24,118,2,0,[7]), (27,0,0,0,[]), (0,0,0,0,[]), (2,3,0,0,[]), (0,0,0,0,[]), (2,4,0,0,[]), (1,4,0,0,[]), (1,0,0,1,[]), (13,7,0,0,[]), (0,0,0,0,[]), (15,0,0,0,[]), (10,3,33,0,[]), (1,3,0,0,[]), (1,0,0,1,[]), (1,4,0,0,[]), (0,0,0,6,[]), (24,122,3,0,[7]), (1,1,0,0,[]), (10,2,28,0,[]), (1,0,0,1,[]), (1,4,0,0,[]), (24,130,2,0,[7]), (11,0,29,0,[]), (0,0,0,0,[]), (4,4,0,0,[]), (2,3,0,0,[]), (3,4,0,1,[]), (11,0,11,0,[]), (0,0,0,0,[]), (2,4,0,0,[]), (0,0,0,0,[]), (2,5,0,0,[]), (0,0,0,0,[]), (2,6,0,0,[]), (1,6,0,0,[]), (1,0,0,1,[]), (13,7,0,0,[]), (0,0,0,0,[]), (15,0,0,0,[]), (10,3,78,0,[]), (1,3,0,0,[]), (1,6,0,0,[]), (4,7,0,0,[]), (0,0,0,1,[]), (4,3,0,0,[]), (0,0,0,1,[]), (10,1,76,0,[]), (1,0,0,1,[]), (1,6,0,0,[]), (0,0,0,6,[]), (24,122,3,0,[7]), (9,2,76,0,[]), (1,0,0,1,[]), (1,6,0,0,[]), (0,0,0,6,[]), (24,122,3,0,[7]), (1,1,0,0,[]), (10,3,76,0,[]), (1,4,0,0,[]), (0,0,0,1,[]), (1,6,0,0,[]), (4,6,0,0,[]), (4,4,0,0,[]), (2,4,0,0,[]), (1,5,0,0,[]), (1,0,0,1,[]), (1,6,0,0,[]), (0,0,0,1,[]), (24,122,3,0,[7]), (4,0,0,0,[]), (2,5,0,0,[]), (3,6,0,1,[]), (11,0,39,0,[]), (1,2,0,0,[]), (9,0,82,0,[]), (1,5,0,0,[]), (11,0,83,0,[]), (1,4,0,0,[]), (27,0,0,0,[])]
def mp_167 : List (Nat × List Nat) := [(0,[]), (1,[833,0]), (4,[]), (7,[]), (8,[771]), (10,[760,0]), (13,[]), (14,[]), (15,[]), (16,[]), (17,[]), (19,[]), (21,[]), (22,[709,0]), (25,[]), (26,[]), (27,[]), (30,[]), (31,[]), (32,[]), (34,[]), (36,[789,0]), (39,[]), (40,[]), (43,[]), (44,[]), (46,[798,0]), (49,[]), (52,[]), (53,[]), (54,[]), (55,[]), (58,[]), (61,[]), (62,[]), (64,[]), (65,[]), (67,[]), (68,[]), (70,[]), (72,[]), (73,[709,0]), (76,[]), (77,[]), (78,[]), (81,[]), (82,[]), (84,[]), (85,[]), (86,[]), (87,[]), (88,[]), (91,[]), (92,[]), (94,[]), (96,[789,0]), (99,[]), (102,[]), (103,[]), (105,[]), (107,[789,0]), (110,[]), (111,[]), (114,[]), (116,[]), (117,[]), (119,[]), (120,[]), (121,[]), (123,[]), (125,[]), (126,[]), (128,[]), (129,[789,0]), (132,[]), (133,[]), (135,[]), (138,[]), (141,[]), (142,[]), (145,[]), (147,[]), (150,[]), (152,[])]
-- 168 LessonSpiralModel.isMet(I)Z
def mc_168 : List MI := [(1,0,0,1,[]), (1,1,0,0,[]), (24,124,2,0,[7]), (9,1,9,0,[]), (1,0,0,1,[]), (1,1,0,0,[]), (0,0,0,6,[]), (24,122,3,0,[7]), (9,2,11,0,[]), (0,0,0,1,[]), (11,0,12,0,[]), (0,0,0,0,[]), (27,0,0,0,[])]
def mp_168 : List (Nat × List Nat) := [(0,[]), (1,[]), (2,[807,0]), (5,[]), (8,[]), (9,[]), (10,[]), (12,[789,0]), (15,[]), (18,[]), (19,[]), (22,[]), (23,[])]
-- 169 LessonSpiralModel.met(Z)I
def mc_169 : List MI := [(0,0,0,0,[]), (2,2,0,0,[]), (0,0,0,0,[]), (2,3,0,0,[]), (1,3,0,0,[]), (1,0,0,1,[]), (13,7,0,0,[]), (0,0,0,0,[]), (15,0,0,0,[]), (10,3,25,0,[]), (1,2,0,0,[]), (1,0,0,1,[]), (1,3,0,0,[]), (24,168,2,0,[7]), (9,0,20,0,[]), (1,0,0,1,[]), (1,3,0,0,[]), (0,0,0,4,[]), (24,122,3,0,[7]), (11,0,21,0,[]), (0,0,0,0,[]), (4,4,0,0,[]), (2,2,0,0,[]), (3,3,0,1,[]), (11,0,4,0,[]), (1,1,0,0,[]), (9,0,33,0,[]), (0,0,0,65535,[]), (1,2,0,0,[]), (0,0,0,(-1),[]), (4,5,0,0,[]), (4,3,0,0,[]), (11,0,34,0,[]), (1,2,0,0,[]), (27,0,0,0,[])]
def mp_169 : List (Nat × List Nat) := [(0,[]), (1,[]), (2,[]), (3,[]), (4,[]), (5,[]), (6,[709,0]), (9,[]), (10,[]), (11,[]), (14,[]), (15,[]), (16,[]), (17,[965,0]), (20,[]), (23,[]), (24,[]), (25,[]), (26,[789,0]), (29,[]), (32,[]), (33,[]), (34,[]), (35,[]), (38,[]), (41,[]), (42,[]), (45,[819]), (47,[]), (48,[]), (49,[]), (50,[]), (51,[]), (54,[]), (55,[])]
-- 170 LessonSpiralModel.only(I)I
def mc_170 : List MI := [(1,1,0,0,[]), (0,0,0,0,[]), (0,0,0,15,[]), (29,119,3,0,[]), (9,1,9,0,[]), (1,0,0,1,[]), (0,0,0,(-100001),[]), (24,118,2,0,[7]), (27,0,0,0,[]), (0,0,0,(-1),[]), (2,2,0,0,[]), (0,0,0,0,[]), (2,3,0,0,[]), (0,0,0,0,[]), (2,4,0,0,[]), (1,4,0,0,[]), (1,0,0,1,[]), (13,7,0,0,[]), (0,0,0,0,[]), (15,0,0,0,[]), (10,3,40,0,[]), (1,0,0,1,[]), (1,4,0,0,[]), (24,168,2,0,[7]), (9,0,38,0,[]), (1,0,0,1,[]), (1,4,0,0,[]), (0,0,0,4,[]), (24,122,3,0,[7]), (1,1,0,0,[]), (4,7,0,0,[]), (0,0,0,1,[]), (4,3,0,0,[]), (0,0,0,1,[]), (10,1,38,0,[]), (1,4,0,0,[]), (2,2,0,0,[]), (3,3,0,1,[]), (3,4,0,1,[]), (11,0,15,0,[]), (1,3,0,0,[]), (0,0,0,1,[]), (10,1,45,0,[]), (1,2,0,0,[]), (11,0,48,0,[]), (1,0,0,1,[]), (0,0,0,(-100006),[]), (24,118,2,0,[7]), (27,0,0,0,[])]
def mp_170 : List (Nat × List Nat) := [(0,[]), (1,[]), (2,[]), (4,[768,0]), (7,[]), (10,[]), (11,[771]), (13,[760,0]), (16,[]), (17,[]), (18,[]), (19,[]), (20,[]), (21,[]), (22,[]), (24,[]), (26,[]), (27,[709,0]), (30,[]), (31,[]), (32,[]), (35,[]), (36,[]), (38,[965,0]), (41,[]), (44,[]), (45,[]), (47,[]), (48,[789,0]), (51,[]), (52,[]), (53,[]), (54,[]), (55,[]), (56,[]), (59,[]), (61,[]), (62,[]), (65,[]), (68,[]), (71,[]), (72,[]), (73,[]), (76,[]), (77,[]), (80,[]), (81,[759]), (83,[760,0]), (86,[])]
-- 171 LessonSpiralModel.book(II)I
def mc_171 : List MI := [(1,0,0,1,[]), (1,1,0,0,[]), (24,120,2,0,[7]), (9,0,9,0,[]), (1,2,0,0,[]), (0,0,0,1,[]), (0,0,0,100,[]), (29,119,3,0,[]), (9,1,13,0,[]), (1,0,0,1,[]), (0,0,0,(-100001),[]), (24,118,2,0,[7]), (27,0,0,0,[]), (1,0,0,1,[]), (1,1,0,0,[]), (0,0,0,8,[]), (24,122,3,0,[7]), (1,2,0,0,[]), (4,0,0,0,[]), (0,0,0,1000,[]), (10,5,25,0,[]), (1,0,0,1,[]), (0,0,0,(-100005),[]), (24,118,2,0,[7]), (27,0,0,0,[]), (1,0,0,1,[]), (24,126,1,0,[7]), (1,0,0,1,[]), (1,1,0,0,[]), (0,0,0,8,[]), (1,0,0,1,[]), (1,1,0,0,[]), (0,0,0,8,[]), (24,122,3,0,[7]), (1,2,0,0,[]), (4,0,0,0,[]), (24,123,4,0,[7]), (1,0,0,1,[]), (1,1,0,0,[]), (0,0,0,8,[]), (24,122,3,0,[7]), (27,0,0,0,[])]
def mp_171 : List (Nat × List Nat) := [(0,[]), (1,[]), (2,[785,0]), (5,[]), (8,[]), (9,[]), (10,[]), (12,[768,0]), (15,[]), (18,[]), (19,[771]), (21,[760,0]), (24,[]), (25,[]), (26,[]), (27,[]), (29,[789,0]), (32,[]), (33,[]), (34,[]), (37,[]), (40,[]), (41,[772]), (43,[760,0]), (46,[]), (47,[]), (48,[773,0]), (51,[]), (52,[]), (53,[]), (55,[]), (56,[]), (57,[]), (59,[789,0]), (62,[]), (63,[]), (64,[777,0]), (67,[]), (68,[]), (69,[]), (71,[789,0]), (74,[])]
-- 172 LessonSpiralModel.dueOf(II)I
def mc_172 : List MI := [(0,0,0,0,[]), (2,3,0,0,[]), (0,0,0,0,[]), (2,4,0,0,[]), (1,4,0,0,[]), (1,2,0,0,[]), (10,4,51,0,[]), (1,0,0,1,[]), (1,1,0,0,[]), (24,124,2,0,[7]), (9,0,22,0,[]), (1,3,0,0,[]), (1,0,0,1,[]), (1,4,0,0,[]), (24,125,2,0,[7]), (9,0,18,0,[]), (0,0,0,0,[]), (11,0,19,0,[]), (0,0,0,1,[]), (4,0,0,0,[]), (2,3,0,0,[]), (11,0,49,0,[]), (1,3,0,0,[]), (1,0,0,1,[]), (1,1,0,0,[]), (0,0,0,6,[]), (24,122,3,0,[7]), (1,4,0,0,[]), (10,1,34,0,[]), (1,0,0,1,[]), (1,1,0,0,[]), (0,0,0,1,[]), (24,122,3,0,[7]), (11,0,35,0,[]), (0,0,0,0,[]), (4,0,0,0,[]), (2,3,0,0,[]), (1,3,0,0,[]), (1,0,0,1,[]), (1,1,0,0,[]), (0,0,0,7,[]), (24,122,3,0,[7]), (1,4,0,0,[]), (10,1,46,0,[]), (0,0,0,1,[]), (11,0,47,0,[]), (0,0,0,0,[]), (4,0,0,0,[]), (2,3,0,0,[]), (3,4,0,1,[]), (11,0,4,0,[]), (1,3,0,0,[]), (27,0,0,0,[])]
def mp_172 : List (Nat × List Nat) := [(0,[]), (1,[]), (2,[]), (3,[]), (5,[]), (7,[]), (8,[]), (11,[]), (12,[]), (13,[807,0]), (16,[]), (19,[]), (20,[]), (21,[]), (23,[840,0]), (26,[]), (29,[]), (30,[]), (33,[]), (34,[]), (35,[]), (36,[]), (39,[]), (40,[]), (41,[]), (42,[]), (44,[789,0]), (47,[]), (49,[]), (52,[]), (53,[]), (54,[]), (55,[789,0]), (58,[]), (61,[]), (62,[]), (63,[]), (64,[]), (65,[]), (66,[]), (67,[]), (69,[789,0]), (72,[]), (74,[]), (77,[]), (78,[]), (81,[]), (82,[]), (83,[]), (84,[]), (87,[]), (90,[]), (91,[])]
-- 173 LessonSpiralModel.due(II)I
def mc_173 : List MI := [(1,0,0,1,[]), (1,1,0,0,[]), (24,120,2,0,[7]), (9,0,12,0,[]), (1,2,0,0,[]), (29,121,1,0,[]), (9,0,12,0,[]), (1,0,0,1,[]), (1,1,0,0,[]), (1,2,0,0,[]), (24,172,3,0,[7]), (11,0,15,0,[]), (1,0,0,1,[]), (0,0,0,(-100001),[]), (24,118,2,0,[7]), (27,0,0,0,[])]
def mp_173 : List (Nat × List Nat) := [(0,[]), (1,[]), (2,[785,0]), (5,[]), (8,[]), (9,[833,0]), (12,[]), (15,[]), (16,[]), (17,[]), (18,[981,0]), (21,[]), (24,[]), (25,[771]), (27,[760,0]), (30,[])]
-- 174 LessonSpiralModel.drift(I)I
def mc_174 : List MI := [(1,1,0,0,[]), (29,121,1,0,[]), (9,1,7,0,[]), (1,0,0,1,[]), (0,0,0,(-100001),[]), (24,118,2,0,[7]), (27,0,0,0,[]), (0,0,0,0,[]), (2,2,0,0,[]), (0,0,0,0,[]), (2,3,0,0,[]), (1,3,0,0,[]), (1,0,0,1,[]), (13,7,0,0,[]), (0,0,0,0,[]), (15,0,0,0,[]), (10,3,37,0,[]), (1,0,0,1,[]), (1,3,0,0,[]), (1,1,0,0,[]), (24,172,3,0,[7]), (1,0,0,1,[]), (1,3,0,0,[]), (0,0,0,8,[]), (24,122,3,0,[7]), (4,1,0,0,[]), (2,4,0,0,[]), (1,2,0,0,[]), (1,4,0,0,[]), (9,5,32,0,[]), (1,4,0,0,[]), (11,0,33,0,[]), (0,0,0,0,[]), (4,0,0,0,[]), (2,2,0,0,[]), (3,3,0,1,[]), (11,0,11,0,[]), (1,2,0,0,[]), (27,0,0,0,[])]
def mp_174 : List (Nat × List Nat) := [(0,[]), (1,[833,0]), (4,[]), (7,[]), (8,[771]), (10,[760,0]), (13,[]), (14,[]), (15,[]), (16,[]), (17,[]), (18,[]), (19,[]), (20,[709,0]), (23,[]), (24,[]), (25,[]), (28,[]), (29,[]), (30,[]), (31,[981,0]), (34,[]), (35,[]), (36,[]), (38,[789,0]), (41,[]), (42,[]), (44,[]), (45,[]), (47,[]), (50,[]), (52,[]), (55,[]), (56,[]), (57,[]), (58,[]), (61,[]), (64,[]), (65,[])]
-- 175 LessonSpiralModel.told(I)I
def mc_175 : List MI := [(0,0,0,0,[]), (2,2,0,0,[]), (0,0,0,0,[]), (2,3,0,0,[]), (1,3,0,0,[]), (0,0,0,6,[]), (10,3,19,0,[]), (1,2,0,0,[]), (1,0,0,1,[]), (1,3,0,0,[]), (24,125,2,0,[7]), (9,0,14,0,[]), (0,0,0,1,[]), (11,0,15,0,[]), (0,0,0,0,[]), (4,0,0,0,[]), (2,2,0,0,[]), (3,3,0,1,[]), (11,0,4,0,[]), (1,1,0,0,[]), (12,0,36,0,[21,26,28,33]), (1,0,0,1,[]), (13,7,0,0,[]), (0,0,0,0,[]), (15,0,0,0,[]), (27,0,0,0,[]), (1,2,0,0,[]), (27,0,0,0,[]), (1,0,0,1,[]), (13,7,0,0,[]), (0,0,0,85,[]), (15,0,0,0,[]), (27,0,0,0,[]), (1,0,0,1,[]), (13,7,6,0,[]), (27,0,0,0,[]), (1,0,0,1,[]), (0,0,0,(-100001),[]), (24,118,2,0,[7]), (27,0,0,0,[])]
def mp_175 : List (Nat × List Nat) := [(0,[]), (1,[]), (2,[]), (3,[]), (4,[]), (5,[]), (7,[]), (10,[]), (11,[]), (12,[]), (13,[840,0]), (16,[]), (19,[]), (20,[]), (23,[]), (24,[]), (25,[]), (26,[]), (29,[]), (32,[]), (33,[]), (64,[]), (65,[709,0]), (68,[]), (69,[]), (70,[]), (71,[]), (72,[]), (73,[]), (74,[709,0]), (77,[]), (79,[]), (80,[]), (81,[]), (82,[715,0]), (85,[]), (86,[]), (87,[771]), (89,[760,0]), (92,[])]
def m_codes : List (List MI) := [mc_0, mc_1, mc_2, mc_3, mc_4, mc_5, mc_6, mc_7, mc_8, mc_9, mc_10, mc_11, mc_12, mc_13, mc_14, mc_15, mc_16, mc_17, mc_18, mc_19, mc_20, mc_21, mc_22, mc_23, mc_24, mc_25, mc_26, mc_27, mc_28, mc_29, mc_30, mc_31, mc_32, mc_33, mc_34, mc_35, mc_36, mc_37, mc_38, mc_39, mc_40, mc_41, mc_42, mc_43, mc_44, mc_45, mc_46, mc_47, mc_48, mc_49, mc_50, mc_51, mc_52, mc_53, mc_54, mc_55, mc_56, mc_57, mc_58, mc_59, mc_60, mc_61, mc_62, mc_63, mc_64, mc_65, mc_66, mc_67, mc_68, mc_69, mc_70, mc_71, mc_72, mc_73, mc_74, mc_75, mc_76, mc_77, mc_78, mc_79, mc_80, mc_81, mc_82, mc_83, mc_84, mc_85, mc_86, mc_87, mc_88, mc_89, mc_90, mc_91, mc_92, mc_93, mc_94, mc_95, mc_96, mc_97, mc_98, mc_99, mc_100, mc_101, mc_102, mc_103, mc_104, mc_105, mc_106, mc_107, mc_108, mc_109, mc_110, mc_111, mc_112, mc_113, mc_114, mc_115, mc_116, mc_117, mc_118, mc_119, mc_120, mc_121, mc_122, mc_123, mc_124, mc_125, mc_126, mc_127, mc_128, mc_129, mc_130, mc_131, mc_132, mc_133, mc_134, mc_135, mc_136, mc_137, mc_138, mc_139, mc_140, mc_141, mc_142, mc_143, mc_144, mc_145, mc_146, mc_147, mc_148, mc_149, mc_150, mc_151, mc_152, mc_153, mc_154, mc_155, mc_156, mc_157, mc_158, mc_159, mc_160, mc_161, mc_162, mc_163, mc_164, mc_165, mc_166, mc_167, mc_168, mc_169, mc_170, mc_171, mc_172, mc_173, mc_174, mc_175]
def m_pcs : List (List (Nat × List Nat)) := [mp_0, mp_1, mp_2, mp_3, mp_4, mp_5, mp_6, mp_7, mp_8, mp_9, mp_10, mp_11, mp_12, mp_13, mp_14, mp_15, mp_16, mp_17, mp_18, mp_19, mp_20, mp_21, mp_22, mp_23, mp_24, mp_25, mp_26, mp_27, mp_28, mp_29, mp_30, mp_31, mp_32, mp_33, mp_34, mp_35, mp_36, mp_37, mp_38, mp_39, mp_40, mp_41, mp_42, mp_43, mp_44, mp_45, mp_46, mp_47, mp_48, mp_49, mp_50, mp_51, mp_52, mp_53, mp_54, mp_55, mp_56, mp_57, mp_58, mp_59, mp_60, mp_61, mp_62, mp_63, mp_64, mp_65, mp_66, mp_67, mp_68, mp_69, mp_70, mp_71, mp_72, mp_73, mp_74, mp_75, mp_76, mp_77, mp_78, mp_79, mp_80, mp_81, mp_82, mp_83, mp_84, mp_85, mp_86, mp_87, mp_88, mp_89, mp_90, mp_91, mp_92, mp_93, mp_94, mp_95, mp_96, mp_97, mp_98, mp_99, mp_100, mp_101, mp_102, mp_103, mp_104, mp_105, mp_106, mp_107, mp_108, mp_109, mp_110, mp_111, mp_112, mp_113, mp_114, mp_115, mp_116, mp_117, mp_118, mp_119, mp_120, mp_121, mp_122, mp_123, mp_124, mp_125, mp_126, mp_127, mp_128, mp_129, mp_130, mp_131, mp_132, mp_133, mp_134, mp_135, mp_136, mp_137, mp_138, mp_139, mp_140, mp_141, mp_142, mp_143, mp_144, mp_145, mp_146, mp_147, mp_148, mp_149, mp_150, mp_151, mp_152, mp_153, mp_154, mp_155, mp_156, mp_157, mp_158, mp_159, mp_160, mp_161, mp_162, mp_163, mp_164, mp_165, mp_166, mp_167, mp_168, mp_169, mp_170, mp_171, mp_172, mp_173, mp_174, mp_175]
def m_ys : List MethodName := [⟨"LessonSpiralLaw", "law", "([I)Z"⟩, ⟨"java/lang/Math", "max", "(II)I"⟩, ⟨"java/lang/Math", "min", "(II)I"⟩, ⟨"java/lang/Integer", "bitCount", "(I)I"⟩, ⟨"LessonSpiral$Course", "<init>", "()V"⟩, ⟨"LessonSpiral$Course", "saveTo", "([I)V"⟩, ⟨"LessonSpiral$Course", "bringBack", "([I)V"⟩, ⟨"LessonSpiral$Course", "size", "()I"⟩, ⟨"LessonSpiral$Course", "get", "(II)I"⟩, ⟨"LessonSpiral$Course", "set", "(III)V"⟩, ⟨"LessonSpiral$Course", "add", "(II)I"⟩, ⟨"LessonSpiral$Course", "isOfKind", "(II)Z"⟩, ⟨"LessonSpiral$Course", "isStrand", "(I)Z"⟩, ⟨"LessonSpiral$Course", "isMet", "(I)Z"⟩, ⟨"LessonSpiral$Course", "strands", "()I"⟩, ⟨"LessonSpiral$Course", "allNeeds", "(I)I"⟩, ⟨"LessonSpiral$Course", "roomOf", "(I)I"⟩, ⟨"LessonSpiral$Course", "setRoom", "(II)V"⟩, ⟨"LessonSpiral$Course", "hasSnow", "(I)Z"⟩, ⟨"LessonSpiral$Course", "setSnow", "(IZ)V"⟩, ⟨"LessonSpiral$Course", "snowWeeks", "()I"⟩, ⟨"LessonSpiral$Course", "openWeeksUpTo", "(I)I"⟩, ⟨"LessonSpiral$Course", "testWeek", "()I"⟩, ⟨"LessonSpiral$Course", "setTestWeek", "(I)V"⟩, ⟨"LessonSpiral$History", "<init>", "()V"⟩, ⟨"LessonSpiral$History", "isEmpty", "()Z"⟩, ⟨"LessonSpiral$History", "keep", "(LLessonSpiral$Course;)V"⟩, ⟨"LessonSpiral$History", "giveBack", "(LLessonSpiral$Course;)I"⟩, ⟨"LessonSpiral$Laws", "<init>", "(LLessonSpiral$Course;)V"⟩, ⟨"LessonSpiral$Laws", "firstFault", "()I"⟩, ⟨"LessonSpiral$Laws", "loadOf", "(I)I"⟩, ⟨"LessonSpiral$Laws", "strandLoad", "(I)I"⟩, ⟨"LessonSpiral$Laws", "isOpen", "(I)Z"⟩, ⟨"LessonSpiral$Laws", "returnsInTime", "(III)Z"⟩, ⟨"LessonSpiral$Laws", "isAheadOfTest", "(III)Z"⟩, ⟨"LessonSpiral$Laws", "keeps", "(II)Z"⟩, ⟨"LessonSpiral$Laws", "isBehindNeeds", "(II)Z"⟩, ⟨"LessonSpiral$Laws", "isBesidePartner", "(II)Z"⟩, ⟨"LessonSpiral$Place", "<init>", "()V"⟩, ⟨"LessonSpiral$Place", "begin", "(ILLessonSpiral$Course;LLessonSpiral$Laws;)V"⟩, ⟨"LessonSpiral$Place", "addOption", "(LLessonSpiral$Course;II)V"⟩, ⟨"LessonSpiral$Place", "isBehind", "(LLessonSpiral$Place;)Z"⟩, ⟨"LessonSpiral$Place", "isBeside", "(LLessonSpiral$Place;)Z"⟩, ⟨"LessonSpiral$Place", "choose", "(I)V"⟩, ⟨"LessonSpiral$Place", "keepAsBest", "()V"⟩, ⟨"LessonSpiral$Place", "settleIn", "(LLessonSpiral$Course;)V"⟩, ⟨"LessonSpiral$Search", "<init>", "(LLessonSpiral$Course;LLessonSpiral$Laws;)V"⟩, ⟨"LessonSpiral$Search", "isTooLong", "()Z"⟩, ⟨"LessonSpiral$Search", "count", "()I"⟩, ⟨"LessonSpiral$Search", "leastEvenness", "()I"⟩, ⟨"LessonSpiral$Search", "leastMoves", "()I"⟩, ⟨"LessonSpiral$Search", "run", "(I)V"⟩, ⟨"LessonSpiral$Search", "settle", "()V"⟩, ⟨"LessonSpiral$Search", "listPlaces", "()V"⟩, ⟨"LessonSpiral$Search", "startLoads", "()Z"⟩, ⟨"LessonSpiral$Search", "startEvenness", "()I"⟩, ⟨"LessonSpiral$Search", "place", "(III)V"⟩, ⟨"LessonSpiral$Search", "goOn", "(III)V"⟩, ⟨"LessonSpiral$Search", "growth", "(II)I"⟩, ⟨"LessonSpiral$Search", "burden", "(II)V"⟩, ⟨"LessonSpiral$Search", "fits", "(III)Z"⟩, ⟨"LessonSpiral$Search", "earliestFirst", "(I)I"⟩, ⟨"LessonSpiral$Search", "latestFirst", "(I)I"⟩, ⟨"LessonSpiral$Search", "canBeBest", "(II)Z"⟩, ⟨"LessonSpiral$Search", "keepPlan", "(II)V"⟩, ⟨"LessonSpiral$Sheet", "<init>", "()V"⟩, ⟨"LessonSpiral$Sheet", "renew", "(II)I"⟩, ⟨"LessonSpiral$Sheet", "isMissing", "()Z"⟩, ⟨"LessonSpiral$Sheet", "isAsWideAs", "(LLessonSpiral$Sheet;)Z"⟩, ⟨"LessonSpiral$Sheet", "size", "()I"⟩, ⟨"LessonSpiral$Sheet", "holds", "(II)Z"⟩, ⟨"LessonSpiral$Sheet", "number", "(I)I"⟩, ⟨"LessonSpiral$Sheet", "setNumber", "(II)V"⟩, ⟨"LessonSpiral$Sheet", "takeFrom", "(LLessonSpiral$Sheet;III)V"⟩, ⟨"LessonSpiral", "<init>", "()V"⟩, ⟨"LessonSpiral", "topic", "(II)I"⟩, ⟨"LessonSpiral", "as", "(II)I"⟩, ⟨"LessonSpiral", "need", "(IIZ)I"⟩, ⟨"LessonSpiral", "comes", "(II)I"⟩, ⟨"LessonSpiral", "standards", "(II)I"⟩, ⟨"LessonSpiral", "partner", "(II)I"⟩, ⟨"LessonSpiral", "of", "(II)I"⟩, ⟨"LessonSpiral", "room", "(II)I"⟩, ⟨"LessonSpiral", "snow", "(IZ)I"⟩, ⟨"LessonSpiral", "test", "(I)I"⟩, ⟨"LessonSpiral", "sheet", "(III)I"⟩, ⟨"LessonSpiral", "write", "(III)I"⟩, ⟨"LessonSpiral", "copy", "(IIIII)I"⟩, ⟨"LessonSpiral", "read", "(I)I"⟩, ⟨"LessonSpiral", "put", "(II)I"⟩, ⟨"LessonSpiral", "again", "(II)I"⟩, ⟨"LessonSpiral", "fault", "()I"⟩, ⟨"LessonSpiral", "load", "(I)I"⟩, ⟨"LessonSpiral", "evenness", "()I"⟩, ⟨"LessonSpiral", "best", "(Z)I"⟩, ⟨"LessonSpiral", "plans", "()I"⟩, ⟨"LessonSpiral", "least", "(Z)I"⟩, ⟨"LessonSpiral", "late", "(IZ)I"⟩, ⟨"LessonSpiral", "met", "(Z)I"⟩, ⟨"LessonSpiral", "only", "(I)I"⟩, ⟨"LessonSpiral", "book", "(II)I"⟩, ⟨"LessonSpiral", "due", "(II)I"⟩, ⟨"LessonSpiral", "drift", "(I)I"⟩, ⟨"LessonSpiral", "undo", "()I"⟩, ⟨"LessonSpiral", "told", "(I)I"⟩, ⟨"LessonSpiral", "finding", "(I)I"⟩, ⟨"LessonSpiral", "isNoTopic", "(I)Z"⟩, ⟨"LessonSpiral", "isNoKind", "(I)Z"⟩, ⟨"LessonSpiral", "isNoWeek", "(I)Z"⟩, ⟨"LessonSpiral", "isNoSheet", "(I)Z"⟩, ⟨"LessonSpiral", "has", "(II)Z"⟩, ⟨"LessonSpiral", "with", "(IIZ)I"⟩, ⟨"LessonSpiral", "change", "(III)I"⟩, ⟨"LessonSpiral", "meet", "(III)I"⟩, ⟨"LessonSpiral", "seek", "(IZ)I"⟩, ⟨"LessonSpiral", "hoursOf", "(I)I"⟩, ⟨"LessonSpiral", "dueHours", "(II)I"⟩, ⟨"LessonSpiralModel", "<init>", "()V"⟩, ⟨"LessonSpiralModel", "finding", "(I)I"⟩, ⟨"LessonSpiralModel", "isIn", "(III)Z"⟩, ⟨"LessonSpiralModel", "isTopic", "(I)Z"⟩, ⟨"LessonSpiralModel", "isWeek", "(I)Z"⟩, ⟨"LessonSpiralModel", "at", "(II)I"⟩, ⟨"LessonSpiralModel", "set", "(III)V"⟩, ⟨"LessonSpiralModel", "isStrand", "(I)Z"⟩, ⟨"LessonSpiralModel", "hasSnow", "(I)Z"⟩, ⟨"LessonSpiralModel", "act", "()V"⟩, ⟨"LessonSpiralModel", "undo", "()I"⟩, ⟨"LessonSpiralModel", "topic", "(II)I"⟩, ⟨"LessonSpiralModel", "as", "(II)I"⟩, ⟨"LessonSpiralModel", "allNeeds", "(I)I"⟩, ⟨"LessonSpiralModel", "need", "(IIZ)I"⟩, ⟨"LessonSpiralModel", "change", "(III)I"⟩, ⟨"LessonSpiralModel", "comes", "(II)I"⟩, ⟨"LessonSpiralModel", "standards", "(II)I"⟩, ⟨"LessonSpiralModel", "partner", "(II)I"⟩, ⟨"LessonSpiralModel", "of", "(II)I"⟩, ⟨"LessonSpiralModel", "room", "(II)I"⟩, ⟨"LessonSpiralModel", "snow", "(IZ)I"⟩, ⟨"LessonSpiralModel", "test", "(I)I"⟩, ⟨"LessonSpiralModel", "isSheet", "(I)Z"⟩, ⟨"LessonSpiralModel", "sheet", "(III)I"⟩, ⟨"LessonSpiralModel", "write", "(III)I"⟩, ⟨"LessonSpiralModel", "hasPart", "(III)Z"⟩, ⟨"LessonSpiralModel", "copy", "(IIIII)I"⟩, ⟨"LessonSpiralModel", "read", "(I)I"⟩, ⟨"LessonSpiralModel", "lay", "(III)I"⟩, ⟨"LessonSpiralModel", "put", "(II)I"⟩, ⟨"LessonSpiralModel", "again", "(II)I"⟩, ⟨"LessonSpiralModel", "loadOf", "(I)I"⟩, ⟨"LessonSpiralModel", "keeps", "(II)Z"⟩, ⟨"LessonSpiralModel", "faultOf", "()I"⟩, ⟨"LessonSpiralModel", "fault", "()I"⟩, ⟨"LessonSpiralModel", "load", "(I)I"⟩, ⟨"LessonSpiralModel", "evennessOf", "()I"⟩, ⟨"LessonSpiralModel", "evenness", "()I"⟩, ⟨"LessonSpiralModel", "firstSecond", "(I)I"⟩, ⟨"LessonSpiralModel", "mayStand", "(I)Z"⟩, ⟨"LessonSpiralModel", "next", "(I)Z"⟩, ⟨"LessonSpiralModel", "begin", "(I)Z"⟩, ⟨"LessonSpiralModel", "moves", "()I"⟩, ⟨"LessonSpiralModel", "look", "(Z)V"⟩, ⟨"LessonSpiralModel", "goOver", "(Z)Z"⟩, ⟨"LessonSpiralModel", "lay", "([I)V"⟩, ⟨"LessonSpiralModel", "best", "(Z)I"⟩, ⟨"LessonSpiralModel", "plans", "()I"⟩, ⟨"LessonSpiralModel", "least", "(Z)I"⟩, ⟨"LessonSpiralModel", "late", "(IZ)I"⟩, ⟨"LessonSpiralModel", "isMet", "(I)Z"⟩, ⟨"LessonSpiralModel", "met", "(Z)I"⟩, ⟨"LessonSpiralModel", "only", "(I)I"⟩, ⟨"LessonSpiralModel", "book", "(II)I"⟩, ⟨"LessonSpiralModel", "dueOf", "(II)I"⟩, ⟨"LessonSpiralModel", "due", "(II)I"⟩, ⟨"LessonSpiralModel", "drift", "(I)I"⟩, ⟨"LessonSpiralModel", "told", "(I)I"⟩]
def m_bss : List ByteArray := [code, prog_11_method_65_code, prog_11_method_69_code, prog_10_method_49_code, prog_2_method_1_code, prog_2_method_2_code, prog_2_method_3_code, prog_2_method_4_code, prog_2_method_5_code, prog_2_method_6_code, prog_2_method_7_code, prog_2_method_8_code, prog_2_method_9_code, prog_2_method_10_code, prog_2_method_11_code, prog_2_method_12_code, prog_2_method_13_code, prog_2_method_14_code, prog_2_method_15_code, prog_2_method_16_code, prog_2_method_17_code, prog_2_method_18_code, prog_2_method_19_code, prog_2_method_20_code, prog_3_method_1_code, prog_3_method_2_code, prog_3_method_3_code, prog_3_method_4_code, prog_4_method_1_code, prog_4_method_2_code, prog_4_method_3_code, prog_4_method_4_code, prog_4_method_5_code, prog_4_method_6_code, prog_4_method_7_code, prog_4_method_8_code, prog_4_method_9_code, prog_4_method_10_code, prog_5_method_1_code, prog_5_method_2_code, prog_5_method_3_code, prog_5_method_4_code, prog_5_method_5_code, prog_5_method_6_code, prog_5_method_7_code, prog_5_method_8_code, prog_6_method_1_code, prog_6_method_2_code, prog_6_method_3_code, prog_6_method_4_code, prog_6_method_5_code, prog_6_method_6_code, prog_6_method_7_code, prog_6_method_8_code, prog_6_method_9_code, prog_6_method_10_code, prog_6_method_11_code, prog_6_method_12_code, prog_6_method_13_code, prog_6_method_14_code, prog_6_method_15_code, prog_6_method_16_code, prog_6_method_17_code, prog_6_method_18_code, prog_6_method_19_code, prog_7_method_1_code, prog_7_method_2_code, prog_7_method_3_code, prog_7_method_4_code, prog_7_method_5_code, prog_7_method_6_code, prog_7_method_7_code, prog_7_method_8_code, prog_7_method_9_code, prog_1_method_1_code, prog_1_method_2_code, prog_1_method_3_code, prog_1_method_4_code, prog_1_method_5_code, prog_1_method_6_code, prog_1_method_7_code, prog_1_method_8_code, prog_1_method_9_code, prog_1_method_10_code, prog_1_method_11_code, prog_1_method_12_code, prog_1_method_13_code, prog_1_method_14_code, prog_1_method_15_code, prog_1_method_16_code, prog_1_method_17_code, prog_1_method_18_code, prog_1_method_19_code, prog_1_method_20_code, prog_1_method_21_code, prog_1_method_22_code, prog_1_method_23_code, prog_1_method_24_code, prog_1_method_25_code, prog_1_method_26_code, prog_1_method_27_code, prog_1_method_28_code, prog_1_method_29_code, prog_1_method_30_code, prog_1_method_31_code, prog_1_method_32_code, prog_1_method_33_code, prog_1_method_34_code, prog_1_method_35_code, prog_1_method_36_code, prog_1_method_37_code, prog_1_method_38_code, prog_1_method_39_code, prog_1_method_40_code, prog_1_method_41_code, prog_1_method_42_code, prog_1_method_43_code, prog_9_method_1_code, prog_9_method_2_code, prog_9_method_3_code, prog_9_method_4_code, prog_9_method_5_code, prog_9_method_6_code, prog_9_method_7_code, prog_9_method_8_code, prog_9_method_9_code, prog_9_method_10_code, prog_9_method_11_code, prog_9_method_12_code, prog_9_method_13_code, prog_9_method_14_code, prog_9_method_15_code, prog_9_method_16_code, prog_9_method_17_code, prog_9_method_18_code, prog_9_method_19_code, prog_9_method_20_code, prog_9_method_21_code, prog_9_method_22_code, prog_9_method_23_code, prog_9_method_24_code, prog_9_method_25_code, prog_9_method_26_code, prog_9_method_27_code, prog_9_method_28_code, prog_9_method_29_code, prog_9_method_30_code, prog_9_method_31_code, prog_9_method_32_code, prog_9_method_33_code, prog_9_method_34_code, prog_9_method_35_code, prog_9_method_36_code, prog_9_method_37_code, prog_9_method_38_code, prog_9_method_39_code, prog_9_method_40_code, prog_9_method_41_code, prog_9_method_42_code, prog_9_method_43_code, prog_9_method_44_code, prog_9_method_45_code, prog_9_method_46_code, prog_9_method_47_code, prog_9_method_48_code, prog_9_method_49_code, prog_9_method_50_code, prog_9_method_51_code, prog_9_method_52_code, prog_9_method_53_code, prog_9_method_54_code, prog_9_method_55_code, prog_9_method_56_code, prog_9_method_57_code, prog_9_method_58_code, prog_9_method_59_code]
def m_mLs : List Nat := [4, 2, 2, 1, 2, 2, 2, 1, 3, 4, 4, 4, 2, 2, 3, 6, 2, 3, 2, 3, 1, 4, 1, 2, 1, 1, 2, 2, 2, 3, 4, 2, 2, 5, 5, 5, 5, 4, 1, 6, 6, 2, 2, 2, 1, 2, 4, 1, 1, 1, 1, 2, 2, 2, 3, 3, 9, 6, 3, 3, 4, 6, 6, 3, 4, 1, 4, 1, 2, 1, 3, 2, 3, 5, 2, 3, 3, 6, 3, 3, 3, 3, 4, 4, 3, 4, 5, 8, 6, 3, 3, 1, 2, 4, 2, 1, 2, 7, 4, 4, 4, 3, 4, 1, 2, 2, 2, 1, 1, 1, 2, 3, 5, 4, 4, 4, 6, 2, 2, 3, 2, 1, 3, 4, 2, 2, 2, 2, 5, 4, 5, 5, 5, 3, 3, 3, 3, 4, 4, 3, 1, 5, 4, 4, 7, 4, 4, 3, 3, 4, 10, 3, 1, 2, 3, 1, 2, 2, 2, 2, 3, 5, 5, 3, 2, 1, 2, 7, 2, 4, 5, 3, 5, 3, 5, 4]
def m_rks : List Nat := [2, 1, 1, 1, 0, 0, 0, 1, 1, 0, 1, 2, 2, 2, 1, 1, 1, 0, 2, 0, 1, 1, 1, 0, 0, 2, 0, 1, 0, 1, 1, 1, 2, 2, 2, 2, 2, 2, 0, 0, 0, 2, 2, 0, 0, 0, 0, 2, 1, 1, 1, 0, 0, 0, 2, 1, 0, 0, 1, 0, 2, 1, 1, 2, 0, 0, 1, 2, 2, 1, 2, 1, 0, 0, 0, 1, 1, 1, 1, 1, 1, 1, 1, 1, 1, 1, 1, 1, 1, 1, 1, 1, 1, 1, 1, 1, 1, 1, 1, 1, 1, 1, 1, 1, 1, 1, 2, 2, 2, 2, 2, 1, 1, 1, 1, 1, 1, 0, 1, 2, 2, 2, 1, 0, 2, 2, 0, 1, 1, 1, 1, 1, 1, 1, 1, 1, 1, 1, 1, 1, 2, 1, 1, 2, 1, 1, 1, 1, 1, 1, 2, 1, 1, 1, 1, 1, 1, 2, 2, 2, 1, 0, 2, 0, 1, 1, 1, 1, 2, 1, 1, 1, 1, 1, 1, 1]
def m_wis : List (List Nat) := [[0,0,0,0,9], [567,57,566,0,0], [260,57,259,0,0], [699,58,698,0,0], [71,49,70,0,1], [254,49,252,253,2], [688,49,686,687,2], [245,49,243,244,2], [284,49,282,283,2], [268,49,266,267,2], [264,49,262,263,2], [280,49,278,279,2], [312,49,310,311,2], [646,49,644,645,2], [487,49,485,486,2], [293,49,291,292,2], [341,49,339,340,2], [345,49,343,344,2], [353,49,351,352,2], [357,49,355,356,2], [696,49,694,695,2], [666,49,664,665,2], [366,49,364,365,2], [370,49,368,369,2], [180,53,179,0,1], [680,53,678,679,2], [250,53,248,249,2], [684,53,682,683,2], [82,50,81,0,1], [444,50,442,443,2], [479,50,477,478,2], [483,50,481,482,2], [455,50,453,454,2], [465,50,463,464,2], [469,50,467,468,2], [450,50,449,4,2], [460,50,459,5,2], [475,50,474,6,2], [99,52,98,0,1], [522,52,520,521,2], [530,52,529,8,2], [564,52,562,563,2], [571,52,569,570,2], [584,52,582,583,2], [556,52,554,555,2], [621,52,619,620,2], [92,51,91,0,1], [510,51,508,509,2], [604,51,602,603,2], [609,51,607,608,2], [613,51,611,612,2], [534,51,532,533,2], [617,51,615,616,2], [517,51,515,516,2], [538,51,537,9,2], [544,51,543,10,2], [548,51,547,11,2], [588,51,587,16,2], [592,51,591,17,2], [600,51,599,19,2], [580,51,579,15,2], [560,51,559,13,2], [575,51,574,14,2], [596,51,595,18,2], [552,51,551,12,2], [199,54,198,0,1], [381,54,379,380,2], [389,54,387,388,2], [406,54,404,405,2], [419,54,417,418,2], [394,54,392,393,2], [424,54,422,423,2], [398,54,396,397,2], [410,54,408,409,2], [63,48,62,0,1], [233,48,231,232,2], [272,48,270,271,2], [289,48,287,288,2], [308,48,306,307,2], [320,48,318,319,2], [325,48,323,324,2], [330,48,328,329,2], [334,48,332,333,2], [349,48,347,348,2], [362,48,360,361,2], [374,48,372,373,2], [385,48,383,384,2], [402,48,400,401,2], [415,48,413,414,2], [428,48,426,427,2], [436,48,434,435,2], [440,48,438,439,2], [493,48,491,492,2], [498,48,496,497,2], [502,48,500,501,2], [626,48,624,625,2], [630,48,628,629,2], [634,48,632,633,2], [642,48,640,641,2], [650,48,648,649,2], [654,48,652,653,2], [658,48,656,657,2], [671,48,669,670,2], [676,48,674,675,2], [692,48,690,691,2], [241,48,240,0,2], [276,48,275,1,2], [236,48,235,0,0], [337,48,336,0,0], [377,48,376,0,0], [297,48,296,0,0], [303,48,302,0,0], [316,48,315,2,2], [432,48,431,3,2], [506,48,505,7,2], [638,48,637,20,2], [662,48,661,21,2], [707,55,706,0,1], [763,55,762,22,2], [770,55,769,0,0], [788,55,787,25,2], [835,55,834,0,0], [792,55,791,26,2], [780,55,779,24,2], [810,55,809,28,2], [843,55,842,30,2], [776,55,775,23,2], [758,55,756,757,2], [767,55,765,766,2], [784,55,782,783,2], [801,55,800,27,2], [797,55,795,796,2], [814,55,813,29,2], [806,55,804,805,2], [818,55,816,817,2], [823,55,821,822,2], [828,55,826,827,2], [832,55,830,831,2], [839,55,837,838,2], [847,55,845,846,2], [854,55,853,0,0], [851,55,849,850,2], [858,55,856,857,2], [867,55,866,31,2], [863,55,861,862,2], [871,55,869,870,2], [879,55,878,32,2], [875,55,873,874,2], [883,55,881,882,2], [899,55,898,35,2], [895,55,894,34,2], [891,55,890,33,2], [887,55,885,886,2], [903,55,901,902,2], [911,55,910,36,2], [907,55,905,906,2], [927,55,926,39,2], [931,55,930,40,2], [935,55,934,41,2], [923,55,922,38,2], [943,55,942,43,2], [939,55,938,42,2], [919,55,918,37,2], [947,55,946,44,2], [915,55,913,914,2], [952,55,950,951,2], [956,55,954,955,2], [960,55,958,959,2], [968,55,967,45,2], [964,55,962,963,2], [972,55,970,971,2], [976,55,974,975,2], [984,55,983,46,2], [980,55,978,979,2], [988,55,986,987,2], [992,55,990,991,2]]
def m_T0 : u_T := fun k => match k with
  | _ => ("LessonSpiral$Course", "row", "[I", true)
def m_t0 : Nat → FieldType := fun k => match k with
  | _ => .array .int
def m_T1 : u_T := fun k => match k with
  | 0 => ("LessonSpiral$History", "rows", "[[I", true)
  | 1 => ("LessonSpiral$History", "next", "I", false)
  | _ => ("LessonSpiral$History", "size", "I", false)
def m_t1 : Nat → FieldType := fun k => match k with
  | 0 => .array (.array .int)
  | 1 => .int
  | _ => .int
def m_T2 : u_T := fun k => match k with
  | _ => ("LessonSpiral$Laws", "course", "LLessonSpiral$Course;", true)
def m_t2 : Nat → FieldType := fun k => match k with
  | _ => .object "LessonSpiral$Course"
def m_T3 : u_T := fun k => match k with
  | 0 => ("LessonSpiral$Place", "firsts", "[I", true)
  | 1 => ("LessonSpiral$Place", "seconds", "[I", true)
  | 2 => ("LessonSpiral$Place", "moves", "[I", true)
  | 3 => ("LessonSpiral$Place", "options", "I", false)
  | 4 => ("LessonSpiral$Place", "topic", "I", false)
  | 5 => ("LessonSpiral$Place", "hours", "I", false)
  | 6 => ("LessonSpiral$Place", "needs", "I", false)
  | 7 => ("LessonSpiral$Place", "partner", "I", false)
  | 8 => ("LessonSpiral$Place", "first", "I", false)
  | 9 => ("LessonSpiral$Place", "second", "I", false)
  | 10 => ("LessonSpiral$Place", "bestFirst", "I", false)
  | _ => ("LessonSpiral$Place", "bestSecond", "I", false)
def m_t3 : Nat → FieldType := fun k => match k with
  | 0 => .array .int
  | 1 => .array .int
  | 2 => .array .int
  | 3 => .int
  | 4 => .int
  | 5 => .int
  | 6 => .int
  | 7 => .int
  | 8 => .int
  | 9 => .int
  | 10 => .int
  | _ => .int
def m_T4 : u_T := fun k => match k with
  | 0 => ("LessonSpiral$Search", "course", "LLessonSpiral$Course;", true)
  | 1 => ("LessonSpiral$Search", "laws", "LLessonSpiral$Laws;", true)
  | 2 => ("LessonSpiral$Search", "places", "[LLessonSpiral$Place;", true)
  | 3 => ("LessonSpiral$Search", "rooms", "[I", true)
  | 4 => ("LessonSpiral$Search", "loads", "[I", true)
  | 5 => ("LessonSpiral$Search", "aim", "I", false)
  | 6 => ("LessonSpiral$Search", "size", "I", false)
  | 7 => ("LessonSpiral$Search", "count", "I", false)
  | 8 => ("LessonSpiral$Search", "bestMoves", "I", false)
  | _ => ("LessonSpiral$Search", "bestEvenness", "I", false)
def m_t4 : Nat → FieldType := fun k => match k with
  | 0 => .object "LessonSpiral$Course"
  | 1 => .object "LessonSpiral$Laws"
  | 2 => .array (.object "LessonSpiral$Place")
  | 3 => .array .int
  | 4 => .array .int
  | 5 => .int
  | 6 => .int
  | 7 => .int
  | 8 => .int
  | _ => .int
def m_T5 : u_T := fun k => match k with
  | 0 => ("LessonSpiral$Sheet", "numbers", "[I", true)
  | 1 => ("LessonSpiral$Sheet", "bits", "I", false)
  | _ => ("LessonSpiral$Sheet", "size", "I", false)
def m_t5 : Nat → FieldType := fun k => match k with
  | 0 => .array .int
  | 1 => .int
  | _ => .int
def m_T6 : u_T := fun k => match k with
  | 0 => ("LessonSpiral", "course", "LLessonSpiral$Course;", true)
  | 1 => ("LessonSpiral", "laws", "LLessonSpiral$Laws;", true)
  | 2 => ("LessonSpiral", "search", "LLessonSpiral$Search;", true)
  | 3 => ("LessonSpiral", "history", "LLessonSpiral$History;", true)
  | 4 => ("LessonSpiral", "sheets", "[LLessonSpiral$Sheet;", true)
  | _ => ("LessonSpiral", "findings", "I", false)
def m_t6 : Nat → FieldType := fun k => match k with
  | 0 => .object "LessonSpiral$Course"
  | 1 => .object "LessonSpiral$Laws"
  | 2 => .object "LessonSpiral$Search"
  | 3 => .object "LessonSpiral$History"
  | 4 => .array (.object "LessonSpiral$Sheet")
  | _ => .int
def m_T7 : u_T := fun k => match k with
  | 0 => ("LessonSpiralModel", "row", "[I", true)
  | 1 => ("LessonSpiralModel", "kept", "[I", true)
  | 2 => ("LessonSpiralModel", "keptMany", "I", false)
  | 3 => ("LessonSpiralModel", "sheetBits", "[I", true)
  | 4 => ("LessonSpiralModel", "sheetSize", "[I", true)
  | 5 => ("LessonSpiralModel", "sheet", "[I", true)
  | 6 => ("LessonSpiralModel", "found", "I", false)
  | 7 => ("LessonSpiralModel", "carried", "[I", true)
  | 8 => ("LessonSpiralModel", "own", "[I", true)
  | 9 => ("LessonSpiralModel", "owns", "I", false)
  | 10 => ("LessonSpiralModel", "was", "[I", true)
  | 11 => ("LessonSpiralModel", "best", "[I", true)
  | 12 => ("LessonSpiralModel", "whole", "I", false)
  | 13 => ("LessonSpiralModel", "bestMoves", "I", false)
  | _ => ("LessonSpiralModel", "bestEven", "I", false)
def m_t7 : Nat → FieldType := fun k => match k with
  | 0 => .array .int
  | 1 => .array .int
  | 2 => .int
  | 3 => .array .int
  | 4 => .array .int
  | 5 => .array .int
  | 6 => .int
  | 7 => .array .int
  | 8 => .array .int
  | 9 => .int
  | 10 => .array .int
  | 11 => .array .int
  | 12 => .int
  | 13 => .int
  | _ => .int
def m_cl : List vw_C := [("LessonSpiral$Course", m_T0, 1), ("LessonSpiral$History", m_T1, 3), ("LessonSpiral$Laws", m_T2, 1), ("LessonSpiral$Place", m_T3, 12), ("LessonSpiral$Search", m_T4, 10), ("LessonSpiral$Sheet", m_T5, 3), ("LessonSpiral", m_T6, 6), ("LessonSpiralModel", m_T7, 15)]
def m_ct : List (Nat → FieldType) := [m_t0, m_t1, m_t2, m_t3, m_t4, m_t5, m_t6, m_t7]
def m_def : List (List MV) := [[.inr none], [.inr none, .inl 0, .inl 0], [.inr none], [.inr none, .inr none, .inr none, .inl 0, .inl 0, .inl 0, .inl 0, .inl 0, .inl 0, .inl 0, .inl 0, .inl 0], [.inr none, .inr none, .inr none, .inr none, .inr none, .inl 0, .inl 0, .inl 0, .inl 0, .inl 0], [.inr none, .inl 0, .inl 0], [.inr none, .inr none, .inr none, .inr none, .inr none, .inl 0], [.inr none, .inr none, .inl 0, .inr none, .inr none, .inr none, .inl 0, .inr none, .inr none, .inl 0, .inr none, .inr none, .inl 0, .inl 0, .inl 0]]
def m_lay : List (List Nat) := [[74], [187,189,191], [85], [120,122,124,126,128,130,132,134,136,138,140,142], [155,157,159,161,163,165,167,169,171,173], [204,206,208], [217,219,221,223,225,227], [724,726,728,730,732,734,736,738,740,742,744,746,748,750,752]]
end
section
/-! the step, and the run of a body up to its return -/
def s_new (ci k : Nat) (ls : ML) (st : List MV) (h : MH) : MR := if h.length < m_scr then m_nx k ls (.inr (some h.length) :: st) (h ++ [.inl (ci, m_def.getD ci [])]) else m_bad
def s_newa (k : Nat) (ls : ML) (st : List MV) (h : MH) : MR := match st with
  | .inl n :: r => if h.length < m_scr ∧ ¬ n < 0 ∧ n.toNatClampNeg ≤ 10000 then m_nx k ls (.inr (some h.length) :: r) (h ++ [.inr (.inl (List.replicate n.toNatClampNeg 0))]) else m_bad
  | _ => m_bad
def s_newq (kd k : Nat) (ls : ML) (st : List MV) (h : MH) : MR := match st with
  | .inl n :: r => if h.length < m_scr ∧ ¬ n < 0 ∧ n.toNatClampNeg ≤ 10000 ∧ (kd = 1 ∨ kd = 2) then m_nx k ls (.inr (some h.length) :: r) (h ++ [.inr (.inr (kd, List.replicate n.toNatClampNeg none))]) else m_bad
  | _ => m_bad
def s_multi (k : Nat) (ls : ML) (st : List MV) (h : MH) : MR := match st with
  | .inl q :: .inl n :: r => if h.length + 1 + n.toNatClampNeg < m_scr ∧ ¬ n < 0 ∧ ¬ q < 0 ∧ n.toNatClampNeg ≤ 10000 ∧ q.toNatClampNeg ≤ 10000 then
      m_nx k ls (.inr (some h.length) :: r) (h ++ (.inr (.inr (3, (List.range n.toNatClampNeg).map fun i => some (h.length + 1 + i))) :: List.replicate n.toNatClampNeg (.inr (.inl (List.replicate q.toNatClampNeg 0))))) else m_bad
  | _ => m_bad
def s_call (y n : Nat) (ci : Nat) (st : List MV) (h : MH) : MR := match (st.take n).reverse with
  | .inr (some a) :: As => match m_cell h a with
    | some (.inl (c, _)) => if c = ci ∧ n ≤ st.length ∧ (st.drop n).length ≤ 8 then .inl (.inr (y, .inr (some a) :: As, st.drop n)) else m_bad
    | _ => m_bad
  | _ => m_bad
def s_calls (y n : Nat) (st : List MV) : MR := if n ≤ st.length ∧ (st.drop n).length ≤ 8 then .inl (.inr (y, (st.take n).reverse, st.drop n)) else m_bad
def stp (S : Nat × (Nat → Int32)) (d : Nat) (i : MI) (k : Nat) (ls : ML) (st : List MV) (h : MH) : MR := match i.1 with
  | 0 => m_nx k ls (.inl i.2.2.2.1 :: st) h
  | 1 => s_load i.2.1 i.2.2.2.1 k ls st h
  | 2 => s_store i.2.1 i.2.2.2.1 k ls st h
  | 3 => s_iinc i.2.1 i.2.2.2.1 k ls st h
  | 4 => s_bin i.2.1 k ls st h
  | 5 => s_un i.2.1 k ls st h
  | 6 => s_dup k ls st h
  | 7 => s_dup2 k ls st h
  | 8 => s_pop k ls st h
  | 9 => s_if i.2.1 i.2.2.1 k ls st h
  | 10 => s_icmp i.2.1 i.2.2.1 k ls st h
  | 11 => .inl (.inl (i.2.2.1, ls, st, h))
  | 12 => s_switch i.2.2.1 i.2.2.2.1 i.2.2.2.2 ls st h
  | 13 => s_getf i.2.1 i.2.2.1 k ls st h
  | 14 => s_putf i.2.1 i.2.2.1 i.2.2.2.1 k ls st h
  | 15 => s_iald S k ls st h
  | 16 => s_iast k ls st h
  | 17 => s_aald k ls st h
  | 18 => s_aast k ls st h
  | 19 => s_alen S k ls st h
  | 20 => s_new i.2.1 k ls st h
  | 21 => s_newa k ls st h
  | 22 => s_newq i.2.1 k ls st h
  | 23 => s_multi k ls st h
  | 24 => s_call i.2.1 i.2.2.1 (i.2.2.2.2.getD 0 0) st h
  | 25 => s_oin d k ls st h
  | 26 => s_copy d k ls st h
  | 27 => .inr true
  | 28 => .inr true
  | 29 => s_calls i.2.1 i.2.2.1 st
  | 30 => s_call i.2.1 i.2.2.1 (i.2.2.2.2.getD 0 0) st h
  | 31 => s_mm 0 d k ls st h
  | 32 => s_mm 1 d k ls st h
  | _ => m_bad
def m_code (y : Nat) : List MI := m_codes.getD y []
def m_rk (y : Nat) : Nat := m_rks.getD y 9
def m_mL (y : Nat) : Nat := m_mLs.getD y 0
def m_ent (y : Nat) (As : List MV) : ML := As.map some ++ List.replicate (m_mL y - As.length) none
def m_ret (y k : Nat) (st : List MV) : Option (List MV) := match (m_code y)[k]? with
  | some i => match i.1, m_rk y, st with
    | 27, 1, [.inl v] => some [.inl v]
    | 27, 2, [.inl v] => if v = 0 ∨ v = 1 then some [.inl v] else none
    | 28, 0, [] => some []
    | _, _, _ => none
  | none => none
def bodyN (S : Nat × (Nat → Int32)) : Nat → Nat → Nat → Nat → ML → List MV → MH → Option (Nat × List MV × MH)
  | 0, _, _, _, _, _, _ => none
  | n + 1, d, y, k, ls, st, h => match (m_code y)[k]? with
    | none => none
    | some i => match stp S d i k ls st h with
      | .inr true => some (k, st, h)
      | .inr false => none
      | .inl (.inl q) => bodyN S n d y q.1 q.2.1 q.2.2.1 q.2.2.2
      | .inl (.inr c) => match d with
        | 0 => none
        | d' + 1 => match bodyN S n d' c.1 0 (m_ent c.1 c.2.1) [] h with
          | none => none
          | some q => match m_ret c.1 q.1 q.2.1 with
            | none => none
            | some rv => bodyN S n (d' + 1) y (k + 1) ls (rv ++ c.2.2) q.2.2
end
section
/-! the small machine's heap as cells of the real one, from address b on; the script lies at sb -/
def m_ad (b sb a : Nat) : Nat := if a = m_scr then sb else b + a
def m_v (b sb : Nat) (v : MV) : Value := match v with
  | .inl x => .int x
  | .inr none => .null
  | .inr (some a) => .ref (m_ad b sb a)
def m_e (b sb : Nat) (tc : Nat → ClassId) (e : MC) : va_E := match e with
  | .inl o => .inr (o.1, o.2.map (m_v b sb))
  | .inr (.inl l) => .inl (tc 0, l.length, .inl (fun j => l.getD j 0))
  | .inr (.inr q) => .inl (tc q.1, q.2.length, .inr (.inr (.inr (.inr (fun j => (q.2.getD j none).map (m_ad b sb))))))
def m_P (D : va_G) (tc : Nat → ClassId) (b sb : Nat) (h : MH) (H : Heap) : Prop := H.size = b + h.length ∧ ∀ (k : Nat) (e : MC), h[k]? = some e → va_at D m_cl (b + k, m_e b sb tc e) H
theorem m_cell_some {h : MH} {a : Nat} {e : MC} (q : m_cell h a = some e) : a ≠ m_scr ∧ h[a]? = some e := by
  unfold m_cell at q
  split at q
  · cases q
  · exact ⟨by assumption, q⟩
theorem m_ad_ne {b sb a : Nat} (h : a ≠ m_scr) : m_ad b sb a = b + a := if_neg h
theorem m_v_cat (b sb : Nat) (v : MV) : (m_v b sb v).category = 1 := by
  rcases v with x | (_ | a) <;> rfl
theorem m_sum (b sb : Nat) (st : List MV) : ((st.map (m_v b sb)).map fun v => v.category).sum = st.length := by
  induction st with
  | nil => rfl
  | cons v r ih =>
    simp only [List.map_cons, List.sum_cons, List.length_cons, m_v_cat]
    omega
theorem m_P.one {D : va_G} {tc : Nat → ClassId} {b sb : Nat} {h : MH} {H : Heap} {k : Nat} {e : MC} (hP : m_P D tc b sb h H) (q : h[k]? = some e) : va_P D m_cl [(b + k, m_e b sb tc e)] H := by
  intro j x hx
  have hz : j < 1 := (List.getElem?_eq_some_iff.mp hx).1
  rw [show j = 0 by omega] at hx
  cases hx
  exact hP.2 k e q
theorem m_P.set {D : va_G} {tc : Nat → ClassId} {b sb : Nat} {h : MH} {H H1 : Heap} {k : Nat} {e e' : MC} (hP : m_P D tc b sb h H) (q : h[k]? = some e) (hz : H1.size = H.size) (ho : ∀ x : Nat, x ≠ b + k → H1[x]? = H[x]?) (hn : va_at D m_cl (b + k, m_e b sb tc e') H1) : m_P D tc b sb (h.set k e') H1 := by
  refine ⟨by rw [hz, List.length_set]; exact hP.1, fun j x hx => ?_⟩
  by_cases hj : j = k
  · subst hj
    have hl : j < h.length := (List.getElem?_eq_some_iff.mp q).1
    rw [List.getElem?_set_self hl] at hx
    cases hx
    exact hn
  · rw [List.getElem?_set_ne (Ne.symm hj)] at hx
    exact (hP.2 j x hx).kept (ho _ (by show b + j ≠ b + k; omega))
theorem m_P.push {D : va_G} {tc : Nat → ClassId} {b sb : Nat} {h : MH} {H H1 : Heap} {e : MC} (hP : m_P D tc b sb h H) (hz : H1.size = H.size + 1) (ho : ∀ x : Nat, x < H.size → H1[x]? = H[x]?) (hn : va_at D m_cl (b + h.length, m_e b sb tc e) H1) : m_P D tc b sb (h ++ [e]) H1 := by
  refine ⟨by rw [hz, hP.1, List.length_append]; rfl, fun j x hx => ?_⟩
  by_cases hj : j < h.length
  · rw [List.getElem?_append_left hj] at hx
    exact (hP.2 j x hx).kept (ho _ (by show b + j < H.size; rw [hP.1]; omega))
  · rw [List.getElem?_append_right (by omega)] at hx
    have h0 : j - h.length < 1 := (List.getElem?_eq_some_iff.mp hx).1
    rw [show j - h.length = 0 by omega] at hx
    cases hx
    rw [show j = h.length by omega]
    exact hn
def m_tys (tc : Nat → ClassId) : List (ClassId × FieldType) := [(tc 0, .int), (tc 1, .object "LessonSpiral$Sheet"), (tc 2, .object "LessonSpiral$Place"), (tc 3, .array .int)]
def m_nest (w : Cond) : Bool := match w with
  | .fieldLinkNest _ _ _ _ _ _ => true
  | .methodLinkNest _ _ _ _ => true
  | _ => false
def m_St (D : va_G) (tc : Nat → ClassId) (s : State) : Prop := va_K D m_cl (m_tys tc) s ∧ (∀ w ∈ lw_tbl, m_nest w = true → va_Nw w s) ∧ (∀ t : FieldType, Cond.arrayOver t ∈ lw_tbl → (Cond.arrayOver t).before #[] s = true)
/-- locals -/
def m_L (b sb nL : Nat) (ls : ML) (la : Array Slot) : Prop := la.size = nL ∧ ls.length = nL ∧ lv_wf la ∧ ∀ (i : Nat) (v : MV), ls[i]? = some (some v) → la[i]? = some (.val (m_v b sb v))
def m_prs (b sb : Nat) (ls : ML) : List (Nat × Value) := (List.range ls.length).filterMap fun i => match ls[i]? with
  | some (some v) => some (i, m_v b sb v)
  | _ => none
theorem m_prs_mem {b sb : Nat} {ls : ML} {q : Nat × Value} : q ∈ m_prs b sb ls ↔ ∃ v : MV, ls[q.1]? = some (some v) ∧ q.2 = m_v b sb v := by
  unfold m_prs
  rw [List.mem_filterMap]
  constructor
  · rintro ⟨i, -, h⟩
    split at h
    · rename_i v hv
      cases h
      exact ⟨v, hv, rfl⟩
    · cases h
  · rintro ⟨v, hv, h2⟩
    refine ⟨q.1, List.mem_range.mpr (List.getElem?_eq_some_iff.mp hv).1, ?_⟩
    rw [hv]
    simp only
    rw [← h2]
theorem m_L.has {b sb nL : Nat} {ls : ML} {la : Array Slot} (h : m_L b sb nL ls la) : lv_has la nL (m_prs b sb ls) := by
  refine ⟨h.1, h.2.2.1, fun q hq => ?_⟩
  obtain ⟨v, hv, h2⟩ := m_prs_mem.mp hq
  rw [h2]
  exact h.2.2.2 _ _ hv
theorem m_L.store {b sb nL : Nat} {ls : ML} {la la' : Array Slot} {i : Nat} {v : MV} (h : m_L b sb nL ls la) (hl : lv_has la' nL ((i, m_v b sb v) :: (m_prs b sb ls).filter (fun q => !(q.1 == i) && !(q.1 + 1 == i && q.2.category == 2)))) : m_L b sb nL (ls.set i (some v)) la' := by
  refine ⟨hl.1, by rw [List.length_set]; exact h.2.1, hl.2.1, fun j x hx => ?_⟩
  by_cases hj : j = i
  · subst hj
    have hx2 := hx
    rw [List.getElem?_set] at hx2
    simp only [if_true] at hx2
    split at hx2
    · cases hx2
      exact hl.2.2 (j, m_v b sb v) List.mem_cons_self
    · cases hx2
  · rw [List.getElem?_set_ne (Ne.symm hj)] at hx
    refine hl.2.2 (j, m_v b sb x) (List.mem_cons_of_mem _ (List.mem_filter.mpr ⟨m_prs_mem.mpr ⟨x, hx, rfl⟩, ?_⟩))
    simp [hj, m_v_cat]
theorem m_L.entry {b sb nL : Nat} (As : List MV) (hn : As.length ≤ nL) : ∃ la : Array Slot, (∀ m : MethodId, entryFrame m (As.map (m_v b sb)).toArray nL = F0 m 0 la []) ∧ m_L b sb nL (As.map some ++ List.replicate (nL - As.length) none) la := by
  have hc : ∀ v ∈ As.map (m_v b sb), v.category = 1 := fun v hv => by
    obtain ⟨x, -, rfl⟩ := List.mem_map.mp hv
    exact m_v_cat b sb x
  refine ⟨_, fun m => entry_eq m (As.map (m_v b sb)) hc nL, ?_⟩
  refine ⟨by simp; omega, by simp; omega, ⟨fun i v hv h2 => ?_, fun i hi => ?_⟩, fun i v hv => ?_⟩
  · exfalso
    rw [List.getElem?_toArray] at hv
    by_cases hi : i < As.length
    · rw [List.getElem?_append_left (by simp; exact hi)] at hv
      simp only [List.map_map, List.getElem?_map] at hv
      rw [List.getElem?_eq_getElem hi] at hv
      simp at hv
      rw [← hv, m_v_cat] at h2
      cases h2
    · rw [List.getElem?_append_right (by simp; omega), List.getElem?_replicate] at hv
      split at hv <;> cases hv
  · exfalso
    rw [List.getElem?_toArray] at hi
    by_cases h1 : i < As.length
    · rw [List.getElem?_append_left (by simp; exact h1)] at hi
      simp only [List.map_map, List.getElem?_map] at hi
      rw [List.getElem?_eq_getElem h1] at hi
      simp at hi
    · rw [List.getElem?_append_right (by simp; omega), List.getElem?_replicate] at hi
      split at hi <;> cases hi
  · rw [List.getElem?_toArray]
    by_cases h1 : i < As.length
    · rw [List.getElem?_append_left (by simp; exact h1)] at hv ⊢
      simp only [List.map_map, List.getElem?_map] at hv ⊢
      rw [List.getElem?_eq_getElem h1] at hv ⊢
      simp at hv ⊢
      rw [hv]
    · rw [List.getElem?_append_right (by simp; omega), List.getElem?_replicate] at hv
      split at hv <;> cases hv
end
section
/-! what a program decides of the tables: each numbered instruction is the decoded one, its words stand in the tables -/
def m_in (i : Nat) (w : Cond) : Bool := decide (lw_tbl[i]? = some w) && goodWord w
def m_inN (i : Nat) (w : Cond) : Bool := decide (lw_tbl[i]? = some w) && m_nest w
def m_C (ci : Nat) : vw_C := m_cl.getD ci ("", m_T0, 0)
def m_y (y : Nat) : MethodName := m_ys.getD y ⟨"", "", ""⟩
def m_bs (y : Nat) : ByteArray := m_bss.getD y ⟨#[]⟩
def m_wi (y j : Nat) : Nat := (m_wis.getD y []).getD j 0
def m_rt (y : Nat) : Option FieldType := match m_rk y with
  | 0 => none
  | 1 => some .int
  | _ => some .boolean
def k_push (own : String) (bs : ByteArray) (pc nx w : Nat) (v : Int32) : Bool := match decode bs pc with
  | .ok (.iconst n, 1) => decide (Int32.ofInt n = v) && decide (pc + 1 = nx)
  | .ok (.bipush n, 2) => decide ((Int8.ofInt n).toInt32 = v) && decide (pc + 2 = nx)
  | .ok (.sipush n, 3) => decide ((Int16.ofInt n).toInt32 = v) && decide (pc + 3 = nx)
  | .ok (.ldc j, 2) => m_in w (.constant own j v) && decide (pc + 2 = nx)
  | .ok (.ldc_w j, 3) => m_in w (.constant own j v) && decide (pc + 3 = nx)
  | _ => false
def k_load (bs : ByteArray) (pc nx a : Nat) (f : Int32) : Bool := match decode bs pc with
  | .ok (.iload n, 2) => decide (n = a) && decide (f = 0) && decide (pc + 2 = nx)
  | .ok (.iload_n n, 1) => decide ((n : Nat) = a) && decide (f = 0) && decide (pc + 1 = nx)
  | .ok (.aload n, 2) => decide (n = a) && decide (f = 1) && decide (pc + 2 = nx)
  | .ok (.aload_n n, 1) => decide ((n : Nat) = a) && decide (f = 1) && decide (pc + 1 = nx)
  | _ => false
def k_store (bs : ByteArray) (pc nx a : Nat) (f : Int32) : Bool := match decode bs pc with
  | .ok (.istore n, 2) => decide (n = a) && decide (f = 0) && decide (pc + 2 = nx)
  | .ok (.istore_n n, 1) => decide ((n : Nat) = a) && decide (f = 0) && decide (pc + 1 = nx)
  | .ok (.astore n, 2) => decide (n = a) && decide (f = 1) && decide (pc + 2 = nx)
  | .ok (.astore_n n, 1) => decide ((n : Nat) = a) && decide (f = 1) && decide (pc + 1 = nx)
  | _ => false
def k_iinc (bs : ByteArray) (pc nx a : Nat) (v : Int32) : Bool := match decode bs pc with
  | .ok (.iinc n z, 3) => decide (n = a) && decide (Int32.ofInt z = v) && decide (pc + 3 = nx)
  | _ => false
def k_bin (bs : ByteArray) (pc nx w : Nat) : Bool := decide (pc + 1 = nx) && match decode bs pc with
  | .ok (.iadd, 1) => decide (w = 0)
  | .ok (.isub, 1) => decide (w = 1)
  | .ok (.imul, 1) => decide (w = 2)
  | .ok (.iand, 1) => decide (w = 3)
  | .ok (.ior, 1) => decide (w = 4)
  | .ok (.ixor, 1) => decide (w = 5)
  | .ok (.ishl, 1) => decide (w = 6)
  | .ok (.ishr, 1) => decide (w = 7)
  | .ok (.iushr, 1) => decide (w = 8)
  | _ => false
def k_un (bs : ByteArray) (pc nx w : Nat) : Bool := decide (pc + 1 = nx) && match decode bs pc with
  | .ok (.ineg, 1) => decide (w = 0)
  | .ok (.i2b, 1) => decide (w = 1)
  | .ok (.i2s, 1) => decide (w = 2)
  | _ => false
def k_if (bs : ByteArray) (pc nx w tg : Nat) : Bool := decide (pc + 3 = nx) && match decode bs pc with
  | .ok (.ifCond .eq o, 3) => decide (w = 0) && decide ((pc : Int) + o = (tg : Int))
  | .ok (.ifCond .ne o, 3) => decide (w = 1) && decide ((pc : Int) + o = (tg : Int))
  | .ok (.ifCond .lt o, 3) => decide (w = 2) && decide ((pc : Int) + o = (tg : Int))
  | .ok (.ifCond .ge o, 3) => decide (w = 3) && decide ((pc : Int) + o = (tg : Int))
  | .ok (.ifCond .gt o, 3) => decide (w = 4) && decide ((pc : Int) + o = (tg : Int))
  | .ok (.ifCond .le o, 3) => decide (w = 5) && decide ((pc : Int) + o = (tg : Int))
  | _ => false
def k_icmp (bs : ByteArray) (pc nx w tg : Nat) : Bool := decide (pc + 3 = nx) && match decode bs pc with
  | .ok (.if_icmp .eq o, 3) => decide (w = 0) && decide ((pc : Int) + o = (tg : Int))
  | .ok (.if_icmp .ne o, 3) => decide (w = 1) && decide ((pc : Int) + o = (tg : Int))
  | .ok (.if_icmp .lt o, 3) => decide (w = 2) && decide ((pc : Int) + o = (tg : Int))
  | .ok (.if_icmp .ge o, 3) => decide (w = 3) && decide ((pc : Int) + o = (tg : Int))
  | .ok (.if_icmp .gt o, 3) => decide (w = 4) && decide ((pc : Int) + o = (tg : Int))
  | .ok (.if_icmp .le o, 3) => decide (w = 5) && decide ((pc : Int) + o = (tg : Int))
  | _ => false
def k_goto (bs : ByteArray) (pc tg : Nat) : Bool := match decode bs pc with
  | .ok (.goto o, 3) => decide ((pc : Int) + o = (tg : Int))
  | _ => false
def k_switch (bs : ByteArray) (pc : Nat) (tg : Nat → Nat) (d : Nat) (lo : Int32) (ts : List Nat) : Bool := match decode bs pc with
  | .ok (.tableswitch df l hi os, _) => decide (l = lo.toInt) && decide ((pc : Int) + df = (tg d : Int)) && decide (os.toList.map (fun o => (pc : Int) + o) = ts.map (fun t => (tg t : Int))) && decide (hi - l + 1 = (ts.length : Int))
  | _ => false
def k_getf (own : String) (bs : ByteArray) (pc nx w fl ci j : Nat) : Bool := decide (pc + 3 = nx) && decide (ci < 8) && decide (j < (m_C ci).2.2) && match decode bs pc with
  | .ok (.getfield z, 3) => if fl = 0 then m_in w (.fieldLink own z (m_C ci).1 ((m_C ci).2.1 j).2.1 ((m_C ci).2.1 j).2.2.1) else m_inN w (.fieldLinkNest own z (m_C ci).1 ((m_C ci).2.1 j).2.1 ((m_C ci).2.1 j).2.2.1 "LessonSpiral")
  | _ => false
def m_ty (ci j : Nat) : FieldType := (m_ct.getD ci m_t0) j
def k_putf (own nm : String) (bs : ByteArray) (pc nx w ci j : Nat) (f : Int32) : Bool := decide (pc + 3 = nx) && decide (ci < 8) && decide (j < (m_C ci).2.2) && (if f = 0 then decide (m_ty ci j = .int) else (m_ty ci j).isReference) && (!((m_C ci).2.1 j).2.2.2 || (decide (nm = "<init>") && decide ((m_C ci).1 = own))) && match decode bs pc with
  | .ok (.putfield z, 3) => m_in w (.fieldLink own z (m_C ci).1 ((m_C ci).2.1 j).2.1 ((m_C ci).2.1 j).2.2.1)
  | _ => false
def k_new (own : String) (bs : ByteArray) (pc nx w0 w1 w2 ci : Nat) : Bool := decide (pc + 3 = nx) && decide (ci < 8) && match decode bs pc with
  | .ok (.new z, 3) => m_in w0 (.classLink own z (m_C ci).1) && m_in w1 (.instantiable (m_C ci).1 (m_C ci).2.2) && m_in w2 (.initialized (m_C ci).1)
  | _ => false
def k_newa (bs : ByteArray) (pc nx : Nat) : Bool := decide (pc + 2 = nx) && m_in 77 (.arrayClass .int) && match decode bs pc with
  | .ok (.newarray t, 2) => decide (newarray.typeOf t = .int)
  | _ => false
def m_kn (kd : Nat) : String := if kd = 1 then "LessonSpiral$Sheet" else "LessonSpiral$Place"
def k_newq (own : String) (bs : ByteArray) (pc nx w kd : Nat) : Bool := decide (pc + 3 = nx) && decide (lw_tbl[if kd = 1 then 195 else 95]? = some (.arrayOver (.object (m_kn kd)))) && match decode bs pc with
  | .ok (.anewarray z, 3) => m_in w (.classLink own z (m_kn kd))
  | _ => false
def k_multi (own : String) (bs : ByteArray) (pc nx w : Nat) : Bool := decide (pc + 4 = nx) && m_in 77 (.arrayClass .int) && decide (lw_tbl[183]? = some (.arrayOver (.array .int))) && match decode bs pc with
  | .ok (.multianewarray z 2, 4) => m_in w (.classLink own z ("[" ++ (FieldType.array .int).toString))
  | _ => false
/-- what is known of a callee: fl 0 static, 1 <init>, 2 of an object; n its operands with the receiver -/
def k_meth (y n fl ci : Nat) : Bool := decide (0 < y) && decide (y < 176) && decide (m_wi y 4 = fl) && m_in (m_wi y 0) (.code (m_y y) (m_bs y) (m_mL y) (m_rt y)) && m_in (m_wi y 1) (.initialized (m_y y).cls) && decide ((m_y y).cls ≠ "java/lang/invoke/MethodHandle") && decide ((m_y y).cls ≠ "java/lang/invoke/VarHandle") && plainName (m_y y).cls && decide (m_mL y ≤ 40) && decide (n ≤ m_mL y) && decide ((m_rk y) < 3) &&
  (if fl = 0 then m_in (m_wi y 2) (.static (m_y y)) && decide ((parseMethodDescriptor (m_y y).desc).map (fun q => q.parameters.length) = some n) else
    m_in (m_wi y 2) (.instanceMethod (m_y y)) && decide (ci < 8) && decide ((m_C ci).1 = (m_y y).cls) && decide (0 < n) && decide ((parseMethodDescriptor (m_y y).desc).map (fun q => q.parameters.length) = some (n - 1)) && (if fl = 1 then decide ((m_y y).name = "<init>") && decide (m_rk y = 0) else m_in (m_wi y 3) (.selects (m_y y).cls (m_y y) (m_y y))))
def k_call (own : String) (bs : ByteArray) (pc nx w y n ci : Nat) : Bool := decide (pc + 3 = nx) && k_meth y n 2 ci && match decode bs pc with
  | .ok (.invokevirtual z, 3) => m_in w (.methodLink own z (m_y y))
  | _ => false
def k_spec (own : String) (bs : ByteArray) (pc nx w y n ci : Nat) : Bool := decide (pc + 3 = nx) && k_meth y n 1 ci && match decode bs pc with
  | .ok (.invokespecial z, 3) => m_in w (.methodLink own z (m_y y))
  | _ => false
def k_stat (own : String) (bs : ByteArray) (pc nx w fl y n : Nat) : Bool := decide (pc + 3 = nx) && k_meth y n 0 0 && match decode bs pc with
  | .ok (.invokestatic z, 3) => if fl = 0 then m_in w (.methodLink own z (m_y y)) else m_inN w (.methodLinkNest own z (m_y y) "LessonSpiral")
  | _ => false
def k_oin (own : String) (bs : ByteArray) (pc nx w : Nat) : Bool := decide (pc + 3 = nx) && m_in 65 (.instanceMethod Lib.objectInit) && m_in 66 (.code Lib.objectInit ⟨#[0xb1]⟩ 1 none) && match decode bs pc with
  | .ok (.invokespecial z, 3) => m_in w (.methodLink own z Lib.objectInit)
  | _ => false
def k_copy (own : String) (bs : ByteArray) (pc nx w : Nat) : Bool := decide (pc + 3 = nx) && m_in 257 (.native arraycopyName) && m_in 256 (.static arraycopyName) && m_in 56 (.initialized "java/lang/System") && match decode bs pc with
  | .ok (.invokestatic z, 3) => m_in w (.methodLink own z arraycopyName)
  | _ => false
def k_max (own : String) (bs : ByteArray) (pc nx w : Nat) : Bool := decide (pc + 3 = nx) && m_in 566 (.static Lib.Math.max.name) && m_in 57 (.initialized "java/lang/Math") && m_in 567 (.code Lib.Math.max.name Lib.Math.max.code 2 (some .int)) && match decode bs pc with
  | .ok (.invokestatic z, 3) => m_in w (.methodLink own z Lib.Math.max.name)
  | _ => false
def k_min (own : String) (bs : ByteArray) (pc nx w : Nat) : Bool := decide (pc + 3 = nx) && m_in 259 (.static Lib.Math.min.name) && m_in 57 (.initialized "java/lang/Math") && m_in 260 (.code Lib.Math.min.name Lib.Math.min.code 2 (some .int)) && match decode bs pc with
  | .ok (.invokestatic z, 3) => m_in w (.methodLink own z Lib.Math.min.name)
  | _ => false
def k_one (bs : ByteArray) (pc nx : Nat) (i : Instr) : Bool := decide (pc + 1 = nx) && decide (decode bs pc = .ok (i, 1))
def k_ret (bs : ByteArray) (pc op : Nat) : Bool := if op = 27 then decide (decode bs pc = .ok (.ireturn, 1)) else decide (decode bs pc = .ok (.return_, 1))
def m_dk (own nm : String) (bs : ByteArray) (pc nx : Nat) (tg : Nat → Nat) (ws : List Nat) (i : MI) : Bool := match i.1 with
  | 0 => k_push own bs pc nx (ws.getD 0 0) i.2.2.2.1
  | 1 => k_load bs pc nx i.2.1 i.2.2.2.1
  | 2 => k_store bs pc nx i.2.1 i.2.2.2.1
  | 3 => k_iinc bs pc nx i.2.1 i.2.2.2.1
  | 4 => k_bin bs pc nx i.2.1
  | 5 => k_un bs pc nx i.2.1
  | 6 => k_one bs pc nx .dup
  | 7 => k_one bs pc nx .dup2
  | 8 => k_one bs pc nx .pop
  | 9 => k_if bs pc nx i.2.1 (tg i.2.2.1)
  | 10 => k_icmp bs pc nx i.2.1 (tg i.2.2.1)
  | 11 => k_goto bs pc (tg i.2.2.1)
  | 12 => k_switch bs pc tg i.2.2.1 i.2.2.2.1 i.2.2.2.2
  | 13 => k_getf own bs pc nx (ws.getD 0 0) (ws.getD 1 0) i.2.1 i.2.2.1
  | 14 => k_putf own nm bs pc nx (ws.getD 0 0) i.2.1 i.2.2.1 i.2.2.2.1
  | 15 => k_one bs pc nx .iaload
  | 16 => k_one bs pc nx .iastore
  | 17 => k_one bs pc nx .aaload
  | 18 => k_one bs pc nx .aastore
  | 19 => k_one bs pc nx .arraylength
  | 20 => k_new own bs pc nx (ws.getD 0 0) (ws.getD 1 0) (ws.getD 2 0) i.2.1
  | 21 => k_newa bs pc nx
  | 22 => k_newq own bs pc nx (ws.getD 0 0) i.2.1
  | 23 => k_multi own bs pc nx (ws.getD 0 0)
  | 24 => k_call own bs pc nx (ws.getD 0 0) i.2.1 i.2.2.1 (i.2.2.2.2.getD 0 0)
  | 25 => k_oin own bs pc nx (ws.getD 0 0)
  | 26 => k_copy own bs pc nx (ws.getD 0 0)
  | 27 => k_ret bs pc 27
  | 28 => k_ret bs pc 28
  | 29 => k_stat own bs pc nx (ws.getD 0 0) (ws.getD 1 0) i.2.1 i.2.2.1
  | 30 => k_spec own bs pc nx (ws.getD 0 0) i.2.1 i.2.2.1 (i.2.2.2.2.getD 0 0)
  | 31 => k_max own bs pc nx (ws.getD 0 0)
  | 32 => k_min own bs pc nx (ws.getD 0 0)
  | _ => false
def m_pcl (y : Nat) : List (Nat × List Nat) := m_pcs.getD y []
def m_pc (y k : Nat) : Nat := ((m_pcl y).getD k (0, [])).1
def m_ck (y k : Nat) : Bool := m_dk (m_y y).cls (m_y y).name (m_bs y) (m_pc y k) (m_pc y (k + 1)) (m_pc y) ((m_pcl y).getD k (0, [])).2 ((m_code y).getD k (99, 0, 0, 0, []))
def m_cr (y lo n : Nat) : Bool := (List.range n).all fun j => m_ck y (lo + j)
theorem m_cr_ok {y lo n k : Nat} (h : m_cr y lo n = true) (h1 : lo ≤ k) (h2 : k < lo + n) : m_ck y k = true := by
  have := List.all_eq_true.mp h (k - lo) (List.mem_range.mpr (by omega))
  rwa [show lo + (k - lo) = k by omega] at this
def m_dv (v : MV) : Value := match v with
  | .inl x => .int x
  | .inr _ => .null
def m_clsok : Bool := (List.range 8).all fun ci => decide ((m_def.getD ci []).length = (m_C ci).2.2) && (List.range (m_C ci).2.2).all fun k => m_in ((m_lay.getD ci []).getD k 0) (u_lay (m_C ci).1 (m_C ci).2.1 k) && decide (parseFieldDescriptor ((m_C ci).2.1 k).2.2.1 = some (m_ty ci k)) && decide (((m_C ci).2.1 k).1 = (m_C ci).1) &&
  decide (defaultValue (m_ty ci k) = m_dv ((m_def.getD ci []).getD k (.inr none))) && decide ((m_def.getD ci []).getD k (.inr none) = .inl 0 ∨ (m_def.getD ci []).getD k (.inr none) = .inr none) && (List.range (m_C ci).2.2).all fun j => decide (j = k) || decide (((m_C ci).2.1 j).2.1 ≠ ((m_C ci).2.1 k).2.1)
theorem m_clsok_ok : m_clsok = true := by decide +kernel
end
section
theorem m_cr_0_0 : m_cr 0 0 30 = true := by decide +kernel
theorem m_cr_0_30 : m_cr 0 30 30 = true := by decide +kernel
theorem m_cr_0_60 : m_cr 0 60 30 = true := by decide +kernel
theorem m_cr_0_90 : m_cr 0 90 30 = true := by decide +kernel
theorem m_cr_0_120 : m_cr 0 120 30 = true := by decide +kernel
theorem m_cr_0_150 : m_cr 0 150 30 = true := by decide +kernel
theorem m_cr_0_180 : m_cr 0 180 30 = true := by decide +kernel
theorem m_cr_0_210 : m_cr 0 210 30 = true := by decide +kernel
theorem m_cr_0_240 : m_cr 0 240 30 = true := by decide +kernel
theorem m_cr_0_270 : m_cr 0 270 30 = true := by decide +kernel
theorem m_cr_0_300 : m_cr 0 300 30 = true := by decide +kernel
theorem m_cr_0_330 : m_cr 0 330 30 = true := by decide +kernel
theorem m_cr_0_360 : m_cr 0 360 30 = true := by decide +kernel
theorem m_cr_0_390 : m_cr 0 390 30 = true := by decide +kernel
theorem m_cr_0_420 : m_cr 0 420 30 = true := by decide +kernel
theorem m_cr_0_450 : m_cr 0 450 30 = true := by decide +kernel
theorem m_cr_0_480 : m_cr 0 480 30 = true := by decide +kernel
theorem m_cr_0_510 : m_cr 0 510 30 = true := by decide +kernel
theorem m_cr_0_540 : m_cr 0 540 30 = true := by decide +kernel
theorem m_cr_0_570 : m_cr 0 570 30 = true := by decide +kernel
theorem m_cr_0_600 : m_cr 0 600 30 = true := by decide +kernel
theorem m_cr_0_630 : m_cr 0 630 30 = true := by decide +kernel
theorem m_cr_0_660 : m_cr 0 660 30 = true := by decide +kernel
theorem m_cr_0_690 : m_cr 0 690 30 = true := by decide +kernel
theorem m_cr_0_720 : m_cr 0 720 30 = true := by decide +kernel
theorem m_cr_0_750 : m_cr 0 750 24 = true := by decide +kernel
theorem m_cf_0 (k : Nat) (hk : k < (m_code 0).length) : m_ck 0 k = true := by
  have h9 : k < 774 := Nat.lt_of_lt_of_le hk (by decide +kernel)
  by_cases c0 : k < 30
  · exact m_cr_ok m_cr_0_0 (by omega) (by omega)
  by_cases c30 : k < 60
  · exact m_cr_ok m_cr_0_30 (by omega) (by omega)
  by_cases c60 : k < 90
  · exact m_cr_ok m_cr_0_60 (by omega) (by omega)
  by_cases c90 : k < 120
  · exact m_cr_ok m_cr_0_90 (by omega) (by omega)
  by_cases c120 : k < 150
  · exact m_cr_ok m_cr_0_120 (by omega) (by omega)
  by_cases c150 : k < 180
  · exact m_cr_ok m_cr_0_150 (by omega) (by omega)
  by_cases c180 : k < 210
  · exact m_cr_ok m_cr_0_180 (by omega) (by omega)
  by_cases c210 : k < 240
  · exact m_cr_ok m_cr_0_210 (by omega) (by omega)
  by_cases c240 : k < 270
  · exact m_cr_ok m_cr_0_240 (by omega) (by omega)
  by_cases c270 : k < 300
  · exact m_cr_ok m_cr_0_270 (by omega) (by omega)
  by_cases c300 : k < 330
  · exact m_cr_ok m_cr_0_300 (by omega) (by omega)
  by_cases c330 : k < 360
  · exact m_cr_ok m_cr_0_330 (by omega) (by omega)
  by_cases c360 : k < 390
  · exact m_cr_ok m_cr_0_360 (by omega) (by omega)
  by_cases c390 : k < 420
  · exact m_cr_ok m_cr_0_390 (by omega) (by omega)
  by_cases c420 : k < 450
  · exact m_cr_ok m_cr_0_420 (by omega) (by omega)
  by_cases c450 : k < 480
  · exact m_cr_ok m_cr_0_450 (by omega) (by omega)
  by_cases c480 : k < 510
  · exact m_cr_ok m_cr_0_480 (by omega) (by omega)
  by_cases c510 : k < 540
  · exact m_cr_ok m_cr_0_510 (by omega) (by omega)
  by_cases c540 : k < 570
  · exact m_cr_ok m_cr_0_540 (by omega) (by omega)
  by_cases c570 : k < 600
  · exact m_cr_ok m_cr_0_570 (by omega) (by omega)
  by_cases c600 : k < 630
  · exact m_cr_ok m_cr_0_600 (by omega) (by omega)
  by_cases c630 : k < 660
  · exact m_cr_ok m_cr_0_630 (by omega) (by omega)
  by_cases c660 : k < 690
  · exact m_cr_ok m_cr_0_660 (by omega) (by omega)
  by_cases c690 : k < 720
  · exact m_cr_ok m_cr_0_690 (by omega) (by omega)
  by_cases c720 : k < 750
  · exact m_cr_ok m_cr_0_720 (by omega) (by omega)
  exact m_cr_ok m_cr_0_750 (by omega) (by omega)
theorem m_cr_1_0 : m_cr 1 0 7 = true := by decide +kernel
theorem m_cf_1 (k : Nat) (hk : k < (m_code 1).length) : m_ck 1 k = true := m_cr_ok m_cr_1_0 (Nat.zero_le k) (Nat.lt_of_lt_of_le hk (by decide +kernel))
theorem m_cr_2_0 : m_cr 2 0 7 = true := by decide +kernel
theorem m_cf_2 (k : Nat) (hk : k < (m_code 2).length) : m_ck 2 k = true := m_cr_ok m_cr_2_0 (Nat.zero_le k) (Nat.lt_of_lt_of_le hk (by decide +kernel))
theorem m_cr_3_0 : m_cr 3 0 42 = true := by decide +kernel
theorem m_cf_3 (k : Nat) (hk : k < (m_code 3).length) : m_ck 3 k = true := m_cr_ok m_cr_3_0 (Nat.zero_le k) (Nat.lt_of_lt_of_le hk (by decide +kernel))
theorem m_cr_4_0 : m_cr 4 0 26 = true := by decide +kernel
theorem m_cf_4 (k : Nat) (hk : k < (m_code 4).length) : m_ck 4 k = true := m_cr_ok m_cr_4_0 (Nat.zero_le k) (Nat.lt_of_lt_of_le hk (by decide +kernel))
theorem m_cr_5_0 : m_cr 5 0 8 = true := by decide +kernel
theorem m_cf_5 (k : Nat) (hk : k < (m_code 5).length) : m_ck 5 k = true := m_cr_ok m_cr_5_0 (Nat.zero_le k) (Nat.lt_of_lt_of_le hk (by decide +kernel))
theorem m_cr_6_0 : m_cr 6 0 8 = true := by decide +kernel
theorem m_cf_6 (k : Nat) (hk : k < (m_code 6).length) : m_ck 6 k = true := m_cr_ok m_cr_6_0 (Nat.zero_le k) (Nat.lt_of_lt_of_le hk (by decide +kernel))
theorem m_cr_7_0 : m_cr 7 0 5 = true := by decide +kernel
theorem m_cf_7 (k : Nat) (hk : k < (m_code 7).length) : m_ck 7 k = true := m_cr_ok m_cr_7_0 (Nat.zero_le k) (Nat.lt_of_lt_of_le hk (by decide +kernel))
theorem m_cr_8_0 : m_cr 8 0 9 = true := by decide +kernel
theorem m_cf_8 (k : Nat) (hk : k < (m_code 8).length) : m_ck 8 k = true := m_cr_ok m_cr_8_0 (Nat.zero_le k) (Nat.lt_of_lt_of_le hk (by decide +kernel))
theorem m_cr_9_0 : m_cr 9 0 10 = true := by decide +kernel
theorem m_cf_9 (k : Nat) (hk : k < (m_code 9).length) : m_ck 9 k = true := m_cr_ok m_cr_9_0 (Nat.zero_le k) (Nat.lt_of_lt_of_le hk (by decide +kernel))
theorem m_cr_10_0 : m_cr 10 0 59 = true := by decide +kernel
theorem m_cf_10 (k : Nat) (hk : k < (m_code 10).length) : m_ck 10 k = true := m_cr_ok m_cr_10_0 (Nat.zero_le k) (Nat.lt_of_lt_of_le hk (by decide +kernel))
theorem m_cr_11_0 : m_cr 11 0 20 = true := by decide +kernel
theorem m_cf_11 (k : Nat) (hk : k < (m_code 11).length) : m_ck 11 k = true := m_cr_ok m_cr_11_0 (Nat.zero_le k) (Nat.lt_of_lt_of_le hk (by decide +kernel))
theorem m_cr_12_0 : m_cr 12 0 12 = true := by decide +kernel
theorem m_cf_12 (k : Nat) (hk : k < (m_code 12).length) : m_ck 12 k = true := m_cr_ok m_cr_12_0 (Nat.zero_le k) (Nat.lt_of_lt_of_le hk (by decide +kernel))
theorem m_cr_13_0 : m_cr 13 0 14 = true := by decide +kernel
theorem m_cf_13 (k : Nat) (hk : k < (m_code 13).length) : m_ck 13 k = true := m_cr_ok m_cr_13_0 (Nat.zero_le k) (Nat.lt_of_lt_of_le hk (by decide +kernel))
theorem m_cr_14_0 : m_cr 14 0 22 = true := by decide +kernel
theorem m_cf_14 (k : Nat) (hk : k < (m_code 14).length) : m_ck 14 k = true := m_cr_ok m_cr_14_0 (Nat.zero_le k) (Nat.lt_of_lt_of_le hk (by decide +kernel))
theorem m_cr_15_0 : m_cr 15 0 34 = true := by decide +kernel
theorem m_cf_15 (k : Nat) (hk : k < (m_code 15).length) : m_ck 15 k = true := m_cr_ok m_cr_15_0 (Nat.zero_le k) (Nat.lt_of_lt_of_le hk (by decide +kernel))
theorem m_cr_16_0 : m_cr 16 0 7 = true := by decide +kernel
theorem m_cf_16 (k : Nat) (hk : k < (m_code 16).length) : m_ck 16 k = true := m_cr_ok m_cr_16_0 (Nat.zero_le k) (Nat.lt_of_lt_of_le hk (by decide +kernel))
theorem m_cr_17_0 : m_cr 17 0 8 = true := by decide +kernel
theorem m_cf_17 (k : Nat) (hk : k < (m_code 17).length) : m_ck 17 k = true := m_cr_ok m_cr_17_0 (Nat.zero_le k) (Nat.lt_of_lt_of_le hk (by decide +kernel))
theorem m_cr_18_0 : m_cr 18 0 7 = true := by decide +kernel
theorem m_cf_18 (k : Nat) (hk : k < (m_code 18).length) : m_ck 18 k = true := m_cr_ok m_cr_18_0 (Nat.zero_le k) (Nat.lt_of_lt_of_le hk (by decide +kernel))
theorem m_cr_19_0 : m_cr 19 0 12 = true := by decide +kernel
theorem m_cf_19 (k : Nat) (hk : k < (m_code 19).length) : m_ck 19 k = true := m_cr_ok m_cr_19_0 (Nat.zero_le k) (Nat.lt_of_lt_of_le hk (by decide +kernel))
theorem m_cr_20_0 : m_cr 20 0 6 = true := by decide +kernel
theorem m_cf_20 (k : Nat) (hk : k < (m_code 20).length) : m_ck 20 k = true := m_cr_ok m_cr_20_0 (Nat.zero_le k) (Nat.lt_of_lt_of_le hk (by decide +kernel))
theorem m_cr_21_0 : m_cr 21 0 21 = true := by decide +kernel
theorem m_cf_21 (k : Nat) (hk : k < (m_code 21).length) : m_ck 21 k = true := m_cr_ok m_cr_21_0 (Nat.zero_le k) (Nat.lt_of_lt_of_le hk (by decide +kernel))
theorem m_cr_22_0 : m_cr 22 0 5 = true := by decide +kernel
theorem m_cf_22 (k : Nat) (hk : k < (m_code 22).length) : m_ck 22 k = true := m_cr_ok m_cr_22_0 (Nat.zero_le k) (Nat.lt_of_lt_of_le hk (by decide +kernel))
theorem m_cr_23_0 : m_cr 23 0 6 = true := by decide +kernel
theorem m_cf_23 (k : Nat) (hk : k < (m_code 23).length) : m_ck 23 k = true := m_cr_ok m_cr_23_0 (Nat.zero_le k) (Nat.lt_of_lt_of_le hk (by decide +kernel))
theorem m_cr_24_0 : m_cr 24 0 8 = true := by decide +kernel
theorem m_cf_24 (k : Nat) (hk : k < (m_code 24).length) : m_ck 24 k = true := m_cr_ok m_cr_24_0 (Nat.zero_le k) (Nat.lt_of_lt_of_le hk (by decide +kernel))
theorem m_cr_25_0 : m_cr 25 0 7 = true := by decide +kernel
theorem m_cf_25 (k : Nat) (hk : k < (m_code 25).length) : m_ck 25 k = true := m_cr_ok m_cr_25_0 (Nat.zero_le k) (Nat.lt_of_lt_of_le hk (by decide +kernel))
theorem m_cr_26_0 : m_cr 26 0 30 = true := by decide +kernel
theorem m_cf_26 (k : Nat) (hk : k < (m_code 26).length) : m_ck 26 k = true := m_cr_ok m_cr_26_0 (Nat.zero_le k) (Nat.lt_of_lt_of_le hk (by decide +kernel))
theorem m_cr_27_0 : m_cr 27 0 27 = true := by decide +kernel
theorem m_cf_27 (k : Nat) (hk : k < (m_code 27).length) : m_ck 27 k = true := m_cr_ok m_cr_27_0 (Nat.zero_le k) (Nat.lt_of_lt_of_le hk (by decide +kernel))
theorem m_cr_28_0 : m_cr 28 0 6 = true := by decide +kernel
theorem m_cf_28 (k : Nat) (hk : k < (m_code 28).length) : m_ck 28 k = true := m_cr_ok m_cr_28_0 (Nat.zero_le k) (Nat.lt_of_lt_of_le hk (by decide +kernel))
theorem m_cr_29_0 : m_cr 29 0 60 = true := by decide +kernel
theorem m_cr_29_60 : m_cr 29 60 13 = true := by decide +kernel
theorem m_cf_29 (k : Nat) (hk : k < (m_code 29).length) : m_ck 29 k = true := by
  have h9 : k < 73 := Nat.lt_of_lt_of_le hk (by decide +kernel)
  by_cases c0 : k < 60
  · exact m_cr_ok m_cr_29_0 (by omega) (by omega)
  exact m_cr_ok m_cr_29_60 (by omega) (by omega)
theorem m_cr_30_0 : m_cr 30 0 38 = true := by decide +kernel
theorem m_cf_30 (k : Nat) (hk : k < (m_code 30).length) : m_ck 30 k = true := m_cr_ok m_cr_30_0 (Nat.zero_le k) (Nat.lt_of_lt_of_le hk (by decide +kernel))
theorem m_cr_31_0 : m_cr 31 0 11 = true := by decide +kernel
theorem m_cf_31 (k : Nat) (hk : k < (m_code 31).length) : m_ck 31 k = true := m_cr_ok m_cr_31_0 (Nat.zero_le k) (Nat.lt_of_lt_of_le hk (by decide +kernel))
theorem m_cr_32_0 : m_cr 32 0 12 = true := by decide +kernel
theorem m_cf_32 (k : Nat) (hk : k < (m_code 32).length) : m_ck 32 k = true := m_cr_ok m_cr_32_0 (Nat.zero_le k) (Nat.lt_of_lt_of_le hk (by decide +kernel))
theorem m_cr_33_0 : m_cr 33 0 32 = true := by decide +kernel
theorem m_cf_33 (k : Nat) (hk : k < (m_code 33).length) : m_ck 33 k = true := m_cr_ok m_cr_33_0 (Nat.zero_le k) (Nat.lt_of_lt_of_le hk (by decide +kernel))
theorem m_cr_34_0 : m_cr 34 0 20 = true := by decide +kernel
theorem m_cf_34 (k : Nat) (hk : k < (m_code 34).length) : m_ck 34 k = true := m_cr_ok m_cr_34_0 (Nat.zero_le k) (Nat.lt_of_lt_of_le hk (by decide +kernel))
theorem m_cr_35_0 : m_cr 35 0 51 = true := by decide +kernel
theorem m_cf_35 (k : Nat) (hk : k < (m_code 35).length) : m_ck 35 k = true := m_cr_ok m_cr_35_0 (Nat.zero_le k) (Nat.lt_of_lt_of_le hk (by decide +kernel))
theorem m_cr_36_0 : m_cr 36 0 35 = true := by decide +kernel
theorem m_cf_36 (k : Nat) (hk : k < (m_code 36).length) : m_ck 36 k = true := m_cr_ok m_cr_36_0 (Nat.zero_le k) (Nat.lt_of_lt_of_le hk (by decide +kernel))
theorem m_cr_37_0 : m_cr 37 0 25 = true := by decide +kernel
theorem m_cf_37 (k : Nat) (hk : k < (m_code 37).length) : m_ck 37 k = true := m_cr_ok m_cr_37_0 (Nat.zero_le k) (Nat.lt_of_lt_of_le hk (by decide +kernel))
theorem m_cr_38_0 : m_cr 38 0 15 = true := by decide +kernel
theorem m_cf_38 (k : Nat) (hk : k < (m_code 38).length) : m_ck 38 k = true := m_cr_ok m_cr_38_0 (Nat.zero_le k) (Nat.lt_of_lt_of_le hk (by decide +kernel))
theorem m_cr_39_0 : m_cr 39 0 60 = true := by decide +kernel
theorem m_cr_39_60 : m_cr 39 60 5 = true := by decide +kernel
theorem m_cf_39 (k : Nat) (hk : k < (m_code 39).length) : m_ck 39 k = true := by
  have h9 : k < 65 := Nat.lt_of_lt_of_le hk (by decide +kernel)
  by_cases c0 : k < 60
  · exact m_cr_ok m_cr_39_0 (by omega) (by omega)
  exact m_cr_ok m_cr_39_60 (by omega) (by omega)
theorem m_cr_40_0 : m_cr 40 0 53 = true := by decide +kernel
theorem m_cf_40 (k : Nat) (hk : k < (m_code 40).length) : m_ck 40 k = true := m_cr_ok m_cr_40_0 (Nat.zero_le k) (Nat.lt_of_lt_of_le hk (by decide +kernel))
theorem m_cr_41_0 : m_cr 41 0 12 = true := by decide +kernel
theorem m_cf_41 (k : Nat) (hk : k < (m_code 41).length) : m_ck 41 k = true := m_cr_ok m_cr_41_0 (Nat.zero_le k) (Nat.lt_of_lt_of_le hk (by decide +kernel))
theorem m_cr_42_0 : m_cr 42 0 14 = true := by decide +kernel
theorem m_cf_42 (k : Nat) (hk : k < (m_code 42).length) : m_ck 42 k = true := m_cr_ok m_cr_42_0 (Nat.zero_le k) (Nat.lt_of_lt_of_le hk (by decide +kernel))
theorem m_cr_43_0 : m_cr 43 0 13 = true := by decide +kernel
theorem m_cf_43 (k : Nat) (hk : k < (m_code 43).length) : m_ck 43 k = true := m_cr_ok m_cr_43_0 (Nat.zero_le k) (Nat.lt_of_lt_of_le hk (by decide +kernel))
theorem m_cr_44_0 : m_cr 44 0 9 = true := by decide +kernel
theorem m_cf_44 (k : Nat) (hk : k < (m_code 44).length) : m_ck 44 k = true := m_cr_ok m_cr_44_0 (Nat.zero_le k) (Nat.lt_of_lt_of_le hk (by decide +kernel))
theorem m_cr_45_0 : m_cr 45 0 15 = true := by decide +kernel
theorem m_cf_45 (k : Nat) (hk : k < (m_code 45).length) : m_ck 45 k = true := m_cr_ok m_cr_45_0 (Nat.zero_le k) (Nat.lt_of_lt_of_le hk (by decide +kernel))
theorem m_cr_46_0 : m_cr 46 0 35 = true := by decide +kernel
theorem m_cf_46 (k : Nat) (hk : k < (m_code 46).length) : m_ck 46 k = true := m_cr_ok m_cr_46_0 (Nat.zero_le k) (Nat.lt_of_lt_of_le hk (by decide +kernel))
theorem m_cr_47_0 : m_cr 47 0 13 = true := by decide +kernel
theorem m_cf_47 (k : Nat) (hk : k < (m_code 47).length) : m_ck 47 k = true := m_cr_ok m_cr_47_0 (Nat.zero_le k) (Nat.lt_of_lt_of_le hk (by decide +kernel))
theorem m_cr_48_0 : m_cr 48 0 3 = true := by decide +kernel
theorem m_cf_48 (k : Nat) (hk : k < (m_code 48).length) : m_ck 48 k = true := m_cr_ok m_cr_48_0 (Nat.zero_le k) (Nat.lt_of_lt_of_le hk (by decide +kernel))
theorem m_cr_49_0 : m_cr 49 0 3 = true := by decide +kernel
theorem m_cf_49 (k : Nat) (hk : k < (m_code 49).length) : m_ck 49 k = true := m_cr_ok m_cr_49_0 (Nat.zero_le k) (Nat.lt_of_lt_of_le hk (by decide +kernel))
theorem m_cr_50_0 : m_cr 50 0 3 = true := by decide +kernel
theorem m_cf_50 (k : Nat) (hk : k < (m_code 50).length) : m_ck 50 k = true := m_cr_ok m_cr_50_0 (Nat.zero_le k) (Nat.lt_of_lt_of_le hk (by decide +kernel))
theorem m_cr_51_0 : m_cr 51 0 16 = true := by decide +kernel
theorem m_cf_51 (k : Nat) (hk : k < (m_code 51).length) : m_ck 51 k = true := m_cr_ok m_cr_51_0 (Nat.zero_le k) (Nat.lt_of_lt_of_le hk (by decide +kernel))
theorem m_cr_52_0 : m_cr 52 0 16 = true := by decide +kernel
theorem m_cf_52 (k : Nat) (hk : k < (m_code 52).length) : m_ck 52 k = true := m_cr_ok m_cr_52_0 (Nat.zero_le k) (Nat.lt_of_lt_of_le hk (by decide +kernel))
theorem m_cr_53_0 : m_cr 53 0 39 = true := by decide +kernel
theorem m_cf_53 (k : Nat) (hk : k < (m_code 53).length) : m_ck 53 k = true := m_cr_ok m_cr_53_0 (Nat.zero_le k) (Nat.lt_of_lt_of_le hk (by decide +kernel))
theorem m_cr_54_0 : m_cr 54 0 42 = true := by decide +kernel
theorem m_cf_54 (k : Nat) (hk : k < (m_code 54).length) : m_ck 54 k = true := m_cr_ok m_cr_54_0 (Nat.zero_le k) (Nat.lt_of_lt_of_le hk (by decide +kernel))
theorem m_cr_55_0 : m_cr 55 0 23 = true := by decide +kernel
theorem m_cf_55 (k : Nat) (hk : k < (m_code 55).length) : m_ck 55 k = true := m_cr_ok m_cr_55_0 (Nat.zero_le k) (Nat.lt_of_lt_of_le hk (by decide +kernel))
theorem m_cr_56_0 : m_cr 56 0 60 = true := by decide +kernel
theorem m_cr_56_60 : m_cr 56 60 5 = true := by decide +kernel
theorem m_cf_56 (k : Nat) (hk : k < (m_code 56).length) : m_ck 56 k = true := by
  have h9 : k < 65 := Nat.lt_of_lt_of_le hk (by decide +kernel)
  by_cases c0 : k < 60
  · exact m_cr_ok m_cr_56_0 (by omega) (by omega)
  exact m_cr_ok m_cr_56_60 (by omega) (by omega)
theorem m_cr_57_0 : m_cr 57 0 56 = true := by decide +kernel
theorem m_cf_57 (k : Nat) (hk : k < (m_code 57).length) : m_ck 57 k = true := m_cr_ok m_cr_57_0 (Nat.zero_le k) (Nat.lt_of_lt_of_le hk (by decide +kernel))
theorem m_cr_58_0 : m_cr 58 0 16 = true := by decide +kernel
theorem m_cf_58 (k : Nat) (hk : k < (m_code 58).length) : m_ck 58 k = true := m_cr_ok m_cr_58_0 (Nat.zero_le k) (Nat.lt_of_lt_of_le hk (by decide +kernel))
theorem m_cr_59_0 : m_cr 59 0 12 = true := by decide +kernel
theorem m_cf_59 (k : Nat) (hk : k < (m_code 59).length) : m_ck 59 k = true := m_cr_ok m_cr_59_0 (Nat.zero_le k) (Nat.lt_of_lt_of_le hk (by decide +kernel))
theorem m_cr_60_0 : m_cr 60 0 27 = true := by decide +kernel
theorem m_cf_60 (k : Nat) (hk : k < (m_code 60).length) : m_ck 60 k = true := m_cr_ok m_cr_60_0 (Nat.zero_le k) (Nat.lt_of_lt_of_le hk (by decide +kernel))
theorem m_cr_61_0 : m_cr 61 0 41 = true := by decide +kernel
theorem m_cf_61 (k : Nat) (hk : k < (m_code 61).length) : m_ck 61 k = true := m_cr_ok m_cr_61_0 (Nat.zero_le k) (Nat.lt_of_lt_of_le hk (by decide +kernel))
theorem m_cr_62_0 : m_cr 62 0 41 = true := by decide +kernel
theorem m_cf_62 (k : Nat) (hk : k < (m_code 62).length) : m_ck 62 k = true := m_cr_ok m_cr_62_0 (Nat.zero_le k) (Nat.lt_of_lt_of_le hk (by decide +kernel))
theorem m_cr_63_0 : m_cr 63 0 33 = true := by decide +kernel
theorem m_cf_63 (k : Nat) (hk : k < (m_code 63).length) : m_ck 63 k = true := m_cr_ok m_cr_63_0 (Nat.zero_le k) (Nat.lt_of_lt_of_le hk (by decide +kernel))
theorem m_cr_64_0 : m_cr 64 0 30 = true := by decide +kernel
theorem m_cf_64 (k : Nat) (hk : k < (m_code 64).length) : m_ck 64 k = true := m_cr_ok m_cr_64_0 (Nat.zero_le k) (Nat.lt_of_lt_of_le hk (by decide +kernel))
theorem m_cr_65_0 : m_cr 65 0 7 = true := by decide +kernel
theorem m_cf_65 (k : Nat) (hk : k < (m_code 65).length) : m_ck 65 k = true := m_cr_ok m_cr_65_0 (Nat.zero_le k) (Nat.lt_of_lt_of_le hk (by decide +kernel))
theorem m_cr_66_0 : m_cr 66 0 25 = true := by decide +kernel
theorem m_cf_66 (k : Nat) (hk : k < (m_code 66).length) : m_ck 66 k = true := m_cr_ok m_cr_66_0 (Nat.zero_le k) (Nat.lt_of_lt_of_le hk (by decide +kernel))
theorem m_cr_67_0 : m_cr 67 0 7 = true := by decide +kernel
theorem m_cf_67 (k : Nat) (hk : k < (m_code 67).length) : m_ck 67 k = true := m_cr_ok m_cr_67_0 (Nat.zero_le k) (Nat.lt_of_lt_of_le hk (by decide +kernel))
theorem m_cr_68_0 : m_cr 68 0 9 = true := by decide +kernel
theorem m_cf_68 (k : Nat) (hk : k < (m_code 68).length) : m_ck 68 k = true := m_cr_ok m_cr_68_0 (Nat.zero_le k) (Nat.lt_of_lt_of_le hk (by decide +kernel))
theorem m_cr_69_0 : m_cr 69 0 3 = true := by decide +kernel
theorem m_cf_69 (k : Nat) (hk : k < (m_code 69).length) : m_ck 69 k = true := m_cr_ok m_cr_69_0 (Nat.zero_le k) (Nat.lt_of_lt_of_le hk (by decide +kernel))
theorem m_cr_70_0 : m_cr 70 0 14 = true := by decide +kernel
theorem m_cf_70 (k : Nat) (hk : k < (m_code 70).length) : m_ck 70 k = true := m_cr_ok m_cr_70_0 (Nat.zero_le k) (Nat.lt_of_lt_of_le hk (by decide +kernel))
theorem m_cr_71_0 : m_cr 71 0 5 = true := by decide +kernel
theorem m_cf_71 (k : Nat) (hk : k < (m_code 71).length) : m_ck 71 k = true := m_cr_ok m_cr_71_0 (Nat.zero_le k) (Nat.lt_of_lt_of_le hk (by decide +kernel))
theorem m_cr_72_0 : m_cr 72 0 28 = true := by decide +kernel
theorem m_cf_72 (k : Nat) (hk : k < (m_code 72).length) : m_ck 72 k = true := m_cr_ok m_cr_72_0 (Nat.zero_le k) (Nat.lt_of_lt_of_le hk (by decide +kernel))
theorem m_cr_73_0 : m_cr 73 0 9 = true := by decide +kernel
theorem m_cf_73 (k : Nat) (hk : k < (m_code 73).length) : m_ck 73 k = true := m_cr_ok m_cr_73_0 (Nat.zero_le k) (Nat.lt_of_lt_of_le hk (by decide +kernel))
theorem m_cr_74_0 : m_cr 74 0 47 = true := by decide +kernel
theorem m_cf_74 (k : Nat) (hk : k < (m_code 74).length) : m_ck 74 k = true := m_cr_ok m_cr_74_0 (Nat.zero_le k) (Nat.lt_of_lt_of_le hk (by decide +kernel))
theorem m_cr_75_0 : m_cr 75 0 33 = true := by decide +kernel
theorem m_cf_75 (k : Nat) (hk : k < (m_code 75).length) : m_ck 75 k = true := m_cr_ok m_cr_75_0 (Nat.zero_le k) (Nat.lt_of_lt_of_le hk (by decide +kernel))
theorem m_cr_76_0 : m_cr 76 0 23 = true := by decide +kernel
theorem m_cf_76 (k : Nat) (hk : k < (m_code 76).length) : m_ck 76 k = true := m_cr_ok m_cr_76_0 (Nat.zero_le k) (Nat.lt_of_lt_of_le hk (by decide +kernel))
theorem m_cr_77_0 : m_cr 77 0 59 = true := by decide +kernel
theorem m_cf_77 (k : Nat) (hk : k < (m_code 77).length) : m_ck 77 k = true := m_cr_ok m_cr_77_0 (Nat.zero_le k) (Nat.lt_of_lt_of_le hk (by decide +kernel))
theorem m_cr_78_0 : m_cr 78 0 28 = true := by decide +kernel
theorem m_cf_78 (k : Nat) (hk : k < (m_code 78).length) : m_ck 78 k = true := m_cr_ok m_cr_78_0 (Nat.zero_le k) (Nat.lt_of_lt_of_le hk (by decide +kernel))
theorem m_cr_79_0 : m_cr 79 0 19 = true := by decide +kernel
theorem m_cf_79 (k : Nat) (hk : k < (m_code 79).length) : m_ck 79 k = true := m_cr_ok m_cr_79_0 (Nat.zero_le k) (Nat.lt_of_lt_of_le hk (by decide +kernel))
theorem m_cr_80_0 : m_cr 80 0 38 = true := by decide +kernel
theorem m_cf_80 (k : Nat) (hk : k < (m_code 80).length) : m_ck 80 k = true := m_cr_ok m_cr_80_0 (Nat.zero_le k) (Nat.lt_of_lt_of_le hk (by decide +kernel))
theorem m_cr_81_0 : m_cr 81 0 19 = true := by decide +kernel
theorem m_cf_81 (k : Nat) (hk : k < (m_code 81).length) : m_ck 81 k = true := m_cr_ok m_cr_81_0 (Nat.zero_le k) (Nat.lt_of_lt_of_le hk (by decide +kernel))
theorem m_cr_82_0 : m_cr 82 0 29 = true := by decide +kernel
theorem m_cf_82 (k : Nat) (hk : k < (m_code 82).length) : m_ck 82 k = true := m_cr_ok m_cr_82_0 (Nat.zero_le k) (Nat.lt_of_lt_of_le hk (by decide +kernel))
theorem m_cr_83_0 : m_cr 83 0 33 = true := by decide +kernel
theorem m_cf_83 (k : Nat) (hk : k < (m_code 83).length) : m_ck 83 k = true := m_cr_ok m_cr_83_0 (Nat.zero_le k) (Nat.lt_of_lt_of_le hk (by decide +kernel))
theorem m_cr_84_0 : m_cr 84 0 24 = true := by decide +kernel
theorem m_cf_84 (k : Nat) (hk : k < (m_code 84).length) : m_ck 84 k = true := m_cr_ok m_cr_84_0 (Nat.zero_le k) (Nat.lt_of_lt_of_le hk (by decide +kernel))
theorem m_cr_85_0 : m_cr 85 0 39 = true := by decide +kernel
theorem m_cf_85 (k : Nat) (hk : k < (m_code 85).length) : m_ck 85 k = true := m_cr_ok m_cr_85_0 (Nat.zero_le k) (Nat.lt_of_lt_of_le hk (by decide +kernel))
theorem m_cr_86_0 : m_cr 86 0 34 = true := by decide +kernel
theorem m_cf_86 (k : Nat) (hk : k < (m_code 86).length) : m_ck 86 k = true := m_cr_ok m_cr_86_0 (Nat.zero_le k) (Nat.lt_of_lt_of_le hk (by decide +kernel))
theorem m_cr_87_0 : m_cr 87 0 60 = true := by decide +kernel
theorem m_cf_87 (k : Nat) (hk : k < (m_code 87).length) : m_ck 87 k = true := m_cr_ok m_cr_87_0 (Nat.zero_le k) (Nat.lt_of_lt_of_le hk (by decide +kernel))
theorem m_cr_88_0 : m_cr 88 0 60 = true := by decide +kernel
theorem m_cr_88_60 : m_cr 88 60 14 = true := by decide +kernel
theorem m_cf_88 (k : Nat) (hk : k < (m_code 88).length) : m_ck 88 k = true := by
  have h9 : k < 74 := Nat.lt_of_lt_of_le hk (by decide +kernel)
  by_cases c0 : k < 60
  · exact m_cr_ok m_cr_88_0 (by omega) (by omega)
  exact m_cr_ok m_cr_88_60 (by omega) (by omega)
theorem m_cr_89_0 : m_cr 89 0 6 = true := by decide +kernel
theorem m_cf_89 (k : Nat) (hk : k < (m_code 89).length) : m_ck 89 k = true := m_cr_ok m_cr_89_0 (Nat.zero_le k) (Nat.lt_of_lt_of_le hk (by decide +kernel))
theorem m_cr_90_0 : m_cr 90 0 6 = true := by decide +kernel
theorem m_cf_90 (k : Nat) (hk : k < (m_code 90).length) : m_ck 90 k = true := m_cr_ok m_cr_90_0 (Nat.zero_le k) (Nat.lt_of_lt_of_le hk (by decide +kernel))
theorem m_cr_91_0 : m_cr 91 0 4 = true := by decide +kernel
theorem m_cf_91 (k : Nat) (hk : k < (m_code 91).length) : m_ck 91 k = true := m_cr_ok m_cr_91_0 (Nat.zero_le k) (Nat.lt_of_lt_of_le hk (by decide +kernel))
theorem m_cr_92_0 : m_cr 92 0 12 = true := by decide +kernel
theorem m_cf_92 (k : Nat) (hk : k < (m_code 92).length) : m_ck 92 k = true := m_cr_ok m_cr_92_0 (Nat.zero_le k) (Nat.lt_of_lt_of_le hk (by decide +kernel))
theorem m_cr_93_0 : m_cr 93 0 22 = true := by decide +kernel
theorem m_cf_93 (k : Nat) (hk : k < (m_code 93).length) : m_ck 93 k = true := m_cr_ok m_cr_93_0 (Nat.zero_le k) (Nat.lt_of_lt_of_le hk (by decide +kernel))
theorem m_cr_94_0 : m_cr 94 0 5 = true := by decide +kernel
theorem m_cf_94 (k : Nat) (hk : k < (m_code 94).length) : m_ck 94 k = true := m_cr_ok m_cr_94_0 (Nat.zero_le k) (Nat.lt_of_lt_of_le hk (by decide +kernel))
theorem m_cr_95_0 : m_cr 95 0 5 = true := by decide +kernel
theorem m_cf_95 (k : Nat) (hk : k < (m_code 95).length) : m_ck 95 k = true := m_cr_ok m_cr_95_0 (Nat.zero_le k) (Nat.lt_of_lt_of_le hk (by decide +kernel))
theorem m_cr_96_0 : m_cr 96 0 5 = true := by decide +kernel
theorem m_cf_96 (k : Nat) (hk : k < (m_code 96).length) : m_ck 96 k = true := m_cr_ok m_cr_96_0 (Nat.zero_le k) (Nat.lt_of_lt_of_le hk (by decide +kernel))
theorem m_cr_97_0 : m_cr 97 0 60 = true := by decide +kernel
theorem m_cf_97 (k : Nat) (hk : k < (m_code 97).length) : m_ck 97 k = true := m_cr_ok m_cr_97_0 (Nat.zero_le k) (Nat.lt_of_lt_of_le hk (by decide +kernel))
theorem m_cr_98_0 : m_cr 98 0 34 = true := by decide +kernel
theorem m_cf_98 (k : Nat) (hk : k < (m_code 98).length) : m_ck 98 k = true := m_cr_ok m_cr_98_0 (Nat.zero_le k) (Nat.lt_of_lt_of_le hk (by decide +kernel))
theorem m_cr_99_0 : m_cr 99 0 51 = true := by decide +kernel
theorem m_cf_99 (k : Nat) (hk : k < (m_code 99).length) : m_ck 99 k = true := m_cr_ok m_cr_99_0 (Nat.zero_le k) (Nat.lt_of_lt_of_le hk (by decide +kernel))
theorem m_cr_100_0 : m_cr 100 0 37 = true := by decide +kernel
theorem m_cf_100 (k : Nat) (hk : k < (m_code 100).length) : m_ck 100 k = true := m_cr_ok m_cr_100_0 (Nat.zero_le k) (Nat.lt_of_lt_of_le hk (by decide +kernel))
theorem m_cr_101_0 : m_cr 101 0 16 = true := by decide +kernel
theorem m_cf_101 (k : Nat) (hk : k < (m_code 101).length) : m_ck 101 k = true := m_cr_ok m_cr_101_0 (Nat.zero_le k) (Nat.lt_of_lt_of_le hk (by decide +kernel))
theorem m_cr_102_0 : m_cr 102 0 35 = true := by decide +kernel
theorem m_cf_102 (k : Nat) (hk : k < (m_code 102).length) : m_ck 102 k = true := m_cr_ok m_cr_102_0 (Nat.zero_le k) (Nat.lt_of_lt_of_le hk (by decide +kernel))
theorem m_cr_103_0 : m_cr 103 0 14 = true := by decide +kernel
theorem m_cf_103 (k : Nat) (hk : k < (m_code 103).length) : m_ck 103 k = true := m_cr_ok m_cr_103_0 (Nat.zero_le k) (Nat.lt_of_lt_of_le hk (by decide +kernel))
theorem m_cr_104_0 : m_cr 104 0 21 = true := by decide +kernel
theorem m_cf_104 (k : Nat) (hk : k < (m_code 104).length) : m_ck 104 k = true := m_cr_ok m_cr_104_0 (Nat.zero_le k) (Nat.lt_of_lt_of_le hk (by decide +kernel))
theorem m_cr_105_0 : m_cr 105 0 8 = true := by decide +kernel
theorem m_cf_105 (k : Nat) (hk : k < (m_code 105).length) : m_ck 105 k = true := m_cr_ok m_cr_105_0 (Nat.zero_le k) (Nat.lt_of_lt_of_le hk (by decide +kernel))
theorem m_cr_106_0 : m_cr 106 0 11 = true := by decide +kernel
theorem m_cf_106 (k : Nat) (hk : k < (m_code 106).length) : m_ck 106 k = true := m_cr_ok m_cr_106_0 (Nat.zero_le k) (Nat.lt_of_lt_of_le hk (by decide +kernel))
theorem m_cr_107_0 : m_cr 107 0 9 = true := by decide +kernel
theorem m_cf_107 (k : Nat) (hk : k < (m_code 107).length) : m_ck 107 k = true := m_cr_ok m_cr_107_0 (Nat.zero_le k) (Nat.lt_of_lt_of_le hk (by decide +kernel))
theorem m_cr_108_0 : m_cr 108 0 9 = true := by decide +kernel
theorem m_cf_108 (k : Nat) (hk : k < (m_code 108).length) : m_ck 108 k = true := m_cr_ok m_cr_108_0 (Nat.zero_le k) (Nat.lt_of_lt_of_le hk (by decide +kernel))
theorem m_cr_109_0 : m_cr 109 0 9 = true := by decide +kernel
theorem m_cf_109 (k : Nat) (hk : k < (m_code 109).length) : m_ck 109 k = true := m_cr_ok m_cr_109_0 (Nat.zero_le k) (Nat.lt_of_lt_of_le hk (by decide +kernel))
theorem m_cr_110_0 : m_cr 110 0 10 = true := by decide +kernel
theorem m_cf_110 (k : Nat) (hk : k < (m_code 110).length) : m_ck 110 k = true := m_cr_ok m_cr_110_0 (Nat.zero_le k) (Nat.lt_of_lt_of_le hk (by decide +kernel))
theorem m_cr_111_0 : m_cr 111 0 16 = true := by decide +kernel
theorem m_cf_111 (k : Nat) (hk : k < (m_code 111).length) : m_ck 111 k = true := m_cr_ok m_cr_111_0 (Nat.zero_le k) (Nat.lt_of_lt_of_le hk (by decide +kernel))
theorem m_cr_112_0 : m_cr 112 0 19 = true := by decide +kernel
theorem m_cf_112 (k : Nat) (hk : k < (m_code 112).length) : m_ck 112 k = true := m_cr_ok m_cr_112_0 (Nat.zero_le k) (Nat.lt_of_lt_of_le hk (by decide +kernel))
theorem m_cr_113_0 : m_cr 113 0 29 = true := by decide +kernel
theorem m_cf_113 (k : Nat) (hk : k < (m_code 113).length) : m_ck 113 k = true := m_cr_ok m_cr_113_0 (Nat.zero_le k) (Nat.lt_of_lt_of_le hk (by decide +kernel))
theorem m_cr_114_0 : m_cr 114 0 52 = true := by decide +kernel
theorem m_cf_114 (k : Nat) (hk : k < (m_code 114).length) : m_ck 114 k = true := m_cr_ok m_cr_114_0 (Nat.zero_le k) (Nat.lt_of_lt_of_le hk (by decide +kernel))
theorem m_cr_115_0 : m_cr 115 0 25 = true := by decide +kernel
theorem m_cf_115 (k : Nat) (hk : k < (m_code 115).length) : m_ck 115 k = true := m_cr_ok m_cr_115_0 (Nat.zero_le k) (Nat.lt_of_lt_of_le hk (by decide +kernel))
theorem m_cr_116_0 : m_cr 116 0 48 = true := by decide +kernel
theorem m_cf_116 (k : Nat) (hk : k < (m_code 116).length) : m_ck 116 k = true := m_cr_ok m_cr_116_0 (Nat.zero_le k) (Nat.lt_of_lt_of_le hk (by decide +kernel))
theorem m_cr_117_0 : m_cr 117 0 58 = true := by decide +kernel
theorem m_cf_117 (k : Nat) (hk : k < (m_code 117).length) : m_ck 117 k = true := m_cr_ok m_cr_117_0 (Nat.zero_le k) (Nat.lt_of_lt_of_le hk (by decide +kernel))
theorem m_cr_118_0 : m_cr 118 0 8 = true := by decide +kernel
theorem m_cf_118 (k : Nat) (hk : k < (m_code 118).length) : m_ck 118 k = true := m_cr_ok m_cr_118_0 (Nat.zero_le k) (Nat.lt_of_lt_of_le hk (by decide +kernel))
theorem m_cr_119_0 : m_cr 119 0 10 = true := by decide +kernel
theorem m_cf_119 (k : Nat) (hk : k < (m_code 119).length) : m_ck 119 k = true := m_cr_ok m_cr_119_0 (Nat.zero_le k) (Nat.lt_of_lt_of_le hk (by decide +kernel))
theorem m_cr_120_0 : m_cr 120 0 12 = true := by decide +kernel
theorem m_cf_120 (k : Nat) (hk : k < (m_code 120).length) : m_ck 120 k = true := m_cr_ok m_cr_120_0 (Nat.zero_le k) (Nat.lt_of_lt_of_le hk (by decide +kernel))
theorem m_cr_121_0 : m_cr 121 0 5 = true := by decide +kernel
theorem m_cf_121 (k : Nat) (hk : k < (m_code 121).length) : m_ck 121 k = true := m_cr_ok m_cr_121_0 (Nat.zero_le k) (Nat.lt_of_lt_of_le hk (by decide +kernel))
theorem m_cr_122_0 : m_cr 122 0 11 = true := by decide +kernel
theorem m_cf_122 (k : Nat) (hk : k < (m_code 122).length) : m_ck 122 k = true := m_cr_ok m_cr_122_0 (Nat.zero_le k) (Nat.lt_of_lt_of_le hk (by decide +kernel))
theorem m_cr_123_0 : m_cr 123 0 12 = true := by decide +kernel
theorem m_cf_123 (k : Nat) (hk : k < (m_code 123).length) : m_ck 123 k = true := m_cr_ok m_cr_123_0 (Nat.zero_le k) (Nat.lt_of_lt_of_le hk (by decide +kernel))
theorem m_cr_124_0 : m_cr 124 0 10 = true := by decide +kernel
theorem m_cf_124 (k : Nat) (hk : k < (m_code 124).length) : m_ck 124 k = true := m_cr_ok m_cr_124_0 (Nat.zero_le k) (Nat.lt_of_lt_of_le hk (by decide +kernel))
theorem m_cr_125_0 : m_cr 125 0 12 = true := by decide +kernel
theorem m_cf_125 (k : Nat) (hk : k < (m_code 125).length) : m_ck 125 k = true := m_cr_ok m_cr_125_0 (Nat.zero_le k) (Nat.lt_of_lt_of_le hk (by decide +kernel))
theorem m_cr_126_0 : m_cr 126 0 54 = true := by decide +kernel
theorem m_cf_126 (k : Nat) (hk : k < (m_code 126).length) : m_ck 126 k = true := m_cr_ok m_cr_126_0 (Nat.zero_le k) (Nat.lt_of_lt_of_le hk (by decide +kernel))
theorem m_cr_127_0 : m_cr 127 0 36 = true := by decide +kernel
theorem m_cf_127 (k : Nat) (hk : k < (m_code 127).length) : m_ck 127 k = true := m_cr_ok m_cr_127_0 (Nat.zero_le k) (Nat.lt_of_lt_of_le hk (by decide +kernel))
theorem m_cr_128_0 : m_cr 128 0 60 = true := by decide +kernel
theorem m_cr_128_60 : m_cr 128 60 18 = true := by decide +kernel
theorem m_cf_128 (k : Nat) (hk : k < (m_code 128).length) : m_ck 128 k = true := by
  have h9 : k < 78 := Nat.lt_of_lt_of_le hk (by decide +kernel)
  by_cases c0 : k < 60
  · exact m_cr_ok m_cr_128_0 (by omega) (by omega)
  exact m_cr_ok m_cr_128_60 (by omega) (by omega)
theorem m_cr_129_0 : m_cr 129 0 35 = true := by decide +kernel
theorem m_cf_129 (k : Nat) (hk : k < (m_code 129).length) : m_ck 129 k = true := m_cr_ok m_cr_129_0 (Nat.zero_le k) (Nat.lt_of_lt_of_le hk (by decide +kernel))
theorem m_cr_130_0 : m_cr 130 0 41 = true := by decide +kernel
theorem m_cf_130 (k : Nat) (hk : k < (m_code 130).length) : m_ck 130 k = true := m_cr_ok m_cr_130_0 (Nat.zero_le k) (Nat.lt_of_lt_of_le hk (by decide +kernel))
theorem m_cr_131_0 : m_cr 131 0 60 = true := by decide +kernel
theorem m_cr_131_60 : m_cr 131 60 17 = true := by decide +kernel
theorem m_cf_131 (k : Nat) (hk : k < (m_code 131).length) : m_ck 131 k = true := by
  have h9 : k < 77 := Nat.lt_of_lt_of_le hk (by decide +kernel)
  by_cases c0 : k < 60
  · exact m_cr_ok m_cr_131_0 (by omega) (by omega)
  exact m_cr_ok m_cr_131_60 (by omega) (by omega)
theorem m_cr_132_0 : m_cr 132 0 14 = true := by decide +kernel
theorem m_cf_132 (k : Nat) (hk : k < (m_code 132).length) : m_ck 132 k = true := m_cr_ok m_cr_132_0 (Nat.zero_le k) (Nat.lt_of_lt_of_le hk (by decide +kernel))
theorem m_cr_133_0 : m_cr 133 0 27 = true := by decide +kernel
theorem m_cf_133 (k : Nat) (hk : k < (m_code 133).length) : m_ck 133 k = true := m_cr_ok m_cr_133_0 (Nat.zero_le k) (Nat.lt_of_lt_of_le hk (by decide +kernel))
theorem m_cr_134_0 : m_cr 134 0 19 = true := by decide +kernel
theorem m_cf_134 (k : Nat) (hk : k < (m_code 134).length) : m_ck 134 k = true := m_cr_ok m_cr_134_0 (Nat.zero_le k) (Nat.lt_of_lt_of_le hk (by decide +kernel))
theorem m_cr_135_0 : m_cr 135 0 38 = true := by decide +kernel
theorem m_cf_135 (k : Nat) (hk : k < (m_code 135).length) : m_ck 135 k = true := m_cr_ok m_cr_135_0 (Nat.zero_le k) (Nat.lt_of_lt_of_le hk (by decide +kernel))
theorem m_cr_136_0 : m_cr 136 0 28 = true := by decide +kernel
theorem m_cf_136 (k : Nat) (hk : k < (m_code 136).length) : m_ck 136 k = true := m_cr_ok m_cr_136_0 (Nat.zero_le k) (Nat.lt_of_lt_of_le hk (by decide +kernel))
theorem m_cr_137_0 : m_cr 137 0 30 = true := by decide +kernel
theorem m_cf_137 (k : Nat) (hk : k < (m_code 137).length) : m_ck 137 k = true := m_cr_ok m_cr_137_0 (Nat.zero_le k) (Nat.lt_of_lt_of_le hk (by decide +kernel))
theorem m_cr_138_0 : m_cr 138 0 31 = true := by decide +kernel
theorem m_cf_138 (k : Nat) (hk : k < (m_code 138).length) : m_ck 138 k = true := m_cr_ok m_cr_138_0 (Nat.zero_le k) (Nat.lt_of_lt_of_le hk (by decide +kernel))
theorem m_cr_139_0 : m_cr 139 0 23 = true := by decide +kernel
theorem m_cf_139 (k : Nat) (hk : k < (m_code 139).length) : m_ck 139 k = true := m_cr_ok m_cr_139_0 (Nat.zero_le k) (Nat.lt_of_lt_of_le hk (by decide +kernel))
theorem m_cr_140_0 : m_cr 140 0 5 = true := by decide +kernel
theorem m_cf_140 (k : Nat) (hk : k < (m_code 140).length) : m_ck 140 k = true := m_cr_ok m_cr_140_0 (Nat.zero_le k) (Nat.lt_of_lt_of_le hk (by decide +kernel))
theorem m_cr_141_0 : m_cr 141 0 60 = true := by decide +kernel
theorem m_cr_141_60 : m_cr 141 60 6 = true := by decide +kernel
theorem m_cf_141 (k : Nat) (hk : k < (m_code 141).length) : m_ck 141 k = true := by
  have h9 : k < 66 := Nat.lt_of_lt_of_le hk (by decide +kernel)
  by_cases c0 : k < 60
  · exact m_cr_ok m_cr_141_0 (by omega) (by omega)
  exact m_cr_ok m_cr_141_60 (by omega) (by omega)
theorem m_cr_142_0 : m_cr 142 0 57 = true := by decide +kernel
theorem m_cf_142 (k : Nat) (hk : k < (m_code 142).length) : m_ck 142 k = true := m_cr_ok m_cr_142_0 (Nat.zero_le k) (Nat.lt_of_lt_of_le hk (by decide +kernel))
theorem m_cr_143_0 : m_cr 143 0 22 = true := by decide +kernel
theorem m_cf_143 (k : Nat) (hk : k < (m_code 143).length) : m_ck 143 k = true := m_cr_ok m_cr_143_0 (Nat.zero_le k) (Nat.lt_of_lt_of_le hk (by decide +kernel))
theorem m_cr_144_0 : m_cr 144 0 60 = true := by decide +kernel
theorem m_cr_144_60 : m_cr 144 60 37 = true := by decide +kernel
theorem m_cf_144 (k : Nat) (hk : k < (m_code 144).length) : m_ck 144 k = true := by
  have h9 : k < 97 := Nat.lt_of_lt_of_le hk (by decide +kernel)
  by_cases c0 : k < 60
  · exact m_cr_ok m_cr_144_0 (by omega) (by omega)
  exact m_cr_ok m_cr_144_60 (by omega) (by omega)
theorem m_cr_145_0 : m_cr 145 0 60 = true := by decide +kernel
theorem m_cr_145_60 : m_cr 145 60 33 = true := by decide +kernel
theorem m_cf_145 (k : Nat) (hk : k < (m_code 145).length) : m_ck 145 k = true := by
  have h9 : k < 93 := Nat.lt_of_lt_of_le hk (by decide +kernel)
  by_cases c0 : k < 60
  · exact m_cr_ok m_cr_145_0 (by omega) (by omega)
  exact m_cr_ok m_cr_145_60 (by omega) (by omega)
theorem m_cr_146_0 : m_cr 146 0 28 = true := by decide +kernel
theorem m_cf_146 (k : Nat) (hk : k < (m_code 146).length) : m_ck 146 k = true := m_cr_ok m_cr_146_0 (Nat.zero_le k) (Nat.lt_of_lt_of_le hk (by decide +kernel))
theorem m_cr_147_0 : m_cr 147 0 6 = true := by decide +kernel
theorem m_cf_147 (k : Nat) (hk : k < (m_code 147).length) : m_ck 147 k = true := m_cr_ok m_cr_147_0 (Nat.zero_le k) (Nat.lt_of_lt_of_le hk (by decide +kernel))
theorem m_cr_148_0 : m_cr 148 0 6 = true := by decide +kernel
theorem m_cf_148 (k : Nat) (hk : k < (m_code 148).length) : m_ck 148 k = true := m_cr_ok m_cr_148_0 (Nat.zero_le k) (Nat.lt_of_lt_of_le hk (by decide +kernel))
theorem m_cr_149_0 : m_cr 149 0 56 = true := by decide +kernel
theorem m_cf_149 (k : Nat) (hk : k < (m_code 149).length) : m_ck 149 k = true := m_cr_ok m_cr_149_0 (Nat.zero_le k) (Nat.lt_of_lt_of_le hk (by decide +kernel))
theorem m_cr_150_0 : m_cr 150 0 60 = true := by decide +kernel
theorem m_cr_150_60 : m_cr 150 60 60 = true := by decide +kernel
theorem m_cr_150_120 : m_cr 150 120 44 = true := by decide +kernel
theorem m_cf_150 (k : Nat) (hk : k < (m_code 150).length) : m_ck 150 k = true := by
  have h9 : k < 164 := Nat.lt_of_lt_of_le hk (by decide +kernel)
  by_cases c0 : k < 60
  · exact m_cr_ok m_cr_150_0 (by omega) (by omega)
  by_cases c60 : k < 120
  · exact m_cr_ok m_cr_150_60 (by omega) (by omega)
  exact m_cr_ok m_cr_150_120 (by omega) (by omega)
theorem m_cr_151_0 : m_cr 151 0 60 = true := by decide +kernel
theorem m_cr_151_60 : m_cr 151 60 14 = true := by decide +kernel
theorem m_cf_151 (k : Nat) (hk : k < (m_code 151).length) : m_ck 151 k = true := by
  have h9 : k < 74 := Nat.lt_of_lt_of_le hk (by decide +kernel)
  by_cases c0 : k < 60
  · exact m_cr_ok m_cr_151_0 (by omega) (by omega)
  exact m_cr_ok m_cr_151_60 (by omega) (by omega)
theorem m_cr_152_0 : m_cr 152 0 3 = true := by decide +kernel
theorem m_cf_152 (k : Nat) (hk : k < (m_code 152).length) : m_ck 152 k = true := m_cr_ok m_cr_152_0 (Nat.zero_le k) (Nat.lt_of_lt_of_le hk (by decide +kernel))
theorem m_cr_153_0 : m_cr 153 0 11 = true := by decide +kernel
theorem m_cf_153 (k : Nat) (hk : k < (m_code 153).length) : m_ck 153 k = true := m_cr_ok m_cr_153_0 (Nat.zero_le k) (Nat.lt_of_lt_of_le hk (by decide +kernel))
theorem m_cr_154_0 : m_cr 154 0 21 = true := by decide +kernel
theorem m_cf_154 (k : Nat) (hk : k < (m_code 154).length) : m_ck 154 k = true := m_cr_ok m_cr_154_0 (Nat.zero_le k) (Nat.lt_of_lt_of_le hk (by decide +kernel))
theorem m_cr_155_0 : m_cr 155 0 3 = true := by decide +kernel
theorem m_cf_155 (k : Nat) (hk : k < (m_code 155).length) : m_ck 155 k = true := m_cr_ok m_cr_155_0 (Nat.zero_le k) (Nat.lt_of_lt_of_le hk (by decide +kernel))
theorem m_cr_156_0 : m_cr 156 0 14 = true := by decide +kernel
theorem m_cf_156 (k : Nat) (hk : k < (m_code 156).length) : m_ck 156 k = true := m_cr_ok m_cr_156_0 (Nat.zero_le k) (Nat.lt_of_lt_of_le hk (by decide +kernel))
theorem m_cr_157_0 : m_cr 157 0 26 = true := by decide +kernel
theorem m_cf_157 (k : Nat) (hk : k < (m_code 157).length) : m_ck 157 k = true := m_cr_ok m_cr_157_0 (Nat.zero_le k) (Nat.lt_of_lt_of_le hk (by decide +kernel))
theorem m_cr_158_0 : m_cr 158 0 59 = true := by decide +kernel
theorem m_cf_158 (k : Nat) (hk : k < (m_code 158).length) : m_ck 158 k = true := m_cr_ok m_cr_158_0 (Nat.zero_le k) (Nat.lt_of_lt_of_le hk (by decide +kernel))
theorem m_cr_159_0 : m_cr 159 0 24 = true := by decide +kernel
theorem m_cf_159 (k : Nat) (hk : k < (m_code 159).length) : m_ck 159 k = true := m_cr_ok m_cr_159_0 (Nat.zero_le k) (Nat.lt_of_lt_of_le hk (by decide +kernel))
theorem m_cr_160_0 : m_cr 160 0 54 = true := by decide +kernel
theorem m_cf_160 (k : Nat) (hk : k < (m_code 160).length) : m_ck 160 k = true := m_cr_ok m_cr_160_0 (Nat.zero_le k) (Nat.lt_of_lt_of_le hk (by decide +kernel))
theorem m_cr_161_0 : m_cr 161 0 60 = true := by decide +kernel
theorem m_cr_161_60 : m_cr 161 60 18 = true := by decide +kernel
theorem m_cf_161 (k : Nat) (hk : k < (m_code 161).length) : m_ck 161 k = true := by
  have h9 : k < 78 := Nat.lt_of_lt_of_le hk (by decide +kernel)
  by_cases c0 : k < 60
  · exact m_cr_ok m_cr_161_0 (by omega) (by omega)
  exact m_cr_ok m_cr_161_60 (by omega) (by omega)
theorem m_cr_162_0 : m_cr 162 0 60 = true := by decide +kernel
theorem m_cr_162_60 : m_cr 162 60 60 = true := by decide +kernel
theorem m_cr_162_120 : m_cr 162 120 2 = true := by decide +kernel
theorem m_cf_162 (k : Nat) (hk : k < (m_code 162).length) : m_ck 162 k = true := by
  have h9 : k < 122 := Nat.lt_of_lt_of_le hk (by decide +kernel)
  by_cases c0 : k < 60
  · exact m_cr_ok m_cr_162_0 (by omega) (by omega)
  by_cases c60 : k < 120
  · exact m_cr_ok m_cr_162_60 (by omega) (by omega)
  exact m_cr_ok m_cr_162_120 (by omega) (by omega)
theorem m_cr_163_0 : m_cr 163 0 35 = true := by decide +kernel
theorem m_cf_163 (k : Nat) (hk : k < (m_code 163).length) : m_ck 163 k = true := m_cr_ok m_cr_163_0 (Nat.zero_le k) (Nat.lt_of_lt_of_le hk (by decide +kernel))
theorem m_cr_164_0 : m_cr 164 0 26 = true := by decide +kernel
theorem m_cf_164 (k : Nat) (hk : k < (m_code 164).length) : m_ck 164 k = true := m_cr_ok m_cr_164_0 (Nat.zero_le k) (Nat.lt_of_lt_of_le hk (by decide +kernel))
theorem m_cr_165_0 : m_cr 165 0 11 = true := by decide +kernel
theorem m_cf_165 (k : Nat) (hk : k < (m_code 165).length) : m_ck 165 k = true := m_cr_ok m_cr_165_0 (Nat.zero_le k) (Nat.lt_of_lt_of_le hk (by decide +kernel))
theorem m_cr_166_0 : m_cr 166 0 26 = true := by decide +kernel
theorem m_cf_166 (k : Nat) (hk : k < (m_code 166).length) : m_ck 166 k = true := m_cr_ok m_cr_166_0 (Nat.zero_le k) (Nat.lt_of_lt_of_le hk (by decide +kernel))
theorem m_cr_167_0 : m_cr 167 0 60 = true := by decide +kernel
theorem m_cr_167_60 : m_cr 167 60 24 = true := by decide +kernel
theorem m_cf_167 (k : Nat) (hk : k < (m_code 167).length) : m_ck 167 k = true := by
  have h9 : k < 84 := Nat.lt_of_lt_of_le hk (by decide +kernel)
  by_cases c0 : k < 60
  · exact m_cr_ok m_cr_167_0 (by omega) (by omega)
  exact m_cr_ok m_cr_167_60 (by omega) (by omega)
theorem m_cr_168_0 : m_cr 168 0 13 = true := by decide +kernel
theorem m_cf_168 (k : Nat) (hk : k < (m_code 168).length) : m_ck 168 k = true := m_cr_ok m_cr_168_0 (Nat.zero_le k) (Nat.lt_of_lt_of_le hk (by decide +kernel))
theorem m_cr_169_0 : m_cr 169 0 35 = true := by decide +kernel
theorem m_cf_169 (k : Nat) (hk : k < (m_code 169).length) : m_ck 169 k = true := m_cr_ok m_cr_169_0 (Nat.zero_le k) (Nat.lt_of_lt_of_le hk (by decide +kernel))
theorem m_cr_170_0 : m_cr 170 0 49 = true := by decide +kernel
theorem m_cf_170 (k : Nat) (hk : k < (m_code 170).length) : m_ck 170 k = true := m_cr_ok m_cr_170_0 (Nat.zero_le k) (Nat.lt_of_lt_of_le hk (by decide +kernel))
theorem m_cr_171_0 : m_cr 171 0 42 = true := by decide +kernel
theorem m_cf_171 (k : Nat) (hk : k < (m_code 171).length) : m_ck 171 k = true := m_cr_ok m_cr_171_0 (Nat.zero_le k) (Nat.lt_of_lt_of_le hk (by decide +kernel))
theorem m_cr_172_0 : m_cr 172 0 53 = true := by decide +kernel
theorem m_cf_172 (k : Nat) (hk : k < (m_code 172).length) : m_ck 172 k = true := m_cr_ok m_cr_172_0 (Nat.zero_le k) (Nat.lt_of_lt_of_le hk (by decide +kernel))
theorem m_cr_173_0 : m_cr 173 0 16 = true := by decide +kernel
theorem m_cf_173 (k : Nat) (hk : k < (m_code 173).length) : m_ck 173 k = true := m_cr_ok m_cr_173_0 (Nat.zero_le k) (Nat.lt_of_lt_of_le hk (by decide +kernel))
theorem m_cr_174_0 : m_cr 174 0 39 = true := by decide +kernel
theorem m_cf_174 (k : Nat) (hk : k < (m_code 174).length) : m_ck 174 k = true := m_cr_ok m_cr_174_0 (Nat.zero_le k) (Nat.lt_of_lt_of_le hk (by decide +kernel))
theorem m_cr_175_0 : m_cr 175 0 40 = true := by decide +kernel
theorem m_cf_175 (k : Nat) (hk : k < (m_code 175).length) : m_ck 175 k = true := m_cr_ok m_cr_175_0 (Nat.zero_le k) (Nat.lt_of_lt_of_le hk (by decide +kernel))
theorem m_cg_0 : ∀ y ∈ ([0, 1, 2, 3, 4, 5, 6, 7, 8, 9, 10, 11, 12, 13, 14, 15, 16, 17, 18, 19, 20, 21, 22, 23, 24, 25, 26, 27, 28, 29, 30, 31, 32, 33, 34, 35, 36, 37, 38, 39, 40, 41, 42, 43] : List Nat), ∀ k, k < (m_code y).length → m_ck y k = true := List.forall_mem_cons.mpr ⟨m_cf_0, List.forall_mem_cons.mpr ⟨m_cf_1, List.forall_mem_cons.mpr ⟨m_cf_2, List.forall_mem_cons.mpr ⟨m_cf_3, List.forall_mem_cons.mpr ⟨m_cf_4, List.forall_mem_cons.mpr ⟨m_cf_5, List.forall_mem_cons.mpr ⟨m_cf_6, List.forall_mem_cons.mpr ⟨m_cf_7, List.forall_mem_cons.mpr ⟨m_cf_8, List.forall_mem_cons.mpr ⟨m_cf_9, List.forall_mem_cons.mpr ⟨m_cf_10, List.forall_mem_cons.mpr ⟨m_cf_11, List.forall_mem_cons.mpr ⟨m_cf_12, List.forall_mem_cons.mpr ⟨m_cf_13, List.forall_mem_cons.mpr ⟨m_cf_14, List.forall_mem_cons.mpr ⟨m_cf_15, List.forall_mem_cons.mpr ⟨m_cf_16, List.forall_mem_cons.mpr ⟨m_cf_17, List.forall_mem_cons.mpr ⟨m_cf_18, List.forall_mem_cons.mpr ⟨m_cf_19, List.forall_mem_cons.mpr ⟨m_cf_20, List.forall_mem_cons.mpr ⟨m_cf_21, List.forall_mem_cons.mpr ⟨m_cf_22, List.forall_mem_cons.mpr ⟨m_cf_23, List.forall_mem_cons.mpr ⟨m_cf_24, List.forall_mem_cons.mpr ⟨m_cf_25, List.forall_mem_cons.mpr ⟨m_cf_26, List.forall_mem_cons.mpr ⟨m_cf_27, List.forall_mem_cons.mpr ⟨m_cf_28, List.forall_mem_cons.mpr ⟨m_cf_29, List.forall_mem_cons.mpr ⟨m_cf_30, List.forall_mem_cons.mpr ⟨m_cf_31, List.forall_mem_cons.mpr ⟨m_cf_32, List.forall_mem_cons.mpr ⟨m_cf_33, List.forall_mem_cons.mpr ⟨m_cf_34, List.forall_mem_cons.mpr ⟨m_cf_35, List.forall_mem_cons.mpr ⟨m_cf_36, List.forall_mem_cons.mpr ⟨m_cf_37, List.forall_mem_cons.mpr ⟨m_cf_38, List.forall_mem_cons.mpr ⟨m_cf_39, List.forall_mem_cons.mpr ⟨m_cf_40, List.forall_mem_cons.mpr ⟨m_cf_41, List.forall_mem_cons.mpr ⟨m_cf_42, List.forall_mem_cons.mpr ⟨m_cf_43, fun _ h => absurd h List.not_mem_nil⟩⟩⟩⟩⟩⟩⟩⟩⟩⟩⟩⟩⟩⟩⟩⟩⟩⟩⟩⟩⟩⟩⟩⟩⟩⟩⟩⟩⟩⟩⟩⟩⟩⟩⟩⟩⟩⟩⟩⟩⟩⟩⟩⟩
theorem m_cg_44 : ∀ y ∈ ([44, 45, 46, 47, 48, 49, 50, 51, 52, 53, 54, 55, 56, 57, 58, 59, 60, 61, 62, 63, 64, 65, 66, 67, 68, 69, 70, 71, 72, 73, 74, 75, 76, 77, 78, 79, 80, 81, 82, 83, 84, 85, 86, 87] : List Nat), ∀ k, k < (m_code y).length → m_ck y k = true := List.forall_mem_cons.mpr ⟨m_cf_44, List.forall_mem_cons.mpr ⟨m_cf_45, List.forall_mem_cons.mpr ⟨m_cf_46, List.forall_mem_cons.mpr ⟨m_cf_47, List.forall_mem_cons.mpr ⟨m_cf_48, List.forall_mem_cons.mpr ⟨m_cf_49, List.forall_mem_cons.mpr ⟨m_cf_50, List.forall_mem_cons.mpr ⟨m_cf_51, List.forall_mem_cons.mpr ⟨m_cf_52, List.forall_mem_cons.mpr ⟨m_cf_53, List.forall_mem_cons.mpr ⟨m_cf_54, List.forall_mem_cons.mpr ⟨m_cf_55, List.forall_mem_cons.mpr ⟨m_cf_56, List.forall_mem_cons.mpr ⟨m_cf_57, List.forall_mem_cons.mpr ⟨m_cf_58, List.forall_mem_cons.mpr ⟨m_cf_59, List.forall_mem_cons.mpr ⟨m_cf_60, List.forall_mem_cons.mpr ⟨m_cf_61, List.forall_mem_cons.mpr ⟨m_cf_62, List.forall_mem_cons.mpr ⟨m_cf_63, List.forall_mem_cons.mpr ⟨m_cf_64, List.forall_mem_cons.mpr ⟨m_cf_65, List.forall_mem_cons.mpr ⟨m_cf_66, List.forall_mem_cons.mpr ⟨m_cf_67, List.forall_mem_cons.mpr ⟨m_cf_68, List.forall_mem_cons.mpr ⟨m_cf_69, List.forall_mem_cons.mpr ⟨m_cf_70, List.forall_mem_cons.mpr ⟨m_cf_71, List.forall_mem_cons.mpr ⟨m_cf_72, List.forall_mem_cons.mpr ⟨m_cf_73, List.forall_mem_cons.mpr ⟨m_cf_74, List.forall_mem_cons.mpr ⟨m_cf_75, List.forall_mem_cons.mpr ⟨m_cf_76, List.forall_mem_cons.mpr ⟨m_cf_77, List.forall_mem_cons.mpr ⟨m_cf_78, List.forall_mem_cons.mpr ⟨m_cf_79, List.forall_mem_cons.mpr ⟨m_cf_80, List.forall_mem_cons.mpr ⟨m_cf_81, List.forall_mem_cons.mpr ⟨m_cf_82, List.forall_mem_cons.mpr ⟨m_cf_83, List.forall_mem_cons.mpr ⟨m_cf_84, List.forall_mem_cons.mpr ⟨m_cf_85, List.forall_mem_cons.mpr ⟨m_cf_86, List.forall_mem_cons.mpr ⟨m_cf_87, fun _ h => absurd h List.not_mem_nil⟩⟩⟩⟩⟩⟩⟩⟩⟩⟩⟩⟩⟩⟩⟩⟩⟩⟩⟩⟩⟩⟩⟩⟩⟩⟩⟩⟩⟩⟩⟩⟩⟩⟩⟩⟩⟩⟩⟩⟩⟩⟩⟩⟩
theorem m_cg_88 : ∀ y ∈ ([88, 89, 90, 91, 92, 93, 94, 95, 96, 97, 98, 99, 100, 101, 102, 103, 104, 105, 106, 107, 108, 109, 110, 111, 112, 113, 114, 115, 116, 117, 118, 119, 120, 121, 122, 123, 124, 125, 126, 127, 128, 129, 130, 131] : List Nat), ∀ k, k < (m_code y).length → m_ck y k = true := List.forall_mem_cons.mpr ⟨m_cf_88, List.forall_mem_cons.mpr ⟨m_cf_89, List.forall_mem_cons.mpr ⟨m_cf_90, List.forall_mem_cons.mpr ⟨m_cf_91, List.forall_mem_cons.mpr ⟨m_cf_92, List.forall_mem_cons.mpr ⟨m_cf_93, List.forall_mem_cons.mpr ⟨m_cf_94, List.forall_mem_cons.mpr ⟨m_cf_95, List.forall_mem_cons.mpr ⟨m_cf_96, List.forall_mem_cons.mpr ⟨m_cf_97, List.forall_mem_cons.mpr ⟨m_cf_98, List.forall_mem_cons.mpr ⟨m_cf_99, List.forall_mem_cons.mpr ⟨m_cf_100, List.forall_mem_cons.mpr ⟨m_cf_101, List.forall_mem_cons.mpr ⟨m_cf_102, List.forall_mem_cons.mpr ⟨m_cf_103, List.forall_mem_cons.mpr ⟨m_cf_104, List.forall_mem_cons.mpr ⟨m_cf_105, List.forall_mem_cons.mpr ⟨m_cf_106, List.forall_mem_cons.mpr ⟨m_cf_107, List.forall_mem_cons.mpr ⟨m_cf_108, List.forall_mem_cons.mpr ⟨m_cf_109, List.forall_mem_cons.mpr ⟨m_cf_110, List.forall_mem_cons.mpr ⟨m_cf_111, List.forall_mem_cons.mpr ⟨m_cf_112, List.forall_mem_cons.mpr ⟨m_cf_113, List.forall_mem_cons.mpr ⟨m_cf_114, List.forall_mem_cons.mpr ⟨m_cf_115, List.forall_mem_cons.mpr ⟨m_cf_116, List.forall_mem_cons.mpr ⟨m_cf_117, List.forall_mem_cons.mpr ⟨m_cf_118, List.forall_mem_cons.mpr ⟨m_cf_119, List.forall_mem_cons.mpr ⟨m_cf_120, List.forall_mem_cons.mpr ⟨m_cf_121, List.forall_mem_cons.mpr ⟨m_cf_122, List.forall_mem_cons.mpr ⟨m_cf_123, List.forall_mem_cons.mpr ⟨m_cf_124, List.forall_mem_cons.mpr ⟨m_cf_125, List.forall_mem_cons.mpr ⟨m_cf_126, List.forall_mem_cons.mpr ⟨m_cf_127, List.forall_mem_cons.mpr ⟨m_cf_128, List.forall_mem_cons.mpr ⟨m_cf_129, List.forall_mem_cons.mpr ⟨m_cf_130, List.forall_mem_cons.mpr ⟨m_cf_131, fun _ h => absurd h List.not_mem_nil⟩⟩⟩⟩⟩⟩⟩⟩⟩⟩⟩⟩⟩⟩⟩⟩⟩⟩⟩⟩⟩⟩⟩⟩⟩⟩⟩⟩⟩⟩⟩⟩⟩⟩⟩⟩⟩⟩⟩⟩⟩⟩⟩⟩
theorem m_cg_132 : ∀ y ∈ ([132, 133, 134, 135, 136, 137, 138, 139, 140, 141, 142, 143, 144, 145, 146, 147, 148, 149, 150, 151, 152, 153, 154, 155, 156, 157, 158, 159, 160, 161, 162, 163, 164, 165, 166, 167, 168, 169, 170, 171, 172, 173, 174, 175] : List Nat), ∀ k, k < (m_code y).length → m_ck y k = true := List.forall_mem_cons.mpr ⟨m_cf_132, List.forall_mem_cons.mpr ⟨m_cf_133, List.forall_mem_cons.mpr ⟨m_cf_134, List.forall_mem_cons.mpr ⟨m_cf_135, List.forall_mem_cons.mpr ⟨m_cf_136, List.forall_mem_cons.mpr ⟨m_cf_137, List.forall_mem_cons.mpr ⟨m_cf_138, List.forall_mem_cons.mpr ⟨m_cf_139, List.forall_mem_cons.mpr ⟨m_cf_140, List.forall_mem_cons.mpr ⟨m_cf_141, List.forall_mem_cons.mpr ⟨m_cf_142, List.forall_mem_cons.mpr ⟨m_cf_143, List.forall_mem_cons.mpr ⟨m_cf_144, List.forall_mem_cons.mpr ⟨m_cf_145, List.forall_mem_cons.mpr ⟨m_cf_146, List.forall_mem_cons.mpr ⟨m_cf_147, List.forall_mem_cons.mpr ⟨m_cf_148, List.forall_mem_cons.mpr ⟨m_cf_149, List.forall_mem_cons.mpr ⟨m_cf_150, List.forall_mem_cons.mpr ⟨m_cf_151, List.forall_mem_cons.mpr ⟨m_cf_152, List.forall_mem_cons.mpr ⟨m_cf_153, List.forall_mem_cons.mpr ⟨m_cf_154, List.forall_mem_cons.mpr ⟨m_cf_155, List.forall_mem_cons.mpr ⟨m_cf_156, List.forall_mem_cons.mpr ⟨m_cf_157, List.forall_mem_cons.mpr ⟨m_cf_158, List.forall_mem_cons.mpr ⟨m_cf_159, List.forall_mem_cons.mpr ⟨m_cf_160, List.forall_mem_cons.mpr ⟨m_cf_161, List.forall_mem_cons.mpr ⟨m_cf_162, List.forall_mem_cons.mpr ⟨m_cf_163, List.forall_mem_cons.mpr ⟨m_cf_164, List.forall_mem_cons.mpr ⟨m_cf_165, List.forall_mem_cons.mpr ⟨m_cf_166, List.forall_mem_cons.mpr ⟨m_cf_167, List.forall_mem_cons.mpr ⟨m_cf_168, List.forall_mem_cons.mpr ⟨m_cf_169, List.forall_mem_cons.mpr ⟨m_cf_170, List.forall_mem_cons.mpr ⟨m_cf_171, List.forall_mem_cons.mpr ⟨m_cf_172, List.forall_mem_cons.mpr ⟨m_cf_173, List.forall_mem_cons.mpr ⟨m_cf_174, List.forall_mem_cons.mpr ⟨m_cf_175, fun _ h => absurd h List.not_mem_nil⟩⟩⟩⟩⟩⟩⟩⟩⟩⟩⟩⟩⟩⟩⟩⟩⟩⟩⟩⟩⟩⟩⟩⟩⟩⟩⟩⟩⟩⟩⟩⟩⟩⟩⟩⟩⟩⟩⟩⟩⟩⟩⟩⟩
theorem m_ci_0 : ∀ z ∈ List.range 44, z + 0 ∈ ([0, 1, 2, 3, 4, 5, 6, 7, 8, 9, 10, 11, 12, 13, 14, 15, 16, 17, 18, 19, 20, 21, 22, 23, 24, 25, 26, 27, 28, 29, 30, 31, 32, 33, 34, 35, 36, 37, 38, 39, 40, 41, 42, 43] : List Nat) := by decide +kernel
theorem m_ci_44 : ∀ z ∈ List.range 44, z + 44 ∈ ([44, 45, 46, 47, 48, 49, 50, 51, 52, 53, 54, 55, 56, 57, 58, 59, 60, 61, 62, 63, 64, 65, 66, 67, 68, 69, 70, 71, 72, 73, 74, 75, 76, 77, 78, 79, 80, 81, 82, 83, 84, 85, 86, 87] : List Nat) := by decide +kernel
theorem m_ci_88 : ∀ z ∈ List.range 44, z + 88 ∈ ([88, 89, 90, 91, 92, 93, 94, 95, 96, 97, 98, 99, 100, 101, 102, 103, 104, 105, 106, 107, 108, 109, 110, 111, 112, 113, 114, 115, 116, 117, 118, 119, 120, 121, 122, 123, 124, 125, 126, 127, 128, 129, 130, 131] : List Nat) := by decide +kernel
theorem m_ci_132 : ∀ z ∈ List.range 44, z + 132 ∈ ([132, 133, 134, 135, 136, 137, 138, 139, 140, 141, 142, 143, 144, 145, 146, 147, 148, 149, 150, 151, 152, 153, 154, 155, 156, 157, 158, 159, 160, 161, 162, 163, 164, 165, 166, 167, 168, 169, 170, 171, 172, 173, 174, 175] : List Nat) := by decide +kernel
theorem m_ck_all {y : Nat} (hy : y < 176) (k : Nat) (hk : k < (m_code y).length) : m_ck y k = true := by
  by_cases c0 : y < 44
  · have h1 := m_ci_0 (y - 0) (List.mem_range.mpr (by omega))
    rw [show y - 0 + 0 = y by omega] at h1
    exact m_cg_0 y h1 k hk
  by_cases c44 : y < 88
  · have h1 := m_ci_44 (y - 44) (List.mem_range.mpr (by omega))
    rw [show y - 44 + 44 = y by omega] at h1
    exact m_cg_44 y h1 k hk
  by_cases c88 : y < 132
  · have h1 := m_ci_88 (y - 88) (List.mem_range.mpr (by omega))
    rw [show y - 88 + 88 = y by omega] at h1
    exact m_cg_88 y h1 k hk
  have h1 := m_ci_132 (y - 132) (List.mem_range.mpr (by omega))
  rw [show y - 132 + 132 = y by omega] at h1
  exact m_cg_132 y h1 k hk
end
section
/-! a row for each numbered instruction that needs no cell -/
section MR1
variable {p : Program} {l : Launch} {e : Env} {R : Room} {s : State} {m : MethodId} {args : Array Value} {below : List Frame} {meth : Method} {c : Code} {H : Heap} {locs : List Loc} {cells slots : Nat} {Q : State → Prop}
variable {cc : ByteArray} {pc nx : Nat} {la : Array Slot} {b sb nL : Nat}
theorem m_in_ok {i : Nat} {w : Cond} (h : m_in i w = true) : w ∈ lw_tbl ∧ goodWord w = true := by
  unfold m_in at h
  simp only [Bool.and_eq_true, decide_eq_true_eq] at h
  exact ⟨List.mem_of_getElem? h.1, h.2⟩
theorem m_inN_ok {i : Nat} {w : Cond} (h : m_inN i w = true) : w ∈ lw_tbl ∧ m_nest w = true := by
  unfold m_inN at h
  simp only [Bool.and_eq_true, decide_eq_true_eq] at h
  exact ⟨List.mem_of_getElem? h.1, h.2⟩
theorem x_push {own : String} {w : Nat} {v : Int32} {st : List Value} (hx : p.tables.exec = Jvm.exec) (hb : c.code = cc) (hown : s.vm.findClass own = some m.cls) (hT : ∀ w ∈ lw_tbl, goodWord w = true → w.before args s = true) (hk : k_push own cc pc nx w v = true)
    (kk : W p l e R s m args below meth c H locs cells slots Q (F0 m nx la (.int v :: st))) : W p l e R s m args below meth c H locs cells slots Q (F0 m pc la st) := by
  unfold k_push at hk
  split at hk
  · rename_i n hd
    simp only [Bool.and_eq_true, decide_eq_true_eq] at hk
    obtain ⟨h1, h2⟩ := hk
    subst h2
    exact lv_iconst hx hb hd h1 kk
  · rename_i n hd
    simp only [Bool.and_eq_true, decide_eq_true_eq] at hk
    obtain ⟨h1, h2⟩ := hk
    subst h2
    exact lv_bipush hx hb hd h1 kk
  · rename_i n hd
    simp only [Bool.and_eq_true, decide_eq_true_eq] at hk
    obtain ⟨h1, h2⟩ := hk
    subst h2
    exact lv_sipush hx hb hd h1 kk
  · rename_i n hd
    simp only [Bool.and_eq_true, decide_eq_true_eq] at hk
    obtain ⟨h1, h2⟩ := hk
    subst h2
    exact lv_ldc hx hb hown (hT _ (m_in_ok h1).1 (m_in_ok h1).2) hd kk
  · rename_i n hd
    simp only [Bool.and_eq_true, decide_eq_true_eq] at hk
    obtain ⟨h1, h2⟩ := hk
    subst h2
    exact lv_ldcw hx hb hown (hT _ (m_in_ok h1).1 (m_in_ok h1).2) hd kk
  · cases hk
theorem m_kind_0 {f : Int32} {v : MV} (h : m_kind f v = true) (hf : f = 0) : ∃ x : Int32, v = .inl x := by
  subst hf
  rcases v with x | (_ | a)
  · exact ⟨x, rfl⟩
  · cases h
  · exact absurd (of_decide_eq_true h : (0 : Int32) = 1) (by decide)
theorem m_kind_1 {f : Int32} {v : MV} (h : m_kind f v = true) (hf : ¬ f = 0) : ∃ a : Nat, v = .inr (some a) := by
  rcases v with x | (_ | a)
  · exact absurd (of_decide_eq_true h) hf
  · cases h
  · exact ⟨a, rfl⟩
theorem x_load {a : Nat} {f : Int32} {ls : ML} {v : MV} {st : List Value} (hx : p.tables.exec = Jvm.exec) (hb : c.code = cc) (hL : m_L b sb nL ls la) (hv : ls[a]? = some (some v)) (hm : m_kind f v = true) (hk : k_load cc pc nx a f = true)
    (kk : W p l e R s m args below meth c H locs cells slots Q (F0 m nx la (m_v b sb v :: st))) : W p l e R s m args below meth c H locs cells slots Q (F0 m pc la st) := by
  have hla := hL.2.2.2 a v hv
  unfold k_load at hk
  split at hk
  · rename_i n hd
    simp only [Bool.and_eq_true, decide_eq_true_eq] at hk
    obtain ⟨⟨h1, h3⟩, h2⟩ := hk
    subst h2; subst h1
    obtain ⟨x, rfl⟩ := m_kind_0 hm h3
    exact lv_iload hx hb hd hla kk
  · rename_i n hd
    simp only [Bool.and_eq_true, decide_eq_true_eq] at hk
    obtain ⟨⟨h1, h3⟩, h2⟩ := hk
    subst h2
    obtain ⟨x, rfl⟩ := m_kind_0 hm h3
    exact lv_iload_n hx hb hd h1 hla kk
  · rename_i n hd
    simp only [Bool.and_eq_true, decide_eq_true_eq] at hk
    obtain ⟨⟨h1, h3⟩, h2⟩ := hk
    subst h2; subst h1
    obtain ⟨x, rfl⟩ := m_kind_1 hm (by rw [h3]; decide)
    exact lv_aload hx hb hd hla kk
  · rename_i n hd
    simp only [Bool.and_eq_true, decide_eq_true_eq] at hk
    obtain ⟨⟨h1, h3⟩, h2⟩ := hk
    subst h2
    obtain ⟨x, rfl⟩ := m_kind_1 hm (by rw [h3]; decide)
    exact lv_aload_n hx hb hd h1 hla kk
  · cases hk
theorem x_store {a : Nat} {f : Int32} {ls : ML} {v : MV} {st : List Value} (hx : p.tables.exec = Jvm.exec) (hb : c.code = cc) (hL : m_L b sb nL ls la) (ha : a < ls.length) (hm : m_kind f v = true) (hk : k_store cc pc nx a f = true)
    (kk : ∀ la' : Array Slot, m_L b sb nL (ls.set a (some v)) la' → W p l e R s m args below meth c H locs cells slots Q (F0 m nx la' st)) : W p l e R s m args below meth c H locs cells slots Q (F0 m pc la (m_v b sb v :: st)) := by
  have hn : a < nL := by rw [← hL.2.1]; exact ha
  unfold k_store at hk
  split at hk
  · rename_i n hd
    simp only [Bool.and_eq_true, decide_eq_true_eq] at hk
    obtain ⟨⟨h1, h3⟩, h2⟩ := hk
    subst h2; subst h1
    obtain ⟨x, rfl⟩ := m_kind_0 hm h3
    exact lv_istore hx hb hd hL.has hn rfl (fun la' h' => kk la' (hL.store h'))
  · rename_i n hd
    simp only [Bool.and_eq_true, decide_eq_true_eq] at hk
    obtain ⟨⟨h1, h3⟩, h2⟩ := hk
    subst h2
    obtain ⟨x, rfl⟩ := m_kind_0 hm h3
    exact lv_istore_n hx hb hd h1 hL.has hn rfl (fun la' h' => kk la' (hL.store h'))
  · rename_i n hd
    simp only [Bool.and_eq_true, decide_eq_true_eq] at hk
    obtain ⟨⟨h1, h3⟩, h2⟩ := hk
    subst h2; subst h1
    obtain ⟨x, rfl⟩ := m_kind_1 hm (by rw [h3]; decide)
    exact lv_astore hx hb hd hL.has hn rfl (fun la' h' => kk la' (hL.store h'))
  · rename_i n hd
    simp only [Bool.and_eq_true, decide_eq_true_eq] at hk
    obtain ⟨⟨h1, h3⟩, h2⟩ := hk
    subst h2
    obtain ⟨x, rfl⟩ := m_kind_1 hm (by rw [h3]; decide)
    exact lv_astore_n hx hb hd h1 hL.has hn rfl (fun la' h' => kk la' (hL.store h'))
  · cases hk
theorem x_iinc {a : Nat} {v : Int32} {ls : ML} {x : Int32} {st : List Value} (hx : p.tables.exec = Jvm.exec) (hb : c.code = cc) (hL : m_L b sb nL ls la) (hv : ls[a]? = some (some (.inl x))) (hk : k_iinc cc pc nx a v = true)
    (kk : ∀ la' : Array Slot, m_L b sb nL (ls.set a (some (.inl (x + v)))) la' → W p l e R s m args below meth c H locs cells slots Q (F0 m nx la' st)) : W p l e R s m args below meth c H locs cells slots Q (F0 m pc la st) := by
  have hn : a < nL := by rw [← hL.2.1]; exact (List.getElem?_eq_some_iff.mp hv).1
  unfold k_iinc at hk
  split at hk
  · rename_i n z hd
    simp only [Bool.and_eq_true, decide_eq_true_eq] at hk
    obtain ⟨⟨h1, h3⟩, h2⟩ := hk
    subst h2; subst h1; subst h3
    obtain ⟨j, hj⟩ := List.getElem?_of_mem (m_prs_mem (b := b) (sb := sb).mpr ⟨.inl x, hv, rfl⟩ : (n, Value.int x) ∈ m_prs b sb ls)
    exact lv_iinc (v := x + Int32.ofInt z) hx hb hd hL.has hj rfl hn rfl (fun la' h' => kk la' (hL.store (v := .inl (x + Int32.ofInt z)) h'))
  · cases hk
theorem x_bin {w : Nat} {x y : Int32} {st : List Value} (hx : p.tables.exec = Jvm.exec) (hb : c.code = cc) (hk : k_bin cc pc nx w = true)
    (kk : W p l e R s m args below meth c H locs cells slots Q (F0 m nx la (.int (m_bin w x y) :: st))) : W p l e R s m args below meth c H locs cells slots Q (F0 m pc la (.int y :: .int x :: st)) := by
  unfold k_bin at hk
  simp only [Bool.and_eq_true, decide_eq_true_eq] at hk
  obtain ⟨h2, hk⟩ := hk
  subst h2
  split at hk
  · rename_i hd; rw [of_decide_eq_true hk] at kk; exact lv_iadd hx hb hd kk
  · rename_i hd; rw [of_decide_eq_true hk] at kk; exact lv_isub hx hb hd kk
  · rename_i hd; rw [of_decide_eq_true hk] at kk; exact lv_imul hx hb hd kk
  · rename_i hd; rw [of_decide_eq_true hk] at kk; exact lv_iand hx hb hd kk
  · rename_i hd; rw [of_decide_eq_true hk] at kk; exact lv_ior hx hb hd kk
  · rename_i hd; rw [of_decide_eq_true hk] at kk; exact lv_ixor hx hb hd kk
  · rename_i hd; rw [of_decide_eq_true hk] at kk; exact lv_ishl hx hb hd kk
  · rename_i hd; rw [of_decide_eq_true hk] at kk; exact lv_ishr hx hb hd kk
  · rename_i hd; rw [of_decide_eq_true hk] at kk; exact lv_iushr hx hb hd rfl kk
  · cases hk
theorem x_un {w : Nat} {x : Int32} {st : List Value} (hx : p.tables.exec = Jvm.exec) (hb : c.code = cc) (hk : k_un cc pc nx w = true)
    (kk : W p l e R s m args below meth c H locs cells slots Q (F0 m nx la (.int (m_un w x) :: st))) : W p l e R s m args below meth c H locs cells slots Q (F0 m pc la (.int x :: st)) := by
  unfold k_un at hk
  simp only [Bool.and_eq_true, decide_eq_true_eq] at hk
  obtain ⟨h2, hk⟩ := hk
  subst h2
  split at hk
  · rename_i hd; rw [of_decide_eq_true hk] at kk; exact lv_ineg hx hb hd kk
  · rename_i hd; rw [of_decide_eq_true hk] at kk; exact lv_i2b hx hb hd rfl kk
  · rename_i hd; rw [of_decide_eq_true hk] at kk; exact lv_i2s hx hb hd rfl kk
  · cases hk
theorem x_if {w tg : Nat} {x : Int32} {st : List Value} (hx : p.tables.exec = Jvm.exec) (hb : c.code = cc) (hk : k_if cc pc nx w tg = true)
    (kt : m_cnd w x 0 = true → W p l e R s m args below meth c H locs cells slots Q (F0 m tg la st)) (kf : ¬ m_cnd w x 0 = true → W p l e R s m args below meth c H locs cells slots Q (F0 m nx la st)) : W p l e R s m args below meth c H locs cells slots Q (F0 m pc la (.int x :: st)) := by
  unfold k_if at hk
  simp only [Bool.and_eq_true, decide_eq_true_eq] at hk
  obtain ⟨h2, hk⟩ := hk
  subst h2
  split at hk
  · rename_i o hd
    simp only [Bool.and_eq_true, decide_eq_true_eq] at hk
    rw [hk.1] at kt kf
    exact lv_if_eq hx hb hd hk.2 (fun q => kt (by simp [m_cnd, q])) (fun q => kf (by simp [m_cnd, q]))
  · rename_i o hd
    simp only [Bool.and_eq_true, decide_eq_true_eq] at hk
    rw [hk.1] at kt kf
    exact lv_if_ne hx hb hd hk.2 (fun q => kt (by simp [m_cnd, q])) (fun q => kf (by simp [m_cnd, q]))
  · rename_i o hd
    simp only [Bool.and_eq_true, decide_eq_true_eq] at hk
    rw [hk.1] at kt kf
    exact lv_if_lt hx hb hd hk.2 (fun q => kt (decide_eq_true q)) (fun q => kf (fun z => q (of_decide_eq_true z)))
  · rename_i o hd
    simp only [Bool.and_eq_true, decide_eq_true_eq] at hk
    rw [hk.1] at kt kf
    exact lv_if_ge hx hb hd hk.2 (fun q => kt (decide_eq_true q)) (fun q => kf (fun z => q (of_decide_eq_true z)))
  · rename_i o hd
    simp only [Bool.and_eq_true, decide_eq_true_eq] at hk
    rw [hk.1] at kt kf
    exact lv_if_gt hx hb hd hk.2 (fun q => kt (decide_eq_true q)) (fun q => kf (fun z => q (of_decide_eq_true z)))
  · rename_i o hd
    simp only [Bool.and_eq_true, decide_eq_true_eq] at hk
    rw [hk.1] at kt kf
    exact lv_if_le hx hb hd hk.2 (fun q => kt (decide_eq_true q)) (fun q => kf (fun z => q (of_decide_eq_true z)))
  · cases hk
theorem x_icmp {w tg : Nat} {x y : Int32} {st : List Value} (hx : p.tables.exec = Jvm.exec) (hb : c.code = cc) (hk : k_icmp cc pc nx w tg = true)
    (kt : m_cnd w x y = true → W p l e R s m args below meth c H locs cells slots Q (F0 m tg la st)) (kf : ¬ m_cnd w x y = true → W p l e R s m args below meth c H locs cells slots Q (F0 m nx la st)) : W p l e R s m args below meth c H locs cells slots Q (F0 m pc la (.int y :: .int x :: st)) := by
  unfold k_icmp at hk
  simp only [Bool.and_eq_true, decide_eq_true_eq] at hk
  obtain ⟨h2, hk⟩ := hk
  subst h2
  split at hk
  · rename_i o hd
    simp only [Bool.and_eq_true, decide_eq_true_eq] at hk
    rw [hk.1] at kt kf
    exact lv_icmp_eq hx hb hd hk.2 (fun q => kt (by simp [m_cnd, q])) (fun q => kf (by simp [m_cnd, q]))
  · rename_i o hd
    simp only [Bool.and_eq_true, decide_eq_true_eq] at hk
    rw [hk.1] at kt kf
    exact lv_icmp_ne hx hb hd hk.2 (fun q => kt (by simp [m_cnd, q])) (fun q => kf (by simp [m_cnd, q]))
  · rename_i o hd
    simp only [Bool.and_eq_true, decide_eq_true_eq] at hk
    rw [hk.1] at kt kf
    exact lv_icmp_lt hx hb hd hk.2 (fun q => kt (decide_eq_true q)) (fun q => kf (fun z => q (of_decide_eq_true z)))
  · rename_i o hd
    simp only [Bool.and_eq_true, decide_eq_true_eq] at hk
    rw [hk.1] at kt kf
    exact lv_icmp_ge hx hb hd hk.2 (fun q => kt (decide_eq_true q)) (fun q => kf (fun z => q (of_decide_eq_true z)))
  · rename_i o hd
    simp only [Bool.and_eq_true, decide_eq_true_eq] at hk
    rw [hk.1] at kt kf
    exact lv_icmp_gt hx hb hd hk.2 (fun q => kt (decide_eq_true q)) (fun q => kf (fun z => q (of_decide_eq_true z)))
  · rename_i o hd
    simp only [Bool.and_eq_true, decide_eq_true_eq] at hk
    rw [hk.1] at kt kf
    exact lv_icmp_le hx hb hd hk.2 (fun q => kt (decide_eq_true q)) (fun q => kf (fun z => q (of_decide_eq_true z)))
  · cases hk
theorem x_goto {tg : Nat} {st : List Value} (hx : p.tables.exec = Jvm.exec) (hb : c.code = cc) (hk : k_goto cc pc tg = true)
    (kk : W p l e R s m args below meth c H locs cells slots Q (F0 m tg la st)) : W p l e R s m args below meth c H locs cells slots Q (F0 m pc la st) := by
  unfold k_goto at hk
  split at hk
  · rename_i o hd; exact lv_goto hx hb hd (of_decide_eq_true hk) kk
  · cases hk
theorem x_switch {tg : Nat → Nat} {d : Nat} {lo : Int32} {ts : List Nat} {x : Int32} {st : List Value} (hx : p.tables.exec = Jvm.exec) (hb : c.code = cc) (hk : k_switch cc pc tg d lo ts = true)
    (kk : W p l e R s m args below meth c H locs cells slots Q (F0 m (tg (m_swt d lo ts x)) la st)) : W p l e R s m args below meth c H locs cells slots Q (F0 m pc la (.int x :: st)) := by
  unfold k_switch at hk
  split at hk
  · rename_i df lo' hi os n hd
    simp only [Bool.and_eq_true, decide_eq_true_eq] at hk
    obtain ⟨⟨⟨h1, h2⟩, h3⟩, h4⟩ := hk
    unfold m_swt at kk
    by_cases hl : x.toInt < lo.toInt
    · rw [if_pos hl] at kk
      exact lv_tableOut hx hb hd (Or.inl (by rw [h1]; exact hl)) h2 kk
    · rw [if_neg hl] at kk
      by_cases hj : (x.toInt - lo.toInt).toNat < ts.length
      · obtain ⟨t, ht⟩ : ∃ t, ts[(x.toInt - lo.toInt).toNat]? = some t := ⟨_, List.getElem?_eq_getElem hj⟩
        rw [List.getD_eq_getElem?_getD, ht] at kk
        have h5 : (os.toList.map (fun o => (pc : Int) + o))[(x.toInt - lo.toInt).toNat]? = some (tg t : Int) := by rw [h3, List.getElem?_map, ht]; rfl
        rw [List.getElem?_map, Array.getElem?_toList] at h5
        cases ho : os[(x.toInt - lo.toInt).toNat]? with
        | none => rw [ho] at h5; cases h5
        | some o =>
          rw [ho] at h5
          exact lv_tableIn hx hb hd (by rw [h1]; exact hl) (by omega) (by rw [h1]; exact ho) (Option.some.inj h5) kk
      · rw [List.getD_eq_getElem?_getD, List.getElem?_eq_none (by omega)] at kk
        exact lv_tableOut hx hb hd (Or.inr (by omega)) h2 kk
  · cases hk
theorem k_one_ok {bs : ByteArray} {i : Instr} (h : k_one bs pc nx i = true) : decode bs pc = .ok (i, 1) ∧ nx = pc + 1 := by
  unfold k_one at h
  simp only [Bool.and_eq_true, decide_eq_true_eq] at h
  exact ⟨h.2, h.1.symm⟩
end MR1
end
section
/-! a row for each numbered instruction that reads or writes a cell -/
def m_TB : List Cond := lw_tbl.filter goodWord
theorem m_hts {args : Array Value} {s : State} (hT : ∀ w ∈ lw_tbl, goodWord w = true → w.before args s = true) : ∀ w ∈ m_TB, w.before args s = true := fun w h => hT w (List.mem_filter.mp h).1 (List.mem_filter.mp h).2
theorem m_inT {i : Nat} {w : Cond} (h : m_in i w = true) : w ∈ m_TB := List.mem_filter.mpr (m_in_ok h)
theorem m_cl_get {ci : Nat} (h : ci < 8) : m_cl[ci]? = some (m_C ci) := by
  unfold m_C
  rw [List.getD_eq_getElem?_getD, List.getElem?_eq_getElem (show ci < m_cl.length from h)]
  rfl
theorem m_cls_ok {ci k : Nat} (hc : ci < 8) (hk : k < (m_C ci).2.2) : u_lay (m_C ci).1 (m_C ci).2.1 k ∈ m_TB ∧ parseFieldDescriptor ((m_C ci).2.1 k).2.2.1 = some (m_ty ci k) ∧ ((m_C ci).2.1 k).1 = (m_C ci).1 ∧ defaultValue (m_ty ci k) = m_dv ((m_def.getD ci []).getD k (.inr none)) ∧
    ((m_def.getD ci []).getD k (.inr none) = .inl 0 ∨ (m_def.getD ci []).getD k (.inr none) = .inr none) ∧ (∀ j, j < (m_C ci).2.2 → j ≠ k → ((m_C ci).2.1 j).2.1 ≠ ((m_C ci).2.1 k).2.1) ∧ (m_def.getD ci []).length = (m_C ci).2.2 := by
  have h := List.all_eq_true.mp m_clsok_ok ci (List.mem_range.mpr hc)
  simp only [Bool.and_eq_true, decide_eq_true_eq] at h
  have h2 := List.all_eq_true.mp h.2 k (List.mem_range.mpr hk)
  simp only [Bool.and_eq_true, decide_eq_true_eq] at h2
  obtain ⟨⟨⟨⟨⟨a1, a2⟩, a3⟩, a4⟩, a5⟩, a6⟩ := h2
  refine ⟨m_inT a1, a2, a3, a4, a5, fun j hj hne => ?_, h.1⟩
  have h3 := List.all_eq_true.mp a6 j (List.mem_range.mpr hj)
  simp only [Bool.or_eq_true, decide_eq_true_eq] at h3
  exact h3.resolve_left hne
theorem m_uws {ci : Nat} (hc : ci < 8) : ∀ w ∈ u_ws (m_C ci).1 (m_C ci).2.1 (m_C ci).2.2, w ∈ m_TB := fun w hw => by
  obtain ⟨k, hk, rfl⟩ := List.mem_map.mp hw
  exact (m_cls_ok hc (List.mem_range.mp hk)).1
theorem m_tyok {ci : Nat} (hc : ci < 8) : ∀ k, k < (m_C ci).2.2 → parseFieldDescriptor ((m_C ci).2.1 k).2.2.1 = some (m_ty ci k) := fun _ hk => (m_cls_ok hc hk).2.1
theorem m_nmok {ci : Nat} (hc : ci < 8) : ∀ a, a < (m_C ci).2.2 → ∀ b, b < (m_C ci).2.2 → a ≠ b → ((m_C ci).2.1 a).2.1 ≠ ((m_C ci).2.1 b).2.1 := fun a ha b hb hne => (m_cls_ok hc hb).2.2.2.2.2.1 a ha hne
section MR2
variable {p : Program} {l : Launch} {e : Env} {R : Room} {s : State} {m : MethodId} {args : Array Value} {below : List Frame} {meth : Method} {c : Code} {H : Heap} {locs : List Loc} {cells slots : Nat} {Q : State → Prop}
variable {cc : ByteArray} {pc nx : Nat} {la : Array Slot} {b sb nL : Nat} {D : va_G} {tc : Nat → ClassId} {h : MH} {st : List Value}
theorem x_getf {own : String} {w fl ci j a : Nat} {fs : List MV} {v : MV} (hx : p.tables.exec = Jvm.exec) (hb : c.code = cc) (hown : s.vm.findClass own = some m.cls) (hT : ∀ w ∈ lw_tbl, goodWord w = true → w.before args s = true) (hS : m_St D tc s) (hP : m_P D tc b sb h H) (ha : m_cell h a = some (.inl (ci, fs))) (hv : fs[j]? = some v) (hk : k_getf own cc pc nx w fl ci j = true)
    (kk : W p l e R s m args below meth c H locs cells slots Q (F0 m nx la (m_v b sb v :: st))) : W p l e R s m args below meth c H locs cells slots Q (F0 m pc la (.ref (m_ad b sb a) :: st)) := by
  obtain ⟨hne, hg⟩ := m_cell_some ha
  rw [m_ad_ne hne]
  unfold k_getf at hk
  simp only [Bool.and_eq_true, decide_eq_true_eq] at hk
  obtain ⟨⟨⟨h2, hc⟩, hj⟩, hk⟩ := hk
  subst h2
  have hd := (m_cls_ok hc hj).2.2.1
  have hv' : (fs.map (m_v b sb))[j]? = some (m_v b sb v) := by rw [List.getElem?_map, hv]; rfl
  split at hk
  · rename_i z hdec
    split at hk
    · exact va_get (D := D) (ci := ci) (v := m_v b sb v) (C := (m_C ci).1) (T := (m_C ci).2.1) (N := (m_C ci).2.2) hx hb (m_hts hT) (m_uws hc) hown hS.1 (hP.one hg) 0 rfl (m_cl_get hc) j hj (hT _ (m_in_ok hk).1 (m_in_ok hk).2) (fun x q => by rw [hd] at q; exact q) hv' hdec kk
    · exact va_getN (D := D) (ci := ci) (v := m_v b sb v) (C := (m_C ci).1) (T := (m_C ci).2.1) (N := (m_C ci).2.2) hx hb (m_hts hT) (m_uws hc) hown hS.1 (hP.one hg) 0 rfl (m_cl_get hc) j hj (va_Nw.use rfl (hS.2.1 _ (m_inN_ok hk).1 (m_inN_ok hk).2)) (fun x q => by rw [hd] at q; exact q) hv' hdec kk
  · cases hk
theorem x_putf {own : String} {w ci j a : Nat} {f : Int32} {fs : List MV} {v : MV} (hx : p.tables.exec = Jvm.exec) (hb : c.code = cc) (hown : s.vm.findClass own = some m.cls) (hT : ∀ w ∈ lw_tbl, goodWord w = true → w.before args s = true) (hS : m_St D tc s) (hP : m_P D tc b sb h H) (hF : va_S (fun q => b ≤ q) s.heap H locs) (ha : m_cell h a = some (.inl (ci, fs))) (hl : j < fs.length) (hm : m_kind f v = true) (hk : k_putf own meth.name cc pc nx w ci j f = true)
    (kk : ∀ (H1 : Heap) (locs1 : List Loc), m_P D tc b sb (h.set a (.inl (ci, fs.set j v))) H1 → va_S (fun q => b ≤ q) s.heap H1 locs1 → W p l e R s m args below meth c H1 locs1 cells slots Q (F0 m nx la st)) : W p l e R s m args below meth c H locs cells slots Q (F0 m pc la (m_v b sb v :: .ref (m_ad b sb a) :: st)) := by
  obtain ⟨hne, hg⟩ := m_cell_some ha
  rw [m_ad_ne hne]
  unfold k_putf at hk
  simp only [Bool.and_eq_true, decide_eq_true_eq] at hk
  obtain ⟨⟨⟨⟨⟨h2, hc⟩, hj⟩, hty⟩, hfin⟩, hk⟩ := hk
  subst h2
  have hdd := (m_cls_ok hc hj).2.2.1
  have hd := m_tyok hc j hj
  have hts := m_hts hT
  have hin := m_uws hc
  have hnf : narrow (m_ty ci j) (m_v b sb v) = m_v b sb v ∧ fits (m_ty ci j) (m_v b sb v) = true := by
    by_cases hf : f = 0
    · rw [if_pos hf] at hty
      obtain ⟨x, rfl⟩ := m_kind_0 hm hf
      rw [of_decide_eq_true hty]
      exact ⟨rfl, rfl⟩
    · rw [if_neg hf] at hty
      obtain ⟨x, rfl⟩ := m_kind_1 hm hf
      generalize m_ty ci j = ty at hty ⊢
      cases ty <;> first | exact ⟨rfl, rfl⟩ | cases hty
  have hap := va_apart (own := own) hts hin (m_ty ci) (m_tyok hc) (m_nmok hc) hS.1 (m_cl_get hc)
  obtain ⟨r, h1, cell, q1, q2, q3, q4⟩ := hP.2 a _ hg
  have hr : r = m_C ci := Option.some.inj (h1.symm.trans (m_cl_get hc))
  subst hr
  obtain ⟨hS', hfc, kC, hkC, hkind⟩ := hS.1.1 ci _ (m_cl_get hc)
  obtain ⟨cf, kf, fi, fd, hi, hsl⟩ := hS' j hj
  have hst := (u_facts hfc hkC (u_lays hts hin hj) hi).1
  have hi2 : s.fieldFound? (m_C ci).1 ((m_C ci).2.1 j).2.1 ((m_C ci).2.1 j).2.2.1 = some (cf, kf, fi, fd) := by rw [← hdd]; exact hi
  have hlay := hts _ (hin _ (u_in_lay hj))
  have fin : ∀ H' : Heap, H'[b + a]? = some (cell.setSlot ((D.2 ci) j) (m_v b sb v)) → H'.size = H.size → (∀ q, q ≠ b + a → H'[q]? = H[q]?) → W p l e R s m args below meth c H' (locs ++ [⟨b + a, (D.2 ci) j⟩]) cells slots Q (F0 m (pc + 3) la st) := by
    intro H' e1 e2 e3
    refine kk H' _ (hP.set hg e2 e3 ⟨_, m_cl_get hc, ?_⟩) (hF.put e2 e3 (Nat.le_add_right b a))
    refine t_OB.to (V := updV (vp_V (fs.map (m_v b sb))) j (m_v b sb v)) ⟨_, e1, q2, q3, t_set q4 hap hj _⟩ (fun i _ => ?_)
    rw [vp_updV_set (by rw [List.length_map]; exact hl), List.map_set]
  split at hk
  · rename_i z hdec
    have hlink := hT _ (m_in_ok hk).1 (m_in_ok hk).2
    unfold u_lay at hlay
    cases hf : ((m_C ci).2.1 j).2.2.2 with
    | false =>
      rw [if_neg (by rw [hf]; decide)] at hlay
      have h6 := u_store hfc hkC hkind hlay hi hd hnf.1 hnf.2
      refine W.putK hx hb (f := fd) ⟨hown, hlink, ⟨_, _, _, hi2⟩, hst⟩ (by rw [q2]; exact h6) q1 q3 (by rw [hsl]; exact k2_hasslot (q4 j hj)) rfl rfl hdec fun H' e1 e2 e3 => ?_
      rw [hsl] at e1 ⊢
      exact fin H' e1 e2 e3
    | true =>
      rw [if_pos hf] at hlay
      rw [hf] at hfin
      simp only [Bool.not_true, Bool.false_or, Bool.and_eq_true, decide_eq_true_eq] at hfin
      have hcf : m.cls = cf := by
        obtain ⟨_, _, c', _, _, _, -, -, hf', -, -, -, hown2, -⟩ := Cond.laysFinal_spec hlay
        have e1 : c' = cf := by have := hi.symm.trans hf'; simp at this; exact this.1.symm
        rw [hdd, hfin.2] at hown2
        rw [← e1]; exact Option.some.inj (hown.symm.trans hown2)
      have h6 := u_fits hfc hkC hkind (Or.inr hlay) hi hd hnf.1 hnf.2
      refine W.putFinK hx hb hown hlink hi2 hst hcf hfin.1 (by rw [q2]; exact h6) q1 q3 (by rw [hsl]; exact k2_hasslot (q4 j hj)) rfl rfl hdec fun H' e1 e2 e3 => ?_
      rw [hsl] at e1 ⊢
      exact fin H' e1 e2 e3
  · cases hk
theorem x_iald {a : Nat} {i : Int32} {li : List Int32} {x : Int32} (hx : p.tables.exec = Jvm.exec) (hb : c.code = cc) (hS : m_St D tc s) (hP : m_P D tc b sb h H) (hne : a ≠ m_scr) (ha : h[a]? = some (.inr (.inl li))) (hi : ¬ i < 0) (hv : li[i.toNatClampNeg]? = some x) (hk : k_one cc pc nx .iaload = true)
    (kk : W p l e R s m args below meth c H locs cells slots Q (F0 m nx la (.int x :: st))) : W p l e R s m args below meth c H locs cells slots Q (F0 m pc la (.int i :: .ref (m_ad b sb a) :: st)) := by
  obtain ⟨hd, rfl⟩ := k_one_ok hk
  rw [m_ad_ne hne]
  have hlt : i.toNatClampNeg < li.length := (List.getElem?_eq_some_iff.mp hv).1
  refine va_iald (D := D) hx hb hS.1 (hP.one ha) 0 0 rfl rfl (fun q => q.elim hi (fun q => by omega)) hd ?_
  have : li.getD i.toNatClampNeg 0 = x := by rw [List.getD_eq_getElem?_getD, hv]; rfl
  rw [this]
  exact kk
theorem x_scr {S : Nat × (Nat → Int32)} {i : Int32} (hx : p.tables.exec = Jvm.exec) (hb : c.code = cc) (hX : va_X sb S.1 S.2 s s.heap) (hl : sb < b) (hbs : b ≤ s.heap.size) (hF : va_S (fun q => b ≤ q) s.heap H locs) (hi : ¬ i < 0) (hlt : i.toNatClampNeg < S.1) (hk : k_one cc pc nx .iaload = true)
    (kk : W p l e R s m args below meth c H locs cells slots Q (F0 m nx la (.int (S.2 i.toNatClampNeg) :: st))) : W p l e R s m args below meth c H locs cells slots Q (F0 m pc la (.int i :: .ref (m_ad b sb m_scr) :: st)) := by
  obtain ⟨hd, rfl⟩ := k_one_ok hk
  exact va_sld hx hb hX (Nat.lt_of_lt_of_le hl hbs) (by show ¬ b ≤ sb; omega) hF (fun q => q.elim hi (fun q => by omega)) hd kk
theorem x_slen {S : Nat × (Nat → Int32)} (hx : p.tables.exec = Jvm.exec) (hb : c.code = cc) (hX : va_X sb S.1 S.2 s s.heap) (hl : sb < b) (hbs : b ≤ s.heap.size) (hF : va_S (fun q => b ≤ q) s.heap H locs) (hk : k_one cc pc nx .arraylength = true)
    (kk : W p l e R s m args below meth c H locs cells slots Q (F0 m nx la (.int (Int32.ofNat S.1) :: st))) : W p l e R s m args below meth c H locs cells slots Q (F0 m pc la (.ref (m_ad b sb m_scr) :: st)) := by
  obtain ⟨hd, rfl⟩ := k_one_ok hk
  exact va_slen hx hb hX (Nat.lt_of_lt_of_le hl hbs) (by show ¬ b ≤ sb; omega) hF hd kk
theorem m_setI {li : List Int32} {n : Nat} {x : Int32} (hn : n < li.length) : (fun j => Value.int ((li.set n x).getD j 0)) = updV (fun j => Value.int (li.getD j 0)) n (.int x) := by
  funext j
  unfold updV
  by_cases hj : j = n
  · subst hj
    rw [if_pos rfl, List.getD_eq_getElem?_getD, List.getElem?_set_self hn]
    rfl
  · rw [if_neg hj, List.getD_eq_getElem?_getD, List.getElem?_set_ne (Ne.symm hj), ← List.getD_eq_getElem?_getD]
theorem x_iast {a : Nat} {i x : Int32} {li : List Int32} (hx : p.tables.exec = Jvm.exec) (hb : c.code = cc) (hS : m_St D tc s) (hP : m_P D tc b sb h H) (hF : va_S (fun q => b ≤ q) s.heap H locs) (ha : m_cell h a = some (.inr (.inl li))) (hi : ¬ i < 0) (hlt : i.toNatClampNeg < li.length) (hk : k_one cc pc nx .iastore = true)
    (kk : ∀ (H1 : Heap) (locs1 : List Loc), m_P D tc b sb (h.set a (.inr (.inl (li.set i.toNatClampNeg x)))) H1 → va_S (fun q => b ≤ q) s.heap H1 locs1 → W p l e R s m args below meth c H1 locs1 cells slots Q (F0 m nx la st)) : W p l e R s m args below meth c H locs cells slots Q (F0 m pc la (.int x :: .int i :: .ref (m_ad b sb a) :: st)) := by
  obtain ⟨hne, hg⟩ := m_cell_some ha
  rw [m_ad_ne hne]
  obtain ⟨hd, rfl⟩ := k_one_ok hk
  have hcell : H[b + a]? = some (vp_cell (tc 0) (li.length, .inl (fun j => li.getD j 0))) := hP.2 a _ hg
  refine W.iast hx hb hcell ((hS.1.2 0 _ rfl).1 li.length (fun j => .int (li.getD j 0))) (fun q => by cases q) (by show ¬ (i < 0 ∨ (arrV _ _ _).slots.size ≤ _); rw [arrV_size]; exact fun q => q.elim hi (fun q => by omega)) rfl rfl hd fun H1 e z oq => ?_
  refine kk H1 _ (hP.set hg z oq ?_) (hF.put z oq (Nat.le_add_right b a))
  show H1[b + a]? = some (vp_cell _ _)
  rw [e, vp_cell_i, arrV_store, List.length_set, vp_cell_i, m_setI hlt]
theorem x_aald {a kd : Nat} {i : Int32} {lq : List (Option Nat)} {x : Option Nat} (hx : p.tables.exec = Jvm.exec) (hb : c.code = cc) (hS : m_St D tc s) (hP : m_P D tc b sb h H) (ha : m_cell h a = some (.inr (.inr (kd, lq)))) (hkd : kd < 4 ∧ 0 < kd) (hi : ¬ i < 0) (hv : lq[i.toNatClampNeg]? = some x) (hk : k_one cc pc nx .aaload = true)
    (kk : W p l e R s m args below meth c H locs cells slots Q (F0 m nx la (m_v b sb (.inr x) :: st))) : W p l e R s m args below meth c H locs cells slots Q (F0 m pc la (.int i :: .ref (m_ad b sb a) :: st)) := by
  obtain ⟨hne, hg⟩ := m_cell_some ha
  rw [m_ad_ne hne]
  obtain ⟨hd, rfl⟩ := k_one_ok hk
  have hlt : i.toNatClampNeg < lq.length := (List.getElem?_eq_some_iff.mp hv).1
  have hcell : H[b + a]? = some (vp_cell (tc kd) (lq.length, .inr (.inr (.inr (.inr (fun j => (lq.getD j none).map (m_ad b sb))))))) := hP.2 a _ hg
  have hval : va_rf ((lq.getD i.toNatClampNeg none).map (m_ad b sb)) = m_v b sb (.inr x) := by
    rw [List.getD_eq_getElem?_getD, hv]
    cases x <;> rfl
  obtain ⟨ty, hty, hr⟩ : ∃ ty, (m_tys tc)[kd]? = some (tc kd, ty) ∧ ty.isReference = true := by
    rcases (show kd = 1 ∨ kd = 2 ∨ kd = 3 by omega) with rfl | rfl | rfl <;> exact ⟨_, rfl, rfl⟩
  refine W.aald (v := m_v b sb (.inr x)) (ty := ty) hx hb hcell ((hS.1.2 kd _ hty).1 lq.length (fun j => va_rf ((lq.getD j none).map (m_ad b sb)))) hr (fun q => by cases q) (by show ¬ (i < 0 ∨ (arrV _ _ _).slots.size ≤ _); rw [arrV_size]; exact fun q => q.elim hi (fun q => by omega)) ?_ rfl rfl hd kk
  show (arrV _ _ _).slots[_]? = _
  rw [arrV_read _ _ hlt, hval]
theorem x_aast {a v kd ci : Nat} {i : Int32} {lq : List (Option Nat)} {fs : List MV} (hx : p.tables.exec = Jvm.exec) (hb : c.code = cc) (hS : m_St D tc s) (hP : m_P D tc b sb h H) (hF : va_S (fun q => b ≤ q) s.heap H locs) (ha : m_cell h a = some (.inr (.inr (kd, lq)))) (hv : m_cell h v = some (.inl (ci, fs))) (hi : ¬ i < 0) (hlt : i.toNatClampNeg < lq.length) (hkd : kd = 1 ∨ kd = 2) (hci : ci = m_kc kd) (hk : k_one cc pc nx .aastore = true)
    (kk : ∀ (H1 : Heap) (locs1 : List Loc), m_P D tc b sb (h.set a (.inr (.inr (kd, lq.set i.toNatClampNeg (some v))))) H1 → va_S (fun q => b ≤ q) s.heap H1 locs1 → W p l e R s m args below meth c H1 locs1 cells slots Q (F0 m nx la st)) : W p l e R s m args below meth c H locs cells slots Q (F0 m pc la (.ref (m_ad b sb v) :: .int i :: .ref (m_ad b sb a) :: st)) := by
  obtain ⟨hne, hg⟩ := m_cell_some ha
  obtain ⟨hnv, hgv⟩ := m_cell_some hv
  rw [m_ad_ne hne, m_ad_ne hnv]
  obtain ⟨hd, rfl⟩ := k_one_ok hk
  have hcell : H[b + a]? = some (vp_cell (tc kd) (lq.length, .inr (.inr (.inr (.inr (fun j => (lq.getD j none).map (m_ad b sb))))))) := hP.2 a _ hg
  obtain ⟨r', hr', cellV, g1, g2, g3, -⟩ := hP.2 v _ hgv
  obtain ⟨ty, hty, hcn, hci8⟩ : ∃ ty, (m_tys tc)[kd]? = some (tc kd, ty) ∧ ty = .object (m_C ci).1 ∧ ci < 8 := by
    rcases hkd with rfl | rfl
    · subst hci; exact ⟨_, rfl, rfl, by decide⟩
    · subst hci; exact ⟨_, rfl, rfl, by decide⟩
  subst hcn
  have hcls := (hS.1.1 ci _ (m_cl_get hci8)).2
  obtain ⟨kA, comp, k1, k2, k3, -⟩ := (hS.1.2 kd _ hty).2
  have hcomp : comp = D.1 ci := Option.some.inj (k3.symm.trans hcls.1)
  subst hcomp
  obtain ⟨kC, hkC, -⟩ := hcls.2
  refine W.aast hx hb hcell (fun q h => by cases h) (fun h => by cases h) k1 k2 rfl hkC ⟨hi, by show _ < (arrV _ _ _).slots.size; rw [arrV_size]; exact hlt⟩ g1 (fun q h => by rw [g3] at h; cases h) (by rw [g2]; exact hkC) (by rw [g2]; exact va_assign hcls) rfl rfl hd fun H1 e z oq => ?_
  refine kk H1 _ (hP.set hg z oq ?_) (hF.put z oq (Nat.le_add_right b a))
  show H1[b + a]? = some (vp_cell _ _)
  rw [e, vp_cell_q, arrV_store, List.length_set, vp_cell_q]
  congr 2
  funext j
  unfold updV
  by_cases hj : j = i.toNatClampNeg
  · subst hj
    rw [if_pos rfl, List.getD_eq_getElem?_getD, List.getElem?_set_self hlt]
    show Value.ref (b + v) = va_rf (some (m_ad b sb v))
    rw [m_ad_ne hnv]
    rfl
  · rw [if_neg hj]
    show va_rf ((lq.getD j none).map (m_ad b sb)) = va_rf (((lq.set i.toNatClampNeg (some v)).getD j none).map (m_ad b sb))
    rw [List.getD_eq_getElem?_getD, List.getD_eq_getElem?_getD, List.getElem?_set_ne (Ne.symm hj)]
end MR2
end
section
/-! rows: copy, make, numbers of the library -/
section MR3
variable {p : Program} {l : Launch} {e : Env} {R : Room} {s : State} {m : MethodId} {args : Array Value} {below : List Frame} {meth : Method} {c : Code} {H : Heap} {locs : List Loc} {cells slots : Nat} {Q : State → Prop}
variable {cc : ByteArray} {pc nx : Nat} {la : Array Slot} {b sb nL : Nat} {D : va_G} {tc : Nat → ClassId} {h : MH} {st : List Value}
theorem m_nn (z : Int32) (hz : ¬ z < 0) : z.toInt = (z.toNatClampNeg : Int) := by
  have hz0 : (0 : Int) ≤ z.toInt := by
    have := Int32.not_lt.mp hz
    simpa using Int32.le_iff_toInt_le.mp this
  show z.toInt = ((z.toInt.toNat : Nat) : Int)
  omega
theorem m_cpy_len (l1 g1 : List Int32) (sp dp n : Nat) : (m_cpy l1 g1 sp dp n).length = g1.length := by simp [m_cpy]
theorem x_copy {own : String} {w a a1 : Nat} {n dp sp : Int32} {l1 g1 : List Int32} (hx : p.tables.exec = Jvm.exec) (hb : c.code = cc) (hml : c.maxLocals = la.size) (hown : s.vm.findClass own = some m.cls) (hT : ∀ w ∈ lw_tbl, goodWord w = true → w.before args s = true) (hS : m_St D tc s) (hP : m_P D tc b sb h H) (hF : va_S (fun q => b ≤ q) s.heap H locs)
    (ha : m_cell h a = some (.inr (.inl l1))) (ha1 : m_cell h a1 = some (.inr (.inl g1))) (h3 : ¬ n < 0) (h2 : ¬ dp < 0) (h1 : ¬ sp < 0) (h4 : sp.toNatClampNeg + n.toNatClampNeg ≤ l1.length) (h5 : dp.toNatClampNeg + n.toNatClampNeg ≤ g1.length) (hfr : 1 ≤ R.frames) (hlo : (st.map fun v => v.category).sum + 18 ≤ R.locals) (hk : k_copy own cc pc nx w = true)
    (kk : ∀ (H1 : Heap) (locs1 : List Loc), m_P D tc b sb (h.set a1 (.inr (.inl (m_cpy l1 g1 sp.toNatClampNeg dp.toNatClampNeg n.toNatClampNeg)))) H1 → va_S (fun q => b ≤ q) s.heap H1 locs1 → W p l e R s m args below meth c H1 locs1 cells slots Q (F0 m nx la st)) : W p l e R s m args below meth c H locs cells slots Q (F0 m pc la (.int n :: .int dp :: .ref (m_ad b sb a1) :: .int sp :: .ref (m_ad b sb a) :: st)) := by
  obtain ⟨hne, hg⟩ := m_cell_some ha
  obtain ⟨hne1, hg1⟩ := m_cell_some ha1
  rw [m_ad_ne hne, m_ad_ne hne1]
  unfold k_copy at hk
  simp only [Bool.and_eq_true, decide_eq_true_eq] at hk
  obtain ⟨⟨⟨⟨h9, w1⟩, w2⟩, w3⟩, hk⟩ := hk
  subst h9
  split at hk
  · rename_i z hd
    intro T hTT X
    have hc0 : H[b + a]? = some (vp_cell (tc 0) (l1.length, .inl (fun j => l1.getD j 0))) := hP.2 a _ hg
    have hc1 : H[b + a1]? = some (vp_cell (tc 0) (g1.length, .inl (fun j => g1.getD j 0))) := hP.2 a1 _ hg1
    obtain ⟨-, k0, hk0, cm0, hkk0⟩ := (hS.1.2 0 _ rfl).1 l1.length (fun j => .int (l1.getD j 0))
    obtain ⟨-, k1, hk1, cm1, hkk1⟩ := (hS.1.2 0 _ rfl).1 g1.length (fun j => .int (g1.getD j 0))
    obtain ⟨vm', X', step⟩ := X.arraycopy hx hown (hT _ (m_in_ok hk).1 (m_in_ok hk).2) (hT _ (m_in_ok w1).1 (m_in_ok w1).2) (hT _ (m_in_ok w2).1 (m_in_ok w2).2) (hT _ (m_in_ok w3).1 (m_in_ok w3).2) (src := b + a) (dst := b + a1) (cs := vp_cell (tc 0) (l1.length, .inl (fun j => l1.getD j 0))) (cd := vp_cell (tc 0) (g1.length, .inl (fun j => g1.getD j 0))) (srcPos := sp) (destPos := dp) (n := n) (by rw [hTT]; exact hc0) (by rw [hTT]; exact hc1)
      (fun _ h => by cases h) (fun _ h => by cases h) (fun h => by cases h) (fun h => by cases h) hk0 hk1 hkk0 hkk1 (by simp [refKind]) h1 h2 h3
      (by rw [m_nn sp h1, m_nn n h3]; show ¬ _ > ((arrV (tc 0) l1.length (fun j => .int (l1.getD j 0))).slots.size : Int); rw [arrV_size]; omega)
      (by rw [m_nn dp h2, m_nn n h3]; show ¬ _ > ((arrV (tc 0) g1.length (fun j => .int (g1.getD j 0))).slots.size : Int); rw [arrV_size]; omega)
      (fun vm₁ _ i hi => by
        have e : (vp_cell (tc 0) (l1.length, .inl (fun j => l1.getD j 0))).slots.getD (sp.toNatClampNeg + i) .null = .int (l1.getD (sp.toNatClampNeg + i) 0) := by
          show (arrV (tc 0) l1.length (fun j => .int (l1.getD j 0))).slots.getD _ _ = _
          rw [Array.getD_eq_getD_getElem?, arrV_read _ _ (by omega)]
          rfl
        refine ⟨?_, ?_⟩
        · rw [e]
          rfl
        · rw [e]
          exact trivial)
      (g := F0 m pc la (.int n :: .int dp :: .ref (b + a1) :: .int sp :: .ref (b + a) :: st)) rfl (by rw [hml]) (rest := st) rfl (by rw [hb]; exact hd) hfr (by show 2 * 0 + _ + (7 + 11) ≤ _; omega)
    have e1 : copied (vp_cell (tc 0) (l1.length, .inl (fun j => l1.getD j 0))) (vp_cell (tc 0) (g1.length, .inl (fun j => g1.getD j 0))) sp dp n = vp_cell (tc 0) ((m_cpy l1 g1 sp.toNatClampNeg dp.toNatClampNeg n.toNatClampNeg).length, .inl (fun j => (m_cpy l1 g1 sp.toNatClampNeg dp.toNatClampNeg n.toNatClampNeg).getD j 0)) := by
      refine (va_copied (fun z => .int z) (tc 0) (tc 0) (fun j => l1.getD j 0) (fun j => g1.getD j 0) h4).trans ?_
      rw [vp_cell_i, m_cpy_len]
      refine congrArg (fun (f : Fin g1.length → Value) => ({ cls := tc 0, slots := Array.ofFn f, vm := .none } : Cell)) (funext fun j => ?_)
      show Value.int (va_cpy _ _ _ _ _ j.val) = Value.int _
      congr 1
      unfold m_cpy va_cpy
      rw [List.getD_eq_getElem?_getD, List.getElem?_map, List.getElem?_range j.isLt]
      rfl
    rw [e1] at X' step
    generalize hC : vp_cell (tc 0) ((m_cpy l1 g1 sp.toNatClampNeg dp.toNatClampNeg n.toNatClampNeg).length, .inl (fun j => (m_cpy l1 g1 sp.toNatClampNeg dp.toNatClampNeg n.toNatClampNeg).getD j 0)) = C1 at X' step
    have hl : b + a1 < H.size := (Array.getElem?_eq_some_iff.mp hc1).1
    have hheap : ((T.setVm vm').setCell (b + a1) C1).heap = H.setIfInBounds (b + a1) C1 := by rw [← hTT]; rfl
    have oq : ∀ q : Nat, q ≠ b + a1 → (H.setIfInBounds (b + a1) C1)[q]? = H[q]? := fun q hq => by simp [Array.getElem?_setIfInBounds, Ne.symm hq]
    obtain ⟨t, a2, b2⟩ := kk _ _ (hP.set hg1 (by simp) oq (show (H.setIfInBounds (b + a1) C1)[b + a1]? = some (vp_cell _ _) by rw [hC]; simp [Array.getElem?_setIfInBounds, hl])) ⟨by simp; exact hF.1, fun q g1 g2 => by
        rw [oq q (fun e => g2 (by rw [e]; exact Nat.le_add_right b a1))]
        exact hF.2.1 q g1 g2, fun q hq => by
        rcases List.mem_append.mp hq with h | h
        · exact hF.2.2 q h
        · obtain ⟨z, -, hz⟩ := List.mem_map.mp h
          rw [← hz]
          exact Nat.le_add_right b a1⟩ _ hheap X'
    exact ⟨t, step t a2, b2⟩
  · cases hk
theorem va_S.grow {A : Nat → Prop} {H0 H H1 : Heap} {locs : List Loc} (hF : va_S A H0 H locs) (hz : H.size ≤ H1.size) (ho : ∀ q, q < H.size → H1[q]? = H[q]?) : va_S A H0 H1 locs := ⟨Nat.le_trans hF.1 hz, fun x h1 h2 => (ho x (Nat.lt_of_lt_of_le h1 hF.1)).trans (hF.2.1 x h1 h2), hF.2.2⟩
theorem x_new {own : String} {w0 w1 w2 ci : Nat} (hx : p.tables.exec = Jvm.exec) (hb : c.code = cc) (hown : s.vm.findClass own = some m.cls) (hT : ∀ w ∈ lw_tbl, goodWord w = true → w.before args s = true) (hS : m_St D tc s) (hP : m_P D tc b sb h H) (hF : va_S (fun q => b ≤ q) s.heap H locs) (hn : h.length < m_scr) (hcells : cells + 1 ≤ R.cells) (hslots : slots + (m_def.getD ci []).length ≤ R.slots) (hk : k_new own cc pc nx w0 w1 w2 ci = true)
    (kk : ∀ (H1 : Heap), m_P D tc b sb (h ++ [.inl (ci, m_def.getD ci [])]) H1 → va_S (fun q => b ≤ q) s.heap H1 locs → W p l e R s m args below meth c H1 locs (cells + 1) (slots + (m_def.getD ci []).length) Q (F0 m nx la (.ref (m_ad b sb h.length) :: st))) : W p l e R s m args below meth c H locs cells slots Q (F0 m pc la st) := by
  unfold k_new at hk
  simp only [Bool.and_eq_true, decide_eq_true_eq] at hk
  obtain ⟨⟨h2, hc⟩, hk⟩ := hk
  subst h2
  have hKn := hS.1.1 ci _ (m_cl_get hc)
  have hlen : (m_def.getD ci []).length = (m_C ci).2.2 := by
    have h := List.all_eq_true.mp m_clsok_ok ci (List.mem_range.mpr hc)
    simp only [Bool.and_eq_true, decide_eq_true_eq] at h
    exact h.1
  split at hk
  · rename_i z hd
    simp only [Bool.and_eq_true] at hk
    obtain ⟨⟨c0, c1⟩, c2⟩ := hk
    rw [hlen] at kk hslots
    refine W.newcK hx hb hown (hT _ (m_in_ok c0).1 (m_in_ok c0).2) (hT _ (m_in_ok c1).1 (m_in_ok c1).2) (hT _ (m_in_ok c2).1 (m_in_ok c2).2) rfl hd hcells hslots hKn.2.1 rfl fun H1 kC hkC e1 z1 o1 => ?_
    have hq : H.size = m_ad b sb h.length := by rw [hP.1, m_ad_ne (Nat.ne_of_lt hn)]
    have hob := (u_born (m_ty ci) (m_hts hT) (m_uws hc) hKn hkC e1 (m_tyok hc))
    have key := kk H1 (hP.push z1 o1 ⟨_, m_cl_get hc, by
      rw [← hP.1]
      refine hob.to (fun k hk => ?_)
      obtain ⟨-, -, -, h4, h5, -⟩ := m_cls_ok hc hk
      rw [h4]
      have hk2 : k < (m_def.getD ci []).length := by rw [hlen]; exact hk
      have e5 : (m_def.getD ci []).getD k (.inr none) = (m_def.getD ci [])[k]'hk2 := by
        rw [List.getD_eq_getElem?_getD, List.getElem?_eq_getElem hk2]
        rfl
      have e6 : ((m_def.getD ci []).map (m_v b sb)).getD k .null = m_v b sb ((m_def.getD ci [])[k]'hk2) := by
        rw [List.getD_eq_getElem?_getD, List.getElem?_map, List.getElem?_eq_getElem hk2]
        rfl
      show m_dv _ = ((m_def.getD ci []).map (m_v b sb)).getD k .null
      rw [e6, e5]
      rw [e5] at h5
      rcases h5 with h5 | h5 <;> rw [h5] <;> rfl⟩) (hF.grow (by omega) o1)
    rw [← hq] at key
    exact key
  · cases hk
theorem x_newa {n : Int32} (hx : p.tables.exec = Jvm.exec) (hb : c.code = cc) (hT : ∀ w ∈ lw_tbl, goodWord w = true → w.before args s = true) (hS : m_St D tc s) (hP : m_P D tc b sb h H) (hF : va_S (fun q => b ≤ q) s.heap H locs) (hn : h.length < m_scr) (hn0 : ¬ n < 0) (hn1 : n.toNatClampNeg ≤ 10000) (hcells : cells + 1 ≤ R.cells) (hslots : slots + n.toNatClampNeg ≤ R.slots) (hk : k_newa cc pc nx = true)
    (kk : ∀ (H1 : Heap), m_P D tc b sb (h ++ [.inr (.inl (List.replicate n.toNatClampNeg 0))]) H1 → va_S (fun q => b ≤ q) s.heap H1 locs → W p l e R s m args below meth c H1 locs (cells + 1) (slots + n.toNatClampNeg) Q (F0 m nx la (.ref (m_ad b sb h.length) :: st))) : W p l e R s m args below meth c H locs cells slots Q (F0 m pc la (.int n :: st)) := by
  unfold k_newa at hk
  simp only [Bool.and_eq_true, decide_eq_true_eq] at hk
  obtain ⟨⟨h2, w1⟩, hk⟩ := hk
  subst h2
  split at hk
  · rename_i t hd
    have ht : newarray.typeOf t = .int := of_decide_eq_true hk
    refine va_newaK hx hb (by rw [ht]; exact hT _ (m_in_ok w1).1 (m_in_ok w1).2) rfl hd rfl hn0 rfl (by rw [ht]; show _ * 4 ≤ _; omega) hcells hslots rfl fun H1 cA e1 z1 o1 hAr hNm => ?_
    rw [ht] at e1 hNm
    have hcA : cA = tc 0 := by
      have h0 : va_RA s (tc 0) .int := (hS.1.2 0 _ rfl).2
      exact Option.some.inj (hNm.symm.trans h0)
    subst hcA
    have hq : H.size = m_ad b sb h.length := by rw [hP.1, m_ad_ne (Nat.ne_of_lt hn)]
    have key := kk H1 (hP.push z1 o1 (by
      show H1[b + h.length]? = some (vp_cell _ _)
      rw [← hP.1, e1, vp_cell_i, List.length_replicate]
      congr 2
      funext j
      rw [List.getD_eq_getElem?_getD, List.getElem?_replicate]
      split <;> rfl)) (hF.grow (by omega) o1)
    rw [← hq] at key
    exact key
  · cases hk
theorem x_newq {own : String} {w kd : Nat} {n : Int32} (hx : p.tables.exec = Jvm.exec) (hb : c.code = cc) (hown : s.vm.findClass own = some m.cls) (hT : ∀ w ∈ lw_tbl, goodWord w = true → w.before args s = true) (hS : m_St D tc s) (hP : m_P D tc b sb h H) (hF : va_S (fun q => b ≤ q) s.heap H locs) (hn : h.length < m_scr) (hn0 : ¬ n < 0) (hn1 : n.toNatClampNeg ≤ 10000) (hkd : kd = 1 ∨ kd = 2) (hcells : cells + 1 ≤ R.cells) (hslots : slots + n.toNatClampNeg ≤ R.slots) (hk : k_newq own cc pc nx w kd = true)
    (kk : ∀ (H1 : Heap), m_P D tc b sb (h ++ [.inr (.inr (kd, List.replicate n.toNatClampNeg none))]) H1 → va_S (fun q => b ≤ q) s.heap H1 locs → W p l e R s m args below meth c H1 locs (cells + 1) (slots + n.toNatClampNeg) Q (F0 m nx la (.ref (m_ad b sb h.length) :: st))) : W p l e R s m args below meth c H locs cells slots Q (F0 m pc la (.int n :: st)) := by
  unfold k_newq at hk
  simp only [Bool.and_eq_true, decide_eq_true_eq] at hk
  obtain ⟨⟨h2, w1⟩, hk⟩ := hk
  subst h2
  split at hk
  · rename_i z hd
    have hov : (Cond.arrayOver (.object (m_kn kd))).before args s = true := hS.2.2 _ (List.mem_of_getElem? w1)
    refine W.anew hx hb hown (hT _ (m_in_ok hk).1 (m_in_ok hk).2) hov rfl hd rfl hn0 (by omega) hcells hslots fun cA kA comp f1 f2 f3 f4 => ?_
    have hcA : cA = tc kd := by
      rcases hkd with rfl | rfl
      · obtain ⟨_, _, -, -, -, h0⟩ := (hS.1.2 1 _ rfl).2
        exact Option.some.inj (f1.symm.trans h0)
      · obtain ⟨_, _, -, -, -, h0⟩ := (hS.1.2 2 _ rfl).2
        exact Option.some.inj (f1.symm.trans h0)
    subst hcA
    generalize hH1 : H.push ({ cls := tc kd, slots := Array.replicate n.toNatClampNeg .null, vm := .none } : Cell) = H1
    have z1 : H1.size = H.size + 1 := by rw [← hH1, Array.size_push]
    have e1 : H1[H.size]? = some (arrV (tc kd) n.toNatClampNeg (fun _ => .null)) := by rw [← hH1, Array.getElem?_push_size, ← arrV_new]
    have o1 : ∀ q : Nat, q < H.size → H1[q]? = H[q]? := fun q hq => by rw [← hH1, Array.getElem?_push, if_neg (Nat.ne_of_lt hq)]
    have hq : H.size = m_ad b sb h.length := by rw [hP.1, m_ad_ne (Nat.ne_of_lt hn)]
    have key := kk H1 (hP.push z1 o1 (by
      show H1[b + h.length]? = some (vp_cell _ _)
      rw [← hP.1, e1, vp_cell_q, List.length_replicate]
      congr 2
      funext j
      rw [List.getD_eq_getElem?_getD, List.getElem?_replicate]
      split <;> rfl)) (hF.grow (by omega) o1)
    rw [← hq] at key
    exact key
  · cases hk
theorem m_innerI (cy : ClassId) (q : Nat) : Jvm.Free.Multi.innerC cy q (defaultValue .int) = vp_cell cy ((List.replicate q (0 : Int32)).length, .inl (fun j => (List.replicate q (0 : Int32)).getD j 0)) := by
  rw [vp_cell_i, List.length_replicate]
  show ({ cls := cy, slots := Array.replicate q (.int 0), vm := .none } : Cell) = _
  rw [arrV_new]
  congr 1
  funext j
  rw [List.getD_eq_getElem?_getD, List.getElem?_replicate]
  split <;> rfl
theorem m_outerI (cA : ClassId) (N h0 : Nat) : ∀ i : Nat, Jvm.Free.Multi.outerC cA N h0 i = arrV cA N (fun j => va_rf (if j < i then some (h0 + 1 + j) else none))
  | 0 => by
    show ({ cls := cA, slots := Array.replicate N .null, vm := .none } : Cell) = _
    rw [arrV_new]
    refine congrArg (arrV cA N) (funext fun j => ?_)
    simp [va_rf]
  | i + 1 => by
    show (Jvm.Free.Multi.outerC cA N h0 i).setSlot i (.ref (h0 + 1 + i)) = _
    rw [m_outerI cA N h0 i, arrV_store]
    refine congrArg (arrV cA N) (funext fun j => ?_)
    by_cases e : j = i
    · subst e
      simp [updV, va_rf]
    · by_cases h : j < i
      · simp [updV, e, h, Nat.lt_succ_of_lt h]
      · simp [updV, e, h, show ¬ j < i + 1 by omega]
theorem x_multi {own : String} {w : Nat} {n q : Int32} (hx : p.tables.exec = Jvm.exec) (hb : c.code = cc) (hown : s.vm.findClass own = some m.cls) (hT : ∀ w ∈ lw_tbl, goodWord w = true → w.before args s = true) (hS : m_St D tc s) (hP : m_P D tc b sb h H) (hF : va_S (fun q => b ≤ q) s.heap H locs) (hn : h.length + 1 + n.toNatClampNeg < m_scr) (hn0 : ¬ n < 0) (hq0 : ¬ q < 0) (hn1 : n.toNatClampNeg ≤ 10000) (hq1 : q.toNatClampNeg ≤ 10000) (hcells : cells + (1 + n.toNatClampNeg) ≤ R.cells) (hslots : slots + (n.toNatClampNeg + n.toNatClampNeg * q.toNatClampNeg) ≤ R.slots) (hk : k_multi own cc pc nx w = true)
    (kk : ∀ (H1 : Heap), m_P D tc b sb (h ++ (.inr (.inr (3, (List.range n.toNatClampNeg).map fun i => some (h.length + 1 + i))) :: List.replicate n.toNatClampNeg (.inr (.inl (List.replicate q.toNatClampNeg 0))))) H1 → va_S (fun q => b ≤ q) s.heap H1 locs → W p l e R s m args below meth c H1 locs (cells + 1 + n.toNatClampNeg) (slots + n.toNatClampNeg + n.toNatClampNeg * q.toNatClampNeg) Q (F0 m nx la (.ref (m_ad b sb h.length) :: st))) : W p l e R s m args below meth c H locs cells slots Q (F0 m pc la (.int q :: .int n :: st)) := by
  unfold k_multi at hk
  simp only [Bool.and_eq_true, decide_eq_true_eq] at hk
  obtain ⟨⟨⟨h2, w1⟩, w2⟩, hk⟩ := hk
  subst h2
  split at hk
  · rename_i z hd
    have hov : (Cond.arrayOver (.array .int)).before args s = true := hS.2.2 _ (List.mem_of_getElem? w2)
    intro T hTT Xs
    obtain ⟨vm₁, cA, comp, -, fA, fC, hO, -, X', step⟩ := Xs.multianewarray2F (ty := .int) hx hown (hT _ (m_in_ok hk).1 (m_in_ok hk).2) hov (hT _ (m_in_ok w1).1 (m_in_ok w1).2) (g := F0 m pc la (.int q :: .int n :: st)) rfl (by rw [hb]; exact hd) rfl hn0 hq0 (by omega) (by show _ * 4 ≤ _; omega) (by omega) rfl rfl hcells hslots
    have hcA : cA = tc 3 := by
      have h0 : va_RA s (tc 3) (.array .int) := (hS.1.2 3 _ rfl).2
      exact Option.some.inj (fA.symm.trans h0)
    have hcy : comp = tc 0 := by
      have h0 : va_RA s (tc 0) .int := (hS.1.2 0 _ rfl).2
      exact Option.some.inj (fC.symm.trans h0)
    subst hcA
    subst hcy
    generalize hFF : Jvm.Free.Multi.fill (T.setVm vm₁) (tc 3) (tc 0) n.toNatClampNeg q.toNatClampNeg (defaultValue .int) n.toNatClampNeg = F at X' step
    have hTh : (T.setVm vm₁).heap = H := hTT
    obtain ⟨f1, f2, -, -⟩ := Jvm.Free.Multi.fill_facts (T.setVm vm₁) (tc 3) (tc 0) n.toNatClampNeg q.toNatClampNeg (defaultValue .int) n.toNatClampNeg
    rw [hFF, hTh] at f1 f2
    have hold : ∀ x : Nat, x < H.size → F.heap[x]? = H[x]? := fun x hx => by
      have := Jvm.Free.Multi.fill_old (T.setVm vm₁) (tc 3) (tc 0) n.toNatClampNeg q.toNatClampNeg (defaultValue .int) (a := x) (by rw [hTh]; exact hx) n.toNatClampNeg
      rw [hFF, hTh] at this
      exact this
    have hrow : ∀ j : Nat, j < n.toNatClampNeg → F.heap[H.size + 1 + j]? = some (Jvm.Free.Multi.innerC (tc 0) q.toNatClampNeg (defaultValue .int)) := fun j hj => by
      have := Jvm.Free.Multi.fill_inner (T.setVm vm₁) (tc 3) (tc 0) n.toNatClampNeg q.toNatClampNeg (defaultValue .int) n.toNatClampNeg j hj
      rw [hFF, hTh] at this
      exact this
    have hq : H.size = m_ad b sb h.length := by rw [hP.1, m_ad_ne (by omega)]
    obtain ⟨t, a1, b1⟩ := kk F.heap ⟨by rw [f1, hP.1, List.length_append, List.length_cons, List.length_replicate]; omega, fun k x hx => by
      by_cases hl : k < h.length
      · rw [List.getElem?_append_left hl] at hx
        exact (hP.2 k x hx).kept (hold _ (by show b + k < H.size; rw [hP.1]; omega))
      · rw [List.getElem?_append_right (by omega)] at hx
        by_cases h0 : k = h.length
        · subst h0
          rw [Nat.sub_self] at hx
          cases hx
          show F.heap[b + h.length]? = some (vp_cell _ _)
          rw [← hP.1, f2, m_outerI, vp_cell_q, List.length_map, List.length_range]
          refine congrArg some (congrArg (fun (f : Fin n.toNatClampNeg → Value) => ({ cls := tc 3, slots := Array.ofFn f, vm := .none } : Cell)) (funext fun j => ?_))
          show va_rf (if j.val < _ then _ else _) = va_rf _
          rw [if_pos j.isLt, List.getD_eq_getElem?_getD, List.getElem?_map, List.getElem?_range j.isLt]
          show va_rf (some _) = va_rf (some (m_ad b sb _))
          rw [m_ad_ne (by have := j.isLt; omega), hP.1]
          congr 2
          omega
        · rw [show k - h.length = (k - h.length - 1) + 1 by omega, List.getElem?_cons_succ, List.getElem?_replicate] at hx
          split at hx
          · rename_i hlt
            cases hx
            show F.heap[b + k]? = some (vp_cell _ _)
            rw [show b + k = H.size + 1 + (k - h.length - 1) by rw [hP.1]; omega, hrow _ hlt, m_innerI]
          · cases hx⟩ (hF.grow (by rw [f1]; omega) hold) F rfl X'
    refine ⟨t, step t ?_, b1⟩
    have e : T.heap.size = m_ad b sb h.length := by rw [hTT]; exact hq
    rw [e]
    exact a1
  · cases hk
theorem x_oin {own : String} {w a : Nat} (hx : p.tables.exec = Jvm.exec) (hb : c.code = cc) (hml : la.size = c.maxLocals) (hown : s.vm.findClass own = some m.cls) (hT : ∀ w ∈ lw_tbl, goodWord w = true → w.before args s = true) (hfr : 1 ≤ R.frames) (hlo : (st.map fun v => v.category).sum + 12 ≤ R.locals) (hk : k_oin own cc pc nx w = true)
    (kk : W p l e R s m args below meth c H locs cells slots Q (F0 m nx la st)) : W p l e R s m args below meth c H locs cells slots Q (F0 m pc la (.ref a :: st)) := by
  unfold k_oin at hk
  simp only [Bool.and_eq_true, decide_eq_true_eq] at hk
  obtain ⟨⟨⟨h2, w1⟩, w2⟩, hk⟩ := hk
  subst h2
  split at hk
  · rename_i z hd
    exact W.objInit hx hb hown (hT _ (m_in_ok hk).1 (m_in_ok hk).2) (hT _ (m_in_ok w1).1 (m_in_ok w1).2) (hT _ (m_in_ok w2).1 (m_in_ok w2).2) rfl hml rfl hd hfr (by show 2 * 0 + _ + 12 ≤ _; omega) kk
  · cases hk
theorem x_max {own : String} {w : Nat} {x y : Int32} (hx : p.tables.exec = Jvm.exec) (hb : c.code = cc) (hml : c.maxLocals = la.size) (hown : s.vm.findClass own = some m.cls) (hT : ∀ w ∈ lw_tbl, goodWord w = true → w.before args s = true) (hfr : 1 ≤ R.frames) (hlo : (st.map fun v => v.category).sum + 13 ≤ R.locals) (hcl : cells ≤ R.cells) (hsl : slots ≤ R.slots) (hk : k_max own cc pc nx w = true)
    (kk : W p l e R s m args below meth c H locs cells slots Q (F0 m nx la (.int (if x < y then y else x) :: st))) : W p l e R s m args below meth c H locs cells slots Q (F0 m pc la (.int y :: .int x :: st)) := by
  unfold k_max at hk
  simp only [Bool.and_eq_true, decide_eq_true_eq] at hk
  obtain ⟨⟨⟨⟨h2, w1⟩, w2⟩, w3⟩, hk⟩ := hk
  subst h2
  split at hk
  · rename_i z hd
    exact va_mmax hx hb hml hown (hT _ (m_in_ok hk).1 (m_in_ok hk).2) (hT _ (m_in_ok w1).1 (m_in_ok w1).2) (hT _ (m_in_ok w2).1 (m_in_ok w2).2) (hT _ (m_in_ok w3).1 (m_in_ok w3).2) hfr hlo hcl hsl hd kk
  · cases hk
theorem x_min {own : String} {w : Nat} {x y : Int32} (hx : p.tables.exec = Jvm.exec) (hb : c.code = cc) (hml : c.maxLocals = la.size) (hown : s.vm.findClass own = some m.cls) (hT : ∀ w ∈ lw_tbl, goodWord w = true → w.before args s = true) (hfr : 1 ≤ R.frames) (hlo : (st.map fun v => v.category).sum + 13 ≤ R.locals) (hcl : cells ≤ R.cells) (hsl : slots ≤ R.slots) (hk : k_min own cc pc nx w = true)
    (kk : W p l e R s m args below meth c H locs cells slots Q (F0 m nx la (.int (if y < x then y else x) :: st))) : W p l e R s m args below meth c H locs cells slots Q (F0 m pc la (.int y :: .int x :: st)) := by
  unfold k_min at hk
  simp only [Bool.and_eq_true, decide_eq_true_eq] at hk
  obtain ⟨⟨⟨⟨h2, w1⟩, w2⟩, w3⟩, hk⟩ := hk
  subst h2
  split at hk
  · rename_i z hd
    exact va_mmin hx hb hml hown (hT _ (m_in_ok hk).1 (m_in_ok hk).2) (hT _ (m_in_ok w1).1 (m_in_ok w1).2) (hT _ (m_in_ok w2).1 (m_in_ok w2).2) (hT _ (m_in_ok w3).1 (m_in_ok w3).2) hfr hlo hcl hsl hd kk
  · cases hk
end MR3
end
section
/-! the step of the small machine is a step of the real one -/
def m_csz (e : MC) : Nat := match e with
  | .inl o => o.2.length
  | .inr (.inl q) => q.length
  | .inr (.inr q) => q.2.length
def m_hsz (h : MH) : Nat := (h.map m_csz).sum
theorem m_hsz_app (h g : MH) : m_hsz (h ++ g) = m_hsz h + m_hsz g := by simp [m_hsz]
theorem m_hsz_set : ∀ (h : MH) (a : Nat) (e e' : MC), h[a]? = some e → m_csz e' = m_csz e → m_hsz (h.set a e') = m_hsz h
  | [], a, e, e', h1, _ => by simp at h1
  | x :: r, 0, e, e', h1, h2 => by
    simp only [List.getElem?_cons_zero, Option.some.injEq] at h1
    subst h1
    simp [m_hsz, h2]
  | x :: r, a + 1, e, e', h1, h2 => by
    simp only [List.getElem?_cons_succ] at h1
    have := m_hsz_set r a e e' h1 h2
    simp only [m_hsz, List.set_cons_succ, List.map_cons, List.sum_cons] at this ⊢
    omega
theorem m_nx_inj {k : Nat} {ls : ML} {st : List MV} {h : MH} {q : MS} (e : m_nx k ls st h = .inl (.inl q)) : q = (k + 1, ls, st, h) := (Sum.inl.inj (Sum.inl.inj e)).symm
theorem m_nx_call {k : Nat} {ls : ML} {st : List MV} {h : MH} {q : Nat × List MV × List MV} (e : m_nx k ls st h = .inl (.inr q)) : False := by
  unfold m_nx at e
  cases e
theorem m_bad_ne {q : MS ⊕ (Nat × List MV × List MV)} (e : m_bad = .inl q) : False := by
  unfold m_bad at e
  cases e
def m_At (p : Program) (R : Room) (s : State) (m : MethodId) (args : Array Value) (meth : Method) (c : Code) (S : Nat × (Nat → Int32)) (D : va_G) (tc : Nat → ClassId) (b sb y d : Nat) : Prop :=
  p.tables.exec = Jvm.exec ∧ c.code = m_bs y ∧ c.maxLocals = m_mL y ∧ s.vm.findClass (m_y y).cls = some m.cls ∧ (∀ w ∈ lw_tbl, goodWord w = true → w.before args s = true) ∧ meth.name = (m_y y).name ∧ m_St D tc s ∧ (va_X sb S.1 S.2 s s.heap ∧ sb < b ∧ b ≤ s.heap.size) ∧ (d ≤ R.frames ∧ 64 * d ≤ R.locals)
def m_K (p : Program) (l : Launch) (e : Env) (R : Room) (s : State) (m : MethodId) (args : Array Value) (below : List Frame) (meth : Method) (c : Code) (Q : State → Prop) (D : va_G) (tc : Nat → ClassId) (b sb y : Nat) (h : MH) (cells slots : Nat) (q : MS) : Prop :=
  ∀ (H1 : Heap) (locs1 : List Loc) (la1 : Array Slot) (cells1 slots1 : Nat), m_P D tc b sb q.2.2.2 H1 → va_S (fun x => b ≤ x) s.heap H1 locs1 → m_L b sb (m_mL y) q.2.1 la1 → cells1 + h.length = cells + q.2.2.2.length → slots1 + m_hsz h = slots + m_hsz q.2.2.2 → W p l e R s m args below meth c H1 locs1 cells1 slots1 Q (F0 m (m_pc y q.1) la1 (q.2.2.1.map (m_v b sb)))
section MO
variable {p : Program} {l : Launch} {e : Env} {R : Room} {s : State} {m : MethodId} {args : Array Value} {below : List Frame} {meth : Method} {c : Code} {H : Heap} {locs : List Loc} {cells slots : Nat} {Q : State → Prop}
variable {la : Array Slot} {b sb y d k : Nat} {D : va_G} {tc : Nat → ClassId} {h : MH} {st : List MV} {ls : ML} {S : Nat × (Nat → Int32)} {q : MS}
theorem o_push {v : Int32} {w : Nat} (C : m_At p R s m args meth c S D tc b sb y d) (hP : m_P D tc b sb h H) (hF : va_S (fun x => b ≤ x) s.heap H locs) (hL : m_L b sb (m_mL y) ls la) (kk : m_K p l e R s m args below meth c Q D tc b sb y h cells slots q) (hst : m_nx k ls (.inl v :: st) h = .inl (.inl q)) (hk : k_push (m_y y).cls (m_bs y) (m_pc y k) (m_pc y (k + 1)) w v = true) : W p l e R s m args below meth c H locs cells slots Q (F0 m (m_pc y k) la (st.map (m_v b sb))) := by
  obtain ⟨hx, hb, hml, hown, hT, hnm, hS, hX, hR⟩ := C
  obtain rfl := m_nx_inj hst
  exact x_push hx hb hown hT hk (kk H locs la cells slots hP hF hL rfl rfl)
theorem o_load {a : Nat} {f : Int32} (C : m_At p R s m args meth c S D tc b sb y d) (hP : m_P D tc b sb h H) (hF : va_S (fun x => b ≤ x) s.heap H locs) (hL : m_L b sb (m_mL y) ls la) (kk : m_K p l e R s m args below meth c Q D tc b sb y h cells slots q) (hst : s_load a f k ls st h = .inl (.inl q)) (hk : k_load (m_bs y) (m_pc y k) (m_pc y (k + 1)) a f = true) : W p l e R s m args below meth c H locs cells slots Q (F0 m (m_pc y k) la (st.map (m_v b sb))) := by
  obtain ⟨hx, hb, hml, hown, hT, hnm, hS, hX, hR⟩ := C
  unfold s_load at hst
  split at hst
  · rename_i v hv
    split at hst
    · rename_i hm
      obtain rfl := m_nx_inj hst
      exact x_load hx hb hL hv hm hk (kk H locs la cells slots hP hF hL rfl rfl)
    · exact (m_bad_ne hst).elim
  · exact (m_bad_ne hst).elim
theorem o_store {a : Nat} {f : Int32} (C : m_At p R s m args meth c S D tc b sb y d) (hP : m_P D tc b sb h H) (hF : va_S (fun x => b ≤ x) s.heap H locs) (hL : m_L b sb (m_mL y) ls la) (kk : m_K p l e R s m args below meth c Q D tc b sb y h cells slots q) (hst : s_store a f k ls st h = .inl (.inl q)) (hk : k_store (m_bs y) (m_pc y k) (m_pc y (k + 1)) a f = true) : W p l e R s m args below meth c H locs cells slots Q (F0 m (m_pc y k) la (st.map (m_v b sb))) := by
  obtain ⟨hx, hb, hml, hown, hT, hnm, hS, hX, hR⟩ := C
  unfold s_store at hst
  split at hst
  · split at hst
    · rename_i hm
      obtain rfl := m_nx_inj hst
      exact x_store hx hb hL hm.1 hm.2 hk (fun la' hL' => kk H locs la' cells slots hP hF hL' rfl rfl)
    · exact (m_bad_ne hst).elim
  · exact (m_bad_ne hst).elim
theorem o_iinc {a : Nat} {v : Int32} (C : m_At p R s m args meth c S D tc b sb y d) (hP : m_P D tc b sb h H) (hF : va_S (fun x => b ≤ x) s.heap H locs) (hL : m_L b sb (m_mL y) ls la) (kk : m_K p l e R s m args below meth c Q D tc b sb y h cells slots q) (hst : s_iinc a v k ls st h = .inl (.inl q)) (hk : k_iinc (m_bs y) (m_pc y k) (m_pc y (k + 1)) a v = true) : W p l e R s m args below meth c H locs cells slots Q (F0 m (m_pc y k) la (st.map (m_v b sb))) := by
  obtain ⟨hx, hb, hml, hown, hT, hnm, hS, hX, hR⟩ := C
  unfold s_iinc at hst
  split at hst
  · rename_i x hv
    obtain rfl := m_nx_inj hst
    exact x_iinc hx hb hL hv hk (fun la' hL' => kk H locs la' cells slots hP hF hL' rfl rfl)
  · exact (m_bad_ne hst).elim
theorem o_bin {w : Nat} (C : m_At p R s m args meth c S D tc b sb y d) (hP : m_P D tc b sb h H) (hF : va_S (fun x => b ≤ x) s.heap H locs) (hL : m_L b sb (m_mL y) ls la) (kk : m_K p l e R s m args below meth c Q D tc b sb y h cells slots q) (hst : s_bin w k ls st h = .inl (.inl q)) (hk : k_bin (m_bs y) (m_pc y k) (m_pc y (k + 1)) w = true) : W p l e R s m args below meth c H locs cells slots Q (F0 m (m_pc y k) la (st.map (m_v b sb))) := by
  obtain ⟨hx, hb, hml, hown, hT, hnm, hS, hX, hR⟩ := C
  unfold s_bin at hst
  split at hst
  · obtain rfl := m_nx_inj hst
    exact x_bin hx hb hk (kk H locs la cells slots hP hF hL rfl rfl)
  · exact (m_bad_ne hst).elim
theorem o_un {w : Nat} (C : m_At p R s m args meth c S D tc b sb y d) (hP : m_P D tc b sb h H) (hF : va_S (fun x => b ≤ x) s.heap H locs) (hL : m_L b sb (m_mL y) ls la) (kk : m_K p l e R s m args below meth c Q D tc b sb y h cells slots q) (hst : s_un w k ls st h = .inl (.inl q)) (hk : k_un (m_bs y) (m_pc y k) (m_pc y (k + 1)) w = true) : W p l e R s m args below meth c H locs cells slots Q (F0 m (m_pc y k) la (st.map (m_v b sb))) := by
  obtain ⟨hx, hb, hml, hown, hT, hnm, hS, hX, hR⟩ := C
  unfold s_un at hst
  split at hst
  · obtain rfl := m_nx_inj hst
    exact x_un hx hb hk (kk H locs la cells slots hP hF hL rfl rfl)
  · exact (m_bad_ne hst).elim
theorem o_dup (C : m_At p R s m args meth c S D tc b sb y d) (hP : m_P D tc b sb h H) (hF : va_S (fun x => b ≤ x) s.heap H locs) (hL : m_L b sb (m_mL y) ls la) (kk : m_K p l e R s m args below meth c Q D tc b sb y h cells slots q) (hst : s_dup k ls st h = .inl (.inl q)) (hk : k_one (m_bs y) (m_pc y k) (m_pc y (k + 1)) .dup = true) : W p l e R s m args below meth c H locs cells slots Q (F0 m (m_pc y k) la (st.map (m_v b sb))) := by
  obtain ⟨hx, hb, hml, hown, hT, hnm, hS, hX, hR⟩ := C
  obtain ⟨hd, hn⟩ := k_one_ok hk
  unfold s_dup at hst
  split at hst
  · obtain rfl := m_nx_inj hst
    have key := kk H locs la cells slots hP hF hL rfl rfl
    rw [hn] at key
    exact lv_dup hx hb hd (m_v_cat b sb _) key
  · exact (m_bad_ne hst).elim
theorem o_dup2 (C : m_At p R s m args meth c S D tc b sb y d) (hP : m_P D tc b sb h H) (hF : va_S (fun x => b ≤ x) s.heap H locs) (hL : m_L b sb (m_mL y) ls la) (kk : m_K p l e R s m args below meth c Q D tc b sb y h cells slots q) (hst : s_dup2 k ls st h = .inl (.inl q)) (hk : k_one (m_bs y) (m_pc y k) (m_pc y (k + 1)) .dup2 = true) : W p l e R s m args below meth c H locs cells slots Q (F0 m (m_pc y k) la (st.map (m_v b sb))) := by
  obtain ⟨hx, hb, hml, hown, hT, hnm, hS, hX, hR⟩ := C
  obtain ⟨hd, hn⟩ := k_one_ok hk
  unfold s_dup2 at hst
  split at hst
  · obtain rfl := m_nx_inj hst
    have key := kk H locs la cells slots hP hF hL rfl rfl
    rw [hn] at key
    exact lv_dup2_11 hx hb hd (m_v_cat b sb _) (m_v_cat b sb _) key
  · exact (m_bad_ne hst).elim
theorem o_pop (C : m_At p R s m args meth c S D tc b sb y d) (hP : m_P D tc b sb h H) (hF : va_S (fun x => b ≤ x) s.heap H locs) (hL : m_L b sb (m_mL y) ls la) (kk : m_K p l e R s m args below meth c Q D tc b sb y h cells slots q) (hst : s_pop k ls st h = .inl (.inl q)) (hk : k_one (m_bs y) (m_pc y k) (m_pc y (k + 1)) .pop = true) : W p l e R s m args below meth c H locs cells slots Q (F0 m (m_pc y k) la (st.map (m_v b sb))) := by
  obtain ⟨hx, hb, hml, hown, hT, hnm, hS, hX, hR⟩ := C
  obtain ⟨hd, hn⟩ := k_one_ok hk
  unfold s_pop at hst
  split at hst
  · obtain rfl := m_nx_inj hst
    have key := kk H locs la cells slots hP hF hL rfl rfl
    rw [hn] at key
    exact lv_pop hx hb hd (m_v_cat b sb _) key
  · exact (m_bad_ne hst).elim
theorem o_if {w t : Nat} (C : m_At p R s m args meth c S D tc b sb y d) (hP : m_P D tc b sb h H) (hF : va_S (fun x => b ≤ x) s.heap H locs) (hL : m_L b sb (m_mL y) ls la) (kk : m_K p l e R s m args below meth c Q D tc b sb y h cells slots q) (hst : s_if w t k ls st h = .inl (.inl q)) (hk : k_if (m_bs y) (m_pc y k) (m_pc y (k + 1)) w (m_pc y t) = true) : W p l e R s m args below meth c H locs cells slots Q (F0 m (m_pc y k) la (st.map (m_v b sb))) := by
  obtain ⟨hx, hb, hml, hown, hT, hnm, hS, hX, hR⟩ := C
  unfold s_if at hst
  split at hst
  · obtain rfl := (Sum.inl.inj (Sum.inl.inj hst)).symm
    have key := kk H locs la cells slots hP hF hL rfl rfl
    refine x_if hx hb hk (fun z => ?_) (fun z => ?_)
    · simp only [z, if_true] at key
      exact key
    · simp only [z, if_false] at key
      exact key
  · exact (m_bad_ne hst).elim
theorem o_icmp {w t : Nat} (C : m_At p R s m args meth c S D tc b sb y d) (hP : m_P D tc b sb h H) (hF : va_S (fun x => b ≤ x) s.heap H locs) (hL : m_L b sb (m_mL y) ls la) (kk : m_K p l e R s m args below meth c Q D tc b sb y h cells slots q) (hst : s_icmp w t k ls st h = .inl (.inl q)) (hk : k_icmp (m_bs y) (m_pc y k) (m_pc y (k + 1)) w (m_pc y t) = true) : W p l e R s m args below meth c H locs cells slots Q (F0 m (m_pc y k) la (st.map (m_v b sb))) := by
  obtain ⟨hx, hb, hml, hown, hT, hnm, hS, hX, hR⟩ := C
  unfold s_icmp at hst
  split at hst
  · obtain rfl := (Sum.inl.inj (Sum.inl.inj hst)).symm
    have key := kk H locs la cells slots hP hF hL rfl rfl
    refine x_icmp hx hb hk (fun z => ?_) (fun z => ?_)
    · simp only [z, if_true] at key
      exact key
    · simp only [z, if_false] at key
      exact key
  · exact (m_bad_ne hst).elim
theorem o_goto {t : Nat} (C : m_At p R s m args meth c S D tc b sb y d) (hP : m_P D tc b sb h H) (hF : va_S (fun x => b ≤ x) s.heap H locs) (hL : m_L b sb (m_mL y) ls la) (kk : m_K p l e R s m args below meth c Q D tc b sb y h cells slots q) (hst : (.inl (.inl (t, ls, st, h)) : MR) = .inl (.inl q)) (hk : k_goto (m_bs y) (m_pc y k) (m_pc y t) = true) : W p l e R s m args below meth c H locs cells slots Q (F0 m (m_pc y k) la (st.map (m_v b sb))) := by
  obtain ⟨hx, hb, hml, hown, hT, hnm, hS, hX, hR⟩ := C
  obtain rfl := (Sum.inl.inj (Sum.inl.inj hst)).symm
  exact x_goto hx hb hk (kk H locs la cells slots hP hF hL rfl rfl)
theorem o_switch {dd : Nat} {lo : Int32} {ts : List Nat} (C : m_At p R s m args meth c S D tc b sb y d) (hP : m_P D tc b sb h H) (hF : va_S (fun x => b ≤ x) s.heap H locs) (hL : m_L b sb (m_mL y) ls la) (kk : m_K p l e R s m args below meth c Q D tc b sb y h cells slots q) (hst : s_switch dd lo ts ls st h = .inl (.inl q)) (hk : k_switch (m_bs y) (m_pc y k) (m_pc y) dd lo ts = true) : W p l e R s m args below meth c H locs cells slots Q (F0 m (m_pc y k) la (st.map (m_v b sb))) := by
  obtain ⟨hx, hb, hml, hown, hT, hnm, hS, hX, hR⟩ := C
  unfold s_switch at hst
  split at hst
  · obtain rfl := (Sum.inl.inj (Sum.inl.inj hst)).symm
    exact x_switch hx hb hk (kk H locs la cells slots hP hF hL rfl rfl)
  · exact (m_bad_ne hst).elim
theorem o_getf {w fl ci j : Nat} (C : m_At p R s m args meth c S D tc b sb y d) (hP : m_P D tc b sb h H) (hF : va_S (fun x => b ≤ x) s.heap H locs) (hL : m_L b sb (m_mL y) ls la) (kk : m_K p l e R s m args below meth c Q D tc b sb y h cells slots q) (hst : s_getf ci j k ls st h = .inl (.inl q)) (hk : k_getf (m_y y).cls (m_bs y) (m_pc y k) (m_pc y (k + 1)) w fl ci j = true) : W p l e R s m args below meth c H locs cells slots Q (F0 m (m_pc y k) la (st.map (m_v b sb))) := by
  obtain ⟨hx, hb, hml, hown, hT, hnm, hS, hX, hR⟩ := C
  unfold s_getf at hst
  split at hst
  · split at hst
    · rename_i ci' fs ha
      split at hst
      · rename_i hc
        subst hc
        split at hst
        · rename_i v hv
          obtain rfl := m_nx_inj hst
          exact x_getf hx hb hown hT hS hP ha hv hk (kk H locs la cells slots hP hF hL rfl rfl)
        · exact (m_bad_ne hst).elim
      · exact (m_bad_ne hst).elim
    · exact (m_bad_ne hst).elim
  · exact (m_bad_ne hst).elim
theorem o_putf {w ci j : Nat} {f : Int32} (C : m_At p R s m args meth c S D tc b sb y d) (hP : m_P D tc b sb h H) (hF : va_S (fun x => b ≤ x) s.heap H locs) (hL : m_L b sb (m_mL y) ls la) (kk : m_K p l e R s m args below meth c Q D tc b sb y h cells slots q) (hst : s_putf ci j f k ls st h = .inl (.inl q)) (hk : k_putf (m_y y).cls (m_y y).name (m_bs y) (m_pc y k) (m_pc y (k + 1)) w ci j f = true) : W p l e R s m args below meth c H locs cells slots Q (F0 m (m_pc y k) la (st.map (m_v b sb))) := by
  obtain ⟨hx, hb, hml, hown, hT, hnm, hS, hX, hR⟩ := C
  unfold s_putf at hst
  split at hst
  · split at hst
    · rename_i ci' fs ha
      split at hst
      · rename_i hc
        obtain ⟨hc1, hc2, hc3⟩ := hc
        subst hc1
        obtain rfl := m_nx_inj hst
        rw [← hnm] at hk
        exact x_putf hx hb hown hT hS hP hF ha hc2 hc3 hk (fun H1 locs1 hP1 hF1 => kk H1 locs1 la cells slots hP1 hF1 hL (by simp) (by rw [m_hsz_set h _ _ _ (m_cell_some ha).2 (by simp [m_csz])]))
      · exact (m_bad_ne hst).elim
    · exact (m_bad_ne hst).elim
  · exact (m_bad_ne hst).elim
theorem o_iald (C : m_At p R s m args meth c S D tc b sb y d) (hP : m_P D tc b sb h H) (hF : va_S (fun x => b ≤ x) s.heap H locs) (hL : m_L b sb (m_mL y) ls la) (kk : m_K p l e R s m args below meth c Q D tc b sb y h cells slots q) (hst : s_iald S k ls st h = .inl (.inl q)) (hk : k_one (m_bs y) (m_pc y k) (m_pc y (k + 1)) .iaload = true) : W p l e R s m args below meth c H locs cells slots Q (F0 m (m_pc y k) la (st.map (m_v b sb))) := by
  obtain ⟨hx, hb, hml, hown, hT, hnm, hS, hX, hR⟩ := C
  unfold s_iald at hst
  split at hst
  · split at hst
    · exact (m_bad_ne hst).elim
    · rename_i hi
      split at hst
      · rename_i ha
        subst ha
        split at hst
        · rename_i hlt
          obtain rfl := m_nx_inj hst
          exact x_scr hx hb hX.1 hX.2.1 hX.2.2 hF hi hlt hk (kk H locs la cells slots hP hF hL rfl rfl)
        · exact (m_bad_ne hst).elim
      · rename_i hne
        split at hst
        · rename_i li ha
          split at hst
          · rename_i x hv
            obtain rfl := m_nx_inj hst
            exact x_iald hx hb hS hP hne ha hi hv hk (kk H locs la cells slots hP hF hL rfl rfl)
          · exact (m_bad_ne hst).elim
        · exact (m_bad_ne hst).elim
  · exact (m_bad_ne hst).elim
theorem o_iast (C : m_At p R s m args meth c S D tc b sb y d) (hP : m_P D tc b sb h H) (hF : va_S (fun x => b ≤ x) s.heap H locs) (hL : m_L b sb (m_mL y) ls la) (kk : m_K p l e R s m args below meth c Q D tc b sb y h cells slots q) (hst : s_iast k ls st h = .inl (.inl q)) (hk : k_one (m_bs y) (m_pc y k) (m_pc y (k + 1)) .iastore = true) : W p l e R s m args below meth c H locs cells slots Q (F0 m (m_pc y k) la (st.map (m_v b sb))) := by
  obtain ⟨hx, hb, hml, hown, hT, hnm, hS, hX, hR⟩ := C
  unfold s_iast at hst
  split at hst
  · split at hst
    · rename_i li ha
      split at hst
      · rename_i hc
        obtain rfl := m_nx_inj hst
        exact x_iast hx hb hS hP hF ha hc.1 hc.2 hk (fun H1 locs1 hP1 hF1 => kk H1 locs1 la cells slots hP1 hF1 hL (by simp) (by rw [m_hsz_set h _ _ _ (m_cell_some ha).2 (by simp [m_csz])]))
      · exact (m_bad_ne hst).elim
    · exact (m_bad_ne hst).elim
  · exact (m_bad_ne hst).elim
theorem o_aald (C : m_At p R s m args meth c S D tc b sb y d) (hP : m_P D tc b sb h H) (hF : va_S (fun x => b ≤ x) s.heap H locs) (hL : m_L b sb (m_mL y) ls la) (kk : m_K p l e R s m args below meth c Q D tc b sb y h cells slots q) (hst : s_aald k ls st h = .inl (.inl q)) (hk : k_one (m_bs y) (m_pc y k) (m_pc y (k + 1)) .aaload = true) : W p l e R s m args below meth c H locs cells slots Q (F0 m (m_pc y k) la (st.map (m_v b sb))) := by
  obtain ⟨hx, hb, hml, hown, hT, hnm, hS, hX, hR⟩ := C
  unfold s_aald at hst
  split at hst
  · split at hst
    · exact (m_bad_ne hst).elim
    · rename_i hi
      split at hst
      · rename_i kd li ha
        split at hst
        · rename_i hkd
          split at hst
          · rename_i x hv
            obtain rfl := m_nx_inj hst
            exact x_aald hx hb hS hP ha hkd hi hv hk (kk H locs la cells slots hP hF hL rfl rfl)
          · exact (m_bad_ne hst).elim
        · exact (m_bad_ne hst).elim
      · exact (m_bad_ne hst).elim
  · exact (m_bad_ne hst).elim
theorem o_aast (C : m_At p R s m args meth c S D tc b sb y d) (hP : m_P D tc b sb h H) (hF : va_S (fun x => b ≤ x) s.heap H locs) (hL : m_L b sb (m_mL y) ls la) (kk : m_K p l e R s m args below meth c Q D tc b sb y h cells slots q) (hst : s_aast k ls st h = .inl (.inl q)) (hk : k_one (m_bs y) (m_pc y k) (m_pc y (k + 1)) .aastore = true) : W p l e R s m args below meth c H locs cells slots Q (F0 m (m_pc y k) la (st.map (m_v b sb))) := by
  obtain ⟨hx, hb, hml, hown, hT, hnm, hS, hX, hR⟩ := C
  unfold s_aast at hst
  split at hst
  · split at hst
    · rename_i kd li ci fs ha hv
      split at hst
      · rename_i hc
        obtain rfl := m_nx_inj hst
        exact x_aast hx hb hS hP hF ha hv hc.1 hc.2.1 hc.2.2.1 hc.2.2.2 hk (fun H1 locs1 hP1 hF1 => kk H1 locs1 la cells slots hP1 hF1 hL (by simp) (by rw [m_hsz_set h _ _ _ (m_cell_some ha).2 (by simp [m_csz])]))
      · exact (m_bad_ne hst).elim
    · exact (m_bad_ne hst).elim
  · exact (m_bad_ne hst).elim
theorem o_alen (C : m_At p R s m args meth c S D tc b sb y d) (hP : m_P D tc b sb h H) (hF : va_S (fun x => b ≤ x) s.heap H locs) (hL : m_L b sb (m_mL y) ls la) (kk : m_K p l e R s m args below meth c Q D tc b sb y h cells slots q) (hst : s_alen S k ls st h = .inl (.inl q)) (hk : k_one (m_bs y) (m_pc y k) (m_pc y (k + 1)) .arraylength = true) : W p l e R s m args below meth c H locs cells slots Q (F0 m (m_pc y k) la (st.map (m_v b sb))) := by
  obtain ⟨hx, hb, hml, hown, hT, hnm, hS, hX, hR⟩ := C
  unfold s_alen at hst
  split at hst
  · split at hst
    · rename_i ha
      subst ha
      obtain rfl := m_nx_inj hst
      exact x_slen hx hb hX.1 hX.2.1 hX.2.2 hF hk (kk H locs la cells slots hP hF hL rfl rfl)
    · exact (m_bad_ne hst).elim
  · exact (m_bad_ne hst).elim
theorem o_new {w0 w1 w2 ci : Nat} (C : m_At p R s m args meth c S D tc b sb y d) (hP : m_P D tc b sb h H) (hF : va_S (fun x => b ≤ x) s.heap H locs) (hL : m_L b sb (m_mL y) ls la) (hc : cells + q.2.2.2.length ≤ R.cells + h.length) (hs : slots + m_hsz q.2.2.2 ≤ R.slots + m_hsz h) (kk : m_K p l e R s m args below meth c Q D tc b sb y h cells slots q) (hst : s_new ci k ls st h = .inl (.inl q)) (hk : k_new (m_y y).cls (m_bs y) (m_pc y k) (m_pc y (k + 1)) w0 w1 w2 ci = true) : W p l e R s m args below meth c H locs cells slots Q (F0 m (m_pc y k) la (st.map (m_v b sb))) := by
  obtain ⟨hx, hb, hml, hown, hT, hnm, hS, hX, hR⟩ := C
  unfold s_new at hst
  split at hst
  · rename_i hn
    obtain rfl := m_nx_inj hst
    simp only [m_hsz_app, List.length_append, List.length_cons, List.length_nil] at hc hs
    have e1 : m_hsz [.inl (ci, m_def.getD ci [])] = (m_def.getD ci []).length := by simp [m_hsz, m_csz]
    rw [e1] at hs
    exact x_new hx hb hown hT hS hP hF hn (by omega) (by omega) hk (fun H1 hP1 hF1 => kk H1 locs la (cells + 1) _ hP1 hF1 hL (by simp; omega) (by show _ = _ + m_hsz (h ++ _); rw [m_hsz_app, e1]; omega))
  · exact (m_bad_ne hst).elim
theorem o_newa (C : m_At p R s m args meth c S D tc b sb y d) (hP : m_P D tc b sb h H) (hF : va_S (fun x => b ≤ x) s.heap H locs) (hL : m_L b sb (m_mL y) ls la) (hc : cells + q.2.2.2.length ≤ R.cells + h.length) (hs : slots + m_hsz q.2.2.2 ≤ R.slots + m_hsz h) (kk : m_K p l e R s m args below meth c Q D tc b sb y h cells slots q) (hst : s_newa k ls st h = .inl (.inl q)) (hk : k_newa (m_bs y) (m_pc y k) (m_pc y (k + 1)) = true) : W p l e R s m args below meth c H locs cells slots Q (F0 m (m_pc y k) la (st.map (m_v b sb))) := by
  obtain ⟨hx, hb, hml, hown, hT, hnm, hS, hX, hR⟩ := C
  unfold s_newa at hst
  split at hst
  · rename_i n r
    split at hst
    · rename_i hn
      obtain rfl := m_nx_inj hst
      simp only [m_hsz_app, List.length_append, List.length_cons, List.length_nil] at hc hs
      have e1 : m_hsz [.inr (.inl (List.replicate n.toNatClampNeg (0 : Int32)))] = n.toNatClampNeg := by simp [m_hsz, m_csz]
      rw [e1] at hs
      exact x_newa hx hb hT hS hP hF hn.1 hn.2.1 hn.2.2 (by omega) (by omega) hk (fun H1 hP1 hF1 => kk H1 locs la (cells + 1) _ hP1 hF1 hL (by simp; omega) (by show _ = _ + m_hsz (h ++ _); rw [m_hsz_app, e1]; omega))
    · exact (m_bad_ne hst).elim
  · exact (m_bad_ne hst).elim
theorem o_newq {w kd : Nat} (C : m_At p R s m args meth c S D tc b sb y d) (hP : m_P D tc b sb h H) (hF : va_S (fun x => b ≤ x) s.heap H locs) (hL : m_L b sb (m_mL y) ls la) (hc : cells + q.2.2.2.length ≤ R.cells + h.length) (hs : slots + m_hsz q.2.2.2 ≤ R.slots + m_hsz h) (kk : m_K p l e R s m args below meth c Q D tc b sb y h cells slots q) (hst : s_newq kd k ls st h = .inl (.inl q)) (hk : k_newq (m_y y).cls (m_bs y) (m_pc y k) (m_pc y (k + 1)) w kd = true) : W p l e R s m args below meth c H locs cells slots Q (F0 m (m_pc y k) la (st.map (m_v b sb))) := by
  obtain ⟨hx, hb, hml, hown, hT, hnm, hS, hX, hR⟩ := C
  unfold s_newq at hst
  split at hst
  · rename_i n r
    split at hst
    · rename_i hn
      obtain rfl := m_nx_inj hst
      simp only [m_hsz_app, List.length_append, List.length_cons, List.length_nil] at hc hs
      have e1 : m_hsz [.inr (.inr (kd, List.replicate n.toNatClampNeg (none : Option Nat)))] = n.toNatClampNeg := by simp [m_hsz, m_csz]
      rw [e1] at hs
      exact x_newq hx hb hown hT hS hP hF hn.1 hn.2.1 hn.2.2.1 hn.2.2.2 (by omega) (by omega) hk (fun H1 hP1 hF1 => kk H1 locs la (cells + 1) _ hP1 hF1 hL (by simp; omega) (by show _ = _ + m_hsz (h ++ _); rw [m_hsz_app, e1]; omega))
    · exact (m_bad_ne hst).elim
  · exact (m_bad_ne hst).elim
theorem m_hsz_rep (n : Nat) (e : MC) : m_hsz (List.replicate n e) = n * m_csz e := by
  induction n with
  | zero => simp [m_hsz]
  | succ n ih =>
    rw [List.replicate_succ]
    show m_csz e + m_hsz (List.replicate n e) = _
    rw [ih, Nat.succ_mul]
    omega
theorem o_multi {w : Nat} (C : m_At p R s m args meth c S D tc b sb y d) (hP : m_P D tc b sb h H) (hF : va_S (fun x => b ≤ x) s.heap H locs) (hL : m_L b sb (m_mL y) ls la) (hc : cells + q.2.2.2.length ≤ R.cells + h.length) (hs : slots + m_hsz q.2.2.2 ≤ R.slots + m_hsz h) (kk : m_K p l e R s m args below meth c Q D tc b sb y h cells slots q) (hst : s_multi k ls st h = .inl (.inl q)) (hk : k_multi (m_y y).cls (m_bs y) (m_pc y k) (m_pc y (k + 1)) w = true) : W p l e R s m args below meth c H locs cells slots Q (F0 m (m_pc y k) la (st.map (m_v b sb))) := by
  obtain ⟨hx, hb, hml, hown, hT, hnm, hS, hX, hR⟩ := C
  unfold s_multi at hst
  split at hst
  · rename_i z n r
    split at hst
    · rename_i hn
      obtain rfl := m_nx_inj hst
      have e1 : m_hsz (.inr (.inr (3, (List.range n.toNatClampNeg).map fun i => some (h.length + 1 + i))) :: List.replicate n.toNatClampNeg (.inr (.inl (List.replicate z.toNatClampNeg 0)))) = n.toNatClampNeg + n.toNatClampNeg * z.toNatClampNeg := by
        show m_csz _ + m_hsz (List.replicate _ _) = _
        rw [m_hsz_rep]
        simp [m_csz]
      simp only [m_hsz_app, e1, List.length_append, List.length_cons, List.length_replicate] at hc hs
      exact x_multi hx hb hown hT hS hP hF hn.1 hn.2.1 hn.2.2.1 hn.2.2.2.1 hn.2.2.2.2 (by omega) (by omega) hk (fun H1 hP1 hF1 => kk H1 locs la _ _ hP1 hF1 hL (by simp; omega) (by show _ = _ + m_hsz (h ++ _); rw [m_hsz_app, e1]; omega))
    · exact (m_bad_ne hst).elim
  · exact (m_bad_ne hst).elim
theorem o_oin {w : Nat} (C : m_At p R s m args meth c S D tc b sb y d) (hP : m_P D tc b sb h H) (hF : va_S (fun x => b ≤ x) s.heap H locs) (hL : m_L b sb (m_mL y) ls la) (kk : m_K p l e R s m args below meth c Q D tc b sb y h cells slots q) (hst : s_oin d k ls st h = .inl (.inl q)) (hk : k_oin (m_y y).cls (m_bs y) (m_pc y k) (m_pc y (k + 1)) w = true) : W p l e R s m args below meth c H locs cells slots Q (F0 m (m_pc y k) la (st.map (m_v b sb))) := by
  obtain ⟨hx, hb, hml, hown, hT, hnm, hS, hX, hR⟩ := C
  unfold s_oin at hst
  split at hst
  · split at hst
    · rename_i hc
      obtain rfl := m_nx_inj hst
      exact x_oin hx hb (hL.1.trans hml.symm) hown hT (by omega) (by rw [m_sum]; omega) hk (kk H locs la cells slots hP hF hL rfl rfl)
    · exact (m_bad_ne hst).elim
  · exact (m_bad_ne hst).elim
theorem o_copy {w : Nat} (C : m_At p R s m args meth c S D tc b sb y d) (hP : m_P D tc b sb h H) (hF : va_S (fun x => b ≤ x) s.heap H locs) (hL : m_L b sb (m_mL y) ls la) (kk : m_K p l e R s m args below meth c Q D tc b sb y h cells slots q) (hst : s_copy d k ls st h = .inl (.inl q)) (hk : k_copy (m_y y).cls (m_bs y) (m_pc y k) (m_pc y (k + 1)) w = true) : W p l e R s m args below meth c H locs cells slots Q (F0 m (m_pc y k) la (st.map (m_v b sb))) := by
  obtain ⟨hx, hb, hml, hown, hT, hnm, hS, hX, hR⟩ := C
  unfold s_copy at hst
  split at hst
  · split at hst
    · rename_i l1 g1 ha hg
      split at hst
      · rename_i hc
        obtain ⟨h1, h2, h3, h4, h5, h6, h7⟩ := hc
        obtain rfl := m_nx_inj hst
        exact x_copy hx hb (hml.trans hL.1.symm) hown hT hS hP hF ha hg h1 h2 h3 h4 h5 (by omega) (by rw [m_sum]; omega) hk (fun H1 locs1 hP1 hF1 => kk H1 locs1 la cells slots hP1 hF1 hL (by simp) (by rw [m_hsz_set h _ _ _ (m_cell_some hg).2 (by simp [m_csz, m_cpy_len])]))
      · exact (m_bad_ne hst).elim
    · exact (m_bad_ne hst).elim
  · exact (m_bad_ne hst).elim
theorem o_max {w : Nat} (C : m_At p R s m args meth c S D tc b sb y d) (hP : m_P D tc b sb h H) (hF : va_S (fun x => b ≤ x) s.heap H locs) (hL : m_L b sb (m_mL y) ls la) (hc : cells + q.2.2.2.length ≤ R.cells + h.length) (hs : slots + m_hsz q.2.2.2 ≤ R.slots + m_hsz h) (kk : m_K p l e R s m args below meth c Q D tc b sb y h cells slots q) (hst : s_mm 0 d k ls st h = .inl (.inl q)) (hk : k_max (m_y y).cls (m_bs y) (m_pc y k) (m_pc y (k + 1)) w = true) : W p l e R s m args below meth c H locs cells slots Q (F0 m (m_pc y k) la (st.map (m_v b sb))) := by
  obtain ⟨hx, hb, hml, hown, hT, hnm, hS, hX, hR⟩ := C
  unfold s_mm at hst
  split at hst
  · split at hst
    · rename_i hd
      obtain rfl := m_nx_inj hst
      simp only at hc hs
      exact x_max hx hb (hml.trans hL.1.symm) hown hT (by omega) (by rw [m_sum]; omega) (by omega) (by omega) hk (kk H locs la cells slots hP hF hL rfl rfl)
    · exact (m_bad_ne hst).elim
  · exact (m_bad_ne hst).elim
theorem o_min {w : Nat} (C : m_At p R s m args meth c S D tc b sb y d) (hP : m_P D tc b sb h H) (hF : va_S (fun x => b ≤ x) s.heap H locs) (hL : m_L b sb (m_mL y) ls la) (hc : cells + q.2.2.2.length ≤ R.cells + h.length) (hs : slots + m_hsz q.2.2.2 ≤ R.slots + m_hsz h) (kk : m_K p l e R s m args below meth c Q D tc b sb y h cells slots q) (hst : s_mm 1 d k ls st h = .inl (.inl q)) (hk : k_min (m_y y).cls (m_bs y) (m_pc y k) (m_pc y (k + 1)) w = true) : W p l e R s m args below meth c H locs cells slots Q (F0 m (m_pc y k) la (st.map (m_v b sb))) := by
  obtain ⟨hx, hb, hml, hown, hT, hnm, hS, hX, hR⟩ := C
  unfold s_mm at hst
  split at hst
  · split at hst
    · rename_i hd
      obtain rfl := m_nx_inj hst
      simp only at hc hs
      exact x_min hx hb (hml.trans hL.1.symm) hown hT (by omega) (by rw [m_sum]; omega) (by omega) (by omega) hk (kk H locs la cells slots hP hF hL rfl rfl)
    · exact (m_bad_ne hst).elim
  · exact (m_bad_ne hst).elim
end MO
end
section
/-! one step; a call; a body -/
section MS1
variable {p : Program} {l : Launch} {e : Env} {R : Room} {s : State} {m : MethodId} {args : Array Value} {below : List Frame} {meth : Method} {c : Code} {H : Heap} {locs : List Loc} {cells slots : Nat} {Q : State → Prop}
variable {la : Array Slot} {b sb y d k : Nat} {D : va_G} {tc : Nat → ClassId} {h : MH} {st : List MV} {ls : ML} {S : Nat × (Nat → Int32)} {q : MS}
theorem s_call_next {y n ci : Nat} (e : s_call y n ci st h = .inl (.inl q)) : False := by
  unfold s_call at e
  split at e
  · split at e
    · split at e
      · cases e
      · exact m_bad_ne e
    · exact m_bad_ne e
  · exact m_bad_ne e
theorem s_calls_next {y n : Nat} (e : s_calls y n st = .inl (.inl q)) : False := by
  unfold s_calls at e
  split at e
  · cases e
  · exact m_bad_ne e
theorem stp_ok (C : m_At p R s m args meth c S D tc b sb y d) (hP : m_P D tc b sb h H) (hF : va_S (fun x => b ≤ x) s.heap H locs) (hL : m_L b sb (m_mL y) ls la) (hc : cells + q.2.2.2.length ≤ R.cells + h.length) (hs : slots + m_hsz q.2.2.2 ≤ R.slots + m_hsz h) (kk : m_K p l e R s m args below meth c Q D tc b sb y h cells slots q) :
    ∀ (i : MI) (ws : List Nat), stp S d i k ls st h = .inl (.inl q) → m_dk (m_y y).cls (m_y y).name (m_bs y) (m_pc y k) (m_pc y (k + 1)) (m_pc y) ws i = true → W p l e R s m args below meth c H locs cells slots Q (F0 m (m_pc y k) la (st.map (m_v b sb)))
  | (0, _, _, _, _), _, hst, hk => o_push C hP hF hL kk hst hk
  | (1, _, _, _, _), _, hst, hk => o_load C hP hF hL kk hst hk
  | (2, _, _, _, _), _, hst, hk => o_store C hP hF hL kk hst hk
  | (3, _, _, _, _), _, hst, hk => o_iinc C hP hF hL kk hst hk
  | (4, _, _, _, _), _, hst, hk => o_bin C hP hF hL kk hst hk
  | (5, _, _, _, _), _, hst, hk => o_un C hP hF hL kk hst hk
  | (6, _, _, _, _), _, hst, hk => o_dup C hP hF hL kk hst hk
  | (7, _, _, _, _), _, hst, hk => o_dup2 C hP hF hL kk hst hk
  | (8, _, _, _, _), _, hst, hk => o_pop C hP hF hL kk hst hk
  | (9, _, _, _, _), _, hst, hk => o_if C hP hF hL kk hst hk
  | (10, _, _, _, _), _, hst, hk => o_icmp C hP hF hL kk hst hk
  | (11, _, _, _, _), _, hst, hk => o_goto C hP hF hL kk hst hk
  | (12, _, _, _, _), _, hst, hk => o_switch C hP hF hL kk hst hk
  | (13, _, _, _, _), _, hst, hk => o_getf C hP hF hL kk hst hk
  | (14, _, _, _, _), _, hst, hk => o_putf C hP hF hL kk hst hk
  | (15, _, _, _, _), _, hst, hk => o_iald C hP hF hL kk hst hk
  | (16, _, _, _, _), _, hst, hk => o_iast C hP hF hL kk hst hk
  | (17, _, _, _, _), _, hst, hk => o_aald C hP hF hL kk hst hk
  | (18, _, _, _, _), _, hst, hk => o_aast C hP hF hL kk hst hk
  | (19, _, _, _, _), _, hst, hk => o_alen C hP hF hL kk hst hk
  | (20, _, _, _, _), _, hst, hk => o_new C hP hF hL hc hs kk hst hk
  | (21, _, _, _, _), _, hst, hk => o_newa C hP hF hL hc hs kk hst hk
  | (22, _, _, _, _), _, hst, hk => o_newq C hP hF hL hc hs kk hst hk
  | (23, _, _, _, _), _, hst, hk => o_multi C hP hF hL hc hs kk hst hk
  | (24, _, _, _, _), _, hst, _ => (s_call_next hst).elim
  | (25, _, _, _, _), _, hst, hk => o_oin C hP hF hL kk hst hk
  | (26, _, _, _, _), _, hst, hk => o_copy C hP hF hL kk hst hk
  | (27, _, _, _, _), _, hst, _ => by cases hst
  | (28, _, _, _, _), _, hst, _ => by cases hst
  | (29, _, _, _, _), _, hst, _ => (s_calls_next hst).elim
  | (30, _, _, _, _), _, hst, _ => (s_call_next hst).elim
  | (31, _, _, _, _), _, hst, hk => o_max C hP hF hL hc hs kk hst hk
  | (32, _, _, _, _), _, hst, hk => o_min C hP hF hL hc hs kk hst hk
  | (_ + 33, _, _, _, _), _, hst, _ => (m_bad_ne hst).elim
end MS1
theorem m_over {t : FieldType} {A A' : Array Value} {u U : State} (h : u.vm = U.vm) (hb : (Cond.arrayOver t).before A u = true) : (Cond.arrayOver t).before A' U = true := by
  simp only [Cond.before, Cond.holds, Cond.value] at hb ⊢
  rw [← h]
  exact hb
theorem m_St.warm {D : va_G} {tc : Nat → ClassId} {s U : State} (hS : m_St D tc s) (hW : s.WarmedH U.vm) : m_St D tc U := by
  refine ⟨va_K.moved hW.alike hS.1, fun w hw hn => ?_, fun t ht => ?_⟩
  · have h1 := hS.2.1 w hw hn
    unfold m_nest at hn
    split at hn
    · exact va_Nw.warmF hW h1
    · exact va_Nw.warmM hW h1
    · cases hn
  · have h1 := hS.2.2 t ht
    rw [← Cond.arrayOver_setVmC hW.alike t] at h1
    exact m_over (rfl : (s.setVm U.vm).vm = U.vm) h1
def m_Pc (D : va_G) (tc : Nat → ClassId) (b sb : Nat) (S : Nat × (Nat → Int32)) (As : List MV) (h : MH) : Array Value → State → Prop := fun v U => v = (As.map (m_v b sb)).toArray ∧ m_P D tc b sb h U.heap ∧ m_St D tc U ∧ va_X sb S.1 S.2 U U.heap
def m_Qc (D : va_G) (tc : Nat → ClassId) (b sb : Nat) (rv : List MV) (h : MH) : Array Value → State → Outcome → State → Prop := fun _ st oc t => (∃ v : Option Value, oc = .returned v ∧ v.toList = rv.map (m_v b sb) ∧ m_P D tc b sb h t.heap) ∧ va_F (fun q => b ≤ q) st t
def m_ws (y : Nat) : List Cond := Cond.code (m_y y) (m_bs y) (m_mL y) (m_rt y) :: m_TB
def m_rm (d : Nat) (h h1 : MH) : Room := { frames := d, cells := h1.length - h.length, slots := m_hsz h1 - m_hsz h, locals := 64 * d }
theorem m_blind {D : va_G} {tc : Nat → ClassId} {b sb : Nat} {S : Nat × (Nat → Int32)} {As : List MV} {h : MH} : FrameBlind (m_Pc D tc b sb S As h) := fun a U g mk q => by
  obtain ⟨q0, q1, q2, q3⟩ := q
  refine ⟨q0, q1, ?_, va_X.moved (u := U) (U := U.calling g mk a) (Vm.Alike.refl U.vm) q3⟩
  exact ⟨va_K.moved (u := U) (U := U.calling g mk a) (Vm.Alike.refl U.vm) q2.1, fun w hw hn => va_Nw.same (u := U) (by
    unfold m_nest at hn
    split at hn
    · rfl
    · rfl
    · cases hn) rfl (q2.2.1 w hw hn), fun t ht => m_over (u := U) rfl (q2.2.2 t ht)⟩
section MS2
variable {p : Program} {l : Launch} {e : Env} {R : Room} {s : State} {m : MethodId} {args : Array Value} {below : List Frame} {meth : Method} {c : Code} {H : Heap} {locs : List Loc} {cells slots : Nat} {Q : State → Prop}
variable {pc : Nat} {la : Array Slot} {b sb : Nat} {D : va_G} {tc : Nat → ClassId}
theorem x_called {rv : List MV} {h1 : MH} {a : Array Value} {rest st0 : List Value} {mc ms : Nat} (hr : va_Run p l e R s m args below meth c H locs cells slots mc ms (F0 m pc la st0) rest (m_Qc D tc b sb rv h1 a) (fun q => b ≤ q)) (hF : va_S (fun q => b ≤ q) s.heap H locs)
    (kk : ∀ (H1 : Heap) (locs1 : List Loc), m_P D tc b sb h1 H1 → va_S (fun q => b ≤ q) s.heap H1 locs1 → W p l e R s m args below meth c H1 locs1 (cells + mc) (slots + ms) Q (F0 m (pc + 3) la (rv.map (m_v b sb) ++ rest))) : W p l e R s m args below meth c H locs cells slots Q (F0 m pc la st0) := by
  intro T hT X
  obtain ⟨v, st₀, t, T', L, h0, X', hL, e1, e2, ⟨⟨v', hv, hv2, hb⟩, hz, hk⟩, st⟩ := hr T hT X
  cases hv
  rw [h0] at hz hk
  rw [← e1] at hb hz hk
  obtain ⟨t2, a1, b1⟩ := kk T'.heap (locs ++ L) hb ⟨Nat.le_trans hF.1 hz, fun q h1 h2 => by rw [hk q (Nat.lt_of_lt_of_le h1 hF.1) h2]; exact hF.2.1 q h1 h2, fun q hq => by
      rcases List.mem_append.mp hq with h | h
      · exact hF.2.2 q h
      · exact hL q h⟩ T' rfl X'
  rw [← hv2] at a1
  exact ⟨t2, st t2 a1, b1⟩
end MS2
theorem m_goodTB {y : Nat} {i : Nat} (h : m_in i (Cond.code (m_y y) (m_bs y) (m_mL y) (m_rt y)) = true) : GoodIn m_TB (m_ws y) := by
  intro w hw
  rcases List.mem_cons.mp hw with rfl | hw
  · exact ⟨m_inT h, good_of_word (m_in_ok h).2⟩
  · exact ⟨hw, good_of_word (List.mem_filter.mp hw).2⟩
end
section
theorem m_pc0 : ∀ y ∈ List.range 176, m_pc y 0 = 0 := by decide +kernel
theorem m_ck_at {y k : Nat} {i : MI} (hy : y < 176) (hi : (m_code y)[k]? = some i) : m_dk (m_y y).cls (m_y y).name (m_bs y) (m_pc y k) (m_pc y (k + 1)) (m_pc y) ((m_pcl y).getD k (0, [])).2 i = true := by
  have h := m_ck_all hy k (List.getElem?_eq_some_iff.mp hi).1
  unfold m_ck at h
  rw [show (m_code y).getD k (99, 0, 0, 0, []) = i by rw [List.getD_eq_getElem?_getD, hi]; rfl] at h
  exact h
theorem stp_mono {S : Nat × (Nat → Int32)} {d : Nat} {k : Nat} {ls : ML} {st : List MV} {h : MH} {q : MS} : ∀ i : MI, stp S d i k ls st h = .inl (.inl q) → h.length ≤ q.2.2.2.length ∧ m_hsz h ≤ m_hsz q.2.2.2
  | (0, _, _, _, _), e => by obtain rfl := m_nx_inj e; exact ⟨Nat.le_refl _, Nat.le_refl _⟩
  | (1, _, _, _, _), e => by
    replace e : s_load _ _ _ _ _ _ = _ := e
    unfold s_load at e
    repeat' split at e
    all_goals first | exact (m_bad_ne e).elim | (obtain rfl := m_nx_inj e; exact ⟨Nat.le_refl _, Nat.le_refl _⟩)
  | (2, _, _, _, _), e => by
    replace e : s_store _ _ _ _ _ _ = _ := e
    unfold s_store at e
    repeat' split at e
    all_goals first | exact (m_bad_ne e).elim | (obtain rfl := m_nx_inj e; exact ⟨Nat.le_refl _, Nat.le_refl _⟩)
  | (3, _, _, _, _), e => by
    replace e : s_iinc _ _ _ _ _ _ = _ := e
    unfold s_iinc at e
    repeat' split at e
    all_goals first | exact (m_bad_ne e).elim | (obtain rfl := m_nx_inj e; exact ⟨Nat.le_refl _, Nat.le_refl _⟩)
  | (4, _, _, _, _), e => by
    replace e : s_bin _ _ _ _ _ = _ := e
    unfold s_bin at e
    repeat' split at e
    all_goals first | exact (m_bad_ne e).elim | (obtain rfl := m_nx_inj e; exact ⟨Nat.le_refl _, Nat.le_refl _⟩)
  | (5, _, _, _, _), e => by
    replace e : s_un _ _ _ _ _ = _ := e
    unfold s_un at e
    repeat' split at e
    all_goals first | exact (m_bad_ne e).elim | (obtain rfl := m_nx_inj e; exact ⟨Nat.le_refl _, Nat.le_refl _⟩)
  | (6, _, _, _, _), e => by
    replace e : s_dup _ _ _ _ = _ := e
    unfold s_dup at e
    repeat' split at e
    all_goals first | exact (m_bad_ne e).elim | (obtain rfl := m_nx_inj e; exact ⟨Nat.le_refl _, Nat.le_refl _⟩)
  | (7, _, _, _, _), e => by
    replace e : s_dup2 _ _ _ _ = _ := e
    unfold s_dup2 at e
    repeat' split at e
    all_goals first | exact (m_bad_ne e).elim | (obtain rfl := m_nx_inj e; exact ⟨Nat.le_refl _, Nat.le_refl _⟩)
  | (8, _, _, _, _), e => by
    replace e : s_pop _ _ _ _ = _ := e
    unfold s_pop at e
    repeat' split at e
    all_goals first | exact (m_bad_ne e).elim | (obtain rfl := m_nx_inj e; exact ⟨Nat.le_refl _, Nat.le_refl _⟩)
  | (9, _, _, _, _), e => by
    replace e : s_if _ _ _ _ _ _ = _ := e
    unfold s_if at e
    split at e
    · obtain rfl := (Sum.inl.inj (Sum.inl.inj e)).symm
      exact ⟨Nat.le_refl _, Nat.le_refl _⟩
    · exact (m_bad_ne e).elim
  | (10, _, _, _, _), e => by
    replace e : s_icmp _ _ _ _ _ _ = _ := e
    unfold s_icmp at e
    split at e
    · obtain rfl := (Sum.inl.inj (Sum.inl.inj e)).symm
      exact ⟨Nat.le_refl _, Nat.le_refl _⟩
    · exact (m_bad_ne e).elim
  | (11, _, _, _, _), e => by
    obtain rfl := (Sum.inl.inj (Sum.inl.inj e)).symm
    exact ⟨Nat.le_refl _, Nat.le_refl _⟩
  | (12, _, _, _, _), e => by
    replace e : s_switch _ _ _ _ _ _ = _ := e
    unfold s_switch at e
    split at e
    · obtain rfl := (Sum.inl.inj (Sum.inl.inj e)).symm
      exact ⟨Nat.le_refl _, Nat.le_refl _⟩
    · exact (m_bad_ne e).elim
  | (13, _, _, _, _), e => by
    replace e : s_getf _ _ _ _ _ _ = _ := e
    unfold s_getf at e
    repeat' split at e
    all_goals first | exact (m_bad_ne e).elim | (obtain rfl := m_nx_inj e; exact ⟨Nat.le_refl _, Nat.le_refl _⟩)
  | (14, _, _, _, _), e => by
    replace e : s_putf _ _ _ _ _ _ _ = _ := e
    unfold s_putf at e
    split at e
    · split at e
      · rename_i ha
        split at e
        · obtain rfl := m_nx_inj e
          exact ⟨by simp, Nat.le_of_eq (m_hsz_set h _ _ _ (m_cell_some ha).2 (by simp [m_csz])).symm⟩
        · exact (m_bad_ne e).elim
      · exact (m_bad_ne e).elim
    · exact (m_bad_ne e).elim
  | (15, _, _, _, _), e => by
    replace e : s_iald _ _ _ _ _ = _ := e
    unfold s_iald at e
    repeat' split at e
    all_goals first | exact (m_bad_ne e).elim | (obtain rfl := m_nx_inj e; exact ⟨Nat.le_refl _, Nat.le_refl _⟩)
  | (16, _, _, _, _), e => by
    replace e : s_iast _ _ _ _ = _ := e
    unfold s_iast at e
    split at e
    · split at e
      · rename_i ha
        split at e
        · obtain rfl := m_nx_inj e
          exact ⟨by simp, Nat.le_of_eq (m_hsz_set h _ _ _ (m_cell_some ha).2 (by simp [m_csz])).symm⟩
        · exact (m_bad_ne e).elim
      · exact (m_bad_ne e).elim
    · exact (m_bad_ne e).elim
  | (17, _, _, _, _), e => by
    replace e : s_aald _ _ _ _ = _ := e
    unfold s_aald at e
    repeat' split at e
    all_goals first | exact (m_bad_ne e).elim | (obtain rfl := m_nx_inj e; exact ⟨Nat.le_refl _, Nat.le_refl _⟩)
  | (18, _, _, _, _), e => by
    replace e : s_aast _ _ _ _ = _ := e
    unfold s_aast at e
    split at e
    · split at e
      · rename_i ha _
        split at e
        · obtain rfl := m_nx_inj e
          exact ⟨by simp, Nat.le_of_eq (m_hsz_set h _ _ _ (m_cell_some ha).2 (by simp [m_csz])).symm⟩
        · exact (m_bad_ne e).elim
      · exact (m_bad_ne e).elim
    · exact (m_bad_ne e).elim
  | (19, _, _, _, _), e => by
    replace e : s_alen _ _ _ _ _ = _ := e
    unfold s_alen at e
    repeat' split at e
    all_goals first | exact (m_bad_ne e).elim | (obtain rfl := m_nx_inj e; exact ⟨Nat.le_refl _, Nat.le_refl _⟩)
  | (20, _, _, _, _), e => by
    replace e : s_new _ _ _ _ _ = _ := e
    unfold s_new at e
    split at e
    · obtain rfl := m_nx_inj e
      exact ⟨by simp, by simp [m_hsz_app]⟩
    · exact (m_bad_ne e).elim
  | (21, _, _, _, _), e => by
    replace e : s_newa _ _ _ _ = _ := e
    unfold s_newa at e
    repeat' split at e
    all_goals first | exact (m_bad_ne e).elim | (obtain rfl := m_nx_inj e; exact ⟨by simp, by simp [m_hsz_app]⟩)
  | (22, _, _, _, _), e => by
    replace e : s_newq _ _ _ _ _ = _ := e
    unfold s_newq at e
    repeat' split at e
    all_goals first | exact (m_bad_ne e).elim | (obtain rfl := m_nx_inj e; exact ⟨by simp, by simp [m_hsz_app]⟩)
  | (23, _, _, _, _), e => by
    replace e : s_multi _ _ _ _ = _ := e
    unfold s_multi at e
    repeat' split at e
    all_goals first | exact (m_bad_ne e).elim | (obtain rfl := m_nx_inj e; exact ⟨by simp, by simp [m_hsz_app]⟩)
  | (24, _, _, _, _), e => (s_call_next e).elim
  | (25, _, _, _, _), e => by
    replace e : s_oin _ _ _ _ _ = _ := e
    unfold s_oin at e
    repeat' split at e
    all_goals first | exact (m_bad_ne e).elim | (obtain rfl := m_nx_inj e; exact ⟨Nat.le_refl _, Nat.le_refl _⟩)
  | (26, _, _, _, _), e => by
    replace e : s_copy _ _ _ _ _ = _ := e
    unfold s_copy at e
    split at e
    · split at e
      · rename_i ha
        split at e
        · obtain rfl := m_nx_inj e
          exact ⟨by simp, Nat.le_of_eq (m_hsz_set h _ _ _ (m_cell_some ha).2 (by simp [m_csz, m_cpy_len])).symm⟩
        · exact (m_bad_ne e).elim
      · exact (m_bad_ne e).elim
    · exact (m_bad_ne e).elim
  | (27, _, _, _, _), e => by cases e
  | (28, _, _, _, _), e => by cases e
  | (29, _, _, _, _), e => (s_calls_next e).elim
  | (30, _, _, _, _), e => (s_call_next e).elim
  | (31, _, _, _, _), e => by
    replace e : s_mm _ _ _ _ _ _ = _ := e
    unfold s_mm at e
    repeat' split at e
    all_goals first | exact (m_bad_ne e).elim | (obtain rfl := m_nx_inj e; exact ⟨Nat.le_refl _, Nat.le_refl _⟩)
  | (32, _, _, _, _), e => by
    replace e : s_mm _ _ _ _ _ _ = _ := e
    unfold s_mm at e
    repeat' split at e
    all_goals first | exact (m_bad_ne e).elim | (obtain rfl := m_nx_inj e; exact ⟨Nat.le_refl _, Nat.le_refl _⟩)
  | (_ + 33, _, _, _, _), e => (m_bad_ne e).elim
def m_Body (l : Launch) (S : Nat × (Nat → Int32)) (D : va_G) (tc : Nat → ClassId) (b sb y d k : Nat) (ls : ML) (st : List MV) (h : MH) (kR : Nat) (stR : List MV) (h' : MH) : Prop :=
  ∀ (p : Program) (e : Env) (R : Room) (s : State) (m : MethodId) (args : Array Value) (below : List Frame) (meth : Method) (c : Code) (H : Heap) (locs : List Loc) (cells slots : Nat) (Q : State → Prop) (la : Array Slot),
    m_At p R s m args meth c S D tc b sb y d → m_P D tc b sb h H → va_S (fun q => b ≤ q) s.heap H locs → m_L b sb (m_mL y) ls la → cells + h'.length ≤ R.cells + h.length → slots + m_hsz h' ≤ R.slots + m_hsz h →
    (∀ (H1 : Heap) (locs1 : List Loc) (la1 : Array Slot) (cells1 slots1 : Nat), m_P D tc b sb h' H1 → va_S (fun q => b ≤ q) s.heap H1 locs1 → cells1 + h.length = cells + h'.length → slots1 + m_hsz h = slots + m_hsz h' → W p l e R s m args below meth c H1 locs1 cells1 slots1 Q (F0 m (m_pc y kR) la1 (stR.map (m_v b sb)))) →
    W p l e R s m args below meth c H locs cells slots Q (F0 m (m_pc y k) la (st.map (m_v b sb)))
theorem k_meth_ok {y n fl ci : Nat} (h : k_meth y n fl ci = true) : y < 176 ∧ m_in (m_wi y 0) (Cond.code (m_y y) (m_bs y) (m_mL y) (m_rt y)) = true ∧ m_in (m_wi y 1) (.initialized (m_y y).cls) = true ∧ ((m_y y).cls ≠ "java/lang/invoke/MethodHandle" ∧ (m_y y).cls ≠ "java/lang/invoke/VarHandle") ∧ plainName (m_y y).cls = true ∧ m_mL y ≤ 40 ∧ n ≤ m_mL y ∧ m_rk y < 3 ∧
    (if fl = 0 then m_in (m_wi y 2) (.static (m_y y)) && decide ((parseMethodDescriptor (m_y y).desc).map (fun q => q.parameters.length) = some n) else
      m_in (m_wi y 2) (.instanceMethod (m_y y)) && decide (ci < 8) && decide ((m_C ci).1 = (m_y y).cls) && decide (0 < n) && decide ((parseMethodDescriptor (m_y y).desc).map (fun q => q.parameters.length) = some (n - 1)) && (if fl = 1 then decide ((m_y y).name = "<init>") && decide (m_rk y = 0) else m_in (m_wi y 3) (.selects (m_y y).cls (m_y y) (m_y y)))) = true := by
  unfold k_meth at h
  simp only [Bool.and_eq_true, decide_eq_true_eq] at h
  obtain ⟨⟨⟨⟨⟨⟨⟨⟨⟨⟨⟨a0, a1⟩, a2⟩, a3⟩, a4⟩, a5⟩, a6⟩, a7⟩, a8⟩, a9⟩, a10⟩, a11⟩ := h
  exact ⟨a1, a3, a4, ⟨a5, a6⟩, a7, a8, a9, a10, a11⟩
theorem met_ok (l : Launch) {S : Nat × (Nat → Int32)} {D : va_G} {tc : Nat → ClassId} {b sb y n fl ci d kR : Nat} {As stR rv : List MV} {h h1 : MH} (hsb : sb < b) (hm : k_meth y n fl ci = true) (hAs : As.length = n) (hmono : h.length ≤ h1.length ∧ m_hsz h ≤ m_hsz h1) (hB : m_Body l S D tc b sb y d 0 (m_ent y As) [] h kR stR h1) (hret : m_ret y kR stR = some rv) :
    Met l (m_y y) (m_ws y) (m_rm d h h1) (m_Pc D tc b sb S As h) (m_Qc D tc b sb rv h1) (h1.length - h.length) (m_hsz h1 - m_hsz h) (fun q => b ≤ q) := by
  obtain ⟨hy, hcode, hini, hmh, hpl, hmL, hn, hrk, -⟩ := k_meth_ok hm
  refine Met.ofW (cc := m_bs y) (maxL := m_mL y) (ret := m_rt y) hpl rfl ?_
  intro p e s m args below meth c s₁ B hml hv
  obtain ⟨rfl, hP, hSt, hX⟩ := hv
  have hts := atoms_spec (ws := m_ws y) B.pre
  have hown : s.vm.findClass (m_y y).cls = some m.cls := findClass_of_methodNamed B.named
  have hnm : meth.name = (m_y y).name := (name_of_methodNamed B.named B.method).1
  have hlocks := B.notSynchronized
  have hr := B.returns
  obtain ⟨la, hla, hL⟩ := m_L.entry (b := b) (sb := sb) (nL := m_mL y) As (by omega)
  rw [hla]
  refine W.eq (g2 := F0 m (m_pc y 0) la []) (by rw [m_pc0 y (List.mem_range.mpr hy)]) ?_
  have C : m_At p (headSpec (m_ws y) (m_rm d h h1)).room s m (As.map (m_v b sb)).toArray meth c S D tc b sb y d := ⟨B.exec, B.bytes, hml, hown, fun w hw hg => hts w (List.mem_cons_of_mem _ (List.mem_filter.mpr ⟨hw, hg⟩)), hnm, hSt, ⟨hX, hsb, by rw [hP.1]; exact Nat.le_add_right _ _⟩, ⟨Nat.le_refl d, Nat.le_refl (64 * d)⟩⟩
  refine hB p e _ s m _ below meth c s.heap [] 0 0 _ la C hP va_S.rf hL ?_ ?_ ?_
  · show 0 + h1.length ≤ (h1.length - h.length) + h.length
    omega
  · show 0 + m_hsz h1 ≤ (m_hsz h1 - m_hsz h) + m_hsz h
    omega
  · intro H1 locs1 la1 cells1 slots1 hP1 hF1 hc1 hs1
    refine W.widen (k := h1.length - h.length) (n := m_hsz h1 - m_hsz h) (by omega) (by omega) ?_
    unfold m_ret at hret
    split at hret
    · rename_i i hi
      have hck := m_ck_at hy hi
      obtain ⟨op, a, b', v, ts⟩ := i
      split at hret
      · rename_i v' _ _ h27 hk1
        dsimp only at h27
        subst h27
        cases hret
        have hd : decode (m_bs y) (m_pc y kR) = .ok (.ireturn, 1) := of_decide_eq_true hck
        have hrt : meth.sig.returnType = some .int := by rw [hr]; unfold m_rt; rw [hk1]; rfl
        exact W.iret B.exec B.bytes hrt (fun t ht hW => ⟨⟨_, rfl, rfl, by rw [ht]; exact hP1⟩, hF1.F ht⟩) hF1.2.2 hd
      · rename_i v' _ _ h27 hk1
        dsimp only at h27
        subst h27
        split at hret
        · rename_i hv01
          cases hret
          have hd : decode (m_bs y) (m_pc y kR) = .ok (.ireturn, 1) := of_decide_eq_true hck
          have hrt : meth.sig.returnType = some .boolean := by rw [hr]; unfold m_rt; rw [hk1]; rfl
          exact W.zret (ty := .boolean) B.exec B.bytes hrt (by rcases hv01 with rfl | rfl <;> rfl) (fun t ht hW => ⟨⟨_, rfl, rfl, by rw [ht]; exact hP1⟩, hF1.F ht⟩) hF1.2.2 hd
        · cases hret
      · rename_i _ _ h27 hk1
        dsimp only at h27
        subst h27
        cases hret
        have hd : decode (m_bs y) (m_pc y kR) = .ok (.return_, 1) := of_decide_eq_true hck
        have hrt : meth.sig.returnType = none := by rw [hr]; unfold m_rt; rw [hk1]; rfl
        exact W.vret B.exec B.bytes hrt (fun t ht hW => ⟨⟨_, rfl, rfl, by rw [ht]; exact hP1⟩, hF1.F ht⟩) hF1.2.2 hd
      · cases hret
    · cases hret
end
section
section MS3
variable {p : Program} {l : Launch} {e : Env} {R : Room} {s : State} {m : MethodId} {args : Array Value} {below : List Frame} {meth : Method} {c : Code} {H : Heap} {locs : List Loc} {cells slots : Nat} {Q : State → Prop}
variable {la : Array Slot} {b sb y d k : Nat} {D : va_G} {tc : Nat → ClassId} {h : MH} {st : List MV} {ls : ML} {S : Nat × (Nat → Int32)}
/-- what a call that is met gives -/
theorem c_virt {w y' n ci : Nat} {As rest rv : List MV} {h1 : MH} (C : m_At p R s m args meth c S D tc b sb y (d + 1)) (hP : m_P D tc b sb h H) (hF : va_S (fun x => b ≤ x) s.heap H locs) (hL : m_L b sb (m_mL y) ls la) (hst : s_call y' n ci st h = .inl (.inr (y', As, rest)))
    (hk : k_call (m_y y).cls (m_bs y) (m_pc y k) (m_pc y (k + 1)) w y' n ci = true) (hmono : h.length ≤ h1.length ∧ m_hsz h ≤ m_hsz h1) (hc : cells + h1.length ≤ R.cells + h.length) (hs : slots + m_hsz h1 ≤ R.slots + m_hsz h)
    (hM : k_meth y' n 2 ci = true → As.length = n → Met l (m_y y') (m_ws y') (m_rm d h h1) (m_Pc D tc b sb S As h) (m_Qc D tc b sb rv h1) (h1.length - h.length) (m_hsz h1 - m_hsz h) (fun q => b ≤ q))
    (kk : ∀ (H1 : Heap) (locs1 : List Loc), m_P D tc b sb h1 H1 → va_S (fun q => b ≤ q) s.heap H1 locs1 → W p l e R s m args below meth c H1 locs1 (cells + (h1.length - h.length)) (slots + (m_hsz h1 - m_hsz h)) Q (F0 m (m_pc y (k + 1)) la ((rv ++ rest).map (m_v b sb)))) : W p l e R s m args below meth c H locs cells slots Q (F0 m (m_pc y k) la (st.map (m_v b sb))) := by
  obtain ⟨hx, hb, hml, hown, hT, hnm, hS, hX, hR⟩ := C
  unfold k_call at hk
  simp only [Bool.and_eq_true, decide_eq_true_eq] at hk
  obtain ⟨⟨h3, hmeth⟩, hk⟩ := hk
  obtain ⟨hy, hcode, hini, hmh, hpl, hmL, hn, hrk, hrest⟩ := k_meth_ok hmeth
  simp only [Bool.and_eq_true, decide_eq_true_eq, if_neg (show ¬ (2 : Nat) = 0 by decide), if_neg (show ¬ (2 : Nat) = 1 by decide)] at hrest
  obtain ⟨⟨⟨⟨⟨w1, hci⟩, hcn⟩, hn0⟩, hpd⟩, w3⟩ := hrest
  unfold s_call at hst
  split at hst
  · rename_i a As' hrev
    split at hst
    · rename_i ci' fs ha
      split at hst
      · rename_i hcc
        obtain ⟨rfl, hlen, hr8⟩ := hcc
        have hq := Sum.inr.inj (Sum.inl.inj hst)
        obtain ⟨-, hq2⟩ := Prod.mk.inj hq
        obtain ⟨hAs, hre⟩ := Prod.mk.inj hq2
        subst hAs
        subst hre
        obtain ⟨hne, hg⟩ := m_cell_some ha
        have hAl : (Sum.inr (some a) :: As' : List MV).length = n := by rw [← hrev, List.length_reverse, List.length_take]; omega
        have hstk : st = (Sum.inr (some a) :: As' : List MV).reverse ++ st.drop n := by rw [← hrev, List.reverse_reverse, List.take_append_drop]
        split at hk
        · rename_i z hd
          have hts := m_hts hT
          have cw : CallW R s args (m_y y).cls (m_y y').cls z (m_y y') (m_bs y') (m_mL y') (m_rt y') (m_ws y') (m_rm d h h1) (h1.length - h.length) (m_hsz h1 - m_hsz h) (n - 1) :=
            ⟨callB_of (n - 1) hts (m_goodTB hcode) rfl rfl rfl (hT _ (m_in_ok hini).1 (m_in_ok hini).2) (hT _ (m_in_ok hk).1 (m_in_ok hk).2) ⟨hmh.1, hmh.2, hpd⟩ ⟨by show d + 1 ≤ R.frames; omega, by show 8 + (m_mL y' + 11) + 64 * d ≤ R.locals; omega⟩, hT _ (m_in_ok w1).1 (m_in_ok w1).2, hT _ (m_in_ok w3).1 (m_in_ok w3).2⟩
          have hrecv := va_recv hS.1 (hP.one hg) (m_cl_get hci) (q0 := 0) rfl
          rw [hcn] at hrecv
          have hpre : PreV s H (m_y y').cls (m_ad b sb a) (m_Pc D tc b sb S (Sum.inr (some a) :: As') h) (As'.map (m_v b sb)) := ⟨m_blind, by rw [m_ad_ne hne]; exact hrecv, fun U hU hW => ⟨rfl, by rw [hU]; exact hP, hS.warm hW, by
            rw [hU]
            refine va_X.moved hW.alike (hX.1.kept ?_)
            exact hF.2.1 sb (Nat.lt_of_lt_of_le hX.2.1 hX.2.2) (by show ¬ b ≤ sb; omega)⟩⟩
          have run := va_runV (H := H) (locs := locs) (cells := cells) (slots := slots) (e := e) (below := below) (meth := meth) (g := F0 m (m_pc y k) la (st.map (m_v b sb))) (As := As'.map (m_v b sb)) (rest := (st.drop n).map (m_v b sb)) ⟨hx, hb, hml, hown, hts⟩ (hM hmeth hAl) cw hpre rfl (by rw [List.length_map]; simp only [List.length_cons] at hAl; omega) (by rw [← hL.1]) (by
            show st.map (m_v b sb) = _
            generalize st.drop n = dr at hstk ⊢
            rw [hstk]
            simp only [List.reverse_cons, List.map_append, List.map_reverse, List.append_assoc]
            rfl) (lv_room (by rw [m_sum]; exact hr8)) hd ⟨by omega, by omega⟩
          refine x_called run hF (fun H1 locs1 hP1 hF1 => ?_)
          have key := kk H1 locs1 hP1 hF1
          rw [← h3, List.map_append] at key
          exact key
        · cases hk
      · exact (m_bad_ne hst).elim
    · exact (m_bad_ne hst).elim
  · exact (m_bad_ne hst).elim
theorem c_spec {w y' n ci : Nat} {As rest rv : List MV} {h1 : MH} (C : m_At p R s m args meth c S D tc b sb y (d + 1)) (hP : m_P D tc b sb h H) (hF : va_S (fun x => b ≤ x) s.heap H locs) (hL : m_L b sb (m_mL y) ls la) (hst : s_call y' n ci st h = .inl (.inr (y', As, rest)))
    (hk : k_spec (m_y y).cls (m_bs y) (m_pc y k) (m_pc y (k + 1)) w y' n ci = true) (hmono : h.length ≤ h1.length ∧ m_hsz h ≤ m_hsz h1) (hc : cells + h1.length ≤ R.cells + h.length) (hs : slots + m_hsz h1 ≤ R.slots + m_hsz h)
    (hM : k_meth y' n 1 ci = true → As.length = n → Met l (m_y y') (m_ws y') (m_rm d h h1) (m_Pc D tc b sb S As h) (m_Qc D tc b sb rv h1) (h1.length - h.length) (m_hsz h1 - m_hsz h) (fun q => b ≤ q))
    (kk : ∀ (H1 : Heap) (locs1 : List Loc), m_P D tc b sb h1 H1 → va_S (fun q => b ≤ q) s.heap H1 locs1 → W p l e R s m args below meth c H1 locs1 (cells + (h1.length - h.length)) (slots + (m_hsz h1 - m_hsz h)) Q (F0 m (m_pc y (k + 1)) la ((rv ++ rest).map (m_v b sb)))) : W p l e R s m args below meth c H locs cells slots Q (F0 m (m_pc y k) la (st.map (m_v b sb))) := by
  obtain ⟨hx, hb, hml, hown, hT, hnm, hS, hX, hR⟩ := C
  unfold k_spec at hk
  simp only [Bool.and_eq_true, decide_eq_true_eq] at hk
  obtain ⟨⟨h3, hmeth⟩, hk⟩ := hk
  obtain ⟨hy, hcode, hini, hmh, hpl, hmL, hn, hrk, hrest⟩ := k_meth_ok hmeth
  simp only [Bool.and_eq_true, decide_eq_true_eq, if_neg (show ¬ (1 : Nat) = 0 by decide), if_true] at hrest
  obtain ⟨⟨⟨⟨⟨w1, hci⟩, hcn⟩, hn0⟩, hpd⟩, w3⟩ := hrest
  unfold s_call at hst
  split at hst
  · rename_i a As' hrev
    split at hst
    · rename_i ci' fs ha
      split at hst
      · rename_i hcc
        obtain ⟨rfl, hlen, hr8⟩ := hcc
        have hq := Sum.inr.inj (Sum.inl.inj hst)
        obtain ⟨-, hq2⟩ := Prod.mk.inj hq
        obtain ⟨hAs, hre⟩ := Prod.mk.inj hq2
        subst hAs
        subst hre
        obtain ⟨hne, hg⟩ := m_cell_some ha
        have hAl : (Sum.inr (some a) :: As' : List MV).length = n := by rw [← hrev, List.length_reverse, List.length_take]; omega
        have hstk : st = (Sum.inr (some a) :: As' : List MV).reverse ++ st.drop n := by rw [← hrev, List.reverse_reverse, List.take_append_drop]
        split at hk
        · rename_i z hd
          have hts := m_hts hT
          have hrt : m_rt y' = none := by unfold m_rt; rw [w3.2]; rfl
          have cw : CallB R s args (m_y y).cls z (m_y y') (m_bs y') (m_mL y') none (m_ws y') (m_rm d h h1) (h1.length - h.length) (m_hsz h1 - m_hsz h) (n - 1) ∧ (m_y y').name = "<init>" ∧ (Cond.instanceMethod (m_y y')).before args s = true :=
            ⟨callB_of (n - 1) hts (m_goodTB hcode) (by unfold m_ws; rw [hrt]) rfl rfl (hT _ (m_in_ok hini).1 (m_in_ok hini).2) (hT _ (m_in_ok hk).1 (m_in_ok hk).2) ⟨hmh.1, hmh.2, hpd⟩ ⟨by show d + 1 ≤ R.frames; omega, by show 8 + (m_mL y' + 11) + 64 * d ≤ R.locals; omega⟩, w3.1, hT _ (m_in_ok w1).1 (m_in_ok w1).2⟩
          have hpre : PreS s H (m_Pc D tc b sb S (Sum.inr (some a) :: As') h) (.ref (m_ad b sb a) :: As'.map (m_v b sb)) := ⟨m_blind, fun U hU hW => ⟨rfl, by rw [hU]; exact hP, hS.warm hW, by
            rw [hU]
            refine va_X.moved hW.alike (hX.1.kept ?_)
            exact hF.2.1 sb (Nat.lt_of_lt_of_le hX.2.1 hX.2.2) (by show ¬ b ≤ sb; omega)⟩⟩
          have run := va_runI (H := H) (locs := locs) (cells := cells) (slots := slots) (e := e) (below := below) (meth := meth) (g := F0 m (m_pc y k) la (st.map (m_v b sb))) (As := As'.map (m_v b sb)) (rest := (st.drop n).map (m_v b sb)) ⟨hx, hb, hml, hown, hts⟩ (hM hmeth hAl) cw hpre rfl (by rw [List.length_map]; simp only [List.length_cons] at hAl; omega) (by rw [← hL.1]) (by
            show st.map (m_v b sb) = _
            generalize st.drop n = dr at hstk ⊢
            rw [hstk]
            simp only [List.reverse_cons, List.map_append, List.map_reverse, List.append_assoc]
            rfl) (lv_room (by rw [m_sum]; exact hr8)) hd ⟨by omega, by omega⟩
          refine x_called run hF (fun H1 locs1 hP1 hF1 => ?_)
          have key := kk H1 locs1 hP1 hF1
          rw [← h3, List.map_append] at key
          exact key
        · cases hk
      · exact (m_bad_ne hst).elim
    · exact (m_bad_ne hst).elim
  · exact (m_bad_ne hst).elim
theorem c_stat {w fl y' n : Nat} {As rest rv : List MV} {h1 : MH} (C : m_At p R s m args meth c S D tc b sb y (d + 1)) (hP : m_P D tc b sb h H) (hF : va_S (fun x => b ≤ x) s.heap H locs) (hL : m_L b sb (m_mL y) ls la) (hst : s_calls y' n st = .inl (.inr (y', As, rest)))
    (hk : k_stat (m_y y).cls (m_bs y) (m_pc y k) (m_pc y (k + 1)) w fl y' n = true) (hmono : h.length ≤ h1.length ∧ m_hsz h ≤ m_hsz h1) (hc : cells + h1.length ≤ R.cells + h.length) (hs : slots + m_hsz h1 ≤ R.slots + m_hsz h)
    (hM : k_meth y' n 0 0 = true → As.length = n → Met l (m_y y') (m_ws y') (m_rm d h h1) (m_Pc D tc b sb S As h) (m_Qc D tc b sb rv h1) (h1.length - h.length) (m_hsz h1 - m_hsz h) (fun q => b ≤ q))
    (kk : ∀ (H1 : Heap) (locs1 : List Loc), m_P D tc b sb h1 H1 → va_S (fun q => b ≤ q) s.heap H1 locs1 → W p l e R s m args below meth c H1 locs1 (cells + (h1.length - h.length)) (slots + (m_hsz h1 - m_hsz h)) Q (F0 m (m_pc y (k + 1)) la ((rv ++ rest).map (m_v b sb)))) : W p l e R s m args below meth c H locs cells slots Q (F0 m (m_pc y k) la (st.map (m_v b sb))) := by
  obtain ⟨hx, hb, hml, hown, hT, hnm, hS, hX, hR⟩ := C
  unfold k_stat at hk
  simp only [Bool.and_eq_true, decide_eq_true_eq] at hk
  obtain ⟨⟨h3, hmeth⟩, hk⟩ := hk
  obtain ⟨hy, hcode, hini, hmh, hpl, hmL, hn, hrk, hrest⟩ := k_meth_ok hmeth
  simp only [Bool.and_eq_true, decide_eq_true_eq, if_true] at hrest
  obtain ⟨w1, hpd⟩ := hrest
  unfold s_calls at hst
  split at hst
  · rename_i hcc
    obtain ⟨hlen, hr8⟩ := hcc
    have hq := Sum.inr.inj (Sum.inl.inj hst)
    obtain ⟨-, hq2⟩ := Prod.mk.inj hq
    obtain ⟨hAs, hre⟩ := Prod.mk.inj hq2
    subst hAs
    subst hre
    have hAl : ((st.take n).reverse).length = n := by rw [List.length_reverse, List.length_take]; omega
    have hstk : st.map (m_v b sb) = (((st.take n).reverse).map (m_v b sb)).reverse ++ (st.drop n).map (m_v b sb) := by rw [List.map_reverse, List.reverse_reverse, ← List.map_append, List.take_append_drop]
    have hts := m_hts hT
    have hpre : PreS s H (m_Pc D tc b sb S ((st.take n).reverse) h) (((st.take n).reverse).map (m_v b sb)) := ⟨m_blind, fun U hU hW => ⟨rfl, by rw [hU]; exact hP, hS.warm hW, by
      rw [hU]
      refine va_X.moved hW.alike (hX.1.kept ?_)
      exact hF.2.1 sb (Nat.lt_of_lt_of_le hX.2.1 hX.2.2) (by show ¬ b ≤ sb; omega)⟩⟩
    split at hk
    · rename_i z hd
      have run : va_Run p l e R s m args below meth c H locs cells slots (h1.length - h.length) (m_hsz h1 - m_hsz h) (F0 m (m_pc y k) la (st.map (m_v b sb))) ((st.drop n).map (m_v b sb)) (m_Qc D tc b sb rv h1 (((st.take n).reverse).map (m_v b sb)).toArray) (fun q => b ≤ q) := by
        split at hk
        · exact va_runS (H := H) (locs := locs) (cells := cells) (slots := slots) (e := e) (below := below) (meth := meth) (g := F0 m (m_pc y k) la (st.map (m_v b sb))) (rest := (st.drop n).map (m_v b sb)) ⟨hx, hb, hml, hown, hts⟩ (hM hmeth hAl) ⟨callB_of n hts (m_goodTB hcode) rfl rfl rfl (hT _ (m_in_ok hini).1 (m_in_ok hini).2) (hT _ (m_in_ok hk).1 (m_in_ok hk).2) ⟨hmh.1, hmh.2, hpd⟩ ⟨by show d + 1 ≤ R.frames; omega, by show 8 + (m_mL y' + 11) + 64 * d ≤ R.locals; omega⟩, hT _ (m_in_ok w1).1 (m_in_ok w1).2⟩ hpre rfl (by rw [List.length_map]; exact hAl) (by rw [← hL.1]) hstk (lv_room (by rw [m_sum]; exact hr8)) hd ⟨by omega, by omega⟩
        · exact va_runSN (H := H) (locs := locs) (cells := cells) (slots := slots) (e := e) (below := below) (meth := meth) (g := F0 m (m_pc y k) la (st.map (m_v b sb))) (rest := (st.drop n).map (m_v b sb)) ⟨hx, hb, hml, hown, hts⟩ (hM hmeth hAl) ⟨va_cnB n hts (m_goodTB hcode) rfl rfl rfl (hS.2.1 _ (m_inN_ok hk).1 (m_inN_ok hk).2) (hT _ (m_in_ok hini).1 (m_in_ok hini).2) ⟨hmh.1, hmh.2, hpd⟩ ⟨by show d + 1 ≤ R.frames; omega, by show 8 + (m_mL y' + 11) + 64 * d ≤ R.locals; omega⟩, hT _ (m_in_ok w1).1 (m_in_ok w1).2, trivial⟩ hpre rfl (by rw [List.length_map]; exact hAl) (by rw [← hL.1]) hstk (lv_room (by rw [m_sum]; exact hr8)) hd ⟨by omega, by omega⟩
      refine x_called run hF (fun H1 locs1 hP1 hF1 => ?_)
      have key := kk H1 locs1 hP1 hF1
      rw [← h3, List.map_append] at key
      exact key
    · cases hk
  · exact (m_bad_ne hst).elim
end MS3
end
section
theorem stp_call {S : Nat × (Nat → Int32)} {d k : Nat} {ls : ML} {st : List MV} {h : MH} {q : Nat × List MV × List MV} : ∀ i : MI, stp S d i k ls st h = .inl (.inr q) → (i.1 = 24 ∨ i.1 = 29 ∨ i.1 = 30) ∧ q.1 = i.2.1
  | (0, _, _, _, _), e => (m_nx_call e).elim
  | (1, _, _, _, _), e => by
    replace e : s_load _ _ _ _ _ _ = _ := e
    unfold s_load at e
    repeat' split at e
    all_goals first | exact (m_bad_ne e).elim | exact (m_nx_call e).elim
  | (2, _, _, _, _), e => by
    replace e : s_store _ _ _ _ _ _ = _ := e
    unfold s_store at e
    repeat' split at e
    all_goals first | exact (m_bad_ne e).elim | exact (m_nx_call e).elim
  | (3, _, _, _, _), e => by
    replace e : s_iinc _ _ _ _ _ _ = _ := e
    unfold s_iinc at e
    repeat' split at e
    all_goals first | exact (m_bad_ne e).elim | exact (m_nx_call e).elim
  | (4, _, _, _, _), e => by
    replace e : s_bin _ _ _ _ _ = _ := e
    unfold s_bin at e
    repeat' split at e
    all_goals first | exact (m_bad_ne e).elim | exact (m_nx_call e).elim
  | (5, _, _, _, _), e => by
    replace e : s_un _ _ _ _ _ = _ := e
    unfold s_un at e
    repeat' split at e
    all_goals first | exact (m_bad_ne e).elim | exact (m_nx_call e).elim
  | (6, _, _, _, _), e => by
    replace e : s_dup _ _ _ _ = _ := e
    unfold s_dup at e
    repeat' split at e
    all_goals first | exact (m_bad_ne e).elim | exact (m_nx_call e).elim
  | (7, _, _, _, _), e => by
    replace e : s_dup2 _ _ _ _ = _ := e
    unfold s_dup2 at e
    repeat' split at e
    all_goals first | exact (m_bad_ne e).elim | exact (m_nx_call e).elim
  | (8, _, _, _, _), e => by
    replace e : s_pop _ _ _ _ = _ := e
    unfold s_pop at e
    repeat' split at e
    all_goals first | exact (m_bad_ne e).elim | exact (m_nx_call e).elim
  | (9, _, _, _, _), e => by
    replace e : s_if _ _ _ _ _ _ = _ := e
    unfold s_if at e
    split at e
    · cases e
    · exact (m_bad_ne e).elim
  | (10, _, _, _, _), e => by
    replace e : s_icmp _ _ _ _ _ _ = _ := e
    unfold s_icmp at e
    split at e
    · cases e
    · exact (m_bad_ne e).elim
  | (11, _, _, _, _), e => by cases e
  | (12, _, _, _, _), e => by
    replace e : s_switch _ _ _ _ _ _ = _ := e
    unfold s_switch at e
    split at e
    · cases e
    · exact (m_bad_ne e).elim
  | (13, _, _, _, _), e => by
    replace e : s_getf _ _ _ _ _ _ = _ := e
    unfold s_getf at e
    repeat' split at e
    all_goals first | exact (m_bad_ne e).elim | exact (m_nx_call e).elim
  | (14, _, _, _, _), e => by
    replace e : s_putf _ _ _ _ _ _ _ = _ := e
    unfold s_putf at e
    repeat' split at e
    all_goals first | exact (m_bad_ne e).elim | exact (m_nx_call e).elim
  | (15, _, _, _, _), e => by
    replace e : s_iald _ _ _ _ _ = _ := e
    unfold s_iald at e
    repeat' split at e
    all_goals first | exact (m_bad_ne e).elim | exact (m_nx_call e).elim
  | (16, _, _, _, _), e => by
    replace e : s_iast _ _ _ _ = _ := e
    unfold s_iast at e
    repeat' split at e
    all_goals first | exact (m_bad_ne e).elim | exact (m_nx_call e).elim
  | (17, _, _, _, _), e => by
    replace e : s_aald _ _ _ _ = _ := e
    unfold s_aald at e
    repeat' split at e
    all_goals first | exact (m_bad_ne e).elim | exact (m_nx_call e).elim
  | (18, _, _, _, _), e => by
    replace e : s_aast _ _ _ _ = _ := e
    unfold s_aast at e
    repeat' split at e
    all_goals first | exact (m_bad_ne e).elim | exact (m_nx_call e).elim
  | (19, _, _, _, _), e => by
    replace e : s_alen _ _ _ _ _ = _ := e
    unfold s_alen at e
    repeat' split at e
    all_goals first | exact (m_bad_ne e).elim | exact (m_nx_call e).elim
  | (20, _, _, _, _), e => by
    replace e : s_new _ _ _ _ _ = _ := e
    unfold s_new at e
    repeat' split at e
    all_goals first | exact (m_bad_ne e).elim | exact (m_nx_call e).elim
  | (21, _, _, _, _), e => by
    replace e : s_newa _ _ _ _ = _ := e
    unfold s_newa at e
    repeat' split at e
    all_goals first | exact (m_bad_ne e).elim | exact (m_nx_call e).elim
  | (22, _, _, _, _), e => by
    replace e : s_newq _ _ _ _ _ = _ := e
    unfold s_newq at e
    repeat' split at e
    all_goals first | exact (m_bad_ne e).elim | exact (m_nx_call e).elim
  | (23, _, _, _, _), e => by
    replace e : s_multi _ _ _ _ = _ := e
    unfold s_multi at e
    repeat' split at e
    all_goals first | exact (m_bad_ne e).elim | exact (m_nx_call e).elim
  | (24, _, _, _, _), e => by
    refine ⟨Or.inl rfl, ?_⟩
    replace e : s_call _ _ _ _ _ = _ := e
    unfold s_call at e
    repeat' split at e
    all_goals first | exact (m_bad_ne e).elim | (cases e; rfl)
  | (25, _, _, _, _), e => by
    replace e : s_oin _ _ _ _ _ = _ := e
    unfold s_oin at e
    repeat' split at e
    all_goals first | exact (m_bad_ne e).elim | exact (m_nx_call e).elim
  | (26, _, _, _, _), e => by
    replace e : s_copy _ _ _ _ _ = _ := e
    unfold s_copy at e
    repeat' split at e
    all_goals first | exact (m_bad_ne e).elim | exact (m_nx_call e).elim
  | (27, _, _, _, _), e => by cases e
  | (28, _, _, _, _), e => by cases e
  | (29, _, _, _, _), e => by
    refine ⟨Or.inr (Or.inl rfl), ?_⟩
    replace e : s_calls _ _ _ = _ := e
    unfold s_calls at e
    repeat' split at e
    all_goals first | exact (m_bad_ne e).elim | (cases e; rfl)
  | (30, _, _, _, _), e => by
    refine ⟨Or.inr (Or.inr rfl), ?_⟩
    replace e : s_call _ _ _ _ _ = _ := e
    unfold s_call at e
    repeat' split at e
    all_goals first | exact (m_bad_ne e).elim | (cases e; rfl)
  | (31, _, _, _, _), e => by
    replace e : s_mm _ _ _ _ _ _ = _ := e
    unfold s_mm at e
    repeat' split at e
    all_goals first | exact (m_bad_ne e).elim | exact (m_nx_call e).elim
  | (32, _, _, _, _), e => by
    replace e : s_mm _ _ _ _ _ _ = _ := e
    unfold s_mm at e
    repeat' split at e
    all_goals first | exact (m_bad_ne e).elim | exact (m_nx_call e).elim
  | (_ + 33, _, _, _, _), e => (m_bad_ne e).elim
theorem body_ok (l : Launch) {S : Nat × (Nat → Int32)} {D : va_G} {tc : Nat → ClassId} {b sb : Nat} (hsb : sb < b) : ∀ (n d y k : Nat) (ls : ML) (st : List MV) (h : MH) (kR : Nat) (stR : List MV) (h' : MH), y < 176 → bodyN S n d y k ls st h = some (kR, stR, h') → (h.length ≤ h'.length ∧ m_hsz h ≤ m_hsz h') ∧ m_Body l S D tc b sb y d k ls st h kR stR h'
  | 0, _, _, _, _, _, _, _, _, _, _, e => by
    unfold bodyN at e
    cases e
  | n + 1, d, y, k, ls, st, h, kR, stR, h', hy, e => by
    unfold bodyN at e
    split at e
    · cases e
    · rename_i i hi
      have hck := m_ck_at hy hi
      split at e
      · cases e
        exact ⟨⟨Nat.le_refl _, Nat.le_refl _⟩, fun p e R s m args below meth c H locs cells slots Q la C hP hF hL hc hs kk => kk H locs la cells slots hP hF rfl rfl⟩
      · cases e
      · rename_i q hst
        obtain ⟨k1, ls1, st1, h1⟩ := q
        obtain ⟨hm1, hm2⟩ := stp_mono i hst
        obtain ⟨⟨hn1, hn2⟩, hB⟩ := body_ok l hsb n d y k1 ls1 st1 h1 kR stR h' hy e
        dsimp only at hm1 hm2
        refine ⟨⟨Nat.le_trans hm1 hn1, Nat.le_trans hm2 hn2⟩, fun p e R s m args below meth c H locs cells slots Q la C hP hF hL hc hs kk => ?_⟩
        refine stp_ok C hP hF hL (by dsimp only; omega) (by dsimp only; omega) (fun H1 locs1 la1 cells1 slots1 hP1 hF1 hL1 hc1 hs1 => ?_) i _ hst hck
        dsimp only at hP1 hL1 hc1 hs1
        refine hB p e R s m args below meth c H1 locs1 cells1 slots1 Q la1 C hP1 hF1 hL1 (by omega) (by omega) (fun H2 locs2 la2 cells2 slots2 hP2 hF2 hc2 hs2 => kk H2 locs2 la2 cells2 slots2 hP2 hF2 (by omega) (by omega))
      · rename_i q hst
        obtain ⟨y', As, rest⟩ := q
        split at e
        · cases e
        · rename_i d'
          split at e
          · cases e
          · rename_i r hr
            obtain ⟨kR1, stR1, h1⟩ := r
            split at e
            · cases e
            · rename_i rv hrv
              dsimp only at hr hrv e
              obtain ⟨hop, hyy⟩ := stp_call i hst
              obtain ⟨op, a, b', v, ts⟩ := i
              dsimp only at hop hyy
              subst hyy
              have hy' : y' < 176 := by
                rcases hop with rfl | rfl | rfl
                · have hck2 : k_call _ _ _ _ _ _ _ _ = true := hck
                  unfold k_call at hck2
                  simp only [Bool.and_eq_true] at hck2
                  exact (k_meth_ok hck2.1.2).1
                · have hck2 : k_stat _ _ _ _ _ _ _ _ = true := hck
                  unfold k_stat at hck2
                  simp only [Bool.and_eq_true] at hck2
                  exact (k_meth_ok hck2.1.2).1
                · have hck2 : k_spec _ _ _ _ _ _ _ _ = true := hck
                  unfold k_spec at hck2
                  simp only [Bool.and_eq_true] at hck2
                  exact (k_meth_ok hck2.1.2).1
              obtain ⟨hm, hB1⟩ := body_ok l hsb n d' y' 0 (m_ent y' As) [] h kR1 stR1 h1 hy' hr
              obtain ⟨hn, hB⟩ := body_ok l hsb n (d' + 1) y (k + 1) ls (rv ++ rest) h1 kR stR h' hy e
              refine ⟨⟨Nat.le_trans hm.1 hn.1, Nat.le_trans hm.2 hn.2⟩, fun p e R s m args below meth c H locs cells slots Q la C hP hF hL hc hs kk => ?_⟩
              have go : ∀ (H1 : Heap) (locs1 : List Loc), m_P D tc b sb h1 H1 → va_S (fun q => b ≤ q) s.heap H1 locs1 → W p l e R s m args below meth c H1 locs1 (cells + (h1.length - h.length)) (slots + (m_hsz h1 - m_hsz h)) Q (F0 m (m_pc y (k + 1)) la ((rv ++ rest).map (m_v b sb))) := fun H1 locs1 hP1 hF1 =>
                hB p e R s m args below meth c H1 locs1 _ _ Q la C hP1 hF1 hL (by omega) (by omega) (fun H2 locs2 la2 cells2 slots2 hP2 hF2 hc2 hs2 => kk H2 locs2 la2 cells2 slots2 hP2 hF2 (by omega) (by omega))
              rcases hop with rfl | rfl | rfl
              · exact c_virt C hP hF hL hst hck hm (by omega) (by omega) (fun h1 h2 => met_ok l hsb h1 h2 hm hB1 hrv) go
              · exact c_stat C hP hF hL hst hck hm (by omega) (by omega) (fun h1 h2 => met_ok l hsb h1 h2 hm hB1 hrv) go
              · exact c_spec C hP hF hL hst hck hm (by omega) (by omega) (fun h1 h2 => met_ok l hsb h1 h2 hm hB1 hrv) go
end
section
/-! the memory behind the constructors: a fixed shape, ints in it -/
abbrev Mem : Type := Nat → Nat → Int32
abbrev MQ1 : Type := List MV → Mem → Prop
abbrev Shp : Type := (Nat × List (Option Nat)) ⊕ (Nat ⊕ (Nat × List Nat))
def m_pl (a : Nat) : List Shp := [.inl (3, [some (a + 1), some (a + 2), some (a + 3), none, none, none, none, none, none, none, none, none]), .inr (.inl 42), .inr (.inl 42), .inr (.inl 42)]
def m_sht (a : Nat) : List Shp := [.inl (5, [some (a + 1), none, none]), .inr (.inl 6)]
def m_sh : List Shp := [.inl (6, [some 1, some 3, some 4, some 24, some 51, none]), .inl (0, [some 2]), .inr (.inl 81), .inl (2, [some 1]), .inl (4, [some 1, some 3, some 5, some 22, some 23, none, none, none, none, none]), .inr (.inr (2, [6, 10, 14, 18]))] ++ m_pl 6 ++ m_pl 10 ++ m_pl 14 ++ m_pl 18 ++
  [.inr (.inl 6), .inr (.inl 6), .inl (1, [some 25, none, none]), .inr (.inr (3, (List.range 25).map (fun i => 26 + i)))] ++ List.replicate 25 (.inr (.inl 81)) ++ [.inr (.inr (1, [52, 54, 56, 58]))] ++ m_sht 52 ++ m_sht 54 ++ m_sht 56 ++ m_sht 58 ++
  [.inl (7, [some 61, some 62, none, some 63, some 64, some 65, none, some 66, some 67, none, some 68, some 69, none, none, none]), .inr (.inl 86), .inr (.inl 2150), .inr (.inl 4), .inr (.inl 4), .inr (.inl 24), .inr (.inl 6), .inr (.inl 8), .inr (.inl 16), .inr (.inl 16)]
def m_f1 (σ : Mem) (a j : Nat) (f : Option Nat) : MV := match f with
  | none => .inl (σ a j)
  | some r => .inr (some r)
def m_fv (σ : Mem) (a : Nat) (fs : List (Option Nat)) : List MV := fs.mapIdx (m_f1 σ a)
def m_cv (σ : Mem) (a : Nat) (e : Shp) : MC := match e with
  | .inl o => .inl (o.1, m_fv σ a o.2)
  | .inr (.inl n) => .inr (.inl ((List.range n).map (σ a)))
  | .inr (.inr q) => .inr (.inr (q.1, q.2.map some))
def hp (σ : Mem) : MH := m_sh.mapIdx (m_cv σ)
theorem m_sh_len : m_sh.length = 70 := by decide +kernel
theorem hp_get {σ : Mem} {a : Nat} {e : Shp} (h : m_sh[a]? = some e) : (hp σ)[a]? = some (m_cv σ a e) := by
  unfold hp
  rw [List.getElem?_mapIdx, h]
  rfl
theorem hp_cell {σ : Mem} {a : Nat} {e : Shp} (h : m_sh[a]? = some e) : m_cell (hp σ) a = some (m_cv σ a e) := by
  unfold m_cell
  have hl : a < 70 := by
    have := (List.getElem?_eq_some_iff.mp h).1
    rwa [m_sh_len] at this
  rw [if_neg (show ¬ a = m_scr by unfold m_scr; omega)]
  exact hp_get h
def up (σ : Mem) (a j : Nat) (v : Int32) : Mem := fun a' j' => if a' = a ∧ j' = j then v else σ a' j'
def upr (σ : Mem) (a : Nat) (f : Nat → Int32) : Mem := fun a' j' => if a' = a then f j' else σ a' j'
theorem m_fv_get {σ : Mem} {a j : Nat} {fs : List (Option Nat)} {f : Option Nat} (h : fs[j]? = some f) : (m_fv σ a fs)[j]? = some (m_f1 σ a j f) := by
  unfold m_fv
  rw [List.getElem?_mapIdx, h]
  rfl
/-- a cell that is written anew is the memory's, written anew -/
theorem hp_set {σ σ' : Mem} {a : Nat} {e : Shp} {x : MC} (h : m_sh[a]? = some e) (ho : ∀ a', a' ≠ a → σ' a' = σ a') (hx : x = m_cv σ' a e) : (hp σ).set a x = hp σ' := by
  apply List.ext_getElem?
  intro k
  by_cases hk : k = a
  · subst hk
    have hl : k < (hp σ).length := by
      unfold hp
      rw [List.length_mapIdx]
      exact (List.getElem?_eq_some_iff.mp h).1
    rw [List.getElem?_set_self hl, hp_get h, hx]
  · rw [List.getElem?_set_ne (Ne.symm hk)]
    unfold hp
    rw [List.getElem?_mapIdx, List.getElem?_mapIdx]
    cases hc : m_sh[k]? with
    | none => rfl
    | some q =>
      simp only [Option.map_some]
      congr 1
      rcases q with o | n | q
      · have e1 : m_f1 σ' k = m_f1 σ k := by
          funext j f
          unfold m_f1
          rw [ho k hk]
        simp only [m_cv, m_fv]
        rw [e1]
      · simp only [m_cv]
        rw [ho k hk]
      · rfl
theorem hp_putf {σ : Mem} {a j ci : Nat} {fs : List (Option Nat)} {v : Int32} (h : m_sh[a]? = some (.inl (ci, fs))) (hf : fs[j]? = some none) : (hp σ).set a (.inl (ci, (m_fv σ a fs).set j (.inl v))) = hp (up σ a j v) := by
  refine hp_set h (fun a' ha => ?_) ?_
  · funext j'
    unfold up
    rw [if_neg (fun q => ha q.1)]
  · show _ = Sum.inl (ci, m_fv _ a fs)
    congr 2
    apply List.ext_getElem?
    intro k
    have hj : j < (m_fv σ a fs).length := by
      unfold m_fv
      rw [List.length_mapIdx]
      exact (List.getElem?_eq_some_iff.mp hf).1
    by_cases hk : k = j
    · subst hk
      rw [List.getElem?_set_self hj, m_fv_get hf]
      simp [up, m_f1]
    · rw [List.getElem?_set_ne (Ne.symm hk)]
      unfold m_fv
      rw [List.getElem?_mapIdx, List.getElem?_mapIdx]
      cases hc : fs[k]? with
      | none => rfl
      | some f =>
        cases f with
        | none => simp [up, hk, m_f1]
        | some r => rfl
theorem hp_iast {σ : Mem} {a j n : Nat} {v : Int32} (h : m_sh[a]? = some (.inr (.inl n))) (hj : j < n) : (hp σ).set a (.inr (.inl (((List.range n).map (σ a)).set j v))) = hp (up σ a j v) := by
  refine hp_set h (fun a' ha => ?_) ?_
  · funext j'
    unfold up
    rw [if_neg (fun q => ha q.1)]
  · show _ = Sum.inr (Sum.inl ((List.range n).map _))
    congr 2
    apply List.ext_getElem?
    intro k
    have hl : j < ((List.range n).map (σ a)).length := by simp; exact hj
    by_cases hk : k = j
    · subst hk
      rw [List.getElem?_set_self hl, List.getElem?_map, List.getElem?_range hj]
      simp [up]
    · rw [List.getElem?_set_ne (Ne.symm hk), List.getElem?_map, List.getElem?_map]
      cases hc : (List.range n)[k]? with
      | none => rfl
      | some f =>
        have : f = k := by
          have h2 := List.getElem?_eq_some_iff.mp hc
          obtain ⟨h3, h4⟩ := h2
          rw [List.getElem_range] at h4
          exact h4.symm
        subst this
        simp [up, hk]
theorem hp_copy {σ : Mem} {a a1 n n1 sp dp q : Nat} (h : m_sh[a]? = some (.inr (.inl n))) (h1 : m_sh[a1]? = some (.inr (.inl n1))) (hs : sp + q ≤ n) : (hp σ).set a1 (.inr (.inl (m_cpy ((List.range n).map (σ a)) ((List.range n1).map (σ a1)) sp dp q))) = hp (upr σ a1 (fun k => if dp ≤ k ∧ k < dp + q then σ a (sp + (k - dp)) else σ a1 k)) := by
  refine hp_set h1 (fun a' ha => ?_) ?_
  · funext j'
    unfold upr
    rw [if_neg ha]
  · show _ = Sum.inr (Sum.inl ((List.range n1).map _))
    congr 2
    unfold m_cpy
    rw [List.length_map, List.length_range]
    apply List.map_congr_left
    intro k hk
    have hk' := List.mem_range.mp hk
    unfold upr
    rw [if_pos rfl]
    dsimp only
    by_cases hc : dp ≤ k ∧ k < dp + q
    · rw [if_pos hc, if_pos hc, List.getD_eq_getElem?_getD, List.getElem?_map, List.getElem?_range (by omega)]
      rfl
    · rw [if_neg hc, if_neg hc, List.getD_eq_getElem?_getD, List.getElem?_map, List.getElem?_range hk']
      rfl
end
section
/-! runs over the memory: weakest preconditions -/
theorem bodyN_succ {S : Nat × (Nat → Int32)} : ∀ (n d y k : Nat) (ls : ML) (st : List MV) (h : MH) (r : Nat × List MV × MH), bodyN S n d y k ls st h = some r → bodyN S (n + 1) d y k ls st h = some r
  | 0, _, _, _, _, _, _, _, e => by
    unfold bodyN at e
    cases e
  | n + 1, d, y, k, ls, st, h, r, e => by
    unfold bodyN at e ⊢
    split at e
    · cases e
    · rename_i i hi
      split at e
      · exact e
      · cases e
      · exact bodyN_succ n _ _ _ _ _ _ _ e
      · split at e
        · cases e
        · rename_i d'
          try dsimp only at e ⊢
          split at e
          · cases e
          · rename_i r1 hr1
            rw [bodyN_succ n _ _ _ _ _ _ _ hr1]
            dsimp only
            split at e
            · cases e
            · rename_i rv hrv
              exact bodyN_succ n _ _ _ _ _ _ _ e
theorem bodyN_le {S : Nat × (Nat → Int32)} {n n' d y k : Nat} {ls : ML} {st : List MV} {h : MH} {r : Nat × List MV × MH} (hn : n ≤ n') (e : bodyN S n d y k ls st h = some r) : bodyN S n' d y k ls st h = some r := by
  induction hn with
  | refl => exact e
  | step _ ih => exact bodyN_succ _ _ _ _ _ _ _ _ ih
theorem b_next {S : Nat × (Nat → Int32)} {n d y k k' : Nat} {ls ls' : ML} {st st' : List MV} {h h' : MH} {i : MI} {cd : List MI} (hc : m_code y = cd) (hi : cd[k]? = some i) (hs : stp S d i k ls st h = .inl (.inl (k', ls', st', h'))) : bodyN S (n + 1) d y k ls st h = bodyN S n d y k' ls' st' h' := by
  conv => lhs; unfold bodyN
  rw [hc, hi]
  dsimp only
  rw [hs]
theorem b_call {S : Nat × (Nat → Int32)} {n d y k y' : Nat} {ls : ML} {st As rest rv : List MV} {kR : Nat} {stR : List MV} {h hh : MH} {i : MI} {cd : List MI} (hc : m_code y = cd) (hi : cd[k]? = some i) (hs : stp S (d + 1) i k ls st h = .inl (.inr (y', As, rest))) (h1 : bodyN S n d y' 0 (m_ent y' As) [] h = some (kR, stR, hh)) (h2 : m_ret y' kR stR = some rv) : bodyN S (n + 1) (d + 1) y k ls st h = bodyN S n (d + 1) y (k + 1) ls (rv ++ rest) hh := by
  conv => lhs; unfold bodyN
  rw [hc, hi]
  dsimp only
  rw [hs]
  dsimp only
  rw [h1]
  dsimp only
  rw [h2]
theorem b_ret {S : Nat × (Nat → Int32)} {n d y k : Nat} {ls : ML} {st : List MV} {h : MH} {i : MI} {cd : List MI} (hc : m_code y = cd) (hi : cd[k]? = some i) (hs : stp S d i k ls st h = .inr true) : bodyN S (n + 1) d y k ls st h = some (k, st, h) := by
  conv => lhs; unfold bodyN
  rw [hc, hi]
  dsimp only
  rw [hs]
def Ev (S : Nat × (Nat → Int32)) (d y k : Nat) (ls : ML) (st : List MV) (σ : Mem) (Q : MQ1) : Prop := ∃ (n kR : Nat) (stR : List MV) (σ' : Mem) (rv : List MV), bodyN S n d y k ls st (hp σ) = some (kR, stR, hp σ') ∧ m_ret y kR stR = some rv ∧ Q rv σ'
def Ec (S : Nat × (Nat → Int32)) (d y : Nat) (As : List MV) (σ : Mem) (Q : MQ1) : Prop := Ev S d y 0 (m_ent y As) [] σ Q
section EV
variable {S : Nat × (Nat → Int32)} {d y k : Nat} {ls : ML} {st : List MV} {σ : Mem} {Q : MQ1} {cd : List MI}
theorem Ev.mono {Q' : MQ1} (h : Ev S d y k ls st σ Q) (hq : ∀ rv σ', Q rv σ' → Q' rv σ') : Ev S d y k ls st σ Q' := by
  obtain ⟨n, kR, stR, σ', rv, h1, h2, h3⟩ := h
  exact ⟨n, kR, stR, σ', rv, h1, h2, hq _ _ h3⟩
theorem Ec.mono {As : List MV} {Q' : MQ1} (h : Ec S d y As σ Q) (hq : ∀ rv σ', Q rv σ' → Q' rv σ') : Ec S d y As σ Q' := Ev.mono h hq
theorem e_next {i : MI} {k' : Nat} {ls' : ML} {st' : List MV} {σ' : Mem} (hc : m_code y = cd) (hi : cd[k]? = some i) (hs : stp S d i k ls st (hp σ) = .inl (.inl (k', ls', st', hp σ'))) (kk : Ev S d y k' ls' st' σ' Q) : Ev S d y k ls st σ Q := by
  obtain ⟨n, kR, stR, σ2, rv, h1, h2, h3⟩ := kk
  exact ⟨n + 1, kR, stR, σ2, rv, (b_next hc hi hs).trans h1, h2, h3⟩
theorem e_call0 {i : MI} {y' : Nat} {As rest : List MV} (hc : m_code y = cd) (hi : cd[k]? = some i) (hs : stp S (d + 1) i k ls st (hp σ) = .inl (.inr (y', As, rest))) (kk : Ec S d y' As σ (fun rv σ' => Ev S (d + 1) y (k + 1) ls (rv ++ rest) σ' Q)) : Ev S (d + 1) y k ls st σ Q := by
  obtain ⟨n, kR, stR, σ2, rv, h1, h2, h3⟩ := kk
  obtain ⟨n2, kR2, stR2, σ3, rv2, h4, h5, h6⟩ := h3
  exact ⟨max n n2 + 1, kR2, stR2, σ3, rv2, (b_call hc hi hs (bodyN_le (Nat.le_max_left n n2) h1) h2).trans (bodyN_le (Nat.le_max_right n n2) h4), h5, h6⟩
theorem e_ret {i : MI} {rv : List MV} (hc : m_code y = cd) (hi : cd[k]? = some i) (hs : stp S d i k ls st (hp σ) = .inr true) (hr : m_ret y k st = some rv) (kk : Q rv σ) : Ev S d y k ls st σ Q := by
  exact ⟨1, k, st, σ, rv, b_ret hc hi hs, hr, kk⟩
theorem e_push {a z : Nat} {v : Int32} {ts : List Nat} (hc : m_code y = cd) (hi : cd[k]? = some (0, a, z, v, ts)) (kk : Ev S d y (k + 1) ls (.inl v :: st) σ Q) : Ev S d y k ls st σ Q := e_next hc hi rfl kk
theorem e_load {a z : Nat} {f : Int32} {ts : List Nat} {v : MV} (hc : m_code y = cd) (hi : cd[k]? = some (1, a, z, f, ts)) (hv : ls[a]? = some (some v)) (hm : m_kind f v = true) (kk : Ev S d y (k + 1) ls (v :: st) σ Q) : Ev S d y k ls st σ Q := by
  refine e_next hc hi ?_ kk
  show s_load a f k ls st (hp σ) = _
  unfold s_load
  rw [hv]
  dsimp only
  rw [if_pos hm]
  rfl
theorem e_store {a z : Nat} {f : Int32} {ts : List Nat} {v : MV} {ls' : ML} (hc : m_code y = cd) (hi : cd[k]? = some (2, a, z, f, ts)) (hl : a < ls.length) (hm : m_kind f v = true) (hls : ls.set a (some v) = ls') (kk : Ev S d y (k + 1) ls' st σ Q) : Ev S d y k ls (v :: st) σ Q := by
  subst hls
  refine e_next hc hi ?_ kk
  show s_store a f k ls (v :: st) (hp σ) = _
  unfold s_store
  dsimp only
  rw [if_pos ⟨hl, hm⟩]
  rfl
theorem e_iinc {a z : Nat} {v x : Int32} {ts : List Nat} {ls' : ML} (hc : m_code y = cd) (hi : cd[k]? = some (3, a, z, v, ts)) (hv : ls[a]? = some (some (.inl x))) (hls : ls.set a (some (.inl (x + v))) = ls') (kk : Ev S d y (k + 1) ls' st σ Q) : Ev S d y k ls st σ Q := by
  subst hls
  refine e_next hc hi ?_ kk
  show s_iinc a v k ls st (hp σ) = _
  unfold s_iinc
  rw [hv]
  rfl
theorem e_bin {w z : Nat} {f : Int32} {ts : List Nat} {x x' r : Int32} (hc : m_code y = cd) (hi : cd[k]? = some (4, w, z, f, ts)) (hr : m_bin w x x' = r) (kk : Ev S d y (k + 1) ls (.inl r :: st) σ Q) : Ev S d y k ls (.inl x' :: .inl x :: st) σ Q := by
  subst hr
  exact e_next hc hi rfl kk
theorem e_un {w z : Nat} {f : Int32} {ts : List Nat} {x r : Int32} (hc : m_code y = cd) (hi : cd[k]? = some (5, w, z, f, ts)) (hr : m_un w x = r) (kk : Ev S d y (k + 1) ls (.inl r :: st) σ Q) : Ev S d y k ls (.inl x :: st) σ Q := by
  subst hr
  exact e_next hc hi rfl kk
theorem e_dup {a z : Nat} {f : Int32} {ts : List Nat} {v : MV} (hc : m_code y = cd) (hi : cd[k]? = some (6, a, z, f, ts)) (kk : Ev S d y (k + 1) ls (v :: v :: st) σ Q) : Ev S d y k ls (v :: st) σ Q := e_next hc hi rfl kk
theorem e_dup2 {a z : Nat} {f : Int32} {ts : List Nat} {v u : MV} (hc : m_code y = cd) (hi : cd[k]? = some (7, a, z, f, ts)) (kk : Ev S d y (k + 1) ls (v :: u :: v :: u :: st) σ Q) : Ev S d y k ls (v :: u :: st) σ Q := e_next hc hi rfl kk
theorem e_pop {a z : Nat} {f : Int32} {ts : List Nat} {v : MV} (hc : m_code y = cd) (hi : cd[k]? = some (8, a, z, f, ts)) (kk : Ev S d y (k + 1) ls st σ Q) : Ev S d y k ls (v :: st) σ Q := e_next hc hi rfl kk
theorem e_if {w t : Nat} {f : Int32} {ts : List Nat} {x : Int32} {P : Prop} (hc : m_code y = cd) (hi : cd[k]? = some (9, w, t, f, ts)) (hp' : m_cnd w x 0 = true ↔ P) (kt : P → Ev S d y t ls st σ Q) (kf : ¬ P → Ev S d y (k + 1) ls st σ Q) : Ev S d y k ls (.inl x :: st) σ Q := by
  by_cases h : m_cnd w x 0 = true
  · refine e_next hc hi ?_ (kt (hp'.mp h))
    show s_if w t k ls (.inl x :: st) (hp σ) = _
    unfold s_if
    dsimp only
    rw [if_pos h]
  · refine e_next hc hi ?_ (kf (fun q => h (hp'.mpr q)))
    show s_if w t k ls (.inl x :: st) (hp σ) = _
    unfold s_if
    dsimp only
    rw [if_neg h]
theorem e_icmp {w t : Nat} {f : Int32} {ts : List Nat} {x x' : Int32} {P : Prop} (hc : m_code y = cd) (hi : cd[k]? = some (10, w, t, f, ts)) (hp' : m_cnd w x x' = true ↔ P) (kt : P → Ev S d y t ls st σ Q) (kf : ¬ P → Ev S d y (k + 1) ls st σ Q) : Ev S d y k ls (.inl x' :: .inl x :: st) σ Q := by
  by_cases h : m_cnd w x x' = true
  · refine e_next hc hi ?_ (kt (hp'.mp h))
    show s_icmp w t k ls (.inl x' :: .inl x :: st) (hp σ) = _
    unfold s_icmp
    dsimp only
    rw [if_pos h]
  · refine e_next hc hi ?_ (kf (fun q => h (hp'.mpr q)))
    show s_icmp w t k ls (.inl x' :: .inl x :: st) (hp σ) = _
    unfold s_icmp
    dsimp only
    rw [if_neg h]
theorem m_c0 {x x' : Int32} : m_cnd 0 x x' = true ↔ x = x' := by simp [m_cnd]
theorem m_c1 {x x' : Int32} : m_cnd 1 x x' = true ↔ ¬ x = x' := by simp [m_cnd]
theorem m_c2 {x x' : Int32} : m_cnd 2 x x' = true ↔ x < x' := by simp [m_cnd]
theorem m_c3 {x x' : Int32} : m_cnd 3 x x' = true ↔ x' ≤ x := by simp [m_cnd]
theorem m_c4 {x x' : Int32} : m_cnd 4 x x' = true ↔ x' < x := by simp [m_cnd]
theorem m_c5 {x x' : Int32} : m_cnd 5 x x' = true ↔ x ≤ x' := by simp [m_cnd]
theorem e_goto {a t : Nat} {f : Int32} {ts : List Nat} (hc : m_code y = cd) (hi : cd[k]? = some (11, a, t, f, ts)) (kk : Ev S d y t ls st σ Q) : Ev S d y k ls st σ Q := e_next hc hi rfl kk
theorem e_switch {a t : Nat} {lo : Int32} {ts : List Nat} {x : Int32} (hc : m_code y = cd) (hi : cd[k]? = some (12, a, t, lo, ts)) (kk : Ev S d y (m_swt t lo ts x) ls st σ Q) : Ev S d y k ls (.inl x :: st) σ Q := e_next hc hi rfl kk
theorem e_getI {ci j a : Nat} {f : Int32} {ts : List Nat} {fs : List (Option Nat)} (hc : m_code y = cd) (hi : cd[k]? = some (13, ci, j, f, ts)) (hs : m_sh[a]? = some (.inl (ci, fs))) (hf : fs[j]? = some none) (kk : Ev S d y (k + 1) ls (.inl (σ a j) :: st) σ Q) : Ev S d y k ls (.inr (some a) :: st) σ Q := by
  refine e_next hc hi ?_ kk
  show s_getf ci j k ls (.inr (some a) :: st) (hp σ) = _
  unfold s_getf
  dsimp only
  rw [hp_cell hs]
  dsimp only [m_cv]
  rw [if_pos rfl, m_fv_get hf]
  rfl
theorem e_getR {ci j a r : Nat} {f : Int32} {ts : List Nat} {fs : List (Option Nat)} (hc : m_code y = cd) (hi : cd[k]? = some (13, ci, j, f, ts)) (hs : m_sh[a]? = some (.inl (ci, fs))) (hf : fs[j]? = some (some r)) (kk : Ev S d y (k + 1) ls (.inr (some r) :: st) σ Q) : Ev S d y k ls (.inr (some a) :: st) σ Q := by
  refine e_next hc hi ?_ kk
  show s_getf ci j k ls (.inr (some a) :: st) (hp σ) = _
  unfold s_getf
  dsimp only
  rw [hp_cell hs]
  dsimp only [m_cv]
  rw [if_pos rfl, m_fv_get hf]
  rfl
theorem e_putI {ci j a : Nat} {v : Int32} {ts : List Nat} {fs : List (Option Nat)} (hc : m_code y = cd) (hi : cd[k]? = some (14, ci, j, 0, ts)) (hs : m_sh[a]? = some (.inl (ci, fs))) (hf : fs[j]? = some none) (kk : Ev S d y (k + 1) ls st (up σ a j v) Q) : Ev S d y k ls (.inl v :: .inr (some a) :: st) σ Q := by
  refine e_next hc hi ?_ kk
  show s_putf ci j 0 k ls (.inl v :: .inr (some a) :: st) (hp σ) = _
  unfold s_putf
  dsimp only
  rw [hp_cell hs]
  dsimp only [m_cv]
  rw [if_pos ⟨rfl, by unfold m_fv; rw [List.length_mapIdx]; exact (List.getElem?_eq_some_iff.mp hf).1, rfl⟩, hp_putf hs hf]
  rfl
theorem m_nI_cl {i : Int32} {j n : Nat} (hi : i = nI j) (hj : j < n) (hn : n < 10000) : ¬ i < 0 ∧ i.toNatClampNeg = j := by
  subst hi
  exact ⟨nI_pos (by omega), nI_clamp (by omega)⟩
theorem e_iald {a z j n r : Nat} {f : Int32} {ts : List Nat} {i : Int32} (hc : m_code y = cd) (hi : cd[k]? = some (15, a, z, f, ts)) (hs : m_sh[r]? = some (.inr (.inl n))) (hn : n < 10000) (hj : i = nI j) (hl : j < n) (kk : Ev S d y (k + 1) ls (.inl (σ r j) :: st) σ Q) : Ev S d y k ls (.inl i :: .inr (some r) :: st) σ Q := by
  obtain ⟨h1, h2⟩ := m_nI_cl hj hl hn
  refine e_next hc hi ?_ kk
  show s_iald S k ls (.inl i :: .inr (some r) :: st) (hp σ) = _
  unfold s_iald
  dsimp only
  have hr : ¬ r = m_scr := (m_cell_some (hp_cell (σ := σ) hs)).1
  rw [if_neg h1, if_neg hr, hp_get hs]
  dsimp only [m_cv]
  rw [h2, List.getElem?_map, List.getElem?_range hl]
  rfl
theorem e_iast {a z j n r : Nat} {f : Int32} {ts : List Nat} {i v : Int32} (hc : m_code y = cd) (hi : cd[k]? = some (16, a, z, f, ts)) (hs : m_sh[r]? = some (.inr (.inl n))) (hn : n < 10000) (hj : i = nI j) (hl : j < n) (kk : Ev S d y (k + 1) ls st (up σ r j v) Q) : Ev S d y k ls (.inl v :: .inl i :: .inr (some r) :: st) σ Q := by
  obtain ⟨h1, h2⟩ := m_nI_cl hj hl hn
  refine e_next hc hi ?_ kk
  show s_iast k ls (.inl v :: .inl i :: .inr (some r) :: st) (hp σ) = _
  unfold s_iast
  dsimp only
  rw [hp_cell hs]
  dsimp only [m_cv]
  rw [if_pos ⟨h1, by rw [h2]; simp; exact hl⟩, h2, hp_iast hs hl]
  rfl
theorem e_aald {a z j r kd q : Nat} {f : Int32} {ts : List Nat} {i : Int32} {l : List Nat} (hc : m_code y = cd) (hi : cd[k]? = some (17, a, z, f, ts)) (hs : m_sh[r]? = some (.inr (.inr (kd, l)))) (hkd : kd < 4 ∧ 0 < kd) (hj : i = nI j) (hl : l[j]? = some q) (hj2 : j < 9999) (kk : Ev S d y (k + 1) ls (.inr (some q) :: st) σ Q) : Ev S d y k ls (.inl i :: .inr (some r) :: st) σ Q := by
  obtain ⟨h1, h2⟩ := m_nI_cl hj hj2 (by omega)
  refine e_next hc hi ?_ kk
  show s_aald k ls (.inl i :: .inr (some r) :: st) (hp σ) = _
  unfold s_aald
  dsimp only
  rw [if_neg h1, hp_cell hs]
  dsimp only [m_cv]
  rw [if_pos hkd, h2, List.getElem?_map, hl]
  rfl
theorem e_copy {a z r q n n1 sp dp m : Nat} {f : Int32} {ts : List Nat} {i1 i2 i3 : Int32} (hc : m_code y = cd) (hi : cd[k]? = some (26, a, z, f, ts)) (hs : m_sh[r]? = some (.inr (.inl n))) (hs1 : m_sh[q]? = some (.inr (.inl n1))) (hn : n < 9999) (hn1 : n1 < 9999) (h1 : i1 = nI sp) (h2 : i2 = nI dp) (h3 : i3 = nI m) (hl : sp + m ≤ n) (hl1 : dp + m ≤ n1) (hst : st.length ≤ 8)
    (kk : Ev S (d + 1) y (k + 1) ls st (upr σ q (fun k => if dp ≤ k ∧ k < dp + m then σ r (sp + (k - dp)) else σ q k)) Q) : Ev S (d + 1) y k ls (.inl i3 :: .inl i2 :: .inr (some q) :: .inl i1 :: .inr (some r) :: st) σ Q := by
  obtain ⟨a1, b1⟩ := m_nI_cl h1 (show sp < 9999 by omega) (by omega)
  obtain ⟨a2, b2⟩ := m_nI_cl h2 (show dp < 9999 by omega) (by omega)
  obtain ⟨a3, b3⟩ := m_nI_cl h3 (show m < 9999 by omega) (by omega)
  refine e_next hc hi ?_ kk
  show s_copy (d + 1) k ls (.inl i3 :: .inl i2 :: .inr (some q) :: .inl i1 :: .inr (some r) :: st) (hp σ) = _
  unfold s_copy
  dsimp only
  rw [hp_cell hs, hp_cell hs1]
  dsimp only [m_cv]
  rw [b1, b2, b3, if_pos ⟨a3, a2, a1, by simp; exact hl, by simp; exact hl1, by omega, hst⟩, hp_copy hs hs1 hl]
  rfl
theorem e_max {a z : Nat} {f : Int32} {ts : List Nat} {x x' r : Int32} (hc : m_code y = cd) (hi : cd[k]? = some (31, a, z, f, ts)) (hst : st.length ≤ 8) (hr : (if x < x' then x' else x) = r) (kk : Ev S (d + 1) y (k + 1) ls (.inl r :: st) σ Q) : Ev S (d + 1) y k ls (.inl x' :: .inl x :: st) σ Q := by
  subst hr
  refine e_next hc hi ?_ kk
  show s_mm 0 (d + 1) k ls (.inl x' :: .inl x :: st) (hp σ) = _
  unfold s_mm
  dsimp only
  rw [if_pos ⟨by omega, hst⟩]
  rfl
theorem e_min {a z : Nat} {f : Int32} {ts : List Nat} {x x' r : Int32} (hc : m_code y = cd) (hi : cd[k]? = some (32, a, z, f, ts)) (hst : st.length ≤ 8) (hr : (if x' < x then x' else x) = r) (kk : Ev S (d + 1) y (k + 1) ls (.inl r :: st) σ Q) : Ev S (d + 1) y k ls (.inl x' :: .inl x :: st) σ Q := by
  subst hr
  refine e_next hc hi ?_ kk
  show s_mm 1 (d + 1) k ls (.inl x' :: .inl x :: st) (hp σ) = _
  unfold s_mm
  dsimp only
  rw [if_pos ⟨by omega, hst⟩]
  rfl
theorem e_virt {y' n ci a : Nat} {f : Int32} {ts : List Nat} {As rest : List MV} {fs : List (Option Nat)} (hc : m_code y = cd) (hi : cd[k]? = some (24, y', n, f, ts)) (hci : ts.getD 0 0 = ci) (hn : n ≤ st.length) (hA : (st.take n).reverse = .inr (some a) :: As) (hr : st.drop n = rest) (hr8 : rest.length ≤ 8) (hs : m_sh[a]? = some (.inl (ci, fs))) (kk : Ec S d y' (.inr (some a) :: As) σ (fun rv σ' => Ev S (d + 1) y (k + 1) ls (rv ++ rest) σ' Q)) : Ev S (d + 1) y k ls st σ Q := by
  subst hr
  refine e_call0 hc hi ?_ kk
  show s_call y' n (ts.getD 0 0) st (hp σ) = _
  unfold s_call
  rw [hA]
  dsimp only
  rw [hp_cell hs]
  dsimp only [m_cv]
  rw [if_pos ⟨hci.symm, hn, hr8⟩]
theorem e_stat {y' n : Nat} {f : Int32} {ts : List Nat} {As rest : List MV} (hc : m_code y = cd) (hi : cd[k]? = some (29, y', n, f, ts)) (hn : n ≤ st.length) (hA : (st.take n).reverse = As) (hr : st.drop n = rest) (hr8 : rest.length ≤ 8) (kk : Ec S d y' As σ (fun rv σ' => Ev S (d + 1) y (k + 1) ls (rv ++ rest) σ' Q)) : Ev S (d + 1) y k ls st σ Q := by
  subst hr
  subst hA
  refine e_call0 hc hi ?_ kk
  show s_calls y' n st = _
  unfold s_calls
  rw [if_pos ⟨hn, hr8⟩]
theorem e_ireturn {a z : Nat} {f : Int32} {ts : List Nat} {v : Int32} (hc : m_code y = cd) (hi : cd[k]? = some (27, a, z, f, ts)) (hk : m_rk y = 1) (kk : Q [.inl v] σ) : Ev S d y k ls [.inl v] σ Q := by
  refine e_ret hc hi rfl ?_ kk
  unfold m_ret
  rw [hc, hi, hk]
  rfl
theorem e_zreturn {a z : Nat} {f : Int32} {ts : List Nat} {v : Int32} (hc : m_code y = cd) (hi : cd[k]? = some (27, a, z, f, ts)) (hk : m_rk y = 2) (hv : v = 0 ∨ v = 1) (kk : Q [.inl v] σ) : Ev S d y k ls [.inl v] σ Q := by
  refine e_ret hc hi rfl ?_ kk
  unfold m_ret
  rw [hc, hi, hk]
  show (if v = 0 ∨ v = 1 then some [Sum.inl v] else none) = some [(Sum.inl v : MV)]
  rw [if_pos hv]
theorem e_return {a z : Nat} {f : Int32} {ts : List Nat} (hc : m_code y = cd) (hi : cd[k]? = some (28, a, z, f, ts)) (hk : m_rk y = 0) (kk : Q [] σ) : Ev S d y k ls [] σ Q := by
  refine e_ret hc hi rfl ?_ kk
  unfold m_ret
  rw [hc, hi, hk]
  rfl
end EV
end
