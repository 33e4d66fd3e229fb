section
-- ===== PART A: goes FIRST, ahead of the names: the tables' words, and 'selects' of the private methods out of them =====
/-- a private method of a class that the tables say can be made, by its rows of tables_1 -/
def lw_okq (q : MethodName × Nat) : Prop := (q.1.cls ≠ "java/lang/invoke/MethodHandle" ∧ q.1.cls ≠ "java/lang/invoke/VarHandle") ∧ Cond.instantiable q.1.cls q.2 ∈ tables_1 ∧ Cond.privateMethod q.1 ∈ tables_1 ∧ Cond.instanceMethod q.1 ∈ tables_1
theorem lw_p0 : lw_okq (⟨"FasterToBeLater", "refuse", "(I)I"⟩, 10) := ⟨⟨by decide +kernel, by decide +kernel⟩, List.mem_of_getElem? (i := 18) (by decide +kernel), List.mem_of_getElem? (i := 206) (by decide +kernel), List.mem_of_getElem? (i := 207) (by decide +kernel)⟩
theorem lw_p1 : lw_okq (⟨"FasterToBeLater", "rowRefusal", "(IZI)I"⟩, 10) := ⟨⟨by decide +kernel, by decide +kernel⟩, List.mem_of_getElem? (i := 18) (by decide +kernel), List.mem_of_getElem? (i := 221) (by decide +kernel), List.mem_of_getElem? (i := 222) (by decide +kernel)⟩
theorem lw_p2 : lw_okq (⟨"FasterToBeLater$Shelf", "narrowed", "(J)J"⟩, 3) := ⟨⟨by decide +kernel, by decide +kernel⟩, List.mem_of_getElem? (i := 146) (by decide +kernel), List.mem_of_getElem? (i := 237) (by decide +kernel), List.mem_of_getElem? (i := 238) (by decide +kernel)⟩
theorem lw_p3 : lw_okq (⟨"FasterToBeLater", "saying", "(II)I"⟩, 10) := ⟨⟨by decide +kernel, by decide +kernel⟩, List.mem_of_getElem? (i := 18) (by decide +kernel), List.mem_of_getElem? (i := 296) (by decide +kernel), List.mem_of_getElem? (i := 297) (by decide +kernel)⟩
theorem lw_p4 : lw_okq (⟨"FasterToBeLater$Tape", "takeToken", "()V"⟩, 7) := ⟨⟨by decide +kernel, by decide +kernel⟩, List.mem_of_getElem? (i := 109) (by decide +kernel), List.mem_of_getElem? (i := 421) (by decide +kernel), List.mem_of_getElem? (i := 422) (by decide +kernel)⟩
theorem lw_p5 : lw_okq (⟨"FasterToBeLater$Tape", "sortAt", "(I)I"⟩, 7) := ⟨⟨by decide +kernel, by decide +kernel⟩, List.mem_of_getElem? (i := 109) (by decide +kernel), List.mem_of_getElem? (i := 425) (by decide +kernel), List.mem_of_getElem? (i := 426) (by decide +kernel)⟩
theorem lw_p6 : lw_okq (⟨"FasterToBeLater$Tape", "readStatement", "()V"⟩, 7) := ⟨⟨by decide +kernel, by decide +kernel⟩, List.mem_of_getElem? (i := 109) (by decide +kernel), List.mem_of_getElem? (i := 430) (by decide +kernel), List.mem_of_getElem? (i := 431) (by decide +kernel)⟩
theorem lw_p7 : lw_okq (⟨"FasterToBeLater$Tape", "isWord", "(Ljava/lang/String;)Z"⟩, 7) := ⟨⟨by decide +kernel, by decide +kernel⟩, List.mem_of_getElem? (i := 109) (by decide +kernel), List.mem_of_getElem? (i := 435) (by decide +kernel), List.mem_of_getElem? (i := 436) (by decide +kernel)⟩
theorem lw_p8 : lw_okq (⟨"FasterToBeLater$Tape", "readCircles", "()V"⟩, 7) := ⟨⟨by decide +kernel, by decide +kernel⟩, List.mem_of_getElem? (i := 109) (by decide +kernel), List.mem_of_getElem? (i := 487) (by decide +kernel), List.mem_of_getElem? (i := 488) (by decide +kernel)⟩
theorem lw_p9 : lw_okq (⟨"FasterToBeLater$Tape", "readNumber", "(II)I"⟩, 7) := ⟨⟨by decide +kernel, by decide +kernel⟩, List.mem_of_getElem? (i := 109) (by decide +kernel), List.mem_of_getElem? (i := 491) (by decide +kernel), List.mem_of_getElem? (i := 492) (by decide +kernel)⟩
theorem lw_p10 : lw_okq (⟨"FasterToBeLater$Tape", "numberHere", "()I"⟩, 7) := ⟨⟨by decide +kernel, by decide +kernel⟩, List.mem_of_getElem? (i := 109) (by decide +kernel), List.mem_of_getElem? (i := 495) (by decide +kernel), List.mem_of_getElem? (i := 496) (by decide +kernel)⟩
theorem lw_p11 : lw_okq (⟨"FasterToBeLater$Tape", "readTime", "()V"⟩, 7) := ⟨⟨by decide +kernel, by decide +kernel⟩, List.mem_of_getElem? (i := 109) (by decide +kernel), List.mem_of_getElem? (i := 500) (by decide +kernel), List.mem_of_getElem? (i := 501) (by decide +kernel)⟩
theorem lw_p12 : lw_okq (⟨"FasterToBeLater$Tape", "readCost", "()V"⟩, 7) := ⟨⟨by decide +kernel, by decide +kernel⟩, List.mem_of_getElem? (i := 109) (by decide +kernel), List.mem_of_getElem? (i := 506) (by decide +kernel), List.mem_of_getElem? (i := 507) (by decide +kernel)⟩
theorem lw_p13 : lw_okq (⟨"FasterToBeLater$Tape", "readShip", "()V"⟩, 7) := ⟨⟨by decide +kernel, by decide +kernel⟩, List.mem_of_getElem? (i := 109) (by decide +kernel), List.mem_of_getElem? (i := 511) (by decide +kernel), List.mem_of_getElem? (i := 512) (by decide +kernel)⟩
theorem lw_p14 : lw_okq (⟨"FasterToBeLater$Tape", "readSteps", "()V"⟩, 7) := ⟨⟨by decide +kernel, by decide +kernel⟩, List.mem_of_getElem? (i := 109) (by decide +kernel), List.mem_of_getElem? (i := 520) (by decide +kernel), List.mem_of_getElem? (i := 521) (by decide +kernel)⟩
theorem lw_p15 : lw_okq (⟨"FasterToBeLater$World", "pairsHit", "()I"⟩, 8) := ⟨⟨by decide +kernel, by decide +kernel⟩, List.mem_of_getElem? (i := 26) (by decide +kernel), List.mem_of_getElem? (i := 536) (by decide +kernel), List.mem_of_getElem? (i := 537) (by decide +kernel)⟩
def lw_privs_1 : List (MethodName × Nat) := [(⟨"FasterToBeLater", "refuse", "(I)I"⟩, 10), (⟨"FasterToBeLater", "rowRefusal", "(IZI)I"⟩, 10), (⟨"FasterToBeLater$Shelf", "narrowed", "(J)J"⟩, 3), (⟨"FasterToBeLater", "saying", "(II)I"⟩, 10), (⟨"FasterToBeLater$Tape", "takeToken", "()V"⟩, 7), (⟨"FasterToBeLater$Tape", "sortAt", "(I)I"⟩, 7), (⟨"FasterToBeLater$Tape", "readStatement", "()V"⟩, 7), (⟨"FasterToBeLater$Tape", "isWord", "(Ljava/lang/String;)Z"⟩, 7), (⟨"FasterToBeLater$Tape", "readCircles", "()V"⟩, 7), (⟨"FasterToBeLater$Tape", "readNumber", "(II)I"⟩, 7), (⟨"FasterToBeLater$Tape", "numberHere", "()I"⟩, 7), (⟨"FasterToBeLater$Tape", "readTime", "()V"⟩, 7), (⟨"FasterToBeLater$Tape", "readCost", "()V"⟩, 7), (⟨"FasterToBeLater$Tape", "readShip", "()V"⟩, 7), (⟨"FasterToBeLater$Tape", "readSteps", "()V"⟩, 7), (⟨"FasterToBeLater$World", "pairsHit", "()I"⟩, 8)]
theorem lw_r1 : ∀ q ∈ lw_privs_1, lw_okq q := List.forall_mem_cons.mpr ⟨lw_p0, List.forall_mem_cons.mpr ⟨lw_p1, List.forall_mem_cons.mpr ⟨lw_p2, List.forall_mem_cons.mpr ⟨lw_p3, List.forall_mem_cons.mpr ⟨lw_p4, List.forall_mem_cons.mpr ⟨lw_p5, List.forall_mem_cons.mpr ⟨lw_p6, List.forall_mem_cons.mpr ⟨lw_p7, List.forall_mem_cons.mpr ⟨lw_p8, List.forall_mem_cons.mpr ⟨lw_p9, List.forall_mem_cons.mpr ⟨lw_p10, List.forall_mem_cons.mpr ⟨lw_p11, List.forall_mem_cons.mpr ⟨lw_p12, List.forall_mem_cons.mpr ⟨lw_p13, List.forall_mem_cons.mpr ⟨lw_p14, List.forall_mem_cons.mpr ⟨lw_p15, fun _ h => absurd h List.not_mem_nil⟩⟩⟩⟩⟩⟩⟩⟩⟩⟩⟩⟩⟩⟩⟩⟩
theorem lw_p16 : lw_okq (⟨"FasterToBeLater", "isFlight", "(II)Z"⟩, 10) := ⟨⟨by decide +kernel, by decide +kernel⟩, List.mem_of_getElem? (i := 18) (by decide +kernel), List.mem_of_getElem? (i := 595) (by decide +kernel), List.mem_of_getElem? (i := 596) (by decide +kernel)⟩
theorem lw_p17 : lw_okq (⟨"FasterToBeLater", "firstWrongCode", "(LFasterToBeLater$Shelf;II)I"⟩, 10) := ⟨⟨by decide +kernel, by decide +kernel⟩, List.mem_of_getElem? (i := 18) (by decide +kernel), List.mem_of_getElem? (i := 599) (by decide +kernel), List.mem_of_getElem? (i := 600) (by decide +kernel)⟩
theorem lw_p18 : lw_okq (⟨"FasterToBeLater", "firstMeeting", "(LFasterToBeLater$Shelf;III)I"⟩, 10) := ⟨⟨by decide +kernel, by decide +kernel⟩, List.mem_of_getElem? (i := 18) (by decide +kernel), List.mem_of_getElem? (i := 630) (by decide +kernel), List.mem_of_getElem? (i := 631) (by decide +kernel)⟩
theorem lw_p19 : lw_okq (⟨"FasterToBeLater", "thinking", "()LFasterToBeLater$Planner;"⟩, 10) := ⟨⟨by decide +kernel, by decide +kernel⟩, List.mem_of_getElem? (i := 18) (by decide +kernel), List.mem_of_getElem? (i := 642) (by decide +kernel), List.mem_of_getElem? (i := 643) (by decide +kernel)⟩
theorem lw_p20 : lw_okq (⟨"FasterToBeLater$Planner", "prepare", "(LFasterToBeLater$Vessel;II)V"⟩, 15) := ⟨⟨by decide +kernel, by decide +kernel⟩, List.mem_of_getElem? (i := 646) (by decide +kernel), List.mem_of_getElem? (i := 705) (by decide +kernel), List.mem_of_getElem? (i := 706) (by decide +kernel)⟩
theorem lw_p21 : lw_okq (⟨"FasterToBeLater$Planner", "chart", "(LFasterToBeLater$Vessel;)V"⟩, 15) := ⟨⟨by decide +kernel, by decide +kernel⟩, List.mem_of_getElem? (i := 646) (by decide +kernel), List.mem_of_getElem? (i := 709) (by decide +kernel), List.mem_of_getElem? (i := 710) (by decide +kernel)⟩
theorem lw_p22 : lw_okq (⟨"FasterToBeLater$Planner", "chartChange", "(LFasterToBeLater$Vessel;III)V"⟩, 15) := ⟨⟨by decide +kernel, by decide +kernel⟩, List.mem_of_getElem? (i := 646) (by decide +kernel), List.mem_of_getElem? (i := 715) (by decide +kernel), List.mem_of_getElem? (i := 716) (by decide +kernel)⟩
theorem lw_p23 : lw_okq (⟨"FasterToBeLater$Planner", "gather", "(I)V"⟩, 15) := ⟨⟨by decide +kernel, by decide +kernel⟩, List.mem_of_getElem? (i := 646) (by decide +kernel), List.mem_of_getElem? (i := 724) (by decide +kernel), List.mem_of_getElem? (i := 725) (by decide +kernel)⟩
theorem lw_p24 : lw_okq (⟨"FasterToBeLater$Planner", "visit", "(I)V"⟩, 15) := ⟨⟨by decide +kernel, by decide +kernel⟩, List.mem_of_getElem? (i := 646) (by decide +kernel), List.mem_of_getElem? (i := 739) (by decide +kernel), List.mem_of_getElem? (i := 740) (by decide +kernel)⟩
theorem lw_p25 : lw_okq (⟨"FasterToBeLater$Planner", "arrive", "(IIII)V"⟩, 15) := ⟨⟨by decide +kernel, by decide +kernel⟩, List.mem_of_getElem? (i := 646) (by decide +kernel), List.mem_of_getElem? (i := 749) (by decide +kernel), List.mem_of_getElem? (i := 750) (by decide +kernel)⟩
theorem lw_p26 : lw_okq (⟨"FasterToBeLater$Planner", "finish", "(II)V"⟩, 15) := ⟨⟨by decide +kernel, by decide +kernel⟩, List.mem_of_getElem? (i := 646) (by decide +kernel), List.mem_of_getElem? (i := 753) (by decide +kernel), List.mem_of_getElem? (i := 754) (by decide +kernel)⟩
theorem lw_p27 : lw_okq (⟨"FasterToBeLater$Planner", "spread", "(IIII)V"⟩, 15) := ⟨⟨by decide +kernel, by decide +kernel⟩, List.mem_of_getElem? (i := 646) (by decide +kernel), List.mem_of_getElem? (i := 757) (by decide +kernel), List.mem_of_getElem? (i := 758) (by decide +kernel)⟩
theorem lw_p28 : lw_okq (⟨"FasterToBeLater$Planner", "setToGo", "(III)V"⟩, 15) := ⟨⟨by decide +kernel, by decide +kernel⟩, List.mem_of_getElem? (i := 646) (by decide +kernel), List.mem_of_getElem? (i := 779) (by decide +kernel), List.mem_of_getElem? (i := 780) (by decide +kernel)⟩
theorem lw_p29 : lw_okq (⟨"FasterToBeLater$Planner", "dropsBy", "(IIII)I"⟩, 15) := ⟨⟨by decide +kernel, by decide +kernel⟩, List.mem_of_getElem? (i := 646) (by decide +kernel), List.mem_of_getElem? (i := 783) (by decide +kernel), List.mem_of_getElem? (i := 784) (by decide +kernel)⟩
theorem lw_p30 : lw_okq (⟨"FasterToBeLater$Planner", "firstBestCode", "(III)I"⟩, 15) := ⟨⟨by decide +kernel, by decide +kernel⟩, List.mem_of_getElem? (i := 646) (by decide +kernel), List.mem_of_getElem? (i := 787) (by decide +kernel), List.mem_of_getElem? (i := 788) (by decide +kernel)⟩
theorem lw_p31 : lw_okq (⟨"FasterToBeLater", "isSetOfOthers", "(II)Z"⟩, 10) := ⟨⟨by decide +kernel, by decide +kernel⟩, List.mem_of_getElem? (i := 18) (by decide +kernel), List.mem_of_getElem? (i := 795) (by decide +kernel), List.mem_of_getElem? (i := 796) (by decide +kernel)⟩
def lw_privs_2 : List (MethodName × Nat) := [(⟨"FasterToBeLater", "isFlight", "(II)Z"⟩, 10), (⟨"FasterToBeLater", "firstWrongCode", "(LFasterToBeLater$Shelf;II)I"⟩, 10), (⟨"FasterToBeLater", "firstMeeting", "(LFasterToBeLater$Shelf;III)I"⟩, 10), (⟨"FasterToBeLater", "thinking", "()LFasterToBeLater$Planner;"⟩, 10), (⟨"FasterToBeLater$Planner", "prepare", "(LFasterToBeLater$Vessel;II)V"⟩, 15), (⟨"FasterToBeLater$Planner", "chart", "(LFasterToBeLater$Vessel;)V"⟩, 15), (⟨"FasterToBeLater$Planner", "chartChange", "(LFasterToBeLater$Vessel;III)V"⟩, 15), (⟨"FasterToBeLater$Planner", "gather", "(I)V"⟩, 15), (⟨"FasterToBeLater$Planner", "visit", "(I)V"⟩, 15), (⟨"FasterToBeLater$Planner", "arrive", "(IIII)V"⟩, 15), (⟨"FasterToBeLater$Planner", "finish", "(II)V"⟩, 15), (⟨"FasterToBeLater$Planner", "spread", "(IIII)V"⟩, 15), (⟨"FasterToBeLater$Planner", "setToGo", "(III)V"⟩, 15), (⟨"FasterToBeLater$Planner", "dropsBy", "(IIII)I"⟩, 15), (⟨"FasterToBeLater$Planner", "firstBestCode", "(III)I"⟩, 15), (⟨"FasterToBeLater", "isSetOfOthers", "(II)Z"⟩, 10)]
theorem lw_r2 : ∀ q ∈ lw_privs_2, lw_okq q := List.forall_mem_cons.mpr ⟨lw_p16, List.forall_mem_cons.mpr ⟨lw_p17, List.forall_mem_cons.mpr ⟨lw_p18, List.forall_mem_cons.mpr ⟨lw_p19, List.forall_mem_cons.mpr ⟨lw_p20, List.forall_mem_cons.mpr ⟨lw_p21, List.forall_mem_cons.mpr ⟨lw_p22, List.forall_mem_cons.mpr ⟨lw_p23, List.forall_mem_cons.mpr ⟨lw_p24, List.forall_mem_cons.mpr ⟨lw_p25, List.forall_mem_cons.mpr ⟨lw_p26, List.forall_mem_cons.mpr ⟨lw_p27, List.forall_mem_cons.mpr ⟨lw_p28, List.forall_mem_cons.mpr ⟨lw_p29, List.forall_mem_cons.mpr ⟨lw_p30, List.forall_mem_cons.mpr ⟨lw_p31, fun _ h => absurd h List.not_mem_nil⟩⟩⟩⟩⟩⟩⟩⟩⟩⟩⟩⟩⟩⟩⟩⟩
theorem lw_p32 : lw_okq (⟨"FasterToBeLater", "queueAt", "(II)I"⟩, 10) := ⟨⟨by decide +kernel, by decide +kernel⟩, List.mem_of_getElem? (i := 18) (by decide +kernel), List.mem_of_getElem? (i := 821) (by decide +kernel), List.mem_of_getElem? (i := 822) (by decide +kernel)⟩
theorem lw_p33 : lw_okq (⟨"FasterToBeLater", "areSightings", "(LFasterToBeLater$Shelf;I)Z"⟩, 10) := ⟨⟨by decide +kernel, by decide +kernel⟩, List.mem_of_getElem? (i := 18) (by decide +kernel), List.mem_of_getElem? (i := 846) (by decide +kernel), List.mem_of_getElem? (i := 847) (by decide +kernel)⟩
theorem lw_p34 : lw_okq (⟨"FasterToBeLater$Planner", "keepOnly", "(II)I"⟩, 15) := ⟨⟨by decide +kernel, by decide +kernel⟩, List.mem_of_getElem? (i := 646) (by decide +kernel), List.mem_of_getElem? (i := 855) (by decide +kernel), List.mem_of_getElem? (i := 856) (by decide +kernel)⟩
theorem lw_p35 : lw_okq (⟨"FasterToBeLater$Chase", "catches", "(II)Z"⟩, 3) := ⟨⟨by decide +kernel, by decide +kernel⟩, List.mem_of_getElem? (i := 863) (by decide +kernel), List.mem_of_getElem? (i := 886) (by decide +kernel), List.mem_of_getElem? (i := 887) (by decide +kernel)⟩
theorem lw_p36 : lw_okq (⟨"FasterToBeLater$Chase", "catchesAll", "(II)Z"⟩, 3) := ⟨⟨by decide +kernel, by decide +kernel⟩, List.mem_of_getElem? (i := 863) (by decide +kernel), List.mem_of_getElem? (i := 892) (by decide +kernel), List.mem_of_getElem? (i := 893) (by decide +kernel)⟩
theorem lw_p37 : lw_okq (⟨"FasterToBeLater", "shelvesInUse", "()I"⟩, 10) := ⟨⟨by decide +kernel, by decide +kernel⟩, List.mem_of_getElem? (i := 18) (by decide +kernel), List.mem_of_getElem? (i := 944) (by decide +kernel), List.mem_of_getElem? (i := 945) (by decide +kernel)⟩
theorem lw_p38 : lw_okq (⟨"FasterToBeLater", "refusalsOf", "(I)I"⟩, 10) := ⟨⟨by decide +kernel, by decide +kernel⟩, List.mem_of_getElem? (i := 18) (by decide +kernel), List.mem_of_getElem? (i := 948) (by decide +kernel), List.mem_of_getElem? (i := 949) (by decide +kernel)⟩
theorem lw_p39 : lw_okq (⟨"FasterToBeLaterModel", "no", "(I)I"⟩, 30) := ⟨⟨by decide +kernel, by decide +kernel⟩, List.mem_of_getElem? (i := 952) (by decide +kernel), List.mem_of_getElem? (i := 1057) (by decide +kernel), List.mem_of_getElem? (i := 1058) (by decide +kernel)⟩
theorem lw_p40 : lw_okq (⟨"FasterToBeLaterModel", "noRow", "(I)I"⟩, 30) := ⟨⟨by decide +kernel, by decide +kernel⟩, List.mem_of_getElem? (i := 952) (by decide +kernel), List.mem_of_getElem? (i := 1065) (by decide +kernel), List.mem_of_getElem? (i := 1066) (by decide +kernel)⟩
theorem lw_p41 : lw_okq (⟨"FasterToBeLaterModel", "isRow", "(I)Z"⟩, 30) := ⟨⟨by decide +kernel, by decide +kernel⟩, List.mem_of_getElem? (i := 952) (by decide +kernel), List.mem_of_getElem? (i := 1073) (by decide +kernel), List.mem_of_getElem? (i := 1074) (by decide +kernel)⟩
theorem lw_p42 : lw_okq (⟨"FasterToBeLaterModel", "isShip", "(I)Z"⟩, 30) := ⟨⟨by decide +kernel, by decide +kernel⟩, List.mem_of_getElem? (i := 952) (by decide +kernel), List.mem_of_getElem? (i := 1089) (by decide +kernel), List.mem_of_getElem? (i := 1090) (by decide +kernel)⟩
theorem lw_p43 : lw_okq (⟨"FasterToBeLaterModel", "price", "(II)I"⟩, 30) := ⟨⟨by decide +kernel, by decide +kernel⟩, List.mem_of_getElem? (i := 952) (by decide +kernel), List.mem_of_getElem? (i := 1100) (by decide +kernel), List.mem_of_getElem? (i := 1101) (by decide +kernel)⟩
theorem lw_p44 : lw_okq (⟨"FasterToBeLaterModel", "meet", "(II)Z"⟩, 30) := ⟨⟨by decide +kernel, by decide +kernel⟩, List.mem_of_getElem? (i := 952) (by decide +kernel), List.mem_of_getElem? (i := 1104) (by decide +kernel), List.mem_of_getElem? (i := 1105) (by decide +kernel)⟩
theorem lw_p45 : lw_okq (⟨"FasterToBeLaterModel", "isCircle", "(I)Z"⟩, 30) := ⟨⟨by decide +kernel, by decide +kernel⟩, List.mem_of_getElem? (i := 952) (by decide +kernel), List.mem_of_getElem? (i := 1116) (by decide +kernel), List.mem_of_getElem? (i := 1117) (by decide +kernel)⟩
theorem lw_p46 : lw_okq (⟨"FasterToBeLaterModel", "those", "(I)I"⟩, 30) := ⟨⟨by decide +kernel, by decide +kernel⟩, List.mem_of_getElem? (i := 952) (by decide +kernel), List.mem_of_getElem? (i := 1120) (by decide +kernel), List.mem_of_getElem? (i := 1121) (by decide +kernel)⟩
theorem lw_p47 : lw_okq (⟨"FasterToBeLaterModel", "newShip", "(IIII)I"⟩, 30) := ⟨⟨by decide +kernel, by decide +kernel⟩, List.mem_of_getElem? (i := 952) (by decide +kernel), List.mem_of_getElem? (i := 1132) (by decide +kernel), List.mem_of_getElem? (i := 1133) (by decide +kernel)⟩
def lw_privs_3 : List (MethodName × Nat) := [(⟨"FasterToBeLater", "queueAt", "(II)I"⟩, 10), (⟨"FasterToBeLater", "areSightings", "(LFasterToBeLater$Shelf;I)Z"⟩, 10), (⟨"FasterToBeLater$Planner", "keepOnly", "(II)I"⟩, 15), (⟨"FasterToBeLater$Chase", "catches", "(II)Z"⟩, 3), (⟨"FasterToBeLater$Chase", "catchesAll", "(II)Z"⟩, 3), (⟨"FasterToBeLater", "shelvesInUse", "()I"⟩, 10), (⟨"FasterToBeLater", "refusalsOf", "(I)I"⟩, 10), (⟨"FasterToBeLaterModel", "no", "(I)I"⟩, 30), (⟨"FasterToBeLaterModel", "noRow", "(I)I"⟩, 30), (⟨"FasterToBeLaterModel", "isRow", "(I)Z"⟩, 30), (⟨"FasterToBeLaterModel", "isShip", "(I)Z"⟩, 30), (⟨"FasterToBeLaterModel", "price", "(II)I"⟩, 30), (⟨"FasterToBeLaterModel", "meet", "(II)Z"⟩, 30), (⟨"FasterToBeLaterModel", "isCircle", "(I)Z"⟩, 30), (⟨"FasterToBeLaterModel", "those", "(I)I"⟩, 30), (⟨"FasterToBeLaterModel", "newShip", "(IIII)I"⟩, 30)]
theorem lw_r3 : ∀ q ∈ lw_privs_3, lw_okq q := List.forall_mem_cons.mpr ⟨lw_p32, List.forall_mem_cons.mpr ⟨lw_p33, List.forall_mem_cons.mpr ⟨lw_p34, List.forall_mem_cons.mpr ⟨lw_p35, List.forall_mem_cons.mpr ⟨lw_p36, List.forall_mem_cons.mpr ⟨lw_p37, List.forall_mem_cons.mpr ⟨lw_p38, List.forall_mem_cons.mpr ⟨lw_p39, List.forall_mem_cons.mpr ⟨lw_p40, List.forall_mem_cons.mpr ⟨lw_p41, List.forall_mem_cons.mpr ⟨lw_p42, List.forall_mem_cons.mpr ⟨lw_p43, List.forall_mem_cons.mpr ⟨lw_p44, List.forall_mem_cons.mpr ⟨lw_p45, List.forall_mem_cons.mpr ⟨lw_p46, List.forall_mem_cons.mpr ⟨lw_p47, fun _ h => absurd h List.not_mem_nil⟩⟩⟩⟩⟩⟩⟩⟩⟩⟩⟩⟩⟩⟩⟩⟩
theorem lw_p48 : lw_okq (⟨"FasterToBeLaterModel", "keep", "([I)V"⟩, 30) := ⟨⟨by decide +kernel, by decide +kernel⟩, List.mem_of_getElem? (i := 952) (by decide +kernel), List.mem_of_getElem? (i := 1152) (by decide +kernel), List.mem_of_getElem? (i := 1153) (by decide +kernel)⟩
theorem lw_p49 : lw_okq (⟨"FasterToBeLaterModel", "next", "()V"⟩, 30) := ⟨⟨by decide +kernel, by decide +kernel⟩, List.mem_of_getElem? (i := 952) (by decide +kernel), List.mem_of_getElem? (i := 1156) (by decide +kernel), List.mem_of_getElem? (i := 1157) (by decide +kernel)⟩
theorem lw_p50 : lw_okq (⟨"FasterToBeLaterModel", "statement", "()Z"⟩, 30) := ⟨⟨by decide +kernel, by decide +kernel⟩, List.mem_of_getElem? (i := 952) (by decide +kernel), List.mem_of_getElem? (i := 1166) (by decide +kernel), List.mem_of_getElem? (i := 1167) (by decide +kernel)⟩
theorem lw_p51 : lw_okq (⟨"FasterToBeLaterModel", "isWord", "(Ljava/lang/String;)Z"⟩, 30) := ⟨⟨by decide +kernel, by decide +kernel⟩, List.mem_of_getElem? (i := 952) (by decide +kernel), List.mem_of_getElem? (i := 1171) (by decide +kernel), List.mem_of_getElem? (i := 1172) (by decide +kernel)⟩
theorem lw_p52 : lw_okq (⟨"FasterToBeLaterModel", "number", "(II)Z"⟩, 30) := ⟨⟨by decide +kernel, by decide +kernel⟩, List.mem_of_getElem? (i := 952) (by decide +kernel), List.mem_of_getElem? (i := 1177) (by decide +kernel), List.mem_of_getElem? (i := 1178) (by decide +kernel)⟩
theorem lw_p53 : lw_okq (⟨"FasterToBeLaterModel", "steps", "(I)I"⟩, 30) := ⟨⟨by decide +kernel, by decide +kernel⟩, List.mem_of_getElem? (i := 952) (by decide +kernel), List.mem_of_getElem? (i := 1184) (by decide +kernel), List.mem_of_getElem? (i := 1185) (by decide +kernel)⟩
theorem lw_p54 : lw_okq (⟨"FasterToBeLaterModel", "drift", "(I)V"⟩, 30) := ⟨⟨by decide +kernel, by decide +kernel⟩, List.mem_of_getElem? (i := 952) (by decide +kernel), List.mem_of_getElem? (i := 1188) (by decide +kernel), List.mem_of_getElem? (i := 1189) (by decide +kernel)⟩
theorem lw_p55 : lw_okq (⟨"FasterToBeLaterModel", "again", "([I)V"⟩, 30) := ⟨⟨by decide +kernel, by decide +kernel⟩, List.mem_of_getElem? (i := 952) (by decide +kernel), List.mem_of_getElem? (i := 1194) (by decide +kernel), List.mem_of_getElem? (i := 1195) (by decide +kernel)⟩
theorem lw_p56 : lw_okq (⟨"FasterToBeLaterModel", "isCode", "(II)Z"⟩, 30) := ⟨⟨by decide +kernel, by decide +kernel⟩, List.mem_of_getElem? (i := 952) (by decide +kernel), List.mem_of_getElem? (i := 1210) (by decide +kernel), List.mem_of_getElem? (i := 1211) (by decide +kernel)⟩
theorem lw_p57 : lw_okq (⟨"FasterToBeLaterModel", "isWay", "(II)Z"⟩, 30) := ⟨⟨by decide +kernel, by decide +kernel⟩, List.mem_of_getElem? (i := 952) (by decide +kernel), List.mem_of_getElem? (i := 1214) (by decide +kernel), List.mem_of_getElem? (i := 1215) (by decide +kernel)⟩
theorem lw_p58 : lw_okq (⟨"FasterToBeLaterModel", "priceOf", "(II)I"⟩, 30) := ⟨⟨by decide +kernel, by decide +kernel⟩, List.mem_of_getElem? (i := 952) (by decide +kernel), List.mem_of_getElem? (i := 1218) (by decide +kernel), List.mem_of_getElem? (i := 1219) (by decide +kernel)⟩
theorem lw_p59 : lw_okq (⟨"FasterToBeLaterModel", "areTwo", "(II)Z"⟩, 30) := ⟨⟨by decide +kernel, by decide +kernel⟩, List.mem_of_getElem? (i := 952) (by decide +kernel), List.mem_of_getElem? (i := 1231) (by decide +kernel), List.mem_of_getElem? (i := 1232) (by decide +kernel)⟩
theorem lw_p60 : lw_okq (⟨"FasterToBeLaterModel", "noFlight", "(IIZ)I"⟩, 30) := ⟨⟨by decide +kernel, by decide +kernel⟩, List.mem_of_getElem? (i := 952) (by decide +kernel), List.mem_of_getElem? (i := 1239) (by decide +kernel), List.mem_of_getElem? (i := 1240) (by decide +kernel)⟩
theorem lw_p61 : lw_okq (⟨"FasterToBeLaterModel", "fly", "(IIII)I"⟩, 30) := ⟨⟨by decide +kernel, by decide +kernel⟩, List.mem_of_getElem? (i := 952) (by decide +kernel), List.mem_of_getElem? (i := 1243) (by decide +kernel), List.mem_of_getElem? (i := 1244) (by decide +kernel)⟩
theorem lw_p62 : lw_okq (⟨"FasterToBeLaterModel", "acts", "(II)V"⟩, 30) := ⟨⟨by decide +kernel, by decide +kernel⟩, List.mem_of_getElem? (i := 952) (by decide +kernel), List.mem_of_getElem? (i := 1248) (by decide +kernel), List.mem_of_getElem? (i := 1249) (by decide +kernel)⟩
theorem lw_p63 : lw_okq (⟨"FasterToBeLaterModel", "moves", "(II)V"⟩, 30) := ⟨⟨by decide +kernel, by decide +kernel⟩, List.mem_of_getElem? (i := 952) (by decide +kernel), List.mem_of_getElem? (i := 1252) (by decide +kernel), List.mem_of_getElem? (i := 1253) (by decide +kernel)⟩
def lw_privs_4 : List (MethodName × Nat) := [(⟨"FasterToBeLaterModel", "keep", "([I)V"⟩, 30), (⟨"FasterToBeLaterModel", "next", "()V"⟩, 30), (⟨"FasterToBeLaterModel", "statement", "()Z"⟩, 30), (⟨"FasterToBeLaterModel", "isWord", "(Ljava/lang/String;)Z"⟩, 30), (⟨"FasterToBeLaterModel", "number", "(II)Z"⟩, 30), (⟨"FasterToBeLaterModel", "steps", "(I)I"⟩, 30), (⟨"FasterToBeLaterModel", "drift", "(I)V"⟩, 30), (⟨"FasterToBeLaterModel", "again", "([I)V"⟩, 30), (⟨"FasterToBeLaterModel", "isCode", "(II)Z"⟩, 30), (⟨"FasterToBeLaterModel", "isWay", "(II)Z"⟩, 30), (⟨"FasterToBeLaterModel", "priceOf", "(II)I"⟩, 30), (⟨"FasterToBeLaterModel", "areTwo", "(II)Z"⟩, 30), (⟨"FasterToBeLaterModel", "noFlight", "(IIZ)I"⟩, 30), (⟨"FasterToBeLaterModel", "fly", "(IIII)I"⟩, 30), (⟨"FasterToBeLaterModel", "acts", "(II)V"⟩, 30), (⟨"FasterToBeLaterModel", "moves", "(II)V"⟩, 30)]
theorem lw_r4 : ∀ q ∈ lw_privs_4, lw_okq q := List.forall_mem_cons.mpr ⟨lw_p48, List.forall_mem_cons.mpr ⟨lw_p49, List.forall_mem_cons.mpr ⟨lw_p50, List.forall_mem_cons.mpr ⟨lw_p51, List.forall_mem_cons.mpr ⟨lw_p52, List.forall_mem_cons.mpr ⟨lw_p53, List.forall_mem_cons.mpr ⟨lw_p54, List.forall_mem_cons.mpr ⟨lw_p55, List.forall_mem_cons.mpr ⟨lw_p56, List.forall_mem_cons.mpr ⟨lw_p57, List.forall_mem_cons.mpr ⟨lw_p58, List.forall_mem_cons.mpr ⟨lw_p59, List.forall_mem_cons.mpr ⟨lw_p60, List.forall_mem_cons.mpr ⟨lw_p61, List.forall_mem_cons.mpr ⟨lw_p62, List.forall_mem_cons.mpr ⟨lw_p63, fun _ h => absurd h List.not_mem_nil⟩⟩⟩⟩⟩⟩⟩⟩⟩⟩⟩⟩⟩⟩⟩⟩
theorem lw_p64 : lw_okq (⟨"FasterToBeLaterModel", "across", "(III)I"⟩, 30) := ⟨⟨by decide +kernel, by decide +kernel⟩, List.mem_of_getElem? (i := 952) (by decide +kernel), List.mem_of_getElem? (i := 1259) (by decide +kernel), List.mem_of_getElem? (i := 1260) (by decide +kernel)⟩
theorem lw_p65 : lw_okq (⟨"FasterToBeLaterModel", "least", "(IIIIZ)I"⟩, 30) := ⟨⟨by decide +kernel, by decide +kernel⟩, List.mem_of_getElem? (i := 952) (by decide +kernel), List.mem_of_getElem? (i := 1275) (by decide +kernel), List.mem_of_getElem? (i := 1276) (by decide +kernel)⟩
theorem lw_p66 : lw_okq (⟨"FasterToBeLaterModel", "begin", "(II)V"⟩, 30) := ⟨⟨by decide +kernel, by decide +kernel⟩, List.mem_of_getElem? (i := 952) (by decide +kernel), List.mem_of_getElem? (i := 1279) (by decide +kernel), List.mem_of_getElem? (i := 1280) (by decide +kernel)⟩
theorem lw_p67 : lw_okq (⟨"FasterToBeLaterModel", "goOn", "(I)V"⟩, 30) := ⟨⟨by decide +kernel, by decide +kernel⟩, List.mem_of_getElem? (i := 952) (by decide +kernel), List.mem_of_getElem? (i := 1286) (by decide +kernel), List.mem_of_getElem? (i := 1287) (by decide +kernel)⟩
theorem lw_p68 : lw_okq (⟨"FasterToBeLaterModel", "better", "(IIIII)V"⟩, 30) := ⟨⟨by decide +kernel, by decide +kernel⟩, List.mem_of_getElem? (i := 952) (by decide +kernel), List.mem_of_getElem? (i := 1290) (by decide +kernel), List.mem_of_getElem? (i := 1291) (by decide +kernel)⟩
theorem lw_p69 : lw_okq (⟨"FasterToBeLaterModel", "placeAt", "(II)I"⟩, 30) := ⟨⟨by decide +kernel, by decide +kernel⟩, List.mem_of_getElem? (i := 952) (by decide +kernel), List.mem_of_getElem? (i := 1294) (by decide +kernel), List.mem_of_getElem? (i := 1295) (by decide +kernel)⟩
theorem lw_p70 : lw_okq (⟨"FasterToBeLaterModel", "ahead", "(IIIIIIZ)I"⟩, 30) := ⟨⟨by decide +kernel, by decide +kernel⟩, List.mem_of_getElem? (i := 952) (by decide +kernel), List.mem_of_getElem? (i := 1307) (by decide +kernel), List.mem_of_getElem? (i := 1308) (by decide +kernel)⟩
theorem lw_p71 : lw_okq (⟨"FasterToBeLaterModel", "tags", "(III)Z"⟩, 30) := ⟨⟨by decide +kernel, by decide +kernel⟩, List.mem_of_getElem? (i := 952) (by decide +kernel), List.mem_of_getElem? (i := 1357) (by decide +kernel), List.mem_of_getElem? (i := 1358) (by decide +kernel)⟩
theorem lw_p72 : lw_okq (⟨"FasterToBeLaterModel", "draw", "(I)I"⟩, 30) := ⟨⟨by decide +kernel, by decide +kernel⟩, List.mem_of_getElem? (i := 952) (by decide +kernel), List.mem_of_getElem? (i := 1381) (by decide +kernel), List.mem_of_getElem? (i := 1382) (by decide +kernel)⟩
def lw_privs_5 : List (MethodName × Nat) := [(⟨"FasterToBeLaterModel", "across", "(III)I"⟩, 30), (⟨"FasterToBeLaterModel", "least", "(IIIIZ)I"⟩, 30), (⟨"FasterToBeLaterModel", "begin", "(II)V"⟩, 30), (⟨"FasterToBeLaterModel", "goOn", "(I)V"⟩, 30), (⟨"FasterToBeLaterModel", "better", "(IIIII)V"⟩, 30), (⟨"FasterToBeLaterModel", "placeAt", "(II)I"⟩, 30), (⟨"FasterToBeLaterModel", "ahead", "(IIIIIIZ)I"⟩, 30), (⟨"FasterToBeLaterModel", "tags", "(III)Z"⟩, 30), (⟨"FasterToBeLaterModel", "draw", "(I)I"⟩, 30)]
theorem lw_r5 : ∀ q ∈ lw_privs_5, lw_okq q := List.forall_mem_cons.mpr ⟨lw_p64, List.forall_mem_cons.mpr ⟨lw_p65, List.forall_mem_cons.mpr ⟨lw_p66, List.forall_mem_cons.mpr ⟨lw_p67, List.forall_mem_cons.mpr ⟨lw_p68, List.forall_mem_cons.mpr ⟨lw_p69, List.forall_mem_cons.mpr ⟨lw_p70, List.forall_mem_cons.mpr ⟨lw_p71, List.forall_mem_cons.mpr ⟨lw_p72, fun _ h => absurd h List.not_mem_nil⟩⟩⟩⟩⟩⟩⟩⟩⟩
def lw_privs : List (MethodName × Nat) := lw_privs_1 ++ (lw_privs_2 ++ (lw_privs_3 ++ (lw_privs_4 ++ (lw_privs_5))))
def lw_tbl : List Cond := k2_sels lw_privs ++ tables_1
theorem lw_privs_ok : ∀ q ∈ lw_privs, lw_okq q := by
  show ∀ q ∈ lw_privs_1 ++ (lw_privs_2 ++ (lw_privs_3 ++ (lw_privs_4 ++ (lw_privs_5)))), lw_okq q
  exact List.forall_mem_append.mpr ⟨lw_r1, List.forall_mem_append.mpr ⟨lw_r2, List.forall_mem_append.mpr ⟨lw_r3, List.forall_mem_append.mpr ⟨lw_r4, lw_r5⟩⟩⟩⟩
end
section
/-! ===== BEGIN words of one list among another's, by their places ===== -/
theorem goodIn_r {big : List Cond} (ws : List Cond) (ps : List Nat) (hp : ws = ps.filterMap (fun i => big[i]?)) (h : ws.all goodWord = true) : GoodIn big ws := by
  intro w hw
  have h1 := List.all_eq_true.mp h w hw
  rw [hp] at hw
  obtain ⟨i, -, hi⟩ := List.mem_filterMap.mp hw
  have hm : w ∈ big := by first | exact List.mem_of_getElem? hi | exact List.getElem?_mem hi
  exact ⟨hm, good_of_word h1⟩
theorem goodIn_app {big a b : List Cond} (ha : GoodIn big a) (hb : GoodIn big b) : GoodIn big (a ++ b) := fun w h => (List.mem_append.mp h).elim (ha w) (hb w)
theorem goodIn_ca {big a b : List Cond} {c : Cond} (ha : GoodIn big (c :: a)) (hb : GoodIn big b) : GoodIn big (c :: (a ++ b)) := fun w h => (List.mem_cons.mp h).elim (fun e => ha w (List.mem_cons.mpr (Or.inl e))) (fun h => (List.mem_append.mp h).elim (fun h => ha w (List.mem_cons.mpr (Or.inr h))) (hb w))
theorem goodIn_sub {big ws : List Cond} (hm : ∀ w ∈ ws, w ∈ big) (h : ws.all goodWord = true) : GoodIn big ws := fun w hw => ⟨hm w hw, good_of_word (List.all_eq_true.mp h w hw)⟩
/-! ===== END ===== -/

/-! ===== BEGIN new T[n][m]: the outer array a place, the inner ones among the pooled ===== -/
/-- f, but v at every address of l -/
def vr_up {α : Type} (f : Nat → α) (l : List Nat) (v : α) : Nat → α := fun a => if a ∈ l then v else f a
theorem vr_up_in {α : Type} {f : Nat → α} {l : List Nat} {v : α} {a : Nat} (h : a ∈ l) : vr_up f l v a = v := if_pos h
theorem vr_up_ne {α : Type} {f : Nat → α} {l : List Nat} {v : α} {a : Nat} (h : a ∉ l) : vr_up f l v a = f a := if_neg h
theorem vr_rows {L l : List Nat} {f : Nat → va_E} {e : va_E} (h : ∀ a, a ∈ l → a ∉ L) : va_pl L f ++ l.map (fun a => (a, e)) = va_pl (L ++ l) (vr_up f l e) := by
  unfold va_pl
  rw [List.map_append]
  congr 1
  · apply List.map_congr_left
    intro a ha
    rw [vr_up_ne (fun q => h a q ha)]
  · apply List.map_congr_left
    intro a ha
    rw [vr_up_in ha]
theorem vr_lay {X rows : va_W} {x : Nat × va_E} {pl : va_W} {D : va_G} {cl : List vw_C} {H : Heap} (hP : va_P D cl (((X ++ pl) ++ [x]) ++ rows) H) : va_P D cl ((X ++ [x]) ++ (pl ++ rows)) H := by
  rw [List.append_assoc (X ++ pl)] at hP
  have h := va_P.swap hP
  rw [← List.append_assoc X] at h
  have h2 := va_P.swap h
  rw [List.append_assoc (X ++ [x])] at h2
  exact h2
theorem vr_layD {X rows : va_W} {x : Nat × va_E} {pl : va_W} {A : Nat → Prop} (hD : va_D A (((X ++ pl) ++ [x]) ++ rows)) : va_D A ((X ++ [x]) ++ (pl ++ rows)) := by
  rw [List.append_assoc (X ++ pl)] at hD
  have h := va_D.swap hD
  rw [← List.append_assoc X] at h
  have h2 := va_D.swap h
  rw [List.append_assoc (X ++ [x])] at h2
  exact h2
theorem vr_outer (c : ClassId) (N h0 : Nat) : ∀ i : Nat, Jvm.Free.Multi.outerC c N h0 i = arrV c N (fun j => va_rf (if j < i then some (h0 + 1 + j) else none))
  | 0 => by
    show ({ cls := c, slots := Array.replicate N .null, vm := .none } : Cell) = _
    rw [arrV_new]
    refine congrArg (arrV c N) (funext fun j => ?_)
    simp [va_rf]
  | i + 1 => by
    show (Jvm.Free.Multi.outerC c N h0 i).setSlot i (.ref (h0 + 1 + i)) = _
    rw [vr_outer c N h0 i, arrV_store]
    refine congrArg (arrV c N) (funext fun j => ?_)
    by_cases e : j = i
    · subst e
      simp [updV, va_rf]
    · by_cases h : j < i
      · simp [updV, e, h, Nat.lt_succ_of_lt h]
      · simp [updV, e, h, show ¬ j < i + 1 by omega]
/-- the NAMES text names this word but nothing defines it: an array of arrays over a type -/
def am_AOA (ty : FieldType) (U : State) : Prop := (Cond.arrayOver (.array ty)).before #[] U = true
theorem am_AOA.use {ty : FieldType} {A : Array Value} {U : State} (h : am_AOA ty U) : (Cond.arrayOver (.array ty)).before A U = true := h
section VGM
variable {p : Program} {l : Launch} {e : Env} {R : Room} {s : State} {m : MethodId} {args : Array Value} {below : List Frame} {meth : Method} {c : Code} {H : Heap} {locs : List Loc} {cells slots : Nat} {Q : State → Prop}
variable {cc : ByteArray} {pc : Nat} {ls : Array Slot} {rest : List Value} {D : va_G} {cl : List vw_C} {A : Nat → Prop} {a : Nat} {tys : List (ClassId × FieldType)} {ws : va_W} {H0 : Heap}
theorem va_mna {X : va_W} {L : List Nat} {f : Nat → va_E} {cc : ByteArray} (hexec : p.tables.exec = Jvm.exec) (hb : c.code = cc) {own : String} {index : Nat} {ty : FieldType} {cy : ClassId} (hown : s.vm.findClass own = some m.cls) (hclink : (Cond.classLink own index ("[" ++ (FieldType.array ty).toString)).before args s = true) (hover : am_AOA ty s) (harr : (Cond.arrayClass ty).before args s = true) (hcy : s.vm.findClass (FieldType.array ty).toString = some cy)
    (hK : va_K D cl tys s) (hP : va_P D cl (X ++ va_pl L f) H) (hD : va_D A (X ++ va_pl L f)) (hS : va_S A H0 H locs) (hA : ∀ q, H0.size ≤ q → A q) {n k : Int32} {N' K' : Nat} {z : vp_A} (hn : ¬ n < 0) (hk : ¬ k < 0) (hN : n.toNatClampNeg = N') (hM : k.toNatClampNeg = K')
    (hb1 : N' * 4 ≤ 536870912) (hb2 : K' * componentBytes ty ≤ 536870912) (hb3 : K' ≤ 536870912) (hdf : fits ty (defaultValue ty) = true) (hdd : (defaultValue ty).isDefault = true) (hcells : cells + (1 + N') ≤ R.cells) (hslots : slots + (N' + N' * K') ≤ R.slots) (hz : ∀ c : ClassId, Jvm.Free.Multi.innerC c K' (defaultValue ty) = vp_cell c z) (hdg : decode cc pc = .ok (.multianewarray index 2, 4))
    (kk : ∀ (q : Nat) (r : Nat → Nat) (cA : ClassId) (H1 : Heap), (∀ i j : Nat, i < N' → j < N' → r i = r j → i = j) → (∀ i : Nat, i < N' → r i ∉ L) → va_K D cl (tys ++ [(cA, .array ty)]) s →
      va_P D cl ((X ++ [(q, .inl (cA, N', .inr (.inr (.inr (.inr (fun i => if i < N' then some (r i) else none))))))]) ++ va_pl (L ++ (List.range N').map r) (vr_up f ((List.range N').map r) (.inl (cy, z)))) H1 → va_D A ((X ++ [(q, .inl (cA, N', .inr (.inr (.inr (.inr (fun i => if i < N' then some (r i) else none))))))]) ++ va_pl (L ++ (List.range N').map r) (vr_up f ((List.range N').map r) (.inl (cy, z)))) → va_S A H0 H1 locs →
      W p l e R s m args below meth c H1 locs (cells + 1 + N') (slots + N' + N' * K') Q (F0 m (pc + 4) ls (.ref q :: rest))) : W p l e R s m args below meth c H locs cells slots Q (F0 m pc ls (.int k :: .int n :: rest)) := by
  subst hN
  subst hM
  intro T hT Xs
  obtain ⟨vm₁, cA, comp, -, fA, fC, hO, -, X', step⟩ := Xs.multianewarray2F hexec hown hclink (am_AOA.use hover) harr (g := F0 m pc ls (.int k :: .int n :: rest)) rfl (by rw [hb]; exact hdg) rfl hn hk hb1 hb2 hb3 hdf hdd hcells hslots
  have ec : some cy = some comp := hcy.symm.trans fC
  cases ec
  generalize hF : Jvm.Free.Multi.fill (T.setVm vm₁) cA cy n.toNatClampNeg k.toNatClampNeg (defaultValue ty) n.toNatClampNeg = F at X' step
  have hTh : (T.setVm vm₁).heap = H := hT
  obtain ⟨f1, f2, -, -⟩ := Jvm.Free.Multi.fill_facts (T.setVm vm₁) cA cy n.toNatClampNeg k.toNatClampNeg (defaultValue ty) n.toNatClampNeg
  rw [hF, hTh] at f1 f2
  have hold : ∀ x : Nat, x < H.size → F.heap[x]? = H[x]? := fun x hx => by
    have := Jvm.Free.Multi.fill_old (T.setVm vm₁) cA cy n.toNatClampNeg k.toNatClampNeg (defaultValue ty) (a := x) (by rw [hTh]; exact hx) n.toNatClampNeg
    rw [hF, hTh] at this
    exact this
  have hrow : ∀ j : Nat, j < n.toNatClampNeg → F.heap[H.size + 1 + j]? = some (vp_cell cy z) := fun j hj => by
    have := Jvm.Free.Multi.fill_inner (T.setVm vm₁) cA cy n.toNatClampNeg k.toNatClampNeg (defaultValue ty) n.toNatClampNeg j hj
    rw [hF, hTh, hz] at this
    exact this
  have hout : Jvm.Free.Multi.outerC cA n.toNatClampNeg H.size n.toNatClampNeg = vp_cell cA (n.toNatClampNeg, .inr (.inr (.inr (.inr (fun i => if i < n.toNatClampNeg then some (H.size + 1 + i) else none))))) := by
    rw [vp_cell_q]
    exact vr_outer cA n.toNatClampNeg H.size n.toNatClampNeg
  rw [hout] at f2
  have hlt : ∀ a, a ∈ L → a < H.size := fun a ha => by
    obtain ⟨k9, hk9⟩ := va_pl_get (X := X) (f := f) ha
    exact (hP k9 _ hk9).lt
  have hnl : ∀ i : Nat, i < n.toNatClampNeg → H.size + 1 + i ∉ L := fun i _ h => by
    have := hlt _ h
    omega
  have hnm : ∀ a, a ∈ (List.range n.toNatClampNeg).map (fun i => H.size + 1 + i) → a ∉ L := fun a ha h => by
    obtain ⟨i, -, rfl⟩ := List.mem_map.mp ha
    have := hlt _ h
    omega
  have hP0 : va_P D cl (X ++ va_pl L f) F.heap := hP.kept (fun k9 x hx => hold x.1 ((hP k9 x hx).lt))
  have hP1 : va_P D cl ((X ++ va_pl L f) ++ [(H.size, .inl (cA, n.toNatClampNeg, .inr (.inr (.inr (.inr (fun i => if i < n.toNatClampNeg then some (H.size + 1 + i) else none))))))]) F.heap := hP0.app (fun k9 x hx => by
    have h0 : k9 < 1 := (List.getElem?_eq_some_iff.mp hx).1
    rw [show k9 = 0 by omega] at hx
    cases hx
    exact f2)
  have hP2 : va_P D cl (((X ++ va_pl L f) ++ [(H.size, .inl (cA, n.toNatClampNeg, .inr (.inr (.inr (.inr (fun i => if i < n.toNatClampNeg then some (H.size + 1 + i) else none))))))]) ++ ((List.range n.toNatClampNeg).map (fun i => H.size + 1 + i)).map (fun a => (a, .inl (cy, z)))) F.heap := hP1.app (fun k9 x hx => by
    obtain ⟨a, ha, rfl⟩ := List.mem_map.mp (List.mem_of_getElem? hx)
    obtain ⟨i, hi, rfl⟩ := List.mem_map.mp ha
    exact hrow i (List.mem_range.mp hi))
  have hD2 : va_D A (((X ++ va_pl L f) ++ [(H.size, .inl (cA, n.toNatClampNeg, .inr (.inr (.inr (.inr (fun i => if i < n.toNatClampNeg then some (H.size + 1 + i) else none))))))]) ++ ((List.range n.toNatClampNeg).map (fun i => H.size + 1 + i)).map (fun a => (a, .inl (cy, z)))) := by
    have hD1 := hD.push (e := .inl (cA, n.toNatClampNeg, .inr (.inr (.inr (.inr (fun i => if i < n.toNatClampNeg then some (H.size + 1 + i) else none)))))) hP rfl (hA _ hS.1)
    generalize hW1 : (X ++ va_pl L f) ++ [(H.size, .inl (cA, n.toNatClampNeg, .inr (.inr (.inr (.inr (fun i => if i < n.toNatClampNeg then some (H.size + 1 + i) else none))))))] = W1 at hD1 hP1 ⊢
    have hle : ∀ (k9 : Nat) (x : Nat × va_E), W1[k9]? = some x → x.1 ≤ H.size := fun k9 x hx => by
      rw [← hW1] at hx
      by_cases hl : k9 < (X ++ va_pl L f).length
      · rw [List.getElem?_append_left hl] at hx
        exact Nat.le_of_lt ((hP k9 x hx).lt)
      · rw [List.getElem?_append_right (by omega)] at hx
        have h0 : k9 - (X ++ va_pl L f).length < 1 := (List.getElem?_eq_some_iff.mp hx).1
        rw [show k9 - (X ++ va_pl L f).length = 0 by omega] at hx
        cases hx
        exact Nat.le_refl _
    have hr : ∀ (k9 : Nat) (x : Nat × va_E), (((List.range n.toNatClampNeg).map (fun i => H.size + 1 + i)).map (fun a => ((a, .inl (cy, z)) : Nat × va_E)))[k9]? = some x → x.1 = H.size + 1 + k9 := fun k9 x hx => by
      rw [List.getElem?_map, List.getElem?_map] at hx
      by_cases h9 : k9 < n.toNatClampNeg
      · rw [List.getElem?_range h9] at hx
        cases hx
        rfl
      · have hn0 : (List.range n.toNatClampNeg)[k9]? = none := List.getElem?_eq_none (by rw [List.length_range]; omega)
        rw [hn0] at hx
        cases hx
    refine ⟨fun i j x y hi hj hxy => ?_, fun k9 x hx => ?_⟩
    · by_cases h1 : i < W1.length <;> by_cases h2 : j < W1.length
      · rw [List.getElem?_append_left h1] at hi
        rw [List.getElem?_append_left h2] at hj
        exact hD1.1 i j x y hi hj hxy
      · rw [List.getElem?_append_left h1] at hi
        rw [List.getElem?_append_right (by omega)] at hj
        have := hle _ _ hi
        have := hr _ _ hj
        omega
      · rw [List.getElem?_append_right (by omega)] at hi
        rw [List.getElem?_append_left h2] at hj
        have := hle _ _ hj
        have := hr _ _ hi
        omega
      · rw [List.getElem?_append_right (by omega)] at hi hj
        have := hr _ _ hi
        have := hr _ _ hj
        omega
    · by_cases h1 : k9 < W1.length
      · rw [List.getElem?_append_left h1] at hx
        exact hD1.2 k9 x hx
      · rw [List.getElem?_append_right (by omega)] at hx
        have := hr _ _ hx
        exact hA _ (by have := hS.1; omega)
  have hAr : ArrOfT s cA (.array ty) := fun N9 z9 => by
    obtain ⟨-, k9, hk9, cm9, hkk9⟩ := (hO 0 0 0).1
    exact ⟨(fun q hq => by cases hq), k9, hk9, cm9, hkk9⟩
  have hK2 : va_K D cl (tys ++ [(cA, .array ty)]) s := ⟨hK.1, fun k9 x hx => by
    by_cases hl : k9 < tys.length
    · rw [List.getElem?_append_left hl] at hx
      exact hK.2 k9 x hx
    · rw [List.getElem?_append_right (by omega)] at hx
      have h0 : k9 - tys.length < 1 := (List.getElem?_eq_some_iff.mp hx).1
      rw [show k9 - tys.length = 0 by omega] at hx
      cases hx
      exact ⟨hAr, fA⟩⟩
  obtain ⟨t, a1, b1⟩ := kk H.size (fun i => H.size + 1 + i) cA F.heap (fun i j _ _ h => by have h9 : H.size + 1 + i = H.size + 1 + j := h; omega) hnl hK2 (by rw [← vr_rows hnm]; exact vr_lay hP2) (by rw [← vr_rows hnm]; exact vr_layD hD2) ⟨by rw [f1]; have := hS.1; omega, fun x h1 h2 => (hold x (Nat.lt_of_lt_of_le h1 hS.1)).trans (hS.2.1 x h1 h2), hS.2.2⟩ F rfl X'
  refine ⟨t, step t ?_, b1⟩
  have e : T.heap.size = H.size := by rw [hT]
  rw [e]
  exact a1
end VGM
/-! ===== END ===== -/

def RX0 : String := "FasterToBeLater$Chase"
def TX0 : u_T := fun k => match k with
  | 0 => ("FasterToBeLater$Chase", "sky", "LFasterToBeLater$World;", true)
  | 1 => ("FasterToBeLater$Chase", "chasers", "[LFasterToBeLater$Vessel;", true)
  | _ => ("FasterToBeLater$Chase", "runners", "[LFasterToBeLater$Vessel;", true)
def tyX0 : Nat → FieldType := fun k => match k with
  | 0 => .object "FasterToBeLater$World"
  | 1 => .array (.object "FasterToBeLater$Vessel")
  | _ => .array (.object "FasterToBeLater$Vessel")
theorem nmX0 : ∀ a, a < 3 → ∀ b, b < 3 → a ≠ b → (TX0 a).2.1 ≠ (TX0 b).2.1 := by decide +kernel
theorem tyX0_ok : ∀ k, k < 3 → parseFieldDescriptor (TX0 k).2.2.1 = some (tyX0 k) := by decide +kernel
abbrev cX0_init : ByteArray := prog_2_method_1_code
def yX0_init : MethodName := ⟨RX0, "<init>", "(LFasterToBeLater$World;)V"⟩
abbrev cX0_isWon : ByteArray := prog_2_method_2_code
def yX0_isWon : MethodName := ⟨RX0, "isWon", "(III)Z"⟩
abbrev cX0_catches : ByteArray := prog_2_method_3_code
def yX0_catches : MethodName := ⟨RX0, "catches", "(II)Z"⟩
abbrev cX0_catchesAll : ByteArray := prog_2_method_4_code
def yX0_catchesAll : MethodName := ⟨RX0, "catchesAll", "(II)Z"⟩
def RX1 : String := "FasterToBeLater$Planner"
def TX1 : u_T := fun k => match k with
  | 0 => ("FasterToBeLater$Planner", "sky", "LFasterToBeLater$World;", true)
  | 1 => ("FasterToBeLater$Planner", "spots", "[I", true)
  | 2 => ("FasterToBeLater$Planner", "spotCount", "I", false)
  | 3 => ("FasterToBeLater$Planner", "targets", "[[I", true)
  | 4 => ("FasterToBeLater$Planner", "lengths", "[[I", true)
  | 5 => ("FasterToBeLater$Planner", "prices", "[[I", true)
  | 6 => ("FasterToBeLater$Planner", "ring", "[[I", true)
  | 7 => ("FasterToBeLater$Planner", "toGo", "[I", true)
  | 8 => ("FasterToBeLater$Planner", "members", "[I", true)
  | 9 => ("FasterToBeLater$Planner", "memberSpots", "[I", true)
  | 10 => ("FasterToBeLater$Planner", "memberCount", "I", false)
  | 11 => ("FasterToBeLater$Planner", "whole", "I", false)
  | 12 => ("FasterToBeLater$Planner", "limit", "I", false)
  | 13 => ("FasterToBeLater$Planner", "fewest", "I", false)
  | _ => ("FasterToBeLater$Planner", "first", "I", false)
def tyX1 : Nat → FieldType := fun k => match k with
  | 0 => .object "FasterToBeLater$World"
  | 1 => .array .int
  | 2 => .int
  | 3 => .array (.array .int)
  | 4 => .array (.array .int)
  | 5 => .array (.array .int)
  | 6 => .array (.array .int)
  | 7 => .array .int
  | 8 => .array .int
  | 9 => .array .int
  | 10 => .int
  | 11 => .int
  | 12 => .int
  | 13 => .int
  | _ => .int
theorem nmX1 : ∀ a, a < 15 → ∀ b, b < 15 → a ≠ b → (TX1 a).2.1 ≠ (TX1 b).2.1 := by decide +kernel
theorem tyX1_ok : ∀ k, k < 15 → parseFieldDescriptor (TX1 k).2.2.1 = some (tyX1 k) := by decide +kernel
abbrev cX1_init : ByteArray := prog_3_method_1_code
def yX1_init : MethodName := ⟨RX1, "<init>", "(LFasterToBeLater$World;)V"⟩
abbrev cX1_fewestDrops : ByteArray := prog_3_method_2_code
def yX1_fewestDrops : MethodName := ⟨RX1, "fewestDrops", "(LFasterToBeLater$Vessel;II)I"⟩
abbrev cX1_firstStep : ByteArray := prog_3_method_3_code
def yX1_firstStep : MethodName := ⟨RX1, "firstStep", "(LFasterToBeLater$Vessel;I)I"⟩
abbrev cX1_dropsThrough : ByteArray := prog_3_method_4_code
def yX1_dropsThrough : MethodName := ⟨RX1, "dropsThrough", "(LFasterToBeLater$Vessel;LFasterToBeLater$Shelf;I)I"⟩
abbrev cX1_keepOnly : ByteArray := prog_3_method_5_code
def yX1_keepOnly : MethodName := ⟨RX1, "keepOnly", "(II)I"⟩
abbrev cX1_prepare : ByteArray := prog_3_method_6_code
def yX1_prepare : MethodName := ⟨RX1, "prepare", "(LFasterToBeLater$Vessel;II)V"⟩
abbrev cX1_chart : ByteArray := prog_3_method_7_code
def yX1_chart : MethodName := ⟨RX1, "chart", "(LFasterToBeLater$Vessel;)V"⟩
abbrev cX1_chartChange : ByteArray := prog_3_method_8_code
def yX1_chartChange : MethodName := ⟨RX1, "chartChange", "(LFasterToBeLater$Vessel;III)V"⟩
abbrev cX1_gather : ByteArray := prog_3_method_9_code
def yX1_gather : MethodName := ⟨RX1, "gather", "(I)V"⟩
abbrev cX1_visit : ByteArray := prog_3_method_10_code
def yX1_visit : MethodName := ⟨RX1, "visit", "(I)V"⟩
abbrev cX1_arrive : ByteArray := prog_3_method_11_code
def yX1_arrive : MethodName := ⟨RX1, "arrive", "(IIII)V"⟩
abbrev cX1_finish : ByteArray := prog_3_method_12_code
def yX1_finish : MethodName := ⟨RX1, "finish", "(II)V"⟩
abbrev cX1_spread : ByteArray := prog_3_method_13_code
def yX1_spread : MethodName := ⟨RX1, "spread", "(IIII)V"⟩
abbrev cX1_codeOfWay : ByteArray := prog_3_method_14_code
def yX1_codeOfWay : MethodName := ⟨RX1, "codeOfWay", "(LFasterToBeLater$Vessel;II)I"⟩
abbrev cX1_setToGo : ByteArray := prog_3_method_15_code
def yX1_setToGo : MethodName := ⟨RX1, "setToGo", "(III)V"⟩
abbrev cX1_firstBestCode : ByteArray := prog_3_method_16_code
def yX1_firstBestCode : MethodName := ⟨RX1, "firstBestCode", "(III)I"⟩
abbrev cX1_dropsBy : ByteArray := prog_3_method_17_code
def yX1_dropsBy : MethodName := ⟨RX1, "dropsBy", "(IIII)I"⟩
abbrev cX1_slotOf : ByteArray := prog_3_method_18_code
def yX1_slotOf : MethodName := ⟨RX1, "slotOf", "(I)I"⟩
def RX2 : String := "FasterToBeLater$Shelf"
def TX2 : u_T := fun k => match k with
  | 0 => ("FasterToBeLater$Shelf", "content", "I", false)
  | 1 => ("FasterToBeLater$Shelf", "size", "I", false)
  | _ => ("FasterToBeLater$Shelf", "elements", "[J", true)
def tyX2 : Nat → FieldType := fun k => match k with
  | 0 => .int
  | 1 => .int
  | _ => .array .long
theorem nmX2 : ∀ a, a < 3 → ∀ b, b < 3 → a ≠ b → (TX2 a).2.1 ≠ (TX2 b).2.1 := by decide +kernel
theorem tyX2_ok : ∀ k, k < 3 → parseFieldDescriptor (TX2 k).2.2.1 = some (tyX2 k) := by decide +kernel
abbrev cX2_init : ByteArray := prog_4_method_1_code
def yX2_init : MethodName := ⟨RX2, "<init>", "()V"⟩
abbrev cX2_isEmpty : ByteArray := prog_4_method_2_code
def yX2_isEmpty : MethodName := ⟨RX2, "isEmpty", "()Z"⟩
abbrev cX2_isShip : ByteArray := prog_4_method_3_code
def yX2_isShip : MethodName := ⟨RX2, "isShip", "()Z"⟩
abbrev cX2_isRow : ByteArray := prog_4_method_4_code
def yX2_isRow : MethodName := ⟨RX2, "isRow", "()Z"⟩
abbrev cX2_shipNumber : ByteArray := prog_4_method_5_code
def yX2_shipNumber : MethodName := ⟨RX2, "shipNumber", "()I"⟩
abbrev cX2_beEmpty : ByteArray := prog_4_method_6_code
def yX2_beEmpty : MethodName := ⟨RX2, "beEmpty", "()V"⟩
abbrev cX2_beShip : ByteArray := prog_4_method_7_code
def yX2_beShip : MethodName := ⟨RX2, "beShip", "(I)V"⟩
abbrev cX2_beRow : ByteArray := prog_4_method_8_code
def yX2_beRow : MethodName := ⟨RX2, "beRow", "(II)V"⟩
abbrev cX2_hasPart : ByteArray := prog_4_method_9_code
def yX2_hasPart : MethodName := ⟨RX2, "hasPart", "(II)Z"⟩
abbrev cX2_put : ByteArray := prog_4_method_10_code
def yX2_put : MethodName := ⟨RX2, "put", "(IJ)V"⟩
abbrev cX2_narrowed : ByteArray := prog_4_method_11_code
def yX2_narrowed : MethodName := ⟨RX2, "narrowed", "(J)J"⟩
def RX3 : String := "FasterToBeLater$Tape"
def TX3 : u_T := fun k => match k with
  | 0 => ("FasterToBeLater$Tape", "letters", "[I", true)
  | 1 => ("FasterToBeLater$Tape", "size", "I", false)
  | 2 => ("FasterToBeLater$Tape", "draft", "LFasterToBeLater$World;", true)
  | 3 => ("FasterToBeLater$Tape", "sort", "I", false)
  | 4 => ("FasterToBeLater$Tape", "start", "I", false)
  | 5 => ("FasterToBeLater$Tape", "end", "I", false)
  | _ => ("FasterToBeLater$Tape", "fault", "I", false)
def tyX3 : Nat → FieldType := fun k => match k with
  | 0 => .array .int
  | 1 => .int
  | 2 => .object "FasterToBeLater$World"
  | 3 => .int
  | 4 => .int
  | 5 => .int
  | _ => .int
theorem nmX3 : ∀ a, a < 7 → ∀ b, b < 7 → a ≠ b → (TX3 a).2.1 ≠ (TX3 b).2.1 := by decide +kernel
theorem tyX3_ok : ∀ k, k < 7 → parseFieldDescriptor (TX3 k).2.2.1 = some (tyX3 k) := by decide +kernel
abbrev cX3_init : ByteArray := prog_5_method_1_code
def yX3_init : MethodName := ⟨RX3, "<init>", "()V"⟩
abbrev cX3_read : ByteArray := prog_5_method_2_code
def yX3_read : MethodName := ⟨RX3, "read", "(LFasterToBeLater$World;)I"⟩
abbrev cX3_readStatement : ByteArray := prog_5_method_3_code
def yX3_readStatement : MethodName := ⟨RX3, "readStatement", "()V"⟩
abbrev cX3_readCircles : ByteArray := prog_5_method_4_code
def yX3_readCircles : MethodName := ⟨RX3, "readCircles", "()V"⟩
abbrev cX3_readTime : ByteArray := prog_5_method_5_code
def yX3_readTime : MethodName := ⟨RX3, "readTime", "()V"⟩
abbrev cX3_readCost : ByteArray := prog_5_method_6_code
def yX3_readCost : MethodName := ⟨RX3, "readCost", "()V"⟩
abbrev cX3_readShip : ByteArray := prog_5_method_7_code
def yX3_readShip : MethodName := ⟨RX3, "readShip", "()V"⟩
abbrev cX3_readSteps : ByteArray := prog_5_method_8_code
def yX3_readSteps : MethodName := ⟨RX3, "readSteps", "()V"⟩
abbrev cX3_readNumber : ByteArray := prog_5_method_9_code
def yX3_readNumber : MethodName := ⟨RX3, "readNumber", "(II)I"⟩
abbrev cX3_numberHere : ByteArray := prog_5_method_10_code
def yX3_numberHere : MethodName := ⟨RX3, "numberHere", "()I"⟩
abbrev cX3_isWord : ByteArray := prog_5_method_11_code
def yX3_isWord : MethodName := ⟨RX3, "isWord", "(Ljava/lang/String;)Z"⟩
abbrev cX3_takeToken : ByteArray := prog_5_method_12_code
def yX3_takeToken : MethodName := ⟨RX3, "takeToken", "()V"⟩
abbrev cX3_sortAt : ByteArray := prog_5_method_13_code
def yX3_sortAt : MethodName := ⟨RX3, "sortAt", "(I)I"⟩
def RX4 : String := "FasterToBeLater$Vessel"
def TX4 : u_T := fun k => match k with
  | 0 => ("FasterToBeLater$Vessel", "kind", "I", false)
  | 1 => ("FasterToBeLater$Vessel", "circle", "I", false)
  | 2 => ("FasterToBeLater$Vessel", "place", "I", false)
  | 3 => ("FasterToBeLater$Vessel", "drops", "I", false)
  | _ => ("FasterToBeLater$Vessel", "busy", "I", false)
def tyX4 : Nat → FieldType := fun k => match k with
  | 0 => .int
  | 1 => .int
  | 2 => .int
  | 3 => .int
  | _ => .int
theorem nmX4 : ∀ a, a < 5 → ∀ b, b < 5 → a ≠ b → (TX4 a).2.1 ≠ (TX4 b).2.1 := by decide +kernel
theorem tyX4_ok : ∀ k, k < 5 → parseFieldDescriptor (TX4 k).2.2.1 = some (tyX4 k) := by decide +kernel
abbrev cX4_init : ByteArray := prog_6_method_1_code
def yX4_init : MethodName := ⟨RX4, "<init>", "()V"⟩
abbrev cX4_become : ByteArray := prog_6_method_2_code
def yX4_become : MethodName := ⟨RX4, "become", "(LFasterToBeLater$Vessel;)V"⟩
abbrev cX4_isWith : ByteArray := prog_6_method_3_code
def yX4_isWith : MethodName := ⟨RX4, "isWith", "(LFasterToBeLater$Vessel;)Z"⟩
abbrev cX4_isOf : ByteArray := prog_6_method_4_code
def yX4_isOf : MethodName := ⟨RX4, "isOf", "(I)Z"⟩
abbrev cX4_steers : ByteArray := prog_6_method_5_code
def yX4_steers : MethodName := ⟨RX4, "steers", "()Z"⟩
abbrev cX4_busyBehind : ByteArray := prog_6_method_6_code
def yX4_busyBehind : MethodName := ⟨RX4, "busyBehind", "(I)I"⟩
def RX5 : String := "FasterToBeLater$World"
def TX5 : u_T := fun k => match k with
  | 0 => ("FasterToBeLater$World", "circleCount", "I", false)
  | 1 => ("FasterToBeLater$World", "times", "[I", true)
  | 2 => ("FasterToBeLater$World", "costs", "[I", true)
  | 3 => ("FasterToBeLater$World", "shipCount", "I", false)
  | 4 => ("FasterToBeLater$World", "ships", "[LFasterToBeLater$Vessel;", true)
  | 5 => ("FasterToBeLater$World", "clock", "I", false)
  | 6 => ("FasterToBeLater$World", "hits", "I", false)
  | _ => ("FasterToBeLater$World", "seed", "I", false)
def tyX5 : Nat → FieldType := fun k => match k with
  | 0 => .int
  | 1 => .array .int
  | 2 => .array .int
  | 3 => .int
  | 4 => .array (.object "FasterToBeLater$Vessel")
  | 5 => .int
  | 6 => .int
  | _ => .int
theorem nmX5 : ∀ a, a < 8 → ∀ b, b < 8 → a ≠ b → (TX5 a).2.1 ≠ (TX5 b).2.1 := by decide +kernel
theorem tyX5_ok : ∀ k, k < 8 → parseFieldDescriptor (TX5 k).2.2.1 = some (tyX5 k) := by decide +kernel
abbrev cX5_init : ByteArray := prog_7_method_1_code
def yX5_init : MethodName := ⟨RX5, "<init>", "()V"⟩
abbrev cX5_become : ByteArray := prog_7_method_2_code
def yX5_become : MethodName := ⟨RX5, "become", "(LFasterToBeLater$World;)V"⟩
abbrev cX5_hasCircle : ByteArray := prog_7_method_3_code
def yX5_hasCircle : MethodName := ⟨RX5, "hasCircle", "(I)Z"⟩
abbrev cX5_hasCircleAbove : ByteArray := prog_7_method_4_code
def yX5_hasCircleAbove : MethodName := ⟨RX5, "hasCircleAbove", "(I)Z"⟩
abbrev cX5_hasCircleNext : ByteArray := prog_7_method_5_code
def yX5_hasCircleNext : MethodName := ⟨RX5, "hasCircleNext", "(II)Z"⟩
abbrev cX5_hasPlace : ByteArray := prog_7_method_6_code
def yX5_hasPlace : MethodName := ⟨RX5, "hasPlace", "(II)Z"⟩
abbrev cX5_hasShip : ByteArray := prog_7_method_7_code
def yX5_hasShip : MethodName := ⟨RX5, "hasShip", "(I)Z"⟩
abbrev cX5_hasPair : ByteArray := prog_7_method_8_code
def yX5_hasPair : MethodName := ⟨RX5, "hasPair", "(II)Z"⟩
abbrev cX5_isFull : ByteArray := prog_7_method_9_code
def yX5_isFull : MethodName := ⟨RX5, "isFull", "()Z"⟩
abbrev cX5_timeOf : ByteArray := prog_7_method_10_code
def yX5_timeOf : MethodName := ⟨RX5, "timeOf", "(I)I"⟩
abbrev cX5_next : ByteArray := prog_7_method_11_code
def yX5_next : MethodName := ⟨RX5, "next", "(II)I"⟩
abbrev cX5_addShip : ByteArray := prog_7_method_12_code
def yX5_addShip : MethodName := ⟨RX5, "addShip", "(IIII)I"⟩
abbrev cX5_shipsOn : ByteArray := prog_7_method_13_code
def yX5_shipsOn : MethodName := ⟨RX5, "shipsOn", "(I)I"⟩
abbrev cX5_busyShips : ByteArray := prog_7_method_14_code
def yX5_busyShips : MethodName := ⟨RX5, "busyShips", "()I"⟩
abbrev cX5_idleOn : ByteArray := prog_7_method_15_code
def yX5_idleOn : MethodName := ⟨RX5, "idleOn", "(I)I"⟩
abbrev cX5_allDrops : ByteArray := prog_7_method_16_code
def yX5_allDrops : MethodName := ⟨RX5, "allDrops", "()I"⟩
abbrev cX5_countMet : ByteArray := prog_7_method_17_code
def yX5_countMet : MethodName := ⟨RX5, "countMet", "(I)I"⟩
abbrev cX5_price : ByteArray := prog_7_method_18_code
def yX5_price : MethodName := ⟨RX5, "price", "(LFasterToBeLater$Vessel;II)I"⟩
abbrev cX5_crossing : ByteArray := prog_7_method_19_code
def yX5_crossing : MethodName := ⟨RX5, "crossing", "(I)I"⟩
abbrev cX5_landing : ByteArray := prog_7_method_20_code
def yX5_landing : MethodName := ⟨RX5, "landing", "(III)I"⟩
abbrev cX5_isAble : ByteArray := prog_7_method_21_code
def yX5_isAble : MethodName := ⟨RX5, "isAble", "(LFasterToBeLater$Vessel;I)Z"⟩
abbrev cX5_send : ByteArray := prog_7_method_22_code
def yX5_send : MethodName := ⟨RX5, "send", "(LFasterToBeLater$Vessel;I)V"⟩
abbrev cX5_drift : ByteArray := prog_7_method_23_code
def yX5_drift : MethodName := ⟨RX5, "drift", "(LFasterToBeLater$Vessel;)V"⟩
abbrev cX5_placeBehind : ByteArray := prog_7_method_24_code
def yX5_placeBehind : MethodName := ⟨RX5, "placeBehind", "(LFasterToBeLater$Vessel;I)I"⟩
abbrev cX5_fly : ByteArray := prog_7_method_25_code
def yX5_fly : MethodName := ⟨RX5, "fly", "(LFasterToBeLater$Vessel;J)Z"⟩
abbrev cX5_advance : ByteArray := prog_7_method_26_code
def yX5_advance : MethodName := ⟨RX5, "advance", "(I)I"⟩
abbrev cX5_pairsHit : ByteArray := prog_7_method_27_code
def yX5_pairsHit : MethodName := ⟨RX5, "pairsHit", "()I"⟩
abbrev cX5_isClashBehind : ByteArray := prog_7_method_28_code
def yX5_isClashBehind : MethodName := ⟨RX5, "isClashBehind", "(I)Z"⟩
abbrev cX5_spotOf : ByteArray := prog_7_method_29_code
def yX5_spotOf : MethodName := ⟨RX5, "spotOf", "(LFasterToBeLater$Vessel;)I"⟩
abbrev cX5_spotBehind : ByteArray := prog_7_method_30_code
def yX5_spotBehind : MethodName := ⟨RX5, "spotBehind", "(LFasterToBeLater$Vessel;I)I"⟩
abbrev cX5_draw : ByteArray := prog_7_method_31_code
def yX5_draw : MethodName := ⟨RX5, "draw", "(I)I"⟩
def RX6 : String := "FasterToBeLater"
def TX6 : u_T := fun k => match k with
  | 0 => ("FasterToBeLater", "present", "LFasterToBeLater$World;", true)
  | 1 => ("FasterToBeLater", "kept", "LFasterToBeLater$World;", true)
  | 2 => ("FasterToBeLater", "isKept", "Z", false)
  | 3 => ("FasterToBeLater", "tape", "LFasterToBeLater$Tape;", true)
  | 4 => ("FasterToBeLater", "shelves", "[LFasterToBeLater$Shelf;", true)
  | 5 => ("FasterToBeLater", "refusals", "[I", true)
  | 6 => ("FasterToBeLater", "flyer", "LFasterToBeLater$Vessel;", true)
  | 7 => ("FasterToBeLater", "drifter", "LFasterToBeLater$Vessel;", true)
  | 8 => ("FasterToBeLater", "planner", "LFasterToBeLater$Planner;", false)
  | _ => ("FasterToBeLater", "chase", "LFasterToBeLater$Chase;", false)
def tyX6 : Nat → FieldType := fun k => match k with
  | 0 => .object "FasterToBeLater$World"
  | 1 => .object "FasterToBeLater$World"
  | 2 => .boolean
  | 3 => .object "FasterToBeLater$Tape"
  | 4 => .array (.object "FasterToBeLater$Shelf")
  | 5 => .array .int
  | 6 => .object "FasterToBeLater$Vessel"
  | 7 => .object "FasterToBeLater$Vessel"
  | 8 => .object "FasterToBeLater$Planner"
  | _ => .object "FasterToBeLater$Chase"
theorem nmX6 : ∀ a, a < 10 → ∀ b, b < 10 → a ≠ b → (TX6 a).2.1 ≠ (TX6 b).2.1 := by decide +kernel
theorem tyX6_ok : ∀ k, k < 10 → parseFieldDescriptor (TX6 k).2.2.1 = some (tyX6 k) := by decide +kernel
abbrev cX6_init : ByteArray := prog_1_method_1_code
def yX6_init : MethodName := ⟨RX6, "<init>", "()V"⟩
abbrev cX6_row : ByteArray := prog_1_method_2_code
def yX6_row : MethodName := ⟨RX6, "row", "(III)I"⟩
abbrev cX6_set : ByteArray := prog_1_method_3_code
def yX6_set : MethodName := ⟨RX6, "set", "(IIJ)I"⟩
abbrev cX6_copy : ByteArray := prog_1_method_4_code
def yX6_copy : MethodName := ⟨RX6, "copy", "(IIIII)I"⟩
abbrev cX6_element : ByteArray := prog_1_method_5_code
def yX6_element : MethodName := ⟨RX6, "element", "(II)J"⟩
abbrev cX6_holds : ByteArray := prog_1_method_6_code
def yX6_holds : MethodName := ⟨RX6, "holds", "(I)I"⟩
abbrev cX6_show : ByteArray := prog_1_method_7_code
def yX6_show : MethodName := ⟨RX6, "show", "(II)I"⟩
abbrev cX6_says : ByteArray := prog_1_method_8_code
def yX6_says : MethodName := ⟨RX6, "says", "(II)I"⟩
abbrev cX6_circles : ByteArray := prog_1_method_9_code
def yX6_circles : MethodName := ⟨RX6, "circles", "(I)I"⟩
abbrev cX6_time : ByteArray := prog_1_method_10_code
def yX6_time : MethodName := ⟨RX6, "time", "(II)I"⟩
abbrev cX6_cost : ByteArray := prog_1_method_11_code
def yX6_cost : MethodName := ⟨RX6, "cost", "(II)I"⟩
abbrev cX6_ship : ByteArray := prog_1_method_12_code
def yX6_ship : MethodName := ⟨RX6, "ship", "(IIII)I"⟩
abbrev cX6_fill : ByteArray := prog_1_method_13_code
def yX6_fill : MethodName := ⟨RX6, "fill", "(II)I"⟩
abbrev cX6_feed : ByteArray := prog_1_method_14_code
def yX6_feed : MethodName := ⟨RX6, "feed", "(I)I"⟩
abbrev cX6_wipe : ByteArray := prog_1_method_15_code
def yX6_wipe : MethodName := ⟨RX6, "wipe", "()I"⟩
abbrev cX6_world : ByteArray := prog_1_method_16_code
def yX6_world : MethodName := ⟨RX6, "world", "()I"⟩
abbrev cX6_shipOf : ByteArray := prog_1_method_17_code
def yX6_shipOf : MethodName := ⟨RX6, "shipOf", "(II)I"⟩
abbrev cX6_circleOf : ByteArray := prog_1_method_18_code
def yX6_circleOf : MethodName := ⟨RX6, "circleOf", "(II)I"⟩
abbrev cX6_can : ByteArray := prog_1_method_19_code
def yX6_can : MethodName := ⟨RX6, "can", "(II)I"⟩
abbrev cX6_behind : ByteArray := prog_1_method_20_code
def yX6_behind : MethodName := ⟨RX6, "behind", "(III)I"⟩
abbrev cX6_meets : ByteArray := prog_1_method_21_code
def yX6_meets : MethodName := ⟨RX6, "meets", "(II)I"⟩
abbrev cX6_judge : ByteArray := prog_1_method_22_code
def yX6_judge : MethodName := ⟨RX6, "judge", "(III)I"⟩
abbrev cX6_flown : ByteArray := prog_1_method_23_code
def yX6_flown : MethodName := ⟨RX6, "flown", "(IIII)I"⟩
abbrev cX6_met : ByteArray := prog_1_method_24_code
def yX6_met : MethodName := ⟨RX6, "met", "(IIII)I"⟩
abbrev cX6_cheapest : ByteArray := prog_1_method_25_code
def yX6_cheapest : MethodName := ⟨RX6, "cheapest", "(III)I"⟩
abbrev cX6_soonest : ByteArray := prog_1_method_26_code
def yX6_soonest : MethodName := ⟨RX6, "soonest", "(II)I"⟩
abbrev cX6_way : ByteArray := prog_1_method_27_code
def yX6_way : MethodName := ⟨RX6, "way", "(III)I"⟩
abbrev cX6_round : ByteArray := prog_1_method_28_code
def yX6_round : MethodName := ⟨RX6, "round", "(III)I"⟩
abbrev cX6_home : ByteArray := prog_1_method_29_code
def yX6_home : MethodName := ⟨RX6, "home", "(II)I"⟩
abbrev cX6_again : ByteArray := prog_1_method_30_code
def yX6_again : MethodName := ⟨RX6, "again", "()J"⟩
abbrev cX6_pass : ByteArray := prog_1_method_31_code
def yX6_pass : MethodName := ⟨RX6, "pass", "(II)I"⟩
abbrev cX6_queue : ByteArray := prog_1_method_32_code
def yX6_queue : MethodName := ⟨RX6, "queue", "(II)I"⟩
abbrev cX6_fullest : ByteArray := prog_1_method_33_code
def yX6_fullest : MethodName := ⟨RX6, "fullest", "()I"⟩
abbrev cX6_clash : ByteArray := prog_1_method_34_code
def yX6_clash : MethodName := ⟨RX6, "clash", "(I)I"⟩
abbrev cX6_burnt : ByteArray := prog_1_method_35_code
def yX6_burnt : MethodName := ⟨RX6, "burnt", "(III)I"⟩
abbrev cX6_tag : ByteArray := prog_1_method_36_code
def yX6_tag : MethodName := ⟨RX6, "tag", "(III)I"⟩
abbrev cX6_step : ByteArray := prog_1_method_37_code
def yX6_step : MethodName := ⟨RX6, "step", "(I)I"⟩
abbrev cX6_change : ByteArray := prog_1_method_38_code
def yX6_change : MethodName := ⟨RX6, "change", "(II)I"⟩
abbrev cX6_hand : ByteArray := prog_1_method_39_code
def yX6_hand : MethodName := ⟨RX6, "hand", "(III)I"⟩
abbrev cX6_hurl : ByteArray := prog_1_method_40_code
def yX6_hurl : MethodName := ⟨RX6, "hurl", "(III)I"⟩
abbrev cX6_bolts : ByteArray := prog_1_method_41_code
def yX6_bolts : MethodName := ⟨RX6, "bolts", "(I)I"⟩
abbrev cX6_seed : ByteArray := prog_1_method_42_code
def yX6_seed : MethodName := ⟨RX6, "seed", "(I)I"⟩
abbrev cX6_image : ByteArray := prog_1_method_43_code
def yX6_image : MethodName := ⟨RX6, "image", "()I"⟩
abbrev cX6_back : ByteArray := prog_1_method_44_code
def yX6_back : MethodName := ⟨RX6, "back", "()I"⟩
abbrev cX6_status : ByteArray := prog_1_method_45_code
def yX6_status : MethodName := ⟨RX6, "status", "(I)I"⟩
abbrev cX6_refuse : ByteArray := prog_1_method_46_code
def yX6_refuse : MethodName := ⟨RX6, "refuse", "(I)I"⟩
abbrev cX6_refusalsOf : ByteArray := prog_1_method_47_code
def yX6_refusalsOf : MethodName := ⟨RX6, "refusalsOf", "(I)I"⟩
abbrev cX6_shelvesInUse : ByteArray := prog_1_method_48_code
def yX6_shelvesInUse : MethodName := ⟨RX6, "shelvesInUse", "()I"⟩
abbrev cX6_rowRefusal : ByteArray := prog_1_method_49_code
def yX6_rowRefusal : MethodName := ⟨RX6, "rowRefusal", "(IZI)I"⟩
abbrev cX6_saying : ByteArray := prog_1_method_50_code
def yX6_saying : MethodName := ⟨RX6, "saying", "(II)I"⟩
abbrev cX6_firstWrongCode : ByteArray := prog_1_method_51_code
def yX6_firstWrongCode : MethodName := ⟨RX6, "firstWrongCode", "(LFasterToBeLater$Shelf;II)I"⟩
abbrev cX6_firstMeeting : ByteArray := prog_1_method_52_code
def yX6_firstMeeting : MethodName := ⟨RX6, "firstMeeting", "(LFasterToBeLater$Shelf;III)I"⟩
abbrev cX6_queueAt : ByteArray := prog_1_method_53_code
def yX6_queueAt : MethodName := ⟨RX6, "queueAt", "(II)I"⟩
abbrev cX6_areSightings : ByteArray := prog_1_method_54_code
def yX6_areSightings : MethodName := ⟨RX6, "areSightings", "(LFasterToBeLater$Shelf;I)Z"⟩
abbrev cX6_isSetOfOthers : ByteArray := prog_1_method_55_code
def yX6_isSetOfOthers : MethodName := ⟨RX6, "isSetOfOthers", "(II)Z"⟩
abbrev cX6_isFlight : ByteArray := prog_1_method_56_code
def yX6_isFlight : MethodName := ⟨RX6, "isFlight", "(II)Z"⟩
abbrev cX6_thinking : ByteArray := prog_1_method_57_code
def yX6_thinking : MethodName := ⟨RX6, "thinking", "()LFasterToBeLater$Planner;"⟩
abbrev cX6_isShelf : ByteArray := prog_1_method_58_code
def yX6_isShelf : MethodName := ⟨RX6, "isShelf", "(I)Z"⟩
abbrev cX6_isKind : ByteArray := prog_1_method_59_code
def yX6_isKind : MethodName := ⟨RX6, "isKind", "(I)Z"⟩
abbrev cX6_isChange : ByteArray := prog_1_method_60_code
def yX6_isChange : MethodName := ⟨RX6, "isChange", "(I)Z"⟩
abbrev cX6_areDrops : ByteArray := prog_1_method_61_code
def yX6_areDrops : MethodName := ⟨RX6, "areDrops", "(I)Z"⟩
abbrev cX6_areSteps : ByteArray := prog_1_method_62_code
def yX6_areSteps : MethodName := ⟨RX6, "areSteps", "(I)Z"⟩
abbrev cX6_modulo : ByteArray := prog_1_method_63_code
def yX6_modulo : MethodName := ⟨RX6, "modulo", "(II)I"⟩
abbrev cX6_leastCommonMultiple : ByteArray := prog_1_method_64_code
def yX6_leastCommonMultiple : MethodName := ⟨RX6, "leastCommonMultiple", "(JI)J"⟩
def RX7 : String := "FasterToBeLaterModel"
def TX7 : u_T := fun k => match k with
  | 0 => ("FasterToBeLaterModel", "holding", "[I", true)
  | 1 => ("FasterToBeLaterModel", "rowLength", "[I", true)
  | 2 => ("FasterToBeLaterModel", "rowOf", "[J", true)
  | 3 => ("FasterToBeLaterModel", "circles", "I", false)
  | 4 => ("FasterToBeLaterModel", "time", "[I", true)
  | 5 => ("FasterToBeLaterModel", "cost", "[I", true)
  | 6 => ("FasterToBeLaterModel", "ships", "I", false)
  | 7 => ("FasterToBeLaterModel", "kind", "[I", true)
  | 8 => ("FasterToBeLaterModel", "circle", "[I", true)
  | 9 => ("FasterToBeLaterModel", "place", "[I", true)
  | 10 => ("FasterToBeLaterModel", "drops", "[I", true)
  | 11 => ("FasterToBeLaterModel", "busy", "[I", true)
  | 12 => ("FasterToBeLaterModel", "gone", "I", false)
  | 13 => ("FasterToBeLaterModel", "hits", "I", false)
  | 14 => ("FasterToBeLaterModel", "seed", "I", false)
  | 15 => ("FasterToBeLaterModel", "taped", "I", false)
  | 16 => ("FasterToBeLaterModel", "tape", "[I", true)
  | 17 => ("FasterToBeLaterModel", "at", "I", false)
  | 18 => ("FasterToBeLaterModel", "token", "I", false)
  | 19 => ("FasterToBeLaterModel", "sort", "I", false)
  | 20 => ("FasterToBeLaterModel", "value", "I", false)
  | 21 => ("FasterToBeLaterModel", "refusals", "[I", true)
  | 22 => ("FasterToBeLaterModel", "imaged", "Z", false)
  | 23 => ("FasterToBeLaterModel", "old", "[I", true)
  | 24 => ("FasterToBeLaterModel", "ahead", "[I", true)
  | 25 => ("FasterToBeLaterModel", "now", "[I", true)
  | 26 => ("FasterToBeLaterModel", "next", "[I", true)
  | 27 => ("FasterToBeLaterModel", "left", "[I", true)
  | 28 => ("FasterToBeLaterModel", "way", "[I", true)
  | _ => ("FasterToBeLaterModel", "met", "I", false)
def tyX7 : Nat → FieldType := fun k => match k with
  | 0 => .array .int
  | 1 => .array .int
  | 2 => .array .long
  | 3 => .int
  | 4 => .array .int
  | 5 => .array .int
  | 6 => .int
  | 7 => .array .int
  | 8 => .array .int
  | 9 => .array .int
  | 10 => .array .int
  | 11 => .array .int
  | 12 => .int
  | 13 => .int
  | 14 => .int
  | 15 => .int
  | 16 => .array .int
  | 17 => .int
  | 18 => .int
  | 19 => .int
  | 20 => .int
  | 21 => .array .int
  | 22 => .boolean
  | 23 => .array .int
  | 24 => .array .int
  | 25 => .array .int
  | 26 => .array .int
  | 27 => .array .int
  | 28 => .array .int
  | _ => .int
theorem nmX7 : ∀ a, a < 30 → ∀ b, b < 30 → a ≠ b → (TX7 a).2.1 ≠ (TX7 b).2.1 := by decide +kernel
theorem tyX7_ok : ∀ k, k < 30 → parseFieldDescriptor (TX7 k).2.2.1 = some (tyX7 k) := by decide +kernel
abbrev cX7_init : ByteArray := prog_9_method_1_code
def yX7_init : MethodName := ⟨RX7, "<init>", "()V"⟩
abbrev cX7_no : ByteArray := prog_9_method_2_code
def yX7_no : MethodName := ⟨RX7, "no", "(I)I"⟩
abbrev cX7_within : ByteArray := prog_9_method_3_code
def yX7_within : MethodName := ⟨RX7, "within", "(III)Z"⟩
abbrev cX7_has : ByteArray := prog_9_method_4_code
def yX7_has : MethodName := ⟨RX7, "has", "(II)Z"⟩
abbrev cX7_isShip : ByteArray := prog_9_method_5_code
def yX7_isShip : MethodName := ⟨RX7, "isShip", "(I)Z"⟩
abbrev cX7_areTwo : ByteArray := prog_9_method_6_code
def yX7_areTwo : MethodName := ⟨RX7, "areTwo", "(II)Z"⟩
abbrev cX7_isCircle : ByteArray := prog_9_method_7_code
def yX7_isCircle : MethodName := ⟨RX7, "isCircle", "(I)Z"⟩
abbrev cX7_isRow : ByteArray := prog_9_method_8_code
def yX7_isRow : MethodName := ⟨RX7, "isRow", "(I)Z"⟩
abbrev cX7_row : ByteArray := prog_9_method_9_code
def yX7_row : MethodName := ⟨RX7, "row", "(III)I"⟩
abbrev cX7_noRow : ByteArray := prog_9_method_10_code
def yX7_noRow : MethodName := ⟨RX7, "noRow", "(I)I"⟩
abbrev cX7_set : ByteArray := prog_9_method_11_code
def yX7_set : MethodName := ⟨RX7, "set", "(IIJ)I"⟩
abbrev cX7_copy : ByteArray := prog_9_method_12_code
def yX7_copy : MethodName := ⟨RX7, "copy", "(IIIII)I"⟩
abbrev cX7_element : ByteArray := prog_9_method_13_code
def yX7_element : MethodName := ⟨RX7, "element", "(II)J"⟩
abbrev cX7_holds : ByteArray := prog_9_method_14_code
def yX7_holds : MethodName := ⟨RX7, "holds", "(I)I"⟩
abbrev cX7_show : ByteArray := prog_9_method_15_code
def yX7_show : MethodName := ⟨RX7, "show", "(II)I"⟩
abbrev cX7_isUnder : ByteArray := prog_9_method_16_code
def yX7_isUnder : MethodName := ⟨RX7, "isUnder", "(II)Z"⟩
abbrev cX7_says : ByteArray := prog_9_method_17_code
def yX7_says : MethodName := ⟨RX7, "says", "(II)I"⟩
abbrev cX7_those : ByteArray := prog_9_method_18_code
def yX7_those : MethodName := ⟨RX7, "those", "(I)I"⟩
abbrev cX7_circles : ByteArray := prog_9_method_19_code
def yX7_circles : MethodName := ⟨RX7, "circles", "(I)I"⟩
abbrev cX7_time : ByteArray := prog_9_method_20_code
def yX7_time : MethodName := ⟨RX7, "time", "(II)I"⟩
abbrev cX7_cost : ByteArray := prog_9_method_21_code
def yX7_cost : MethodName := ⟨RX7, "cost", "(II)I"⟩
abbrev cX7_newShip : ByteArray := prog_9_method_22_code
def yX7_newShip : MethodName := ⟨RX7, "newShip", "(IIII)I"⟩
abbrev cX7_ship : ByteArray := prog_9_method_23_code
def yX7_ship : MethodName := ⟨RX7, "ship", "(IIII)I"⟩
abbrev cX7_fill : ByteArray := prog_9_method_24_code
def yX7_fill : MethodName := ⟨RX7, "fill", "(II)I"⟩
abbrev cX7_feed : ByteArray := prog_9_method_25_code
def yX7_feed : MethodName := ⟨RX7, "feed", "(I)I"⟩
abbrev cX7_wipe : ByteArray := prog_9_method_26_code
def yX7_wipe : MethodName := ⟨RX7, "wipe", "()I"⟩
abbrev cX7_isLetter : ByteArray := prog_9_method_27_code
def yX7_isLetter : MethodName := ⟨RX7, "isLetter", "(I)Z"⟩
abbrev cX7_isDigit : ByteArray := prog_9_method_28_code
def yX7_isDigit : MethodName := ⟨RX7, "isDigit", "(I)Z"⟩
abbrev cX7_next : ByteArray := prog_9_method_29_code
def yX7_next : MethodName := ⟨RX7, "next", "()V"⟩
abbrev cX7_isWord : ByteArray := prog_9_method_30_code
def yX7_isWord : MethodName := ⟨RX7, "isWord", "(Ljava/lang/String;)Z"⟩
abbrev cX7_number : ByteArray := prog_9_method_31_code
def yX7_number : MethodName := ⟨RX7, "number", "(II)Z"⟩
abbrev cX7_statement : ByteArray := prog_9_method_32_code
def yX7_statement : MethodName := ⟨RX7, "statement", "()Z"⟩
abbrev cX7_world : ByteArray := prog_9_method_33_code
def yX7_world : MethodName := ⟨RX7, "world", "()I"⟩
abbrev cX7_shipOf : ByteArray := prog_9_method_34_code
def yX7_shipOf : MethodName := ⟨RX7, "shipOf", "(II)I"⟩
abbrev cX7_circleOf : ByteArray := prog_9_method_35_code
def yX7_circleOf : MethodName := ⟨RX7, "circleOf", "(II)I"⟩
abbrev cX7_drift : ByteArray := prog_9_method_36_code
def yX7_drift : MethodName := ⟨RX7, "drift", "(I)V"⟩
abbrev cX7_meet : ByteArray := prog_9_method_37_code
def yX7_meet : MethodName := ⟨RX7, "meet", "(II)Z"⟩
abbrev cX7_price : ByteArray := prog_9_method_38_code
def yX7_price : MethodName := ⟨RX7, "price", "(II)I"⟩
abbrev cX7_halfOf : ByteArray := prog_9_method_39_code
def yX7_halfOf : MethodName := ⟨RX7, "halfOf", "(I)I"⟩
abbrev cX7_across : ByteArray := prog_9_method_40_code
def yX7_across : MethodName := ⟨RX7, "across", "(III)I"⟩
abbrev cX7_isWay : ByteArray := prog_9_method_41_code
def yX7_isWay : MethodName := ⟨RX7, "isWay", "(II)Z"⟩
abbrev cX7_priceOf : ByteArray := prog_9_method_42_code
def yX7_priceOf : MethodName := ⟨RX7, "priceOf", "(II)I"⟩
abbrev cX7_isCode : ByteArray := prog_9_method_43_code
def yX7_isCode : MethodName := ⟨RX7, "isCode", "(II)Z"⟩
abbrev cX7_moves : ByteArray := prog_9_method_44_code
def yX7_moves : MethodName := ⟨RX7, "moves", "(II)V"⟩
abbrev cX7_acts : ByteArray := prog_9_method_45_code
def yX7_acts : MethodName := ⟨RX7, "acts", "(II)V"⟩
abbrev cX7_can : ByteArray := prog_9_method_46_code
def yX7_can : MethodName := ⟨RX7, "can", "(II)I"⟩
abbrev cX7_behind : ByteArray := prog_9_method_47_code
def yX7_behind : MethodName := ⟨RX7, "behind", "(III)I"⟩
abbrev cX7_meets : ByteArray := prog_9_method_48_code
def yX7_meets : MethodName := ⟨RX7, "meets", "(II)I"⟩
abbrev cX7_noFlight : ByteArray := prog_9_method_49_code
def yX7_noFlight : MethodName := ⟨RX7, "noFlight", "(IIZ)I"⟩
abbrev cX7_fly : ByteArray := prog_9_method_50_code
def yX7_fly : MethodName := ⟨RX7, "fly", "(IIII)I"⟩
abbrev cX7_judge : ByteArray := prog_9_method_51_code
def yX7_judge : MethodName := ⟨RX7, "judge", "(III)I"⟩
abbrev cX7_flown : ByteArray := prog_9_method_52_code
def yX7_flown : MethodName := ⟨RX7, "flown", "(IIII)I"⟩
abbrev cX7_met : ByteArray := prog_9_method_53_code
def yX7_met : MethodName := ⟨RX7, "met", "(IIII)I"⟩
abbrev cX7_state : ByteArray := prog_9_method_54_code
def yX7_state : MethodName := ⟨RX7, "state", "(IIII)I"⟩
abbrev cX7_begin : ByteArray := prog_9_method_55_code
def yX7_begin : MethodName := ⟨RX7, "begin", "(II)V"⟩
abbrev cX7_better : ByteArray := prog_9_method_56_code
def yX7_better : MethodName := ⟨RX7, "better", "(IIIII)V"⟩
abbrev cX7_goOn : ByteArray := prog_9_method_57_code
def yX7_goOn : MethodName := ⟨RX7, "goOn", "(I)V"⟩
abbrev cX7_placeAt : ByteArray := prog_9_method_58_code
def yX7_placeAt : MethodName := ⟨RX7, "placeAt", "(II)I"⟩
abbrev cX7_least : ByteArray := prog_9_method_59_code
def yX7_least : MethodName := ⟨RX7, "least", "(IIIIZ)I"⟩
abbrev cX7_cheapest : ByteArray := prog_9_method_60_code
def yX7_cheapest : MethodName := ⟨RX7, "cheapest", "(III)I"⟩
abbrev cX7_soonest : ByteArray := prog_9_method_61_code
def yX7_soonest : MethodName := ⟨RX7, "soonest", "(II)I"⟩
abbrev cX7_leftAt : ByteArray := prog_9_method_62_code
def yX7_leftAt : MethodName := ⟨RX7, "leftAt", "(IIII)I"⟩
abbrev cX7_way : ByteArray := prog_9_method_63_code
def yX7_way : MethodName := ⟨RX7, "way", "(III)I"⟩
abbrev cX7_ahead : ByteArray := prog_9_method_64_code
def yX7_ahead : MethodName := ⟨RX7, "ahead", "(IIIIIIZ)I"⟩
abbrev cX7_round : ByteArray := prog_9_method_65_code
def yX7_round : MethodName := ⟨RX7, "round", "(III)I"⟩
abbrev cX7_home : ByteArray := prog_9_method_66_code
def yX7_home : MethodName := ⟨RX7, "home", "(II)I"⟩
abbrev cX7_again : ByteArray := prog_9_method_67_code
def yX7_again : MethodName := ⟨RX7, "again", "()J"⟩
abbrev cX7_pass : ByteArray := prog_9_method_68_code
def yX7_pass : MethodName := ⟨RX7, "pass", "(II)I"⟩
abbrev cX7_queue : ByteArray := prog_9_method_69_code
def yX7_queue : MethodName := ⟨RX7, "queue", "(II)I"⟩
abbrev cX7_fullest : ByteArray := prog_9_method_70_code
def yX7_fullest : MethodName := ⟨RX7, "fullest", "()I"⟩
abbrev cX7_clash : ByteArray := prog_9_method_71_code
def yX7_clash : MethodName := ⟨RX7, "clash", "(I)I"⟩
abbrev cX7_burnt : ByteArray := prog_9_method_72_code
def yX7_burnt : MethodName := ⟨RX7, "burnt", "(III)I"⟩
abbrev cX7_tags : ByteArray := prog_9_method_73_code
def yX7_tags : MethodName := ⟨RX7, "tags", "(III)Z"⟩
abbrev cX7_tag : ByteArray := prog_9_method_74_code
def yX7_tag : MethodName := ⟨RX7, "tag", "(III)I"⟩
abbrev cX7_steps : ByteArray := prog_9_method_75_code
def yX7_steps : MethodName := ⟨RX7, "steps", "(I)I"⟩
abbrev cX7_step : ByteArray := prog_9_method_76_code
def yX7_step : MethodName := ⟨RX7, "step", "(I)I"⟩
abbrev cX7_change : ByteArray := prog_9_method_77_code
def yX7_change : MethodName := ⟨RX7, "change", "(II)I"⟩
abbrev cX7_hand : ByteArray := prog_9_method_78_code
def yX7_hand : MethodName := ⟨RX7, "hand", "(III)I"⟩
abbrev cX7_hurl : ByteArray := prog_9_method_79_code
def yX7_hurl : MethodName := ⟨RX7, "hurl", "(III)I"⟩
abbrev cX7_draw : ByteArray := prog_9_method_80_code
def yX7_draw : MethodName := ⟨RX7, "draw", "(I)I"⟩
abbrev cX7_bolts : ByteArray := prog_9_method_81_code
def yX7_bolts : MethodName := ⟨RX7, "bolts", "(I)I"⟩
abbrev cX7_seed : ByteArray := prog_9_method_82_code
def yX7_seed : MethodName := ⟨RX7, "seed", "(I)I"⟩
abbrev cX7_keep : ByteArray := prog_9_method_83_code
def yX7_keep : MethodName := ⟨RX7, "keep", "([I)V"⟩
abbrev cX7_again_ : ByteArray := prog_9_method_84_code
def yX7_again_ : MethodName := ⟨RX7, "again", "([I)V"⟩
abbrev cX7_image : ByteArray := prog_9_method_85_code
def yX7_image : MethodName := ⟨RX7, "image", "()I"⟩
abbrev cX7_back : ByteArray := prog_9_method_86_code
def yX7_back : MethodName := ⟨RX7, "back", "()I"⟩
abbrev cX7_status : ByteArray := prog_9_method_87_code
def yX7_status : MethodName := ⟨RX7, "status", "(I)I"⟩
def RJx145de : String := "java/io/Serializable"
def TJx145de : u_T := fun k => match k with
  | _ => ("", "", "", false)
def tyJx145de : Nat → FieldType := fun k => match k with
  | _ => .int
theorem nmJx145de : ∀ a, a < 0 → ∀ b, b < 0 → a ≠ b → (TJx145de a).2.1 ≠ (TJx145de b).2.1 := by decide +kernel
theorem tyJx145de_ok : ∀ k, k < 0 → parseFieldDescriptor (TJx145de k).2.2.1 = some (tyJx145de k) := by decide +kernel
def RJx9f9b0 : String := "java/lang/CharSequence"
def TJx9f9b0 : u_T := fun k => match k with
  | _ => ("", "", "", false)
def tyJx9f9b0 : Nat → FieldType := fun k => match k with
  | _ => .int
theorem nmJx9f9b0 : ∀ a, a < 0 → ∀ b, b < 0 → a ≠ b → (TJx9f9b0 a).2.1 ≠ (TJx9f9b0 b).2.1 := by decide +kernel
theorem tyJx9f9b0_ok : ∀ k, k < 0 → parseFieldDescriptor (TJx9f9b0 k).2.2.1 = some (tyJx9f9b0 k) := by decide +kernel
def RJxb160c : String := "java/lang/Comparable"
def TJxb160c : u_T := fun k => match k with
  | _ => ("", "", "", false)
def tyJxb160c : Nat → FieldType := fun k => match k with
  | _ => .int
theorem nmJxb160c : ∀ a, a < 0 → ∀ b, b < 0 → a ≠ b → (TJxb160c a).2.1 ≠ (TJxb160c b).2.1 := by decide +kernel
theorem tyJxb160c_ok : ∀ k, k < 0 → parseFieldDescriptor (TJxb160c k).2.2.1 = some (tyJxb160c k) := by decide +kernel
def RJ6 : String := "java/lang/Integer"
def TJ6 : u_T := fun k => match k with
  | _ => ("", "", "", false)
def tyJ6 : Nat → FieldType := fun k => match k with
  | _ => .int
theorem nmJ6 : ∀ a, a < 0 → ∀ b, b < 0 → a ≠ b → (TJ6 a).2.1 ≠ (TJ6 b).2.1 := by decide +kernel
theorem tyJ6_ok : ∀ k, k < 0 → parseFieldDescriptor (TJ6 k).2.2.1 = some (tyJ6 k) := by decide +kernel
abbrev cJ6_bitCount_0f7a4 : ByteArray := prog_10_method_49_code
def yJ6_bitCount_0f7a4 : MethodName := ⟨RJ6, "bitCount", "(I)I"⟩
def RJ9 : String := "java/lang/Math"
def TJ9 : u_T := fun k => match k with
  | _ => ("", "", "", false)
def tyJ9 : Nat → FieldType := fun k => match k with
  | _ => .int
theorem nmJ9 : ∀ a, a < 0 → ∀ b, b < 0 → a ≠ b → (TJ9 a).2.1 ≠ (TJ9 b).2.1 := by decide +kernel
theorem tyJ9_ok : ∀ k, k < 0 → parseFieldDescriptor (TJ9 k).2.2.1 = some (tyJ9 k) := by decide +kernel
abbrev cJ9_abs_0f7a4 : ByteArray := prog_11_method_59_code
def yJ9_abs_0f7a4 : MethodName := ⟨RJ9, "abs", "(I)I"⟩
abbrev cJ9_max_7cf53 : ByteArray := prog_11_method_65_code
def yJ9_max_7cf53 : MethodName := ⟨RJ9, "max", "(II)I"⟩
abbrev cJ9_min_7cf53 : ByteArray := prog_11_method_69_code
def yJ9_min_7cf53 : MethodName := ⟨RJ9, "min", "(II)I"⟩
def RJ0 : String := "java/lang/String"
def TJ0 : u_T := fun k => match k with
  | _ => ("", "", "", false)
def tyJ0 : Nat → FieldType := fun k => match k with
  | _ => .int
theorem nmJ0 : ∀ a, a < 0 → ∀ b, b < 0 → a ≠ b → (TJ0 a).2.1 ≠ (TJ0 b).2.1 := by decide +kernel
theorem tyJ0_ok : ∀ k, k < 0 → parseFieldDescriptor (TJ0 k).2.2.1 = some (tyJ0 k) := by decide +kernel
abbrev cJ0_length_8abf5 : ByteArray := prog_12_method_54_code
def yJ0_length_8abf5 : MethodName := ⟨RJ0, "length", "()I"⟩
abbrev cJ0_charAt_5068e : ByteArray := prog_12_method_56_code
def yJ0_charAt_5068e : MethodName := ⟨RJ0, "charAt", "(I)C"⟩
abbrev cJ0_coder_7d493 : ByteArray := prog_12_method_152_code
def yJ0_coder_7d493 : MethodName := ⟨RJ0, "coder", "()B"⟩
abbrev cJ0_isLatin1_aae02 : ByteArray := prog_12_method_154_code
def yJ0_isLatin1_aae02 : MethodName := ⟨RJ0, "isLatin1", "()Z"⟩
abbrev cJ0_checkIndex_df160 : ByteArray := prog_12_method_155_code
def yJ0_checkIndex_df160 : MethodName := ⟨RJ0, "checkIndex", "(II)V"⟩
def RJ1 : String := "java/lang/StringLatin1"
def TJ1 : u_T := fun k => match k with
  | _ => ("", "", "", false)
def tyJ1 : Nat → FieldType := fun k => match k with
  | _ => .int
theorem nmJ1 : ∀ a, a < 0 → ∀ b, b < 0 → a ≠ b → (TJ1 a).2.1 ≠ (TJ1 b).2.1 := by decide +kernel
theorem tyJ1_ok : ∀ k, k < 0 → parseFieldDescriptor (TJ1 k).2.2.1 = some (tyJ1 k) := by decide +kernel
abbrev cJ1_charAt_3b067 : ByteArray := prog_13_method_2_code
def yJ1_charAt_3b067 : MethodName := ⟨RJ1, "charAt", "([BI)C"⟩
def RJ2 : String := "java/lang/StringUTF16"
def TJ2 : u_T := fun k => match k with
  | _ => ("", "", "", false)
def tyJ2 : Nat → FieldType := fun k => match k with
  | _ => .int
theorem nmJ2 : ∀ a, a < 0 → ∀ b, b < 0 → a ≠ b → (TJ2 a).2.1 ≠ (TJ2 b).2.1 := by decide +kernel
theorem tyJ2_ok : ∀ k, k < 0 → parseFieldDescriptor (TJ2 k).2.2.1 = some (tyJ2 k) := by decide +kernel
abbrev cJ2_getChar_3b067 : ByteArray := prog_14_method_5_code
def yJ2_getChar_3b067 : MethodName := ⟨RJ2, "getChar", "([BI)C"⟩
abbrev cJ2_length_9d52b : ByteArray := prog_14_method_6_code
def yJ2_length_9d52b : MethodName := ⟨RJ2, "length", "([B)I"⟩
abbrev cJ2_charAt_3b067 : ByteArray := prog_14_method_83_code
def yJ2_charAt_3b067 : MethodName := ⟨RJ2, "charAt", "([BI)C"⟩
abbrev cJ2_checkIndex_2214a : ByteArray := prog_14_method_91_code
def yJ2_checkIndex_2214a : MethodName := ⟨RJ2, "checkIndex", "(I[B)V"⟩
def RJ10 : String := "java/lang/System"
def TJ10 : u_T := fun k => match k with
  | _ => ("", "", "", false)
def tyJ10 : Nat → FieldType := fun k => match k with
  | _ => .int
theorem nmJ10 : ∀ a, a < 0 → ∀ b, b < 0 → a ≠ b → (TJ10 a).2.1 ≠ (TJ10 b).2.1 := by decide +kernel
theorem tyJ10_ok : ∀ k, k < 0 → parseFieldDescriptor (TJ10 k).2.2.1 = some (tyJ10 k) := by decide +kernel
def RJxfd54e : String := "java/lang/constant/Constable"
def TJxfd54e : u_T := fun k => match k with
  | _ => ("", "", "", false)
def tyJxfd54e : Nat → FieldType := fun k => match k with
  | _ => .int
theorem nmJxfd54e : ∀ a, a < 0 → ∀ b, b < 0 → a ≠ b → (TJxfd54e a).2.1 ≠ (TJxfd54e b).2.1 := by decide +kernel
theorem tyJxfd54e_ok : ∀ k, k < 0 → parseFieldDescriptor (TJxfd54e k).2.2.1 = some (tyJxfd54e k) := by decide +kernel
def RJx3cf43 : String := "java/lang/constant/ConstantDesc"
def TJx3cf43 : u_T := fun k => match k with
  | _ => ("", "", "", false)
def tyJx3cf43 : Nat → FieldType := fun k => match k with
  | _ => .int
theorem nmJx3cf43 : ∀ a, a < 0 → ∀ b, b < 0 → a ≠ b → (TJx3cf43 a).2.1 ≠ (TJx3cf43 b).2.1 := by decide +kernel
theorem tyJx3cf43_ok : ∀ k, k < 0 → parseFieldDescriptor (TJx3cf43 k).2.2.1 = some (tyJx3cf43 k) := by decide +kernel
def RJ7 : String := "java/util/Arrays"
def TJ7 : u_T := fun k => match k with
  | _ => ("", "", "", false)
def tyJ7 : Nat → FieldType := fun k => match k with
  | _ => .int
theorem nmJ7 : ∀ a, a < 0 → ∀ b, b < 0 → a ≠ b → (TJ7 a).2.1 ≠ (TJ7 b).2.1 := by decide +kernel
theorem tyJ7_ok : ∀ k, k < 0 → parseFieldDescriptor (TJ7 k).2.2.1 = some (tyJ7 k) := by decide +kernel
abbrev cJ7_fill_d0a16 : ByteArray := prog_16_method_101_code
def yJ7_fill_d0a16 : MethodName := ⟨RJ7, "fill", "([JJ)V"⟩
abbrev cJ7_fill_53178 : ByteArray := prog_16_method_103_code
def yJ7_fill_53178 : MethodName := ⟨RJ7, "fill", "([II)V"⟩
def RJ3 : String := "jdk/internal/util/Preconditions"
def TJ3 : u_T := fun k => match k with
  | _ => ("", "", "", false)
def tyJ3 : Nat → FieldType := fun k => match k with
  | _ => .int
theorem nmJ3 : ∀ a, a < 0 → ∀ b, b < 0 → a ≠ b → (TJ3 a).2.1 ≠ (TJ3 b).2.1 := by decide +kernel
theorem tyJ3_ok : ∀ k, k < 0 → parseFieldDescriptor (TJ3 k).2.2.1 = some (tyJ3 k) := by decide +kernel
abbrev cJ3_checkIndex_8e157 : ByteArray := prog_17_method_11_code
def yJ3_checkIndex_8e157 : MethodName := ⟨RJ3, "checkIndex", "(IILjava/util/function/BiFunction;)I"⟩
def RL : String := "FasterToBeLaterLaw"
abbrev cL_law : ByteArray := code
def yL_law : MethodName := ⟨RL, "law", "([I)Z"⟩
abbrev vwCl : List vw_C := [(RX0, TX0, 3), (RX1, TX1, 15), (RX2, TX2, 3), (RX3, TX3, 7), (RX4, TX4, 5), (RX5, TX5, 8), (RX6, TX6, 10), (RX7, TX7, 30)]
end
section
/-! ===== THE ABSTRACT MACHINE. Numbers are Int (always in range), cells are numbered in the order in which they are made: a world is (kind and size of each cell; what each place of each cell holds; the script). A value: an int, a long, or a reference (a cell's number; -1 null; -2 the script; -3 - k the k-th text). ===== -/
abbrev am_V : Type := Int ⊕ (Int ⊕ Int)
abbrev am_W : Type := List (Nat × Nat) × (Nat → Nat → Int) × (Nat × (Nat → Int))
abbrev am_L : Type := List (Option am_V)
abbrev am_S : Type := am_L × List am_V × am_W
abbrev am_R : Type := Option am_V × am_W
abbrev am_M : Type := Nat × Nat
abbrev am_T : Type := Lean.RArray (Nat × Instr × Nat)
/-- a table's row of that number -/
noncomputable def am_look {α : Type} (t : Lean.RArray (Nat × α)) (k : Nat) : Option α := cond (Nat.beq (t.get k).1 k) (some (t.get k).2) none
/-- every row of a table -/
def am_all {α : Type} (P : α → Prop) : Lean.RArray α → Prop
  | .leaf a => P a
  | .branch _ l r => am_all P l ∧ am_all P r
theorem am_all_get {α : Type} {P : α → Prop} : ∀ {t : Lean.RArray α}, am_all P t → ∀ n : Nat, P (t.get n)
  | .leaf _, h, _ => h
  | .branch p l r, h, n => by
    have h1 := am_all_get h.1 n
    have h2 := am_all_get h.2 n
    show P ((Nat.ble p n).rec (l.get n) (r.get n))
    cases Nat.ble p n
    · exact h1
    · exact h2
def am_allb {α : Type} (f : α → Bool) : Lean.RArray α → Bool
  | .leaf a => f a
  | .branch _ l r => am_allb f l && am_allb f r
theorem am_allb_all {α : Type} {f : α → Bool} : ∀ {t : Lean.RArray α}, am_allb f t = true → am_all (fun a => f a = true) t
  | .leaf _, h => h
  | .branch _ _ _, h => by
    have h2 := Bool.and_eq_true_iff.mp h
    exact ⟨am_allb_all h2.1, am_allb_all h2.2⟩
theorem am_look_of {α : Type} {P : Nat × α → Prop} {t : Lean.RArray (Nat × α)} (h : am_all P t) {k : Nat} {a : α} (e : am_look t k = some a) : P (k, a) := by
  unfold am_look at e
  cases hb : Nat.beq (t.get k).1 k with
  | false => rw [hb] at e; cases e
  | true =>
    rw [hb] at e
    have e2 : (t.get k).2 = a := Option.some.inj e
    have e1 : (t.get k).1 = k := Nat.eq_of_beq_eq_true hb
    have hp := am_all_get h k
    rw [show t.get k = (k, a) from Prod.ext e1 e2] at hp
    exact hp
-- numbers
def am_w (z : Int) : Int := z.bmod 4294967296
def am_wl (z : Int) : Int := z.bmod 18446744073709551616
def am_and (a b : Int) : Int := (Int32.ofInt a &&& Int32.ofInt b).toInt
def am_or (a b : Int) : Int := (Int32.ofInt a ||| Int32.ofInt b).toInt
def am_xor (a b : Int) : Int := (Int32.ofInt a ^^^ Int32.ofInt b).toInt
def am_shl (a b : Int) : Int := (Int32.ofInt a <<< (Int32.ofInt b &&& 31)).toInt
def am_shr (a b : Int) : Int := (Int32.ofInt a >>> (Int32.ofInt b &&& 31)).toInt
def am_ushr (a b : Int) : Int := ((Int32.ofInt a).toUInt32 >>> ((Int32.ofInt b).toUInt32 &&& Int32.toUInt32 31)).toInt32.toInt
def am_land (a b : Int) : Int := (Int64.ofInt a &&& Int64.ofInt b).toInt
def am_lor (a b : Int) : Int := (Int64.ofInt a ||| Int64.ofInt b).toInt
def am_lshl (a b : Int) : Int := (Int64.ofInt a <<< ((Int32.ofInt b).toInt64 &&& 63)).toInt
def am_cmp (a b : Int) : Int := if a < b then -1 else if a = b then 0 else 1
/-- what an if asks of two numbers -/
def am_cc (c : Jvm.ClassFile.Cond) (a b : Int) : Bool := match c with
  | .eq => decide (a = b)
  | .ne => decide (¬ a = b)
  | .lt => decide (a < b)
  | .ge => decide (b ≤ a)
  | .gt => decide (b < a)
  | .le => decide (a ≤ b)
-- the world
def am_get (ω : am_W) (a k : Nat) : Int := ω.2.1 a k
def am_put (ω : am_W) (a k : Nat) (v : Int) : am_W := (ω.1, fun a' k' => if a' = a ∧ k' = k then v else ω.2.1 a' k', ω.2.2)
/-- the cell of that number is of that kind and size -/
def am_is (ω : am_W) (r : Int) (q : Nat × Nat) : Bool := decide (0 ≤ r) && (ω.1[r.toNat]? == some q)
/-- the cell is an array of that kind -/
def am_ar (ω : am_W) (r : Int) (kd : Nat) : Bool := decide (0 ≤ r) && ((ω.1[r.toNat]?).map (fun q => q.1) == some kd)
def am_len (ω : am_W) (r : Int) : Int := (((ω.1[r.toNat]?).map (fun q => q.2)).getD 0 : Nat)
/-- .. and has that place -/
def am_in (ω : am_W) (r : Int) (kd : Nat) (i : Int) : Bool := am_ar ω r kd && (decide (0 ≤ i) && decide (i < am_len ω r))
/-- one more cell -/
def am_new (ω : am_W) (q : Nat × Nat) (d : Nat → Int) : am_W := (ω.1 ++ [q], fun a k => if a = ω.1.length then d k else ω.2.1 a k, ω.2.2)
/-- an array of n arrays of k ints -/
def am_newg (ω : am_W) (n k : Nat) : am_W := (ω.1 ++ ((104, n) :: List.replicate n (100, k)), fun a j => if a = ω.1.length then (if j < n then ((ω.1.length + 1 + j : Nat) : Int) else -1) else if ω.1.length < a ∧ a ≤ ω.1.length + n then 0 else ω.2.1 a j, ω.2.2)
def am_cpy (ω : am_W) (a0 sp a1 dp n : Nat) : am_W := (ω.1, fun a k => if a = a1 ∧ (dp ≤ k ∧ k < dp + n) then ω.2.1 a0 (sp + (k - dp)) else ω.2.1 a k, ω.2.2)
-- the places of a frame
def am_isl : Option (Option am_V) → Bool
  | some (some (.inr (.inl _))) => true
  | _ => false
def am_prev (L : am_L) : Nat → Bool
  | 0 => false
  | k + 1 => am_isl L[k]?
def am_sto (L : am_L) (k : Nat) (v : am_V) : Option am_L := if (decide (k < L.length) && !(am_prev L k)) = true then some (L.set k (some v)) else none
def am_stl (L : am_L) (k : Nat) (v : am_V) : Option am_L := if (decide (k + 1 < L.length) && !(am_prev L k)) = true then some ((L.set k (some v)).set (k + 1) none) else none
def am_words : List am_V → Nat
  | [] => 0
  | .inr (.inl _) :: S => 2 + am_words S
  | _ :: S => 1 + am_words S
def am_spread : List am_V → am_L
  | [] => []
  | .inr (.inl z) :: S => some (.inr (.inl z)) :: none :: am_spread S
  | v :: S => some v :: am_spread S
def am_push (rk : Nat) (v : Option am_V) (S : List am_V) : Option (List am_V) := match rk, v with
  | 0, none => some S
  | 1, some (.inl z) => some (.inl z :: S)
  | 2, some (.inr (.inl z)) => some (.inr (.inl z) :: S)
  | 3, some (.inr (.inr z)) => some (.inr (.inr z) :: S)
  | _, _ => none
end
section
/-! ===== the methods as tables: place, instruction, length (by program out of the printed names; held against the bytes below) ===== -/
def mc_0 : am_T := .branch 31 (.branch 16 (.branch 7 (.branch 4 (.branch 1 (.leaf (0, .aload_n 0, 1)) (.leaf (1, .invokespecial 3, 3))) (.branch 5 (.leaf (4, .aload_n 0, 1)) (.leaf (5, .bipush 6, 2)))) (.branch 13 (.branch 10 (.leaf (7, .anewarray 9, 3)) (.leaf (10, .putfield 11, 3))) (.branch 14 (.leaf (13, .aload_n 0, 1)) (.leaf (14, .bipush 6, 2))))) (.branch 24 (.branch 22 (.branch 19 (.leaf (16, .anewarray 9, 3)) (.leaf (19, .putfield 17, 3))) (.branch 23 (.leaf (22, .aload_n 0, 1)) (.leaf (23, .aload_n 1, 1)))) (.branch 28 (.branch 27 (.leaf (24, .putfield 20, 3)) (.leaf (27, .iconst 0, 1))) (.branch 29 (.leaf (28, .istore_n 2, 1)) (.branch 30 (.leaf (29, .iload_n 2, 1)) (.leaf (30, .iconst 5, 1))))))) (.branch 48 (.branch 39 (.branch 35 (.branch 34 (.leaf (31, .if_icmp .gt 35, 3)) (.leaf (34, .aload_n 0, 1))) (.branch 38 (.leaf (35, .getfield 11, 3)) (.leaf (38, .iload_n 2, 1)))) (.branch 43 (.branch 42 (.leaf (39, .new 9, 3)) (.leaf (42, .dup, 1))) (.branch 46 (.leaf (43, .invokespecial 24, 3)) (.branch 47 (.leaf (46, .aastore, 1)) (.leaf (47, .aload_n 0, 1)))))) (.branch 56 (.branch 52 (.branch 51 (.leaf (48, .getfield 17, 3)) (.leaf (51, .iload_n 2, 1))) (.branch 55 (.leaf (52, .new 9, 3)) (.leaf (55, .dup, 1)))) (.branch 60 (.branch 59 (.leaf (56, .invokespecial 24, 3)) (.leaf (59, .aastore, 1))) (.branch 63 (.leaf (60, .iinc 2 1, 3)) (.branch 66 (.leaf (63, .goto (-34), 3)) (.leaf (66, .return_, 1)))))))
def mc_1 : am_T := .branch 22 (.branch 10 (.branch 5 (.branch 1 (.leaf (0, .aload_n 0, 1)) (.branch 4 (.leaf (1, .getfield 11, 3)) (.leaf (4, .iconst 0, 1)))) (.branch 6 (.leaf (5, .aaload, 1)) (.branch 7 (.leaf (6, .aload_n 0, 1)) (.leaf (7, .getfield 20, 3))))) (.branch 15 (.branch 13 (.leaf (10, .getfield 25, 3)) (.branch 14 (.leaf (13, .iload_n 1, 1)) (.leaf (14, .aaload, 1)))) (.branch 18 (.leaf (15, .invokevirtual 30, 3)) (.branch 19 (.leaf (18, .aload_n 0, 1)) (.leaf (19, .getfield 17, 3)))))) (.branch 32 (.branch 25 (.branch 23 (.leaf (22, .iconst 0, 1)) (.branch 24 (.leaf (23, .aaload, 1)) (.leaf (24, .aload_n 0, 1)))) (.branch 28 (.leaf (25, .getfield 20, 3)) (.branch 31 (.leaf (28, .getfield 25, 3)) (.leaf (31, .iload_n 2, 1))))) (.branch 37 (.branch 33 (.leaf (32, .aaload, 1)) (.branch 36 (.leaf (33, .invokevirtual 30, 3)) (.leaf (36, .aload_n 0, 1)))) (.branch 39 (.branch 38 (.leaf (37, .iconst 0, 1)) (.leaf (38, .iload_n 3, 1))) (.branch 42 (.leaf (39, .invokevirtual 34, 3)) (.leaf (42, .ireturn, 1))))))
def mc_2 : am_T := .branch 45 (.branch 22 (.branch 11 (.branch 5 (.branch 1 (.leaf (0, .aload_n 0, 1)) (.branch 4 (.leaf (1, .getfield 11, 3)) (.leaf (4, .iload_n 1, 1)))) (.branch 7 (.branch 6 (.leaf (5, .aaload, 1)) (.leaf (6, .aload_n 0, 1))) (.branch 10 (.leaf (7, .getfield 17, 3)) (.leaf (10, .iload_n 1, 1))))) (.branch 18 (.branch 12 (.leaf (11, .aaload, 1)) (.branch 15 (.leaf (12, .invokevirtual 38, 3)) (.leaf (15, .ifCond .eq 5, 3)))) (.branch 20 (.branch 19 (.leaf (18, .iconst 1, 1)) (.leaf (19, .ireturn, 1))) (.branch 21 (.leaf (20, .iload_n 1, 1)) (.leaf (21, .iload_n 2, 1)))))) (.branch 33 (.branch 27 (.branch 25 (.leaf (22, .if_icmp .ge 8, 3)) (.branch 26 (.leaf (25, .iload_n 1, 1)) (.leaf (26, .iconst 5, 1)))) (.branch 31 (.branch 30 (.leaf (27, .if_icmp .lt 5, 3)) (.leaf (30, .iconst 0, 1))) (.branch 32 (.leaf (31, .ireturn, 1)) (.leaf (32, .iconst 0, 1))))) (.branch 39 (.branch 35 (.branch 34 (.leaf (33, .istore_n 3, 1)) (.leaf (34, .iload_n 3, 1))) (.branch 36 (.leaf (35, .iconst 2, 1)) (.leaf (36, .if_icmp .gt 57, 3)))) (.branch 43 (.branch 40 (.leaf (39, .aload_n 0, 1)) (.leaf (40, .getfield 11, 3))) (.branch 44 (.leaf (43, .iload_n 1, 1)) (.leaf (44, .iconst 1, 1))))))) (.branch 68 (.branch 56 (.branch 48 (.branch 46 (.leaf (45, .iadd, 1)) (.branch 47 (.leaf (46, .aaload, 1)) (.leaf (47, .aload_n 0, 1)))) (.branch 52 (.branch 51 (.leaf (48, .getfield 11, 3)) (.leaf (51, .iload_n 1, 1))) (.branch 53 (.leaf (52, .aaload, 1)) (.leaf (53, .invokevirtual 30, 3))))) (.branch 64 (.branch 60 (.branch 57 (.leaf (56, .aload_n 0, 1)) (.leaf (57, .getfield 20, 3))) (.branch 61 (.leaf (60, .aload_n 0, 1)) (.leaf (61, .getfield 11, 3)))) (.branch 66 (.branch 65 (.leaf (64, .iload_n 1, 1)) (.leaf (65, .iconst 1, 1))) (.branch 67 (.leaf (66, .iadd, 1)) (.leaf (67, .aaload, 1)))))) (.branch 79 (.branch 73 (.branch 69 (.leaf (68, .iload_n 3, 1)) (.branch 70 (.leaf (69, .i2l, 1)) (.leaf (70, .invokevirtual 42, 3)))) (.branch 77 (.branch 76 (.leaf (73, .ifCond .eq 14, 3)) (.leaf (76, .aload_n 0, 1))) (.branch 78 (.leaf (77, .iload_n 1, 1)) (.leaf (78, .iload_n 2, 1))))) (.branch 87 (.branch 85 (.branch 82 (.leaf (79, .invokevirtual 46, 3)) (.leaf (82, .ifCond .eq 5, 3))) (.branch 86 (.leaf (85, .iconst 1, 1)) (.leaf (86, .ireturn, 1)))) (.branch 93 (.branch 90 (.leaf (87, .iinc 3 1, 3)) (.leaf (90, .goto (-56), 3))) (.branch 94 (.leaf (93, .iconst 0, 1)) (.leaf (94, .ireturn, 1)))))))
def mc_3 : am_T := .branch 32 (.branch 14 (.branch 7 (.branch 2 (.branch 1 (.leaf (0, .iconst 0, 1)) (.leaf (1, .istore_n 3, 1))) (.branch 3 (.leaf (2, .iload_n 3, 1)) (.branch 4 (.leaf (3, .iconst 2, 1)) (.leaf (4, .if_icmp .gt 59, 3))))) (.branch 11 (.branch 8 (.leaf (7, .aload_n 0, 1)) (.leaf (8, .getfield 17, 3))) (.branch 12 (.leaf (11, .iload_n 1, 1)) (.branch 13 (.leaf (12, .iconst 1, 1)) (.leaf (13, .iadd, 1)))))) (.branch 21 (.branch 16 (.branch 15 (.leaf (14, .aaload, 1)) (.leaf (15, .aload_n 0, 1))) (.branch 19 (.leaf (16, .getfield 17, 3)) (.branch 20 (.leaf (19, .iload_n 1, 1)) (.leaf (20, .aaload, 1))))) (.branch 25 (.branch 24 (.leaf (21, .invokevirtual 30, 3)) (.leaf (24, .aload_n 0, 1))) (.branch 28 (.leaf (25, .getfield 20, 3)) (.branch 29 (.leaf (28, .aload_n 0, 1)) (.leaf (29, .getfield 17, 3))))))) (.branch 46 (.branch 37 (.branch 34 (.branch 33 (.leaf (32, .iload_n 1, 1)) (.leaf (33, .iconst 1, 1))) (.branch 35 (.leaf (34, .iadd, 1)) (.branch 36 (.leaf (35, .aaload, 1)) (.leaf (36, .iload_n 3, 1))))) (.branch 41 (.branch 38 (.leaf (37, .i2l, 1)) (.leaf (38, .invokevirtual 42, 3))) (.branch 44 (.leaf (41, .ifCond .eq 16, 3)) (.branch 45 (.leaf (44, .aload_n 0, 1)) (.leaf (45, .iload_n 1, 1)))))) (.branch 55 (.branch 48 (.branch 47 (.leaf (46, .iconst 1, 1)) (.leaf (47, .iadd, 1))) (.branch 49 (.leaf (48, .iload_n 2, 1)) (.branch 52 (.leaf (49, .invokevirtual 34, 3)) (.leaf (52, .ifCond .ne 5, 3))))) (.branch 60 (.branch 56 (.leaf (55, .iconst 0, 1)) (.branch 57 (.leaf (56, .ireturn, 1)) (.leaf (57, .iinc 3 1, 3)))) (.branch 63 (.leaf (60, .goto (-58), 3)) (.branch 64 (.leaf (63, .iconst 1, 1)) (.leaf (64, .ireturn, 1)))))))
def mc_4 : am_T := .branch 45 (.branch 20 (.branch 9 (.branch 4 (.branch 1 (.leaf (0, .aload_n 0, 1)) (.leaf (1, .invokespecial 3, 3))) (.branch 5 (.leaf (4, .aload_n 0, 1)) (.branch 7 (.leaf (5, .bipush 120, 2)) (.leaf (7, .newarray .int, 2))))) (.branch 13 (.branch 12 (.leaf (9, .putfield 11, 3)) (.leaf (12, .aload_n 0, 1))) (.branch 14 (.leaf (13, .iconst 3, 1)) (.branch 16 (.leaf (14, .bipush 120, 2)) (.leaf (16, .multianewarray 15 2, 4)))))) (.branch 31 (.branch 24 (.branch 23 (.leaf (20, .putfield 17, 3)) (.leaf (23, .aload_n 0, 1))) (.branch 25 (.leaf (24, .iconst 3, 1)) (.branch 27 (.leaf (25, .bipush 120, 2)) (.leaf (27, .multianewarray 15 2, 4))))) (.branch 36 (.branch 34 (.leaf (31, .putfield 20, 3)) (.branch 35 (.leaf (34, .aload_n 0, 1)) (.leaf (35, .iconst 3, 1)))) (.branch 38 (.leaf (36, .bipush 120, 2)) (.branch 42 (.leaf (38, .multianewarray 15 2, 4)) (.leaf (42, .putfield 23, 3))))))) (.branch 68 (.branch 58 (.branch 48 (.branch 46 (.leaf (45, .aload_n 0, 1)) (.leaf (46, .bipush 7, 2))) (.branch 51 (.leaf (48, .sipush 1320, 3)) (.branch 55 (.leaf (51, .multianewarray 15 2, 4)) (.leaf (55, .putfield 26, 3))))) (.branch 62 (.branch 59 (.leaf (58, .aload_n 0, 1)) (.leaf (59, .sipush 7320, 3))) (.branch 64 (.leaf (62, .newarray .int, 2)) (.branch 67 (.leaf (64, .putfield 29, 3)) (.leaf (67, .aload_n 0, 1)))))) (.branch 76 (.branch 71 (.branch 69 (.leaf (68, .iconst 3, 1)) (.leaf (69, .newarray .int, 2))) (.branch 74 (.leaf (71, .putfield 32, 3)) (.branch 75 (.leaf (74, .aload_n 0, 1)) (.leaf (75, .iconst 3, 1))))) (.branch 82 (.branch 78 (.leaf (76, .newarray .int, 2)) (.branch 81 (.leaf (78, .putfield 35, 3)) (.leaf (81, .aload_n 0, 1)))) (.branch 83 (.leaf (82, .aload_n 1, 1)) (.branch 86 (.leaf (83, .putfield 38, 3)) (.leaf (86, .return_, 1)))))))
def mc_5 : am_T := .branch 20 (.branch 8 (.branch 2 (.branch 1 (.leaf (0, .aload_n 0, 1)) (.leaf (1, .aload_n 1, 1))) (.branch 3 (.leaf (2, .iload_n 2, 1)) (.branch 5 (.leaf (3, .ldc 42, 2)) (.leaf (5, .invokevirtual 43, 3))))) (.branch 14 (.branch 9 (.leaf (8, .aload_n 1, 1)) (.branch 12 (.leaf (9, .getfield 47, 3)) (.leaf (12, .istore 4, 2)))) (.branch 16 (.leaf (14, .iload 4, 2)) (.branch 17 (.leaf (16, .iload_n 3, 1)) (.leaf (17, .if_icmp .gt 22, 3)))))) (.branch 30 (.branch 24 (.branch 21 (.leaf (20, .aload_n 0, 1)) (.leaf (21, .getfield 53, 3))) (.branch 27 (.leaf (24, .ifCond .lt 15, 3)) (.branch 28 (.leaf (27, .aload_n 0, 1)) (.leaf (28, .iload 4, 2))))) (.branch 39 (.branch 33 (.leaf (30, .invokevirtual 56, 3)) (.branch 36 (.leaf (33, .iinc 4 1, 3)) (.leaf (36, .goto (-22), 3)))) (.branch 40 (.leaf (39, .aload_n 0, 1)) (.branch 43 (.leaf (40, .getfield 60, 3)) (.leaf (43, .ireturn, 1))))))
def mc_6 : am_T := .branch 21 (.branch 10 (.branch 3 (.branch 1 (.leaf (0, .aload_n 0, 1)) (.branch 2 (.leaf (1, .aload_n 1, 1)) (.leaf (2, .iload_n 2, 1)))) (.branch 4 (.leaf (3, .aload_n 1, 1)) (.branch 7 (.leaf (4, .getfield 63, 3)) (.leaf (7, .invokevirtual 43, 3))))) (.branch 15 (.branch 11 (.leaf (10, .aload_n 1, 1)) (.branch 14 (.leaf (11, .getfield 47, 3)) (.leaf (14, .istore_n 3, 1)))) (.branch 16 (.leaf (15, .iload_n 3, 1)) (.branch 18 (.leaf (16, .bipush 60, 2)) (.leaf (18, .if_icmp .gt 22, 3)))))) (.branch 31 (.branch 26 (.branch 22 (.leaf (21, .aload_n 0, 1)) (.branch 25 (.leaf (22, .getfield 66, 3)) (.leaf (25, .iconst (-1), 1)))) (.branch 29 (.leaf (26, .if_icmp .ne 14, 3)) (.branch 30 (.leaf (29, .aload_n 0, 1)) (.leaf (30, .iload_n 3, 1))))) (.branch 40 (.branch 34 (.leaf (31, .invokevirtual 56, 3)) (.branch 37 (.leaf (34, .iinc 3 1, 3)) (.leaf (37, .goto (-22), 3)))) (.branch 41 (.leaf (40, .aload_n 0, 1)) (.branch 44 (.leaf (41, .getfield 66, 3)) (.leaf (44, .ireturn, 1))))))
def mc_7 : am_T := .branch 63 (.branch 32 (.branch 17 (.branch 8 (.branch 2 (.branch 1 (.leaf (0, .aload_n 0, 1)) (.leaf (1, .aload_n 1, 1))) (.branch 3 (.leaf (2, .iconst 0, 1)) (.branch 5 (.leaf (3, .ldc 42, 2)) (.leaf (5, .invokevirtual 43, 3))))) (.branch 12 (.branch 9 (.leaf (8, .aload_n 1, 1)) (.leaf (9, .getfield 47, 3))) (.branch 14 (.leaf (12, .istore 4, 2)) (.branch 15 (.leaf (14, .iconst (-1), 1)) (.leaf (15, .istore 5, 2)))))) (.branch 26 (.branch 20 (.branch 18 (.leaf (17, .iconst 0, 1)) (.leaf (18, .istore 6, 2))) (.branch 22 (.leaf (20, .iload 6, 2)) (.branch 23 (.leaf (22, .iload_n 3, 1)) (.leaf (23, .if_icmp .ge 110, 3))))) (.branch 29 (.branch 27 (.leaf (26, .iconst 3, 1)) (.leaf (27, .iload 6, 2))) (.branch 30 (.leaf (29, .imul, 1)) (.branch 31 (.leaf (30, .iconst 2, 1)) (.leaf (31, .iadd, 1))))))) (.branch 49 (.branch 43 (.branch 36 (.branch 33 (.leaf (32, .aload_n 2, 1)) (.leaf (33, .getfield 69, 3))) (.branch 39 (.leaf (36, .if_icmp .ge 97, 3)) (.branch 40 (.leaf (39, .aload_n 2, 1)) (.leaf (40, .getfield 74, 3))))) (.branch 46 (.branch 44 (.leaf (43, .iconst 3, 1)) (.leaf (44, .iload 6, 2))) (.branch 47 (.leaf (46, .imul, 1)) (.branch 48 (.leaf (47, .laload, 1)) (.leaf (48, .l2i, 1)))))) (.branch 58 (.branch 52 (.branch 51 (.leaf (49, .istore 7, 2)) (.leaf (51, .aload_n 2, 1))) (.branch 55 (.leaf (52, .getfield 74, 3)) (.branch 56 (.leaf (55, .iconst 3, 1)) (.leaf (56, .iload 6, 2))))) (.branch 60 (.branch 59 (.leaf (58, .imul, 1)) (.leaf (59, .iconst 1, 1))) (.branch 61 (.leaf (60, .iadd, 1)) (.branch 62 (.leaf (61, .laload, 1)) (.leaf (62, .l2i, 1)))))))) (.branch 94 (.branch 77 (.branch 71 (.branch 66 (.branch 65 (.leaf (63, .bipush 20, 2)) (.leaf (65, .imul, 1))) (.branch 67 (.leaf (66, .aload_n 2, 1)) (.branch 70 (.leaf (67, .getfield 74, 3)) (.leaf (70, .iconst 3, 1))))) (.branch 74 (.branch 73 (.leaf (71, .iload 6, 2)) (.leaf (73, .imul, 1))) (.branch 75 (.leaf (74, .iconst 2, 1)) (.branch 76 (.leaf (75, .iadd, 1)) (.leaf (76, .laload, 1)))))) (.branch 85 (.branch 79 (.branch 78 (.leaf (77, .l2i, 1)) (.leaf (78, .iadd, 1))) (.branch 81 (.leaf (79, .istore 8, 2)) (.branch 83 (.leaf (81, .iload 7, 2)) (.leaf (83, .iload 4, 2))))) (.branch 89 (.branch 88 (.leaf (85, .if_icmp .ge 5, 3)) (.leaf (88, .iconst (-1), 1))) (.branch 90 (.leaf (89, .ireturn, 1)) (.branch 92 (.leaf (90, .iload 4, 2)) (.leaf (92, .iload 7, 2))))))) (.branch 117 (.branch 106 (.branch 98 (.branch 97 (.leaf (94, .if_icmp .ge 15, 3)) (.leaf (97, .aload_n 0, 1))) (.branch 100 (.leaf (98, .iload 4, 2)) (.branch 103 (.leaf (100, .invokevirtual 56, 3)) (.leaf (103, .iinc 4 1, 3))))) (.branch 110 (.branch 109 (.leaf (106, .goto (-16), 3)) (.leaf (109, .aload_n 0, 1))) (.branch 112 (.leaf (110, .iload 4, 2)) (.branch 114 (.leaf (112, .iload 8, 2)) (.leaf (114, .invokevirtual 78, 3)))))) (.branch 126 (.branch 121 (.branch 119 (.leaf (117, .istore 5, 2)) (.leaf (119, .iload 5, 2))) (.branch 122 (.leaf (121, .iconst (-1), 1)) (.branch 125 (.leaf (122, .if_icmp .ne 5, 3)) (.leaf (125, .iconst (-1), 1))))) (.branch 130 (.branch 127 (.leaf (126, .ireturn, 1)) (.leaf (127, .iinc 6 1, 3))) (.branch 133 (.leaf (130, .goto (-110), 3)) (.branch 135 (.leaf (133, .iload 5, 2)) (.leaf (135, .ireturn, 1))))))))
def mc_8 : am_T := .branch 23 (.branch 12 (.branch 6 (.branch 4 (.branch 1 (.leaf (0, .iload_n 1, 1)) (.leaf (1, .invokestatic 82, 3))) (.branch 5 (.leaf (4, .iload_n 2, 1)) (.leaf (5, .iadd, 1)))) (.branch 8 (.branch 7 (.leaf (6, .istore_n 3, 1)) (.leaf (7, .aload_n 0, 1))) (.branch 11 (.leaf (8, .getfield 26, 3)) (.leaf (11, .iconst 0, 1))))) (.branch 17 (.branch 14 (.branch 13 (.leaf (12, .aaload, 1)) (.leaf (13, .iload_n 3, 1))) (.branch 15 (.leaf (14, .iaload, 1)) (.leaf (15, .istore 4, 2)))) (.branch 21 (.branch 18 (.leaf (17, .aload_n 0, 1)) (.leaf (18, .getfield 26, 3))) (.branch 22 (.leaf (21, .iconst 0, 1)) (.leaf (22, .aaload, 1)))))) (.branch 37 (.branch 32 (.branch 28 (.branch 25 (.leaf (23, .ldc 86, 2)) (.leaf (25, .invokestatic 87, 3))) (.branch 29 (.leaf (28, .aload_n 0, 1)) (.leaf (29, .getfield 26, 3)))) (.branch 34 (.branch 33 (.leaf (32, .iconst 0, 1)) (.leaf (33, .aaload, 1))) (.branch 35 (.leaf (34, .iload_n 3, 1)) (.leaf (35, .iload 4, 2))))) (.branch 45 (.branch 40 (.branch 38 (.leaf (37, .iastore, 1)) (.leaf (38, .iload 4, 2))) (.branch 42 (.leaf (40, .ldc 86, 2)) (.leaf (42, .if_icmp .ne 7, 3)))) (.branch 49 (.branch 46 (.leaf (45, .iconst (-1), 1)) (.leaf (46, .goto 5, 3))) (.branch 51 (.leaf (49, .iload 4, 2)) (.leaf (51, .ireturn, 1))))))
def mc_9 : am_T := .branch 47 (.branch 19 (.branch 7 (.branch 2 (.branch 1 (.leaf (0, .aload_n 0, 1)) (.leaf (1, .aload_n 1, 1))) (.branch 5 (.leaf (2, .invokevirtual 93, 3)) (.branch 6 (.leaf (5, .aload_n 0, 1)) (.leaf (6, .iload_n 2, 1))))) (.branch 13 (.branch 10 (.leaf (7, .invokevirtual 97, 3)) (.branch 11 (.leaf (10, .iconst 0, 1)) (.leaf (11, .istore 4, 2)))) (.branch 15 (.leaf (13, .iload 4, 2)) (.branch 16 (.leaf (15, .aload_n 0, 1)) (.leaf (16, .getfield 100, 3)))))) (.branch 33 (.branch 26 (.branch 22 (.leaf (19, .if_icmp .ge 28, 3)) (.branch 24 (.leaf (22, .iload 4, 2)) (.leaf (24, .bipush 7, 2)))) (.branch 29 (.leaf (26, .if_icmp .ge 21, 3)) (.branch 30 (.leaf (29, .aload_n 0, 1)) (.leaf (30, .getfield 26, 3))))) (.branch 38 (.branch 35 (.leaf (33, .iload 4, 2)) (.branch 36 (.leaf (35, .aaload, 1)) (.leaf (36, .ldc 86, 2)))) (.branch 41 (.leaf (38, .invokestatic 87, 3)) (.branch 44 (.leaf (41, .iinc 4 1, 3)) (.leaf (44, .goto (-31), 3))))))) (.branch 67 (.branch 57 (.branch 52 (.branch 48 (.leaf (47, .aload_n 0, 1)) (.branch 49 (.leaf (48, .iload_n 3, 1)) (.leaf (49, .putfield 53, 3)))) (.branch 53 (.leaf (52, .aload_n 0, 1)) (.branch 54 (.leaf (53, .iconst (-1), 1)) (.leaf (54, .putfield 60, 3))))) (.branch 62 (.branch 58 (.leaf (57, .aload_n 0, 1)) (.branch 59 (.leaf (58, .iconst (-1), 1)) (.leaf (59, .putfield 66, 3)))) (.branch 63 (.leaf (62, .aload_n 0, 1)) (.branch 66 (.leaf (63, .getfield 26, 3)) (.leaf (66, .iconst 0, 1)))))) (.branch 79 (.branch 72 (.branch 68 (.leaf (67, .aaload, 1)) (.branch 69 (.leaf (68, .aload_n 1, 1)) (.leaf (69, .getfield 47, 3)))) (.branch 75 (.leaf (72, .invokestatic 82, 3)) (.branch 76 (.leaf (75, .aload_n 0, 1)) (.leaf (76, .getfield 38, 3))))) (.branch 84 (.branch 80 (.leaf (79, .aload_n 1, 1)) (.branch 83 (.leaf (80, .invokevirtual 103, 3)) (.leaf (83, .iadd, 1)))) (.branch 85 (.leaf (84, .iconst 0, 1)) (.branch 86 (.leaf (85, .iastore, 1)) (.leaf (86, .return_, 1)))))))
def mc_10 : am_T := .branch 72 (.branch 37 (.branch 18 (.branch 7 (.branch 2 (.branch 1 (.leaf (0, .aload_n 0, 1)) (.leaf (1, .iconst 0, 1))) (.branch 5 (.leaf (2, .putfield 109, 3)) (.branch 6 (.leaf (5, .iconst 0, 1)) (.leaf (6, .istore_n 2, 1))))) (.branch 9 (.branch 8 (.leaf (7, .iload_n 2, 1)) (.leaf (8, .aload_n 0, 1))) (.branch 12 (.leaf (9, .getfield 38, 3)) (.branch 15 (.leaf (12, .getfield 112, 3)) (.leaf (15, .if_icmp .ge 123, 3)))))) (.branch 27 (.branch 22 (.branch 19 (.leaf (18, .aload_n 0, 1)) (.leaf (19, .getfield 38, 3))) (.branch 23 (.leaf (22, .iload_n 2, 1)) (.branch 26 (.leaf (23, .invokevirtual 115, 3)) (.leaf (26, .istore_n 3, 1))))) (.branch 32 (.branch 28 (.leaf (27, .iconst 0, 1)) (.branch 30 (.leaf (28, .istore 4, 2)) (.leaf (30, .iload 4, 2)))) (.branch 33 (.leaf (32, .iload_n 3, 1)) (.branch 36 (.leaf (33, .if_icmp .ge 99, 3)) (.leaf (36, .iload_n 2, 1))))))) (.branch 55 (.branch 45 (.branch 40 (.branch 39 (.leaf (37, .bipush 20, 2)) (.leaf (39, .imul, 1))) (.branch 42 (.leaf (40, .iload 4, 2)) (.branch 43 (.leaf (42, .iadd, 1)) (.leaf (43, .istore 5, 2))))) (.branch 49 (.branch 46 (.leaf (45, .aload_n 0, 1)) (.leaf (46, .getfield 11, 3))) (.branch 50 (.leaf (49, .aload_n 0, 1)) (.branch 53 (.leaf (50, .getfield 109, 3)) (.leaf (53, .iload 5, 2)))))) (.branch 62 (.branch 57 (.branch 56 (.leaf (55, .iastore, 1)) (.leaf (56, .aload_n 0, 1))) (.branch 58 (.leaf (57, .dup, 1)) (.branch 61 (.leaf (58, .getfield 109, 3)) (.leaf (61, .iconst 1, 1))))) (.branch 67 (.branch 63 (.leaf (62, .iadd, 1)) (.branch 66 (.leaf (63, .putfield 109, 3)) (.leaf (66, .aload_n 0, 1)))) (.branch 70 (.leaf (67, .getfield 17, 3)) (.branch 71 (.leaf (70, .iconst 0, 1)) (.leaf (71, .aaload, 1)))))))) (.branch 103 (.branch 87 (.branch 80 (.branch 75 (.branch 74 (.leaf (72, .iload 5, 2)) (.leaf (74, .iload_n 2, 1))) (.branch 77 (.leaf (75, .bipush 20, 2)) (.branch 78 (.leaf (77, .imul, 1)) (.leaf (78, .iload 4, 2))))) (.branch 82 (.branch 81 (.leaf (80, .iconst 1, 1)) (.leaf (81, .iadd, 1))) (.branch 83 (.leaf (82, .iload_n 3, 1)) (.branch 86 (.leaf (83, .invokestatic 118, 3)) (.leaf (86, .iadd, 1)))))) (.branch 94 (.branch 89 (.branch 88 (.leaf (87, .iastore, 1)) (.leaf (88, .aload_n 0, 1))) (.branch 92 (.leaf (89, .getfield 20, 3)) (.branch 93 (.leaf (92, .iconst 0, 1)) (.leaf (93, .aaload, 1))))) (.branch 98 (.branch 96 (.leaf (94, .iload 5, 2)) (.branch 97 (.leaf (96, .iconst 1, 1)) (.leaf (97, .iastore, 1)))) (.branch 99 (.leaf (98, .aload_n 0, 1)) (.branch 102 (.leaf (99, .getfield 23, 3)) (.leaf (102, .iconst 0, 1))))))) (.branch 117 (.branch 109 (.branch 106 (.branch 104 (.leaf (103, .aaload, 1)) (.leaf (104, .iload 5, 2))) (.branch 107 (.leaf (106, .iconst 0, 1)) (.branch 108 (.leaf (107, .iastore, 1)) (.leaf (108, .aload_n 0, 1))))) (.branch 111 (.branch 110 (.leaf (109, .aload_n 1, 1)) (.leaf (110, .iconst 1, 1))) (.branch 112 (.leaf (111, .iload_n 2, 1)) (.branch 114 (.leaf (112, .iload 4, 2)) (.leaf (114, .invokevirtual 121, 3)))))) (.branch 123 (.branch 119 (.branch 118 (.leaf (117, .aload_n 0, 1)) (.leaf (118, .aload_n 1, 1))) (.branch 120 (.leaf (119, .iconst 2, 1)) (.branch 121 (.leaf (120, .iload_n 2, 1)) (.leaf (121, .iload 4, 2))))) (.branch 132 (.branch 126 (.leaf (123, .invokevirtual 121, 3)) (.branch 129 (.leaf (126, .iinc 4 1, 3)) (.leaf (129, .goto (-99), 3)))) (.branch 135 (.leaf (132, .iinc 2 1, 3)) (.branch 138 (.leaf (135, .goto (-128), 3)) (.leaf (138, .return_, 1))))))))
def mc_11 : am_T := .branch 59 (.branch 30 (.branch 13 (.branch 6 (.branch 3 (.branch 1 (.leaf (0, .iload_n 3, 1)) (.leaf (1, .bipush 20, 2))) (.branch 4 (.leaf (3, .imul, 1)) (.leaf (4, .iload 4, 2)))) (.branch 9 (.branch 7 (.leaf (6, .iadd, 1)) (.leaf (7, .istore 5, 2))) (.branch 10 (.leaf (9, .aload_n 1, 1)) (.leaf (10, .invokevirtual 125, 3))))) (.branch 21 (.branch 17 (.branch 16 (.leaf (13, .ifCond .eq 16, 3)) (.leaf (16, .aload_n 0, 1))) (.branch 20 (.leaf (17, .getfield 38, 3)) (.leaf (20, .aload_n 1, 1)))) (.branch 23 (.branch 22 (.leaf (21, .iload_n 3, 1)) (.leaf (22, .iload_n 2, 1))) (.branch 26 (.leaf (23, .invokevirtual 129, 3)) (.branch 29 (.leaf (26, .goto 4, 3)) (.leaf (29, .iconst (-1), 1))))))) (.branch 42 (.branch 37 (.branch 33 (.branch 32 (.leaf (30, .istore 6, 2)) (.leaf (32, .aload_n 0, 1))) (.branch 36 (.leaf (33, .getfield 17, 3)) (.leaf (36, .iload_n 2, 1)))) (.branch 40 (.branch 38 (.leaf (37, .aaload, 1)) (.leaf (38, .iload 5, 2))) (.branch 41 (.leaf (40, .iconst (-1), 1)) (.leaf (41, .iastore, 1))))) (.branch 49 (.branch 45 (.branch 44 (.leaf (42, .iload 6, 2)) (.leaf (44, .iconst (-1), 1))) (.branch 48 (.leaf (45, .if_icmp .eq 69, 3)) (.leaf (48, .aload_n 0, 1)))) (.branch 53 (.branch 52 (.leaf (49, .getfield 38, 3)) (.leaf (52, .iload_n 3, 1))) (.branch 54 (.leaf (53, .iload_n 2, 1)) (.branch 57 (.leaf (54, .invokevirtual 133, 3)) (.leaf (57, .istore 7, 2)))))))) (.branch 87 (.branch 72 (.branch 65 (.branch 63 (.branch 60 (.leaf (59, .aload_n 0, 1)) (.leaf (60, .getfield 17, 3))) (.branch 64 (.leaf (63, .iload_n 2, 1)) (.leaf (64, .aaload, 1)))) (.branch 69 (.branch 67 (.leaf (65, .iload 5, 2)) (.leaf (67, .iload 7, 2))) (.branch 71 (.leaf (69, .bipush 20, 2)) (.leaf (71, .imul, 1))))) (.branch 79 (.branch 76 (.branch 73 (.leaf (72, .aload_n 0, 1)) (.leaf (73, .getfield 38, 3))) (.branch 77 (.leaf (76, .iload_n 3, 1)) (.leaf (77, .iload 4, 2)))) (.branch 84 (.branch 81 (.leaf (79, .iload 7, 2)) (.leaf (81, .invokevirtual 136, 3))) (.branch 85 (.leaf (84, .iadd, 1)) (.branch 86 (.leaf (85, .iastore, 1)) (.leaf (86, .aload_n 0, 1))))))) (.branch 102 (.branch 94 (.branch 91 (.branch 90 (.leaf (87, .getfield 20, 3)) (.leaf (90, .iload_n 2, 1))) (.branch 92 (.leaf (91, .aaload, 1)) (.leaf (92, .iload 5, 2)))) (.branch 98 (.branch 95 (.leaf (94, .aload_n 0, 1)) (.leaf (95, .getfield 38, 3))) (.branch 99 (.leaf (98, .iload_n 3, 1)) (.leaf (99, .invokevirtual 140, 3))))) (.branch 108 (.branch 104 (.branch 103 (.leaf (102, .iastore, 1)) (.leaf (103, .aload_n 0, 1))) (.branch 107 (.leaf (104, .getfield 23, 3)) (.leaf (107, .iload_n 2, 1)))) (.branch 111 (.branch 109 (.leaf (108, .aaload, 1)) (.leaf (109, .iload 5, 2))) (.branch 113 (.leaf (111, .iload 6, 2)) (.branch 114 (.leaf (113, .iastore, 1)) (.leaf (114, .return_, 1))))))))
def mc_12 : am_T := .branch 42 (.branch 22 (.branch 8 (.branch 5 (.branch 1 (.leaf (0, .aload_n 0, 1)) (.branch 2 (.leaf (1, .iconst 0, 1)) (.leaf (2, .putfield 143, 3)))) (.branch 6 (.leaf (5, .iconst 0, 1)) (.branch 7 (.leaf (6, .istore_n 2, 1)) (.leaf (7, .iload_n 2, 1))))) (.branch 15 (.branch 9 (.leaf (8, .aload_n 0, 1)) (.branch 12 (.leaf (9, .getfield 38, 3)) (.leaf (12, .getfield 146, 3)))) (.branch 18 (.leaf (15, .if_icmp .ge 45, 3)) (.branch 19 (.leaf (18, .aload_n 0, 1)) (.leaf (19, .getfield 143, 3)))))) (.branch 30 (.branch 27 (.branch 23 (.leaf (22, .iconst 3, 1)) (.branch 26 (.leaf (23, .if_icmp .ge 37, 3)) (.leaf (26, .iload_n 1, 1)))) (.branch 28 (.leaf (27, .iconst 1, 1)) (.branch 29 (.leaf (28, .iload_n 2, 1)) (.leaf (29, .ishl, 1))))) (.branch 35 (.branch 31 (.leaf (30, .iand, 1)) (.branch 34 (.leaf (31, .ifCond .eq 23, 3)) (.leaf (34, .aload_n 0, 1)))) (.branch 38 (.leaf (35, .getfield 32, 3)) (.branch 39 (.leaf (38, .aload_n 0, 1)) (.leaf (39, .getfield 143, 3))))))) (.branch 62 (.branch 50 (.branch 45 (.branch 43 (.leaf (42, .iload_n 2, 1)) (.branch 44 (.leaf (43, .iastore, 1)) (.leaf (44, .aload_n 0, 1)))) (.branch 46 (.leaf (45, .dup, 1)) (.branch 49 (.leaf (46, .getfield 143, 3)) (.leaf (49, .iconst 1, 1))))) (.branch 57 (.branch 51 (.leaf (50, .iadd, 1)) (.branch 54 (.leaf (51, .putfield 143, 3)) (.leaf (54, .iinc 2 1, 3)))) (.branch 60 (.leaf (57, .goto (-50), 3)) (.branch 61 (.leaf (60, .aload_n 0, 1)) (.leaf (61, .aload_n 0, 1)))))) (.branch 74 (.branch 69 (.branch 65 (.leaf (62, .getfield 143, 3)) (.branch 68 (.leaf (65, .ifCond .ne 7, 3)) (.leaf (68, .iconst 1, 1)))) (.branch 72 (.leaf (69, .goto 11, 3)) (.branch 73 (.leaf (72, .iconst 1, 1)) (.leaf (73, .aload_n 0, 1))))) (.branch 79 (.branch 77 (.leaf (74, .getfield 143, 3)) (.branch 78 (.leaf (77, .ishl, 1)) (.leaf (78, .iconst 1, 1)))) (.branch 80 (.leaf (79, .isub, 1)) (.branch 83 (.leaf (80, .putfield 100, 3)) (.leaf (83, .return_, 1)))))))
def mc_13 : am_T := .branch 70 (.branch 33 (.branch 15 (.branch 4 (.branch 2 (.branch 1 (.leaf (0, .iconst 0, 1)) (.leaf (1, .istore_n 2, 1))) (.branch 3 (.leaf (2, .iload_n 2, 1)) (.leaf (3, .aload_n 0, 1)))) (.branch 10 (.branch 7 (.leaf (4, .getfield 143, 3)) (.leaf (7, .if_icmp .ge 37, 3))) (.branch 11 (.leaf (10, .aload_n 0, 1)) (.branch 14 (.leaf (11, .getfield 35, 3)) (.leaf (14, .iload_n 2, 1)))))) (.branch 26 (.branch 19 (.branch 16 (.leaf (15, .aload_n 0, 1)) (.leaf (16, .getfield 38, 3))) (.branch 20 (.leaf (19, .aload_n 0, 1)) (.branch 23 (.leaf (20, .getfield 38, 3)) (.leaf (23, .getfield 149, 3))))) (.branch 30 (.branch 27 (.leaf (26, .aload_n 0, 1)) (.leaf (27, .getfield 32, 3))) (.branch 31 (.leaf (30, .iload_n 2, 1)) (.branch 32 (.leaf (31, .iaload, 1)) (.leaf (32, .aaload, 1))))))) (.branch 51 (.branch 44 (.branch 37 (.branch 34 (.leaf (33, .iload_n 1, 1)) (.leaf (34, .invokevirtual 153, 3))) (.branch 38 (.leaf (37, .iastore, 1)) (.branch 41 (.leaf (38, .iinc 2 1, 3)) (.leaf (41, .goto (-39), 3))))) (.branch 48 (.branch 45 (.leaf (44, .iload_n 1, 1)) (.leaf (45, .invokestatic 82, 3))) (.branch 49 (.leaf (48, .istore_n 2, 1)) (.branch 50 (.leaf (49, .iconst 0, 1)) (.leaf (50, .istore_n 3, 1)))))) (.branch 60 (.branch 53 (.branch 52 (.leaf (51, .iload_n 3, 1)) (.leaf (52, .aload_n 0, 1))) (.branch 56 (.leaf (53, .getfield 100, 3)) (.branch 59 (.leaf (56, .if_icmp .ge 85, 3)) (.leaf (59, .iload_n 3, 1))))) (.branch 65 (.branch 62 (.leaf (60, .bipush 7, 2)) (.leaf (62, .if_icmp .ge 79, 3))) (.branch 66 (.leaf (65, .iconst 0, 1)) (.branch 68 (.leaf (66, .istore 4, 2)) (.leaf (68, .iload 4, 2)))))))) (.branch 106 (.branch 90 (.branch 81 (.branch 74 (.branch 71 (.leaf (70, .aload_n 0, 1)) (.leaf (71, .getfield 109, 3))) (.branch 77 (.leaf (74, .if_icmp .ge 61, 3)) (.branch 78 (.leaf (77, .aload_n 0, 1)) (.leaf (78, .getfield 11, 3))))) (.branch 84 (.branch 83 (.leaf (81, .iload 4, 2)) (.leaf (83, .iaload, 1))) (.branch 86 (.leaf (84, .istore 5, 2)) (.branch 87 (.leaf (86, .aload_n 0, 1)) (.leaf (87, .getfield 26, 3)))))) (.branch 96 (.branch 92 (.branch 91 (.leaf (90, .iload_n 3, 1)) (.leaf (91, .aaload, 1))) (.branch 93 (.leaf (92, .iload_n 2, 1)) (.branch 95 (.leaf (93, .iload 5, 2)) (.leaf (95, .iadd, 1))))) (.branch 99 (.branch 97 (.leaf (96, .iaload, 1)) (.leaf (97, .istore 6, 2))) (.branch 101 (.leaf (99, .iload 6, 2)) (.branch 103 (.leaf (101, .ldc 86, 2)) (.leaf (103, .if_icmp .eq 26, 3))))))) (.branch 120 (.branch 113 (.branch 110 (.branch 107 (.leaf (106, .aload_n 0, 1)) (.leaf (107, .getfield 26, 3))) (.branch 111 (.leaf (110, .iload_n 3, 1)) (.branch 112 (.leaf (111, .aaload, 1)) (.leaf (112, .iload_n 2, 1))))) (.branch 116 (.branch 115 (.leaf (113, .iload 5, 2)) (.leaf (115, .iadd, 1))) (.branch 118 (.leaf (116, .ldc 86, 2)) (.branch 119 (.leaf (118, .iastore, 1)) (.leaf (119, .aload_n 0, 1)))))) (.branch 129 (.branch 123 (.branch 121 (.leaf (120, .iload_n 1, 1)) (.leaf (121, .iload 5, 2))) (.branch 124 (.leaf (123, .iload_n 3, 1)) (.branch 126 (.leaf (124, .iload 6, 2)) (.leaf (126, .invokevirtual 157, 3))))) (.branch 135 (.branch 132 (.leaf (129, .iinc 4 1, 3)) (.leaf (132, .goto (-64), 3))) (.branch 138 (.leaf (135, .iinc 3 1, 3)) (.branch 141 (.leaf (138, .goto (-87), 3)) (.leaf (141, .return_, 1))))))))
def mc_14 : am_T := .branch 39 (.branch 18 (.branch 10 (.branch 3 (.branch 2 (.leaf (0, .iload 4, 2)) (.leaf (2, .aload_n 0, 1))) (.branch 6 (.leaf (3, .getfield 53, 3)) (.branch 9 (.leaf (6, .if_icmp .le 4, 3)) (.leaf (9, .return_, 1))))) (.branch 13 (.branch 11 (.leaf (10, .iload_n 3, 1)) (.leaf (11, .istore 5, 2))) (.branch 14 (.leaf (13, .iconst 0, 1)) (.branch 16 (.leaf (14, .istore 6, 2)) (.leaf (16, .iload 6, 2)))))) (.branch 29 (.branch 22 (.branch 19 (.leaf (18, .aload_n 0, 1)) (.leaf (19, .getfield 143, 3))) (.branch 25 (.leaf (22, .if_icmp .ge 29, 3)) (.branch 26 (.leaf (25, .aload_n 0, 1)) (.leaf (26, .getfield 35, 3))))) (.branch 33 (.branch 31 (.leaf (29, .iload 6, 2)) (.branch 32 (.leaf (31, .iaload, 1)) (.leaf (32, .iload_n 2, 1)))) (.branch 36 (.leaf (33, .if_icmp .ne 12, 3)) (.branch 38 (.leaf (36, .iload 5, 2)) (.leaf (38, .iconst 1, 1))))))) (.branch 61 (.branch 48 (.branch 42 (.branch 41 (.leaf (39, .iload 6, 2)) (.leaf (41, .ishl, 1))) (.branch 43 (.leaf (42, .ior, 1)) (.branch 45 (.leaf (43, .istore 5, 2)) (.leaf (45, .iinc 6 1, 3))))) (.branch 54 (.branch 51 (.leaf (48, .goto (-32), 3)) (.branch 53 (.leaf (51, .iload 5, 2)) (.leaf (53, .aload_n 0, 1)))) (.branch 57 (.leaf (54, .getfield 100, 3)) (.branch 60 (.leaf (57, .if_icmp .ne 13, 3)) (.leaf (60, .aload_n 0, 1)))))) (.branch 71 (.branch 64 (.branch 62 (.leaf (61, .iload_n 1, 1)) (.leaf (62, .iload 4, 2))) (.branch 67 (.leaf (64, .invokevirtual 161, 3)) (.branch 70 (.leaf (67, .goto 13, 3)) (.leaf (70, .aload_n 0, 1))))) (.branch 75 (.branch 72 (.leaf (71, .iload_n 1, 1)) (.branch 73 (.leaf (72, .iload_n 2, 1)) (.leaf (73, .iload 5, 2)))) (.branch 77 (.leaf (75, .iload 4, 2)) (.branch 80 (.leaf (77, .invokevirtual 165, 3)) (.leaf (80, .return_, 1)))))))
def mc_15 : am_T := .branch 12 (.branch 6 (.branch 2 (.branch 1 (.leaf (0, .aload_n 0, 1)) (.leaf (1, .iload_n 2, 1))) (.branch 5 (.leaf (2, .putfield 60, 3)) (.leaf (5, .aload_n 0, 1)))) (.branch 8 (.branch 7 (.leaf (6, .iload_n 2, 1)) (.leaf (7, .iconst 1, 1))) (.branch 9 (.leaf (8, .isub, 1)) (.leaf (9, .putfield 53, 3))))) (.branch 20 (.branch 16 (.branch 13 (.leaf (12, .aload_n 0, 1)) (.leaf (13, .getfield 66, 3))) (.branch 17 (.leaf (16, .iconst (-1), 1)) (.leaf (17, .if_icmp .ne 8, 3)))) (.branch 22 (.branch 21 (.leaf (20, .aload_n 0, 1)) (.leaf (21, .iload_n 1, 1))) (.branch 25 (.leaf (22, .putfield 66, 3)) (.leaf (25, .return_, 1)))))
def mc_16 : am_T := .branch 49 (.branch 23 (.branch 13 (.branch 5 (.branch 1 (.leaf (0, .iconst 0, 1)) (.branch 3 (.leaf (1, .istore 5, 2)) (.leaf (3, .iload 5, 2)))) (.branch 9 (.branch 6 (.leaf (5, .iconst 3, 1)) (.leaf (6, .if_icmp .ge 91, 3))) (.branch 10 (.leaf (9, .aload_n 0, 1)) (.leaf (10, .getfield 17, 3))))) (.branch 17 (.branch 15 (.leaf (13, .iload 5, 2)) (.branch 16 (.leaf (15, .aaload, 1)) (.leaf (16, .iload_n 2, 1)))) (.branch 20 (.branch 18 (.leaf (17, .iaload, 1)) (.leaf (18, .istore 6, 2))) (.branch 22 (.leaf (20, .iload 4, 2)) (.leaf (22, .aload_n 0, 1)))))) (.branch 34 (.branch 29 (.branch 26 (.leaf (23, .getfield 23, 3)) (.branch 28 (.leaf (26, .iload 5, 2)) (.leaf (28, .aaload, 1)))) (.branch 31 (.branch 30 (.leaf (29, .iload_n 2, 1)) (.leaf (30, .iaload, 1))) (.branch 32 (.leaf (31, .iadd, 1)) (.leaf (32, .istore 7, 2))))) (.branch 40 (.branch 36 (.leaf (34, .iload 6, 2)) (.branch 37 (.leaf (36, .iconst (-1), 1)) (.leaf (37, .if_icmp .eq 54, 3)))) (.branch 43 (.branch 42 (.leaf (40, .iload 7, 2)) (.leaf (42, .aload_n 0, 1))) (.branch 46 (.leaf (43, .getfield 53, 3)) (.leaf (46, .if_icmp .gt 45, 3))))))) (.branch 72 (.branch 59 (.branch 54 (.branch 50 (.leaf (49, .iload_n 1, 1)) (.branch 51 (.leaf (50, .aload_n 0, 1)) (.leaf (51, .getfield 20, 3)))) (.branch 57 (.branch 56 (.leaf (54, .iload 5, 2)) (.leaf (56, .aaload, 1))) (.branch 58 (.leaf (57, .iload_n 2, 1)) (.leaf (58, .iaload, 1))))) (.branch 65 (.branch 60 (.leaf (59, .iadd, 1)) (.branch 63 (.leaf (60, .invokestatic 82, 3)) (.leaf (63, .iload 6, 2)))) (.branch 68 (.branch 66 (.leaf (65, .iadd, 1)) (.leaf (66, .istore 8, 2))) (.branch 69 (.leaf (68, .aload_n 0, 1)) (.leaf (69, .getfield 26, 3)))))) (.branch 83 (.branch 76 (.branch 73 (.leaf (72, .iload_n 3, 1)) (.branch 74 (.leaf (73, .aaload, 1)) (.leaf (74, .iload 8, 2)))) (.branch 79 (.branch 78 (.leaf (76, .iload 7, 2)) (.leaf (78, .aload_n 0, 1))) (.branch 82 (.leaf (79, .getfield 26, 3)) (.leaf (82, .iload_n 3, 1))))) (.branch 90 (.branch 86 (.branch 84 (.leaf (83, .aaload, 1)) (.leaf (84, .iload 8, 2))) (.branch 87 (.leaf (86, .iaload, 1)) (.leaf (87, .invokestatic 168, 3)))) (.branch 94 (.branch 91 (.leaf (90, .iastore, 1)) (.leaf (91, .iinc 5 1, 3))) (.branch 97 (.leaf (94, .goto (-91), 3)) (.leaf (97, .return_, 1)))))))
def mc_17 : am_T := .branch 74 (.branch 33 (.branch 16 (.branch 5 (.branch 2 (.branch 1 (.leaf (0, .aload_n 0, 1)) (.leaf (1, .aload_n 1, 1))) (.branch 3 (.leaf (2, .iconst 1, 1)) (.branch 4 (.leaf (3, .iload_n 2, 1)) (.leaf (4, .ishl, 1))))) (.branch 10 (.branch 8 (.leaf (5, .invokevirtual 173, 3)) (.leaf (8, .istore 4, 2))) (.branch 11 (.leaf (10, .iload_n 3, 1)) (.branch 13 (.leaf (11, .iload 4, 2)) (.leaf (13, .if_icmp .lt 5, 3)))))) (.branch 23 (.branch 18 (.branch 17 (.leaf (16, .iconst (-1), 1)) (.leaf (17, .ireturn, 1))) (.branch 19 (.leaf (18, .aload_n 0, 1)) (.branch 20 (.leaf (19, .aload_n 1, 1)) (.leaf (20, .getfield 47, 3))))) (.branch 26 (.branch 25 (.leaf (23, .iload 4, 2)) (.leaf (25, .aload_n 0, 1))) (.branch 29 (.leaf (26, .getfield 38, 3)) (.branch 30 (.leaf (29, .aload_n 0, 1)) (.leaf (30, .getfield 38, 3))))))) (.branch 53 (.branch 43 (.branch 37 (.branch 36 (.leaf (33, .getfield 149, 3)) (.leaf (36, .iload_n 2, 1))) (.branch 38 (.leaf (37, .aaload, 1)) (.branch 40 (.leaf (38, .iload 4, 2)) (.leaf (40, .invokevirtual 153, 3))))) (.branch 47 (.branch 46 (.leaf (43, .invokevirtual 176, 3)) (.leaf (46, .aload_n 1, 1))) (.branch 50 (.leaf (47, .getfield 47, 3)) (.branch 52 (.leaf (50, .istore 5, 2)) (.leaf (52, .aload_n 0, 1)))))) (.branch 63 (.branch 57 (.branch 56 (.leaf (53, .getfield 38, 3)) (.leaf (56, .aload_n 1, 1))) (.branch 60 (.leaf (57, .invokevirtual 103, 3)) (.branch 62 (.leaf (60, .istore 6, 2)) (.leaf (62, .iconst 0, 1))))) (.branch 67 (.branch 65 (.leaf (63, .istore 7, 2)) (.leaf (65, .iload 7, 2))) (.branch 69 (.leaf (67, .iload 4, 2)) (.branch 72 (.leaf (69, .if_icmp .ge 77, 3)) (.leaf (72, .iload 5, 2)))))))) (.branch 111 (.branch 93 (.branch 83 (.branch 78 (.branch 75 (.leaf (74, .iload_n 3, 1)) (.leaf (75, .if_icmp .gt 71, 3))) (.branch 79 (.leaf (78, .aload_n 0, 1)) (.branch 81 (.leaf (79, .iload 5, 2)) (.leaf (81, .iload 6, 2))))) (.branch 88 (.branch 85 (.leaf (83, .iload 4, 2)) (.leaf (85, .invokevirtual 180, 3))) (.branch 90 (.leaf (88, .istore 8, 2)) (.branch 92 (.leaf (90, .iload 5, 2)) (.leaf (92, .aload_n 0, 1)))))) (.branch 102 (.branch 98 (.branch 96 (.leaf (93, .getfield 20, 3)) (.leaf (96, .iload 8, 2))) (.branch 99 (.leaf (98, .aaload, 1)) (.branch 101 (.leaf (99, .iload 6, 2)) (.leaf (101, .iaload, 1))))) (.branch 105 (.branch 103 (.leaf (102, .iadd, 1)) (.leaf (103, .istore 9, 2))) (.branch 106 (.leaf (105, .iload_n 3, 1)) (.branch 108 (.leaf (106, .iload 9, 2)) (.leaf (108, .if_icmp .ge 16, 3))))))) (.branch 130 (.branch 122 (.branch 114 (.branch 112 (.leaf (111, .iload_n 3, 1)) (.leaf (112, .iload 5, 2))) (.branch 117 (.leaf (114, .if_icmp .ne 8, 3)) (.branch 119 (.leaf (117, .iload 8, 2)) (.leaf (119, .goto 4, 3))))) (.branch 124 (.branch 123 (.leaf (122, .iconst 0, 1)) (.leaf (123, .ireturn, 1))) (.branch 125 (.leaf (124, .aload_n 0, 1)) (.branch 128 (.leaf (125, .getfield 17, 3)) (.leaf (128, .iload 8, 2)))))) (.branch 138 (.branch 133 (.branch 131 (.leaf (130, .aaload, 1)) (.leaf (131, .iload 6, 2))) (.branch 134 (.leaf (133, .iaload, 1)) (.branch 136 (.leaf (134, .istore 6, 2)) (.leaf (136, .iload 9, 2))))) (.branch 143 (.branch 140 (.leaf (138, .istore 5, 2)) (.leaf (140, .iinc 7 1, 3))) (.branch 146 (.leaf (143, .goto (-78), 3)) (.branch 147 (.leaf (146, .iconst 0, 1)) (.leaf (147, .ireturn, 1))))))))
def mc_18 : am_T := .branch 64 (.branch 31 (.branch 15 (.branch 7 (.branch 3 (.branch 1 (.leaf (0, .iconst 0, 1)) (.leaf (1, .istore 4, 2))) (.branch 5 (.leaf (3, .iload 4, 2)) (.leaf (5, .bipush 120, 2)))) (.branch 11 (.branch 10 (.leaf (7, .if_icmp .ge 33, 3)) (.leaf (10, .aload_n 0, 1))) (.branch 14 (.leaf (11, .getfield 29, 3)) (.leaf (14, .iload_n 2, 1))))) (.branch 21 (.branch 18 (.branch 17 (.leaf (15, .bipush 120, 2)) (.leaf (17, .imul, 1))) (.branch 20 (.leaf (18, .iload 4, 2)) (.leaf (20, .iadd, 1)))) (.branch 24 (.branch 23 (.leaf (21, .iload 4, 2)) (.leaf (23, .iload_n 3, 1))) (.branch 27 (.leaf (24, .if_icmp .ne 7, 3)) (.branch 28 (.leaf (27, .iconst 0, 1)) (.leaf (28, .goto 5, 3))))))) (.branch 47 (.branch 40 (.branch 34 (.branch 33 (.leaf (31, .ldc 86, 2)) (.leaf (33, .iastore, 1))) (.branch 37 (.leaf (34, .iinc 4 1, 3)) (.leaf (37, .goto (-34), 3)))) (.branch 42 (.branch 41 (.leaf (40, .iload_n 2, 1)) (.leaf (41, .iconst 1, 1))) (.branch 43 (.leaf (42, .isub, 1)) (.branch 45 (.leaf (43, .istore 4, 2)) (.leaf (45, .iload 4, 2)))))) (.branch 54 (.branch 51 (.branch 48 (.leaf (47, .iload_n 1, 1)) (.leaf (48, .if_icmp .lt 88, 3))) (.branch 52 (.leaf (51, .iconst 0, 1)) (.leaf (52, .istore 5, 2)))) (.branch 57 (.branch 56 (.leaf (54, .iload 5, 2)) (.leaf (56, .aload_n 0, 1))) (.branch 60 (.leaf (57, .getfield 109, 3)) (.branch 63 (.leaf (60, .if_icmp .ge 70, 3)) (.leaf (63, .aload_n 0, 1)))))))) (.branch 98 (.branch 81 (.branch 72 (.branch 69 (.branch 67 (.leaf (64, .getfield 11, 3)) (.leaf (67, .iload 5, 2))) (.branch 70 (.leaf (69, .iaload, 1)) (.leaf (70, .istore 6, 2)))) (.branch 76 (.branch 74 (.leaf (72, .ldc 86, 2)) (.leaf (74, .istore 7, 2))) (.branch 77 (.leaf (76, .iconst 0, 1)) (.branch 79 (.leaf (77, .istore 8, 2)) (.leaf (79, .iload 8, 2)))))) (.branch 88 (.branch 85 (.branch 82 (.leaf (81, .iconst 3, 1)) (.leaf (82, .if_icmp .ge 27, 3))) (.branch 87 (.leaf (85, .iload 7, 2)) (.leaf (87, .aload_n 0, 1)))) (.branch 92 (.branch 90 (.leaf (88, .iload 8, 2)) (.leaf (90, .iload 4, 2))) (.branch 94 (.leaf (92, .iload 6, 2)) (.branch 95 (.leaf (94, .iload_n 2, 1)) (.leaf (95, .invokevirtual 183, 3))))))) (.branch 118 (.branch 109 (.branch 103 (.branch 101 (.leaf (98, .invokestatic 168, 3)) (.leaf (101, .istore 7, 2))) (.branch 106 (.leaf (103, .iinc 8 1, 3)) (.leaf (106, .goto (-27), 3)))) (.branch 113 (.branch 110 (.leaf (109, .aload_n 0, 1)) (.leaf (110, .getfield 29, 3))) (.branch 115 (.leaf (113, .iload 4, 2)) (.branch 117 (.leaf (115, .bipush 120, 2)) (.leaf (117, .imul, 1)))))) (.branch 124 (.branch 121 (.branch 120 (.leaf (118, .iload 6, 2)) (.leaf (120, .iadd, 1))) (.branch 123 (.leaf (121, .iload 7, 2)) (.leaf (123, .iastore, 1)))) (.branch 130 (.branch 127 (.leaf (124, .iinc 5 1, 3)) (.leaf (127, .goto (-73), 3))) (.branch 133 (.leaf (130, .iinc 4 (-1), 3)) (.branch 136 (.leaf (133, .goto (-88), 3)) (.leaf (136, .return_, 1))))))))
def mc_19 : am_T := .branch 27 (.branch 13 (.branch 7 (.branch 4 (.branch 1 (.leaf (0, .aload_n 0, 1)) (.leaf (1, .getfield 29, 3))) (.branch 5 (.leaf (4, .iload_n 1, 1)) (.leaf (5, .bipush 120, 2)))) (.branch 9 (.branch 8 (.leaf (7, .imul, 1)) (.leaf (8, .iload_n 2, 1))) (.branch 10 (.leaf (9, .iadd, 1)) (.branch 11 (.leaf (10, .iaload, 1)) (.leaf (11, .istore 4, 2)))))) (.branch 19 (.branch 16 (.branch 14 (.leaf (13, .iconst 0, 1)) (.leaf (14, .istore 5, 2))) (.branch 18 (.leaf (16, .iload 5, 2)) (.leaf (18, .iconst 3, 1)))) (.branch 23 (.branch 22 (.leaf (19, .if_icmp .ge 39, 3)) (.leaf (22, .aload_n 0, 1))) (.branch 25 (.leaf (23, .iload 5, 2)) (.branch 26 (.leaf (25, .iload_n 1, 1)) (.leaf (26, .iload_n 2, 1))))))) (.branch 44 (.branch 36 (.branch 31 (.branch 28 (.leaf (27, .iload_n 3, 1)) (.leaf (28, .invokevirtual 183, 3))) (.branch 33 (.leaf (31, .iload 4, 2)) (.leaf (33, .if_icmp .ne 19, 3)))) (.branch 40 (.branch 37 (.leaf (36, .aload_n 0, 1)) (.leaf (37, .getfield 17, 3))) (.branch 42 (.leaf (40, .iload 5, 2)) (.branch 43 (.leaf (42, .aaload, 1)) (.leaf (43, .iload_n 2, 1)))))) (.branch 51 (.branch 46 (.branch 45 (.leaf (44, .iaload, 1)) (.leaf (45, .iconst (-1), 1))) (.branch 49 (.leaf (46, .if_icmp .eq 6, 3)) (.leaf (49, .iload 5, 2)))) (.branch 55 (.branch 52 (.leaf (51, .ireturn, 1)) (.leaf (52, .iinc 5 1, 3))) (.branch 58 (.leaf (55, .goto (-39), 3)) (.branch 59 (.leaf (58, .iconst 0, 1)) (.leaf (59, .ireturn, 1)))))))
def mc_20 : am_T := .branch 32 (.branch 15 (.branch 7 (.branch 4 (.branch 1 (.leaf (0, .aload_n 0, 1)) (.leaf (1, .getfield 17, 3))) (.branch 5 (.leaf (4, .iload_n 1, 1)) (.branch 6 (.leaf (5, .aaload, 1)) (.leaf (6, .iload_n 3, 1))))) (.branch 10 (.branch 8 (.leaf (7, .iaload, 1)) (.leaf (8, .istore 5, 2))) (.branch 11 (.leaf (10, .iload_n 2, 1)) (.branch 12 (.leaf (11, .aload_n 0, 1)) (.leaf (12, .getfield 20, 3)))))) (.branch 20 (.branch 17 (.branch 16 (.leaf (15, .iload_n 1, 1)) (.leaf (16, .aaload, 1))) (.branch 18 (.leaf (17, .iload_n 3, 1)) (.branch 19 (.leaf (18, .iaload, 1)) (.leaf (19, .iadd, 1))))) (.branch 25 (.branch 22 (.leaf (20, .istore 6, 2)) (.branch 24 (.leaf (22, .iload 5, 2)) (.leaf (24, .iconst (-1), 1)))) (.branch 28 (.leaf (25, .if_icmp .eq 10, 3)) (.branch 30 (.leaf (28, .iload 6, 2)) (.leaf (30, .iload 4, 2))))))) (.branch 48 (.branch 41 (.branch 37 (.branch 35 (.leaf (32, .if_icmp .le 6, 3)) (.leaf (35, .ldc 86, 2))) (.branch 38 (.leaf (37, .ireturn, 1)) (.branch 40 (.leaf (38, .ldc 86, 2)) (.leaf (40, .aload_n 0, 1))))) (.branch 45 (.branch 44 (.leaf (41, .getfield 23, 3)) (.leaf (44, .iload_n 1, 1))) (.branch 46 (.leaf (45, .aaload, 1)) (.branch 47 (.leaf (46, .iload_n 3, 1)) (.leaf (47, .iaload, 1)))))) (.branch 57 (.branch 52 (.branch 49 (.leaf (48, .aload_n 0, 1)) (.leaf (49, .getfield 29, 3))) (.branch 54 (.leaf (52, .iload 6, 2)) (.branch 56 (.leaf (54, .bipush 120, 2)) (.leaf (56, .imul, 1))))) (.branch 61 (.branch 59 (.leaf (57, .iload 5, 2)) (.branch 60 (.leaf (59, .iadd, 1)) (.leaf (60, .iaload, 1)))) (.branch 62 (.leaf (61, .iadd, 1)) (.branch 65 (.leaf (62, .invokestatic 168, 3)) (.leaf (65, .ireturn, 1)))))))
def mc_21 : am_T := .branch 4 (.branch 1 (.leaf (0, .iload_n 0, 1)) (.branch 3 (.leaf (1, .bipush 11, 2)) (.leaf (3, .irem, 1)))) (.branch 6 (.leaf (4, .bipush 120, 2)) (.branch 7 (.leaf (6, .imul, 1)) (.leaf (7, .ireturn, 1))))
def mc_22 : am_T := .branch 9 (.branch 4 (.branch 1 (.leaf (0, .aload_n 0, 1)) (.leaf (1, .invokespecial 3, 3))) (.branch 5 (.leaf (4, .aload_n 0, 1)) (.branch 6 (.leaf (5, .iconst (-1), 1)) (.leaf (6, .putfield 9, 3))))) (.branch 12 (.branch 10 (.leaf (9, .aload_n 0, 1)) (.leaf (10, .bipush 40, 2))) (.branch 14 (.leaf (12, .newarray .long, 2)) (.branch 17 (.leaf (14, .putfield 15, 3)) (.leaf (17, .return_, 1)))))
def mc_23 : am_T := .branch 8 (.branch 4 (.branch 1 (.leaf (0, .aload_n 0, 1)) (.leaf (1, .getfield 9, 3))) (.branch 5 (.leaf (4, .iconst (-1), 1)) (.leaf (5, .if_icmp .ne 7, 3)))) (.branch 12 (.branch 9 (.leaf (8, .iconst 1, 1)) (.leaf (9, .goto 4, 3))) (.branch 13 (.leaf (12, .iconst 0, 1)) (.leaf (13, .ireturn, 1))))
def mc_24 : am_T := .branch 9 (.branch 4 (.branch 1 (.leaf (0, .aload_n 0, 1)) (.leaf (1, .getfield 9, 3))) (.branch 6 (.leaf (4, .bipush 10, 2)) (.leaf (6, .if_icmp .lt 7, 3)))) (.branch 13 (.branch 10 (.leaf (9, .iconst 1, 1)) (.leaf (10, .goto 4, 3))) (.branch 14 (.leaf (13, .iconst 0, 1)) (.leaf (14, .ireturn, 1))))
def mc_25 : am_T := .branch 11 (.branch 4 (.branch 1 (.leaf (0, .aload_n 0, 1)) (.leaf (1, .getfield 9, 3))) (.branch 7 (.leaf (4, .ifCond .lt 15, 3)) (.branch 8 (.leaf (7, .aload_n 0, 1)) (.leaf (8, .getfield 9, 3))))) (.branch 16 (.branch 12 (.leaf (11, .iconst 5, 1)) (.branch 15 (.leaf (12, .if_icmp .ge 7, 3)) (.leaf (15, .iconst 1, 1)))) (.branch 19 (.leaf (16, .goto 4, 3)) (.branch 20 (.leaf (19, .iconst 0, 1)) (.leaf (20, .ireturn, 1)))))
def mc_26 : am_T := .branch 11 (.branch 4 (.branch 1 (.leaf (0, .aload_n 0, 1)) (.leaf (1, .invokevirtual 19, 3))) (.branch 7 (.leaf (4, .ifCond .eq 13, 3)) (.branch 8 (.leaf (7, .aload_n 0, 1)) (.leaf (8, .getfield 9, 3))))) (.branch 14 (.branch 13 (.leaf (11, .bipush 10, 2)) (.leaf (13, .isub, 1))) (.branch 17 (.leaf (14, .goto 4, 3)) (.branch 18 (.leaf (17, .iconst (-1), 1)) (.leaf (18, .ireturn, 1)))))
def mc_27 : am_T := .branch 5 (.branch 1 (.leaf (0, .aload_n 0, 1)) (.branch 2 (.leaf (1, .iconst (-1), 1)) (.leaf (2, .putfield 9, 3)))) (.branch 7 (.branch 6 (.leaf (5, .aload_n 0, 1)) (.leaf (6, .iconst 0, 1))) (.branch 10 (.leaf (7, .putfield 23, 3)) (.leaf (10, .return_, 1))))
def mc_28 : am_T := .branch 5 (.branch 3 (.branch 1 (.leaf (0, .aload_n 0, 1)) (.leaf (1, .bipush 10, 2))) (.branch 4 (.leaf (3, .iload_n 1, 1)) (.leaf (4, .iadd, 1)))) (.branch 9 (.branch 8 (.leaf (5, .putfield 9, 3)) (.leaf (8, .aload_n 0, 1))) (.branch 10 (.leaf (9, .iconst 0, 1)) (.branch 13 (.leaf (10, .putfield 23, 3)) (.leaf (13, .return_, 1)))))
def mc_29 : am_T := .branch 7 (.branch 2 (.branch 1 (.leaf (0, .aload_n 0, 1)) (.leaf (1, .iload_n 1, 1))) (.branch 5 (.leaf (2, .putfield 9, 3)) (.branch 6 (.leaf (5, .aload_n 0, 1)) (.leaf (6, .iload_n 2, 1))))) (.branch 14 (.branch 10 (.leaf (7, .putfield 23, 3)) (.branch 11 (.leaf (10, .aload_n 0, 1)) (.leaf (11, .getfield 15, 3)))) (.branch 15 (.leaf (14, .lconst 0, 1)) (.branch 18 (.leaf (15, .invokestatic 26, 3)) (.leaf (18, .return_, 1)))))
def mc_30 : am_T := .branch 17 (.branch 8 (.branch 4 (.branch 1 (.leaf (0, .iload_n 1, 1)) (.leaf (1, .ifCond .lt 29, 3))) (.branch 5 (.leaf (4, .iload_n 2, 1)) (.leaf (5, .ifCond .lt 25, 3)))) (.branch 10 (.branch 9 (.leaf (8, .iload_n 1, 1)) (.leaf (9, .aload_n 0, 1))) (.branch 13 (.leaf (10, .getfield 23, 3)) (.branch 16 (.leaf (13, .if_icmp .gt 17, 3)) (.leaf (16, .iload_n 2, 1)))))) (.branch 23 (.branch 21 (.branch 18 (.leaf (17, .aload_n 0, 1)) (.leaf (18, .getfield 23, 3))) (.branch 22 (.leaf (21, .iload_n 1, 1)) (.leaf (22, .isub, 1)))) (.branch 27 (.branch 26 (.leaf (23, .if_icmp .gt 7, 3)) (.leaf (26, .iconst 1, 1))) (.branch 30 (.leaf (27, .goto 4, 3)) (.branch 31 (.leaf (30, .iconst 0, 1)) (.leaf (31, .ireturn, 1))))))
def mc_31 : am_T := .branch 6 (.branch 4 (.branch 1 (.leaf (0, .aload_n 0, 1)) (.leaf (1, .getfield 15, 3))) (.branch 5 (.leaf (4, .iload_n 1, 1)) (.leaf (5, .aload_n 0, 1)))) (.branch 10 (.branch 7 (.leaf (6, .lload_n 2, 1)) (.leaf (7, .invokevirtual 32, 3))) (.branch 11 (.leaf (10, .lastore, 1)) (.leaf (11, .return_, 1))))
def mc_32 : am_T := .branch 50 (.branch 43 (.branch 40 (.branch 1 (.leaf (0, .aload_n 0, 1)) (.branch 4 (.leaf (1, .getfield 9, 3)) (.leaf (4, .tableswitch 62 0 4 #[36, 41, 46, 62, 50], 36)))) (.branch 41 (.leaf (40, .lload_n 1, 1)) (.branch 42 (.leaf (41, .l2i, 1)) (.leaf (42, .i2b, 1))))) (.branch 46 (.branch 44 (.leaf (43, .i2l, 1)) (.branch 45 (.leaf (44, .lreturn, 1)) (.leaf (45, .lload_n 1, 1)))) (.branch 48 (.branch 47 (.leaf (46, .l2i, 1)) (.leaf (47, .i2s, 1))) (.branch 49 (.leaf (48, .i2l, 1)) (.leaf (49, .lreturn, 1)))))) (.branch 57 (.branch 53 (.branch 51 (.leaf (50, .lload_n 1, 1)) (.branch 52 (.leaf (51, .l2i, 1)) (.leaf (52, .i2l, 1)))) (.branch 55 (.branch 54 (.leaf (53, .lreturn, 1)) (.leaf (54, .lload_n 1, 1))) (.branch 56 (.leaf (55, .lconst 0, 1)) (.leaf (56, .lcmp, 1))))) (.branch 64 (.branch 60 (.leaf (57, .ifCond .eq 7, 3)) (.branch 61 (.leaf (60, .lconst 1, 1)) (.leaf (61, .goto 4, 3)))) (.branch 66 (.branch 65 (.leaf (64, .lconst 0, 1)) (.leaf (65, .lreturn, 1))) (.branch 67 (.leaf (66, .lload_n 1, 1)) (.leaf (67, .lreturn, 1))))))
def mc_33 : am_T := .branch 14 (.branch 5 (.branch 1 (.leaf (0, .aload_n 0, 1)) (.branch 4 (.leaf (1, .invokespecial 3, 3)) (.leaf (4, .aload_n 0, 1)))) (.branch 10 (.branch 8 (.leaf (5, .sipush 250, 3)) (.leaf (8, .newarray .int, 2))) (.branch 13 (.leaf (10, .putfield 9, 3)) (.leaf (13, .aload_n 0, 1))))) (.branch 24 (.branch 18 (.branch 17 (.leaf (14, .new 15, 3)) (.leaf (17, .dup, 1))) (.branch 21 (.leaf (18, .invokespecial 17, 3)) (.leaf (21, .putfield 18, 3)))) (.branch 26 (.branch 25 (.leaf (24, .aload_n 0, 1)) (.leaf (25, .iconst (-1), 1))) (.branch 29 (.leaf (26, .putfield 22, 3)) (.leaf (29, .return_, 1)))))
def mc_34 : am_T := .branch 41 (.branch 19 (.branch 9 (.branch 4 (.branch 1 (.leaf (0, .aload_n 0, 1)) (.leaf (1, .getfield 18, 3))) (.branch 5 (.leaf (4, .aload_n 1, 1)) (.branch 8 (.leaf (5, .invokevirtual 26, 3)) (.leaf (8, .aload_n 0, 1))))) (.branch 14 (.branch 10 (.leaf (9, .iconst (-1), 1)) (.branch 13 (.leaf (10, .putfield 22, 3)) (.leaf (13, .aload_n 0, 1)))) (.branch 15 (.leaf (14, .iconst 0, 1)) (.branch 18 (.leaf (15, .putfield 30, 3)) (.leaf (18, .aload_n 0, 1)))))) (.branch 29 (.branch 24 (.branch 22 (.leaf (19, .invokevirtual 33, 3)) (.branch 23 (.leaf (22, .iconst 0, 1)) (.leaf (23, .istore_n 2, 1)))) (.branch 25 (.leaf (24, .iload_n 2, 1)) (.branch 26 (.leaf (25, .aload_n 0, 1)) (.leaf (26, .getfield 36, 3))))) (.branch 36 (.branch 32 (.leaf (29, .if_icmp .gt 54, 3)) (.branch 33 (.leaf (32, .aload_n 0, 1)) (.leaf (33, .invokevirtual 39, 3)))) (.branch 37 (.leaf (36, .aload_n 0, 1)) (.branch 40 (.leaf (37, .getfield 22, 3)) (.leaf (40, .iconst (-1), 1))))))) (.branch 63 (.branch 53 (.branch 46 (.branch 44 (.leaf (41, .if_icmp .eq 5, 3)) (.branch 45 (.leaf (44, .iload_n 2, 1)) (.leaf (45, .ireturn, 1)))) (.branch 49 (.leaf (46, .iinc 2 1, 3)) (.branch 50 (.leaf (49, .aload_n 0, 1)) (.leaf (50, .getfield 42, 3))))) (.branch 58 (.branch 56 (.leaf (53, .ifCond .ne 5, 3)) (.branch 57 (.leaf (56, .iload_n 2, 1)) (.leaf (57, .ireturn, 1)))) (.branch 59 (.leaf (58, .aload_n 0, 1)) (.branch 62 (.leaf (59, .getfield 42, 3)) (.leaf (62, .iconst 3, 1)))))) (.branch 75 (.branch 68 (.branch 66 (.leaf (63, .if_icmp .eq 13, 3)) (.branch 67 (.leaf (66, .aload_n 0, 1)) (.leaf (67, .aload_n 0, 1)))) (.branch 71 (.leaf (68, .getfield 45, 3)) (.branch 74 (.leaf (71, .putfield 22, 3)) (.leaf (74, .iload_n 2, 1))))) (.branch 80 (.branch 76 (.leaf (75, .ireturn, 1)) (.branch 77 (.leaf (76, .aload_n 0, 1)) (.leaf (77, .invokevirtual 33, 3)))) (.branch 83 (.leaf (80, .goto (-56), 3)) (.branch 84 (.leaf (83, .iload_n 2, 1)) (.leaf (84, .ireturn, 1)))))))
def mc_35 : am_T := .branch 45 (.branch 22 (.branch 10 (.branch 3 (.branch 1 (.leaf (0, .aload_n 0, 1)) (.leaf (1, .ldc 48, 2))) (.branch 6 (.leaf (3, .invokevirtual 50, 3)) (.branch 9 (.leaf (6, .ifCond .eq 10, 3)) (.leaf (9, .aload_n 0, 1))))) (.branch 16 (.branch 13 (.leaf (10, .invokevirtual 54, 3)) (.leaf (13, .goto 75, 3))) (.branch 17 (.leaf (16, .aload_n 0, 1)) (.branch 19 (.leaf (17, .ldc 57, 2)) (.leaf (19, .invokevirtual 50, 3)))))) (.branch 33 (.branch 26 (.branch 25 (.leaf (22, .ifCond .eq 10, 3)) (.leaf (25, .aload_n 0, 1))) (.branch 29 (.leaf (26, .invokevirtual 59, 3)) (.branch 32 (.leaf (29, .goto 59, 3)) (.leaf (32, .aload_n 0, 1))))) (.branch 38 (.branch 35 (.leaf (33, .ldc 62, 2)) (.leaf (35, .invokevirtual 50, 3))) (.branch 41 (.leaf (38, .ifCond .eq 10, 3)) (.branch 42 (.leaf (41, .aload_n 0, 1)) (.leaf (42, .invokevirtual 64, 3))))))) (.branch 67 (.branch 57 (.branch 49 (.branch 48 (.leaf (45, .goto 43, 3)) (.leaf (48, .aload_n 0, 1))) (.branch 51 (.leaf (49, .ldc 67, 2)) (.branch 54 (.leaf (51, .invokevirtual 50, 3)) (.leaf (54, .ifCond .eq 10, 3))))) (.branch 61 (.branch 58 (.leaf (57, .aload_n 0, 1)) (.leaf (58, .invokevirtual 69, 3))) (.branch 64 (.leaf (61, .goto 27, 3)) (.branch 65 (.leaf (64, .aload_n 0, 1)) (.leaf (65, .ldc 72, 2)))))) (.branch 80 (.branch 73 (.branch 70 (.leaf (67, .invokevirtual 50, 3)) (.leaf (70, .ifCond .eq 10, 3))) (.branch 74 (.leaf (73, .aload_n 0, 1)) (.branch 77 (.leaf (74, .invokevirtual 74, 3)) (.leaf (77, .goto 11, 3))))) (.branch 82 (.branch 81 (.leaf (80, .aload_n 0, 1)) (.leaf (81, .aload_n 0, 1))) (.branch 85 (.leaf (82, .getfield 45, 3)) (.branch 88 (.leaf (85, .putfield 22, 3)) (.leaf (88, .return_, 1)))))))
def mc_36 : am_T := .branch 24 (.branch 12 (.branch 7 (.branch 1 (.leaf (0, .aload_n 0, 1)) (.branch 4 (.leaf (1, .getfield 18, 3)) (.leaf (4, .getfield 77, 3)))) (.branch 10 (.leaf (7, .ifCond .le 12, 3)) (.branch 11 (.leaf (10, .aload_n 0, 1)) (.leaf (11, .aload_n 0, 1))))) (.branch 19 (.branch 15 (.leaf (12, .getfield 45, 3)) (.branch 18 (.leaf (15, .putfield 22, 3)) (.leaf (18, .return_, 1)))) (.branch 20 (.leaf (19, .aload_n 0, 1)) (.branch 23 (.leaf (20, .invokevirtual 33, 3)) (.leaf (23, .aload_n 0, 1)))))) (.branch 35 (.branch 30 (.branch 25 (.leaf (24, .iconst 2, 1)) (.branch 27 (.leaf (25, .bipush 6, 2)) (.leaf (27, .invokevirtual 80, 3)))) (.branch 31 (.leaf (30, .istore_n 1, 1)) (.branch 32 (.leaf (31, .aload_n 0, 1)) (.leaf (32, .getfield 22, 3))))) (.branch 40 (.branch 36 (.leaf (35, .iconst (-1), 1)) (.branch 39 (.leaf (36, .if_icmp .ne 11, 3)) (.leaf (39, .aload_n 0, 1)))) (.branch 44 (.branch 43 (.leaf (40, .getfield 18, 3)) (.leaf (43, .iload_n 1, 1))) (.branch 47 (.leaf (44, .putfield 84, 3)) (.leaf (47, .return_, 1))))))
def mc_37 : am_T := .branch 37 (.branch 18 (.branch 9 (.branch 4 (.branch 1 (.leaf (0, .aload_n 0, 1)) (.leaf (1, .invokevirtual 33, 3))) (.branch 5 (.leaf (4, .aload_n 0, 1)) (.branch 8 (.leaf (5, .getfield 45, 3)) (.leaf (8, .istore_n 1, 1))))) (.branch 11 (.branch 10 (.leaf (9, .aload_n 0, 1)) (.leaf (10, .iconst 0, 1))) (.branch 12 (.leaf (11, .aload_n 0, 1)) (.branch 15 (.leaf (12, .getfield 18, 3)) (.leaf (15, .getfield 84, 3)))))) (.branch 25 (.branch 20 (.branch 19 (.leaf (18, .iconst 1, 1)) (.leaf (19, .isub, 1))) (.branch 23 (.leaf (20, .invokevirtual 80, 3)) (.branch 24 (.leaf (23, .istore_n 2, 1)) (.leaf (24, .aload_n 0, 1))))) (.branch 32 (.branch 28 (.leaf (25, .getfield 22, 3)) (.branch 29 (.leaf (28, .iconst (-1), 1)) (.leaf (29, .if_icmp .ne 19, 3)))) (.branch 33 (.leaf (32, .aload_n 0, 1)) (.branch 36 (.leaf (33, .getfield 18, 3)) (.leaf (36, .iload_n 2, 1))))))) (.branch 56 (.branch 48 (.branch 43 (.branch 40 (.leaf (37, .invokevirtual 87, 3)) (.leaf (40, .ifCond .eq 8, 3))) (.branch 44 (.leaf (43, .aload_n 0, 1)) (.branch 45 (.leaf (44, .iload_n 1, 1)) (.leaf (45, .putfield 22, 3))))) (.branch 50 (.branch 49 (.leaf (48, .aload_n 0, 1)) (.leaf (49, .iconst 2, 1))) (.branch 52 (.leaf (50, .bipush 20, 2)) (.branch 55 (.leaf (52, .invokevirtual 80, 3)) (.leaf (55, .istore_n 3, 1)))))) (.branch 65 (.branch 60 (.branch 57 (.leaf (56, .aload_n 0, 1)) (.leaf (57, .getfield 22, 3))) (.branch 61 (.leaf (60, .iconst (-1), 1)) (.branch 64 (.leaf (61, .if_icmp .ne 13, 3)) (.leaf (64, .aload_n 0, 1))))) (.branch 72 (.branch 68 (.leaf (65, .getfield 18, 3)) (.branch 71 (.leaf (68, .getfield 91, 3)) (.leaf (71, .iload_n 2, 1)))) (.branch 73 (.leaf (72, .iload_n 3, 1)) (.branch 74 (.leaf (73, .iastore, 1)) (.leaf (74, .return_, 1)))))))
def mc_38 : am_T := .branch 21 (.branch 10 (.branch 5 (.branch 1 (.leaf (0, .aload_n 0, 1)) (.branch 4 (.leaf (1, .invokevirtual 33, 3)) (.leaf (4, .aload_n 0, 1)))) (.branch 6 (.leaf (5, .iconst 0, 1)) (.branch 7 (.leaf (6, .aload_n 0, 1)) (.leaf (7, .getfield 18, 3))))) (.branch 15 (.branch 13 (.leaf (10, .getfield 84, 3)) (.branch 14 (.leaf (13, .iconst 2, 1)) (.leaf (14, .isub, 1)))) (.branch 19 (.branch 18 (.leaf (15, .invokevirtual 80, 3)) (.leaf (18, .istore_n 1, 1))) (.branch 20 (.leaf (19, .aload_n 0, 1)) (.leaf (20, .iconst 1, 1)))))) (.branch 35 (.branch 27 (.branch 23 (.leaf (21, .bipush 9, 2)) (.branch 26 (.leaf (23, .invokevirtual 80, 3)) (.leaf (26, .istore_n 2, 1)))) (.branch 31 (.branch 28 (.leaf (27, .aload_n 0, 1)) (.leaf (28, .getfield 22, 3))) (.branch 32 (.leaf (31, .iconst (-1), 1)) (.leaf (32, .if_icmp .ne 13, 3))))) (.branch 42 (.branch 36 (.leaf (35, .aload_n 0, 1)) (.branch 39 (.leaf (36, .getfield 18, 3)) (.leaf (39, .getfield 94, 3)))) (.branch 44 (.branch 43 (.leaf (42, .iload_n 1, 1)) (.leaf (43, .iload_n 2, 1))) (.branch 45 (.leaf (44, .iastore, 1)) (.leaf (45, .return_, 1))))))
def mc_39 : am_T := .branch 56 (.branch 30 (.branch 18 (.branch 10 (.branch 4 (.branch 1 (.leaf (0, .aload_n 0, 1)) (.leaf (1, .getfield 18, 3))) (.branch 7 (.leaf (4, .invokevirtual 97, 3)) (.leaf (7, .ifCond .eq 12, 3)))) (.branch 12 (.branch 11 (.leaf (10, .aload_n 0, 1)) (.leaf (11, .aload_n 0, 1))) (.branch 15 (.leaf (12, .getfield 45, 3)) (.leaf (15, .putfield 22, 3))))) (.branch 24 (.branch 20 (.branch 19 (.leaf (18, .return_, 1)) (.leaf (19, .aload_n 0, 1))) (.branch 23 (.leaf (20, .invokevirtual 33, 3)) (.leaf (23, .aload_n 0, 1)))) (.branch 26 (.branch 25 (.leaf (24, .iconst 0, 1)) (.leaf (25, .iconst 5, 1))) (.branch 29 (.leaf (26, .invokevirtual 80, 3)) (.leaf (29, .istore_n 1, 1)))))) (.branch 44 (.branch 36 (.branch 32 (.branch 31 (.leaf (30, .aload_n 0, 1)) (.leaf (31, .iconst 0, 1))) (.branch 33 (.leaf (32, .aload_n 0, 1)) (.leaf (33, .getfield 18, 3)))) (.branch 40 (.branch 39 (.leaf (36, .getfield 84, 3)) (.leaf (39, .iconst 1, 1))) (.branch 41 (.leaf (40, .isub, 1)) (.leaf (41, .invokevirtual 80, 3))))) (.branch 48 (.branch 46 (.branch 45 (.leaf (44, .istore_n 2, 1)) (.leaf (45, .aload_n 0, 1))) (.branch 47 (.leaf (46, .iconst 0, 1)) (.leaf (47, .aload_n 0, 1)))) (.branch 52 (.branch 51 (.leaf (48, .getfield 18, 3)) (.leaf (51, .iload_n 2, 1))) (.branch 55 (.leaf (52, .invokevirtual 101, 3)) (.leaf (55, .iconst 1, 1))))))) (.branch 86 (.branch 69 (.branch 62 (.branch 60 (.branch 57 (.leaf (56, .isub, 1)) (.leaf (57, .invokevirtual 80, 3))) (.branch 61 (.leaf (60, .istore_n 3, 1)) (.leaf (61, .iconst 0, 1)))) (.branch 65 (.branch 64 (.leaf (62, .istore 4, 2)) (.leaf (64, .aload_n 0, 1))) (.branch 68 (.leaf (65, .getfield 22, 3)) (.leaf (68, .iconst (-1), 1))))) (.branch 78 (.branch 73 (.branch 72 (.leaf (69, .if_icmp .ne 25, 3)) (.leaf (72, .aload_n 0, 1))) (.branch 75 (.leaf (73, .ldc 104, 2)) (.leaf (75, .invokevirtual 50, 3)))) (.branch 82 (.branch 81 (.leaf (78, .ifCond .eq 16, 3)) (.leaf (81, .aload_n 0, 1))) (.branch 85 (.leaf (82, .invokevirtual 33, 3)) (.leaf (85, .aload_n 0, 1)))))) (.branch 102 (.branch 94 (.branch 89 (.branch 87 (.leaf (86, .iconst 0, 1)) (.leaf (87, .bipush 99, 2))) (.branch 92 (.leaf (89, .invokevirtual 80, 3)) (.leaf (92, .istore 4, 2)))) (.branch 98 (.branch 95 (.leaf (94, .aload_n 0, 1)) (.leaf (95, .getfield 22, 3))) (.branch 99 (.leaf (98, .iconst (-1), 1)) (.leaf (99, .if_icmp .ne 16, 3))))) (.branch 108 (.branch 106 (.branch 103 (.leaf (102, .aload_n 0, 1)) (.leaf (103, .getfield 18, 3))) (.branch 107 (.leaf (106, .iload_n 1, 1)) (.leaf (107, .iload_n 2, 1)))) (.branch 111 (.branch 109 (.leaf (108, .iload_n 3, 1)) (.leaf (109, .iload 4, 2))) (.branch 114 (.leaf (111, .invokevirtual 106, 3)) (.branch 115 (.leaf (114, .pop, 1)) (.leaf (115, .return_, 1))))))))
def mc_40 : am_T := .branch 13 (.branch 6 (.branch 4 (.branch 1 (.leaf (0, .aload_n 0, 1)) (.leaf (1, .invokevirtual 33, 3))) (.branch 5 (.leaf (4, .aload_n 0, 1)) (.leaf (5, .iconst 1, 1)))) (.branch 11 (.branch 8 (.leaf (6, .bipush 60, 2)) (.leaf (8, .invokevirtual 80, 3))) (.branch 12 (.leaf (11, .istore_n 1, 1)) (.leaf (12, .aload_n 0, 1))))) (.branch 21 (.branch 17 (.branch 16 (.leaf (13, .getfield 22, 3)) (.leaf (16, .iconst (-1), 1))) (.branch 20 (.leaf (17, .if_icmp .ne 12, 3)) (.leaf (20, .aload_n 0, 1)))) (.branch 25 (.branch 24 (.leaf (21, .getfield 18, 3)) (.leaf (24, .iload_n 1, 1))) (.branch 28 (.leaf (25, .invokevirtual 110, 3)) (.branch 29 (.leaf (28, .pop, 1)) (.leaf (29, .return_, 1))))))
def mc_41 : am_T := .branch 35 (.branch 15 (.branch 8 (.branch 4 (.branch 1 (.leaf (0, .aload_n 0, 1)) (.leaf (1, .getfield 22, 3))) (.branch 5 (.leaf (4, .iconst (-1), 1)) (.leaf (5, .if_icmp .eq 5, 3)))) (.branch 10 (.branch 9 (.leaf (8, .iconst (-1), 1)) (.leaf (9, .ireturn, 1))) (.branch 11 (.leaf (10, .aload_n 0, 1)) (.branch 14 (.leaf (11, .getfield 42, 3)) (.leaf (14, .iconst 2, 1)))))) (.branch 26 (.branch 19 (.branch 18 (.leaf (15, .if_icmp .ne 23, 3)) (.leaf (18, .aload_n 0, 1))) (.branch 22 (.leaf (19, .getfield 30, 3)) (.branch 23 (.leaf (22, .aload_n 0, 1)) (.leaf (23, .getfield 45, 3))))) (.branch 28 (.branch 27 (.leaf (26, .isub, 1)) (.leaf (27, .iconst 2, 1))) (.branch 31 (.leaf (28, .if_icmp .gt 10, 3)) (.branch 32 (.leaf (31, .aload_n 0, 1)) (.leaf (32, .invokevirtual 113, 3))))))) (.branch 50 (.branch 41 (.branch 39 (.branch 38 (.leaf (35, .goto 4, 3)) (.leaf (38, .iconst (-1), 1))) (.branch 40 (.leaf (39, .istore_n 3, 1)) (.leaf (40, .iload_n 3, 1)))) (.branch 45 (.branch 42 (.leaf (41, .iload_n 1, 1)) (.leaf (42, .if_icmp .lt 8, 3))) (.branch 46 (.leaf (45, .iload_n 3, 1)) (.branch 47 (.leaf (46, .iload_n 2, 1)) (.leaf (47, .if_icmp .le 13, 3)))))) (.branch 59 (.branch 52 (.branch 51 (.leaf (50, .aload_n 0, 1)) (.leaf (51, .aload_n 0, 1))) (.branch 55 (.leaf (52, .getfield 45, 3)) (.branch 58 (.leaf (55, .putfield 22, 3)) (.leaf (58, .iconst (-1), 1))))) (.branch 61 (.branch 60 (.leaf (59, .ireturn, 1)) (.leaf (60, .aload_n 0, 1))) (.branch 64 (.leaf (61, .invokevirtual 33, 3)) (.branch 65 (.leaf (64, .iload_n 3, 1)) (.leaf (65, .ireturn, 1)))))))
def mc_42 : am_T := .branch 24 (.branch 9 (.branch 3 (.branch 1 (.leaf (0, .iconst 0, 1)) (.branch 2 (.leaf (1, .istore_n 1, 1)) (.leaf (2, .aload_n 0, 1)))) (.branch 7 (.branch 6 (.leaf (3, .getfield 45, 3)) (.leaf (6, .istore_n 2, 1))) (.branch 8 (.leaf (7, .iload_n 2, 1)) (.leaf (8, .aload_n 0, 1))))) (.branch 16 (.branch 12 (.leaf (9, .getfield 30, 3)) (.branch 15 (.leaf (12, .if_icmp .ge 32, 3)) (.leaf (15, .iload_n 2, 1)))) (.branch 20 (.branch 17 (.leaf (16, .aload_n 0, 1)) (.leaf (17, .getfield 36, 3))) (.branch 23 (.leaf (20, .if_icmp .ge 24, 3)) (.leaf (23, .iload_n 1, 1)))))) (.branch 34 (.branch 28 (.branch 26 (.leaf (24, .bipush 10, 2)) (.branch 27 (.leaf (26, .imul, 1)) (.leaf (27, .aload_n 0, 1)))) (.branch 32 (.branch 31 (.leaf (28, .getfield 9, 3)) (.leaf (31, .iload_n 2, 1))) (.branch 33 (.leaf (32, .iaload, 1)) (.leaf (33, .iadd, 1))))) (.branch 38 (.branch 36 (.leaf (34, .bipush 48, 2)) (.branch 37 (.leaf (36, .isub, 1)) (.leaf (37, .istore_n 1, 1)))) (.branch 44 (.branch 41 (.leaf (38, .iinc 2 1, 3)) (.leaf (41, .goto (-34), 3))) (.branch 45 (.leaf (44, .iload_n 1, 1)) (.leaf (45, .ireturn, 1))))))
def mc_43 : am_T := .branch 40 (.branch 21 (.branch 9 (.branch 4 (.branch 1 (.leaf (0, .aload_n 0, 1)) (.leaf (1, .getfield 42, 3))) (.branch 5 (.leaf (4, .iconst 1, 1)) (.branch 8 (.leaf (5, .if_icmp .ne 19, 3)) (.leaf (8, .aload_n 0, 1))))) (.branch 16 (.branch 12 (.leaf (9, .getfield 30, 3)) (.branch 13 (.leaf (12, .aload_n 0, 1)) (.leaf (13, .getfield 45, 3)))) (.branch 17 (.leaf (16, .isub, 1)) (.branch 18 (.leaf (17, .aload_n 1, 1)) (.leaf (18, .invokevirtual 117, 3)))))) (.branch 28 (.branch 25 (.branch 24 (.leaf (21, .if_icmp .eq 5, 3)) (.leaf (24, .iconst 0, 1))) (.branch 26 (.leaf (25, .ireturn, 1)) (.branch 27 (.leaf (26, .iconst 0, 1)) (.leaf (27, .istore_n 2, 1))))) (.branch 33 (.branch 29 (.leaf (28, .iload_n 2, 1)) (.branch 30 (.leaf (29, .aload_n 1, 1)) (.leaf (30, .invokevirtual 117, 3)))) (.branch 36 (.leaf (33, .if_icmp .ge 43, 3)) (.branch 37 (.leaf (36, .aload_n 0, 1)) (.leaf (37, .getfield 45, 3))))))) (.branch 59 (.branch 49 (.branch 42 (.branch 41 (.leaf (40, .iload_n 2, 1)) (.leaf (41, .iadd, 1))) (.branch 43 (.leaf (42, .aload_n 0, 1)) (.branch 46 (.leaf (43, .getfield 36, 3)) (.leaf (46, .if_icmp .ge 30, 3))))) (.branch 54 (.branch 50 (.leaf (49, .aload_n 0, 1)) (.branch 53 (.leaf (50, .getfield 9, 3)) (.leaf (53, .aload_n 0, 1)))) (.branch 57 (.leaf (54, .getfield 45, 3)) (.branch 58 (.leaf (57, .iload_n 2, 1)) (.leaf (58, .iadd, 1)))))) (.branch 68 (.branch 61 (.branch 60 (.leaf (59, .iaload, 1)) (.leaf (60, .aload_n 1, 1))) (.branch 62 (.leaf (61, .iload_n 2, 1)) (.branch 65 (.leaf (62, .invokevirtual 122, 3)) (.leaf (65, .if_icmp .eq 5, 3))))) (.branch 73 (.branch 69 (.leaf (68, .iconst 0, 1)) (.branch 70 (.leaf (69, .ireturn, 1)) (.leaf (70, .iinc 2 1, 3)))) (.branch 76 (.leaf (73, .goto (-45), 3)) (.branch 77 (.leaf (76, .iconst 1, 1)) (.leaf (77, .ireturn, 1)))))))
def mc_44 : am_T := .branch 53 (.branch 27 (.branch 13 (.branch 5 (.branch 1 (.leaf (0, .aload_n 0, 1)) (.branch 4 (.leaf (1, .getfield 30, 3)) (.leaf (4, .istore_n 1, 1)))) (.branch 7 (.branch 6 (.leaf (5, .iload_n 1, 1)) (.leaf (6, .aload_n 0, 1))) (.branch 10 (.leaf (7, .getfield 36, 3)) (.leaf (10, .if_icmp .ge 20, 3))))) (.branch 18 (.branch 14 (.leaf (13, .aload_n 0, 1)) (.branch 17 (.leaf (14, .getfield 9, 3)) (.leaf (17, .iload_n 1, 1)))) (.branch 21 (.branch 19 (.leaf (18, .iaload, 1)) (.leaf (19, .bipush 32, 2))) (.branch 24 (.leaf (21, .if_icmp .ne 9, 3)) (.leaf (24, .iinc 1 1, 3)))))) (.branch 38 (.branch 32 (.branch 30 (.leaf (27, .goto (-22), 3)) (.branch 31 (.leaf (30, .aload_n 0, 1)) (.leaf (31, .iload_n 1, 1)))) (.branch 36 (.branch 35 (.leaf (32, .putfield 45, 3)) (.leaf (35, .aload_n 0, 1))) (.branch 37 (.leaf (36, .aload_n 0, 1)) (.leaf (37, .iload_n 1, 1))))) (.branch 45 (.branch 41 (.leaf (38, .invokevirtual 126, 3)) (.branch 44 (.leaf (41, .putfield 42, 3)) (.leaf (44, .aload_n 0, 1)))) (.branch 49 (.branch 48 (.leaf (45, .getfield 42, 3)) (.leaf (48, .iconst 1, 1))) (.branch 52 (.leaf (49, .if_icmp .eq 11, 3)) (.leaf (52, .aload_n 0, 1))))))) (.branch 81 (.branch 66 (.branch 60 (.branch 56 (.leaf (53, .getfield 42, 3)) (.branch 57 (.leaf (56, .iconst 2, 1)) (.leaf (57, .if_icmp .ne 7, 3)))) (.branch 64 (.branch 61 (.leaf (60, .iconst 1, 1)) (.leaf (61, .goto 4, 3))) (.branch 65 (.leaf (64, .iconst 0, 1)) (.leaf (65, .istore_n 2, 1))))) (.branch 73 (.branch 69 (.leaf (66, .iinc 1 1, 3)) (.branch 70 (.leaf (69, .iload_n 2, 1)) (.leaf (70, .ifCond .eq 29, 3)))) (.branch 75 (.branch 74 (.leaf (73, .iload_n 1, 1)) (.leaf (74, .aload_n 0, 1))) (.branch 78 (.leaf (75, .getfield 36, 3)) (.leaf (78, .if_icmp .ge 21, 3)))))) (.branch 96 (.branch 86 (.branch 82 (.leaf (81, .aload_n 0, 1)) (.branch 83 (.leaf (82, .iload_n 1, 1)) (.leaf (83, .invokevirtual 126, 3)))) (.branch 90 (.branch 87 (.leaf (86, .aload_n 0, 1)) (.leaf (87, .getfield 42, 3))) (.branch 93 (.leaf (90, .if_icmp .ne 9, 3)) (.leaf (93, .iinc 1 1, 3))))) (.branch 102 (.branch 100 (.branch 99 (.leaf (96, .goto (-27), 3)) (.leaf (99, .aload_n 0, 1))) (.branch 101 (.leaf (100, .iload_n 1, 1)) (.leaf (101, .aload_n 0, 1)))) (.branch 108 (.branch 105 (.leaf (102, .getfield 36, 3)) (.leaf (105, .invokestatic 129, 3))) (.branch 111 (.leaf (108, .putfield 30, 3)) (.leaf (111, .return_, 1)))))))
def mc_45 : am_T := .branch 30 (.branch 15 (.branch 6 (.branch 4 (.branch 1 (.leaf (0, .iload_n 1, 1)) (.leaf (1, .ifCond .lt 11, 3))) (.branch 5 (.leaf (4, .iload_n 1, 1)) (.leaf (5, .aload_n 0, 1)))) (.branch 12 (.branch 9 (.leaf (6, .getfield 36, 3)) (.leaf (9, .if_icmp .lt 5, 3))) (.branch 13 (.leaf (12, .iconst 0, 1)) (.branch 14 (.leaf (13, .ireturn, 1)) (.leaf (14, .aload_n 0, 1)))))) (.branch 21 (.branch 19 (.branch 18 (.leaf (15, .getfield 9, 3)) (.leaf (18, .iload_n 1, 1))) (.branch 20 (.leaf (19, .iaload, 1)) (.leaf (20, .istore_n 2, 1)))) (.branch 24 (.branch 22 (.leaf (21, .iload_n 2, 1)) (.leaf (22, .bipush 97, 2))) (.branch 27 (.leaf (24, .if_icmp .lt 11, 3)) (.branch 28 (.leaf (27, .iload_n 2, 1)) (.leaf (28, .bipush 122, 2))))))) (.branch 47 (.branch 36 (.branch 34 (.branch 33 (.leaf (30, .if_icmp .gt 5, 3)) (.leaf (33, .iconst 1, 1))) (.branch 35 (.leaf (34, .ireturn, 1)) (.leaf (35, .iload_n 2, 1)))) (.branch 41 (.branch 38 (.leaf (36, .bipush 48, 2)) (.leaf (38, .if_icmp .lt 11, 3))) (.branch 42 (.leaf (41, .iload_n 2, 1)) (.branch 44 (.leaf (42, .bipush 57, 2)) (.leaf (44, .if_icmp .gt 5, 3)))))) (.branch 52 (.branch 49 (.branch 48 (.leaf (47, .iconst 2, 1)) (.leaf (48, .ireturn, 1))) (.branch 50 (.leaf (49, .iload_n 2, 1)) (.leaf (50, .bipush 59, 2)))) (.branch 56 (.branch 55 (.leaf (52, .if_icmp .ne 7, 3)) (.leaf (55, .iconst 3, 1))) (.branch 59 (.leaf (56, .goto 4, 3)) (.branch 60 (.leaf (59, .iconst 4, 1)) (.leaf (60, .ireturn, 1)))))))
def mc_46 : am_T := .branch 1 (.leaf (0, .aload_n 0, 1)) (.branch 4 (.leaf (1, .invokespecial 3, 3)) (.leaf (4, .return_, 1)))
def mc_47 : am_T := .branch 18 (.branch 9 (.branch 2 (.branch 1 (.leaf (0, .aload_n 0, 1)) (.leaf (1, .aload_n 1, 1))) (.branch 5 (.leaf (2, .getfield 9, 3)) (.branch 8 (.leaf (5, .putfield 9, 3)) (.leaf (8, .aload_n 0, 1))))) (.branch 13 (.branch 10 (.leaf (9, .aload_n 1, 1)) (.leaf (10, .getfield 15, 3))) (.branch 16 (.leaf (13, .putfield 15, 3)) (.branch 17 (.leaf (16, .aload_n 0, 1)) (.leaf (17, .aload_n 1, 1)))))) (.branch 29 (.branch 24 (.branch 21 (.leaf (18, .getfield 18, 3)) (.leaf (21, .putfield 18, 3))) (.branch 25 (.leaf (24, .aload_n 0, 1)) (.branch 26 (.leaf (25, .aload_n 1, 1)) (.leaf (26, .getfield 21, 3))))) (.branch 34 (.branch 32 (.leaf (29, .putfield 21, 3)) (.branch 33 (.leaf (32, .aload_n 0, 1)) (.leaf (33, .aload_n 1, 1)))) (.branch 37 (.leaf (34, .getfield 24, 3)) (.branch 40 (.leaf (37, .putfield 24, 3)) (.leaf (40, .return_, 1))))))
def mc_48 : am_T := .branch 22 (.branch 11 (.branch 4 (.branch 1 (.leaf (0, .aload_n 0, 1)) (.leaf (1, .getfield 24, 3))) (.branch 7 (.leaf (4, .ifCond .ne 36, 3)) (.branch 8 (.leaf (7, .aload_n 1, 1)) (.leaf (8, .getfield 24, 3))))) (.branch 15 (.branch 14 (.leaf (11, .ifCond .ne 29, 3)) (.leaf (14, .aload_n 0, 1))) (.branch 18 (.leaf (15, .getfield 15, 3)) (.branch 19 (.leaf (18, .aload_n 1, 1)) (.leaf (19, .getfield 15, 3)))))) (.branch 33 (.branch 26 (.branch 25 (.leaf (22, .if_icmp .ne 18, 3)) (.leaf (25, .aload_n 0, 1))) (.branch 29 (.leaf (26, .getfield 18, 3)) (.branch 30 (.leaf (29, .aload_n 1, 1)) (.leaf (30, .getfield 18, 3))))) (.branch 37 (.branch 36 (.leaf (33, .if_icmp .ne 7, 3)) (.leaf (36, .iconst 1, 1))) (.branch 40 (.leaf (37, .goto 4, 3)) (.branch 41 (.leaf (40, .iconst 0, 1)) (.leaf (41, .ireturn, 1))))))
def mc_49 : am_T := .branch 56 (.branch 39 (.branch 30 (.branch 28 (.branch 1 (.leaf (0, .iload_n 1, 1)) (.leaf (1, .tableswitch 73 0 2 #[27, 29, 51], 27))) (.branch 29 (.leaf (28, .iconst 1, 1)) (.leaf (29, .ireturn, 1)))) (.branch 34 (.branch 31 (.leaf (30, .aload_n 0, 1)) (.leaf (31, .getfield 9, 3))) (.branch 35 (.leaf (34, .iconst 1, 1)) (.branch 38 (.leaf (35, .if_icmp .eq 11, 3)) (.leaf (38, .aload_n 0, 1)))))) (.branch 47 (.branch 43 (.branch 42 (.leaf (39, .getfield 9, 3)) (.leaf (42, .iconst 5, 1))) (.branch 46 (.leaf (43, .if_icmp .ne 7, 3)) (.leaf (46, .iconst 1, 1)))) (.branch 51 (.branch 50 (.leaf (47, .goto 4, 3)) (.leaf (50, .iconst 0, 1))) (.branch 52 (.leaf (51, .ireturn, 1)) (.branch 53 (.leaf (52, .aload_n 0, 1)) (.leaf (53, .getfield 9, 3))))))) (.branch 73 (.branch 64 (.branch 60 (.branch 57 (.leaf (56, .iconst 2, 1)) (.leaf (57, .if_icmp .eq 11, 3))) (.branch 61 (.leaf (60, .aload_n 0, 1)) (.leaf (61, .getfield 9, 3)))) (.branch 68 (.branch 65 (.leaf (64, .iconst 3, 1)) (.leaf (65, .if_icmp .ne 7, 3))) (.branch 69 (.leaf (68, .iconst 1, 1)) (.branch 72 (.leaf (69, .goto 4, 3)) (.leaf (72, .iconst 0, 1)))))) (.branch 79 (.branch 75 (.branch 74 (.leaf (73, .ireturn, 1)) (.leaf (74, .aload_n 0, 1))) (.branch 78 (.leaf (75, .getfield 9, 3)) (.leaf (78, .iload_n 1, 1)))) (.branch 83 (.branch 82 (.leaf (79, .if_icmp .ne 7, 3)) (.leaf (82, .iconst 1, 1))) (.branch 86 (.leaf (83, .goto 4, 3)) (.branch 87 (.leaf (86, .iconst 0, 1)) (.leaf (87, .ireturn, 1)))))))
def mc_50 : am_T := .branch 9 (.branch 4 (.branch 1 (.leaf (0, .aload_n 0, 1)) (.leaf (1, .getfield 9, 3))) (.branch 7 (.leaf (4, .ifCond .eq 11, 3)) (.branch 8 (.leaf (7, .aload_n 0, 1)) (.leaf (8, .iconst 1, 1))))) (.branch 16 (.branch 12 (.leaf (9, .invokevirtual 27, 3)) (.branch 15 (.leaf (12, .ifCond .eq 7, 3)) (.leaf (15, .iconst 1, 1)))) (.branch 19 (.leaf (16, .goto 4, 3)) (.branch 20 (.leaf (19, .iconst 0, 1)) (.leaf (20, .ireturn, 1)))))
def mc_51 : am_T := .branch 5 (.branch 1 (.leaf (0, .iconst 0, 1)) (.branch 2 (.leaf (1, .aload_n 0, 1)) (.leaf (2, .getfield 24, 3)))) (.branch 7 (.branch 6 (.leaf (5, .iload_n 1, 1)) (.leaf (6, .isub, 1))) (.branch 10 (.leaf (7, .invokestatic 31, 3)) (.leaf (10, .ireturn, 1))))
def mc_52 : am_T := .branch 53 (.branch 27 (.branch 15 (.branch 6 (.branch 4 (.branch 1 (.leaf (0, .aload_n 0, 1)) (.leaf (1, .invokespecial 3, 3))) (.branch 5 (.leaf (4, .aload_n 0, 1)) (.leaf (5, .iconst 4, 1)))) (.branch 10 (.branch 9 (.leaf (6, .putfield 9, 3)) (.leaf (9, .aload_n 0, 1))) (.branch 12 (.leaf (10, .bipush 6, 2)) (.branch 14 (.leaf (12, .newarray .int, 2)) (.leaf (14, .dup, 1)))))) (.branch 20 (.branch 17 (.branch 16 (.leaf (15, .iconst 0, 1)) (.leaf (16, .iconst 4, 1))) (.branch 18 (.leaf (17, .iastore, 1)) (.branch 19 (.leaf (18, .dup, 1)) (.leaf (19, .iconst 1, 1))))) (.branch 23 (.branch 22 (.leaf (20, .bipush 6, 2)) (.leaf (22, .iastore, 1))) (.branch 24 (.leaf (23, .dup, 1)) (.branch 25 (.leaf (24, .iconst 2, 1)) (.leaf (25, .bipush 8, 2))))))) (.branch 39 (.branch 33 (.branch 29 (.branch 28 (.leaf (27, .iastore, 1)) (.leaf (28, .dup, 1))) (.branch 30 (.leaf (29, .iconst 3, 1)) (.branch 32 (.leaf (30, .bipush 10, 2)) (.leaf (32, .iastore, 1))))) (.branch 35 (.branch 34 (.leaf (33, .dup, 1)) (.leaf (34, .iconst 4, 1))) (.branch 37 (.leaf (35, .bipush 12, 2)) (.branch 38 (.leaf (37, .iastore, 1)) (.leaf (38, .dup, 1)))))) (.branch 47 (.branch 42 (.branch 40 (.leaf (39, .iconst 5, 1)) (.leaf (40, .bipush 14, 2))) (.branch 43 (.leaf (42, .iastore, 1)) (.branch 46 (.leaf (43, .putfield 15, 3)) (.leaf (46, .aload_n 0, 1))))) (.branch 50 (.branch 48 (.leaf (47, .iconst 5, 1)) (.leaf (48, .newarray .int, 2))) (.branch 51 (.leaf (50, .dup, 1)) (.branch 52 (.leaf (51, .iconst 0, 1)) (.leaf (52, .iconst 1, 1)))))))) (.branch 76 (.branch 63 (.branch 58 (.branch 55 (.branch 54 (.leaf (53, .iastore, 1)) (.leaf (54, .dup, 1))) (.branch 56 (.leaf (55, .iconst 1, 1)) (.branch 57 (.leaf (56, .iconst 1, 1)) (.leaf (57, .iastore, 1))))) (.branch 60 (.branch 59 (.leaf (58, .dup, 1)) (.leaf (59, .iconst 2, 1))) (.branch 61 (.leaf (60, .iconst 1, 1)) (.branch 62 (.leaf (61, .iastore, 1)) (.leaf (62, .dup, 1)))))) (.branch 68 (.branch 65 (.branch 64 (.leaf (63, .iconst 3, 1)) (.leaf (64, .iconst 1, 1))) (.branch 66 (.leaf (65, .iastore, 1)) (.branch 67 (.leaf (66, .dup, 1)) (.leaf (67, .iconst 4, 1))))) (.branch 70 (.branch 69 (.leaf (68, .iconst 1, 1)) (.leaf (69, .iastore, 1))) (.branch 73 (.leaf (70, .putfield 19, 3)) (.branch 74 (.leaf (73, .aload_n 0, 1)) (.leaf (74, .bipush 6, 2))))))) (.branch 95 (.branch 87 (.branch 82 (.branch 79 (.leaf (76, .anewarray 22, 3)) (.leaf (79, .putfield 24, 3))) (.branch 83 (.leaf (82, .aload_n 0, 1)) (.branch 84 (.leaf (83, .iconst 1, 1)) (.leaf (84, .putfield 28, 3))))) (.branch 89 (.branch 88 (.leaf (87, .iconst 0, 1)) (.leaf (88, .istore_n 1, 1))) (.branch 90 (.leaf (89, .iload_n 1, 1)) (.branch 92 (.leaf (90, .bipush 6, 2)) (.leaf (92, .if_icmp .ge 22, 3)))))) (.branch 104 (.branch 99 (.branch 96 (.leaf (95, .aload_n 0, 1)) (.leaf (96, .getfield 24, 3))) (.branch 100 (.leaf (99, .iload_n 1, 1)) (.branch 103 (.leaf (100, .new 22, 3)) (.leaf (103, .dup, 1))))) (.branch 108 (.branch 107 (.leaf (104, .invokespecial 31, 3)) (.leaf (107, .aastore, 1))) (.branch 111 (.leaf (108, .iinc 1 1, 3)) (.branch 114 (.leaf (111, .goto (-22), 3)) (.leaf (114, .return_, 1))))))))
def mc_53 : am_T := .branch 52 (.branch 26 (.branch 13 (.branch 5 (.branch 1 (.leaf (0, .aload_n 0, 1)) (.branch 2 (.leaf (1, .aload_n 1, 1)) (.leaf (2, .getfield 9, 3)))) (.branch 9 (.branch 8 (.leaf (5, .putfield 9, 3)) (.leaf (8, .aload_n 1, 1))) (.branch 12 (.leaf (9, .getfield 15, 3)) (.leaf (12, .iconst 0, 1))))) (.branch 18 (.branch 14 (.leaf (13, .aload_n 0, 1)) (.branch 17 (.leaf (14, .getfield 15, 3)) (.leaf (17, .iconst 0, 1)))) (.branch 22 (.branch 19 (.leaf (18, .aload_n 0, 1)) (.leaf (19, .getfield 15, 3))) (.branch 23 (.leaf (22, .arraylength, 1)) (.leaf (23, .invokestatic 32, 3)))))) (.branch 37 (.branch 31 (.branch 27 (.leaf (26, .aload_n 1, 1)) (.branch 30 (.leaf (27, .getfield 19, 3)) (.leaf (30, .iconst 0, 1)))) (.branch 35 (.branch 32 (.leaf (31, .aload_n 0, 1)) (.leaf (32, .getfield 19, 3))) (.branch 36 (.leaf (35, .iconst 0, 1)) (.leaf (36, .aload_n 0, 1))))) (.branch 44 (.branch 40 (.leaf (37, .getfield 19, 3)) (.branch 41 (.leaf (40, .arraylength, 1)) (.leaf (41, .invokestatic 32, 3)))) (.branch 46 (.branch 45 (.leaf (44, .aload_n 0, 1)) (.leaf (45, .aload_n 1, 1))) (.branch 49 (.leaf (46, .getfield 38, 3)) (.leaf (49, .putfield 38, 3))))))) (.branch 75 (.branch 64 (.branch 55 (.branch 53 (.leaf (52, .iconst 0, 1)) (.branch 54 (.leaf (53, .istore_n 2, 1)) (.leaf (54, .iload_n 2, 1)))) (.branch 60 (.branch 57 (.leaf (55, .bipush 6, 2)) (.leaf (57, .if_icmp .ge 24, 3))) (.branch 61 (.leaf (60, .aload_n 0, 1)) (.leaf (61, .getfield 24, 3))))) (.branch 67 (.branch 65 (.leaf (64, .iload_n 2, 1)) (.branch 66 (.leaf (65, .aaload, 1)) (.leaf (66, .aload_n 1, 1)))) (.branch 71 (.branch 70 (.leaf (67, .getfield 24, 3)) (.leaf (70, .iload_n 2, 1))) (.branch 72 (.leaf (71, .aaload, 1)) (.leaf (72, .invokevirtual 41, 3)))))) (.branch 90 (.branch 82 (.branch 78 (.leaf (75, .iinc 2 1, 3)) (.branch 81 (.leaf (78, .goto (-24), 3)) (.leaf (81, .aload_n 0, 1)))) (.branch 86 (.branch 83 (.leaf (82, .aload_n 1, 1)) (.leaf (83, .getfield 45, 3))) (.branch 89 (.leaf (86, .putfield 45, 3)) (.leaf (89, .aload_n 0, 1))))) (.branch 98 (.branch 94 (.branch 91 (.leaf (90, .aload_n 1, 1)) (.leaf (91, .getfield 48, 3))) (.branch 97 (.leaf (94, .putfield 48, 3)) (.leaf (97, .aload_n 0, 1)))) (.branch 102 (.branch 99 (.leaf (98, .aload_n 1, 1)) (.leaf (99, .getfield 28, 3))) (.branch 105 (.leaf (102, .putfield 28, 3)) (.leaf (105, .return_, 1)))))))
def mc_54 : am_T := .branch 9 (.branch 4 (.branch 1 (.leaf (0, .iload_n 1, 1)) (.leaf (1, .ifCond .lt 15, 3))) (.branch 5 (.leaf (4, .iload_n 1, 1)) (.branch 6 (.leaf (5, .aload_n 0, 1)) (.leaf (6, .getfield 9, 3))))) (.branch 13 (.branch 12 (.leaf (9, .if_icmp .ge 7, 3)) (.leaf (12, .iconst 1, 1))) (.branch 16 (.leaf (13, .goto 4, 3)) (.branch 17 (.leaf (16, .iconst 0, 1)) (.leaf (17, .ireturn, 1)))))
def mc_55 : am_T := .branch 10 (.branch 5 (.branch 1 (.leaf (0, .iload_n 1, 1)) (.branch 4 (.leaf (1, .ifCond .lt 17, 3)) (.leaf (4, .iload_n 1, 1)))) (.branch 6 (.leaf (5, .aload_n 0, 1)) (.branch 9 (.leaf (6, .getfield 9, 3)) (.leaf (9, .iconst 1, 1))))) (.branch 15 (.branch 11 (.leaf (10, .isub, 1)) (.branch 14 (.leaf (11, .if_icmp .ge 7, 3)) (.leaf (14, .iconst 1, 1)))) (.branch 18 (.leaf (15, .goto 4, 3)) (.branch 19 (.leaf (18, .iconst 0, 1)) (.leaf (19, .ireturn, 1)))))
def mc_56 : am_T := .branch 3 (.branch 1 (.leaf (0, .aload_n 0, 1)) (.branch 2 (.leaf (1, .aload_n 0, 1)) (.leaf (2, .iload_n 1, 1)))) (.branch 7 (.branch 4 (.leaf (3, .iload_n 2, 1)) (.leaf (4, .invokevirtual 51, 3))) (.branch 10 (.leaf (7, .invokevirtual 55, 3)) (.leaf (10, .ireturn, 1))))
def mc_57 : am_T := .branch 14 (.branch 8 (.branch 2 (.branch 1 (.leaf (0, .aload_n 0, 1)) (.leaf (1, .iload_n 1, 1))) (.branch 5 (.leaf (2, .invokevirtual 55, 3)) (.leaf (5, .ifCond .eq 21, 3)))) (.branch 12 (.branch 9 (.leaf (8, .iload_n 2, 1)) (.leaf (9, .ifCond .lt 17, 3))) (.branch 13 (.leaf (12, .iload_n 2, 1)) (.leaf (13, .aload_n 0, 1))))) (.branch 22 (.branch 18 (.branch 17 (.leaf (14, .getfield 15, 3)) (.leaf (17, .iload_n 1, 1))) (.branch 19 (.leaf (18, .iaload, 1)) (.leaf (19, .if_icmp .ge 7, 3)))) (.branch 26 (.branch 23 (.leaf (22, .iconst 1, 1)) (.leaf (23, .goto 4, 3))) (.branch 27 (.leaf (26, .iconst 0, 1)) (.leaf (27, .ireturn, 1)))))
def mc_58 : am_T := .branch 9 (.branch 4 (.branch 1 (.leaf (0, .iload_n 1, 1)) (.leaf (1, .ifCond .lt 15, 3))) (.branch 5 (.leaf (4, .iload_n 1, 1)) (.branch 6 (.leaf (5, .aload_n 0, 1)) (.leaf (6, .getfield 38, 3))))) (.branch 13 (.branch 12 (.leaf (9, .if_icmp .ge 7, 3)) (.leaf (12, .iconst 1, 1))) (.branch 16 (.leaf (13, .goto 4, 3)) (.branch 17 (.leaf (16, .iconst 0, 1)) (.leaf (17, .ireturn, 1)))))
def mc_59 : am_T := .branch 13 (.branch 5 (.branch 1 (.leaf (0, .aload_n 0, 1)) (.branch 2 (.leaf (1, .iload_n 1, 1)) (.leaf (2, .invokevirtual 59, 3)))) (.branch 9 (.branch 8 (.leaf (5, .ifCond .eq 20, 3)) (.leaf (8, .aload_n 0, 1))) (.branch 10 (.leaf (9, .iload_n 2, 1)) (.leaf (10, .invokevirtual 59, 3))))) (.branch 21 (.branch 17 (.branch 16 (.leaf (13, .ifCond .eq 12, 3)) (.leaf (16, .iload_n 1, 1))) (.branch 18 (.leaf (17, .iload_n 2, 1)) (.leaf (18, .if_icmp .eq 7, 3)))) (.branch 25 (.branch 22 (.leaf (21, .iconst 1, 1)) (.leaf (22, .goto 4, 3))) (.branch 26 (.leaf (25, .iconst 0, 1)) (.leaf (26, .ireturn, 1)))))
def mc_60 : am_T := .branch 9 (.branch 4 (.branch 1 (.leaf (0, .aload_n 0, 1)) (.leaf (1, .getfield 38, 3))) (.branch 6 (.leaf (4, .bipush 6, 2)) (.leaf (6, .if_icmp .lt 7, 3)))) (.branch 13 (.branch 10 (.leaf (9, .iconst 1, 1)) (.leaf (10, .goto 4, 3))) (.branch 14 (.leaf (13, .iconst 0, 1)) (.leaf (14, .ireturn, 1))))
def mc_61 : am_T := .branch 12 (.branch 5 (.branch 1 (.leaf (0, .iload_n 1, 1)) (.branch 4 (.leaf (1, .ifCond .lt 20, 3)) (.leaf (4, .iload_n 1, 1)))) (.branch 6 (.leaf (5, .aload_n 0, 1)) (.branch 9 (.leaf (6, .getfield 9, 3)) (.leaf (9, .if_icmp .ge 12, 3))))) (.branch 17 (.branch 13 (.leaf (12, .aload_n 0, 1)) (.branch 16 (.leaf (13, .getfield 15, 3)) (.leaf (16, .iload_n 1, 1)))) (.branch 21 (.branch 18 (.leaf (17, .iaload, 1)) (.leaf (18, .goto 4, 3))) (.branch 22 (.leaf (21, .iconst 2, 1)) (.leaf (22, .ireturn, 1)))))
def mc_62 : am_T := .branch 7 (.branch 2 (.branch 1 (.leaf (0, .iload_n 2, 1)) (.leaf (1, .iconst 1, 1))) (.branch 5 (.leaf (2, .if_icmp .ne 9, 3)) (.branch 6 (.leaf (5, .iload_n 1, 1)) (.leaf (6, .iconst 1, 1))))) (.branch 12 (.branch 8 (.leaf (7, .iadd, 1)) (.branch 11 (.leaf (8, .goto 6, 3)) (.leaf (11, .iload_n 1, 1)))) (.branch 13 (.leaf (12, .iconst 1, 1)) (.branch 14 (.leaf (13, .isub, 1)) (.leaf (14, .ireturn, 1)))))
def mc_63 : am_T := .branch 34 (.branch 17 (.branch 8 (.branch 4 (.branch 1 (.leaf (0, .aload_n 0, 1)) (.leaf (1, .invokevirtual 62, 3))) (.branch 7 (.leaf (4, .ifCond .eq 5, 3)) (.leaf (7, .iconst (-1), 1)))) (.branch 10 (.branch 9 (.leaf (8, .ireturn, 1)) (.leaf (9, .aload_n 0, 1))) (.branch 13 (.leaf (10, .getfield 24, 3)) (.branch 14 (.leaf (13, .aload_n 0, 1)) (.leaf (14, .getfield 38, 3)))))) (.branch 23 (.branch 20 (.branch 18 (.leaf (17, .aaload, 1)) (.leaf (18, .astore 5, 2))) (.branch 22 (.leaf (20, .aload 5, 2)) (.leaf (22, .iload_n 1, 1)))) (.branch 28 (.branch 26 (.leaf (23, .putfield 66, 3)) (.leaf (26, .aload 5, 2))) (.branch 29 (.leaf (28, .iload_n 2, 1)) (.branch 32 (.leaf (29, .putfield 69, 3)) (.leaf (32, .aload 5, 2))))))) (.branch 52 (.branch 42 (.branch 38 (.branch 35 (.leaf (34, .iload_n 3, 1)) (.leaf (35, .putfield 72, 3))) (.branch 40 (.leaf (38, .aload 5, 2)) (.leaf (40, .iload 4, 2)))) (.branch 47 (.branch 45 (.leaf (42, .putfield 75, 3)) (.leaf (45, .aload 5, 2))) (.branch 48 (.leaf (47, .iconst 0, 1)) (.branch 51 (.leaf (48, .putfield 78, 3)) (.leaf (51, .aload_n 0, 1)))))) (.branch 61 (.branch 56 (.branch 53 (.leaf (52, .dup, 1)) (.leaf (53, .getfield 38, 3))) (.branch 57 (.leaf (56, .iconst 1, 1)) (.branch 58 (.leaf (57, .iadd, 1)) (.leaf (58, .putfield 38, 3))))) (.branch 65 (.branch 62 (.leaf (61, .aload_n 0, 1)) (.leaf (62, .getfield 38, 3))) (.branch 66 (.leaf (65, .iconst 1, 1)) (.branch 67 (.leaf (66, .isub, 1)) (.leaf (67, .ireturn, 1)))))))
def mc_64 : am_T := .branch 18 (.branch 6 (.branch 3 (.branch 1 (.leaf (0, .iconst 0, 1)) (.branch 2 (.leaf (1, .istore_n 2, 1)) (.leaf (2, .iconst 0, 1)))) (.branch 4 (.leaf (3, .istore_n 3, 1)) (.branch 5 (.leaf (4, .iload_n 3, 1)) (.leaf (5, .aload_n 0, 1))))) (.branch 13 (.branch 9 (.leaf (6, .getfield 38, 3)) (.branch 12 (.leaf (9, .if_icmp .ge 28, 3)) (.leaf (12, .aload_n 0, 1)))) (.branch 16 (.leaf (13, .getfield 24, 3)) (.branch 17 (.leaf (16, .iload_n 3, 1)) (.leaf (17, .aaload, 1)))))) (.branch 28 (.branch 25 (.branch 21 (.leaf (18, .getfield 69, 3)) (.branch 22 (.leaf (21, .iload_n 1, 1)) (.leaf (22, .if_icmp .ne 9, 3)))) (.branch 26 (.leaf (25, .iload_n 2, 1)) (.branch 27 (.leaf (26, .iconst 1, 1)) (.leaf (27, .iload_n 3, 1))))) (.branch 31 (.branch 29 (.leaf (28, .ishl, 1)) (.branch 30 (.leaf (29, .ior, 1)) (.leaf (30, .istore_n 2, 1)))) (.branch 37 (.branch 34 (.leaf (31, .iinc 3 1, 3)) (.leaf (34, .goto (-30), 3))) (.branch 38 (.leaf (37, .iload_n 2, 1)) (.leaf (38, .ireturn, 1))))))
def mc_65 : am_T := .branch 18 (.branch 6 (.branch 3 (.branch 1 (.leaf (0, .iconst 0, 1)) (.branch 2 (.leaf (1, .istore_n 1, 1)) (.leaf (2, .iconst 0, 1)))) (.branch 4 (.leaf (3, .istore_n 2, 1)) (.branch 5 (.leaf (4, .iload_n 2, 1)) (.leaf (5, .aload_n 0, 1))))) (.branch 13 (.branch 9 (.leaf (6, .getfield 38, 3)) (.branch 12 (.leaf (9, .if_icmp .ge 27, 3)) (.leaf (12, .aload_n 0, 1)))) (.branch 16 (.leaf (13, .getfield 24, 3)) (.branch 17 (.leaf (16, .iload_n 2, 1)) (.leaf (17, .aaload, 1)))))) (.branch 28 (.branch 25 (.branch 21 (.leaf (18, .getfield 78, 3)) (.branch 24 (.leaf (21, .ifCond .le 9, 3)) (.leaf (24, .iload_n 1, 1)))) (.branch 26 (.leaf (25, .iconst 1, 1)) (.branch 27 (.leaf (26, .iload_n 2, 1)) (.leaf (27, .ishl, 1))))) (.branch 33 (.branch 29 (.leaf (28, .ior, 1)) (.branch 30 (.leaf (29, .istore_n 1, 1)) (.leaf (30, .iinc 2 1, 3)))) (.branch 36 (.leaf (33, .goto (-29), 3)) (.branch 37 (.leaf (36, .iload_n 1, 1)) (.leaf (37, .ireturn, 1))))))
def mc_66 : am_T := .branch 6 (.branch 2 (.branch 1 (.leaf (0, .aload_n 0, 1)) (.leaf (1, .iload_n 1, 1))) (.branch 5 (.leaf (2, .invokevirtual 81, 3)) (.leaf (5, .aload_n 0, 1)))) (.branch 10 (.branch 9 (.leaf (6, .invokevirtual 85, 3)) (.leaf (9, .iconst (-1), 1))) (.branch 11 (.leaf (10, .ixor, 1)) (.branch 12 (.leaf (11, .iand, 1)) (.leaf (12, .ireturn, 1)))))
def mc_67 : am_T := .branch 14 (.branch 5 (.branch 2 (.branch 1 (.leaf (0, .iconst 0, 1)) (.leaf (1, .istore_n 1, 1))) (.branch 3 (.leaf (2, .iconst 0, 1)) (.branch 4 (.leaf (3, .istore_n 2, 1)) (.leaf (4, .iload_n 2, 1))))) (.branch 9 (.branch 6 (.leaf (5, .aload_n 0, 1)) (.leaf (6, .getfield 38, 3))) (.branch 12 (.leaf (9, .if_icmp .ge 21, 3)) (.branch 13 (.leaf (12, .iload_n 1, 1)) (.leaf (13, .aload_n 0, 1)))))) (.branch 23 (.branch 18 (.branch 17 (.leaf (14, .getfield 24, 3)) (.leaf (17, .iload_n 2, 1))) (.branch 19 (.leaf (18, .aaload, 1)) (.branch 22 (.leaf (19, .getfield 75, 3)) (.leaf (22, .iadd, 1))))) (.branch 27 (.branch 24 (.leaf (23, .istore_n 1, 1)) (.leaf (24, .iinc 2 1, 3))) (.branch 30 (.leaf (27, .goto (-23), 3)) (.branch 31 (.leaf (30, .iload_n 1, 1)) (.leaf (31, .ireturn, 1))))))
def mc_68 : am_T := .branch 21 (.branch 6 (.branch 3 (.branch 1 (.leaf (0, .iconst 0, 1)) (.branch 2 (.leaf (1, .istore_n 2, 1)) (.leaf (2, .iconst 0, 1)))) (.branch 4 (.leaf (3, .istore_n 3, 1)) (.branch 5 (.leaf (4, .iload_n 3, 1)) (.leaf (5, .aload_n 0, 1))))) (.branch 13 (.branch 9 (.leaf (6, .getfield 38, 3)) (.branch 12 (.leaf (9, .if_icmp .ge 35, 3)) (.leaf (12, .iload_n 3, 1)))) (.branch 17 (.branch 14 (.leaf (13, .iload_n 1, 1)) (.leaf (14, .if_icmp .eq 24, 3))) (.branch 18 (.leaf (17, .aload_n 0, 1)) (.leaf (18, .getfield 24, 3)))))) (.branch 29 (.branch 24 (.branch 22 (.leaf (21, .iload_n 3, 1)) (.branch 23 (.leaf (22, .aaload, 1)) (.leaf (23, .aload_n 0, 1)))) (.branch 27 (.leaf (24, .getfield 24, 3)) (.branch 28 (.leaf (27, .iload_n 1, 1)) (.leaf (28, .aaload, 1))))) (.branch 38 (.branch 32 (.leaf (29, .invokevirtual 89, 3)) (.branch 35 (.leaf (32, .ifCond .eq 6, 3)) (.leaf (35, .iinc 2 1, 3)))) (.branch 44 (.branch 41 (.leaf (38, .iinc 3 1, 3)) (.leaf (41, .goto (-37), 3))) (.branch 45 (.leaf (44, .iload_n 2, 1)) (.leaf (45, .ireturn, 1))))))
def mc_69 : am_T := .branch 25 (.branch 12 (.branch 3 (.branch 1 (.leaf (0, .iload_n 2, 1)) (.branch 2 (.leaf (1, .aload_n 0, 1)) (.leaf (2, .iload_n 2, 1)))) (.branch 7 (.branch 4 (.leaf (3, .iload_n 3, 1)) (.leaf (4, .invokevirtual 51, 3))) (.branch 10 (.leaf (7, .invokestatic 93, 3)) (.leaf (10, .istore 4, 2))))) (.branch 21 (.branch 15 (.branch 13 (.leaf (12, .aload_n 0, 1)) (.leaf (13, .iload 4, 2))) (.branch 18 (.leaf (15, .invokevirtual 98, 3)) (.leaf (18, .ifCond .ne 5, 3)))) (.branch 23 (.branch 22 (.leaf (21, .iconst (-1), 1)) (.leaf (22, .ireturn, 1))) (.branch 24 (.leaf (23, .aload_n 1, 1)) (.leaf (24, .iconst 1, 1)))))) (.branch 40 (.branch 35 (.branch 31 (.branch 28 (.leaf (25, .invokevirtual 101, 3)) (.leaf (28, .ifCond .eq 17, 3))) (.branch 32 (.leaf (31, .aload_n 0, 1)) (.leaf (32, .getfield 19, 3)))) (.branch 38 (.branch 37 (.leaf (35, .iload 4, 2)) (.leaf (37, .iaload, 1))) (.branch 39 (.leaf (38, .iconst 1, 1)) (.leaf (39, .iadd, 1))))) (.branch 46 (.branch 42 (.branch 41 (.leaf (40, .iconst 2, 1)) (.leaf (41, .idiv, 1))) (.branch 45 (.leaf (42, .goto 10, 3)) (.leaf (45, .aload_n 0, 1)))) (.branch 51 (.branch 49 (.leaf (46, .getfield 19, 3)) (.leaf (49, .iload 4, 2))) (.branch 52 (.leaf (51, .iaload, 1)) (.leaf (52, .ireturn, 1))))))
def mc_70 : am_T := .branch 6 (.branch 2 (.branch 1 (.leaf (0, .iconst 1, 1)) (.leaf (1, .aload_n 0, 1))) (.branch 3 (.leaf (2, .iload_n 1, 1)) (.leaf (3, .invokevirtual 104, 3)))) (.branch 8 (.branch 7 (.leaf (6, .iconst 2, 1)) (.leaf (7, .idiv, 1))) (.branch 11 (.leaf (8, .invokestatic 107, 3)) (.leaf (11, .ireturn, 1))))
def mc_71 : am_T := .branch 23 (.branch 9 (.branch 5 (.branch 1 (.leaf (0, .aload_n 0, 1)) (.branch 2 (.leaf (1, .iload_n 1, 1)) (.leaf (2, .invokevirtual 104, 3)))) (.branch 7 (.leaf (5, .istore 4, 2)) (.branch 8 (.leaf (7, .aload_n 0, 1)) (.leaf (8, .iload_n 3, 1))))) (.branch 16 (.branch 12 (.leaf (9, .invokevirtual 104, 3)) (.branch 14 (.leaf (12, .istore 5, 2)) (.leaf (14, .iload 4, 2)))) (.branch 20 (.branch 19 (.leaf (16, .ifCond .le 13, 3)) (.leaf (19, .iload_n 2, 1))) (.branch 22 (.leaf (20, .iload 5, 2)) (.leaf (22, .imul, 1)))))) (.branch 34 (.branch 29 (.branch 25 (.leaf (23, .iload 4, 2)) (.branch 26 (.leaf (25, .idiv, 1)) (.leaf (26, .goto 4, 3)))) (.branch 30 (.leaf (29, .iconst 0, 1)) (.branch 32 (.leaf (30, .istore 6, 2)) (.leaf (32, .iload 6, 2))))) (.branch 38 (.branch 36 (.leaf (34, .iload 5, 2)) (.branch 37 (.leaf (36, .iconst 2, 1)) (.leaf (37, .idiv, 1)))) (.branch 41 (.branch 39 (.leaf (38, .iadd, 1)) (.leaf (39, .iload 5, 2))) (.branch 44 (.leaf (41, .invokestatic 110, 3)) (.leaf (44, .ireturn, 1))))))
def mc_72 : am_T := .branch 23 (.branch 14 (.branch 7 (.branch 1 (.leaf (0, .aload_n 1, 1)) (.branch 4 (.leaf (1, .getfield 78, 3)) (.leaf (4, .ifCond .gt 10, 3)))) (.branch 8 (.leaf (7, .aload_n 1, 1)) (.branch 11 (.leaf (8, .invokevirtual 113, 3)) (.leaf (11, .ifCond .ne 5, 3))))) (.branch 17 (.branch 15 (.leaf (14, .iconst 0, 1)) (.branch 16 (.leaf (15, .ireturn, 1)) (.leaf (16, .aload_n 0, 1)))) (.branch 19 (.branch 18 (.leaf (17, .aload_n 1, 1)) (.leaf (18, .aload_n 1, 1))) (.branch 22 (.leaf (19, .getfield 69, 3)) (.leaf (22, .iload_n 2, 1)))))) (.branch 33 (.branch 28 (.branch 26 (.leaf (23, .invokevirtual 116, 3)) (.branch 27 (.leaf (26, .istore_n 3, 1)) (.leaf (27, .iload_n 3, 1)))) (.branch 29 (.leaf (28, .iconst (-1), 1)) (.branch 32 (.leaf (29, .if_icmp .eq 15, 3)) (.leaf (32, .aload_n 1, 1))))) (.branch 40 (.branch 36 (.leaf (33, .getfield 75, 3)) (.branch 37 (.leaf (36, .iload_n 3, 1)) (.leaf (37, .if_icmp .lt 7, 3)))) (.branch 44 (.branch 41 (.leaf (40, .iconst 1, 1)) (.leaf (41, .goto 4, 3))) (.branch 45 (.leaf (44, .iconst 0, 1)) (.leaf (45, .ireturn, 1))))))
def mc_73 : am_T := .branch 22 (.branch 10 (.branch 5 (.branch 1 (.leaf (0, .aload_n 0, 1)) (.branch 2 (.leaf (1, .aload_n 1, 1)) (.leaf (2, .getfield 69, 3)))) (.branch 6 (.leaf (5, .iload_n 2, 1)) (.branch 9 (.leaf (6, .invokevirtual 51, 3)) (.leaf (9, .istore_n 3, 1))))) (.branch 13 (.branch 11 (.leaf (10, .aload_n 1, 1)) (.branch 12 (.leaf (11, .aload_n 0, 1)) (.leaf (12, .aload_n 1, 1)))) (.branch 16 (.leaf (13, .getfield 69, 3)) (.branch 19 (.leaf (16, .invokevirtual 120, 3)) (.leaf (19, .putfield 78, 3)))))) (.branch 32 (.branch 25 (.branch 23 (.leaf (22, .aload_n 1, 1)) (.branch 24 (.leaf (23, .aload_n 0, 1)) (.leaf (24, .aload_n 1, 1)))) (.branch 28 (.leaf (25, .getfield 69, 3)) (.branch 29 (.leaf (28, .aload_n 1, 1)) (.leaf (29, .getfield 72, 3))))) (.branch 39 (.branch 33 (.leaf (32, .iload_n 3, 1)) (.branch 36 (.leaf (33, .invokevirtual 123, 3)) (.leaf (36, .putfield 72, 3)))) (.branch 41 (.branch 40 (.leaf (39, .aload_n 1, 1)) (.leaf (40, .iload_n 3, 1))) (.branch 44 (.leaf (41, .putfield 69, 3)) (.leaf (44, .return_, 1))))))
def mc_74 : am_T := .branch 21 (.branch 9 (.branch 4 (.branch 1 (.leaf (0, .aload_n 1, 1)) (.leaf (1, .getfield 78, 3))) (.branch 7 (.leaf (4, .ifCond .le 16, 3)) (.branch 8 (.leaf (7, .aload_n 1, 1)) (.leaf (8, .dup, 1))))) (.branch 14 (.branch 12 (.leaf (9, .getfield 78, 3)) (.branch 13 (.leaf (12, .iconst 1, 1)) (.leaf (13, .isub, 1)))) (.branch 17 (.leaf (14, .putfield 78, 3)) (.branch 20 (.leaf (17, .goto 24, 3)) (.leaf (20, .aload_n 1, 1)))))) (.branch 28 (.branch 25 (.branch 22 (.leaf (21, .aload_n 1, 1)) (.leaf (22, .getfield 72, 3))) (.branch 26 (.leaf (25, .iconst 1, 1)) (.branch 27 (.leaf (26, .iadd, 1)) (.leaf (27, .aload_n 0, 1))))) (.branch 35 (.branch 29 (.leaf (28, .aload_n 1, 1)) (.branch 32 (.leaf (29, .getfield 69, 3)) (.leaf (32, .invokevirtual 104, 3)))) (.branch 38 (.leaf (35, .invokestatic 110, 3)) (.branch 41 (.leaf (38, .putfield 72, 3)) (.leaf (41, .return_, 1))))))
def mc_75 : am_T := .branch 11 (.branch 5 (.branch 1 (.leaf (0, .aload_n 1, 1)) (.branch 4 (.leaf (1, .getfield 72, 3)) (.leaf (4, .iconst 0, 1)))) (.branch 7 (.branch 6 (.leaf (5, .iload_n 2, 1)) (.leaf (6, .aload_n 1, 1))) (.branch 10 (.leaf (7, .getfield 78, 3)) (.leaf (10, .isub, 1))))) (.branch 17 (.branch 15 (.branch 14 (.leaf (11, .invokestatic 107, 3)) (.leaf (14, .iadd, 1))) (.branch 16 (.leaf (15, .aload_n 0, 1)) (.leaf (16, .aload_n 1, 1)))) (.branch 23 (.branch 20 (.leaf (17, .getfield 69, 3)) (.leaf (20, .invokevirtual 104, 3))) (.branch 26 (.leaf (23, .invokestatic 110, 3)) (.leaf (26, .ireturn, 1)))))
def mc_76 : am_T := .branch 36 (.branch 18 (.branch 7 (.branch 2 (.branch 1 (.leaf (0, .lload_n 2, 1)) (.leaf (1, .lconst 1, 1))) (.branch 3 (.leaf (2, .lcmp, 1)) (.branch 6 (.leaf (3, .ifCond .eq 11, 3)) (.leaf (6, .lload_n 2, 1))))) (.branch 14 (.branch 10 (.leaf (7, .ldc2_w 127, 3)) (.branch 11 (.leaf (10, .lcmp, 1)) (.leaf (11, .ifCond .ne 49, 3)))) (.branch 15 (.leaf (14, .lload_n 2, 1)) (.branch 16 (.leaf (15, .l2i, 1)) (.leaf (16, .istore 4, 2)))))) (.branch 28 (.branch 20 (.branch 19 (.leaf (18, .aload_n 0, 1)) (.leaf (19, .aload_n 1, 1))) (.branch 22 (.leaf (20, .iload 4, 2)) (.branch 25 (.leaf (22, .invokevirtual 129, 3)) (.leaf (25, .ifCond .ne 5, 3))))) (.branch 31 (.branch 29 (.leaf (28, .iconst 0, 1)) (.branch 30 (.leaf (29, .ireturn, 1)) (.leaf (30, .aload_n 1, 1)))) (.branch 32 (.leaf (31, .dup, 1)) (.branch 35 (.leaf (32, .getfield 75, 3)) (.leaf (35, .aload_n 0, 1))))))) (.branch 57 (.branch 46 (.branch 38 (.branch 37 (.leaf (36, .aload_n 1, 1)) (.leaf (37, .aload_n 1, 1))) (.branch 41 (.leaf (38, .getfield 69, 3)) (.branch 43 (.leaf (41, .iload 4, 2)) (.leaf (43, .invokevirtual 116, 3))))) (.branch 51 (.branch 47 (.leaf (46, .isub, 1)) (.branch 50 (.leaf (47, .putfield 75, 3)) (.leaf (50, .aload_n 0, 1)))) (.branch 52 (.leaf (51, .aload_n 1, 1)) (.branch 54 (.leaf (52, .iload 4, 2)) (.leaf (54, .invokevirtual 133, 3)))))) (.branch 67 (.branch 62 (.branch 60 (.leaf (57, .goto 11, 3)) (.branch 61 (.leaf (60, .lload_n 2, 1)) (.leaf (61, .lconst 0, 1)))) (.branch 63 (.leaf (62, .lcmp, 1)) (.branch 66 (.leaf (63, .ifCond .eq 5, 3)) (.leaf (66, .iconst 0, 1))))) (.branch 70 (.branch 68 (.leaf (67, .ireturn, 1)) (.branch 69 (.leaf (68, .aload_n 0, 1)) (.leaf (69, .aload_n 1, 1)))) (.branch 73 (.leaf (70, .invokevirtual 137, 3)) (.branch 74 (.leaf (73, .iconst 1, 1)) (.leaf (74, .ireturn, 1)))))))
def mc_77 : am_T := .branch 38 (.branch 15 (.branch 7 (.branch 4 (.branch 1 (.leaf (0, .aload_n 0, 1)) (.leaf (1, .getfield 48, 3))) (.branch 5 (.leaf (4, .istore_n 2, 1)) (.branch 6 (.leaf (5, .iconst 0, 1)) (.leaf (6, .istore_n 3, 1))))) (.branch 9 (.branch 8 (.leaf (7, .iload_n 3, 1)) (.leaf (8, .iload_n 1, 1))) (.branch 12 (.leaf (9, .if_icmp .ge 51, 3)) (.branch 13 (.leaf (12, .iconst 0, 1)) (.leaf (13, .istore 4, 2)))))) (.branch 25 (.branch 18 (.branch 17 (.leaf (15, .iload 4, 2)) (.leaf (17, .aload_n 0, 1))) (.branch 21 (.leaf (18, .getfield 38, 3)) (.branch 24 (.leaf (21, .if_icmp .ge 20, 3)) (.leaf (24, .aload_n 0, 1))))) (.branch 31 (.branch 26 (.leaf (25, .aload_n 0, 1)) (.branch 29 (.leaf (26, .getfield 24, 3)) (.leaf (29, .iload 4, 2)))) (.branch 32 (.leaf (31, .aaload, 1)) (.branch 35 (.leaf (32, .invokevirtual 137, 3)) (.leaf (35, .iinc 4 1, 3))))))) (.branch 60 (.branch 47 (.branch 42 (.branch 41 (.leaf (38, .goto (-23), 3)) (.leaf (41, .aload_n 0, 1))) (.branch 43 (.leaf (42, .dup, 1)) (.branch 46 (.leaf (43, .getfield 48, 3)) (.leaf (46, .aload_n 0, 1))))) (.branch 51 (.branch 50 (.leaf (47, .invokevirtual 140, 3)) (.leaf (50, .iadd, 1))) (.branch 54 (.leaf (51, .putfield 48, 3)) (.branch 57 (.leaf (54, .iinc 3 1, 3)) (.leaf (57, .goto (-50), 3)))))) (.branch 67 (.branch 62 (.branch 61 (.leaf (60, .aload_n 0, 1)) (.leaf (61, .dup, 1))) (.branch 65 (.leaf (62, .getfield 45, 3)) (.branch 66 (.leaf (65, .iload_n 1, 1)) (.leaf (66, .iadd, 1))))) (.branch 74 (.branch 70 (.leaf (67, .putfield 45, 3)) (.branch 71 (.leaf (70, .aload_n 0, 1)) (.leaf (71, .getfield 48, 3)))) (.branch 75 (.leaf (74, .iload_n 2, 1)) (.branch 76 (.leaf (75, .isub, 1)) (.leaf (76, .ireturn, 1)))))))
def mc_78 : am_T := .branch 42 (.branch 17 (.branch 6 (.branch 3 (.branch 1 (.leaf (0, .iconst 0, 1)) (.branch 2 (.leaf (1, .istore_n 1, 1)) (.leaf (2, .iconst 0, 1)))) (.branch 4 (.leaf (3, .istore_n 2, 1)) (.branch 5 (.leaf (4, .iload_n 2, 1)) (.leaf (5, .aload_n 0, 1))))) (.branch 13 (.branch 9 (.leaf (6, .getfield 38, 3)) (.branch 12 (.leaf (9, .if_icmp .ge 86, 3)) (.leaf (12, .iload_n 2, 1)))) (.branch 15 (.branch 14 (.leaf (13, .iconst 1, 1)) (.leaf (14, .iadd, 1))) (.branch 16 (.leaf (15, .istore_n 3, 1)) (.leaf (16, .iload_n 3, 1)))))) (.branch 29 (.branch 24 (.branch 18 (.leaf (17, .aload_n 0, 1)) (.branch 21 (.leaf (18, .getfield 38, 3)) (.leaf (21, .if_icmp .ge 68, 3)))) (.branch 25 (.leaf (24, .aload_n 0, 1)) (.branch 28 (.leaf (25, .getfield 24, 3)) (.leaf (28, .iload_n 2, 1))))) (.branch 34 (.branch 30 (.leaf (29, .aaload, 1)) (.branch 33 (.leaf (30, .getfield 66, 3)) (.leaf (33, .iconst 3, 1)))) (.branch 38 (.branch 37 (.leaf (34, .if_icmp .eq 16, 3)) (.leaf (37, .aload_n 0, 1))) (.branch 41 (.leaf (38, .getfield 24, 3)) (.leaf (41, .iload_n 3, 1))))))) (.branch 67 (.branch 54 (.branch 47 (.branch 43 (.leaf (42, .aaload, 1)) (.branch 46 (.leaf (43, .getfield 66, 3)) (.leaf (46, .iconst 3, 1)))) (.branch 50 (.leaf (47, .if_icmp .ne 7, 3)) (.branch 51 (.leaf (50, .iconst 1, 1)) (.leaf (51, .goto 4, 3))))) (.branch 59 (.branch 55 (.leaf (54, .iconst 0, 1)) (.branch 57 (.leaf (55, .istore 4, 2)) (.leaf (57, .iload 4, 2)))) (.branch 63 (.branch 62 (.leaf (59, .ifCond .eq 24, 3)) (.leaf (62, .aload_n 0, 1))) (.branch 66 (.leaf (63, .getfield 24, 3)) (.leaf (66, .iload_n 2, 1)))))) (.branch 80 (.branch 72 (.branch 68 (.leaf (67, .aaload, 1)) (.branch 69 (.leaf (68, .aload_n 0, 1)) (.leaf (69, .getfield 24, 3)))) (.branch 74 (.branch 73 (.leaf (72, .iload_n 3, 1)) (.leaf (73, .aaload, 1))) (.branch 77 (.leaf (74, .invokevirtual 89, 3)) (.leaf (77, .ifCond .eq 6, 3))))) (.branch 89 (.branch 83 (.leaf (80, .iinc 1 1, 3)) (.branch 86 (.leaf (83, .iinc 3 1, 3)) (.leaf (86, .goto (-70), 3)))) (.branch 95 (.branch 92 (.leaf (89, .iinc 2 1, 3)) (.leaf (92, .goto (-88), 3))) (.branch 96 (.leaf (95, .iload_n 1, 1)) (.leaf (96, .ireturn, 1)))))))
def mc_79 : am_T := .branch 33 (.branch 14 (.branch 7 (.branch 2 (.branch 1 (.leaf (0, .iconst 0, 1)) (.leaf (1, .istore_n 2, 1))) (.branch 3 (.leaf (2, .iload_n 2, 1)) (.branch 4 (.leaf (3, .aload_n 0, 1)) (.leaf (4, .getfield 38, 3))))) (.branch 11 (.branch 10 (.leaf (7, .if_icmp .ge 64, 3)) (.leaf (10, .iload_n 2, 1))) (.branch 12 (.leaf (11, .iconst 1, 1)) (.branch 13 (.leaf (12, .iadd, 1)) (.leaf (13, .istore_n 3, 1)))))) (.branch 23 (.branch 16 (.branch 15 (.leaf (14, .iload_n 3, 1)) (.leaf (15, .aload_n 0, 1))) (.branch 19 (.leaf (16, .getfield 38, 3)) (.branch 22 (.leaf (19, .if_icmp .ge 46, 3)) (.leaf (22, .aload_n 0, 1))))) (.branch 28 (.branch 24 (.leaf (23, .aload_n 0, 1)) (.branch 27 (.leaf (24, .getfield 24, 3)) (.leaf (27, .iload_n 2, 1)))) (.branch 29 (.leaf (28, .aaload, 1)) (.branch 30 (.leaf (29, .iload_n 1, 1)) (.leaf (30, .invokevirtual 143, 3))))))) (.branch 50 (.branch 43 (.branch 37 (.branch 35 (.leaf (33, .istore 4, 2)) (.leaf (35, .iload 4, 2))) (.branch 38 (.leaf (37, .iconst (-1), 1)) (.branch 41 (.leaf (38, .if_icmp .eq 21, 3)) (.leaf (41, .iload 4, 2))))) (.branch 45 (.branch 44 (.leaf (43, .aload_n 0, 1)) (.leaf (44, .aload_n 0, 1))) (.branch 48 (.leaf (45, .getfield 24, 3)) (.branch 49 (.leaf (48, .iload_n 3, 1)) (.leaf (49, .aaload, 1)))))) (.branch 59 (.branch 54 (.branch 51 (.leaf (50, .iload_n 1, 1)) (.leaf (51, .invokevirtual 143, 3))) (.branch 57 (.leaf (54, .if_icmp .ne 5, 3)) (.branch 58 (.leaf (57, .iconst 1, 1)) (.leaf (58, .ireturn, 1))))) (.branch 68 (.branch 62 (.leaf (59, .iinc 3 1, 3)) (.branch 65 (.leaf (62, .goto (-48), 3)) (.leaf (65, .iinc 2 1, 3)))) (.branch 71 (.leaf (68, .goto (-66), 3)) (.branch 72 (.leaf (71, .iconst 0, 1)) (.leaf (72, .ireturn, 1)))))))
def mc_80 : am_T := .branch 7 (.branch 4 (.branch 1 (.leaf (0, .aload_n 1, 1)) (.leaf (1, .getfield 69, 3))) (.branch 6 (.leaf (4, .bipush 20, 2)) (.leaf (6, .imul, 1)))) (.branch 11 (.branch 8 (.leaf (7, .aload_n 1, 1)) (.leaf (8, .getfield 72, 3))) (.branch 12 (.leaf (11, .iadd, 1)) (.leaf (12, .ireturn, 1))))
def mc_81 : am_T := .branch 14 (.branch 8 (.branch 2 (.branch 1 (.leaf (0, .aload_n 1, 1)) (.leaf (1, .iload_n 2, 1))) (.branch 5 (.leaf (2, .invokevirtual 147, 3)) (.leaf (5, .ifCond .le 5, 3)))) (.branch 10 (.branch 9 (.leaf (8, .iconst (-1), 1)) (.leaf (9, .ireturn, 1))) (.branch 11 (.leaf (10, .aload_n 1, 1)) (.leaf (11, .getfield 69, 3))))) (.branch 19 (.branch 17 (.branch 16 (.leaf (14, .bipush 20, 2)) (.leaf (16, .imul, 1))) (.branch 18 (.leaf (17, .aload_n 0, 1)) (.leaf (18, .aload_n 1, 1)))) (.branch 23 (.branch 20 (.leaf (19, .iload_n 2, 1)) (.leaf (20, .invokevirtual 150, 3))) (.branch 24 (.leaf (23, .iadd, 1)) (.leaf (24, .ireturn, 1)))))
def mc_82 : am_T := .branch 12 (.branch 5 (.branch 1 (.leaf (0, .aload_n 0, 1)) (.branch 2 (.leaf (1, .aload_n 0, 1)) (.leaf (2, .getfield 28, 3)))) (.branch 8 (.branch 7 (.leaf (5, .ldc 153, 2)) (.leaf (7, .imul, 1))) (.branch 11 (.leaf (8, .sipush 12345, 3)) (.leaf (11, .iadd, 1))))) (.branch 21 (.branch 16 (.branch 15 (.leaf (12, .putfield 28, 3)) (.leaf (15, .aload_n 0, 1))) (.branch 19 (.leaf (16, .getfield 28, 3)) (.leaf (19, .bipush 16, 2)))) (.branch 23 (.branch 22 (.leaf (21, .iushr, 1)) (.leaf (22, .iload_n 1, 1))) (.branch 26 (.leaf (23, .invokestatic 110, 3)) (.leaf (26, .ireturn, 1)))))
def mc_83 : am_T := .branch 53 (.branch 26 (.branch 12 (.branch 5 (.branch 1 (.leaf (0, .aload_n 0, 1)) (.branch 4 (.leaf (1, .invokespecial 1, 3)) (.leaf (4, .aload_n 0, 1)))) (.branch 8 (.leaf (5, .new 7, 3)) (.branch 9 (.leaf (8, .dup, 1)) (.leaf (9, .invokespecial 9, 3))))) (.branch 19 (.branch 15 (.leaf (12, .putfield 10, 3)) (.branch 16 (.leaf (15, .aload_n 0, 1)) (.leaf (16, .new 7, 3)))) (.branch 20 (.leaf (19, .dup, 1)) (.branch 23 (.leaf (20, .invokespecial 9, 3)) (.leaf (23, .putfield 16, 3)))))) (.branch 38 (.branch 31 (.branch 27 (.leaf (26, .aload_n 0, 1)) (.branch 30 (.leaf (27, .new 19, 3)) (.leaf (30, .dup, 1)))) (.branch 34 (.leaf (31, .invokespecial 21, 3)) (.branch 37 (.leaf (34, .putfield 22, 3)) (.leaf (37, .aload_n 0, 1))))) (.branch 46 (.branch 40 (.leaf (38, .bipush 8, 2)) (.branch 43 (.leaf (40, .anewarray 26, 3)) (.leaf (43, .putfield 28, 3)))) (.branch 48 (.branch 47 (.leaf (46, .aload_n 0, 1)) (.leaf (47, .iconst 5, 1))) (.branch 50 (.leaf (48, .newarray .int, 2)) (.leaf (50, .putfield 32, 3))))))) (.branch 77 (.branch 65 (.branch 58 (.branch 54 (.leaf (53, .aload_n 0, 1)) (.branch 57 (.leaf (54, .new 36, 3)) (.leaf (57, .dup, 1)))) (.branch 61 (.leaf (58, .invokespecial 38, 3)) (.branch 64 (.leaf (61, .putfield 39, 3)) (.leaf (64, .aload_n 0, 1))))) (.branch 72 (.branch 68 (.leaf (65, .new 36, 3)) (.branch 69 (.leaf (68, .dup, 1)) (.leaf (69, .invokespecial 38, 3)))) (.branch 75 (.leaf (72, .putfield 43, 3)) (.branch 76 (.leaf (75, .iconst 0, 1)) (.leaf (76, .istore_n 1, 1)))))) (.branch 88 (.branch 83 (.branch 78 (.leaf (77, .iload_n 1, 1)) (.branch 80 (.leaf (78, .bipush 8, 2)) (.leaf (80, .if_icmp .ge 22, 3)))) (.branch 84 (.leaf (83, .aload_n 0, 1)) (.branch 87 (.leaf (84, .getfield 28, 3)) (.leaf (87, .iload_n 1, 1))))) (.branch 95 (.branch 91 (.leaf (88, .new 26, 3)) (.branch 92 (.leaf (91, .dup, 1)) (.leaf (92, .invokespecial 46, 3)))) (.branch 99 (.branch 96 (.leaf (95, .aastore, 1)) (.leaf (96, .iinc 1 1, 3))) (.branch 102 (.leaf (99, .goto (-22), 3)) (.leaf (102, .return_, 1)))))))
def mc_84 : am_T := .branch 26 (.branch 12 (.branch 7 (.branch 1 (.leaf (0, .iload_n 1, 1)) (.branch 4 (.leaf (1, .invokestatic 47, 3)) (.leaf (4, .ifCond .eq 22, 3)))) (.branch 8 (.leaf (7, .iload_n 2, 1)) (.branch 11 (.leaf (8, .ifCond .lt 18, 3)) (.leaf (11, .iload_n 2, 1))))) (.branch 17 (.branch 13 (.leaf (12, .iconst 5, 1)) (.branch 16 (.leaf (13, .if_icmp .ge 13, 3)) (.leaf (16, .iload_n 3, 1)))) (.branch 21 (.branch 20 (.leaf (17, .ifCond .lt 9, 3)) (.leaf (20, .iload_n 3, 1))) (.branch 23 (.leaf (21, .bipush 40, 2)) (.leaf (23, .if_icmp .le 10, 3)))))) (.branch 37 (.branch 32 (.branch 27 (.leaf (26, .aload_n 0, 1)) (.branch 29 (.leaf (27, .bipush (-2), 2)) (.leaf (29, .invokevirtual 51, 3)))) (.branch 33 (.leaf (32, .ireturn, 1)) (.branch 34 (.leaf (33, .aload_n 0, 1)) (.leaf (34, .getfield 28, 3))))) (.branch 40 (.branch 38 (.leaf (37, .iload_n 1, 1)) (.branch 39 (.leaf (38, .aaload, 1)) (.leaf (39, .iload_n 2, 1)))) (.branch 44 (.branch 41 (.leaf (40, .iload_n 3, 1)) (.leaf (41, .invokevirtual 55, 3))) (.branch 45 (.leaf (44, .iconst 1, 1)) (.leaf (45, .ireturn, 1))))))
def mc_85 : am_T := .branch 27 (.branch 14 (.branch 4 (.branch 2 (.branch 1 (.leaf (0, .aload_n 0, 1)) (.leaf (1, .iload_n 1, 1))) (.branch 3 (.leaf (2, .iconst 1, 1)) (.leaf (3, .iconst 0, 1)))) (.branch 9 (.branch 7 (.leaf (4, .invokevirtual 59, 3)) (.leaf (7, .istore 5, 2))) (.branch 11 (.leaf (9, .iload 5, 2)) (.leaf (11, .ifCond .eq 10, 3))))) (.branch 21 (.branch 17 (.branch 15 (.leaf (14, .aload_n 0, 1)) (.leaf (15, .iload 5, 2))) (.branch 20 (.leaf (17, .invokevirtual 51, 3)) (.leaf (20, .ireturn, 1)))) (.branch 25 (.branch 22 (.leaf (21, .aload_n 0, 1)) (.leaf (22, .getfield 28, 3))) (.branch 26 (.leaf (25, .iload_n 1, 1)) (.leaf (26, .aaload, 1)))))) (.branch 43 (.branch 34 (.branch 30 (.branch 29 (.leaf (27, .astore 6, 2)) (.leaf (29, .iload_n 2, 1))) (.branch 33 (.leaf (30, .ifCond .lt 12, 3)) (.leaf (33, .iload_n 2, 1)))) (.branch 39 (.branch 36 (.leaf (34, .aload 6, 2)) (.leaf (36, .getfield 63, 3))) (.branch 42 (.leaf (39, .if_icmp .lt 10, 3)) (.leaf (42, .aload_n 0, 1))))) (.branch 51 (.branch 48 (.branch 45 (.leaf (43, .bipush (-2), 2)) (.leaf (45, .invokevirtual 51, 3))) (.branch 49 (.leaf (48, .ireturn, 1)) (.leaf (49, .aload 6, 2)))) (.branch 53 (.branch 52 (.leaf (51, .iload_n 2, 1)) (.leaf (52, .lload_n 3, 1))) (.branch 56 (.leaf (53, .invokevirtual 67, 3)) (.branch 57 (.leaf (56, .iconst 1, 1)) (.leaf (57, .ireturn, 1)))))))
def mc_86 : am_T := .branch 86 (.branch 37 (.branch 21 (.branch 11 (.branch 4 (.branch 1 (.leaf (0, .iload_n 1, 1)) (.leaf (1, .invokestatic 47, 3))) (.branch 7 (.leaf (4, .ifCond .eq 10, 3)) (.branch 8 (.leaf (7, .iload_n 2, 1)) (.leaf (8, .invokestatic 47, 3))))) (.branch 15 (.branch 14 (.leaf (11, .ifCond .ne 10, 3)) (.leaf (14, .aload_n 0, 1))) (.branch 17 (.leaf (15, .bipush (-2), 2)) (.branch 20 (.leaf (17, .invokevirtual 51, 3)) (.leaf (20, .ireturn, 1)))))) (.branch 29 (.branch 25 (.branch 22 (.leaf (21, .aload_n 0, 1)) (.leaf (22, .getfield 28, 3))) (.branch 26 (.leaf (25, .iload_n 1, 1)) (.branch 27 (.leaf (26, .aaload, 1)) (.leaf (27, .astore 6, 2))))) (.branch 33 (.branch 30 (.leaf (29, .aload_n 0, 1)) (.leaf (30, .getfield 28, 3))) (.branch 34 (.leaf (33, .iload_n 2, 1)) (.branch 35 (.leaf (34, .aaload, 1)) (.leaf (35, .astore 7, 2))))))) (.branch 63 (.branch 50 (.branch 42 (.branch 39 (.leaf (37, .aload 6, 2)) (.leaf (39, .invokevirtual 71, 3))) (.branch 45 (.leaf (42, .ifCond .eq 28, 3)) (.branch 47 (.leaf (45, .aload 7, 2)) (.leaf (47, .invokevirtual 71, 3))))) (.branch 55 (.branch 53 (.leaf (50, .ifCond .eq 20, 3)) (.leaf (53, .aload 6, 2))) (.branch 58 (.leaf (55, .getfield 75, 3)) (.branch 60 (.leaf (58, .aload 7, 2)) (.leaf (60, .getfield 75, 3)))))) (.branch 73 (.branch 67 (.branch 66 (.leaf (63, .if_icmp .eq 7, 3)) (.leaf (66, .iconst 1, 1))) (.branch 70 (.leaf (67, .goto 4, 3)) (.branch 71 (.leaf (70, .iconst 0, 1)) (.leaf (71, .istore 8, 2))))) (.branch 78 (.branch 75 (.leaf (73, .aload 6, 2)) (.leaf (75, .invokevirtual 78, 3))) (.branch 81 (.leaf (78, .ifCond .ne 16, 3)) (.branch 83 (.leaf (81, .aload 7, 2)) (.leaf (83, .invokevirtual 78, 3)))))))) (.branch 129 (.branch 109 (.branch 97 (.branch 91 (.branch 89 (.leaf (86, .ifCond .ne 8, 3)) (.leaf (89, .iload 8, 2))) (.branch 94 (.leaf (91, .ifCond .eq 10, 3)) (.branch 95 (.leaf (94, .aload_n 0, 1)) (.leaf (95, .bipush (-3), 2))))) (.branch 101 (.branch 100 (.leaf (97, .invokevirtual 51, 3)) (.leaf (100, .ireturn, 1))) (.branch 103 (.leaf (101, .aload 6, 2)) (.branch 106 (.leaf (103, .invokevirtual 81, 3)) (.leaf (106, .ifCond .ne 11, 3)))))) (.branch 120 (.branch 114 (.branch 111 (.leaf (109, .aload 7, 2)) (.leaf (111, .invokevirtual 81, 3))) (.branch 117 (.leaf (114, .ifCond .eq 10, 3)) (.branch 118 (.leaf (117, .aload_n 0, 1)) (.leaf (118, .bipush (-4), 2))))) (.branch 124 (.branch 123 (.leaf (120, .invokevirtual 51, 3)) (.leaf (123, .ireturn, 1))) (.branch 126 (.leaf (124, .aload 6, 2)) (.branch 127 (.leaf (126, .iload_n 3, 1)) (.leaf (127, .iload 5, 2))))))) (.branch 153 (.branch 141 (.branch 135 (.branch 132 (.leaf (129, .invokevirtual 84, 3)) (.leaf (132, .ifCond .eq 15, 3))) (.branch 137 (.leaf (135, .aload 7, 2)) (.branch 139 (.leaf (137, .iload 4, 2)) (.leaf (139, .iload 5, 2))))) (.branch 147 (.branch 144 (.leaf (141, .invokevirtual 84, 3)) (.leaf (144, .ifCond .ne 10, 3))) (.branch 148 (.leaf (147, .aload_n 0, 1)) (.branch 150 (.leaf (148, .bipush (-2), 2)) (.leaf (150, .invokevirtual 51, 3)))))) (.branch 162 (.branch 156 (.branch 154 (.leaf (153, .ireturn, 1)) (.leaf (154, .aload 6, 2))) (.branch 159 (.leaf (156, .getfield 88, 3)) (.branch 160 (.leaf (159, .iload_n 3, 1)) (.leaf (160, .aload 7, 2))))) (.branch 169 (.branch 165 (.leaf (162, .getfield 88, 3)) (.branch 167 (.leaf (165, .iload 4, 2)) (.leaf (167, .iload 5, 2)))) (.branch 172 (.leaf (169, .invokestatic 92, 3)) (.branch 174 (.leaf (172, .iload 5, 2)) (.leaf (174, .ireturn, 1))))))))
def mc_87 : am_T := .branch 28 (.branch 13 (.branch 7 (.branch 1 (.leaf (0, .iload_n 1, 1)) (.branch 4 (.leaf (1, .invokestatic 47, 3)) (.leaf (4, .ifCond .eq 32, 3)))) (.branch 11 (.branch 8 (.leaf (7, .aload_n 0, 1)) (.leaf (8, .getfield 28, 3))) (.branch 12 (.leaf (11, .iload_n 1, 1)) (.leaf (12, .aaload, 1))))) (.branch 20 (.branch 16 (.leaf (13, .invokevirtual 71, 3)) (.branch 19 (.leaf (16, .ifCond .eq 20, 3)) (.leaf (19, .iload_n 2, 1)))) (.branch 24 (.branch 23 (.leaf (20, .ifCond .lt 16, 3)) (.leaf (23, .iload_n 2, 1))) (.branch 25 (.leaf (24, .aload_n 0, 1)) (.leaf (25, .getfield 28, 3)))))) (.branch 39 (.branch 33 (.branch 29 (.leaf (28, .iload_n 1, 1)) (.branch 30 (.leaf (29, .aaload, 1)) (.leaf (30, .getfield 63, 3)))) (.branch 37 (.branch 36 (.leaf (33, .if_icmp .lt 5, 3)) (.leaf (36, .lconst 0, 1))) (.branch 38 (.leaf (37, .lreturn, 1)) (.leaf (38, .aload_n 0, 1))))) (.branch 44 (.branch 42 (.leaf (39, .getfield 28, 3)) (.branch 43 (.leaf (42, .iload_n 1, 1)) (.leaf (43, .aaload, 1)))) (.branch 48 (.branch 47 (.leaf (44, .getfield 88, 3)) (.leaf (47, .iload_n 2, 1))) (.branch 49 (.leaf (48, .laload, 1)) (.leaf (49, .lreturn, 1))))))
def mc_88 : am_T := .branch 11 (.branch 4 (.branch 1 (.leaf (0, .iload_n 1, 1)) (.leaf (1, .invokestatic 47, 3))) (.branch 7 (.leaf (4, .ifCond .eq 15, 3)) (.branch 8 (.leaf (7, .aload_n 0, 1)) (.leaf (8, .getfield 28, 3))))) (.branch 16 (.branch 12 (.leaf (11, .iload_n 1, 1)) (.branch 13 (.leaf (12, .aaload, 1)) (.leaf (13, .getfield 75, 3)))) (.branch 19 (.leaf (16, .goto 4, 3)) (.branch 20 (.leaf (19, .iconst (-1), 1)) (.leaf (20, .ireturn, 1)))))
def mc_89 : am_T := .branch 31 (.branch 16 (.branch 8 (.branch 4 (.branch 1 (.leaf (0, .iload_n 1, 1)) (.leaf (1, .invokestatic 47, 3))) (.branch 7 (.leaf (4, .ifCond .eq 19, 3)) (.leaf (7, .iload_n 2, 1)))) (.branch 12 (.branch 9 (.leaf (8, .iconst (-1), 1)) (.leaf (9, .if_icmp .eq 21, 3))) (.branch 13 (.leaf (12, .aload_n 0, 1)) (.leaf (13, .getfield 10, 3))))) (.branch 24 (.branch 20 (.branch 17 (.leaf (16, .iload_n 2, 1)) (.leaf (17, .invokevirtual 98, 3))) (.branch 23 (.leaf (20, .ifCond .ne 10, 3)) (.leaf (23, .aload_n 0, 1)))) (.branch 29 (.branch 26 (.leaf (24, .bipush (-2), 2)) (.leaf (26, .invokevirtual 51, 3))) (.branch 30 (.leaf (29, .ireturn, 1)) (.leaf (30, .iload_n 2, 1)))))) (.branch 47 (.branch 39 (.branch 35 (.branch 32 (.leaf (31, .iconst (-1), 1)) (.leaf (32, .if_icmp .ne 15, 3))) (.branch 36 (.leaf (35, .aload_n 0, 1)) (.leaf (36, .getfield 28, 3)))) (.branch 41 (.branch 40 (.leaf (39, .iload_n 1, 1)) (.leaf (40, .aaload, 1))) (.branch 44 (.leaf (41, .invokevirtual 101, 3)) (.leaf (44, .goto 13, 3))))) (.branch 53 (.branch 51 (.branch 48 (.leaf (47, .aload_n 0, 1)) (.leaf (48, .getfield 28, 3))) (.branch 52 (.leaf (51, .iload_n 1, 1)) (.leaf (52, .aaload, 1)))) (.branch 57 (.branch 54 (.leaf (53, .iload_n 2, 1)) (.leaf (54, .invokevirtual 104, 3))) (.branch 58 (.leaf (57, .iconst 1, 1)) (.leaf (58, .ireturn, 1))))))
def mc_90 : am_T := .branch 49 (.branch 25 (.branch 14 (.branch 7 (.branch 1 (.leaf (0, .iload_n 1, 1)) (.branch 4 (.leaf (1, .invokestatic 47, 3)) (.leaf (4, .ifCond .eq 10, 3)))) (.branch 8 (.leaf (7, .iload_n 2, 1)) (.branch 11 (.leaf (8, .invokestatic 108, 3)) (.leaf (11, .ifCond .ne 10, 3))))) (.branch 20 (.branch 15 (.leaf (14, .aload_n 0, 1)) (.branch 17 (.leaf (15, .bipush (-2), 2)) (.leaf (17, .invokevirtual 51, 3)))) (.branch 21 (.leaf (20, .ireturn, 1)) (.branch 22 (.leaf (21, .aload_n 0, 1)) (.leaf (22, .getfield 28, 3)))))) (.branch 34 (.branch 28 (.branch 26 (.leaf (25, .iload_n 1, 1)) (.branch 27 (.leaf (26, .aaload, 1)) (.leaf (27, .astore_n 3, 1)))) (.branch 29 (.leaf (28, .aload_n 3, 1)) (.branch 32 (.leaf (29, .invokevirtual 111, 3)) (.leaf (32, .istore 4, 2))))) (.branch 40 (.branch 35 (.leaf (34, .aload_n 0, 1)) (.branch 38 (.leaf (35, .getfield 10, 3)) (.leaf (38, .iload 4, 2)))) (.branch 45 (.branch 43 (.leaf (40, .invokevirtual 98, 3)) (.leaf (43, .istore 5, 2))) (.branch 46 (.leaf (45, .aload_n 3, 1)) (.leaf (46, .invokevirtual 71, 3))))))) (.branch 77 (.branch 64 (.branch 57 (.branch 52 (.leaf (49, .ifCond .ne 25, 3)) (.branch 54 (.leaf (52, .iload 5, 2)) (.leaf (54, .ifCond .eq 27, 3)))) (.branch 58 (.leaf (57, .aload_n 0, 1)) (.branch 61 (.leaf (58, .getfield 10, 3)) (.leaf (61, .getfield 115, 3))))) (.branch 68 (.branch 66 (.leaf (64, .iload 4, 2)) (.branch 67 (.leaf (66, .aaload, 1)) (.leaf (67, .iload_n 2, 1)))) (.branch 74 (.branch 71 (.leaf (68, .invokevirtual 119, 3)) (.leaf (71, .ifCond .ne 10, 3))) (.branch 75 (.leaf (74, .aload_n 0, 1)) (.leaf (75, .bipush (-3), 2)))))) (.branch 89 (.branch 83 (.branch 80 (.leaf (77, .invokevirtual 51, 3)) (.branch 81 (.leaf (80, .ireturn, 1)) (.leaf (81, .iload 5, 2)))) (.branch 86 (.leaf (83, .ifCond .eq 13, 3)) (.branch 87 (.leaf (86, .aload_n 0, 1)) (.leaf (87, .iload 4, 2))))) (.branch 96 (.branch 90 (.leaf (89, .iload_n 2, 1)) (.branch 93 (.leaf (90, .invokevirtual 122, 3)) (.leaf (93, .goto 9, 3)))) (.branch 99 (.branch 97 (.leaf (96, .aload_n 0, 1)) (.leaf (97, .bipush (-4), 2))) (.branch 102 (.leaf (99, .invokevirtual 51, 3)) (.leaf (102, .ireturn, 1)))))))
def mc_91 : am_T := .branch 28 (.branch 12 (.branch 5 (.branch 1 (.leaf (0, .iload_n 1, 1)) (.branch 2 (.leaf (1, .iconst 2, 1)) (.leaf (2, .if_icmp .lt 9, 3)))) (.branch 8 (.branch 6 (.leaf (5, .iload_n 1, 1)) (.leaf (6, .bipush 6, 2))) (.branch 11 (.leaf (8, .if_icmp .le 10, 3)) (.leaf (11, .aload_n 0, 1))))) (.branch 18 (.branch 14 (.leaf (12, .bipush (-2), 2)) (.branch 17 (.leaf (14, .invokevirtual 51, 3)) (.leaf (17, .ireturn, 1)))) (.branch 22 (.branch 19 (.leaf (18, .aload_n 0, 1)) (.leaf (19, .getfield 10, 3))) (.branch 25 (.leaf (22, .getfield 126, 3)) (.leaf (25, .ifCond .le 10, 3)))))) (.branch 42 (.branch 34 (.branch 29 (.leaf (28, .aload_n 0, 1)) (.branch 31 (.leaf (29, .bipush (-5), 2)) (.leaf (31, .invokevirtual 51, 3)))) (.branch 36 (.branch 35 (.leaf (34, .ireturn, 1)) (.leaf (35, .aload_n 0, 1))) (.branch 39 (.leaf (36, .getfield 10, 3)) (.leaf (39, .getfield 129, 3))))) (.branch 47 (.branch 43 (.leaf (42, .istore_n 2, 1)) (.branch 44 (.leaf (43, .aload_n 0, 1)) (.leaf (44, .getfield 10, 3)))) (.branch 51 (.branch 48 (.leaf (47, .iload_n 1, 1)) (.leaf (48, .putfield 129, 3))) (.branch 52 (.leaf (51, .iload_n 2, 1)) (.leaf (52, .ireturn, 1))))))
def mc_92 : am_T := .branch 37 (.branch 17 (.branch 8 (.branch 4 (.branch 1 (.leaf (0, .aload_n 0, 1)) (.leaf (1, .getfield 10, 3))) (.branch 5 (.leaf (4, .iload_n 1, 1)) (.leaf (5, .invokevirtual 132, 3)))) (.branch 12 (.branch 11 (.leaf (8, .ifCond .eq 14, 3)) (.leaf (11, .iload_n 2, 1))) (.branch 13 (.leaf (12, .iconst 2, 1)) (.branch 16 (.leaf (13, .if_icmp .lt 9, 3)) (.leaf (16, .iload_n 2, 1)))))) (.branch 28 (.branch 22 (.branch 19 (.leaf (17, .bipush 20, 2)) (.leaf (19, .if_icmp .le 10, 3))) (.branch 23 (.leaf (22, .aload_n 0, 1)) (.branch 25 (.leaf (23, .bipush (-2), 2)) (.leaf (25, .invokevirtual 51, 3))))) (.branch 30 (.branch 29 (.leaf (28, .ireturn, 1)) (.leaf (29, .aload_n 0, 1))) (.branch 33 (.leaf (30, .getfield 10, 3)) (.branch 34 (.leaf (33, .iload_n 1, 1)) (.leaf (34, .invokevirtual 135, 3))))))) (.branch 55 (.branch 46 (.branch 41 (.branch 40 (.leaf (37, .ifCond .eq 10, 3)) (.leaf (40, .aload_n 0, 1))) (.branch 43 (.leaf (41, .bipush (-5), 2)) (.leaf (43, .invokevirtual 51, 3)))) (.branch 48 (.branch 47 (.leaf (46, .ireturn, 1)) (.leaf (47, .aload_n 0, 1))) (.branch 51 (.leaf (48, .getfield 10, 3)) (.branch 54 (.leaf (51, .getfield 138, 3)) (.leaf (54, .iload_n 1, 1)))))) (.branch 64 (.branch 57 (.branch 56 (.leaf (55, .iaload, 1)) (.leaf (56, .istore_n 3, 1))) (.branch 58 (.leaf (57, .aload_n 0, 1)) (.branch 61 (.leaf (58, .getfield 10, 3)) (.leaf (61, .getfield 138, 3))))) (.branch 66 (.branch 65 (.leaf (64, .iload_n 1, 1)) (.leaf (65, .iload_n 2, 1))) (.branch 67 (.leaf (66, .iastore, 1)) (.branch 68 (.leaf (67, .iload_n 3, 1)) (.leaf (68, .ireturn, 1)))))))
def mc_93 : am_T := .branch 28 (.branch 13 (.branch 5 (.branch 1 (.leaf (0, .aload_n 0, 1)) (.branch 4 (.leaf (1, .getfield 10, 3)) (.leaf (4, .iload_n 1, 1)))) (.branch 11 (.branch 8 (.leaf (5, .invokevirtual 141, 3)) (.leaf (8, .ifCond .eq 14, 3))) (.branch 12 (.leaf (11, .iload_n 2, 1)) (.leaf (12, .iconst 1, 1))))) (.branch 19 (.branch 16 (.leaf (13, .if_icmp .lt 9, 3)) (.branch 17 (.leaf (16, .iload_n 2, 1)) (.leaf (17, .bipush 9, 2)))) (.branch 23 (.branch 22 (.leaf (19, .if_icmp .le 10, 3)) (.leaf (22, .aload_n 0, 1))) (.branch 25 (.leaf (23, .bipush (-2), 2)) (.leaf (25, .invokevirtual 51, 3)))))) (.branch 39 (.branch 33 (.branch 29 (.leaf (28, .ireturn, 1)) (.branch 30 (.leaf (29, .aload_n 0, 1)) (.leaf (30, .getfield 10, 3)))) (.branch 37 (.branch 36 (.leaf (33, .getfield 144, 3)) (.leaf (36, .iload_n 1, 1))) (.branch 38 (.leaf (37, .iaload, 1)) (.leaf (38, .istore_n 3, 1))))) (.branch 47 (.branch 43 (.branch 40 (.leaf (39, .aload_n 0, 1)) (.leaf (40, .getfield 10, 3))) (.branch 46 (.leaf (43, .getfield 144, 3)) (.leaf (46, .iload_n 1, 1)))) (.branch 49 (.branch 48 (.leaf (47, .iload_n 2, 1)) (.leaf (48, .iastore, 1))) (.branch 50 (.leaf (49, .iload_n 3, 1)) (.leaf (50, .ireturn, 1))))))
def mc_94 : am_T := .branch 34 (.branch 16 (.branch 8 (.branch 4 (.branch 1 (.leaf (0, .iload_n 1, 1)) (.leaf (1, .invokestatic 108, 3))) (.branch 7 (.leaf (4, .ifCond .eq 23, 3)) (.leaf (7, .aload_n 0, 1)))) (.branch 12 (.branch 11 (.leaf (8, .getfield 10, 3)) (.leaf (11, .iload_n 2, 1))) (.branch 13 (.leaf (12, .iload_n 3, 1)) (.leaf (13, .invokevirtual 147, 3))))) (.branch 27 (.branch 21 (.branch 19 (.leaf (16, .ifCond .eq 11, 3)) (.leaf (19, .iload 4, 2))) (.branch 24 (.leaf (21, .invokestatic 150, 3)) (.leaf (24, .ifCond .ne 10, 3)))) (.branch 30 (.branch 28 (.leaf (27, .aload_n 0, 1)) (.leaf (28, .bipush (-2), 2))) (.branch 33 (.leaf (30, .invokevirtual 51, 3)) (.leaf (33, .ireturn, 1)))))) (.branch 51 (.branch 44 (.branch 38 (.branch 35 (.leaf (34, .aload_n 0, 1)) (.leaf (35, .getfield 10, 3))) (.branch 41 (.leaf (38, .invokevirtual 153, 3)) (.leaf (41, .ifCond .eq 10, 3)))) (.branch 47 (.branch 45 (.leaf (44, .aload_n 0, 1)) (.leaf (45, .bipush (-6), 2))) (.branch 50 (.leaf (47, .invokevirtual 51, 3)) (.leaf (50, .ireturn, 1))))) (.branch 57 (.branch 55 (.branch 52 (.leaf (51, .aload_n 0, 1)) (.leaf (52, .getfield 10, 3))) (.branch 56 (.leaf (55, .iload_n 1, 1)) (.leaf (56, .iload_n 2, 1)))) (.branch 60 (.branch 58 (.leaf (57, .iload_n 3, 1)) (.leaf (58, .iload 4, 2))) (.branch 63 (.leaf (60, .invokevirtual 156, 3)) (.leaf (63, .ireturn, 1))))))
def mc_95 : am_T := .branch 29 (.branch 15 (.branch 5 (.branch 1 (.leaf (0, .aload_n 0, 1)) (.branch 4 (.leaf (1, .getfield 10, 3)) (.leaf (4, .iload_n 1, 1)))) (.branch 11 (.branch 8 (.leaf (5, .invokevirtual 98, 3)) (.leaf (8, .ifCond .eq 10, 3))) (.branch 12 (.leaf (11, .iload_n 2, 1)) (.leaf (12, .invokestatic 150, 3))))) (.branch 21 (.branch 18 (.leaf (15, .ifCond .ne 10, 3)) (.branch 19 (.leaf (18, .aload_n 0, 1)) (.leaf (19, .bipush (-2), 2)))) (.branch 25 (.branch 24 (.leaf (21, .invokevirtual 51, 3)) (.leaf (24, .ireturn, 1))) (.branch 26 (.leaf (25, .aload_n 0, 1)) (.leaf (26, .getfield 10, 3)))))) (.branch 42 (.branch 34 (.branch 32 (.leaf (29, .getfield 115, 3)) (.branch 33 (.leaf (32, .iload_n 1, 1)) (.leaf (33, .aaload, 1)))) (.branch 38 (.branch 37 (.leaf (34, .getfield 160, 3)) (.leaf (37, .istore_n 3, 1))) (.branch 39 (.leaf (38, .aload_n 0, 1)) (.leaf (39, .getfield 10, 3))))) (.branch 47 (.branch 45 (.leaf (42, .getfield 115, 3)) (.branch 46 (.leaf (45, .iload_n 1, 1)) (.leaf (46, .aaload, 1)))) (.branch 51 (.branch 48 (.leaf (47, .iload_n 2, 1)) (.leaf (48, .putfield 160, 3))) (.branch 52 (.leaf (51, .iload_n 3, 1)) (.leaf (52, .ireturn, 1))))))
def mc_96 : am_T := .branch 38 (.branch 18 (.branch 8 (.branch 4 (.branch 1 (.leaf (0, .iload_n 1, 1)) (.leaf (1, .ifCond .lt 10, 3))) (.branch 5 (.leaf (4, .iload_n 1, 1)) (.leaf (5, .sipush 255, 3)))) (.branch 12 (.branch 11 (.leaf (8, .if_icmp .le 10, 3)) (.leaf (11, .aload_n 0, 1))) (.branch 14 (.leaf (12, .bipush (-2), 2)) (.branch 17 (.leaf (14, .invokevirtual 51, 3)) (.leaf (17, .ireturn, 1)))))) (.branch 28 (.branch 22 (.branch 19 (.leaf (18, .aload_n 0, 1)) (.leaf (19, .getfield 22, 3))) (.branch 25 (.leaf (22, .getfield 163, 3)) (.leaf (25, .sipush 250, 3)))) (.branch 32 (.branch 31 (.leaf (28, .if_icmp .lt 10, 3)) (.leaf (31, .aload_n 0, 1))) (.branch 34 (.leaf (32, .bipush (-6), 2)) (.branch 37 (.leaf (34, .invokevirtual 51, 3)) (.leaf (37, .ireturn, 1))))))) (.branch 55 (.branch 46 (.branch 42 (.branch 39 (.leaf (38, .aload_n 0, 1)) (.leaf (39, .getfield 22, 3))) (.branch 45 (.leaf (42, .getfield 164, 3)) (.leaf (45, .aload_n 0, 1)))) (.branch 52 (.branch 49 (.leaf (46, .getfield 22, 3)) (.leaf (49, .getfield 163, 3))) (.branch 53 (.leaf (52, .iload_n 1, 1)) (.branch 54 (.leaf (53, .iastore, 1)) (.leaf (54, .aload_n 0, 1)))))) (.branch 64 (.branch 59 (.branch 58 (.leaf (55, .getfield 22, 3)) (.leaf (58, .dup, 1))) (.branch 62 (.leaf (59, .getfield 163, 3)) (.branch 63 (.leaf (62, .iconst 1, 1)) (.leaf (63, .iadd, 1))))) (.branch 68 (.branch 67 (.leaf (64, .putfield 163, 3)) (.leaf (67, .aload_n 0, 1))) (.branch 71 (.leaf (68, .getfield 22, 3)) (.branch 74 (.leaf (71, .getfield 163, 3)) (.leaf (74, .ireturn, 1)))))))
def mc_97 : am_T := .branch 9 (.branch 4 (.branch 1 (.leaf (0, .aload_n 0, 1)) (.leaf (1, .getfield 22, 3))) (.branch 7 (.leaf (4, .getfield 163, 3)) (.branch 8 (.leaf (7, .istore_n 1, 1)) (.leaf (8, .aload_n 0, 1))))) (.branch 13 (.branch 12 (.leaf (9, .getfield 22, 3)) (.leaf (12, .iconst 0, 1))) (.branch 16 (.leaf (13, .putfield 163, 3)) (.branch 17 (.leaf (16, .iload_n 1, 1)) (.leaf (17, .ireturn, 1)))))
def mc_98 : am_T := .branch 32 (.branch 16 (.branch 8 (.branch 4 (.branch 1 (.leaf (0, .aload_n 0, 1)) (.leaf (1, .getfield 22, 3))) (.branch 5 (.leaf (4, .aload_n 0, 1)) (.leaf (5, .getfield 10, 3)))) (.branch 12 (.branch 11 (.leaf (8, .invokevirtual 167, 3)) (.leaf (11, .istore_n 1, 1))) (.branch 13 (.leaf (12, .aload_n 0, 1)) (.leaf (13, .getfield 22, 3))))) (.branch 24 (.branch 20 (.branch 17 (.leaf (16, .iconst 0, 1)) (.leaf (17, .putfield 163, 3))) (.branch 21 (.leaf (20, .aload_n 0, 1)) (.leaf (21, .getfield 22, 3)))) (.branch 28 (.branch 27 (.leaf (24, .getfield 171, 3)) (.leaf (27, .iconst (-1), 1))) (.branch 31 (.leaf (28, .if_icmp .eq 21, 3)) (.leaf (31, .aload_n 0, 1)))))) (.branch 48 (.branch 40 (.branch 37 (.branch 34 (.leaf (32, .bipush (-2), 2)) (.leaf (34, .invokevirtual 51, 3))) (.branch 38 (.leaf (37, .pop, 1)) (.leaf (38, .bipush (-20), 2)))) (.branch 44 (.branch 41 (.leaf (40, .aload_n 0, 1)) (.leaf (41, .getfield 22, 3))) (.branch 47 (.leaf (44, .getfield 171, 3)) (.leaf (47, .isub, 1))))) (.branch 54 (.branch 50 (.branch 49 (.leaf (48, .ireturn, 1)) (.leaf (49, .aload_n 0, 1))) (.branch 53 (.leaf (50, .getfield 10, 3)) (.leaf (53, .aload_n 0, 1)))) (.branch 60 (.branch 57 (.leaf (54, .getfield 22, 3)) (.leaf (57, .getfield 174, 3))) (.branch 63 (.leaf (60, .invokevirtual 177, 3)) (.branch 64 (.leaf (63, .iload_n 1, 1)) (.leaf (64, .ireturn, 1)))))))
def mc_99 : am_T := .branch 65 (.branch 18 (.branch 8 (.branch 4 (.branch 1 (.leaf (0, .aload_n 0, 1)) (.leaf (1, .getfield 10, 3))) (.branch 5 (.leaf (4, .iload_n 1, 1)) (.leaf (5, .invokevirtual 98, 3)))) (.branch 12 (.branch 11 (.leaf (8, .ifCond .ne 10, 3)) (.leaf (11, .aload_n 0, 1))) (.branch 14 (.leaf (12, .bipush (-2), 2)) (.branch 17 (.leaf (14, .invokevirtual 51, 3)) (.leaf (17, .ireturn, 1)))))) (.branch 26 (.branch 22 (.branch 19 (.leaf (18, .aload_n 0, 1)) (.leaf (19, .getfield 10, 3))) (.branch 25 (.leaf (22, .getfield 115, 3)) (.leaf (25, .iload_n 1, 1)))) (.branch 28 (.branch 27 (.leaf (26, .aaload, 1)) (.leaf (27, .astore_n 3, 1))) (.branch 29 (.leaf (28, .iload_n 2, 1)) (.branch 64 (.leaf (29, .tableswitch 60 0 4 #[35, 40, 45, 50, 55], 35)) (.leaf (64, .aload_n 3, 1))))))) (.branch 80 (.branch 73 (.branch 69 (.branch 68 (.leaf (65, .getfield 181, 3)) (.leaf (68, .ireturn, 1))) (.branch 70 (.leaf (69, .aload_n 3, 1)) (.leaf (70, .getfield 184, 3)))) (.branch 75 (.branch 74 (.leaf (73, .ireturn, 1)) (.leaf (74, .aload_n 3, 1))) (.branch 78 (.leaf (75, .getfield 187, 3)) (.branch 79 (.leaf (78, .ireturn, 1)) (.leaf (79, .aload_n 3, 1)))))) (.branch 88 (.branch 84 (.branch 83 (.leaf (80, .getfield 160, 3)) (.leaf (83, .ireturn, 1))) (.branch 85 (.leaf (84, .aload_n 3, 1)) (.leaf (85, .getfield 190, 3)))) (.branch 90 (.branch 89 (.leaf (88, .ireturn, 1)) (.leaf (89, .aload_n 0, 1))) (.branch 92 (.leaf (90, .bipush (-2), 2)) (.branch 95 (.leaf (92, .invokevirtual 51, 3)) (.leaf (95, .ireturn, 1)))))))
def mc_100 : am_T := .branch 58 (.branch 18 (.branch 8 (.branch 4 (.branch 1 (.leaf (0, .aload_n 0, 1)) (.leaf (1, .getfield 10, 3))) (.branch 5 (.leaf (4, .iload_n 1, 1)) (.leaf (5, .invokevirtual 132, 3)))) (.branch 12 (.branch 11 (.leaf (8, .ifCond .ne 10, 3)) (.leaf (11, .aload_n 0, 1))) (.branch 14 (.leaf (12, .bipush (-2), 2)) (.branch 17 (.leaf (14, .invokevirtual 51, 3)) (.leaf (17, .ireturn, 1)))))) (.branch 51 (.branch 44 (.branch 19 (.leaf (18, .iload_n 2, 1)) (.leaf (19, .tableswitch 69 0 2 #[25, 35, 60], 25))) (.branch 45 (.leaf (44, .aload_n 0, 1)) (.branch 48 (.leaf (45, .getfield 10, 3)) (.leaf (48, .getfield 138, 3))))) (.branch 53 (.branch 52 (.leaf (51, .iload_n 1, 1)) (.leaf (52, .iaload, 1))) (.branch 54 (.leaf (53, .ireturn, 1)) (.branch 55 (.leaf (54, .aload_n 0, 1)) (.leaf (55, .getfield 10, 3))))))) (.branch 78 (.branch 69 (.branch 62 (.branch 59 (.leaf (58, .iload_n 1, 1)) (.leaf (59, .invokevirtual 141, 3))) (.branch 65 (.leaf (62, .ifCond .eq 15, 3)) (.branch 66 (.leaf (65, .aload_n 0, 1)) (.leaf (66, .getfield 10, 3))))) (.branch 73 (.branch 72 (.leaf (69, .getfield 144, 3)) (.leaf (72, .iload_n 1, 1))) (.branch 74 (.leaf (73, .iaload, 1)) (.branch 77 (.leaf (74, .goto 4, 3)) (.leaf (77, .iconst 0, 1)))))) (.branch 87 (.branch 80 (.branch 79 (.leaf (78, .ireturn, 1)) (.leaf (79, .aload_n 0, 1))) (.branch 83 (.leaf (80, .getfield 10, 3)) (.branch 84 (.leaf (83, .iload_n 1, 1)) (.leaf (84, .invokevirtual 135, 3))))) (.branch 89 (.branch 88 (.leaf (87, .ireturn, 1)) (.leaf (88, .aload_n 0, 1))) (.branch 91 (.leaf (89, .bipush (-2), 2)) (.branch 94 (.leaf (91, .invokevirtual 51, 3)) (.leaf (94, .ireturn, 1)))))))
def mc_101 : am_T := .branch 34 (.branch 18 (.branch 8 (.branch 4 (.branch 1 (.leaf (0, .aload_n 0, 1)) (.leaf (1, .getfield 10, 3))) (.branch 5 (.leaf (4, .iload_n 1, 1)) (.leaf (5, .invokevirtual 98, 3)))) (.branch 12 (.branch 11 (.leaf (8, .ifCond .eq 10, 3)) (.leaf (11, .iload_n 2, 1))) (.branch 15 (.leaf (12, .invokestatic 193, 3)) (.leaf (15, .ifCond .ne 10, 3))))) (.branch 25 (.branch 21 (.branch 19 (.leaf (18, .aload_n 0, 1)) (.leaf (19, .bipush (-2), 2))) (.branch 24 (.leaf (21, .invokevirtual 51, 3)) (.leaf (24, .ireturn, 1)))) (.branch 29 (.branch 26 (.leaf (25, .aload_n 0, 1)) (.leaf (26, .getfield 10, 3))) (.branch 32 (.leaf (29, .getfield 115, 3)) (.branch 33 (.leaf (32, .iload_n 1, 1)) (.leaf (33, .aaload, 1))))))) (.branch 48 (.branch 40 (.branch 36 (.branch 35 (.leaf (34, .astore_n 3, 1)) (.leaf (35, .aload_n 0, 1))) (.branch 39 (.leaf (36, .getfield 10, 3)) (.leaf (39, .aload_n 3, 1)))) (.branch 44 (.branch 41 (.leaf (40, .iload_n 2, 1)) (.leaf (41, .invokevirtual 196, 3))) (.branch 47 (.leaf (44, .ifCond .eq 19, 3)) (.leaf (47, .aload_n 0, 1))))) (.branch 56 (.branch 52 (.branch 51 (.leaf (48, .getfield 10, 3)) (.leaf (51, .aload_n 3, 1))) (.branch 53 (.leaf (52, .aload_n 3, 1)) (.leaf (53, .getfield 184, 3)))) (.branch 60 (.branch 57 (.leaf (56, .iload_n 2, 1)) (.leaf (57, .invokevirtual 200, 3))) (.branch 63 (.leaf (60, .goto 4, 3)) (.branch 64 (.leaf (63, .iconst (-1), 1)) (.leaf (64, .ireturn, 1)))))))
def mc_102 : am_T := .branch 38 (.branch 19 (.branch 8 (.branch 4 (.branch 1 (.leaf (0, .aload_n 0, 1)) (.leaf (1, .getfield 10, 3))) (.branch 5 (.leaf (4, .iload_n 1, 1)) (.leaf (5, .invokevirtual 98, 3)))) (.branch 12 (.branch 11 (.leaf (8, .ifCond .eq 14, 3)) (.leaf (11, .iload_n 2, 1))) (.branch 15 (.leaf (12, .ifCond .lt 10, 3)) (.branch 16 (.leaf (15, .iload_n 2, 1)) (.leaf (16, .sipush 400, 3)))))) (.branch 29 (.branch 23 (.branch 22 (.leaf (19, .if_icmp .le 10, 3)) (.leaf (22, .aload_n 0, 1))) (.branch 25 (.leaf (23, .bipush (-2), 2)) (.branch 28 (.leaf (25, .invokevirtual 51, 3)) (.leaf (28, .ireturn, 1))))) (.branch 33 (.branch 30 (.leaf (29, .aload_n 0, 1)) (.leaf (30, .getfield 10, 3))) (.branch 36 (.leaf (33, .getfield 115, 3)) (.branch 37 (.leaf (36, .iload_n 1, 1)) (.leaf (37, .aaload, 1))))))) (.branch 81 (.branch 73 (.branch 41 (.branch 40 (.leaf (38, .astore 4, 2)) (.leaf (40, .iload_n 3, 1))) (.branch 68 (.leaf (41, .tableswitch 51 0 2 #[27, 33, 44], 27)) (.branch 70 (.leaf (68, .aload 4, 2)) (.leaf (70, .getfield 184, 3))))) (.branch 75 (.branch 74 (.leaf (73, .ireturn, 1)) (.leaf (74, .aload_n 0, 1))) (.branch 78 (.leaf (75, .getfield 10, 3)) (.branch 80 (.leaf (78, .aload 4, 2)) (.leaf (80, .iload_n 2, 1)))))) (.branch 91 (.branch 85 (.branch 84 (.leaf (81, .invokevirtual 204, 3)) (.leaf (84, .ireturn, 1))) (.branch 87 (.leaf (85, .aload 4, 2)) (.branch 88 (.leaf (87, .iload_n 2, 1)) (.leaf (88, .invokevirtual 208, 3))))) (.branch 93 (.branch 92 (.leaf (91, .ireturn, 1)) (.leaf (92, .aload_n 0, 1))) (.branch 95 (.leaf (93, .bipush (-2), 2)) (.branch 98 (.leaf (95, .invokevirtual 51, 3)) (.leaf (98, .ireturn, 1)))))))
def mc_103 : am_T := .branch 26 (.branch 12 (.branch 5 (.branch 1 (.leaf (0, .aload_n 0, 1)) (.branch 4 (.leaf (1, .getfield 10, 3)) (.leaf (4, .iload_n 1, 1)))) (.branch 6 (.leaf (5, .iload_n 2, 1)) (.branch 9 (.leaf (6, .invokevirtual 211, 3)) (.leaf (9, .ifCond .ne 10, 3))))) (.branch 18 (.branch 13 (.leaf (12, .aload_n 0, 1)) (.branch 15 (.leaf (13, .bipush (-2), 2)) (.leaf (15, .invokevirtual 51, 3)))) (.branch 20 (.branch 19 (.leaf (18, .ireturn, 1)) (.leaf (19, .aload_n 0, 1))) (.branch 23 (.leaf (20, .getfield 10, 3)) (.leaf (23, .getfield 115, 3)))))) (.branch 36 (.branch 29 (.branch 27 (.leaf (26, .iload_n 1, 1)) (.branch 28 (.leaf (27, .aaload, 1)) (.leaf (28, .aload_n 0, 1)))) (.branch 32 (.leaf (29, .getfield 10, 3)) (.branch 35 (.leaf (32, .getfield 115, 3)) (.leaf (35, .iload_n 2, 1))))) (.branch 43 (.branch 37 (.leaf (36, .aaload, 1)) (.branch 40 (.leaf (37, .invokevirtual 214, 3)) (.leaf (40, .ifCond .eq 7, 3)))) (.branch 47 (.branch 44 (.leaf (43, .iconst 1, 1)) (.leaf (44, .goto 4, 3))) (.branch 48 (.leaf (47, .iconst 0, 1)) (.leaf (48, .ireturn, 1))))))
def mc_104 : am_T := .branch 20 (.branch 8 (.branch 3 (.branch 1 (.leaf (0, .aload_n 0, 1)) (.branch 2 (.leaf (1, .iload_n 1, 1)) (.leaf (2, .aload_n 0, 1)))) (.branch 4 (.leaf (3, .iload_n 2, 1)) (.branch 5 (.leaf (4, .iload_n 3, 1)) (.leaf (5, .invokevirtual 218, 3))))) (.branch 14 (.branch 9 (.leaf (8, .iload_n 2, 1)) (.branch 12 (.leaf (9, .invokevirtual 59, 3)) (.leaf (12, .istore 4, 2)))) (.branch 16 (.leaf (14, .iload 4, 2)) (.branch 19 (.leaf (16, .ifCond .eq 12, 3)) (.leaf (19, .aload_n 0, 1)))))) (.branch 33 (.branch 28 (.branch 22 (.leaf (20, .iload 4, 2)) (.branch 25 (.leaf (22, .invokevirtual 51, 3)) (.leaf (25, .goto 15, 3)))) (.branch 29 (.leaf (28, .aload_n 0, 1)) (.branch 30 (.leaf (29, .aload_n 0, 1)) (.leaf (30, .getfield 28, 3))))) (.branch 36 (.branch 34 (.leaf (33, .iload_n 1, 1)) (.branch 35 (.leaf (34, .aaload, 1)) (.leaf (35, .iload_n 2, 1)))) (.branch 37 (.leaf (36, .iload_n 3, 1)) (.branch 40 (.leaf (37, .invokevirtual 221, 3)) (.leaf (40, .ireturn, 1))))))
def mc_105 : am_T := .branch 51 (.branch 26 (.branch 11 (.branch 3 (.branch 1 (.leaf (0, .aload_n 0, 1)) (.branch 2 (.leaf (1, .iload_n 1, 1)) (.leaf (2, .aload_n 0, 1)))) (.branch 5 (.branch 4 (.leaf (3, .iload_n 2, 1)) (.leaf (4, .iload_n 3, 1))) (.branch 8 (.leaf (5, .invokevirtual 218, 3)) (.leaf (8, .ifCond .eq 18, 3))))) (.branch 18 (.branch 13 (.leaf (11, .iload 4, 2)) (.branch 16 (.leaf (13, .ifCond .lt 13, 3)) (.leaf (16, .iload 4, 2)))) (.branch 22 (.branch 19 (.leaf (18, .iconst 3, 1)) (.leaf (19, .if_icmp .gt 7, 3))) (.branch 23 (.leaf (22, .iconst 1, 1)) (.leaf (23, .goto 4, 3)))))) (.branch 39 (.branch 31 (.branch 27 (.leaf (26, .iconst 0, 1)) (.branch 28 (.leaf (27, .iload_n 2, 1)) (.leaf (28, .invokevirtual 59, 3)))) (.branch 35 (.branch 33 (.leaf (31, .istore 5, 2)) (.leaf (33, .iload 5, 2))) (.branch 38 (.leaf (35, .ifCond .eq 10, 3)) (.leaf (38, .aload_n 0, 1))))) (.branch 45 (.branch 41 (.leaf (39, .iload 5, 2)) (.branch 44 (.leaf (41, .invokevirtual 51, 3)) (.leaf (44, .ireturn, 1)))) (.branch 47 (.branch 46 (.leaf (45, .aload_n 0, 1)) (.leaf (46, .aload_n 0, 1))) (.branch 50 (.leaf (47, .getfield 28, 3)) (.leaf (50, .iload_n 1, 1))))))) (.branch 100 (.branch 62 (.branch 54 (.branch 52 (.leaf (51, .aaload, 1)) (.branch 53 (.leaf (52, .iload_n 2, 1)) (.leaf (53, .iload_n 3, 1)))) (.branch 58 (.branch 57 (.leaf (54, .invokevirtual 221, 3)) (.leaf (57, .iconst (-1), 1))) (.branch 61 (.leaf (58, .if_icmp .eq 10, 3)) (.leaf (61, .aload_n 0, 1))))) (.branch 68 (.branch 64 (.leaf (62, .bipush (-5), 2)) (.branch 67 (.leaf (64, .invokevirtual 51, 3)) (.leaf (67, .ireturn, 1)))) (.branch 96 (.branch 70 (.leaf (68, .iload 4, 2)) (.leaf (70, .tableswitch 50 0 2 #[26, 34, 42], 26))) (.branch 97 (.leaf (96, .aload_n 0, 1)) (.leaf (97, .getfield 39, 3)))))) (.branch 113 (.branch 105 (.branch 103 (.leaf (100, .getfield 184, 3)) (.branch 104 (.leaf (103, .ireturn, 1)) (.leaf (104, .aload_n 0, 1)))) (.branch 111 (.branch 108 (.leaf (105, .getfield 39, 3)) (.leaf (108, .getfield 187, 3))) (.branch 112 (.leaf (111, .ireturn, 1)) (.leaf (112, .aload_n 0, 1))))) (.branch 120 (.branch 116 (.leaf (113, .getfield 39, 3)) (.branch 119 (.leaf (116, .getfield 160, 3)) (.leaf (119, .ireturn, 1)))) (.branch 124 (.branch 121 (.leaf (120, .aload_n 0, 1)) (.leaf (121, .getfield 39, 3))) (.branch 127 (.leaf (124, .getfield 190, 3)) (.leaf (127, .ireturn, 1)))))))
def mc_106 : am_T := .branch 46 (.branch 21 (.branch 8 (.branch 3 (.branch 1 (.leaf (0, .aload_n 0, 1)) (.branch 2 (.leaf (1, .iload_n 1, 1)) (.leaf (2, .aload_n 0, 1)))) (.branch 4 (.leaf (3, .iload_n 2, 1)) (.branch 5 (.leaf (4, .iload_n 3, 1)) (.leaf (5, .invokevirtual 218, 3))))) (.branch 15 (.branch 11 (.leaf (8, .ifCond .eq 20, 3)) (.branch 12 (.leaf (11, .aload_n 0, 1)) (.leaf (12, .getfield 10, 3)))) (.branch 16 (.leaf (15, .iload_n 3, 1)) (.branch 18 (.leaf (16, .iload 4, 2)) (.leaf (18, .invokevirtual 211, 3)))))) (.branch 33 (.branch 28 (.branch 24 (.leaf (21, .ifCond .eq 7, 3)) (.branch 25 (.leaf (24, .iconst 1, 1)) (.leaf (25, .goto 4, 3)))) (.branch 29 (.leaf (28, .iconst 0, 1)) (.branch 30 (.leaf (29, .iload_n 2, 1)) (.leaf (30, .invokevirtual 59, 3))))) (.branch 40 (.branch 35 (.leaf (33, .istore 5, 2)) (.branch 37 (.leaf (35, .iload 5, 2)) (.leaf (37, .ifCond .eq 10, 3)))) (.branch 41 (.leaf (40, .aload_n 0, 1)) (.branch 43 (.leaf (41, .iload 5, 2)) (.leaf (43, .invokevirtual 51, 3))))))) (.branch 64 (.branch 54 (.branch 49 (.branch 47 (.leaf (46, .ireturn, 1)) (.branch 48 (.leaf (47, .aload_n 0, 1)) (.leaf (48, .aload_n 0, 1)))) (.branch 52 (.leaf (49, .getfield 28, 3)) (.branch 53 (.leaf (52, .iload_n 1, 1)) (.leaf (53, .aaload, 1))))) (.branch 59 (.branch 55 (.leaf (54, .iload_n 2, 1)) (.branch 56 (.leaf (55, .iload_n 3, 1)) (.leaf (56, .invokevirtual 221, 3)))) (.branch 60 (.leaf (59, .iconst (-1), 1)) (.branch 63 (.leaf (60, .if_icmp .eq 10, 3)) (.leaf (63, .aload_n 0, 1)))))) (.branch 75 (.branch 70 (.branch 66 (.leaf (64, .bipush (-5), 2)) (.branch 69 (.leaf (66, .invokevirtual 51, 3)) (.leaf (69, .ireturn, 1)))) (.branch 71 (.leaf (70, .aload_n 0, 1)) (.branch 72 (.leaf (71, .aload_n 0, 1)) (.leaf (72, .getfield 28, 3))))) (.branch 78 (.branch 76 (.leaf (75, .iload_n 1, 1)) (.branch 77 (.leaf (76, .aaload, 1)) (.leaf (77, .iload_n 2, 1)))) (.branch 81 (.branch 79 (.leaf (78, .iload_n 3, 1)) (.leaf (79, .iload 4, 2))) (.branch 84 (.leaf (81, .invokevirtual 225, 3)) (.leaf (84, .ireturn, 1)))))))
def mc_107 : am_T := .branch 26 (.branch 12 (.branch 5 (.branch 1 (.leaf (0, .aload_n 0, 1)) (.branch 4 (.leaf (1, .getfield 10, 3)) (.leaf (4, .iload_n 1, 1)))) (.branch 6 (.leaf (5, .iload_n 2, 1)) (.branch 9 (.leaf (6, .invokevirtual 211, 3)) (.leaf (9, .ifCond .eq 10, 3))))) (.branch 19 (.branch 13 (.leaf (12, .iload_n 3, 1)) (.branch 16 (.leaf (13, .invokestatic 229, 3)) (.leaf (16, .ifCond .ne 10, 3)))) (.branch 22 (.branch 20 (.leaf (19, .aload_n 0, 1)) (.leaf (20, .bipush (-2), 2))) (.branch 25 (.leaf (22, .invokevirtual 51, 3)) (.leaf (25, .ireturn, 1)))))) (.branch 38 (.branch 31 (.branch 27 (.leaf (26, .aload_n 0, 1)) (.branch 30 (.leaf (27, .invokevirtual 232, 3)) (.leaf (30, .aload_n 0, 1)))) (.branch 34 (.leaf (31, .getfield 10, 3)) (.branch 37 (.leaf (34, .getfield 115, 3)) (.leaf (37, .iload_n 1, 1))))) (.branch 41 (.branch 39 (.leaf (38, .aaload, 1)) (.branch 40 (.leaf (39, .iconst 1, 1)) (.leaf (40, .iload_n 2, 1)))) (.branch 43 (.branch 42 (.leaf (41, .ishl, 1)) (.leaf (42, .iload_n 3, 1))) (.branch 46 (.leaf (43, .invokevirtual 236, 3)) (.leaf (46, .ireturn, 1))))))
def mc_108 : am_T := .branch 20 (.branch 9 (.branch 4 (.branch 1 (.leaf (0, .aload_n 0, 1)) (.leaf (1, .getfield 10, 3))) (.branch 5 (.leaf (4, .iload_n 1, 1)) (.branch 6 (.leaf (5, .iload_n 2, 1)) (.leaf (6, .invokevirtual 211, 3))))) (.branch 15 (.branch 12 (.leaf (9, .ifCond .ne 10, 3)) (.branch 13 (.leaf (12, .aload_n 0, 1)) (.leaf (13, .bipush (-2), 2)))) (.branch 18 (.leaf (15, .invokevirtual 51, 3)) (.branch 19 (.leaf (18, .ireturn, 1)) (.leaf (19, .aload_n 0, 1)))))) (.branch 31 (.branch 24 (.branch 23 (.leaf (20, .invokevirtual 232, 3)) (.leaf (23, .aload_n 0, 1))) (.branch 27 (.leaf (24, .getfield 10, 3)) (.branch 30 (.leaf (27, .getfield 115, 3)) (.leaf (30, .iload_n 1, 1))))) (.branch 34 (.branch 32 (.leaf (31, .aaload, 1)) (.branch 33 (.leaf (32, .iconst 1, 1)) (.leaf (33, .iload_n 2, 1)))) (.branch 35 (.leaf (34, .ishl, 1)) (.branch 38 (.leaf (35, .invokevirtual 241, 3)) (.leaf (38, .ireturn, 1))))))
def mc_109 : am_T := .branch 31 (.branch 16 (.branch 6 (.branch 4 (.branch 1 (.leaf (0, .aload_n 0, 1)) (.leaf (1, .getfield 10, 3))) (.branch 5 (.leaf (4, .iload_n 1, 1)) (.leaf (5, .iload_n 2, 1)))) (.branch 12 (.branch 9 (.leaf (6, .invokevirtual 211, 3)) (.leaf (9, .ifCond .eq 7, 3))) (.branch 13 (.leaf (12, .iload_n 3, 1)) (.leaf (13, .ifCond .ge 10, 3))))) (.branch 23 (.branch 19 (.branch 17 (.leaf (16, .aload_n 0, 1)) (.leaf (17, .bipush (-2), 2))) (.branch 22 (.leaf (19, .invokevirtual 51, 3)) (.leaf (22, .ireturn, 1)))) (.branch 27 (.branch 24 (.leaf (23, .aload_n 0, 1)) (.leaf (24, .invokevirtual 232, 3))) (.branch 28 (.leaf (27, .aload_n 0, 1)) (.leaf (28, .getfield 10, 3)))))) (.branch 45 (.branch 37 (.branch 35 (.branch 34 (.leaf (31, .getfield 115, 3)) (.leaf (34, .iload_n 1, 1))) (.branch 36 (.leaf (35, .aaload, 1)) (.leaf (36, .iload_n 2, 1)))) (.branch 41 (.branch 38 (.leaf (37, .iload_n 3, 1)) (.leaf (38, .invokevirtual 244, 3))) (.branch 43 (.leaf (41, .istore 4, 2)) (.leaf (43, .iload 4, 2))))) (.branch 52 (.branch 49 (.branch 46 (.leaf (45, .iconst (-1), 1)) (.leaf (46, .if_icmp .ne 12, 3))) (.branch 50 (.leaf (49, .aload_n 0, 1)) (.leaf (50, .bipush (-5), 2)))) (.branch 58 (.branch 55 (.leaf (52, .invokevirtual 51, 3)) (.leaf (55, .goto 5, 3))) (.branch 60 (.leaf (58, .iload 4, 2)) (.leaf (60, .ireturn, 1))))))
def mc_110 : am_T := .branch 33 (.branch 18 (.branch 8 (.branch 4 (.branch 1 (.leaf (0, .aload_n 0, 1)) (.leaf (1, .getfield 10, 3))) (.branch 5 (.leaf (4, .iload_n 1, 1)) (.leaf (5, .invokevirtual 98, 3)))) (.branch 12 (.branch 11 (.leaf (8, .ifCond .eq 19, 3)) (.leaf (11, .iload_n 3, 1))) (.branch 15 (.leaf (12, .invokestatic 229, 3)) (.leaf (15, .ifCond .eq 12, 3))))) (.branch 24 (.branch 20 (.branch 19 (.leaf (18, .aload_n 0, 1)) (.leaf (19, .iload_n 1, 1))) (.branch 21 (.leaf (20, .iload_n 2, 1)) (.leaf (21, .invokevirtual 247, 3)))) (.branch 28 (.branch 27 (.leaf (24, .ifCond .ne 10, 3)) (.leaf (27, .aload_n 0, 1))) (.branch 30 (.leaf (28, .bipush (-2), 2)) (.leaf (30, .invokevirtual 51, 3)))))) (.branch 47 (.branch 39 (.branch 35 (.branch 34 (.leaf (33, .ireturn, 1)) (.leaf (34, .iload_n 2, 1))) (.branch 38 (.leaf (35, .ifCond .ne 7, 3)) (.leaf (38, .iconst 0, 1)))) (.branch 43 (.branch 42 (.leaf (39, .goto 21, 3)) (.leaf (42, .aload_n 0, 1))) (.branch 46 (.leaf (43, .invokevirtual 232, 3)) (.leaf (46, .aload_n 0, 1))))) (.branch 55 (.branch 53 (.branch 50 (.leaf (47, .getfield 10, 3)) (.leaf (50, .getfield 115, 3))) (.branch 54 (.leaf (53, .iload_n 1, 1)) (.leaf (54, .aaload, 1)))) (.branch 57 (.branch 56 (.leaf (55, .iload_n 2, 1)) (.leaf (56, .iload_n 3, 1))) (.branch 60 (.leaf (57, .invokevirtual 236, 3)) (.leaf (60, .ireturn, 1))))))
def mc_111 : am_T := .branch 61 (.branch 31 (.branch 16 (.branch 8 (.branch 4 (.branch 1 (.leaf (0, .aload_n 0, 1)) (.leaf (1, .getfield 10, 3))) (.branch 5 (.leaf (4, .iload_n 1, 1)) (.leaf (5, .invokevirtual 98, 3)))) (.branch 12 (.branch 11 (.leaf (8, .ifCond .eq 12, 3)) (.leaf (11, .iload_n 2, 1))) (.branch 15 (.leaf (12, .ifCond .lt 8, 3)) (.leaf (15, .iload_n 2, 1))))) (.branch 23 (.branch 20 (.branch 17 (.leaf (16, .iconst 1, 1)) (.leaf (17, .if_icmp .le 10, 3))) (.branch 21 (.leaf (20, .aload_n 0, 1)) (.leaf (21, .bipush (-2), 2)))) (.branch 27 (.branch 26 (.leaf (23, .invokevirtual 51, 3)) (.leaf (26, .ireturn, 1))) (.branch 28 (.leaf (27, .aload_n 0, 1)) (.leaf (28, .getfield 10, 3)))))) (.branch 45 (.branch 37 (.branch 35 (.branch 34 (.leaf (31, .getfield 115, 3)) (.leaf (34, .iload_n 1, 1))) (.branch 36 (.leaf (35, .aaload, 1)) (.leaf (36, .astore_n 3, 1)))) (.branch 41 (.branch 38 (.leaf (37, .aload_n 3, 1)) (.leaf (38, .getfield 184, 3))) (.branch 44 (.leaf (41, .ifCond .le 17, 3)) (.leaf (44, .aload_n 3, 1))))) (.branch 54 (.branch 51 (.branch 48 (.leaf (45, .invokevirtual 250, 3)) (.leaf (48, .ifCond .ne 10, 3))) (.branch 52 (.leaf (51, .aload_n 0, 1)) (.leaf (52, .bipush (-5), 2)))) (.branch 58 (.branch 57 (.leaf (54, .invokevirtual 51, 3)) (.leaf (57, .ireturn, 1))) (.branch 59 (.leaf (58, .iconst 0, 1)) (.leaf (59, .istore 4, 2))))))) (.branch 92 (.branch 78 (.branch 68 (.branch 65 (.branch 62 (.leaf (61, .aload_n 3, 1)) (.leaf (62, .getfield 190, 3))) (.branch 67 (.leaf (65, .istore 5, 2)) (.leaf (67, .aload_n 3, 1)))) (.branch 73 (.branch 71 (.leaf (68, .getfield 184, 3)) (.leaf (71, .istore 6, 2))) (.branch 75 (.leaf (73, .iload 6, 2)) (.leaf (75, .ifCond .le 39, 3))))) (.branch 85 (.branch 81 (.branch 80 (.leaf (78, .iload 4, 2)) (.leaf (80, .aload_n 0, 1))) (.branch 84 (.leaf (81, .getfield 10, 3)) (.leaf (84, .aload_n 3, 1)))) (.branch 88 (.branch 87 (.leaf (85, .iload 6, 2)) (.leaf (87, .iconst 2, 1))) (.branch 91 (.leaf (88, .invokevirtual 200, 3)) (.leaf (91, .iadd, 1)))))) (.branch 108 (.branch 100 (.branch 96 (.branch 94 (.leaf (92, .istore 4, 2)) (.leaf (94, .iload 5, 2))) (.branch 97 (.leaf (96, .aload_n 0, 1)) (.leaf (97, .getfield 10, 3)))) (.branch 105 (.branch 102 (.leaf (100, .iload 6, 2)) (.leaf (102, .invokevirtual 253, 3))) (.branch 106 (.leaf (105, .iadd, 1)) (.leaf (106, .istore 5, 2))))) (.branch 118 (.branch 114 (.branch 111 (.leaf (108, .iinc 6 (-1), 3)) (.leaf (111, .goto (-38), 3))) (.branch 115 (.leaf (114, .iload_n 2, 1)) (.leaf (115, .ifCond .ne 8, 3)))) (.branch 123 (.branch 120 (.leaf (118, .iload 4, 2)) (.leaf (120, .goto 5, 3))) (.branch 125 (.leaf (123, .iload 5, 2)) (.leaf (125, .ireturn, 1)))))))
def mc_112 : am_T := .branch 37 (.branch 17 (.branch 10 (.branch 4 (.branch 1 (.leaf (0, .aload_n 0, 1)) (.leaf (1, .getfield 10, 3))) (.branch 7 (.leaf (4, .getfield 126, 3)) (.leaf (7, .ifCond .ne 7, 3)))) (.branch 14 (.branch 13 (.leaf (10, .ldc2_w 256, 3)) (.leaf (13, .lreturn, 1))) (.branch 15 (.leaf (14, .lconst 1, 1)) (.branch 16 (.leaf (15, .lstore_n 1, 1)) (.leaf (16, .iconst 0, 1)))))) (.branch 26 (.branch 19 (.branch 18 (.leaf (17, .istore_n 3, 1)) (.leaf (18, .iload_n 3, 1))) (.branch 20 (.leaf (19, .aload_n 0, 1)) (.branch 23 (.leaf (20, .getfield 10, 3)) (.leaf (23, .getfield 126, 3))))) (.branch 30 (.branch 29 (.leaf (26, .if_icmp .ge 49, 3)) (.leaf (29, .aload_n 0, 1))) (.branch 33 (.leaf (30, .getfield 10, 3)) (.branch 36 (.leaf (33, .getfield 115, 3)) (.leaf (36, .iload_n 3, 1))))))) (.branch 54 (.branch 45 (.branch 40 (.branch 38 (.leaf (37, .aaload, 1)) (.leaf (38, .astore 4, 2))) (.branch 42 (.leaf (40, .aload 4, 2)) (.leaf (42, .getfield 190, 3)))) (.branch 51 (.branch 48 (.leaf (45, .ifCond .le 7, 3)) (.leaf (48, .ldc2_w 256, 3))) (.branch 52 (.leaf (51, .lreturn, 1)) (.branch 53 (.leaf (52, .lload_n 1, 1)) (.leaf (53, .aload_n 0, 1)))))) (.branch 68 (.branch 59 (.branch 57 (.leaf (54, .getfield 10, 3)) (.leaf (57, .aload 4, 2))) (.branch 62 (.leaf (59, .getfield 184, 3)) (.branch 65 (.leaf (62, .invokevirtual 258, 3)) (.leaf (65, .invokestatic 261, 3))))) (.branch 72 (.branch 69 (.leaf (68, .lstore_n 1, 1)) (.leaf (69, .iinc 3 1, 3))) (.branch 75 (.leaf (72, .goto (-54), 3)) (.branch 76 (.leaf (75, .lload_n 1, 1)) (.leaf (76, .lreturn, 1)))))))
def mc_113 : am_T := .branch 59 (.branch 28 (.branch 13 (.branch 5 (.branch 1 (.leaf (0, .aload_n 0, 1)) (.branch 4 (.leaf (1, .getfield 10, 3)) (.leaf (4, .iload_n 1, 1)))) (.branch 9 (.branch 6 (.leaf (5, .iload_n 2, 1)) (.leaf (6, .invokevirtual 211, 3))) (.branch 12 (.leaf (9, .ifCond .ne 10, 3)) (.leaf (12, .aload_n 0, 1))))) (.branch 20 (.branch 18 (.branch 15 (.leaf (13, .bipush (-2), 2)) (.leaf (15, .invokevirtual 51, 3))) (.branch 19 (.leaf (18, .ireturn, 1)) (.leaf (19, .aload_n 0, 1)))) (.branch 26 (.branch 23 (.leaf (20, .getfield 10, 3)) (.leaf (23, .getfield 115, 3))) (.branch 27 (.leaf (26, .iload_n 1, 1)) (.leaf (27, .aaload, 1)))))) (.branch 41 (.branch 36 (.branch 30 (.branch 29 (.leaf (28, .astore_n 3, 1)) (.leaf (29, .aload_n 0, 1))) (.branch 33 (.leaf (30, .getfield 10, 3)) (.leaf (33, .getfield 115, 3)))) (.branch 38 (.branch 37 (.leaf (36, .iload_n 2, 1)) (.leaf (37, .aaload, 1))) (.branch 40 (.leaf (38, .astore 4, 2)) (.leaf (40, .aload_n 0, 1))))) (.branch 51 (.branch 45 (.branch 44 (.leaf (41, .getfield 10, 3)) (.leaf (44, .aload_n 3, 1))) (.branch 48 (.leaf (45, .getfield 184, 3)) (.leaf (48, .invokevirtual 258, 3)))) (.branch 54 (.branch 53 (.leaf (51, .istore 5, 2)) (.leaf (53, .aload_n 0, 1))) (.branch 57 (.leaf (54, .getfield 10, 3)) (.leaf (57, .aload 4, 2))))))) (.branch 90 (.branch 74 (.branch 67 (.branch 62 (.leaf (59, .getfield 184, 3)) (.branch 65 (.leaf (62, .invokevirtual 258, 3)) (.leaf (65, .istore 6, 2)))) (.branch 70 (.branch 68 (.leaf (67, .iconst 0, 1)) (.leaf (68, .istore 7, 2))) (.branch 72 (.leaf (70, .iload 7, 2)) (.leaf (72, .iload 5, 2))))) (.branch 81 (.branch 77 (.branch 76 (.leaf (74, .iload 6, 2)) (.leaf (76, .imul, 1))) (.branch 80 (.leaf (77, .if_icmp .ge 42, 3)) (.leaf (80, .aload_n 0, 1)))) (.branch 85 (.branch 84 (.leaf (81, .getfield 10, 3)) (.leaf (84, .aload_n 3, 1))) (.branch 87 (.leaf (85, .iload 7, 2)) (.leaf (87, .invokevirtual 204, 3)))))) (.branch 106 (.branch 97 (.branch 93 (.branch 92 (.leaf (90, .iload 6, 2)) (.leaf (92, .imul, 1))) (.branch 94 (.leaf (93, .aload_n 0, 1)) (.leaf (94, .getfield 10, 3)))) (.branch 101 (.branch 99 (.leaf (97, .aload 4, 2)) (.leaf (99, .iload 7, 2))) (.branch 104 (.leaf (101, .invokevirtual 204, 3)) (.leaf (104, .iload 5, 2))))) (.branch 113 (.branch 110 (.branch 107 (.leaf (106, .imul, 1)) (.leaf (107, .if_icmp .ne 6, 3))) (.branch 112 (.leaf (110, .iload 7, 2)) (.leaf (112, .ireturn, 1)))) (.branch 119 (.branch 116 (.leaf (113, .iinc 7 1, 3)) (.leaf (116, .goto (-46), 3))) (.branch 120 (.leaf (119, .iconst (-1), 1)) (.leaf (120, .ireturn, 1)))))))
def mc_114 : am_T := .branch 29 (.branch 15 (.branch 5 (.branch 1 (.leaf (0, .aload_n 0, 1)) (.branch 4 (.leaf (1, .getfield 10, 3)) (.leaf (4, .iload_n 1, 1)))) (.branch 11 (.branch 8 (.leaf (5, .invokevirtual 98, 3)) (.leaf (8, .ifCond .eq 13, 3))) (.branch 12 (.leaf (11, .iload_n 2, 1)) (.leaf (12, .ifCond .lt 9, 3))))) (.branch 22 (.branch 18 (.branch 16 (.leaf (15, .iload_n 2, 1)) (.leaf (16, .bipush 20, 2))) (.branch 21 (.leaf (18, .if_icmp .le 10, 3)) (.leaf (21, .aload_n 0, 1)))) (.branch 27 (.branch 24 (.leaf (22, .bipush (-2), 2)) (.leaf (24, .invokevirtual 51, 3))) (.branch 28 (.leaf (27, .ireturn, 1)) (.leaf (28, .aload_n 0, 1)))))) (.branch 45 (.branch 37 (.branch 35 (.branch 32 (.leaf (29, .getfield 10, 3)) (.leaf (32, .getfield 115, 3))) (.branch 36 (.leaf (35, .iload_n 1, 1)) (.leaf (36, .aaload, 1)))) (.branch 41 (.branch 40 (.leaf (37, .getfield 181, 3)) (.leaf (40, .iconst 4, 1))) (.branch 44 (.leaf (41, .if_icmp .eq 10, 3)) (.leaf (44, .aload_n 0, 1))))) (.branch 52 (.branch 50 (.branch 47 (.leaf (45, .bipush (-5), 2)) (.leaf (47, .invokevirtual 51, 3))) (.branch 51 (.leaf (50, .ireturn, 1)) (.leaf (51, .aload_n 0, 1)))) (.branch 54 (.branch 53 (.leaf (52, .iload_n 1, 1)) (.leaf (53, .iload_n 2, 1))) (.branch 57 (.leaf (54, .invokevirtual 265, 3)) (.leaf (57, .ireturn, 1))))))
def mc_115 : am_T := .branch 23 (.branch 6 (.branch 3 (.branch 1 (.leaf (0, .iconst 0, 1)) (.branch 2 (.leaf (1, .istore_n 1, 1)) (.leaf (2, .iconst 1, 1)))) (.branch 4 (.leaf (3, .istore_n 2, 1)) (.branch 5 (.leaf (4, .iload_n 2, 1)) (.leaf (5, .aload_n 0, 1))))) (.branch 15 (.branch 9 (.leaf (6, .getfield 10, 3)) (.branch 12 (.leaf (9, .getfield 129, 3)) (.leaf (12, .if_icmp .ge 36, 3)))) (.branch 19 (.branch 16 (.leaf (15, .aload_n 0, 1)) (.leaf (16, .getfield 10, 3))) (.branch 20 (.leaf (19, .iload_n 2, 1)) (.leaf (20, .invokevirtual 135, 3)))))) (.branch 37 (.branch 30 (.branch 26 (.leaf (23, .invokestatic 268, 3)) (.branch 27 (.leaf (26, .aload_n 0, 1)) (.leaf (27, .getfield 10, 3)))) (.branch 31 (.leaf (30, .iload_n 1, 1)) (.branch 34 (.leaf (31, .invokevirtual 135, 3)) (.leaf (34, .invokestatic 268, 3))))) (.branch 42 (.branch 40 (.leaf (37, .if_icmp .le 5, 3)) (.branch 41 (.leaf (40, .iload_n 2, 1)) (.leaf (41, .istore_n 1, 1)))) (.branch 48 (.branch 45 (.leaf (42, .iinc 2 1, 3)) (.leaf (45, .goto (-41), 3))) (.branch 49 (.leaf (48, .iload_n 1, 1)) (.leaf (49, .ireturn, 1))))))
def mc_116 : am_T := .branch 18 (.branch 10 (.branch 4 (.branch 1 (.leaf (0, .iload_n 1, 1)) (.leaf (1, .invokestatic 229, 3))) (.branch 7 (.leaf (4, .ifCond .ne 10, 3)) (.branch 8 (.leaf (7, .aload_n 0, 1)) (.leaf (8, .bipush (-2), 2))))) (.branch 15 (.branch 13 (.leaf (10, .invokevirtual 51, 3)) (.branch 14 (.leaf (13, .ireturn, 1)) (.leaf (14, .iconst 0, 1)))) (.branch 16 (.leaf (15, .istore_n 2, 1)) (.branch 17 (.leaf (16, .iload_n 2, 1)) (.leaf (17, .iload_n 1, 1)))))) (.branch 32 (.branch 25 (.branch 21 (.leaf (18, .if_icmp .gt 22, 3)) (.branch 22 (.leaf (21, .aload_n 0, 1)) (.leaf (22, .getfield 10, 3)))) (.branch 26 (.leaf (25, .iload_n 2, 1)) (.branch 29 (.leaf (26, .invokevirtual 273, 3)) (.leaf (29, .ifCond .eq 5, 3))))) (.branch 37 (.branch 33 (.leaf (32, .iload_n 2, 1)) (.branch 34 (.leaf (33, .ireturn, 1)) (.leaf (34, .iinc 2 1, 3)))) (.branch 40 (.leaf (37, .goto (-21), 3)) (.branch 41 (.leaf (40, .iconst (-1), 1)) (.leaf (41, .ireturn, 1))))))
def mc_117 : am_T := .branch 55 (.branch 27 (.branch 12 (.branch 5 (.branch 1 (.leaf (0, .iload_n 2, 1)) (.branch 2 (.leaf (1, .iconst 1, 1)) (.leaf (2, .if_icmp .lt 24, 3)))) (.branch 8 (.branch 6 (.leaf (5, .iload_n 2, 1)) (.leaf (6, .bipush 10, 2))) (.branch 11 (.leaf (8, .if_icmp .gt 18, 3)) (.leaf (11, .aload_n 0, 1))))) (.branch 19 (.branch 15 (.leaf (12, .getfield 10, 3)) (.branch 16 (.leaf (15, .iload_n 3, 1)) (.leaf (16, .invokevirtual 98, 3)))) (.branch 23 (.branch 22 (.leaf (19, .ifCond .eq 7, 3)) (.leaf (22, .iconst 1, 1))) (.branch 26 (.leaf (23, .goto 4, 3)) (.leaf (26, .iconst 0, 1)))))) (.branch 39 (.branch 31 (.branch 29 (.leaf (27, .istore 4, 2)) (.branch 30 (.leaf (29, .aload_n 0, 1)) (.leaf (30, .iload_n 1, 1)))) (.branch 35 (.branch 33 (.leaf (31, .iload 4, 2)) (.leaf (33, .iload 4, 2))) (.branch 38 (.leaf (35, .ifCond .eq 9, 3)) (.leaf (38, .iconst 3, 1))))) (.branch 45 (.branch 41 (.branch 40 (.leaf (39, .iload_n 2, 1)) (.leaf (40, .imul, 1))) (.branch 44 (.leaf (41, .goto 4, 3)) (.leaf (44, .iconst 0, 1)))) (.branch 50 (.branch 48 (.leaf (45, .invokevirtual 59, 3)) (.leaf (48, .istore 5, 2))) (.branch 52 (.leaf (50, .iload 5, 2)) (.leaf (52, .ifCond .eq 10, 3))))))) (.branch 82 (.branch 67 (.branch 61 (.branch 56 (.leaf (55, .aload_n 0, 1)) (.branch 58 (.leaf (56, .iload 5, 2)) (.leaf (58, .invokevirtual 51, 3)))) (.branch 63 (.branch 62 (.leaf (61, .ireturn, 1)) (.leaf (62, .aload_n 0, 1))) (.branch 64 (.leaf (63, .aload_n 0, 1)) (.leaf (64, .getfield 28, 3))))) (.branch 73 (.branch 69 (.branch 68 (.leaf (67, .iload_n 1, 1)) (.leaf (68, .aaload, 1))) (.branch 70 (.leaf (69, .iload_n 2, 1)) (.leaf (70, .invokevirtual 276, 3)))) (.branch 77 (.branch 76 (.leaf (73, .ifCond .ne 10, 3)) (.leaf (76, .aload_n 0, 1))) (.branch 79 (.leaf (77, .bipush (-2), 2)) (.leaf (79, .invokevirtual 51, 3)))))) (.branch 95 (.branch 87 (.branch 83 (.leaf (82, .ireturn, 1)) (.branch 84 (.leaf (83, .aload_n 0, 1)) (.leaf (84, .invokevirtual 232, 3)))) (.branch 91 (.branch 88 (.leaf (87, .aload_n 0, 1)) (.leaf (88, .getfield 10, 3))) (.branch 94 (.leaf (91, .getfield 115, 3)) (.leaf (94, .iload_n 3, 1))))) (.branch 101 (.branch 97 (.branch 96 (.leaf (95, .aaload, 1)) (.leaf (96, .aload_n 0, 1))) (.branch 100 (.leaf (97, .getfield 28, 3)) (.leaf (100, .iload_n 1, 1)))) (.branch 103 (.branch 102 (.leaf (101, .aaload, 1)) (.leaf (102, .iload_n 2, 1))) (.branch 106 (.leaf (103, .invokevirtual 280, 3)) (.leaf (106, .ireturn, 1)))))))
def mc_118 : am_T := .branch 35 (.branch 17 (.branch 6 (.branch 4 (.branch 1 (.leaf (0, .aload_n 0, 1)) (.leaf (1, .getfield 10, 3))) (.branch 5 (.leaf (4, .iload_n 1, 1)) (.leaf (5, .iload_n 2, 1)))) (.branch 12 (.branch 9 (.leaf (6, .invokevirtual 211, 3)) (.leaf (9, .ifCond .eq 12, 3))) (.branch 13 (.leaf (12, .iload_n 3, 1)) (.branch 16 (.leaf (13, .ifCond .lt 8, 3)) (.leaf (16, .iload_n 3, 1)))))) (.branch 24 (.branch 21 (.branch 18 (.leaf (17, .iconst 5, 1)) (.leaf (18, .if_icmp .le 10, 3))) (.branch 22 (.leaf (21, .aload_n 0, 1)) (.leaf (22, .bipush (-2), 2)))) (.branch 28 (.branch 27 (.leaf (24, .invokevirtual 51, 3)) (.leaf (27, .ireturn, 1))) (.branch 29 (.leaf (28, .aload_n 0, 1)) (.branch 32 (.leaf (29, .getfield 284, 3)) (.leaf (32, .ifnonnull 18, 3))))))) (.branch 54 (.branch 41 (.branch 39 (.branch 36 (.leaf (35, .aload_n 0, 1)) (.leaf (36, .new 288, 3))) (.branch 40 (.leaf (39, .dup, 1)) (.leaf (40, .aload_n 0, 1)))) (.branch 47 (.branch 44 (.leaf (41, .getfield 10, 3)) (.leaf (44, .invokespecial 290, 3))) (.branch 50 (.leaf (47, .putfield 284, 3)) (.branch 51 (.leaf (50, .aload_n 0, 1)) (.leaf (51, .getfield 284, 3)))))) (.branch 60 (.branch 56 (.branch 55 (.leaf (54, .iload_n 1, 1)) (.leaf (55, .iload_n 2, 1))) (.branch 57 (.leaf (56, .iload_n 3, 1)) (.leaf (57, .invokevirtual 292, 3)))) (.branch 64 (.branch 63 (.leaf (60, .ifCond .eq 7, 3)) (.leaf (63, .iconst 1, 1))) (.branch 67 (.leaf (64, .goto 4, 3)) (.branch 68 (.leaf (67, .iconst 0, 1)) (.leaf (68, .ireturn, 1)))))))
def mc_119 : am_T := .branch 12 (.branch 5 (.branch 1 (.leaf (0, .iload_n 1, 1)) (.branch 2 (.leaf (1, .iconst 1, 1)) (.leaf (2, .if_icmp .lt 9, 3)))) (.branch 8 (.branch 6 (.leaf (5, .iload_n 1, 1)) (.leaf (6, .bipush 60, 2))) (.branch 11 (.leaf (8, .if_icmp .le 10, 3)) (.leaf (11, .aload_n 0, 1))))) (.branch 19 (.branch 17 (.branch 14 (.leaf (12, .bipush (-2), 2)) (.leaf (14, .invokevirtual 51, 3))) (.branch 18 (.leaf (17, .ireturn, 1)) (.leaf (18, .aload_n 0, 1)))) (.branch 23 (.branch 22 (.leaf (19, .getfield 10, 3)) (.leaf (22, .iload_n 1, 1))) (.branch 26 (.leaf (23, .invokevirtual 296, 3)) (.leaf (26, .ireturn, 1)))))
def mc_120 : am_T := .branch 47 (.branch 25 (.branch 12 (.branch 5 (.branch 1 (.leaf (0, .aload_n 0, 1)) (.branch 4 (.leaf (1, .getfield 10, 3)) (.leaf (4, .iload_n 1, 1)))) (.branch 8 (.leaf (5, .invokevirtual 98, 3)) (.branch 11 (.leaf (8, .ifCond .eq 10, 3)) (.leaf (11, .iload_n 2, 1))))) (.branch 19 (.branch 15 (.leaf (12, .invokestatic 193, 3)) (.branch 18 (.leaf (15, .ifCond .ne 10, 3)) (.leaf (18, .aload_n 0, 1)))) (.branch 21 (.leaf (19, .bipush (-2), 2)) (.branch 24 (.leaf (21, .invokevirtual 51, 3)) (.leaf (24, .ireturn, 1)))))) (.branch 35 (.branch 32 (.branch 26 (.leaf (25, .aload_n 0, 1)) (.branch 29 (.leaf (26, .getfield 10, 3)) (.leaf (29, .getfield 115, 3)))) (.branch 33 (.leaf (32, .iload_n 1, 1)) (.branch 34 (.leaf (33, .aaload, 1)) (.leaf (34, .astore_n 3, 1))))) (.branch 40 (.branch 36 (.leaf (35, .aload_n 0, 1)) (.branch 39 (.leaf (36, .getfield 10, 3)) (.leaf (39, .aload_n 3, 1)))) (.branch 41 (.leaf (40, .iload_n 2, 1)) (.branch 44 (.leaf (41, .invokevirtual 196, 3)) (.leaf (44, .ifCond .ne 10, 3))))))) (.branch 69 (.branch 58 (.branch 53 (.branch 48 (.leaf (47, .aload_n 0, 1)) (.branch 50 (.leaf (48, .bipush (-5), 2)) (.leaf (50, .invokevirtual 51, 3)))) (.branch 54 (.leaf (53, .ireturn, 1)) (.branch 55 (.leaf (54, .aload_n 0, 1)) (.leaf (55, .getfield 10, 3))))) (.branch 63 (.branch 59 (.leaf (58, .aload_n 3, 1)) (.branch 60 (.leaf (59, .aload_n 3, 1)) (.leaf (60, .getfield 184, 3)))) (.branch 64 (.leaf (63, .iload_n 2, 1)) (.branch 67 (.leaf (64, .invokevirtual 200, 3)) (.leaf (67, .istore 4, 2)))))) (.branch 80 (.branch 74 (.branch 70 (.leaf (69, .aload_n 3, 1)) (.branch 71 (.leaf (70, .dup, 1)) (.leaf (71, .getfield 160, 3)))) (.branch 76 (.leaf (74, .iload 4, 2)) (.branch 77 (.leaf (76, .isub, 1)) (.leaf (77, .putfield 160, 3))))) (.branch 85 (.branch 81 (.leaf (80, .aload_n 0, 1)) (.branch 84 (.leaf (81, .getfield 10, 3)) (.leaf (84, .aload_n 3, 1)))) (.branch 89 (.branch 86 (.leaf (85, .iload_n 2, 1)) (.leaf (86, .invokevirtual 299, 3))) (.branch 91 (.leaf (89, .iload 4, 2)) (.leaf (91, .ireturn, 1)))))))
def mc_121 : am_T := .branch 68 (.branch 31 (.branch 14 (.branch 6 (.branch 4 (.branch 1 (.leaf (0, .aload_n 0, 1)) (.leaf (1, .getfield 10, 3))) (.branch 5 (.leaf (4, .iload_n 1, 1)) (.leaf (5, .iload_n 2, 1)))) (.branch 12 (.branch 9 (.leaf (6, .invokevirtual 211, 3)) (.leaf (9, .ifCond .eq 14, 3))) (.branch 13 (.leaf (12, .iload_n 3, 1)) (.leaf (13, .iconst 1, 1))))) (.branch 23 (.branch 18 (.branch 17 (.leaf (14, .if_icmp .lt 9, 3)) (.leaf (17, .iload_n 3, 1))) (.branch 20 (.leaf (18, .bipush 99, 2)) (.leaf (20, .if_icmp .le 10, 3)))) (.branch 26 (.branch 24 (.leaf (23, .aload_n 0, 1)) (.leaf (24, .bipush (-2), 2))) (.branch 29 (.leaf (26, .invokevirtual 51, 3)) (.branch 30 (.leaf (29, .ireturn, 1)) (.leaf (30, .aload_n 0, 1))))))) (.branch 49 (.branch 39 (.branch 37 (.branch 34 (.leaf (31, .getfield 10, 3)) (.leaf (34, .getfield 115, 3))) (.branch 38 (.leaf (37, .iload_n 1, 1)) (.leaf (38, .aaload, 1)))) (.branch 42 (.branch 41 (.leaf (39, .astore 4, 2)) (.leaf (41, .aload_n 0, 1))) (.branch 45 (.leaf (42, .getfield 10, 3)) (.branch 48 (.leaf (45, .getfield 115, 3)) (.leaf (48, .iload_n 2, 1)))))) (.branch 57 (.branch 52 (.branch 50 (.leaf (49, .aaload, 1)) (.leaf (50, .astore 5, 2))) (.branch 54 (.leaf (52, .aload 4, 2)) (.leaf (54, .getfield 181, 3)))) (.branch 61 (.branch 58 (.leaf (57, .iconst 5, 1)) (.leaf (58, .if_icmp .ne 17, 3))) (.branch 63 (.leaf (61, .aload 4, 2)) (.branch 65 (.leaf (63, .aload 5, 2)) (.leaf (65, .invokevirtual 214, 3)))))))) (.branch 105 (.branch 88 (.branch 76 (.branch 72 (.branch 71 (.leaf (68, .ifCond .eq 7, 3)) (.leaf (71, .iconst 1, 1))) (.branch 75 (.leaf (72, .goto 4, 3)) (.leaf (75, .iconst 0, 1)))) (.branch 80 (.branch 78 (.leaf (76, .istore 6, 2)) (.leaf (78, .iload 6, 2))) (.branch 83 (.leaf (80, .ifCond .eq 24, 3)) (.branch 85 (.leaf (83, .aload 4, 2)) (.leaf (85, .getfield 160, 3)))))) (.branch 97 (.branch 92 (.branch 89 (.leaf (88, .iload_n 3, 1)) (.leaf (89, .if_icmp .lt 15, 3))) (.branch 94 (.leaf (92, .aload 5, 2)) (.leaf (94, .getfield 160, 3)))) (.branch 99 (.branch 98 (.leaf (97, .iload_n 3, 1)) (.leaf (98, .iadd, 1))) (.branch 101 (.leaf (99, .bipush 99, 2)) (.branch 104 (.leaf (101, .if_icmp .le 10, 3)) (.leaf (104, .aload_n 0, 1))))))) (.branch 122 (.branch 113 (.branch 110 (.branch 107 (.leaf (105, .bipush (-5), 2)) (.leaf (107, .invokevirtual 51, 3))) (.branch 111 (.leaf (110, .ireturn, 1)) (.leaf (111, .aload 4, 2)))) (.branch 117 (.branch 114 (.leaf (113, .dup, 1)) (.leaf (114, .getfield 160, 3))) (.branch 118 (.leaf (117, .iload_n 3, 1)) (.branch 119 (.leaf (118, .isub, 1)) (.leaf (119, .putfield 160, 3)))))) (.branch 129 (.branch 125 (.branch 124 (.leaf (122, .aload 5, 2)) (.leaf (124, .dup, 1))) (.branch 128 (.leaf (125, .getfield 160, 3)) (.leaf (128, .iload_n 3, 1)))) (.branch 133 (.branch 130 (.leaf (129, .iadd, 1)) (.leaf (130, .putfield 160, 3))) (.branch 135 (.leaf (133, .aload 5, 2)) (.branch 138 (.leaf (135, .getfield 160, 3)) (.leaf (138, .ireturn, 1))))))))
def mc_122 : am_T := .branch 73 (.branch 35 (.branch 19 (.branch 6 (.branch 4 (.branch 1 (.leaf (0, .aload_n 0, 1)) (.leaf (1, .getfield 10, 3))) (.branch 5 (.leaf (4, .iload_n 1, 1)) (.leaf (5, .iload_n 2, 1)))) (.branch 12 (.branch 9 (.leaf (6, .invokevirtual 211, 3)) (.leaf (9, .ifCond .eq 10, 3))) (.branch 13 (.leaf (12, .iload_n 3, 1)) (.branch 16 (.leaf (13, .invokestatic 193, 3)) (.leaf (16, .ifCond .ne 10, 3)))))) (.branch 26 (.branch 22 (.branch 20 (.leaf (19, .aload_n 0, 1)) (.leaf (20, .bipush (-2), 2))) (.branch 25 (.leaf (22, .invokevirtual 51, 3)) (.leaf (25, .ireturn, 1)))) (.branch 30 (.branch 27 (.leaf (26, .aload_n 0, 1)) (.leaf (27, .getfield 10, 3))) (.branch 33 (.leaf (30, .getfield 115, 3)) (.branch 34 (.leaf (33, .iload_n 1, 1)) (.leaf (34, .aaload, 1))))))) (.branch 51 (.branch 44 (.branch 38 (.branch 37 (.leaf (35, .astore 4, 2)) (.leaf (37, .aload_n 0, 1))) (.branch 41 (.leaf (38, .getfield 10, 3)) (.leaf (41, .getfield 115, 3)))) (.branch 46 (.branch 45 (.leaf (44, .iload_n 2, 1)) (.leaf (45, .aaload, 1))) (.branch 48 (.leaf (46, .astore 5, 2)) (.branch 50 (.leaf (48, .aload 5, 2)) (.leaf (50, .iconst 2, 1)))))) (.branch 60 (.branch 57 (.branch 54 (.leaf (51, .invokevirtual 119, 3)) (.leaf (54, .ifCond .eq 26, 3))) (.branch 59 (.leaf (57, .aload 4, 2)) (.leaf (59, .iconst 2, 1)))) (.branch 66 (.branch 63 (.leaf (60, .invokevirtual 119, 3)) (.leaf (63, .ifCond .ne 17, 3))) (.branch 68 (.leaf (66, .aload 4, 2)) (.branch 70 (.leaf (68, .aload 5, 2)) (.leaf (70, .invokevirtual 214, 3)))))))) (.branch 113 (.branch 93 (.branch 81 (.branch 77 (.branch 76 (.leaf (73, .ifCond .eq 7, 3)) (.leaf (76, .iconst 1, 1))) (.branch 80 (.leaf (77, .goto 4, 3)) (.leaf (80, .iconst 0, 1)))) (.branch 85 (.branch 83 (.leaf (81, .istore 6, 2)) (.leaf (83, .iload 6, 2))) (.branch 88 (.leaf (85, .ifCond .eq 28, 3)) (.branch 90 (.leaf (88, .aload 4, 2)) (.leaf (90, .getfield 160, 3)))))) (.branch 101 (.branch 97 (.branch 94 (.leaf (93, .iconst 1, 1)) (.leaf (94, .if_icmp .lt 19, 3))) (.branch 98 (.leaf (97, .aload_n 0, 1)) (.leaf (98, .getfield 10, 3)))) (.branch 106 (.branch 103 (.leaf (101, .aload 5, 2)) (.leaf (103, .getfield 184, 3))) (.branch 107 (.leaf (106, .iload_n 3, 1)) (.branch 110 (.leaf (107, .invokevirtual 303, 3)) (.leaf (110, .ifCond .ne 10, 3))))))) (.branch 128 (.branch 120 (.branch 116 (.branch 114 (.leaf (113, .aload_n 0, 1)) (.leaf (114, .bipush (-5), 2))) (.branch 119 (.leaf (116, .invokevirtual 51, 3)) (.leaf (119, .ireturn, 1)))) (.branch 123 (.branch 122 (.leaf (120, .aload 4, 2)) (.leaf (122, .dup, 1))) (.branch 126 (.leaf (123, .getfield 160, 3)) (.branch 127 (.leaf (126, .iconst 1, 1)) (.leaf (127, .isub, 1)))))) (.branch 137 (.branch 132 (.branch 131 (.leaf (128, .putfield 160, 3)) (.leaf (131, .aload_n 0, 1))) (.branch 135 (.leaf (132, .getfield 10, 3)) (.leaf (135, .aload 5, 2)))) (.branch 141 (.branch 138 (.leaf (137, .iload_n 3, 1)) (.leaf (138, .invokevirtual 299, 3))) (.branch 143 (.leaf (141, .aload 5, 2)) (.branch 146 (.leaf (143, .getfield 190, 3)) (.leaf (146, .ireturn, 1))))))))
def mc_123 : am_T := .branch 43 (.branch 19 (.branch 8 (.branch 2 (.branch 1 (.leaf (0, .iload_n 1, 1)) (.leaf (1, .iconst 1, 1))) (.branch 5 (.leaf (2, .if_icmp .lt 9, 3)) (.branch 6 (.leaf (5, .iload_n 1, 1)) (.leaf (6, .bipush 6, 2))))) (.branch 14 (.branch 11 (.leaf (8, .if_icmp .le 10, 3)) (.branch 12 (.leaf (11, .aload_n 0, 1)) (.leaf (12, .bipush (-2), 2)))) (.branch 17 (.leaf (14, .invokevirtual 51, 3)) (.branch 18 (.leaf (17, .ireturn, 1)) (.leaf (18, .iconst 0, 1)))))) (.branch 29 (.branch 22 (.branch 20 (.leaf (19, .istore_n 2, 1)) (.branch 21 (.leaf (20, .iload_n 2, 1)) (.leaf (21, .iload_n 1, 1)))) (.branch 25 (.leaf (22, .if_icmp .ge 64, 3)) (.branch 26 (.leaf (25, .aload_n 0, 1)) (.leaf (26, .getfield 10, 3))))) (.branch 36 (.branch 32 (.leaf (29, .invokevirtual 153, 3)) (.branch 35 (.leaf (32, .ifCond .ne 54, 3)) (.leaf (35, .aload_n 0, 1)))) (.branch 39 (.leaf (36, .getfield 10, 3)) (.branch 40 (.leaf (39, .aload_n 0, 1)) (.leaf (40, .getfield 10, 3))))))) (.branch 67 (.branch 54 (.branch 49 (.branch 46 (.leaf (43, .getfield 129, 3)) (.leaf (46, .invokevirtual 306, 3))) (.branch 50 (.leaf (49, .istore_n 3, 1)) (.branch 51 (.leaf (50, .aload_n 0, 1)) (.leaf (51, .getfield 10, 3))))) (.branch 59 (.branch 55 (.leaf (54, .aload_n 0, 1)) (.branch 58 (.leaf (55, .getfield 10, 3)) (.leaf (58, .iload_n 3, 1)))) (.branch 62 (.leaf (59, .invokevirtual 258, 3)) (.branch 65 (.leaf (62, .invokevirtual 306, 3)) (.leaf (65, .istore 4, 2)))))) (.branch 76 (.branch 72 (.branch 68 (.leaf (67, .aload_n 0, 1)) (.branch 71 (.leaf (68, .getfield 10, 3)) (.leaf (71, .iconst 3, 1)))) (.branch 73 (.leaf (72, .iload_n 3, 1)) (.branch 75 (.leaf (73, .iload 4, 2)) (.leaf (75, .iconst 0, 1))))) (.branch 83 (.branch 79 (.leaf (76, .invokevirtual 156, 3)) (.branch 80 (.leaf (79, .pop, 1)) (.leaf (80, .iinc 2 1, 3)))) (.branch 86 (.leaf (83, .goto (-63), 3)) (.branch 87 (.leaf (86, .iload_n 2, 1)) (.leaf (87, .ireturn, 1)))))))
def mc_124 : am_T := .branch 9 (.branch 4 (.branch 1 (.leaf (0, .aload_n 0, 1)) (.leaf (1, .getfield 10, 3))) (.branch 7 (.leaf (4, .getfield 309, 3)) (.branch 8 (.leaf (7, .istore_n 2, 1)) (.leaf (8, .aload_n 0, 1))))) (.branch 13 (.branch 12 (.leaf (9, .getfield 10, 3)) (.leaf (12, .iload_n 1, 1))) (.branch 16 (.leaf (13, .putfield 309, 3)) (.branch 17 (.leaf (16, .iload_n 2, 1)) (.leaf (17, .ireturn, 1)))))
def mc_125 : am_T := .branch 11 (.branch 4 (.branch 1 (.leaf (0, .aload_n 0, 1)) (.leaf (1, .getfield 16, 3))) (.branch 5 (.leaf (4, .aload_n 0, 1)) (.branch 8 (.leaf (5, .getfield 10, 3)) (.leaf (8, .invokevirtual 177, 3))))) (.branch 13 (.branch 12 (.leaf (11, .aload_n 0, 1)) (.leaf (12, .iconst 1, 1))) (.branch 16 (.leaf (13, .putfield 312, 3)) (.branch 17 (.leaf (16, .iconst 1, 1)) (.leaf (17, .ireturn, 1)))))
def mc_126 : am_T := .branch 38 (.branch 19 (.branch 10 (.branch 4 (.branch 1 (.leaf (0, .aload_n 0, 1)) (.leaf (1, .getfield 312, 3))) (.branch 7 (.leaf (4, .ifCond .ne 10, 3)) (.branch 8 (.leaf (7, .aload_n 0, 1)) (.leaf (8, .bipush (-5), 2))))) (.branch 14 (.branch 13 (.leaf (10, .invokevirtual 51, 3)) (.leaf (13, .ireturn, 1))) (.branch 15 (.leaf (14, .aload_n 0, 1)) (.branch 18 (.leaf (15, .getfield 10, 3)) (.leaf (18, .aload_n 0, 1)))))) (.branch 28 (.branch 25 (.branch 22 (.leaf (19, .getfield 16, 3)) (.leaf (22, .invokevirtual 177, 3))) (.branch 26 (.leaf (25, .iconst 0, 1)) (.branch 27 (.leaf (26, .istore_n 1, 1)) (.leaf (27, .iload_n 1, 1))))) (.branch 33 (.branch 30 (.leaf (28, .bipush 8, 2)) (.leaf (30, .if_icmp .ge 49, 3))) (.branch 34 (.leaf (33, .aload_n 0, 1)) (.branch 37 (.leaf (34, .getfield 28, 3)) (.leaf (37, .iload_n 1, 1))))))) (.branch 58 (.branch 49 (.branch 42 (.branch 39 (.leaf (38, .aaload, 1)) (.leaf (39, .invokevirtual 78, 3))) (.branch 45 (.leaf (42, .ifCond .eq 31, 3)) (.branch 46 (.leaf (45, .aload_n 0, 1)) (.leaf (46, .getfield 10, 3))))) (.branch 53 (.branch 50 (.leaf (49, .aload_n 0, 1)) (.leaf (50, .getfield 28, 3))) (.branch 54 (.leaf (53, .iload_n 1, 1)) (.branch 55 (.leaf (54, .aaload, 1)) (.leaf (55, .invokevirtual 111, 3)))))) (.branch 69 (.branch 64 (.branch 61 (.leaf (58, .invokevirtual 98, 3)) (.leaf (61, .ifCond .ne 12, 3))) (.branch 65 (.leaf (64, .aload_n 0, 1)) (.branch 68 (.leaf (65, .getfield 28, 3)) (.leaf (68, .iload_n 1, 1))))) (.branch 76 (.branch 70 (.leaf (69, .aaload, 1)) (.branch 73 (.leaf (70, .invokevirtual 101, 3)) (.leaf (73, .iinc 1 1, 3)))) (.branch 79 (.leaf (76, .goto (-49), 3)) (.branch 80 (.leaf (79, .iconst 1, 1)) (.leaf (80, .ireturn, 1)))))))
def mc_127 : am_T := .branch 91 (.branch 68 (.branch 59 (.branch 52 (.branch 1 (.leaf (0, .iload_n 1, 1)) (.leaf (1, .tableswitch 120 0 8 #[51, 59, 67, 75, 83, 91, 99, 107, 115], 51))) (.branch 53 (.leaf (52, .aload_n 0, 1)) (.branch 56 (.leaf (53, .getfield 10, 3)) (.leaf (56, .getfield 129, 3))))) (.branch 61 (.branch 60 (.leaf (59, .ireturn, 1)) (.leaf (60, .aload_n 0, 1))) (.branch 64 (.leaf (61, .getfield 10, 3)) (.branch 67 (.leaf (64, .getfield 126, 3)) (.leaf (67, .ireturn, 1)))))) (.branch 77 (.branch 72 (.branch 69 (.leaf (68, .aload_n 0, 1)) (.leaf (69, .getfield 10, 3))) (.branch 75 (.leaf (72, .getfield 316, 3)) (.branch 76 (.leaf (75, .ireturn, 1)) (.leaf (76, .aload_n 0, 1))))) (.branch 84 (.branch 80 (.leaf (77, .getfield 10, 3)) (.branch 83 (.leaf (80, .getfield 319, 3)) (.leaf (83, .ireturn, 1)))) (.branch 85 (.leaf (84, .aload_n 0, 1)) (.branch 88 (.leaf (85, .getfield 10, 3)) (.leaf (88, .invokevirtual 322, 3))))))) (.branch 112 (.branch 100 (.branch 93 (.branch 92 (.leaf (91, .ireturn, 1)) (.leaf (92, .aload_n 0, 1))) (.branch 96 (.leaf (93, .getfield 10, 3)) (.branch 99 (.leaf (96, .invokevirtual 325, 3)) (.leaf (99, .ireturn, 1))))) (.branch 107 (.branch 101 (.leaf (100, .aload_n 0, 1)) (.branch 104 (.leaf (101, .getfield 22, 3)) (.leaf (104, .getfield 163, 3)))) (.branch 108 (.leaf (107, .ireturn, 1)) (.branch 109 (.leaf (108, .aload_n 0, 1)) (.leaf (109, .getfield 10, 3)))))) (.branch 121 (.branch 116 (.branch 115 (.leaf (112, .getfield 309, 3)) (.leaf (115, .ireturn, 1))) (.branch 117 (.leaf (116, .aload_n 0, 1)) (.branch 120 (.leaf (117, .invokevirtual 328, 3)) (.leaf (120, .ireturn, 1))))) (.branch 125 (.branch 122 (.leaf (121, .aload_n 0, 1)) (.branch 123 (.leaf (122, .iload_n 1, 1)) (.leaf (123, .bipush 12, 2)))) (.branch 126 (.leaf (125, .isub, 1)) (.branch 129 (.leaf (126, .invokevirtual 331, 3)) (.leaf (129, .ireturn, 1)))))))
def mc_128 : am_T := .branch 14 (.branch 5 (.branch 3 (.branch 2 (.leaf (0, .bipush (-2), 2)) (.leaf (2, .iload_n 1, 1))) (.branch 4 (.leaf (3, .isub, 1)) (.leaf (4, .istore_n 2, 1)))) (.branch 9 (.branch 6 (.leaf (5, .iload_n 2, 1)) (.leaf (6, .ifCond .lt 18, 3))) (.branch 10 (.leaf (9, .iload_n 2, 1)) (.branch 11 (.leaf (10, .iconst 5, 1)) (.leaf (11, .if_icmp .ge 13, 3)))))) (.branch 21 (.branch 18 (.branch 15 (.leaf (14, .aload_n 0, 1)) (.leaf (15, .getfield 32, 3))) (.branch 19 (.leaf (18, .iload_n 2, 1)) (.branch 20 (.leaf (19, .dup2, 1)) (.leaf (20, .iaload, 1))))) (.branch 23 (.branch 22 (.leaf (21, .iconst 1, 1)) (.leaf (22, .iadd, 1))) (.branch 24 (.leaf (23, .iastore, 1)) (.branch 25 (.leaf (24, .iload_n 1, 1)) (.leaf (25, .ireturn, 1))))))
def mc_129 : am_T := .branch 10 (.branch 5 (.branch 1 (.leaf (0, .iload_n 1, 1)) (.branch 4 (.leaf (1, .ifCond .lt 17, 3)) (.leaf (4, .iload_n 1, 1)))) (.branch 6 (.leaf (5, .iconst 5, 1)) (.branch 9 (.leaf (6, .if_icmp .ge 12, 3)) (.leaf (9, .aload_n 0, 1))))) (.branch 15 (.branch 13 (.leaf (10, .getfield 32, 3)) (.branch 14 (.leaf (13, .iload_n 1, 1)) (.leaf (14, .iaload, 1)))) (.branch 18 (.leaf (15, .goto 4, 3)) (.branch 19 (.leaf (18, .iconst (-1), 1)) (.leaf (19, .ireturn, 1)))))
def mc_130 : am_T := .branch 14 (.branch 4 (.branch 2 (.branch 1 (.leaf (0, .iconst 0, 1)) (.leaf (1, .istore_n 1, 1))) (.branch 3 (.leaf (2, .iconst 0, 1)) (.leaf (3, .istore_n 2, 1)))) (.branch 7 (.branch 5 (.leaf (4, .iload_n 2, 1)) (.leaf (5, .bipush 8, 2))) (.branch 10 (.leaf (7, .if_icmp .ge 24, 3)) (.branch 11 (.leaf (10, .aload_n 0, 1)) (.leaf (11, .getfield 28, 3)))))) (.branch 22 (.branch 16 (.branch 15 (.leaf (14, .iload_n 2, 1)) (.leaf (15, .aaload, 1))) (.branch 19 (.leaf (16, .invokevirtual 81, 3)) (.leaf (19, .ifCond .ne 6, 3)))) (.branch 28 (.branch 25 (.leaf (22, .iinc 1 1, 3)) (.leaf (25, .iinc 2 1, 3))) (.branch 31 (.leaf (28, .goto (-24), 3)) (.branch 32 (.leaf (31, .iload_n 1, 1)) (.leaf (32, .ireturn, 1))))))
def mc_131 : am_T := .branch 30 (.branch 14 (.branch 7 (.branch 1 (.leaf (0, .iload_n 1, 1)) (.branch 4 (.leaf (1, .invokestatic 47, 3)) (.leaf (4, .ifCond .eq 7, 3)))) (.branch 11 (.branch 8 (.leaf (7, .iload_n 2, 1)) (.leaf (8, .ifCond .ne 6, 3))) (.branch 13 (.leaf (11, .bipush (-2), 2)) (.leaf (13, .ireturn, 1))))) (.branch 20 (.branch 18 (.branch 15 (.leaf (14, .aload_n 0, 1)) (.leaf (15, .getfield 28, 3))) (.branch 19 (.leaf (18, .iload_n 1, 1)) (.leaf (19, .aaload, 1)))) (.branch 24 (.branch 22 (.leaf (20, .astore 4, 2)) (.leaf (22, .aload 4, 2))) (.branch 27 (.leaf (24, .invokevirtual 78, 3)) (.leaf (27, .ifCond .eq 6, 3)))))) (.branch 44 (.branch 35 (.branch 32 (.leaf (30, .bipush (-3), 2)) (.branch 33 (.leaf (32, .ireturn, 1)) (.leaf (33, .aload 4, 2)))) (.branch 41 (.branch 38 (.leaf (35, .invokevirtual 81, 3)) (.leaf (38, .ifCond .eq 6, 3))) (.branch 43 (.leaf (41, .bipush (-4), 2)) (.leaf (43, .ireturn, 1))))) (.branch 53 (.branch 49 (.branch 46 (.leaf (44, .aload 4, 2)) (.leaf (46, .getfield 63, 3))) (.branch 50 (.leaf (49, .iload_n 3, 1)) (.leaf (50, .if_icmp .ge 8, 3)))) (.branch 58 (.branch 55 (.leaf (53, .bipush (-2), 2)) (.leaf (55, .goto 4, 3))) (.branch 59 (.leaf (58, .iconst 0, 1)) (.leaf (59, .ireturn, 1))))))
def mc_132 : am_T := .branch 85 (.branch 55 (.branch 11 (.branch 7 (.branch 1 (.leaf (0, .aload_n 0, 1)) (.branch 4 (.leaf (1, .getfield 10, 3)) (.leaf (4, .getfield 115, 3)))) (.branch 9 (.branch 8 (.leaf (7, .iload_n 1, 1)) (.leaf (8, .aaload, 1))) (.branch 10 (.leaf (9, .astore_n 3, 1)) (.leaf (10, .iload_n 2, 1))))) (.branch 49 (.branch 45 (.branch 44 (.leaf (11, .tableswitch 121 1 5 #[33, 51, 60, 81, 95], 33)) (.leaf (44, .iconst 0, 1))) (.branch 46 (.leaf (45, .aload_n 0, 1)) (.leaf (46, .getfield 10, 3)))) (.branch 51 (.branch 50 (.leaf (49, .aload_n 3, 1)) (.leaf (50, .aload_n 3, 1))) (.branch 54 (.leaf (51, .getfield 184, 3)) (.leaf (54, .iconst 1, 1)))))) (.branch 71 (.branch 63 (.branch 61 (.branch 58 (.leaf (55, .invokevirtual 200, 3)) (.leaf (58, .invokestatic 334, 3))) (.branch 62 (.leaf (61, .ireturn, 1)) (.leaf (62, .aload_n 0, 1)))) (.branch 67 (.branch 66 (.leaf (63, .getfield 10, 3)) (.leaf (66, .iload_n 1, 1))) (.branch 70 (.leaf (67, .invokevirtual 339, 3)) (.leaf (70, .ireturn, 1))))) (.branch 79 (.branch 75 (.branch 72 (.leaf (71, .aload_n 0, 1)) (.leaf (72, .getfield 10, 3))) (.branch 76 (.leaf (75, .aload_n 3, 1)) (.leaf (76, .getfield 184, 3)))) (.branch 83 (.branch 82 (.leaf (79, .invokevirtual 342, 3)) (.leaf (82, .iconst 1, 1))) (.branch 84 (.leaf (83, .iload_n 1, 1)) (.leaf (84, .ishl, 1))))))) (.branch 110 (.branch 96 (.branch 88 (.branch 86 (.leaf (85, .iconst (-1), 1)) (.branch 87 (.leaf (86, .ixor, 1)) (.leaf (87, .iand, 1)))) (.branch 92 (.branch 91 (.leaf (88, .invokestatic 268, 3)) (.leaf (91, .ireturn, 1))) (.branch 93 (.leaf (92, .aload_n 0, 1)) (.leaf (93, .getfield 10, 3))))) (.branch 104 (.branch 100 (.branch 97 (.leaf (96, .aload_n 3, 1)) (.leaf (97, .getfield 184, 3))) (.branch 103 (.leaf (100, .invokevirtual 258, 3)) (.leaf (103, .iconst 1, 1)))) (.branch 106 (.branch 105 (.leaf (104, .isub, 1)) (.leaf (105, .ireturn, 1))) (.branch 107 (.leaf (106, .aload_n 0, 1)) (.leaf (107, .getfield 10, 3)))))) (.branch 125 (.branch 117 (.branch 114 (.branch 113 (.leaf (110, .getfield 126, 3)) (.leaf (113, .iconst 1, 1))) (.branch 115 (.leaf (114, .isub, 1)) (.leaf (115, .bipush 99, 2)))) (.branch 119 (.branch 118 (.leaf (117, .imul, 1)) (.leaf (118, .aload_n 0, 1))) (.branch 122 (.leaf (119, .getfield 10, 3)) (.leaf (122, .invokevirtual 322, 3))))) (.branch 131 (.branch 129 (.branch 126 (.leaf (125, .aload_n 3, 1)) (.leaf (126, .getfield 160, 3))) (.branch 130 (.leaf (129, .isub, 1)) (.leaf (130, .isub, 1)))) (.branch 133 (.branch 132 (.leaf (131, .ireturn, 1)) (.leaf (132, .aload_n 3, 1))) (.branch 136 (.leaf (133, .getfield 160, 3)) (.leaf (136, .ireturn, 1)))))))
def mc_133 : am_T := .branch 31 (.branch 16 (.branch 8 (.branch 4 (.branch 1 (.leaf (0, .aload_n 0, 1)) (.leaf (1, .getfield 39, 3))) (.branch 5 (.leaf (4, .aload_n 0, 1)) (.leaf (5, .getfield 10, 3)))) (.branch 12 (.branch 11 (.leaf (8, .getfield 115, 3)) (.leaf (11, .iload_n 3, 1))) (.branch 13 (.leaf (12, .aaload, 1)) (.leaf (13, .invokevirtual 345, 3))))) (.branch 22 (.branch 19 (.branch 17 (.leaf (16, .iconst 0, 1)) (.leaf (17, .istore 4, 2))) (.branch 21 (.leaf (19, .iload 4, 2)) (.leaf (21, .iload_n 2, 1)))) (.branch 27 (.branch 25 (.leaf (22, .if_icmp .ge 42, 3)) (.leaf (25, .iload 4, 2))) (.branch 28 (.leaf (27, .aload_n 1, 1)) (.leaf (28, .getfield 63, 3)))))) (.branch 48 (.branch 39 (.branch 35 (.branch 34 (.leaf (31, .if_icmp .ge 33, 3)) (.leaf (34, .aload_n 0, 1))) (.branch 38 (.leaf (35, .getfield 10, 3)) (.leaf (38, .aload_n 0, 1)))) (.branch 43 (.branch 42 (.leaf (39, .getfield 39, 3)) (.leaf (42, .aload_n 1, 1))) (.branch 46 (.leaf (43, .getfield 88, 3)) (.leaf (46, .iload 4, 2))))) (.branch 57 (.branch 52 (.branch 49 (.leaf (48, .laload, 1)) (.leaf (49, .invokevirtual 348, 3))) (.branch 55 (.leaf (52, .ifCond .ne 6, 3)) (.leaf (55, .iload 4, 2)))) (.branch 61 (.branch 58 (.leaf (57, .ireturn, 1)) (.leaf (58, .iinc 4 1, 3))) (.branch 64 (.leaf (61, .goto (-42), 3)) (.branch 65 (.leaf (64, .iconst (-1), 1)) (.leaf (65, .ireturn, 1)))))))
def mc_134 : am_T := .branch 62 (.branch 30 (.branch 13 (.branch 5 (.branch 1 (.leaf (0, .aload_n 0, 1)) (.branch 4 (.leaf (1, .getfield 39, 3)) (.leaf (4, .aload_n 0, 1)))) (.branch 11 (.branch 8 (.leaf (5, .getfield 10, 3)) (.leaf (8, .getfield 115, 3))) (.branch 12 (.leaf (11, .iload_n 3, 1)) (.leaf (12, .aaload, 1))))) (.branch 21 (.branch 17 (.branch 16 (.leaf (13, .invokevirtual 345, 3)) (.leaf (16, .aload_n 0, 1))) (.branch 20 (.leaf (17, .getfield 43, 3)) (.leaf (20, .aload_n 0, 1)))) (.branch 27 (.branch 24 (.leaf (21, .getfield 10, 3)) (.leaf (24, .getfield 115, 3))) (.branch 29 (.leaf (27, .iload 4, 2)) (.leaf (29, .aaload, 1)))))) (.branch 44 (.branch 36 (.branch 33 (.leaf (30, .invokevirtual 345, 3)) (.branch 34 (.leaf (33, .iconst 0, 1)) (.leaf (34, .istore 5, 2)))) (.branch 39 (.branch 38 (.leaf (36, .iload 5, 2)) (.leaf (38, .iload_n 2, 1))) (.branch 42 (.leaf (39, .if_icmp .ge 65, 3)) (.leaf (42, .iload 5, 2))))) (.branch 52 (.branch 48 (.branch 45 (.leaf (44, .aload_n 1, 1)) (.leaf (45, .getfield 63, 3))) (.branch 51 (.leaf (48, .if_icmp .ge 56, 3)) (.leaf (51, .aload_n 0, 1)))) (.branch 56 (.branch 55 (.leaf (52, .getfield 39, 3)) (.leaf (55, .aload_n 0, 1))) (.branch 59 (.leaf (56, .getfield 43, 3)) (.leaf (59, .invokevirtual 214, 3))))))) (.branch 91 (.branch 76 (.branch 68 (.branch 65 (.leaf (62, .ifCond .eq 6, 3)) (.branch 67 (.leaf (65, .iload 5, 2)) (.leaf (67, .ireturn, 1)))) (.branch 72 (.branch 69 (.leaf (68, .aload_n 0, 1)) (.leaf (69, .getfield 10, 3))) (.branch 73 (.leaf (72, .aload_n 0, 1)) (.leaf (73, .getfield 39, 3))))) (.branch 83 (.branch 80 (.branch 77 (.leaf (76, .aload_n 1, 1)) (.leaf (77, .getfield 88, 3))) (.branch 82 (.leaf (80, .iload 5, 2)) (.leaf (82, .laload, 1)))) (.branch 87 (.branch 86 (.leaf (83, .invokevirtual 348, 3)) (.leaf (86, .pop, 1))) (.branch 88 (.leaf (87, .aload_n 0, 1)) (.leaf (88, .getfield 10, 3)))))) (.branch 108 (.branch 98 (.branch 92 (.leaf (91, .aload_n 0, 1)) (.branch 95 (.leaf (92, .getfield 43, 3)) (.leaf (95, .invokevirtual 352, 3)))) (.branch 104 (.branch 101 (.leaf (98, .iinc 5 1, 3)) (.leaf (101, .goto (-65), 3))) (.branch 105 (.leaf (104, .aload_n 0, 1)) (.leaf (105, .getfield 39, 3))))) (.branch 118 (.branch 112 (.branch 109 (.leaf (108, .aload_n 0, 1)) (.leaf (109, .getfield 43, 3))) (.branch 115 (.leaf (112, .invokevirtual 214, 3)) (.leaf (115, .ifCond .eq 7, 3)))) (.branch 122 (.branch 119 (.leaf (118, .iload_n 2, 1)) (.leaf (119, .goto 4, 3))) (.branch 123 (.leaf (122, .iconst (-1), 1)) (.leaf (123, .ireturn, 1)))))))
def mc_135 : am_T := .branch 71 (.branch 34 (.branch 14 (.branch 8 (.branch 4 (.branch 1 (.leaf (0, .aload_n 0, 1)) (.leaf (1, .getfield 10, 3))) (.branch 7 (.leaf (4, .getfield 115, 3)) (.leaf (7, .iload_n 1, 1)))) (.branch 10 (.branch 9 (.leaf (8, .aaload, 1)) (.leaf (9, .astore_n 3, 1))) (.branch 11 (.leaf (10, .aload_n 0, 1)) (.leaf (11, .getfield 10, 3))))) (.branch 23 (.branch 18 (.branch 15 (.leaf (14, .aload_n 3, 1)) (.leaf (15, .getfield 184, 3))) (.branch 21 (.leaf (18, .invokevirtual 258, 3)) (.leaf (21, .istore 4, 2)))) (.branch 27 (.branch 24 (.leaf (23, .aload_n 0, 1)) (.leaf (24, .getfield 10, 3))) (.branch 28 (.leaf (27, .aload_n 3, 1)) (.branch 31 (.leaf (28, .getfield 184, 3)) (.leaf (31, .invokevirtual 342, 3))))))) (.branch 51 (.branch 40 (.branch 37 (.branch 36 (.leaf (34, .istore 5, 2)) (.leaf (36, .iconst 0, 1))) (.branch 39 (.leaf (37, .istore 6, 2)) (.leaf (39, .iconst 0, 1)))) (.branch 44 (.branch 42 (.leaf (40, .istore 7, 2)) (.leaf (42, .iload 7, 2))) (.branch 45 (.leaf (44, .aload_n 0, 1)) (.branch 48 (.leaf (45, .getfield 10, 3)) (.leaf (48, .getfield 126, 3)))))) (.branch 61 (.branch 55 (.branch 54 (.leaf (51, .if_icmp .ge 83, 3)) (.leaf (54, .aload_n 0, 1))) (.branch 58 (.leaf (55, .getfield 10, 3)) (.leaf (58, .getfield 115, 3)))) (.branch 64 (.branch 63 (.leaf (61, .iload 7, 2)) (.leaf (63, .aaload, 1))) (.branch 67 (.leaf (64, .getfield 187, 3)) (.branch 68 (.leaf (67, .aload_n 3, 1)) (.leaf (68, .getfield 187, 3)))))))) (.branch 104 (.branch 87 (.branch 79 (.branch 75 (.branch 72 (.leaf (71, .isub, 1)) (.leaf (72, .invokestatic 355, 3))) (.branch 77 (.leaf (75, .istore 8, 2)) (.leaf (77, .iload 8, 2)))) (.branch 83 (.branch 81 (.leaf (79, .iload 4, 2)) (.leaf (81, .iload 8, 2))) (.branch 84 (.leaf (83, .isub, 1)) (.leaf (84, .invokestatic 358, 3))))) (.branch 95 (.branch 91 (.branch 88 (.leaf (87, .iload_n 2, 1)) (.leaf (88, .if_icmp .ge 7, 3))) (.branch 92 (.leaf (91, .iconst 1, 1)) (.leaf (92, .goto 4, 3)))) (.branch 98 (.branch 96 (.leaf (95, .iconst 0, 1)) (.leaf (96, .istore 9, 2))) (.branch 100 (.leaf (98, .iload 7, 2)) (.branch 101 (.leaf (100, .iload_n 1, 1)) (.leaf (101, .if_icmp .eq 27, 3))))))) (.branch 121 (.branch 110 (.branch 107 (.branch 106 (.leaf (104, .iload 5, 2)) (.leaf (106, .iconst 1, 1))) (.branch 109 (.leaf (107, .iload 7, 2)) (.leaf (109, .ishl, 1)))) (.branch 114 (.branch 111 (.leaf (110, .iand, 1)) (.leaf (111, .ifCond .eq 17, 3))) (.branch 116 (.leaf (114, .iload 9, 2)) (.branch 119 (.leaf (116, .ifCond .eq 12, 3)) (.leaf (119, .iload 6, 2)))))) (.branch 126 (.branch 124 (.branch 122 (.leaf (121, .iconst 1, 1)) (.leaf (122, .iload 7, 2))) (.branch 125 (.leaf (124, .ishl, 1)) (.leaf (125, .ior, 1)))) (.branch 131 (.branch 128 (.leaf (126, .istore 6, 2)) (.leaf (128, .iinc 7 1, 3))) (.branch 134 (.leaf (131, .goto (-89), 3)) (.branch 136 (.leaf (134, .iload 6, 2)) (.leaf (136, .ireturn, 1))))))))
def mc_136 : am_T := .branch 63 (.branch 32 (.branch 15 (.branch 7 (.branch 2 (.branch 1 (.leaf (0, .lconst 0, 1)) (.leaf (1, .lstore_n 3, 1))) (.branch 3 (.leaf (2, .iconst 0, 1)) (.branch 5 (.leaf (3, .istore 5, 2)) (.leaf (5, .iload 5, 2))))) (.branch 11 (.branch 8 (.leaf (7, .iload_n 2, 1)) (.leaf (8, .if_icmp .ge 127, 3))) (.branch 12 (.leaf (11, .iconst 3, 1)) (.branch 14 (.leaf (12, .iload 5, 2)) (.leaf (14, .imul, 1)))))) (.branch 24 (.branch 17 (.branch 16 (.leaf (15, .iconst 2, 1)) (.leaf (16, .iadd, 1))) (.branch 18 (.leaf (17, .aload_n 1, 1)) (.branch 21 (.leaf (18, .getfield 63, 3)) (.leaf (21, .if_icmp .ge 114, 3))))) (.branch 28 (.branch 25 (.leaf (24, .aload_n 1, 1)) (.leaf (25, .getfield 88, 3))) (.branch 29 (.leaf (28, .iconst 3, 1)) (.branch 31 (.leaf (29, .iload 5, 2)) (.leaf (31, .imul, 1))))))) (.branch 46 (.branch 40 (.branch 35 (.branch 33 (.leaf (32, .laload, 1)) (.leaf (33, .lstore 6, 2))) (.branch 36 (.leaf (35, .aload_n 1, 1)) (.branch 39 (.leaf (36, .getfield 88, 3)) (.leaf (39, .iconst 3, 1))))) (.branch 43 (.branch 42 (.leaf (40, .iload 5, 2)) (.leaf (42, .imul, 1))) (.branch 44 (.leaf (43, .iconst 1, 1)) (.branch 45 (.leaf (44, .iadd, 1)) (.leaf (45, .laload, 1)))))) (.branch 55 (.branch 49 (.branch 48 (.leaf (46, .lstore 8, 2)) (.leaf (48, .aload_n 1, 1))) (.branch 52 (.leaf (49, .getfield 88, 3)) (.branch 53 (.leaf (52, .iconst 3, 1)) (.leaf (53, .iload 5, 2))))) (.branch 58 (.branch 56 (.leaf (55, .imul, 1)) (.branch 57 (.leaf (56, .iconst 2, 1)) (.leaf (57, .iadd, 1)))) (.branch 59 (.leaf (58, .laload, 1)) (.branch 61 (.leaf (59, .lstore 10, 2)) (.leaf (61, .lload 6, 2)))))))) (.branch 100 (.branch 81 (.branch 73 (.branch 65 (.branch 64 (.leaf (63, .lload_n 3, 1)) (.leaf (64, .lcmp, 1))) (.branch 68 (.leaf (65, .ifCond .lt 33, 3)) (.branch 70 (.leaf (68, .lload 6, 2)) (.leaf (70, .ldc2_w 361, 3))))) (.branch 77 (.branch 74 (.leaf (73, .lcmp, 1)) (.leaf (74, .ifCond .gt 24, 3))) (.branch 79 (.leaf (77, .lload 8, 2)) (.branch 80 (.leaf (79, .lconst 0, 1)) (.leaf (80, .lcmp, 1)))))) (.branch 93 (.branch 86 (.branch 84 (.leaf (81, .ifCond .lt 17, 3)) (.leaf (84, .lload 8, 2))) (.branch 87 (.leaf (86, .aload_n 0, 1)) (.branch 90 (.leaf (87, .getfield 10, 3)) (.leaf (90, .getfield 129, 3))))) (.branch 95 (.branch 94 (.leaf (93, .i2l, 1)) (.leaf (94, .lcmp, 1))) (.branch 98 (.leaf (95, .ifCond .lt 5, 3)) (.branch 99 (.leaf (98, .iconst 0, 1)) (.leaf (99, .ireturn, 1))))))) (.branch 119 (.branch 109 (.branch 103 (.branch 102 (.leaf (100, .lload 10, 2)) (.leaf (102, .lconst 0, 1))) (.branch 104 (.leaf (103, .lcmp, 1)) (.branch 107 (.leaf (104, .ifCond .lt 20, 3)) (.leaf (107, .lload 10, 2))))) (.branch 113 (.branch 110 (.leaf (109, .aload_n 0, 1)) (.leaf (110, .getfield 10, 3))) (.branch 115 (.leaf (113, .lload 8, 2)) (.branch 116 (.leaf (115, .l2i, 1)) (.leaf (116, .invokevirtual 258, 3)))))) (.branch 126 (.branch 121 (.branch 120 (.leaf (119, .i2l, 1)) (.leaf (120, .lcmp, 1))) (.branch 124 (.leaf (121, .ifCond .lt 5, 3)) (.branch 125 (.leaf (124, .iconst 0, 1)) (.leaf (125, .ireturn, 1))))) (.branch 132 (.branch 128 (.leaf (126, .lload 6, 2)) (.branch 129 (.leaf (128, .lstore_n 3, 1)) (.leaf (129, .iinc 5 1, 3)))) (.branch 135 (.leaf (132, .goto (-127), 3)) (.branch 136 (.leaf (135, .iconst 1, 1)) (.leaf (136, .ireturn, 1))))))))
def mc_137 : am_T := .branch 23 (.branch 12 (.branch 5 (.branch 1 (.leaf (0, .iload_n 2, 1)) (.branch 2 (.leaf (1, .aload_n 0, 1)) (.leaf (2, .getfield 10, 3)))) (.branch 8 (.leaf (5, .getfield 126, 3)) (.branch 9 (.leaf (8, .ishr, 1)) (.leaf (9, .ifCond .ne 7, 3))))) (.branch 17 (.branch 13 (.leaf (12, .iconst 1, 1)) (.branch 16 (.leaf (13, .goto 4, 3)) (.leaf (16, .iconst 0, 1)))) (.branch 19 (.branch 18 (.leaf (17, .istore_n 3, 1)) (.leaf (18, .iload_n 3, 1))) (.branch 22 (.leaf (19, .ifCond .eq 23, 3)) (.leaf (22, .iload_n 2, 1)))))) (.branch 31 (.branch 26 (.branch 24 (.leaf (23, .iconst 1, 1)) (.branch 25 (.leaf (24, .iload_n 1, 1)) (.leaf (25, .ishl, 1)))) (.branch 27 (.leaf (26, .iand, 1)) (.branch 30 (.leaf (27, .ifCond .ne 15, 3)) (.leaf (30, .iload_n 2, 1))))) (.branch 38 (.branch 34 (.leaf (31, .invokestatic 268, 3)) (.branch 35 (.leaf (34, .iconst 3, 1)) (.leaf (35, .if_icmp .gt 7, 3)))) (.branch 42 (.branch 39 (.leaf (38, .iconst 1, 1)) (.leaf (39, .goto 4, 3))) (.branch 43 (.leaf (42, .iconst 0, 1)) (.leaf (43, .ireturn, 1))))))
def mc_138 : am_T := .branch 14 (.branch 5 (.branch 1 (.leaf (0, .iload_n 1, 1)) (.branch 4 (.leaf (1, .ifCond .lt 24, 3)) (.leaf (4, .iload_n 1, 1)))) (.branch 10 (.branch 7 (.leaf (5, .bipush 40, 2)) (.leaf (7, .if_icmp .gt 18, 3))) (.branch 11 (.leaf (10, .aload_n 0, 1)) (.leaf (11, .getfield 10, 3))))) (.branch 21 (.branch 15 (.leaf (14, .iload_n 2, 1)) (.branch 18 (.leaf (15, .invokevirtual 98, 3)) (.leaf (18, .ifCond .eq 7, 3)))) (.branch 25 (.branch 22 (.leaf (21, .iconst 1, 1)) (.leaf (22, .goto 4, 3))) (.branch 26 (.leaf (25, .iconst 0, 1)) (.leaf (26, .ireturn, 1)))))
def mc_139 : am_T := .branch 12 (.branch 7 (.branch 1 (.leaf (0, .aload_n 0, 1)) (.branch 4 (.leaf (1, .getfield 363, 3)) (.leaf (4, .ifnonnull 18, 3)))) (.branch 8 (.leaf (7, .aload_n 0, 1)) (.branch 11 (.leaf (8, .new 237, 3)) (.leaf (11, .dup, 1))))) (.branch 19 (.branch 13 (.leaf (12, .aload_n 0, 1)) (.branch 16 (.leaf (13, .getfield 10, 3)) (.leaf (16, .invokespecial 367, 3)))) (.branch 23 (.branch 22 (.leaf (19, .putfield 363, 3)) (.leaf (22, .aload_n 0, 1))) (.branch 26 (.leaf (23, .getfield 363, 3)) (.leaf (26, .areturn, 1)))))
def mc_140 : am_T := .branch 7 (.branch 4 (.branch 1 (.leaf (0, .iload_n 0, 1)) (.leaf (1, .ifCond .lt 13, 3))) (.branch 5 (.leaf (4, .iload_n 0, 1)) (.leaf (5, .bipush 8, 2)))) (.branch 11 (.branch 10 (.leaf (7, .if_icmp .ge 7, 3)) (.leaf (10, .iconst 1, 1))) (.branch 14 (.leaf (11, .goto 4, 3)) (.branch 15 (.leaf (14, .iconst 0, 1)) (.leaf (15, .ireturn, 1)))))
def mc_141 : am_T := .branch 7 (.branch 4 (.branch 1 (.leaf (0, .iload_n 0, 1)) (.leaf (1, .ifCond .lt 13, 3))) (.branch 5 (.leaf (4, .iload_n 0, 1)) (.leaf (5, .bipush 6, 2)))) (.branch 11 (.branch 10 (.leaf (7, .if_icmp .ge 7, 3)) (.leaf (10, .iconst 1, 1))) (.branch 14 (.leaf (11, .goto 4, 3)) (.branch 15 (.leaf (14, .iconst 0, 1)) (.leaf (15, .ireturn, 1)))))
def mc_142 : am_T := .branch 7 (.branch 2 (.branch 1 (.leaf (0, .iload_n 0, 1)) (.leaf (1, .iconst 1, 1))) (.branch 5 (.leaf (2, .if_icmp .eq 8, 3)) (.branch 6 (.leaf (5, .iload_n 0, 1)) (.leaf (6, .iconst 2, 1))))) (.branch 11 (.branch 10 (.leaf (7, .if_icmp .ne 7, 3)) (.leaf (10, .iconst 1, 1))) (.branch 14 (.leaf (11, .goto 4, 3)) (.branch 15 (.leaf (14, .iconst 0, 1)) (.leaf (15, .ireturn, 1)))))
def mc_143 : am_T := .branch 7 (.branch 4 (.branch 1 (.leaf (0, .iload_n 0, 1)) (.leaf (1, .ifCond .lt 13, 3))) (.branch 5 (.leaf (4, .iload_n 0, 1)) (.leaf (5, .bipush 99, 2)))) (.branch 11 (.branch 10 (.leaf (7, .if_icmp .gt 7, 3)) (.leaf (10, .iconst 1, 1))) (.branch 14 (.leaf (11, .goto 4, 3)) (.branch 15 (.leaf (14, .iconst 0, 1)) (.leaf (15, .ireturn, 1)))))
def mc_144 : am_T := .branch 7 (.branch 4 (.branch 1 (.leaf (0, .iload_n 0, 1)) (.leaf (1, .ifCond .lt 13, 3))) (.branch 5 (.leaf (4, .iload_n 0, 1)) (.leaf (5, .bipush 60, 2)))) (.branch 11 (.branch 10 (.leaf (7, .if_icmp .gt 7, 3)) (.leaf (10, .iconst 1, 1))) (.branch 14 (.leaf (11, .goto 4, 3)) (.branch 15 (.leaf (14, .iconst 0, 1)) (.leaf (15, .ireturn, 1)))))
def mc_145 : am_T := .branch 6 (.branch 4 (.branch 1 (.leaf (0, .iload_n 1, 1)) (.leaf (1, .ifCond .le 9, 3))) (.branch 5 (.leaf (4, .iload_n 0, 1)) (.leaf (5, .iload_n 1, 1)))) (.branch 10 (.branch 7 (.leaf (6, .irem, 1)) (.leaf (7, .goto 4, 3))) (.branch 11 (.leaf (10, .iconst 0, 1)) (.leaf (11, .ireturn, 1))))
def mc_146 : am_T := .branch 24 (.branch 13 (.branch 6 (.branch 2 (.branch 1 (.leaf (0, .lload_n 0, 1)) (.leaf (1, .lconst 1, 1))) (.branch 3 (.leaf (2, .lcmp, 1)) (.leaf (3, .ifCond .lt 8, 3)))) (.branch 8 (.branch 7 (.leaf (6, .iload_n 2, 1)) (.leaf (7, .iconst 1, 1))) (.branch 11 (.leaf (8, .if_icmp .ge 5, 3)) (.branch 12 (.leaf (11, .lload_n 0, 1)) (.leaf (12, .lreturn, 1)))))) (.branch 17 (.branch 15 (.branch 14 (.leaf (13, .iconst 1, 1)) (.leaf (14, .istore_n 3, 1))) (.branch 16 (.leaf (15, .iload_n 3, 1)) (.leaf (16, .iload_n 2, 1)))) (.branch 21 (.branch 20 (.leaf (17, .if_icmp .ge 26, 3)) (.leaf (20, .lload_n 0, 1))) (.branch 22 (.leaf (21, .iload_n 3, 1)) (.branch 23 (.leaf (22, .i2l, 1)) (.leaf (23, .lmul, 1))))))) (.branch 35 (.branch 28 (.branch 26 (.branch 25 (.leaf (24, .iload_n 2, 1)) (.leaf (25, .i2l, 1))) (.branch 27 (.leaf (26, .lrem, 1)) (.leaf (27, .lconst 0, 1)))) (.branch 32 (.branch 29 (.leaf (28, .lcmp, 1)) (.leaf (29, .ifCond .ne 8, 3))) (.branch 33 (.leaf (32, .lload_n 0, 1)) (.branch 34 (.leaf (33, .iload_n 3, 1)) (.leaf (34, .i2l, 1)))))) (.branch 43 (.branch 37 (.branch 36 (.leaf (35, .lmul, 1)) (.leaf (36, .lreturn, 1))) (.branch 40 (.leaf (37, .iinc 3 1, 3)) (.leaf (40, .goto (-25), 3)))) (.branch 45 (.branch 44 (.leaf (43, .lload_n 0, 1)) (.leaf (44, .iload_n 2, 1))) (.branch 46 (.leaf (45, .i2l, 1)) (.branch 47 (.leaf (46, .lmul, 1)) (.leaf (47, .lreturn, 1)))))))
def mc_147 : am_T := .branch 115 (.branch 56 (.branch 29 (.branch 13 (.branch 5 (.branch 1 (.leaf (0, .aload_n 0, 1)) (.branch 4 (.leaf (1, .invokespecial 1, 3)) (.leaf (4, .aload_n 0, 1)))) (.branch 9 (.branch 7 (.leaf (5, .bipush 8, 2)) (.leaf (7, .newarray .int, 2))) (.branch 12 (.leaf (9, .putfield 7, 3)) (.leaf (12, .aload_n 0, 1))))) (.branch 20 (.branch 15 (.leaf (13, .bipush 8, 2)) (.branch 17 (.leaf (15, .newarray .int, 2)) (.leaf (17, .putfield 13, 3)))) (.branch 24 (.branch 21 (.leaf (20, .aload_n 0, 1)) (.leaf (21, .sipush 320, 3))) (.branch 26 (.leaf (24, .newarray .long, 2)) (.leaf (26, .putfield 16, 3)))))) (.branch 42 (.branch 34 (.branch 30 (.leaf (29, .aload_n 0, 1)) (.branch 32 (.leaf (30, .bipush 6, 2)) (.leaf (32, .newarray .int, 2)))) (.branch 38 (.branch 37 (.leaf (34, .putfield 20, 3)) (.leaf (37, .aload_n 0, 1))) (.branch 40 (.leaf (38, .bipush 6, 2)) (.leaf (40, .newarray .int, 2))))) (.branch 48 (.branch 45 (.leaf (42, .putfield 23, 3)) (.branch 46 (.leaf (45, .aload_n 0, 1)) (.leaf (46, .bipush 6, 2)))) (.branch 53 (.branch 50 (.leaf (48, .newarray .int, 2)) (.leaf (50, .putfield 26, 3))) (.branch 54 (.leaf (53, .aload_n 0, 1)) (.leaf (54, .bipush 6, 2))))))) (.branch 85 (.branch 70 (.branch 62 (.branch 58 (.leaf (56, .newarray .int, 2)) (.branch 61 (.leaf (58, .putfield 29, 3)) (.leaf (61, .aload_n 0, 1)))) (.branch 66 (.branch 64 (.leaf (62, .bipush 6, 2)) (.leaf (64, .newarray .int, 2))) (.branch 69 (.leaf (66, .putfield 32, 3)) (.leaf (69, .aload_n 0, 1))))) (.branch 77 (.branch 72 (.leaf (70, .bipush 6, 2)) (.branch 74 (.leaf (72, .newarray .int, 2)) (.leaf (74, .putfield 35, 3)))) (.branch 80 (.branch 78 (.leaf (77, .aload_n 0, 1)) (.leaf (78, .bipush 6, 2))) (.branch 82 (.leaf (80, .newarray .int, 2)) (.leaf (82, .putfield 38, 3)))))) (.branch 99 (.branch 91 (.branch 86 (.leaf (85, .aload_n 0, 1)) (.branch 89 (.leaf (86, .sipush 250, 3)) (.leaf (89, .newarray .int, 2)))) (.branch 95 (.branch 94 (.leaf (91, .putfield 41, 3)) (.leaf (94, .aload_n 0, 1))) (.branch 97 (.leaf (95, .bipush 7, 2)) (.leaf (97, .newarray .int, 2))))) (.branch 107 (.branch 103 (.branch 102 (.leaf (99, .putfield 44, 3)) (.leaf (102, .aload_n 0, 1))) (.branch 105 (.leaf (103, .bipush 47, 2)) (.leaf (105, .newarray .int, 2)))) (.branch 111 (.branch 110 (.leaf (107, .putfield 47, 3)) (.leaf (110, .aload_n 0, 1))) (.branch 113 (.leaf (111, .bipush 47, 2)) (.leaf (113, .newarray .int, 2)))))))) (.branch 170 (.branch 145 (.branch 131 (.branch 122 (.branch 118 (.leaf (115, .putfield 50, 3)) (.branch 119 (.leaf (118, .aload_n 0, 1)) (.leaf (119, .sipush 10560, 3)))) (.branch 127 (.branch 124 (.leaf (122, .newarray .int, 2)) (.leaf (124, .putfield 53, 3))) (.branch 128 (.leaf (127, .aload_n 0, 1)) (.leaf (128, .sipush 10560, 3))))) (.branch 137 (.branch 133 (.leaf (131, .newarray .int, 2)) (.branch 136 (.leaf (133, .putfield 56, 3)) (.leaf (136, .aload_n 0, 1)))) (.branch 141 (.branch 139 (.leaf (137, .ldc 59, 2)) (.leaf (139, .newarray .int, 2))) (.branch 144 (.leaf (141, .putfield 60, 3)) (.leaf (144, .aload_n 0, 1)))))) (.branch 157 (.branch 152 (.branch 147 (.leaf (145, .bipush 60, 2)) (.branch 149 (.leaf (147, .newarray .int, 2)) (.leaf (149, .putfield 63, 3)))) (.branch 154 (.branch 153 (.leaf (152, .iconst 0, 1)) (.leaf (153, .istore_n 1, 1))) (.branch 155 (.leaf (154, .iload_n 1, 1)) (.leaf (155, .bipush 8, 2))))) (.branch 164 (.branch 160 (.leaf (157, .if_icmp .ge 16, 3)) (.branch 161 (.leaf (160, .aload_n 0, 1)) (.leaf (161, .getfield 7, 3)))) (.branch 166 (.branch 165 (.leaf (164, .iload_n 1, 1)) (.leaf (165, .iconst (-1), 1))) (.branch 167 (.leaf (166, .iastore, 1)) (.leaf (167, .iinc 1 1, 3))))))) (.branch 193 (.branch 181 (.branch 175 (.branch 173 (.leaf (170, .goto (-16), 3)) (.branch 174 (.leaf (173, .aload_n 0, 1)) (.leaf (174, .iconst 4, 1)))) (.branch 179 (.branch 178 (.leaf (175, .putfield 66, 3)) (.leaf (178, .iconst 0, 1))) (.branch 180 (.leaf (179, .istore_n 1, 1)) (.leaf (180, .iload_n 1, 1))))) (.branch 187 (.branch 183 (.leaf (181, .bipush 6, 2)) (.branch 186 (.leaf (183, .if_icmp .ge 27, 3)) (.leaf (186, .aload_n 0, 1)))) (.branch 191 (.branch 190 (.leaf (187, .getfield 20, 3)) (.leaf (190, .iload_n 1, 1))) (.branch 192 (.leaf (191, .iconst 4, 1)) (.leaf (192, .iconst 2, 1)))))) (.branch 202 (.branch 196 (.branch 194 (.leaf (193, .iload_n 1, 1)) (.branch 195 (.leaf (194, .imul, 1)) (.leaf (195, .iadd, 1)))) (.branch 198 (.branch 197 (.leaf (196, .iastore, 1)) (.leaf (197, .aload_n 0, 1))) (.branch 201 (.leaf (198, .getfield 23, 3)) (.leaf (201, .iload_n 1, 1))))) (.branch 210 (.branch 204 (.branch 203 (.leaf (202, .iconst 1, 1)) (.leaf (203, .iastore, 1))) (.branch 207 (.leaf (204, .iinc 1 1, 3)) (.leaf (207, .goto (-27), 3)))) (.branch 212 (.branch 211 (.leaf (210, .aload_n 0, 1)) (.leaf (211, .iconst 1, 1))) (.branch 215 (.leaf (212, .putfield 70, 3)) (.leaf (215, .return_, 1))))))))
def mc_148 : am_T := .branch 7 (.branch 4 (.branch 1 (.leaf (0, .aload_n 0, 1)) (.leaf (1, .getfield 44, 3))) (.branch 5 (.leaf (4, .iload_n 1, 1)) (.branch 6 (.leaf (5, .ineg, 1)) (.leaf (6, .dup2, 1))))) (.branch 10 (.branch 8 (.leaf (7, .iaload, 1)) (.branch 9 (.leaf (8, .iconst 1, 1)) (.leaf (9, .iadd, 1)))) (.branch 11 (.leaf (10, .iastore, 1)) (.branch 12 (.leaf (11, .iload_n 1, 1)) (.leaf (12, .ireturn, 1)))))
def mc_149 : am_T := .branch 7 (.branch 2 (.branch 1 (.leaf (0, .iload_n 0, 1)) (.leaf (1, .iload_n 1, 1))) (.branch 5 (.leaf (2, .if_icmp .lt 12, 3)) (.branch 6 (.leaf (5, .iload_n 0, 1)) (.leaf (6, .iload_n 2, 1))))) (.branch 11 (.branch 10 (.leaf (7, .if_icmp .gt 7, 3)) (.leaf (10, .iconst 1, 1))) (.branch 14 (.leaf (11, .goto 4, 3)) (.branch 15 (.leaf (14, .iconst 0, 1)) (.leaf (15, .ireturn, 1)))))
def mc_150 : am_T := .branch 5 (.branch 2 (.branch 1 (.leaf (0, .iload_n 0, 1)) (.leaf (1, .iload_n 1, 1))) (.branch 3 (.leaf (2, .ishr, 1)) (.branch 4 (.leaf (3, .iconst 1, 1)) (.leaf (4, .iand, 1))))) (.branch 10 (.branch 6 (.leaf (5, .iconst 1, 1)) (.branch 9 (.leaf (6, .if_icmp .ne 7, 3)) (.leaf (9, .iconst 1, 1)))) (.branch 13 (.leaf (10, .goto 4, 3)) (.branch 14 (.leaf (13, .iconst 0, 1)) (.leaf (14, .ireturn, 1)))))
def mc_151 : am_T := .branch 6 (.branch 2 (.branch 1 (.leaf (0, .iload_n 1, 1)) (.leaf (1, .iconst 0, 1))) (.branch 3 (.leaf (2, .aload_n 0, 1)) (.leaf (3, .getfield 73, 3)))) (.branch 8 (.branch 7 (.leaf (6, .iconst 1, 1)) (.leaf (7, .isub, 1))) (.branch 11 (.leaf (8, .invokestatic 76, 3)) (.leaf (11, .ireturn, 1))))
def mc_152 : am_T := .branch 13 (.branch 5 (.branch 1 (.leaf (0, .aload_n 0, 1)) (.branch 2 (.leaf (1, .iload_n 1, 1)) (.leaf (2, .invokevirtual 80, 3)))) (.branch 9 (.branch 8 (.leaf (5, .ifCond .eq 20, 3)) (.leaf (8, .aload_n 0, 1))) (.branch 10 (.leaf (9, .iload_n 2, 1)) (.leaf (10, .invokevirtual 80, 3))))) (.branch 21 (.branch 17 (.branch 16 (.leaf (13, .ifCond .eq 12, 3)) (.leaf (16, .iload_n 1, 1))) (.branch 18 (.leaf (17, .iload_n 2, 1)) (.leaf (18, .if_icmp .eq 7, 3)))) (.branch 25 (.branch 22 (.leaf (21, .iconst 1, 1)) (.leaf (22, .goto 4, 3))) (.branch 26 (.leaf (25, .iconst 0, 1)) (.leaf (26, .ireturn, 1)))))
def mc_153 : am_T := .branch 6 (.branch 2 (.branch 1 (.leaf (0, .iload_n 1, 1)) (.leaf (1, .iconst 0, 1))) (.branch 3 (.leaf (2, .aload_n 0, 1)) (.leaf (3, .getfield 66, 3)))) (.branch 8 (.branch 7 (.leaf (6, .iconst 1, 1)) (.leaf (7, .isub, 1))) (.branch 11 (.leaf (8, .invokestatic 76, 3)) (.leaf (11, .ireturn, 1))))
def mc_154 : am_T := .branch 6 (.branch 4 (.branch 1 (.leaf (0, .aload_n 0, 1)) (.leaf (1, .getfield 7, 3))) (.branch 5 (.leaf (4, .iload_n 1, 1)) (.leaf (5, .iaload, 1)))) (.branch 8 (.branch 7 (.leaf (6, .iconst 0, 1)) (.leaf (7, .iconst 4, 1))) (.branch 11 (.leaf (8, .invokestatic 76, 3)) (.leaf (11, .ireturn, 1))))
def mc_155 : am_T := .branch 42 (.branch 20 (.branch 10 (.branch 2 (.branch 1 (.leaf (0, .iload_n 1, 1)) (.leaf (1, .iconst 0, 1))) (.branch 4 (.leaf (2, .bipush 7, 2)) (.branch 7 (.leaf (4, .invokestatic 76, 3)) (.leaf (7, .ifCond .eq 22, 3))))) (.branch 13 (.branch 11 (.leaf (10, .iload_n 2, 1)) (.branch 12 (.leaf (11, .iconst 0, 1)) (.leaf (12, .iconst 4, 1)))) (.branch 16 (.leaf (13, .invokestatic 76, 3)) (.branch 19 (.leaf (16, .ifCond .eq 13, 3)) (.leaf (19, .iload_n 3, 1)))))) (.branch 32 (.branch 26 (.branch 21 (.leaf (20, .iconst 0, 1)) (.branch 23 (.leaf (21, .bipush 40, 2)) (.leaf (23, .invokestatic 76, 3)))) (.branch 29 (.leaf (26, .ifCond .ne 10, 3)) (.branch 30 (.leaf (29, .aload_n 0, 1)) (.leaf (30, .bipush (-2), 2))))) (.branch 37 (.branch 35 (.leaf (32, .invokevirtual 84, 3)) (.branch 36 (.leaf (35, .ireturn, 1)) (.leaf (36, .aload_n 0, 1)))) (.branch 40 (.leaf (37, .getfield 7, 3)) (.branch 41 (.leaf (40, .iload_n 1, 1)) (.leaf (41, .iload_n 2, 1))))))) (.branch 61 (.branch 50 (.branch 47 (.branch 43 (.leaf (42, .iastore, 1)) (.branch 44 (.leaf (43, .aload_n 0, 1)) (.leaf (44, .getfield 13, 3)))) (.branch 48 (.leaf (47, .iload_n 1, 1)) (.branch 49 (.leaf (48, .iload_n 3, 1)) (.leaf (49, .iastore, 1))))) (.branch 55 (.branch 51 (.leaf (50, .iconst 0, 1)) (.branch 53 (.leaf (51, .istore 4, 2)) (.leaf (53, .iload 4, 2)))) (.branch 57 (.leaf (55, .bipush 40, 2)) (.branch 60 (.leaf (57, .if_icmp .ge 22, 3)) (.leaf (60, .aload_n 0, 1)))))) (.branch 71 (.branch 67 (.branch 64 (.leaf (61, .getfield 16, 3)) (.branch 66 (.leaf (64, .bipush 40, 2)) (.leaf (66, .iload_n 1, 1)))) (.branch 68 (.leaf (67, .imul, 1)) (.branch 70 (.leaf (68, .iload 4, 2)) (.leaf (70, .iadd, 1))))) (.branch 76 (.branch 72 (.leaf (71, .lconst 0, 1)) (.branch 73 (.leaf (72, .lastore, 1)) (.leaf (73, .iinc 4 1, 3)))) (.branch 79 (.leaf (76, .goto (-23), 3)) (.branch 80 (.leaf (79, .iconst 1, 1)) (.leaf (80, .ireturn, 1)))))))
def mc_156 : am_T := .branch 20 (.branch 12 (.branch 4 (.branch 1 (.leaf (0, .iload_n 1, 1)) (.branch 2 (.leaf (1, .iconst 0, 1)) (.leaf (2, .bipush 7, 2)))) (.branch 7 (.leaf (4, .invokestatic 76, 3)) (.branch 10 (.leaf (7, .ifCond .ne 6, 3)) (.leaf (10, .bipush (-2), 2))))) (.branch 17 (.branch 13 (.leaf (12, .ireturn, 1)) (.branch 14 (.leaf (13, .aload_n 0, 1)) (.leaf (14, .getfield 7, 3)))) (.branch 18 (.leaf (17, .iload_n 1, 1)) (.branch 19 (.leaf (18, .iaload, 1)) (.leaf (19, .iconst 4, 1)))))) (.branch 31 (.branch 26 (.branch 23 (.leaf (20, .if_icmp .le 6, 3)) (.branch 25 (.leaf (23, .bipush (-3), 2)) (.leaf (25, .ireturn, 1)))) (.branch 27 (.leaf (26, .aload_n 0, 1)) (.branch 30 (.leaf (27, .getfield 7, 3)) (.leaf (30, .iload_n 1, 1))))) (.branch 37 (.branch 32 (.leaf (31, .iaload, 1)) (.branch 35 (.leaf (32, .ifCond .ge 8, 3)) (.leaf (35, .bipush (-4), 2)))) (.branch 40 (.leaf (37, .goto 4, 3)) (.branch 41 (.leaf (40, .iconst 0, 1)) (.leaf (41, .ireturn, 1))))))
def mc_157 : am_T := .branch 67 (.branch 35 (.branch 19 (.branch 9 (.branch 2 (.branch 1 (.leaf (0, .aload_n 0, 1)) (.leaf (1, .iload_n 1, 1))) (.branch 5 (.leaf (2, .invokevirtual 88, 3)) (.branch 7 (.leaf (5, .istore 5, 2)) (.leaf (7, .iload 5, 2))))) (.branch 13 (.branch 12 (.leaf (9, .ifCond .ge 10, 3)) (.leaf (12, .aload_n 0, 1))) (.branch 15 (.leaf (13, .iload 5, 2)) (.branch 18 (.leaf (15, .invokevirtual 84, 3)) (.leaf (18, .ireturn, 1)))))) (.branch 26 (.branch 21 (.branch 20 (.leaf (19, .iload_n 2, 1)) (.leaf (20, .iconst 0, 1))) (.branch 22 (.leaf (21, .aload_n 0, 1)) (.branch 25 (.leaf (22, .getfield 13, 3)) (.leaf (25, .iload_n 1, 1))))) (.branch 28 (.branch 27 (.leaf (26, .iaload, 1)) (.leaf (27, .iconst 1, 1))) (.branch 29 (.leaf (28, .isub, 1)) (.branch 32 (.leaf (29, .invokestatic 76, 3)) (.leaf (32, .ifCond .ne 10, 3))))))) (.branch 51 (.branch 43 (.branch 38 (.branch 36 (.leaf (35, .aload_n 0, 1)) (.leaf (36, .bipush (-2), 2))) (.branch 41 (.leaf (38, .invokevirtual 84, 3)) (.branch 42 (.leaf (41, .ireturn, 1)) (.leaf (42, .lload_n 3, 1))))) (.branch 46 (.branch 45 (.leaf (43, .lstore 6, 2)) (.leaf (45, .aload_n 0, 1))) (.branch 49 (.leaf (46, .getfield 7, 3)) (.branch 50 (.leaf (49, .iload_n 1, 1)) (.leaf (50, .iaload, 1)))))) (.branch 58 (.branch 55 (.branch 54 (.leaf (51, .ifCond .ne 9, 3)) (.leaf (54, .lload_n 3, 1))) (.branch 56 (.leaf (55, .l2i, 1)) (.branch 57 (.leaf (56, .i2b, 1)) (.leaf (57, .i2l, 1))))) (.branch 64 (.branch 60 (.leaf (58, .lstore 6, 2)) (.branch 61 (.leaf (60, .aload_n 0, 1)) (.leaf (61, .getfield 7, 3)))) (.branch 65 (.leaf (64, .iload_n 1, 1)) (.branch 66 (.leaf (65, .iaload, 1)) (.leaf (66, .iconst 1, 1)))))))) (.branch 97 (.branch 82 (.branch 74 (.branch 71 (.branch 70 (.leaf (67, .if_icmp .ne 9, 3)) (.leaf (70, .lload_n 3, 1))) (.branch 72 (.leaf (71, .l2i, 1)) (.branch 73 (.leaf (72, .i2s, 1)) (.leaf (73, .i2l, 1))))) (.branch 77 (.branch 76 (.leaf (74, .lstore 6, 2)) (.leaf (76, .aload_n 0, 1))) (.branch 80 (.leaf (77, .getfield 7, 3)) (.branch 81 (.leaf (80, .iload_n 1, 1)) (.leaf (81, .iaload, 1)))))) (.branch 89 (.branch 86 (.branch 83 (.leaf (82, .iconst 2, 1)) (.leaf (83, .if_icmp .ne 8, 3))) (.branch 87 (.leaf (86, .lload_n 3, 1)) (.branch 88 (.leaf (87, .l2i, 1)) (.leaf (88, .i2l, 1))))) (.branch 92 (.branch 91 (.leaf (89, .lstore 6, 2)) (.leaf (91, .aload_n 0, 1))) (.branch 95 (.leaf (92, .getfield 7, 3)) (.branch 96 (.leaf (95, .iload_n 1, 1)) (.leaf (96, .iaload, 1))))))) (.branch 114 (.branch 104 (.branch 101 (.branch 98 (.leaf (97, .iconst 4, 1)) (.leaf (98, .if_icmp .ne 16, 3))) (.branch 102 (.leaf (101, .lload_n 3, 1)) (.branch 103 (.leaf (102, .lconst 0, 1)) (.leaf (103, .lcmp, 1))))) (.branch 108 (.branch 107 (.leaf (104, .ifCond .eq 7, 3)) (.leaf (107, .lconst 1, 1))) (.branch 111 (.leaf (108, .goto 4, 3)) (.branch 112 (.leaf (111, .lconst 0, 1)) (.leaf (112, .lstore 6, 2)))))) (.branch 122 (.branch 118 (.branch 115 (.leaf (114, .aload_n 0, 1)) (.leaf (115, .getfield 16, 3))) (.branch 120 (.leaf (118, .bipush 40, 2)) (.branch 121 (.leaf (120, .iload_n 1, 1)) (.leaf (121, .imul, 1))))) (.branch 126 (.branch 123 (.leaf (122, .iload_n 2, 1)) (.branch 124 (.leaf (123, .iadd, 1)) (.leaf (124, .lload 6, 2)))) (.branch 127 (.leaf (126, .lastore, 1)) (.branch 128 (.leaf (127, .iconst 1, 1)) (.leaf (128, .ireturn, 1))))))))
def mc_158 : am_T := .branch 141 (.branch 70 (.branch 34 (.branch 17 (.branch 7 (.branch 2 (.branch 1 (.leaf (0, .iload_n 1, 1)) (.leaf (1, .iconst 0, 1))) (.branch 4 (.leaf (2, .bipush 7, 2)) (.leaf (4, .invokestatic 76, 3)))) (.branch 11 (.branch 10 (.leaf (7, .ifCond .eq 13, 3)) (.leaf (10, .iload_n 2, 1))) (.branch 12 (.leaf (11, .iconst 0, 1)) (.branch 14 (.leaf (12, .bipush 7, 2)) (.leaf (14, .invokestatic 76, 3)))))) (.branch 27 (.branch 21 (.branch 20 (.leaf (17, .ifCond .ne 10, 3)) (.leaf (20, .aload_n 0, 1))) (.branch 23 (.leaf (21, .bipush (-2), 2)) (.branch 26 (.leaf (23, .invokevirtual 84, 3)) (.leaf (26, .ireturn, 1))))) (.branch 31 (.branch 28 (.leaf (27, .aload_n 0, 1)) (.leaf (28, .getfield 7, 3))) (.branch 32 (.leaf (31, .iload_n 1, 1)) (.branch 33 (.leaf (32, .iaload, 1)) (.leaf (33, .iconst 4, 1))))))) (.branch 52 (.branch 43 (.branch 38 (.branch 37 (.leaf (34, .if_icmp .gt 44, 3)) (.leaf (37, .aload_n 0, 1))) (.branch 41 (.leaf (38, .getfield 7, 3)) (.branch 42 (.leaf (41, .iload_n 2, 1)) (.leaf (42, .iaload, 1))))) (.branch 47 (.branch 44 (.leaf (43, .iconst 4, 1)) (.leaf (44, .if_icmp .gt 34, 3))) (.branch 48 (.leaf (47, .aload_n 0, 1)) (.branch 49 (.leaf (48, .iload_n 1, 1)) (.leaf (49, .invokevirtual 91, 3)))))) (.branch 63 (.branch 56 (.branch 55 (.leaf (52, .ifCond .eq 33, 3)) (.leaf (55, .aload_n 0, 1))) (.branch 57 (.leaf (56, .iload_n 2, 1)) (.branch 60 (.leaf (57, .invokevirtual 91, 3)) (.leaf (60, .ifCond .eq 25, 3))))) (.branch 67 (.branch 64 (.leaf (63, .aload_n 0, 1)) (.leaf (64, .getfield 7, 3))) (.branch 68 (.leaf (67, .iload_n 1, 1)) (.branch 69 (.leaf (68, .iaload, 1)) (.leaf (69, .aload_n 0, 1)))))))) (.branch 106 (.branch 89 (.branch 79 (.branch 74 (.branch 73 (.leaf (70, .getfield 7, 3)) (.leaf (73, .iload_n 2, 1))) (.branch 75 (.leaf (74, .iaload, 1)) (.branch 78 (.leaf (75, .if_icmp .eq 10, 3)) (.leaf (78, .aload_n 0, 1))))) (.branch 84 (.branch 81 (.leaf (79, .bipush (-3), 2)) (.leaf (81, .invokevirtual 84, 3))) (.branch 85 (.leaf (84, .ireturn, 1)) (.branch 86 (.leaf (85, .aload_n 0, 1)) (.leaf (86, .getfield 7, 3)))))) (.branch 98 (.branch 91 (.branch 90 (.leaf (89, .iload_n 1, 1)) (.leaf (90, .iaload, 1))) (.branch 94 (.leaf (91, .ifCond .lt 12, 3)) (.branch 95 (.leaf (94, .aload_n 0, 1)) (.leaf (95, .getfield 7, 3))))) (.branch 100 (.branch 99 (.leaf (98, .iload_n 2, 1)) (.leaf (99, .iaload, 1))) (.branch 103 (.leaf (100, .ifCond .ge 10, 3)) (.branch 104 (.leaf (103, .aload_n 0, 1)) (.leaf (104, .bipush (-4), 2))))))) (.branch 126 (.branch 116 (.branch 110 (.branch 109 (.leaf (106, .invokevirtual 84, 3)) (.leaf (109, .ireturn, 1))) (.branch 112 (.leaf (110, .iload 5, 2)) (.branch 115 (.leaf (112, .ifCond .lt 47, 3)) (.leaf (115, .iload_n 3, 1))))) (.branch 121 (.branch 119 (.leaf (116, .ifCond .lt 43, 3)) (.leaf (119, .iload 4, 2))) (.branch 124 (.leaf (121, .ifCond .lt 38, 3)) (.branch 125 (.leaf (124, .iload_n 3, 1)) (.leaf (125, .i2l, 1)))))) (.branch 134 (.branch 129 (.branch 128 (.leaf (126, .iload 5, 2)) (.leaf (128, .i2l, 1))) (.branch 130 (.leaf (129, .ladd, 1)) (.branch 131 (.leaf (130, .aload_n 0, 1)) (.leaf (131, .getfield 13, 3))))) (.branch 136 (.branch 135 (.leaf (134, .iload_n 1, 1)) (.leaf (135, .iaload, 1))) (.branch 137 (.leaf (136, .i2l, 1)) (.branch 138 (.leaf (137, .lcmp, 1)) (.leaf (138, .ifCond .gt 21, 3))))))))) (.branch 208 (.branch 172 (.branch 155 (.branch 148 (.branch 144 (.branch 143 (.leaf (141, .iload 4, 2)) (.leaf (143, .i2l, 1))) (.branch 146 (.leaf (144, .iload 5, 2)) (.branch 147 (.leaf (146, .i2l, 1)) (.leaf (147, .ladd, 1))))) (.branch 152 (.branch 149 (.leaf (148, .aload_n 0, 1)) (.leaf (149, .getfield 13, 3))) (.branch 153 (.leaf (152, .iload_n 2, 1)) (.branch 154 (.leaf (153, .iaload, 1)) (.leaf (154, .i2l, 1)))))) (.branch 165 (.branch 159 (.branch 156 (.leaf (155, .lcmp, 1)) (.leaf (156, .ifCond .le 10, 3))) (.branch 160 (.leaf (159, .aload_n 0, 1)) (.branch 162 (.leaf (160, .bipush (-2), 2)) (.leaf (162, .invokevirtual 84, 3))))) (.branch 167 (.branch 166 (.leaf (165, .ireturn, 1)) (.leaf (166, .iload_n 1, 1))) (.branch 168 (.leaf (167, .iload_n 2, 1)) (.branch 171 (.leaf (168, .if_icmp .ne 58, 3)) (.leaf (171, .iload_n 3, 1))))))) (.branch 192 (.branch 181 (.branch 177 (.branch 174 (.leaf (172, .iload 4, 2)) (.leaf (174, .if_icmp .ge 52, 3))) (.branch 179 (.leaf (177, .iload 5, 2)) (.branch 180 (.leaf (179, .iconst 1, 1)) (.leaf (180, .isub, 1))))) (.branch 185 (.branch 183 (.leaf (181, .istore 6, 2)) (.leaf (183, .iload 6, 2))) (.branch 188 (.leaf (185, .ifCond .lt 38, 3)) (.branch 189 (.leaf (188, .aload_n 0, 1)) (.leaf (189, .getfield 16, 3)))))) (.branch 199 (.branch 195 (.branch 194 (.leaf (192, .bipush 40, 2)) (.leaf (194, .iload_n 2, 1))) (.branch 196 (.leaf (195, .imul, 1)) (.branch 198 (.leaf (196, .iload 4, 2)) (.leaf (198, .iadd, 1))))) (.branch 202 (.branch 201 (.leaf (199, .iload 6, 2)) (.leaf (201, .iadd, 1))) (.branch 203 (.leaf (202, .aload_n 0, 1)) (.branch 206 (.leaf (203, .getfield 16, 3)) (.leaf (206, .bipush 40, 2)))))))) (.branch 243 (.branch 223 (.branch 214 (.branch 210 (.branch 209 (.leaf (208, .iload_n 1, 1)) (.leaf (209, .imul, 1))) (.branch 211 (.leaf (210, .iload_n 3, 1)) (.branch 212 (.leaf (211, .iadd, 1)) (.leaf (212, .iload 6, 2))))) (.branch 216 (.branch 215 (.leaf (214, .iadd, 1)) (.leaf (215, .laload, 1))) (.branch 217 (.leaf (216, .lastore, 1)) (.branch 220 (.leaf (217, .iinc 6 (-1), 3)) (.leaf (220, .goto (-37), 3)))))) (.branch 233 (.branch 227 (.branch 226 (.leaf (223, .goto 48, 3)) (.leaf (226, .iconst 0, 1))) (.branch 229 (.leaf (227, .istore 6, 2)) (.branch 231 (.leaf (229, .iload 6, 2)) (.leaf (231, .iload 5, 2))))) (.branch 237 (.branch 236 (.leaf (233, .if_icmp .ge 38, 3)) (.leaf (236, .aload_n 0, 1))) (.branch 240 (.leaf (237, .getfield 16, 3)) (.branch 242 (.leaf (240, .bipush 40, 2)) (.leaf (242, .iload_n 2, 1))))))) (.branch 258 (.branch 250 (.branch 246 (.branch 244 (.leaf (243, .imul, 1)) (.leaf (244, .iload 4, 2))) (.branch 247 (.leaf (246, .iadd, 1)) (.branch 249 (.leaf (247, .iload 6, 2)) (.leaf (249, .iadd, 1))))) (.branch 254 (.branch 251 (.leaf (250, .aload_n 0, 1)) (.leaf (251, .getfield 16, 3))) (.branch 256 (.leaf (254, .bipush 40, 2)) (.branch 257 (.leaf (256, .iload_n 1, 1)) (.leaf (257, .imul, 1)))))) (.branch 264 (.branch 260 (.branch 259 (.leaf (258, .iload_n 3, 1)) (.leaf (259, .iadd, 1))) (.branch 262 (.leaf (260, .iload 6, 2)) (.branch 263 (.leaf (262, .iadd, 1)) (.leaf (263, .laload, 1))))) (.branch 268 (.branch 265 (.leaf (264, .lastore, 1)) (.leaf (265, .iinc 6 1, 3))) (.branch 271 (.leaf (268, .goto (-39), 3)) (.branch 273 (.leaf (271, .iload 5, 2)) (.leaf (273, .ireturn, 1)))))))))
def mc_159 : am_T := .branch 26 (.branch 12 (.branch 4 (.branch 1 (.leaf (0, .iload_n 1, 1)) (.branch 2 (.leaf (1, .iconst 0, 1)) (.leaf (2, .bipush 7, 2)))) (.branch 10 (.branch 7 (.leaf (4, .invokestatic 76, 3)) (.leaf (7, .ifCond .eq 41, 3))) (.branch 11 (.leaf (10, .aload_n 0, 1)) (.leaf (11, .iload_n 1, 1))))) (.branch 20 (.branch 18 (.branch 15 (.leaf (12, .invokevirtual 91, 3)) (.leaf (15, .ifCond .eq 33, 3))) (.branch 19 (.leaf (18, .iload_n 2, 1)) (.leaf (19, .iconst 0, 1)))) (.branch 24 (.branch 21 (.leaf (20, .aload_n 0, 1)) (.leaf (21, .getfield 13, 3))) (.branch 25 (.leaf (24, .iload_n 1, 1)) (.leaf (25, .iaload, 1)))))) (.branch 40 (.branch 31 (.branch 27 (.leaf (26, .iconst 1, 1)) (.branch 28 (.leaf (27, .isub, 1)) (.leaf (28, .invokestatic 76, 3)))) (.branch 35 (.branch 34 (.leaf (31, .ifCond .eq 17, 3)) (.leaf (34, .aload_n 0, 1))) (.branch 38 (.leaf (35, .getfield 16, 3)) (.leaf (38, .bipush 40, 2))))) (.branch 44 (.branch 42 (.branch 41 (.leaf (40, .iload_n 1, 1)) (.leaf (41, .imul, 1))) (.branch 43 (.leaf (42, .iload_n 2, 1)) (.leaf (43, .iadd, 1)))) (.branch 48 (.branch 45 (.leaf (44, .laload, 1)) (.leaf (45, .goto 4, 3))) (.branch 49 (.leaf (48, .lconst 0, 1)) (.leaf (49, .lreturn, 1))))))
def mc_160 : am_T := .branch 11 (.branch 4 (.branch 1 (.leaf (0, .iload_n 1, 1)) (.branch 2 (.leaf (1, .iconst 0, 1)) (.leaf (2, .bipush 7, 2)))) (.branch 7 (.leaf (4, .invokestatic 76, 3)) (.branch 10 (.leaf (7, .ifCond .eq 12, 3)) (.leaf (10, .aload_n 0, 1))))) (.branch 16 (.branch 14 (.leaf (11, .getfield 7, 3)) (.branch 15 (.leaf (14, .iload_n 1, 1)) (.leaf (15, .iaload, 1)))) (.branch 19 (.leaf (16, .goto 4, 3)) (.branch 20 (.leaf (19, .iconst (-1), 1)) (.leaf (20, .ireturn, 1)))))
def mc_161 : am_T := .branch 29 (.branch 12 (.branch 4 (.branch 1 (.leaf (0, .iload_n 1, 1)) (.branch 2 (.leaf (1, .iconst 0, 1)) (.leaf (2, .bipush 7, 2)))) (.branch 10 (.branch 7 (.leaf (4, .invokestatic 76, 3)) (.leaf (7, .ifCond .eq 16, 3))) (.branch 11 (.leaf (10, .iload_n 2, 1)) (.leaf (11, .iconst (-1), 1))))) (.branch 20 (.branch 16 (.branch 15 (.leaf (12, .if_icmp .eq 18, 3)) (.leaf (15, .aload_n 0, 1))) (.branch 17 (.leaf (16, .iload_n 2, 1)) (.leaf (17, .invokevirtual 80, 3)))) (.branch 24 (.branch 23 (.leaf (20, .ifCond .ne 10, 3)) (.leaf (23, .aload_n 0, 1))) (.branch 26 (.leaf (24, .bipush (-2), 2)) (.leaf (26, .invokevirtual 84, 3)))))) (.branch 40 (.branch 34 (.branch 30 (.leaf (29, .ireturn, 1)) (.branch 31 (.leaf (30, .aload_n 0, 1)) (.leaf (31, .getfield 7, 3)))) (.branch 36 (.branch 35 (.leaf (34, .iload_n 1, 1)) (.leaf (35, .iload_n 2, 1))) (.branch 37 (.leaf (36, .iconst (-1), 1)) (.leaf (37, .if_icmp .ne 7, 3))))) (.branch 47 (.branch 44 (.branch 41 (.leaf (40, .iconst (-1), 1)) (.leaf (41, .goto 7, 3))) (.branch 46 (.leaf (44, .bipush 10, 2)) (.leaf (46, .iload_n 2, 1)))) (.branch 49 (.branch 48 (.leaf (47, .iadd, 1)) (.leaf (48, .iastore, 1))) (.branch 50 (.leaf (49, .iconst 1, 1)) (.leaf (50, .ireturn, 1))))))
def mc_162 : am_T := .branch 16 (.branch 9 (.branch 4 (.branch 1 (.leaf (0, .iload_n 1, 1)) (.leaf (1, .ifCond .eq 28, 3))) (.branch 5 (.leaf (4, .iload_n 0, 1)) (.branch 6 (.leaf (5, .iload_n 1, 1)) (.leaf (6, .if_icmp .eq 23, 3))))) (.branch 11 (.branch 10 (.leaf (9, .iload_n 0, 1)) (.leaf (10, .iconst 3, 1))) (.branch 14 (.leaf (11, .if_icmp .ne 8, 3)) (.branch 15 (.leaf (14, .iload_n 1, 1)) (.leaf (15, .iconst 2, 1)))))) (.branch 25 (.branch 20 (.branch 19 (.leaf (16, .if_icmp .eq 13, 3)) (.leaf (19, .iload_n 0, 1))) (.branch 21 (.leaf (20, .iconst 5, 1)) (.branch 24 (.leaf (21, .if_icmp .ne 12, 3)) (.leaf (24, .iload_n 1, 1))))) (.branch 30 (.branch 26 (.leaf (25, .iconst 1, 1)) (.branch 29 (.leaf (26, .if_icmp .ne 7, 3)) (.leaf (29, .iconst 1, 1)))) (.branch 33 (.leaf (30, .goto 4, 3)) (.branch 34 (.leaf (33, .iconst 0, 1)) (.leaf (34, .ireturn, 1))))))
def mc_163 : am_T := .branch 159 (.branch 67 (.branch 32 (.branch 16 (.branch 7 (.branch 2 (.branch 1 (.leaf (0, .iload_n 1, 1)) (.leaf (1, .iconst 0, 1))) (.branch 4 (.leaf (2, .bipush 7, 2)) (.leaf (4, .invokestatic 76, 3)))) (.branch 11 (.branch 10 (.leaf (7, .ifCond .eq 12, 3)) (.leaf (10, .iload_n 2, 1))) (.branch 12 (.leaf (11, .iconst 0, 1)) (.branch 13 (.leaf (12, .iconst 5, 1)) (.leaf (13, .invokestatic 76, 3)))))) (.branch 25 (.branch 20 (.branch 19 (.leaf (16, .ifCond .ne 10, 3)) (.leaf (19, .aload_n 0, 1))) (.branch 22 (.leaf (20, .bipush (-2), 2)) (.leaf (22, .invokevirtual 84, 3)))) (.branch 27 (.branch 26 (.leaf (25, .ireturn, 1)) (.leaf (26, .aload_n 0, 1))) (.branch 30 (.leaf (27, .getfield 7, 3)) (.branch 31 (.leaf (30, .iload_n 1, 1)) (.leaf (31, .iaload, 1))))))) (.branch 48 (.branch 37 (.branch 35 (.branch 34 (.leaf (32, .bipush 10, 2)) (.leaf (34, .isub, 1))) (.branch 36 (.leaf (35, .istore_n 3, 1)) (.leaf (36, .aload_n 0, 1)))) (.branch 41 (.branch 38 (.leaf (37, .iload_n 1, 1)) (.leaf (38, .invokevirtual 91, 3))) (.branch 44 (.leaf (41, .ifCond .ne 20, 3)) (.branch 45 (.leaf (44, .iload_n 3, 1)) (.leaf (45, .ifCond .lt 23, 3)))))) (.branch 55 (.branch 52 (.branch 49 (.leaf (48, .aload_n 0, 1)) (.leaf (49, .getfield 26, 3))) (.branch 53 (.leaf (52, .iload_n 3, 1)) (.branch 54 (.leaf (53, .iaload, 1)) (.leaf (54, .iload_n 2, 1))))) (.branch 61 (.branch 58 (.leaf (55, .invokestatic 94, 3)) (.leaf (58, .ifCond .ne 10, 3))) (.branch 62 (.leaf (61, .aload_n 0, 1)) (.branch 64 (.leaf (62, .bipush (-3), 2)) (.leaf (64, .invokevirtual 84, 3)))))))) (.branch 128 (.branch 82 (.branch 73 (.branch 69 (.branch 68 (.leaf (67, .ireturn, 1)) (.leaf (68, .iload_n 3, 1))) (.branch 72 (.leaf (69, .ifCond .ge 10, 3)) (.leaf (72, .aload_n 0, 1)))) (.branch 78 (.branch 75 (.leaf (73, .bipush (-4), 2)) (.leaf (75, .invokevirtual 84, 3))) (.branch 79 (.leaf (78, .ireturn, 1)) (.branch 80 (.leaf (79, .iconst 0, 1)) (.leaf (80, .istore 4, 2)))))) (.branch 121 (.branch 116 (.branch 83 (.leaf (82, .iload_n 2, 1)) (.leaf (83, .tableswitch 181 0 4 #[33, 40, 71, 111, 167], 33))) (.branch 117 (.leaf (116, .aload_n 0, 1)) (.branch 120 (.leaf (117, .getfield 35, 3)) (.leaf (120, .iload_n 3, 1))))) (.branch 123 (.branch 122 (.leaf (121, .iaload, 1)) (.leaf (122, .ireturn, 1))) (.branch 124 (.leaf (123, .aload_n 0, 1)) (.branch 127 (.leaf (124, .getfield 29, 3)) (.leaf (127, .iload_n 3, 1))))))) (.branch 143 (.branch 134 (.branch 130 (.branch 129 (.leaf (128, .iaload, 1)) (.leaf (129, .aload_n 0, 1))) (.branch 133 (.leaf (130, .getfield 66, 3)) (.leaf (133, .iconst 1, 1)))) (.branch 138 (.branch 135 (.leaf (134, .isub, 1)) (.leaf (135, .if_icmp .ne 7, 3))) (.branch 139 (.leaf (138, .iconst 0, 1)) (.branch 142 (.leaf (139, .goto 14, 3)) (.leaf (142, .aload_n 0, 1)))))) (.branch 150 (.branch 145 (.branch 144 (.leaf (143, .iload_n 3, 1)) (.leaf (144, .aload_n 0, 1))) (.branch 148 (.leaf (145, .getfield 29, 3)) (.branch 149 (.leaf (148, .iload_n 3, 1)) (.leaf (149, .iaload, 1))))) (.branch 154 (.branch 153 (.leaf (150, .invokevirtual 98, 3)) (.leaf (153, .ireturn, 1))) (.branch 155 (.leaf (154, .iconst 0, 1)) (.branch 157 (.leaf (155, .istore 5, 2)) (.leaf (157, .iload 5, 2))))))))) (.branch 235 (.branch 199 (.branch 176 (.branch 168 (.branch 163 (.branch 160 (.leaf (159, .aload_n 0, 1)) (.leaf (160, .getfield 73, 3))) (.branch 166 (.leaf (163, .if_icmp .ge 28, 3)) (.leaf (166, .iload 5, 2)))) (.branch 172 (.branch 169 (.leaf (168, .iload_n 3, 1)) (.leaf (169, .if_icmp .eq 16, 3))) (.branch 173 (.leaf (172, .aload_n 0, 1)) (.branch 174 (.leaf (173, .iload_n 3, 1)) (.leaf (174, .iload 5, 2)))))) (.branch 191 (.branch 182 (.branch 179 (.leaf (176, .invokevirtual 102, 3)) (.leaf (179, .ifCond .eq 6, 3))) (.branch 185 (.leaf (182, .iinc 4 1, 3)) (.branch 188 (.leaf (185, .iinc 5 1, 3)) (.leaf (188, .goto (-31), 3))))) (.branch 194 (.branch 193 (.leaf (191, .iload 4, 2)) (.leaf (193, .ireturn, 1))) (.branch 195 (.leaf (194, .iconst 0, 1)) (.branch 197 (.leaf (195, .istore 5, 2)) (.leaf (197, .iload 5, 2))))))) (.branch 218 (.branch 208 (.branch 203 (.branch 200 (.leaf (199, .aload_n 0, 1)) (.leaf (200, .getfield 73, 3))) (.branch 206 (.leaf (203, .if_icmp .ge 44, 3)) (.leaf (206, .iload 5, 2)))) (.branch 212 (.branch 209 (.leaf (208, .iload_n 3, 1)) (.leaf (209, .if_icmp .eq 32, 3))) (.branch 213 (.leaf (212, .aload_n 0, 1)) (.branch 216 (.leaf (213, .getfield 29, 3)) (.leaf (216, .iload 5, 2)))))) (.branch 225 (.branch 220 (.branch 219 (.leaf (218, .iaload, 1)) (.leaf (219, .aload_n 0, 1))) (.branch 223 (.leaf (220, .getfield 29, 3)) (.branch 224 (.leaf (223, .iload_n 3, 1)) (.leaf (224, .iaload, 1))))) (.branch 229 (.branch 228 (.leaf (225, .if_icmp .ne 16, 3)) (.leaf (228, .aload_n 0, 1))) (.branch 232 (.leaf (229, .getfield 38, 3)) (.branch 234 (.leaf (232, .iload 5, 2)) (.leaf (234, .iaload, 1)))))))) (.branch 269 (.branch 255 (.branch 247 (.branch 241 (.branch 238 (.leaf (235, .ifCond .ne 6, 3)) (.leaf (238, .iinc 4 1, 3))) (.branch 244 (.leaf (241, .iinc 5 1, 3)) (.leaf (244, .goto (-47), 3)))) (.branch 250 (.branch 249 (.leaf (247, .iload 4, 2)) (.leaf (249, .ireturn, 1))) (.branch 251 (.leaf (250, .aload_n 0, 1)) (.branch 254 (.leaf (251, .getfield 20, 3)) (.leaf (254, .aload_n 0, 1)))))) (.branch 262 (.branch 259 (.branch 258 (.leaf (255, .getfield 29, 3)) (.leaf (258, .iload_n 3, 1))) (.branch 260 (.leaf (259, .iaload, 1)) (.branch 261 (.leaf (260, .iaload, 1)) (.leaf (261, .iconst 1, 1))))) (.branch 264 (.branch 263 (.leaf (262, .isub, 1)) (.leaf (263, .ireturn, 1))) (.branch 265 (.leaf (264, .iconst 0, 1)) (.branch 267 (.leaf (265, .istore 5, 2)) (.leaf (267, .iload 5, 2))))))) (.branch 287 (.branch 278 (.branch 273 (.branch 270 (.leaf (269, .aload_n 0, 1)) (.leaf (270, .getfield 73, 3))) (.branch 276 (.leaf (273, .if_icmp .ge 30, 3)) (.leaf (276, .iload 5, 2)))) (.branch 282 (.branch 279 (.leaf (278, .iload_n 3, 1)) (.leaf (279, .if_icmp .eq 18, 3))) (.branch 284 (.leaf (282, .iload 4, 2)) (.branch 286 (.leaf (284, .bipush 99, 2)) (.leaf (286, .aload_n 0, 1)))))) (.branch 295 (.branch 292 (.branch 290 (.leaf (287, .getfield 35, 3)) (.leaf (290, .iload 5, 2))) (.branch 293 (.leaf (292, .iaload, 1)) (.branch 294 (.leaf (293, .isub, 1)) (.leaf (294, .iadd, 1))))) (.branch 300 (.branch 297 (.leaf (295, .istore 4, 2)) (.leaf (297, .iinc 5 1, 3))) (.branch 303 (.leaf (300, .goto (-33), 3)) (.branch 305 (.leaf (303, .iload 4, 2)) (.leaf (305, .ireturn, 1)))))))))
def mc_164 : am_T := .branch 18 (.branch 6 (.branch 3 (.branch 1 (.leaf (0, .iconst 0, 1)) (.branch 2 (.leaf (1, .istore_n 2, 1)) (.leaf (2, .iconst 0, 1)))) (.branch 4 (.leaf (3, .istore_n 3, 1)) (.branch 5 (.leaf (4, .iload_n 3, 1)) (.leaf (5, .aload_n 0, 1))))) (.branch 13 (.branch 9 (.leaf (6, .getfield 73, 3)) (.branch 12 (.leaf (9, .if_icmp .ge 25, 3)) (.leaf (12, .aload_n 0, 1)))) (.branch 16 (.leaf (13, .getfield 29, 3)) (.branch 17 (.leaf (16, .iload_n 3, 1)) (.leaf (17, .iaload, 1)))))) (.branch 26 (.branch 23 (.branch 19 (.leaf (18, .iload_n 1, 1)) (.branch 22 (.leaf (19, .if_icmp .ne 9, 3)) (.leaf (22, .iload_n 2, 1)))) (.branch 24 (.leaf (23, .iconst 1, 1)) (.branch 25 (.leaf (24, .iload_n 3, 1)) (.leaf (25, .ishl, 1))))) (.branch 31 (.branch 27 (.leaf (26, .ior, 1)) (.branch 28 (.leaf (27, .istore_n 2, 1)) (.leaf (28, .iinc 3 1, 3)))) (.branch 34 (.leaf (31, .goto (-27), 3)) (.branch 35 (.leaf (34, .iload_n 2, 1)) (.leaf (35, .ireturn, 1))))))
def mc_165 : am_T := .branch 24 (.branch 11 (.branch 4 (.branch 1 (.leaf (0, .iload_n 1, 1)) (.branch 2 (.leaf (1, .iconst 2, 1)) (.leaf (2, .bipush 6, 2)))) (.branch 7 (.leaf (4, .invokestatic 76, 3)) (.branch 10 (.leaf (7, .ifCond .ne 10, 3)) (.leaf (10, .aload_n 0, 1))))) (.branch 17 (.branch 13 (.leaf (11, .bipush (-2), 2)) (.branch 16 (.leaf (13, .invokevirtual 84, 3)) (.leaf (16, .ireturn, 1)))) (.branch 18 (.leaf (17, .aload_n 0, 1)) (.branch 21 (.leaf (18, .getfield 73, 3)) (.leaf (21, .ifCond .le 10, 3)))))) (.branch 35 (.branch 30 (.branch 25 (.leaf (24, .aload_n 0, 1)) (.branch 27 (.leaf (25, .bipush (-5), 2)) (.leaf (27, .invokevirtual 84, 3)))) (.branch 31 (.leaf (30, .ireturn, 1)) (.branch 32 (.leaf (31, .aload_n 0, 1)) (.leaf (32, .getfield 66, 3))))) (.branch 38 (.branch 36 (.leaf (35, .istore_n 2, 1)) (.branch 37 (.leaf (36, .aload_n 0, 1)) (.leaf (37, .iload_n 1, 1)))) (.branch 41 (.leaf (38, .putfield 66, 3)) (.branch 42 (.leaf (41, .iload_n 2, 1)) (.leaf (42, .ireturn, 1))))))
def mc_166 : am_T := .branch 30 (.branch 15 (.branch 8 (.branch 2 (.branch 1 (.leaf (0, .aload_n 0, 1)) (.leaf (1, .iload_n 1, 1))) (.branch 5 (.leaf (2, .invokevirtual 105, 3)) (.leaf (5, .ifCond .eq 13, 3)))) (.branch 10 (.branch 9 (.leaf (8, .iload_n 2, 1)) (.leaf (9, .iconst 2, 1))) (.branch 12 (.leaf (10, .bipush 20, 2)) (.leaf (12, .invokestatic 76, 3))))) (.branch 24 (.branch 19 (.branch 18 (.leaf (15, .ifCond .ne 10, 3)) (.leaf (18, .aload_n 0, 1))) (.branch 21 (.leaf (19, .bipush (-2), 2)) (.leaf (21, .invokevirtual 84, 3)))) (.branch 26 (.branch 25 (.leaf (24, .ireturn, 1)) (.leaf (25, .aload_n 0, 1))) (.branch 27 (.leaf (26, .iload_n 1, 1)) (.leaf (27, .invokevirtual 108, 3)))))) (.branch 45 (.branch 39 (.branch 34 (.branch 33 (.leaf (30, .ifCond .eq 10, 3)) (.leaf (33, .aload_n 0, 1))) (.branch 36 (.leaf (34, .bipush (-5), 2)) (.leaf (36, .invokevirtual 84, 3)))) (.branch 41 (.branch 40 (.leaf (39, .ireturn, 1)) (.leaf (40, .aload_n 0, 1))) (.branch 44 (.leaf (41, .getfield 20, 3)) (.leaf (44, .iload_n 1, 1))))) (.branch 51 (.branch 47 (.branch 46 (.leaf (45, .iaload, 1)) (.leaf (46, .istore_n 3, 1))) (.branch 48 (.leaf (47, .aload_n 0, 1)) (.leaf (48, .getfield 20, 3)))) (.branch 53 (.branch 52 (.leaf (51, .iload_n 1, 1)) (.leaf (52, .iload_n 2, 1))) (.branch 54 (.leaf (53, .iastore, 1)) (.branch 55 (.leaf (54, .iload_n 3, 1)) (.leaf (55, .ireturn, 1)))))))
def mc_167 : am_T := .branch 25 (.branch 11 (.branch 3 (.branch 1 (.leaf (0, .iload_n 1, 1)) (.branch 2 (.leaf (1, .iconst 0, 1)) (.leaf (2, .aload_n 0, 1)))) (.branch 7 (.branch 6 (.leaf (3, .getfield 66, 3)) (.leaf (6, .iconst 2, 1))) (.branch 8 (.leaf (7, .isub, 1)) (.leaf (8, .invokestatic 76, 3))))) (.branch 16 (.branch 14 (.leaf (11, .ifCond .eq 13, 3)) (.branch 15 (.leaf (14, .iload_n 2, 1)) (.leaf (15, .iconst 1, 1)))) (.branch 21 (.branch 18 (.leaf (16, .bipush 9, 2)) (.leaf (18, .invokestatic 76, 3))) (.branch 24 (.leaf (21, .ifCond .ne 10, 3)) (.leaf (24, .aload_n 0, 1)))))) (.branch 37 (.branch 31 (.branch 27 (.leaf (25, .bipush (-2), 2)) (.branch 30 (.leaf (27, .invokevirtual 84, 3)) (.leaf (30, .ireturn, 1)))) (.branch 35 (.branch 32 (.leaf (31, .aload_n 0, 1)) (.leaf (32, .getfield 23, 3))) (.branch 36 (.leaf (35, .iload_n 1, 1)) (.leaf (36, .iaload, 1))))) (.branch 43 (.branch 39 (.branch 38 (.leaf (37, .istore_n 3, 1)) (.leaf (38, .aload_n 0, 1))) (.branch 42 (.leaf (39, .getfield 23, 3)) (.leaf (42, .iload_n 1, 1)))) (.branch 45 (.branch 44 (.leaf (43, .iload_n 2, 1)) (.leaf (44, .iastore, 1))) (.branch 46 (.leaf (45, .iload_n 3, 1)) (.leaf (46, .ireturn, 1))))))
def mc_168 : am_T := .branch 31 (.branch 15 (.branch 8 (.branch 4 (.branch 1 (.leaf (0, .aload_n 0, 1)) (.leaf (1, .getfield 26, 3))) (.branch 5 (.leaf (4, .aload_n 0, 1)) (.leaf (5, .getfield 73, 3)))) (.branch 10 (.branch 9 (.leaf (8, .iload_n 1, 1)) (.leaf (9, .iastore, 1))) (.branch 11 (.leaf (10, .aload_n 0, 1)) (.branch 14 (.leaf (11, .getfield 29, 3)) (.leaf (14, .aload_n 0, 1)))))) (.branch 24 (.branch 19 (.branch 18 (.leaf (15, .getfield 73, 3)) (.leaf (18, .iload_n 2, 1))) (.branch 20 (.leaf (19, .iastore, 1)) (.branch 21 (.leaf (20, .aload_n 0, 1)) (.leaf (21, .getfield 32, 3))))) (.branch 28 (.branch 25 (.leaf (24, .aload_n 0, 1)) (.leaf (25, .getfield 73, 3))) (.branch 29 (.leaf (28, .iload_n 3, 1)) (.branch 30 (.leaf (29, .iastore, 1)) (.leaf (30, .aload_n 0, 1))))))) (.branch 49 (.branch 40 (.branch 35 (.branch 34 (.leaf (31, .getfield 35, 3)) (.leaf (34, .aload_n 0, 1))) (.branch 38 (.leaf (35, .getfield 73, 3)) (.leaf (38, .iload 4, 2)))) (.branch 42 (.branch 41 (.leaf (40, .iastore, 1)) (.leaf (41, .aload_n 0, 1))) (.branch 45 (.leaf (42, .getfield 38, 3)) (.branch 46 (.leaf (45, .aload_n 0, 1)) (.leaf (46, .getfield 73, 3)))))) (.branch 56 (.branch 51 (.branch 50 (.leaf (49, .iconst 0, 1)) (.leaf (50, .iastore, 1))) (.branch 52 (.leaf (51, .aload_n 0, 1)) (.branch 53 (.leaf (52, .dup, 1)) (.leaf (53, .getfield 73, 3))))) (.branch 58 (.branch 57 (.leaf (56, .dup_x1, 1)) (.leaf (57, .iconst 1, 1))) (.branch 59 (.leaf (58, .iadd, 1)) (.branch 62 (.leaf (59, .putfield 73, 3)) (.leaf (62, .ireturn, 1)))))))
def mc_169 : am_T := .branch 36 (.branch 18 (.branch 9 (.branch 2 (.branch 1 (.leaf (0, .iload_n 1, 1)) (.leaf (1, .iconst 0, 1))) (.branch 3 (.leaf (2, .iconst 5, 1)) (.branch 6 (.leaf (3, .invokestatic 76, 3)) (.leaf (6, .ifCond .eq 38, 3))))) (.branch 11 (.branch 10 (.leaf (9, .aload_n 0, 1)) (.leaf (10, .iload_n 2, 1))) (.branch 14 (.leaf (11, .invokevirtual 105, 3)) (.branch 17 (.leaf (14, .ifCond .eq 30, 3)) (.leaf (17, .iload_n 3, 1)))))) (.branch 25 (.branch 20 (.branch 19 (.leaf (18, .iconst 0, 1)) (.leaf (19, .aload_n 0, 1))) (.branch 23 (.leaf (20, .getfield 20, 3)) (.branch 24 (.leaf (23, .iload_n 2, 1)) (.leaf (24, .iaload, 1))))) (.branch 30 (.branch 26 (.leaf (25, .iconst 1, 1)) (.branch 27 (.leaf (26, .isub, 1)) (.leaf (27, .invokestatic 76, 3)))) (.branch 33 (.leaf (30, .ifCond .eq 14, 3)) (.branch 35 (.leaf (33, .iload 4, 2)) (.leaf (35, .iconst 0, 1))))))) (.branch 60 (.branch 47 (.branch 41 (.branch 38 (.leaf (36, .bipush 99, 2)) (.leaf (38, .invokestatic 76, 3))) (.branch 44 (.leaf (41, .ifCond .ne 10, 3)) (.branch 45 (.leaf (44, .aload_n 0, 1)) (.leaf (45, .bipush (-2), 2))))) (.branch 52 (.branch 50 (.leaf (47, .invokevirtual 84, 3)) (.branch 51 (.leaf (50, .ireturn, 1)) (.leaf (51, .aload_n 0, 1)))) (.branch 55 (.leaf (52, .getfield 73, 3)) (.branch 57 (.leaf (55, .bipush 6, 2)) (.leaf (57, .if_icmp .ne 12, 3)))))) (.branch 70 (.branch 63 (.branch 61 (.leaf (60, .aload_n 0, 1)) (.leaf (61, .bipush (-6), 2))) (.branch 66 (.leaf (63, .invokevirtual 84, 3)) (.branch 69 (.leaf (66, .goto 12, 3)) (.leaf (69, .aload_n 0, 1))))) (.branch 73 (.branch 71 (.leaf (70, .iload_n 1, 1)) (.branch 72 (.leaf (71, .iload_n 2, 1)) (.leaf (72, .iload_n 3, 1)))) (.branch 75 (.leaf (73, .iload 4, 2)) (.branch 78 (.leaf (75, .invokevirtual 111, 3)) (.leaf (78, .ireturn, 1)))))))
def mc_170 : am_T := .branch 24 (.branch 10 (.branch 5 (.branch 1 (.leaf (0, .aload_n 0, 1)) (.branch 2 (.leaf (1, .iload_n 1, 1)) (.leaf (2, .invokevirtual 80, 3)))) (.branch 8 (.leaf (5, .ifCond .eq 13, 3)) (.branch 9 (.leaf (8, .iload_n 2, 1)) (.leaf (9, .iconst 0, 1))))) (.branch 18 (.branch 12 (.leaf (10, .bipush 99, 2)) (.branch 15 (.leaf (12, .invokestatic 76, 3)) (.leaf (15, .ifCond .ne 10, 3)))) (.branch 19 (.leaf (18, .aload_n 0, 1)) (.branch 21 (.leaf (19, .bipush (-2), 2)) (.leaf (21, .invokevirtual 84, 3)))))) (.branch 32 (.branch 29 (.branch 25 (.leaf (24, .ireturn, 1)) (.branch 26 (.leaf (25, .aload_n 0, 1)) (.leaf (26, .getfield 35, 3)))) (.branch 30 (.leaf (29, .iload_n 1, 1)) (.branch 31 (.leaf (30, .iaload, 1)) (.leaf (31, .istore_n 3, 1))))) (.branch 37 (.branch 33 (.leaf (32, .aload_n 0, 1)) (.branch 36 (.leaf (33, .getfield 35, 3)) (.leaf (36, .iload_n 1, 1)))) (.branch 39 (.branch 38 (.leaf (37, .iload_n 2, 1)) (.leaf (38, .iastore, 1))) (.branch 40 (.leaf (39, .iload_n 3, 1)) (.leaf (40, .ireturn, 1))))))
def mc_171 : am_T := .branch 31 (.branch 14 (.branch 5 (.branch 1 (.leaf (0, .iload_n 1, 1)) (.branch 2 (.leaf (1, .iconst 0, 1)) (.leaf (2, .sipush 255, 3)))) (.branch 11 (.branch 8 (.leaf (5, .invokestatic 76, 3)) (.leaf (8, .ifCond .ne 10, 3))) (.branch 12 (.leaf (11, .aload_n 0, 1)) (.leaf (12, .bipush (-2), 2))))) (.branch 22 (.branch 18 (.branch 17 (.leaf (14, .invokevirtual 84, 3)) (.leaf (17, .ireturn, 1))) (.branch 19 (.leaf (18, .aload_n 0, 1)) (.leaf (19, .getfield 115, 3)))) (.branch 28 (.branch 25 (.leaf (22, .sipush 250, 3)) (.leaf (25, .if_icmp .ne 10, 3))) (.branch 29 (.leaf (28, .aload_n 0, 1)) (.leaf (29, .bipush (-6), 2)))))) (.branch 45 (.branch 39 (.branch 35 (.branch 34 (.leaf (31, .invokevirtual 84, 3)) (.leaf (34, .ireturn, 1))) (.branch 36 (.leaf (35, .aload_n 0, 1)) (.leaf (36, .getfield 41, 3)))) (.branch 41 (.branch 40 (.leaf (39, .aload_n 0, 1)) (.leaf (40, .dup, 1))) (.branch 44 (.leaf (41, .getfield 115, 3)) (.leaf (44, .dup_x1, 1))))) (.branch 51 (.branch 47 (.branch 46 (.leaf (45, .iconst 1, 1)) (.leaf (46, .iadd, 1))) (.branch 50 (.leaf (47, .putfield 115, 3)) (.leaf (50, .iload_n 1, 1)))) (.branch 53 (.branch 52 (.leaf (51, .iastore, 1)) (.leaf (52, .aload_n 0, 1))) (.branch 56 (.leaf (53, .getfield 115, 3)) (.leaf (56, .ireturn, 1))))))
def mc_172 : am_T := .branch 6 (.branch 4 (.branch 1 (.leaf (0, .aload_n 0, 1)) (.leaf (1, .getfield 115, 3))) (.branch 5 (.leaf (4, .istore_n 1, 1)) (.leaf (5, .aload_n 0, 1)))) (.branch 10 (.branch 7 (.leaf (6, .iconst 0, 1)) (.leaf (7, .putfield 115, 3))) (.branch 11 (.leaf (10, .iload_n 1, 1)) (.leaf (11, .ireturn, 1))))
def mc_173 : am_T := .branch 9 (.branch 3 (.branch 1 (.leaf (0, .iload_n 0, 1)) (.leaf (1, .bipush 97, 2))) (.branch 6 (.leaf (3, .if_icmp .lt 13, 3)) (.branch 7 (.leaf (6, .iload_n 0, 1)) (.leaf (7, .bipush 122, 2))))) (.branch 13 (.branch 12 (.leaf (9, .if_icmp .gt 7, 3)) (.leaf (12, .iconst 1, 1))) (.branch 16 (.leaf (13, .goto 4, 3)) (.branch 17 (.leaf (16, .iconst 0, 1)) (.leaf (17, .ireturn, 1)))))
def mc_174 : am_T := .branch 9 (.branch 3 (.branch 1 (.leaf (0, .iload_n 0, 1)) (.leaf (1, .bipush 48, 2))) (.branch 6 (.leaf (3, .if_icmp .lt 13, 3)) (.branch 7 (.leaf (6, .iload_n 0, 1)) (.leaf (7, .bipush 57, 2))))) (.branch 13 (.branch 12 (.leaf (9, .if_icmp .gt 7, 3)) (.leaf (12, .iconst 1, 1))) (.branch 16 (.leaf (13, .goto 4, 3)) (.branch 17 (.leaf (16, .iconst 0, 1)) (.leaf (17, .ireturn, 1)))))
def mc_175 : am_T := .branch 136 (.branch 67 (.branch 32 (.branch 16 (.branch 8 (.branch 4 (.branch 1 (.leaf (0, .aload_n 0, 1)) (.leaf (1, .getfield 118, 3))) (.branch 5 (.leaf (4, .aload_n 0, 1)) (.leaf (5, .getfield 115, 3)))) (.branch 12 (.branch 11 (.leaf (8, .if_icmp .ge 30, 3)) (.leaf (11, .aload_n 0, 1))) (.branch 15 (.leaf (12, .getfield 41, 3)) (.leaf (15, .aload_n 0, 1))))) (.branch 25 (.branch 20 (.branch 19 (.leaf (16, .getfield 118, 3)) (.leaf (19, .iaload, 1))) (.branch 22 (.leaf (20, .bipush 32, 2)) (.leaf (22, .if_icmp .ne 16, 3)))) (.branch 27 (.branch 26 (.leaf (25, .aload_n 0, 1)) (.leaf (26, .dup, 1))) (.branch 30 (.leaf (27, .getfield 118, 3)) (.branch 31 (.leaf (30, .iconst 1, 1)) (.leaf (31, .iadd, 1))))))) (.branch 50 (.branch 40 (.branch 38 (.branch 35 (.leaf (32, .putfield 118, 3)) (.leaf (35, .goto (-35), 3))) (.branch 39 (.leaf (38, .aload_n 0, 1)) (.leaf (39, .aload_n 0, 1)))) (.branch 46 (.branch 43 (.leaf (40, .getfield 118, 3)) (.leaf (43, .putfield 121, 3))) (.branch 47 (.leaf (46, .aload_n 0, 1)) (.leaf (47, .getfield 118, 3))))) (.branch 58 (.branch 54 (.branch 51 (.leaf (50, .aload_n 0, 1)) (.leaf (51, .getfield 115, 3))) (.branch 57 (.leaf (54, .if_icmp .ne 9, 3)) (.leaf (57, .aload_n 0, 1)))) (.branch 62 (.branch 59 (.leaf (58, .iconst 0, 1)) (.leaf (59, .putfield 124, 3))) (.branch 63 (.leaf (62, .return_, 1)) (.branch 64 (.leaf (63, .aload_n 0, 1)) (.leaf (64, .getfield 41, 3)))))))) (.branch 100 (.branch 81 (.branch 73 (.branch 71 (.branch 68 (.leaf (67, .aload_n 0, 1)) (.leaf (68, .getfield 118, 3))) (.branch 72 (.leaf (71, .iaload, 1)) (.leaf (72, .istore_n 1, 1)))) (.branch 77 (.branch 74 (.leaf (73, .iload_n 1, 1)) (.leaf (74, .invokestatic 127, 3))) (.branch 80 (.leaf (77, .ifCond .eq 47, 3)) (.leaf (80, .aload_n 0, 1))))) (.branch 89 (.branch 85 (.branch 82 (.leaf (81, .iconst 1, 1)) (.leaf (82, .putfield 124, 3))) (.branch 86 (.leaf (85, .aload_n 0, 1)) (.leaf (86, .getfield 118, 3)))) (.branch 93 (.branch 90 (.leaf (89, .aload_n 0, 1)) (.leaf (90, .getfield 115, 3))) (.branch 96 (.leaf (93, .if_icmp .ge 172, 3)) (.branch 97 (.leaf (96, .aload_n 0, 1)) (.leaf (97, .getfield 41, 3))))))) (.branch 117 (.branch 108 (.branch 104 (.branch 101 (.leaf (100, .aload_n 0, 1)) (.leaf (101, .getfield 118, 3))) (.branch 105 (.leaf (104, .iaload, 1)) (.leaf (105, .invokestatic 127, 3)))) (.branch 112 (.branch 111 (.leaf (108, .ifCond .eq 157, 3)) (.leaf (111, .aload_n 0, 1))) (.branch 113 (.leaf (112, .dup, 1)) (.branch 116 (.leaf (113, .getfield 118, 3)) (.leaf (116, .iconst 1, 1)))))) (.branch 125 (.branch 121 (.branch 118 (.leaf (117, .iadd, 1)) (.leaf (118, .putfield 118, 3))) (.branch 124 (.leaf (121, .goto (-36), 3)) (.leaf (124, .iload_n 1, 1)))) (.branch 131 (.branch 128 (.leaf (125, .invokestatic 130, 3)) (.leaf (128, .ifCond .eq 112, 3))) (.branch 132 (.leaf (131, .aload_n 0, 1)) (.branch 133 (.leaf (132, .iconst 2, 1)) (.leaf (133, .putfield 124, 3))))))))) (.branch 200 (.branch 171 (.branch 152 (.branch 142 (.branch 138 (.branch 137 (.leaf (136, .aload_n 0, 1)) (.leaf (137, .iconst 0, 1))) (.branch 141 (.leaf (138, .putfield 133, 3)) (.leaf (141, .aload_n 0, 1)))) (.branch 146 (.branch 145 (.leaf (142, .getfield 118, 3)) (.leaf (145, .aload_n 0, 1))) (.branch 149 (.leaf (146, .getfield 115, 3)) (.leaf (149, .if_icmp .ge 68, 3))))) (.branch 160 (.branch 156 (.branch 153 (.leaf (152, .aload_n 0, 1)) (.leaf (153, .getfield 41, 3))) (.branch 157 (.leaf (156, .aload_n 0, 1)) (.leaf (157, .getfield 118, 3)))) (.branch 164 (.branch 161 (.leaf (160, .iaload, 1)) (.leaf (161, .invokestatic 130, 3))) (.branch 167 (.leaf (164, .ifCond .eq 53, 3)) (.branch 168 (.leaf (167, .aload_n 0, 1)) (.leaf (168, .getfield 118, 3))))))) (.branch 184 (.branch 177 (.branch 175 (.branch 172 (.leaf (171, .aload_n 0, 1)) (.leaf (172, .getfield 121, 3))) (.branch 176 (.leaf (175, .isub, 1)) (.leaf (176, .iconst 3, 1)))) (.branch 181 (.branch 180 (.leaf (177, .if_icmp .ge 27, 3)) (.leaf (180, .aload_n 0, 1))) (.branch 183 (.leaf (181, .bipush 10, 2)) (.leaf (183, .aload_n 0, 1))))) (.branch 192 (.branch 188 (.branch 187 (.leaf (184, .getfield 133, 3)) (.leaf (187, .imul, 1))) (.branch 189 (.leaf (188, .aload_n 0, 1)) (.leaf (189, .getfield 41, 3)))) (.branch 196 (.branch 193 (.leaf (192, .aload_n 0, 1)) (.leaf (193, .getfield 118, 3))) (.branch 197 (.leaf (196, .iaload, 1)) (.branch 198 (.leaf (197, .iadd, 1)) (.leaf (198, .bipush 48, 2)))))))) (.branch 231 (.branch 214 (.branch 206 (.branch 204 (.branch 201 (.leaf (200, .isub, 1)) (.leaf (201, .putfield 133, 3))) (.branch 205 (.leaf (204, .aload_n 0, 1)) (.leaf (205, .dup, 1)))) (.branch 210 (.branch 209 (.leaf (206, .getfield 118, 3)) (.leaf (209, .iconst 1, 1))) (.branch 211 (.leaf (210, .iadd, 1)) (.leaf (211, .putfield 118, 3))))) (.branch 222 (.branch 218 (.branch 217 (.leaf (214, .goto (-73), 3)) (.leaf (217, .aload_n 0, 1))) (.branch 221 (.leaf (218, .getfield 118, 3)) (.leaf (221, .aload_n 0, 1)))) (.branch 226 (.branch 225 (.leaf (222, .getfield 121, 3)) (.leaf (225, .isub, 1))) (.branch 227 (.leaf (226, .iconst 2, 1)) (.branch 230 (.leaf (227, .if_icmp .le 38, 3)) (.leaf (230, .aload_n 0, 1))))))) (.branch 251 (.branch 241 (.branch 237 (.branch 234 (.leaf (231, .sipush 1000, 3)) (.leaf (234, .putfield 133, 3))) (.branch 240 (.leaf (237, .goto 28, 3)) (.leaf (240, .aload_n 0, 1)))) (.branch 244 (.branch 242 (.leaf (241, .iload_n 1, 1)) (.leaf (242, .bipush 59, 2))) (.branch 247 (.leaf (244, .if_icmp .ne 7, 3)) (.branch 248 (.leaf (247, .iconst 3, 1)) (.leaf (248, .goto 4, 3)))))) (.branch 257 (.branch 255 (.branch 252 (.leaf (251, .iconst (-1), 1)) (.leaf (252, .putfield 124, 3))) (.branch 256 (.leaf (255, .aload_n 0, 1)) (.leaf (256, .dup, 1)))) (.branch 261 (.branch 260 (.leaf (257, .getfield 118, 3)) (.leaf (260, .iconst 1, 1))) (.branch 262 (.leaf (261, .iadd, 1)) (.branch 265 (.leaf (262, .putfield 118, 3)) (.leaf (265, .return_, 1)))))))))
def mc_176 : am_T := .branch 30 (.branch 17 (.branch 8 (.branch 4 (.branch 1 (.leaf (0, .aload_n 0, 1)) (.leaf (1, .getfield 124, 3))) (.branch 5 (.leaf (4, .iconst 1, 1)) (.leaf (5, .if_icmp .ne 19, 3)))) (.branch 12 (.branch 9 (.leaf (8, .aload_n 0, 1)) (.leaf (9, .getfield 118, 3))) (.branch 13 (.leaf (12, .aload_n 0, 1)) (.branch 16 (.leaf (13, .getfield 121, 3)) (.leaf (16, .isub, 1)))))) (.branch 25 (.branch 21 (.branch 18 (.leaf (17, .aload_n 1, 1)) (.leaf (18, .invokevirtual 136, 3))) (.branch 24 (.leaf (21, .if_icmp .eq 5, 3)) (.leaf (24, .iconst 0, 1)))) (.branch 27 (.branch 26 (.leaf (25, .ireturn, 1)) (.leaf (26, .iconst 0, 1))) (.branch 28 (.leaf (27, .istore_n 2, 1)) (.branch 29 (.leaf (28, .iload_n 2, 1)) (.leaf (29, .aload_n 1, 1))))))) (.branch 47 (.branch 40 (.branch 36 (.branch 33 (.leaf (30, .invokevirtual 136, 3)) (.leaf (33, .if_icmp .ge 30, 3))) (.branch 37 (.leaf (36, .aload_n 0, 1)) (.leaf (37, .getfield 41, 3)))) (.branch 44 (.branch 41 (.leaf (40, .aload_n 0, 1)) (.leaf (41, .getfield 121, 3))) (.branch 45 (.leaf (44, .iload_n 2, 1)) (.branch 46 (.leaf (45, .iadd, 1)) (.leaf (46, .iaload, 1)))))) (.branch 56 (.branch 49 (.branch 48 (.leaf (47, .aload_n 1, 1)) (.leaf (48, .iload_n 2, 1))) (.branch 52 (.leaf (49, .invokevirtual 142, 3)) (.branch 55 (.leaf (52, .if_icmp .eq 5, 3)) (.leaf (55, .iconst 0, 1))))) (.branch 60 (.branch 57 (.leaf (56, .ireturn, 1)) (.leaf (57, .iinc 2 1, 3))) (.branch 63 (.leaf (60, .goto (-32), 3)) (.branch 64 (.leaf (63, .iconst 1, 1)) (.leaf (64, .ireturn, 1)))))))
def mc_177 : am_T := .branch 16 (.branch 8 (.branch 4 (.branch 1 (.leaf (0, .aload_n 0, 1)) (.leaf (1, .invokevirtual 146, 3))) (.branch 5 (.leaf (4, .aload_n 0, 1)) (.leaf (5, .getfield 124, 3)))) (.branch 12 (.branch 9 (.leaf (8, .iconst 2, 1)) (.leaf (9, .if_icmp .ne 19, 3))) (.branch 13 (.leaf (12, .aload_n 0, 1)) (.leaf (13, .getfield 133, 3))))) (.branch 24 (.branch 18 (.branch 17 (.leaf (16, .iload_n 1, 1)) (.leaf (17, .iload_n 2, 1))) (.branch 21 (.leaf (18, .invokestatic 76, 3)) (.leaf (21, .ifCond .eq 7, 3)))) (.branch 28 (.branch 25 (.leaf (24, .iconst 1, 1)) (.leaf (25, .goto 4, 3))) (.branch 29 (.leaf (28, .iconst 0, 1)) (.leaf (29, .ireturn, 1)))))
def mc_178 : am_T := .branch 170 (.branch 87 (.branch 45 (.branch 23 (.branch 10 (.branch 3 (.branch 1 (.leaf (0, .aload_n 0, 1)) (.leaf (1, .ldc 148, 2))) (.branch 6 (.leaf (3, .invokevirtual 149, 3)) (.branch 9 (.leaf (6, .ifCond .eq 33, 3)) (.leaf (9, .aload_n 0, 1))))) (.branch 17 (.branch 13 (.leaf (10, .getfield 73, 3)) (.branch 16 (.leaf (13, .ifCond .ne 26, 3)) (.leaf (16, .aload_n 0, 1)))) (.branch 18 (.leaf (17, .iconst 2, 1)) (.branch 20 (.leaf (18, .bipush 6, 2)) (.leaf (20, .invokevirtual 153, 3)))))) (.branch 30 (.branch 27 (.branch 26 (.leaf (23, .ifCond .ne 5, 3)) (.leaf (26, .iconst 0, 1))) (.branch 28 (.leaf (27, .ireturn, 1)) (.branch 29 (.leaf (28, .aload_n 0, 1)) (.leaf (29, .aload_n 0, 1))))) (.branch 39 (.branch 33 (.leaf (30, .getfield 133, 3)) (.branch 36 (.leaf (33, .putfield 66, 3)) (.leaf (36, .goto 284, 3)))) (.branch 40 (.leaf (39, .aload_n 0, 1)) (.branch 42 (.leaf (40, .ldc 156, 2)) (.leaf (42, .invokevirtual 149, 3))))))) (.branch 64 (.branch 54 (.branch 49 (.branch 48 (.leaf (45, .ifCond .eq 60, 3)) (.leaf (48, .aload_n 0, 1))) (.branch 50 (.leaf (49, .iconst 0, 1)) (.branch 51 (.leaf (50, .aload_n 0, 1)) (.leaf (51, .getfield 66, 3))))) (.branch 59 (.branch 55 (.leaf (54, .iconst 1, 1)) (.branch 56 (.leaf (55, .isub, 1)) (.leaf (56, .invokevirtual 153, 3)))) (.branch 62 (.leaf (59, .ifCond .eq 14, 3)) (.branch 63 (.leaf (62, .aload_n 0, 1)) (.leaf (63, .aload_n 0, 1)))))) (.branch 76 (.branch 73 (.branch 67 (.leaf (64, .getfield 133, 3)) (.branch 70 (.leaf (67, .invokevirtual 108, 3)) (.leaf (70, .ifCond .eq 5, 3)))) (.branch 74 (.leaf (73, .iconst 0, 1)) (.branch 75 (.leaf (74, .ireturn, 1)) (.leaf (75, .aload_n 0, 1))))) (.branch 81 (.branch 79 (.leaf (76, .getfield 133, 3)) (.branch 80 (.leaf (79, .istore_n 1, 1)) (.leaf (80, .aload_n 0, 1)))) (.branch 82 (.leaf (81, .iconst 2, 1)) (.branch 84 (.leaf (82, .bipush 20, 2)) (.leaf (84, .invokevirtual 153, 3)))))))) (.branch 129 (.branch 106 (.branch 96 (.branch 91 (.branch 90 (.leaf (87, .ifCond .ne 5, 3)) (.leaf (90, .iconst 0, 1))) (.branch 92 (.leaf (91, .ireturn, 1)) (.branch 93 (.leaf (92, .aload_n 0, 1)) (.leaf (93, .getfield 20, 3))))) (.branch 101 (.branch 97 (.leaf (96, .iload_n 1, 1)) (.branch 98 (.leaf (97, .aload_n 0, 1)) (.leaf (98, .getfield 133, 3)))) (.branch 102 (.leaf (101, .iastore, 1)) (.branch 105 (.leaf (102, .goto 218, 3)) (.leaf (105, .aload_n 0, 1)))))) (.branch 117 (.branch 114 (.branch 108 (.leaf (106, .ldc 157, 2)) (.branch 111 (.leaf (108, .invokevirtual 149, 3)) (.leaf (111, .ifCond .eq 49, 3)))) (.branch 115 (.leaf (114, .aload_n 0, 1)) (.branch 116 (.leaf (115, .iconst 0, 1)) (.leaf (116, .aload_n 0, 1))))) (.branch 122 (.branch 120 (.leaf (117, .getfield 66, 3)) (.branch 121 (.leaf (120, .iconst 2, 1)) (.leaf (121, .isub, 1)))) (.branch 125 (.leaf (122, .invokevirtual 153, 3)) (.branch 128 (.leaf (125, .ifCond .ne 5, 3)) (.leaf (128, .iconst 0, 1))))))) (.branch 147 (.branch 136 (.branch 131 (.branch 130 (.leaf (129, .ireturn, 1)) (.leaf (130, .aload_n 0, 1))) (.branch 134 (.leaf (131, .getfield 133, 3)) (.branch 135 (.leaf (134, .istore_n 1, 1)) (.leaf (135, .aload_n 0, 1))))) (.branch 142 (.branch 137 (.leaf (136, .iconst 1, 1)) (.branch 139 (.leaf (137, .bipush 9, 2)) (.leaf (139, .invokevirtual 153, 3)))) (.branch 145 (.leaf (142, .ifCond .ne 5, 3)) (.branch 146 (.leaf (145, .iconst 0, 1)) (.leaf (146, .ireturn, 1)))))) (.branch 157 (.branch 152 (.branch 148 (.leaf (147, .aload_n 0, 1)) (.branch 151 (.leaf (148, .getfield 23, 3)) (.leaf (151, .iload_n 1, 1)))) (.branch 153 (.leaf (152, .aload_n 0, 1)) (.branch 156 (.leaf (153, .getfield 133, 3)) (.leaf (156, .iastore, 1))))) (.branch 163 (.branch 160 (.leaf (157, .goto 163, 3)) (.branch 161 (.leaf (160, .aload_n 0, 1)) (.leaf (161, .ldc 158, 2)))) (.branch 166 (.leaf (163, .invokevirtual 149, 3)) (.branch 169 (.leaf (166, .ifCond .eq 27, 3)) (.leaf (169, .aload_n 0, 1))))))))) (.branch 250 (.branch 213 (.branch 190 (.branch 180 (.branch 173 (.branch 171 (.leaf (170, .iconst 1, 1)) (.leaf (171, .bipush 60, 2))) (.branch 176 (.leaf (173, .invokevirtual 153, 3)) (.branch 179 (.leaf (176, .ifCond .ne 5, 3)) (.leaf (179, .iconst 0, 1))))) (.branch 183 (.branch 181 (.leaf (180, .ireturn, 1)) (.branch 182 (.leaf (181, .aload_n 0, 1)) (.leaf (182, .aload_n 0, 1)))) (.branch 186 (.leaf (183, .getfield 133, 3)) (.branch 189 (.leaf (186, .invokevirtual 160, 3)) (.leaf (189, .pop, 1)))))) (.branch 202 (.branch 194 (.branch 193 (.leaf (190, .goto 130, 3)) (.leaf (193, .aload_n 0, 1))) (.branch 196 (.leaf (194, .ldc 163, 2)) (.branch 199 (.leaf (196, .invokevirtual 149, 3)) (.leaf (199, .ifCond .eq 119, 3))))) (.branch 208 (.branch 203 (.leaf (202, .aload_n 0, 1)) (.branch 206 (.leaf (203, .getfield 73, 3)) (.leaf (206, .bipush 6, 2)))) (.branch 211 (.leaf (208, .if_icmp .ge 110, 3)) (.branch 212 (.leaf (211, .aload_n 0, 1)) (.leaf (212, .iconst 0, 1))))))) (.branch 230 (.branch 222 (.branch 217 (.branch 214 (.leaf (213, .iconst 5, 1)) (.leaf (214, .invokevirtual 153, 3))) (.branch 220 (.leaf (217, .ifCond .ne 5, 3)) (.branch 221 (.leaf (220, .iconst 0, 1)) (.leaf (221, .ireturn, 1))))) (.branch 227 (.branch 223 (.leaf (222, .aload_n 0, 1)) (.branch 226 (.leaf (223, .getfield 133, 3)) (.leaf (226, .istore_n 1, 1)))) (.branch 228 (.leaf (227, .aload_n 0, 1)) (.branch 229 (.leaf (228, .iconst 0, 1)) (.leaf (229, .aload_n 0, 1)))))) (.branch 242 (.branch 235 (.branch 233 (.leaf (230, .getfield 66, 3)) (.branch 234 (.leaf (233, .iconst 1, 1)) (.leaf (234, .isub, 1)))) (.branch 238 (.leaf (235, .invokevirtual 153, 3)) (.branch 241 (.leaf (238, .ifCond .ne 5, 3)) (.leaf (241, .iconst 0, 1))))) (.branch 247 (.branch 243 (.leaf (242, .ireturn, 1)) (.branch 244 (.leaf (243, .aload_n 0, 1)) (.leaf (244, .getfield 133, 3)))) (.branch 248 (.leaf (247, .istore_n 2, 1)) (.branch 249 (.leaf (248, .aload_n 0, 1)) (.leaf (249, .iconst 0, 1)))))))) (.branch 288 (.branch 267 (.branch 257 (.branch 254 (.branch 251 (.leaf (250, .aload_n 0, 1)) (.leaf (251, .getfield 20, 3))) (.branch 255 (.leaf (254, .iload_n 2, 1)) (.branch 256 (.leaf (255, .iaload, 1)) (.leaf (256, .iconst 1, 1))))) (.branch 264 (.branch 258 (.leaf (257, .isub, 1)) (.branch 261 (.leaf (258, .invokevirtual 153, 3)) (.leaf (261, .ifCond .ne 5, 3)))) (.branch 265 (.leaf (264, .iconst 0, 1)) (.branch 266 (.leaf (265, .ireturn, 1)) (.leaf (266, .aload_n 0, 1)))))) (.branch 277 (.branch 270 (.branch 268 (.leaf (267, .iload_n 1, 1)) (.branch 269 (.leaf (268, .iload_n 2, 1)) (.leaf (269, .aload_n 0, 1)))) (.branch 273 (.leaf (270, .getfield 133, 3)) (.branch 274 (.leaf (273, .iconst 0, 1)) (.leaf (274, .invokevirtual 111, 3))))) (.branch 282 (.branch 278 (.leaf (277, .istore_n 3, 1)) (.branch 279 (.leaf (278, .aload_n 0, 1)) (.leaf (279, .invokevirtual 146, 3)))) (.branch 283 (.leaf (282, .aload_n 0, 1)) (.branch 285 (.leaf (283, .ldc 165, 2)) (.leaf (285, .invokevirtual 149, 3))))))) (.branch 306 (.branch 295 (.branch 292 (.branch 291 (.leaf (288, .ifCond .ne 5, 3)) (.leaf (291, .iconst 1, 1))) (.branch 293 (.leaf (292, .ireturn, 1)) (.branch 294 (.leaf (293, .aload_n 0, 1)) (.leaf (294, .iconst 0, 1))))) (.branch 303 (.branch 297 (.leaf (295, .bipush 99, 2)) (.branch 300 (.leaf (297, .invokevirtual 153, 3)) (.leaf (300, .ifCond .ne 5, 3)))) (.branch 304 (.leaf (303, .iconst 0, 1)) (.branch 305 (.leaf (304, .ireturn, 1)) (.leaf (305, .aload_n 0, 1)))))) (.branch 318 (.branch 311 (.branch 309 (.leaf (306, .getfield 35, 3)) (.branch 310 (.leaf (309, .iload_n 3, 1)) (.leaf (310, .aload_n 0, 1)))) (.branch 314 (.leaf (311, .getfield 133, 3)) (.branch 315 (.leaf (314, .iastore, 1)) (.leaf (315, .goto 5, 3))))) (.branch 321 (.branch 319 (.leaf (318, .iconst 0, 1)) (.branch 320 (.leaf (319, .ireturn, 1)) (.leaf (320, .aload_n 0, 1)))) (.branch 324 (.leaf (321, .invokevirtual 146, 3)) (.branch 325 (.leaf (324, .iconst 1, 1)) (.leaf (325, .ireturn, 1)))))))))
def mc_179 : am_T := .branch 53 (.branch 22 (.branch 13 (.branch 5 (.branch 1 (.leaf (0, .aload_n 0, 1)) (.branch 2 (.leaf (1, .aload_n 0, 1)) (.leaf (2, .getfield 50, 3)))) (.branch 9 (.branch 8 (.leaf (5, .invokevirtual 166, 3)) (.leaf (8, .aload_n 0, 1))) (.branch 10 (.leaf (9, .iconst 0, 1)) (.leaf (10, .putfield 118, 3))))) (.branch 16 (.branch 14 (.leaf (13, .iconst 0, 1)) (.branch 15 (.leaf (14, .istore_n 1, 1)) (.leaf (15, .iconst 1, 1)))) (.branch 18 (.branch 17 (.leaf (16, .istore_n 2, 1)) (.leaf (17, .iload_n 2, 1))) (.branch 21 (.leaf (18, .ifCond .eq 58, 3)) (.leaf (21, .aload_n 0, 1)))))) (.branch 37 (.branch 29 (.branch 25 (.leaf (22, .invokevirtual 146, 3)) (.branch 26 (.leaf (25, .aload_n 0, 1)) (.leaf (26, .invokevirtual 170, 3)))) (.branch 31 (.branch 30 (.leaf (29, .istore_n 2, 1)) (.leaf (30, .iload_n 2, 1))) (.branch 34 (.leaf (31, .ifCond .eq 6, 3)) (.leaf (34, .iinc 1 1, 3))))) (.branch 45 (.branch 41 (.branch 38 (.leaf (37, .iload_n 2, 1)) (.leaf (38, .ifCond .eq 17, 3))) (.branch 42 (.leaf (41, .aload_n 0, 1)) (.leaf (42, .getfield 124, 3)))) (.branch 49 (.branch 48 (.leaf (45, .ifCond .ne 10, 3)) (.leaf (48, .aload_n 0, 1))) (.branch 50 (.leaf (49, .iconst 0, 1)) (.leaf (50, .putfield 115, 3))))))) (.branch 77 (.branch 64 (.branch 56 (.branch 54 (.leaf (53, .iload_n 1, 1)) (.branch 55 (.leaf (54, .ireturn, 1)) (.leaf (55, .iload_n 2, 1)))) (.branch 60 (.branch 59 (.leaf (56, .ifCond .eq 15, 3)) (.leaf (59, .aload_n 0, 1))) (.branch 63 (.leaf (60, .getfield 124, 3)) (.leaf (63, .iconst 3, 1))))) (.branch 71 (.branch 67 (.leaf (64, .if_icmp .ne 7, 3)) (.branch 68 (.leaf (67, .iconst 1, 1)) (.leaf (68, .goto 4, 3)))) (.branch 73 (.branch 72 (.leaf (71, .iconst 0, 1)) (.leaf (72, .istore_n 2, 1))) (.branch 76 (.leaf (73, .goto (-56), 3)) (.leaf (76, .aload_n 0, 1)))))) (.branch 90 (.branch 84 (.branch 78 (.leaf (77, .aload_n 0, 1)) (.branch 81 (.leaf (78, .getfield 50, 3)) (.leaf (81, .invokevirtual 174, 3)))) (.branch 86 (.branch 85 (.leaf (84, .aload_n 0, 1)) (.leaf (85, .iconst 0, 1))) (.branch 89 (.leaf (86, .putfield 115, 3)) (.leaf (89, .aload_n 0, 1))))) (.branch 98 (.branch 95 (.branch 92 (.leaf (90, .bipush (-2), 2)) (.leaf (92, .invokevirtual 84, 3))) (.branch 96 (.leaf (95, .pop, 1)) (.leaf (96, .bipush (-20), 2)))) (.branch 102 (.branch 99 (.leaf (98, .aload_n 0, 1)) (.leaf (99, .getfield 121, 3))) (.branch 103 (.leaf (102, .isub, 1)) (.leaf (103, .ireturn, 1)))))))
def mc_180 : am_T := .branch 65 (.branch 16 (.branch 8 (.branch 2 (.branch 1 (.leaf (0, .aload_n 0, 1)) (.leaf (1, .iload_n 1, 1))) (.branch 5 (.leaf (2, .invokevirtual 80, 3)) (.leaf (5, .ifCond .ne 10, 3)))) (.branch 11 (.branch 9 (.leaf (8, .aload_n 0, 1)) (.leaf (9, .bipush (-2), 2))) (.branch 14 (.leaf (11, .invokevirtual 84, 3)) (.branch 15 (.leaf (14, .ireturn, 1)) (.leaf (15, .iload_n 2, 1)))))) (.branch 58 (.branch 53 (.branch 52 (.leaf (16, .tableswitch 71 0 4 #[36, 43, 50, 57, 64], 36)) (.leaf (52, .aload_n 0, 1))) (.branch 56 (.leaf (53, .getfield 26, 3)) (.branch 57 (.leaf (56, .iload_n 1, 1)) (.leaf (57, .iaload, 1))))) (.branch 60 (.branch 59 (.leaf (58, .ireturn, 1)) (.leaf (59, .aload_n 0, 1))) (.branch 63 (.leaf (60, .getfield 29, 3)) (.branch 64 (.leaf (63, .iload_n 1, 1)) (.leaf (64, .iaload, 1))))))) (.branch 79 (.branch 72 (.branch 67 (.branch 66 (.leaf (65, .ireturn, 1)) (.leaf (66, .aload_n 0, 1))) (.branch 70 (.leaf (67, .getfield 32, 3)) (.branch 71 (.leaf (70, .iload_n 1, 1)) (.leaf (71, .iaload, 1))))) (.branch 74 (.branch 73 (.leaf (72, .ireturn, 1)) (.leaf (73, .aload_n 0, 1))) (.branch 77 (.leaf (74, .getfield 35, 3)) (.branch 78 (.leaf (77, .iload_n 1, 1)) (.leaf (78, .iaload, 1)))))) (.branch 86 (.branch 81 (.branch 80 (.leaf (79, .ireturn, 1)) (.leaf (80, .aload_n 0, 1))) (.branch 84 (.leaf (81, .getfield 38, 3)) (.branch 85 (.leaf (84, .iload_n 1, 1)) (.leaf (85, .iaload, 1))))) (.branch 88 (.branch 87 (.leaf (86, .ireturn, 1)) (.leaf (87, .aload_n 0, 1))) (.branch 90 (.leaf (88, .bipush (-2), 2)) (.branch 93 (.leaf (90, .invokevirtual 84, 3)) (.leaf (93, .ireturn, 1)))))))
def mc_181 : am_T := .branch 37 (.branch 18 (.branch 9 (.branch 2 (.branch 1 (.leaf (0, .aload_n 0, 1)) (.leaf (1, .iload_n 1, 1))) (.branch 5 (.leaf (2, .invokevirtual 105, 3)) (.branch 8 (.leaf (5, .ifCond .eq 12, 3)) (.leaf (8, .iload_n 2, 1))))) (.branch 11 (.branch 10 (.leaf (9, .iconst 0, 1)) (.leaf (10, .iconst 2, 1))) (.branch 14 (.leaf (11, .invokestatic 76, 3)) (.branch 17 (.leaf (14, .ifCond .ne 10, 3)) (.leaf (17, .aload_n 0, 1)))))) (.branch 28 (.branch 23 (.branch 20 (.leaf (18, .bipush (-2), 2)) (.leaf (20, .invokevirtual 84, 3))) (.branch 24 (.leaf (23, .ireturn, 1)) (.branch 25 (.leaf (24, .iload_n 2, 1)) (.leaf (25, .ifCond .ne 12, 3))))) (.branch 32 (.branch 29 (.leaf (28, .aload_n 0, 1)) (.leaf (29, .getfield 20, 3))) (.branch 33 (.leaf (32, .iload_n 1, 1)) (.branch 34 (.leaf (33, .iaload, 1)) (.leaf (34, .goto 36, 3))))))) (.branch 55 (.branch 44 (.branch 39 (.branch 38 (.leaf (37, .iload_n 2, 1)) (.leaf (38, .iconst 2, 1))) (.branch 42 (.leaf (39, .if_icmp .ne 11, 3)) (.branch 43 (.leaf (42, .aload_n 0, 1)) (.leaf (43, .iload_n 1, 1))))) (.branch 50 (.branch 47 (.leaf (44, .invokevirtual 108, 3)) (.leaf (47, .goto 23, 3))) (.branch 51 (.leaf (50, .iload_n 1, 1)) (.branch 52 (.leaf (51, .aload_n 0, 1)) (.leaf (52, .getfield 66, 3)))))) (.branch 64 (.branch 57 (.branch 56 (.leaf (55, .iconst 1, 1)) (.leaf (56, .isub, 1))) (.branch 60 (.leaf (57, .if_icmp .ne 7, 3)) (.branch 61 (.leaf (60, .iconst 0, 1)) (.leaf (61, .goto 9, 3))))) (.branch 68 (.branch 65 (.leaf (64, .aload_n 0, 1)) (.leaf (65, .getfield 23, 3))) (.branch 69 (.leaf (68, .iload_n 1, 1)) (.branch 70 (.leaf (69, .iaload, 1)) (.leaf (70, .ireturn, 1)))))))
def mc_182 : am_T := .branch 26 (.branch 14 (.branch 6 (.branch 4 (.branch 1 (.leaf (0, .aload_n 0, 1)) (.leaf (1, .getfield 38, 3))) (.branch 5 (.leaf (4, .iload_n 1, 1)) (.leaf (5, .iaload, 1)))) (.branch 10 (.branch 9 (.leaf (6, .ifCond .le 16, 3)) (.leaf (9, .aload_n 0, 1))) (.branch 13 (.leaf (10, .getfield 38, 3)) (.leaf (13, .iload_n 1, 1))))) (.branch 18 (.branch 16 (.branch 15 (.leaf (14, .dup2, 1)) (.leaf (15, .iaload, 1))) (.branch 17 (.leaf (16, .iconst 1, 1)) (.leaf (17, .isub, 1)))) (.branch 22 (.branch 19 (.leaf (18, .iastore, 1)) (.leaf (19, .goto 29, 3))) (.branch 23 (.leaf (22, .aload_n 0, 1)) (.leaf (23, .getfield 32, 3)))))) (.branch 36 (.branch 32 (.branch 28 (.branch 27 (.leaf (26, .iload_n 1, 1)) (.leaf (27, .aload_n 0, 1))) (.branch 31 (.leaf (28, .getfield 32, 3)) (.leaf (31, .iload_n 1, 1)))) (.branch 34 (.branch 33 (.leaf (32, .iaload, 1)) (.leaf (33, .iconst 1, 1))) (.branch 35 (.leaf (34, .iadd, 1)) (.leaf (35, .aload_n 0, 1))))) (.branch 44 (.branch 40 (.branch 39 (.leaf (36, .getfield 20, 3)) (.leaf (39, .aload_n 0, 1))) (.branch 43 (.leaf (40, .getfield 29, 3)) (.leaf (43, .iload_n 1, 1)))) (.branch 46 (.branch 45 (.leaf (44, .iaload, 1)) (.leaf (45, .iaload, 1))) (.branch 47 (.leaf (46, .irem, 1)) (.branch 48 (.leaf (47, .iastore, 1)) (.leaf (48, .return_, 1)))))))
def mc_183 : am_T := .branch 28 (.branch 14 (.branch 6 (.branch 4 (.branch 1 (.leaf (0, .aload_n 0, 1)) (.leaf (1, .getfield 38, 3))) (.branch 5 (.leaf (4, .iload_n 1, 1)) (.leaf (5, .iaload, 1)))) (.branch 10 (.branch 9 (.leaf (6, .ifCond .ne 46, 3)) (.leaf (9, .aload_n 0, 1))) (.branch 13 (.leaf (10, .getfield 38, 3)) (.leaf (13, .iload_n 2, 1))))) (.branch 22 (.branch 18 (.branch 15 (.leaf (14, .iaload, 1)) (.leaf (15, .ifCond .ne 37, 3))) (.branch 19 (.leaf (18, .aload_n 0, 1)) (.leaf (19, .getfield 29, 3)))) (.branch 24 (.branch 23 (.leaf (22, .iload_n 1, 1)) (.leaf (23, .iaload, 1))) (.branch 25 (.leaf (24, .aload_n 0, 1)) (.leaf (25, .getfield 29, 3)))))) (.branch 40 (.branch 34 (.branch 30 (.branch 29 (.leaf (28, .iload_n 2, 1)) (.leaf (29, .iaload, 1))) (.branch 33 (.leaf (30, .if_icmp .ne 22, 3)) (.leaf (33, .aload_n 0, 1)))) (.branch 38 (.branch 37 (.leaf (34, .getfield 32, 3)) (.leaf (37, .iload_n 1, 1))) (.branch 39 (.leaf (38, .iaload, 1)) (.leaf (39, .aload_n 0, 1))))) (.branch 48 (.branch 44 (.branch 43 (.leaf (40, .getfield 32, 3)) (.leaf (43, .iload_n 2, 1))) (.branch 45 (.leaf (44, .iaload, 1)) (.leaf (45, .if_icmp .ne 7, 3)))) (.branch 52 (.branch 49 (.leaf (48, .iconst 1, 1)) (.leaf (49, .goto 4, 3))) (.branch 53 (.leaf (52, .iconst 0, 1)) (.leaf (53, .ireturn, 1))))))
def mc_184 : am_T := .branch 21 (.branch 10 (.branch 5 (.branch 1 (.leaf (0, .aload_n 0, 1)) (.branch 4 (.leaf (1, .getfield 26, 3)) (.leaf (4, .iload_n 1, 1)))) (.branch 6 (.leaf (5, .iaload, 1)) (.branch 7 (.leaf (6, .iconst 1, 1)) (.leaf (7, .if_icmp .eq 13, 3))))) (.branch 15 (.branch 11 (.leaf (10, .aload_n 0, 1)) (.branch 14 (.leaf (11, .getfield 26, 3)) (.leaf (14, .iload_n 1, 1)))) (.branch 17 (.branch 16 (.leaf (15, .iaload, 1)) (.leaf (16, .iconst 5, 1))) (.branch 20 (.leaf (17, .if_icmp .ne 16, 3)) (.leaf (20, .aload_n 0, 1)))))) (.branch 29 (.branch 26 (.branch 24 (.leaf (21, .getfield 23, 3)) (.branch 25 (.leaf (24, .iload_n 2, 1)) (.leaf (25, .iaload, 1)))) (.branch 27 (.leaf (26, .iconst 1, 1)) (.branch 28 (.leaf (27, .iadd, 1)) (.leaf (28, .iconst 2, 1))))) (.branch 34 (.branch 30 (.leaf (29, .idiv, 1)) (.branch 33 (.leaf (30, .goto 9, 3)) (.leaf (33, .aload_n 0, 1)))) (.branch 38 (.branch 37 (.leaf (34, .getfield 23, 3)) (.leaf (37, .iload_n 2, 1))) (.branch 39 (.leaf (38, .iaload, 1)) (.leaf (39, .ireturn, 1))))))
def mc_185 : am_T := .branch 3 (.branch 1 (.leaf (0, .iconst 1, 1)) (.branch 2 (.leaf (1, .iload_n 0, 1)) (.leaf (2, .iconst 2, 1)))) (.branch 4 (.leaf (3, .idiv, 1)) (.branch 7 (.leaf (4, .invokestatic 177, 3)) (.leaf (7, .ireturn, 1))))
def mc_186 : am_T := .branch 16 (.branch 8 (.branch 5 (.branch 1 (.leaf (0, .iload_n 1, 1)) (.branch 2 (.leaf (1, .aload_n 0, 1)) (.leaf (2, .getfield 20, 3)))) (.branch 6 (.leaf (5, .iload_n 3, 1)) (.branch 7 (.leaf (6, .iaload, 1)) (.leaf (7, .imul, 1))))) (.branch 13 (.branch 9 (.leaf (8, .aload_n 0, 1)) (.branch 12 (.leaf (9, .getfield 20, 3)) (.leaf (12, .iload_n 2, 1)))) (.branch 14 (.leaf (13, .iaload, 1)) (.branch 15 (.leaf (14, .idiv, 1)) (.leaf (15, .aload_n 0, 1)))))) (.branch 24 (.branch 21 (.branch 19 (.leaf (16, .getfield 20, 3)) (.branch 20 (.leaf (19, .iload_n 3, 1)) (.leaf (20, .iaload, 1)))) (.branch 22 (.leaf (21, .iconst 2, 1)) (.branch 23 (.leaf (22, .idiv, 1)) (.leaf (23, .iadd, 1))))) (.branch 29 (.branch 25 (.leaf (24, .aload_n 0, 1)) (.branch 28 (.leaf (25, .getfield 20, 3)) (.leaf (28, .iload_n 3, 1)))) (.branch 30 (.leaf (29, .iaload, 1)) (.branch 31 (.leaf (30, .irem, 1)) (.leaf (31, .ireturn, 1))))))
def mc_187 : am_T := .branch 36 (.branch 17 (.branch 7 (.branch 4 (.branch 1 (.leaf (0, .aload_n 0, 1)) (.leaf (1, .getfield 26, 3))) (.branch 5 (.leaf (4, .iload_n 1, 1)) (.branch 6 (.leaf (5, .iaload, 1)) (.leaf (6, .iconst 2, 1))))) (.branch 14 (.branch 10 (.leaf (7, .if_icmp .eq 68, 3)) (.branch 11 (.leaf (10, .aload_n 0, 1)) (.leaf (11, .getfield 26, 3)))) (.branch 15 (.leaf (14, .iload_n 1, 1)) (.branch 16 (.leaf (15, .iaload, 1)) (.leaf (16, .iconst 3, 1)))))) (.branch 26 (.branch 21 (.branch 20 (.leaf (17, .if_icmp .eq 58, 3)) (.leaf (20, .aload_n 0, 1))) (.branch 24 (.leaf (21, .getfield 26, 3)) (.branch 25 (.leaf (24, .iload_n 1, 1)) (.leaf (25, .iaload, 1))))) (.branch 31 (.branch 27 (.leaf (26, .iconst 4, 1)) (.branch 30 (.leaf (27, .if_icmp .eq 48, 3)) (.leaf (30, .aload_n 0, 1)))) (.branch 34 (.leaf (31, .getfield 38, 3)) (.branch 35 (.leaf (34, .iload_n 1, 1)) (.leaf (35, .iaload, 1))))))) (.branch 55 (.branch 45 (.branch 40 (.branch 39 (.leaf (36, .ifCond .ne 39, 3)) (.leaf (39, .iload_n 2, 1))) (.branch 41 (.leaf (40, .iconst 1, 1)) (.branch 44 (.leaf (41, .if_icmp .ne 21, 3)) (.leaf (44, .aload_n 0, 1))))) (.branch 50 (.branch 48 (.leaf (45, .getfield 29, 3)) (.branch 49 (.leaf (48, .iload_n 1, 1)) (.leaf (49, .iaload, 1)))) (.branch 51 (.leaf (50, .aload_n 0, 1)) (.branch 54 (.leaf (51, .getfield 66, 3)) (.leaf (54, .iconst 1, 1)))))) (.branch 67 (.branch 62 (.branch 56 (.leaf (55, .isub, 1)) (.branch 59 (.leaf (56, .if_icmp .ge 19, 3)) (.leaf (59, .goto 12, 3)))) (.branch 63 (.leaf (62, .aload_n 0, 1)) (.branch 66 (.leaf (63, .getfield 29, 3)) (.leaf (66, .iload_n 1, 1))))) (.branch 72 (.branch 68 (.leaf (67, .iaload, 1)) (.branch 71 (.leaf (68, .ifCond .le 7, 3)) (.leaf (71, .iconst 1, 1)))) (.branch 75 (.leaf (72, .goto 4, 3)) (.branch 76 (.leaf (75, .iconst 0, 1)) (.leaf (76, .ireturn, 1)))))))
def mc_188 : am_T := .branch 13 (.branch 4 (.branch 2 (.branch 1 (.leaf (0, .aload_n 0, 1)) (.leaf (1, .iload_n 1, 1))) (.branch 3 (.leaf (2, .iload_n 2, 1)) (.leaf (3, .iconst 1, 1)))) (.branch 8 (.branch 7 (.leaf (4, .if_icmp .ne 12, 3)) (.leaf (7, .aload_n 0, 1))) (.branch 11 (.leaf (8, .getfield 29, 3)) (.branch 12 (.leaf (11, .iload_n 1, 1)) (.leaf (12, .iaload, 1)))))) (.branch 21 (.branch 17 (.branch 16 (.leaf (13, .goto 11, 3)) (.leaf (16, .aload_n 0, 1))) (.branch 20 (.leaf (17, .getfield 29, 3)) (.leaf (20, .iload_n 1, 1)))) (.branch 23 (.branch 22 (.leaf (21, .iaload, 1)) (.leaf (22, .iconst 1, 1))) (.branch 24 (.leaf (23, .isub, 1)) (.branch 27 (.leaf (24, .invokevirtual 98, 3)) (.leaf (27, .ireturn, 1))))))
def mc_189 : am_T := .branch 22 (.branch 10 (.branch 5 (.branch 1 (.leaf (0, .iload_n 2, 1)) (.branch 4 (.leaf (1, .ifCond .eq 36, 3)) (.leaf (4, .iload_n 2, 1)))) (.branch 6 (.leaf (5, .iconst 1, 1)) (.branch 7 (.leaf (6, .iconst 2, 1)) (.leaf (7, .invokestatic 76, 3))))) (.branch 15 (.branch 13 (.leaf (10, .ifCond .eq 31, 3)) (.branch 14 (.leaf (13, .aload_n 0, 1)) (.leaf (14, .iload_n 1, 1)))) (.branch 16 (.leaf (15, .iload_n 2, 1)) (.branch 19 (.leaf (16, .invokevirtual 182, 3)) (.leaf (19, .ifCond .eq 22, 3)))))) (.branch 30 (.branch 27 (.branch 23 (.leaf (22, .aload_n 0, 1)) (.branch 26 (.leaf (23, .getfield 35, 3)) (.leaf (26, .iload_n 1, 1)))) (.branch 28 (.leaf (27, .iaload, 1)) (.branch 29 (.leaf (28, .aload_n 0, 1)) (.leaf (29, .iload_n 1, 1))))) (.branch 37 (.branch 31 (.leaf (30, .iload_n 2, 1)) (.branch 34 (.leaf (31, .invokevirtual 185, 3)) (.leaf (34, .if_icmp .lt 7, 3)))) (.branch 41 (.branch 38 (.leaf (37, .iconst 1, 1)) (.leaf (38, .goto 4, 3))) (.branch 42 (.leaf (41, .iconst 0, 1)) (.leaf (42, .ireturn, 1))))))
def mc_190 : am_T := .branch 32 (.branch 14 (.branch 7 (.branch 4 (.branch 1 (.leaf (0, .aload_n 0, 1)) (.leaf (1, .getfield 29, 3))) (.branch 5 (.leaf (4, .iload_n 1, 1)) (.branch 6 (.leaf (5, .iaload, 1)) (.leaf (6, .istore_n 3, 1))))) (.branch 9 (.branch 8 (.leaf (7, .iload_n 2, 1)) (.leaf (8, .iconst 1, 1))) (.branch 12 (.leaf (9, .if_icmp .ne 9, 3)) (.branch 13 (.leaf (12, .iload_n 3, 1)) (.leaf (13, .iconst 1, 1)))))) (.branch 21 (.branch 18 (.branch 15 (.leaf (14, .iadd, 1)) (.leaf (15, .goto 6, 3))) (.branch 19 (.leaf (18, .iload_n 3, 1)) (.branch 20 (.leaf (19, .iconst 1, 1)) (.leaf (20, .isub, 1))))) (.branch 27 (.branch 23 (.leaf (21, .istore 4, 2)) (.branch 24 (.leaf (23, .aload_n 0, 1)) (.leaf (24, .getfield 38, 3)))) (.branch 28 (.leaf (27, .iload_n 1, 1)) (.branch 29 (.leaf (28, .aload_n 0, 1)) (.leaf (29, .getfield 20, 3))))))) (.branch 49 (.branch 39 (.branch 34 (.branch 33 (.leaf (32, .iload_n 3, 1)) (.leaf (33, .iaload, 1))) (.branch 37 (.leaf (34, .invokestatic 188, 3)) (.branch 38 (.leaf (37, .iastore, 1)) (.leaf (38, .aload_n 0, 1))))) (.branch 44 (.branch 42 (.leaf (39, .getfield 32, 3)) (.branch 43 (.leaf (42, .iload_n 1, 1)) (.leaf (43, .aload_n 0, 1)))) (.branch 45 (.leaf (44, .aload_n 0, 1)) (.branch 48 (.leaf (45, .getfield 32, 3)) (.leaf (48, .iload_n 1, 1)))))) (.branch 57 (.branch 51 (.branch 50 (.leaf (49, .iaload, 1)) (.leaf (50, .iload_n 3, 1))) (.branch 53 (.leaf (51, .iload 4, 2)) (.branch 56 (.leaf (53, .invokevirtual 191, 3)) (.leaf (56, .iastore, 1))))) (.branch 62 (.branch 58 (.leaf (57, .aload_n 0, 1)) (.branch 61 (.leaf (58, .getfield 29, 3)) (.leaf (61, .iload_n 1, 1)))) (.branch 64 (.leaf (62, .iload 4, 2)) (.branch 65 (.leaf (64, .iastore, 1)) (.leaf (65, .return_, 1)))))))
def mc_191 : am_T := .branch 13 (.branch 6 (.branch 4 (.branch 1 (.leaf (0, .iload_n 2, 1)) (.leaf (1, .ifCond .ne 4, 3))) (.branch 5 (.leaf (4, .return_, 1)) (.leaf (5, .aload_n 0, 1)))) (.branch 10 (.branch 9 (.leaf (6, .getfield 35, 3)) (.leaf (9, .iload_n 1, 1))) (.branch 11 (.leaf (10, .dup2, 1)) (.branch 12 (.leaf (11, .iaload, 1)) (.leaf (12, .aload_n 0, 1)))))) (.branch 20 (.branch 15 (.branch 14 (.leaf (13, .iload_n 1, 1)) (.leaf (14, .iload_n 2, 1))) (.branch 18 (.leaf (15, .invokevirtual 185, 3)) (.branch 19 (.leaf (18, .isub, 1)) (.leaf (19, .iastore, 1))))) (.branch 22 (.branch 21 (.leaf (20, .aload_n 0, 1)) (.leaf (21, .iload_n 1, 1))) (.branch 23 (.leaf (22, .iload_n 2, 1)) (.branch 26 (.leaf (23, .invokevirtual 195, 3)) (.leaf (26, .return_, 1))))))
def mc_192 : am_T := .branch 23 (.branch 10 (.branch 5 (.branch 1 (.leaf (0, .aload_n 0, 1)) (.branch 2 (.leaf (1, .iload_n 1, 1)) (.leaf (2, .invokevirtual 80, 3)))) (.branch 8 (.leaf (5, .ifCond .eq 12, 3)) (.branch 9 (.leaf (8, .iload_n 2, 1)) (.leaf (9, .iconst 1, 1))))) (.branch 17 (.branch 11 (.leaf (10, .iconst 2, 1)) (.branch 14 (.leaf (11, .invokestatic 76, 3)) (.leaf (14, .ifCond .ne 10, 3)))) (.branch 18 (.leaf (17, .aload_n 0, 1)) (.branch 20 (.leaf (18, .bipush (-2), 2)) (.leaf (20, .invokevirtual 84, 3)))))) (.branch 33 (.branch 26 (.branch 24 (.leaf (23, .ireturn, 1)) (.branch 25 (.leaf (24, .aload_n 0, 1)) (.leaf (25, .iload_n 1, 1)))) (.branch 27 (.leaf (26, .iload_n 2, 1)) (.branch 30 (.leaf (27, .invokevirtual 199, 3)) (.leaf (30, .ifCond .eq 12, 3))))) (.branch 36 (.branch 34 (.leaf (33, .aload_n 0, 1)) (.branch 35 (.leaf (34, .iload_n 1, 1)) (.leaf (35, .iload_n 2, 1)))) (.branch 42 (.branch 39 (.leaf (36, .invokevirtual 185, 3)) (.leaf (39, .goto 4, 3))) (.branch 43 (.leaf (42, .iconst (-1), 1)) (.leaf (43, .ireturn, 1))))))
def mc_193 : am_T := .branch 55 (.branch 29 (.branch 13 (.branch 5 (.branch 1 (.leaf (0, .aload_n 0, 1)) (.branch 2 (.leaf (1, .iload_n 1, 1)) (.leaf (2, .invokevirtual 80, 3)))) (.branch 9 (.branch 8 (.leaf (5, .ifCond .eq 23, 3)) (.leaf (8, .iload_n 2, 1))) (.branch 10 (.leaf (9, .iconst 0, 1)) (.leaf (10, .sipush 400, 3))))) (.branch 21 (.branch 19 (.branch 16 (.leaf (13, .invokestatic 76, 3)) (.leaf (16, .ifCond .eq 12, 3))) (.branch 20 (.leaf (19, .iload_n 3, 1)) (.leaf (20, .iconst 0, 1)))) (.branch 25 (.branch 22 (.leaf (21, .iconst 2, 1)) (.leaf (22, .invokestatic 76, 3))) (.branch 28 (.leaf (25, .ifCond .ne 10, 3)) (.leaf (28, .aload_n 0, 1)))))) (.branch 42 (.branch 36 (.branch 34 (.branch 31 (.leaf (29, .bipush (-2), 2)) (.leaf (31, .invokevirtual 84, 3))) (.branch 35 (.leaf (34, .ireturn, 1)) (.leaf (35, .iconst 0, 1)))) (.branch 40 (.branch 37 (.leaf (36, .aload_n 0, 1)) (.leaf (37, .getfield 38, 3))) (.branch 41 (.leaf (40, .iload_n 1, 1)) (.leaf (41, .iaload, 1))))) (.branch 49 (.branch 44 (.branch 43 (.leaf (42, .iload_n 2, 1)) (.leaf (43, .isub, 1))) (.branch 47 (.leaf (44, .invokestatic 177, 3)) (.leaf (47, .istore 4, 2)))) (.branch 53 (.branch 50 (.leaf (49, .aload_n 0, 1)) (.leaf (50, .getfield 32, 3))) (.branch 54 (.leaf (53, .iload_n 1, 1)) (.leaf (54, .iaload, 1))))))) (.branch 79 (.branch 67 (.branch 61 (.branch 57 (.branch 56 (.leaf (55, .iconst 0, 1)) (.leaf (56, .iload_n 2, 1))) (.branch 58 (.leaf (57, .aload_n 0, 1)) (.leaf (58, .getfield 38, 3)))) (.branch 63 (.branch 62 (.leaf (61, .iload_n 1, 1)) (.leaf (62, .iaload, 1))) (.branch 64 (.leaf (63, .isub, 1)) (.leaf (64, .invokestatic 177, 3))))) (.branch 73 (.branch 69 (.branch 68 (.leaf (67, .iadd, 1)) (.leaf (68, .aload_n 0, 1))) (.branch 72 (.leaf (69, .getfield 20, 3)) (.leaf (72, .aload_n 0, 1)))) (.branch 77 (.branch 76 (.leaf (73, .getfield 29, 3)) (.leaf (76, .iload_n 1, 1))) (.branch 78 (.leaf (77, .iaload, 1)) (.leaf (78, .iaload, 1)))))) (.branch 92 (.branch 86 (.branch 82 (.branch 80 (.leaf (79, .irem, 1)) (.leaf (80, .istore 5, 2))) (.branch 83 (.leaf (82, .iload_n 3, 1)) (.leaf (83, .ifCond .ne 12, 3)))) (.branch 90 (.branch 87 (.leaf (86, .aload_n 0, 1)) (.leaf (87, .getfield 29, 3))) (.branch 91 (.leaf (90, .iload_n 1, 1)) (.leaf (91, .iaload, 1))))) (.branch 100 (.branch 96 (.branch 95 (.leaf (92, .goto 15, 3)) (.leaf (95, .iload_n 3, 1))) (.branch 97 (.leaf (96, .iconst 1, 1)) (.leaf (97, .if_icmp .ne 8, 3)))) (.branch 105 (.branch 102 (.leaf (100, .iload 5, 2)) (.leaf (102, .goto 5, 3))) (.branch 107 (.leaf (105, .iload 4, 2)) (.leaf (107, .ireturn, 1)))))))
def mc_194 : am_T := .branch 16 (.branch 6 (.branch 2 (.branch 1 (.leaf (0, .aload_n 0, 1)) (.leaf (1, .iload_n 1, 1))) (.branch 3 (.leaf (2, .iload_n 2, 1)) (.leaf (3, .invokevirtual 202, 3)))) (.branch 10 (.branch 9 (.leaf (6, .ifCond .ne 10, 3)) (.leaf (9, .aload_n 0, 1))) (.branch 12 (.leaf (10, .bipush (-2), 2)) (.branch 15 (.leaf (12, .invokevirtual 84, 3)) (.leaf (15, .ireturn, 1)))))) (.branch 22 (.branch 18 (.branch 17 (.leaf (16, .aload_n 0, 1)) (.leaf (17, .iload_n 1, 1))) (.branch 19 (.leaf (18, .iload_n 2, 1)) (.leaf (19, .invokevirtual 102, 3)))) (.branch 26 (.branch 25 (.leaf (22, .ifCond .eq 7, 3)) (.leaf (25, .iconst 1, 1))) (.branch 29 (.leaf (26, .goto 4, 3)) (.branch 30 (.leaf (29, .iconst 0, 1)) (.leaf (30, .ireturn, 1))))))
def mc_195 : am_T := .branch 29 (.branch 14 (.branch 7 (.branch 2 (.branch 1 (.leaf (0, .iload_n 1, 1)) (.leaf (1, .iconst 0, 1))) (.branch 4 (.leaf (2, .bipush 7, 2)) (.leaf (4, .invokestatic 76, 3)))) (.branch 11 (.branch 10 (.leaf (7, .ifCond .eq 17, 3)) (.leaf (10, .iload_n 2, 1))) (.branch 12 (.leaf (11, .iconst 0, 1)) (.leaf (12, .bipush 40, 2))))) (.branch 24 (.branch 20 (.branch 17 (.leaf (14, .invokestatic 76, 3)) (.leaf (17, .ifCond .eq 7, 3))) (.branch 21 (.leaf (20, .iload_n 3, 1)) (.leaf (21, .ifCond .eq 6, 3)))) (.branch 27 (.branch 26 (.leaf (24, .bipush (-2), 2)) (.leaf (26, .ireturn, 1))) (.branch 28 (.leaf (27, .aload_n 0, 1)) (.leaf (28, .iload_n 1, 1)))))) (.branch 46 (.branch 39 (.branch 34 (.branch 32 (.leaf (29, .invokevirtual 88, 3)) (.leaf (32, .istore 4, 2))) (.branch 36 (.leaf (34, .iload 4, 2)) (.leaf (36, .ifCond .ge 8, 3)))) (.branch 44 (.branch 41 (.leaf (39, .iload 4, 2)) (.leaf (41, .goto 19, 3))) (.branch 45 (.leaf (44, .iload_n 2, 1)) (.leaf (45, .aload_n 0, 1))))) (.branch 54 (.branch 50 (.branch 49 (.leaf (46, .getfield 13, 3)) (.leaf (49, .iload_n 1, 1))) (.branch 51 (.leaf (50, .iaload, 1)) (.leaf (51, .if_icmp .le 8, 3)))) (.branch 59 (.branch 56 (.leaf (54, .bipush (-2), 2)) (.leaf (56, .goto 4, 3))) (.branch 60 (.leaf (59, .iconst 0, 1)) (.leaf (60, .ireturn, 1))))))
def mc_196 : am_T := .branch 71 (.branch 37 (.branch 17 (.branch 7 (.branch 3 (.branch 1 (.leaf (0, .aload_n 0, 1)) (.leaf (1, .iload 4, 2))) (.branch 6 (.leaf (3, .ifCond .lt 17, 3)) (.leaf (6, .aload_n 0, 1)))) (.branch 10 (.branch 8 (.leaf (7, .iload_n 3, 1)) (.leaf (8, .iload 4, 2))) (.branch 13 (.leaf (10, .invokevirtual 102, 3)) (.branch 16 (.leaf (13, .ifCond .eq 7, 3)) (.leaf (16, .iconst 0, 1)))))) (.branch 27 (.branch 21 (.branch 20 (.leaf (17, .goto 4, 3)) (.leaf (20, .iconst (-1), 1))) (.branch 24 (.leaf (21, .putfield 205, 3)) (.branch 25 (.leaf (24, .iconst 0, 1)) (.leaf (25, .istore 5, 2))))) (.branch 30 (.branch 29 (.leaf (27, .iload 5, 2)) (.leaf (29, .iload_n 2, 1))) (.branch 33 (.leaf (30, .if_icmp .ge 116, 3)) (.branch 34 (.leaf (33, .aload_n 0, 1)) (.leaf (34, .getfield 16, 3))))))) (.branch 51 (.branch 44 (.branch 40 (.branch 39 (.leaf (37, .bipush 40, 2)) (.leaf (39, .iload_n 1, 1))) (.branch 41 (.leaf (40, .imul, 1)) (.branch 43 (.leaf (41, .iload 5, 2)) (.leaf (43, .iadd, 1))))) (.branch 47 (.branch 45 (.leaf (44, .laload, 1)) (.leaf (45, .lstore 6, 2))) (.branch 49 (.leaf (47, .lload 6, 2)) (.branch 50 (.leaf (49, .lconst 0, 1)) (.leaf (50, .lcmp, 1)))))) (.branch 63 (.branch 56 (.branch 54 (.leaf (51, .ifCond .lt 23, 3)) (.leaf (54, .lload 6, 2))) (.branch 59 (.leaf (56, .ldc2_w 208, 3)) (.branch 60 (.leaf (59, .lcmp, 1)) (.leaf (60, .ifCond .gt 14, 3))))) (.branch 65 (.branch 64 (.leaf (63, .aload_n 0, 1)) (.leaf (64, .iload_n 3, 1))) (.branch 67 (.leaf (65, .lload 6, 2)) (.branch 68 (.leaf (67, .l2i, 1)) (.leaf (68, .invokevirtual 199, 3)))))))) (.branch 109 (.branch 86 (.branch 78 (.branch 76 (.branch 74 (.leaf (71, .ifCond .ne 6, 3)) (.leaf (74, .iload 5, 2))) (.branch 77 (.leaf (76, .ireturn, 1)) (.leaf (77, .aload_n 0, 1)))) (.branch 81 (.branch 79 (.leaf (78, .iload_n 3, 1)) (.leaf (79, .lload 6, 2))) (.branch 82 (.leaf (81, .l2i, 1)) (.branch 85 (.leaf (82, .invokevirtual 210, 3)) (.leaf (85, .iconst 0, 1)))))) (.branch 97 (.branch 90 (.branch 88 (.leaf (86, .istore 8, 2)) (.leaf (88, .iload 8, 2))) (.branch 91 (.leaf (90, .aload_n 0, 1)) (.branch 94 (.leaf (91, .getfield 73, 3)) (.leaf (94, .if_icmp .ge 15, 3))))) (.branch 100 (.branch 98 (.leaf (97, .aload_n 0, 1)) (.leaf (98, .iload 8, 2))) (.branch 103 (.leaf (100, .invokevirtual 213, 3)) (.branch 106 (.leaf (103, .iinc 8 1, 3)) (.leaf (106, .goto (-18), 3))))))) (.branch 129 (.branch 119 (.branch 113 (.branch 110 (.leaf (109, .aload_n 0, 1)) (.leaf (110, .getfield 205, 3))) (.branch 114 (.leaf (113, .iconst (-1), 1)) (.branch 117 (.leaf (114, .if_icmp .ne 26, 3)) (.leaf (117, .iload 4, 2))))) (.branch 123 (.branch 122 (.leaf (119, .ifCond .lt 21, 3)) (.leaf (122, .aload_n 0, 1))) (.branch 124 (.leaf (123, .iload_n 3, 1)) (.branch 126 (.leaf (124, .iload 4, 2)) (.leaf (126, .invokevirtual 102, 3)))))) (.branch 137 (.branch 133 (.branch 132 (.leaf (129, .ifCond .eq 11, 3)) (.leaf (132, .aload_n 0, 1))) (.branch 135 (.leaf (133, .iload 5, 2)) (.branch 136 (.leaf (135, .iconst 1, 1)) (.leaf (136, .iadd, 1))))) (.branch 143 (.branch 140 (.leaf (137, .putfield 205, 3)) (.leaf (140, .iinc 5 1, 3))) (.branch 146 (.leaf (143, .goto (-116), 3)) (.branch 147 (.leaf (146, .iconst (-1), 1)) (.leaf (147, .ireturn, 1))))))))
def mc_197 : am_T := .branch 32 (.branch 12 (.branch 4 (.branch 2 (.branch 1 (.leaf (0, .aload_n 0, 1)) (.leaf (1, .iload_n 1, 1))) (.branch 3 (.leaf (2, .iload_n 2, 1)) (.leaf (3, .aload_n 0, 1)))) (.branch 8 (.branch 5 (.leaf (4, .iload_n 3, 1)) (.leaf (5, .invokevirtual 80, 3))) (.branch 11 (.leaf (8, .ifCond .ne 7, 3)) (.leaf (11, .iconst 1, 1))))) (.branch 21 (.branch 16 (.branch 15 (.leaf (12, .goto 4, 3)) (.leaf (15, .iconst 0, 1))) (.branch 19 (.leaf (16, .invokevirtual 217, 3)) (.leaf (19, .istore 4, 2)))) (.branch 26 (.branch 23 (.leaf (21, .iload 4, 2)) (.leaf (23, .ifCond .ge 10, 3))) (.branch 27 (.leaf (26, .aload_n 0, 1)) (.branch 29 (.leaf (27, .iload 4, 2)) (.leaf (29, .invokevirtual 84, 3))))))) (.branch 45 (.branch 38 (.branch 34 (.branch 33 (.leaf (32, .ireturn, 1)) (.leaf (33, .aload_n 0, 1))) (.branch 35 (.leaf (34, .aload_n 0, 1)) (.leaf (35, .getfield 50, 3)))) (.branch 42 (.branch 41 (.leaf (38, .invokevirtual 166, 3)) (.leaf (41, .aload_n 0, 1))) (.branch 43 (.leaf (42, .iload_n 1, 1)) (.branch 44 (.leaf (43, .iload_n 2, 1)) (.leaf (44, .iload_n 3, 1)))))) (.branch 52 (.branch 49 (.branch 46 (.leaf (45, .iconst (-1), 1)) (.leaf (46, .invokevirtual 221, 3))) (.branch 51 (.leaf (49, .istore 5, 2)) (.leaf (51, .aload_n 0, 1)))) (.branch 56 (.branch 53 (.leaf (52, .aload_n 0, 1)) (.leaf (53, .getfield 50, 3))) (.branch 59 (.leaf (56, .invokevirtual 174, 3)) (.branch 61 (.leaf (59, .iload 5, 2)) (.leaf (61, .ireturn, 1)))))))
def mc_198 : am_T := .branch 67 (.branch 33 (.branch 14 (.branch 4 (.branch 2 (.branch 1 (.leaf (0, .aload_n 0, 1)) (.leaf (1, .iload_n 1, 1))) (.branch 3 (.leaf (2, .iload_n 2, 1)) (.leaf (3, .aload_n 0, 1)))) (.branch 8 (.branch 5 (.leaf (4, .iload_n 3, 1)) (.leaf (5, .invokevirtual 80, 3))) (.branch 11 (.leaf (8, .ifCond .eq 13, 3)) (.branch 13 (.leaf (11, .iload 4, 2)) (.leaf (13, .iconst 0, 1)))))) (.branch 22 (.branch 18 (.branch 15 (.leaf (14, .iconst 3, 1)) (.leaf (15, .invokestatic 76, 3))) (.branch 21 (.leaf (18, .ifCond .ne 7, 3)) (.leaf (21, .iconst 1, 1)))) (.branch 26 (.branch 25 (.leaf (22, .goto 4, 3)) (.leaf (25, .iconst 0, 1))) (.branch 29 (.leaf (26, .invokevirtual 217, 3)) (.branch 31 (.leaf (29, .istore 5, 2)) (.leaf (31, .iload 5, 2))))))) (.branch 51 (.branch 42 (.branch 37 (.branch 36 (.leaf (33, .ifCond .ge 10, 3)) (.leaf (36, .aload_n 0, 1))) (.branch 39 (.leaf (37, .iload 5, 2)) (.leaf (39, .invokevirtual 84, 3)))) (.branch 44 (.branch 43 (.leaf (42, .ireturn, 1)) (.leaf (43, .aload_n 0, 1))) (.branch 45 (.leaf (44, .aload_n 0, 1)) (.branch 48 (.leaf (45, .getfield 50, 3)) (.leaf (48, .invokevirtual 166, 3)))))) (.branch 56 (.branch 53 (.branch 52 (.leaf (51, .aload_n 0, 1)) (.leaf (52, .iload_n 1, 1))) (.branch 54 (.leaf (53, .iload_n 2, 1)) (.branch 55 (.leaf (54, .iload_n 3, 1)) (.leaf (55, .iconst (-1), 1))))) (.branch 61 (.branch 59 (.leaf (56, .invokevirtual 221, 3)) (.leaf (59, .istore 6, 2))) (.branch 63 (.leaf (61, .iload 4, 2)) (.branch 66 (.leaf (63, .ifCond .ne 12, 3)) (.leaf (66, .aload_n 0, 1)))))))) (.branch 102 (.branch 85 (.branch 75 (.branch 71 (.branch 70 (.leaf (67, .getfield 29, 3)) (.leaf (70, .iload_n 3, 1))) (.branch 72 (.leaf (71, .iaload, 1)) (.leaf (72, .goto 39, 3)))) (.branch 78 (.branch 77 (.leaf (75, .iload 4, 2)) (.leaf (77, .iconst 1, 1))) (.branch 81 (.leaf (78, .if_icmp .ne 12, 3)) (.branch 82 (.leaf (81, .aload_n 0, 1)) (.leaf (82, .getfield 32, 3)))))) (.branch 93 (.branch 87 (.branch 86 (.leaf (85, .iload_n 3, 1)) (.leaf (86, .iaload, 1))) (.branch 90 (.leaf (87, .goto 24, 3)) (.branch 92 (.leaf (90, .iload 4, 2)) (.leaf (92, .iconst 2, 1))))) (.branch 97 (.branch 96 (.leaf (93, .if_icmp .ne 12, 3)) (.leaf (96, .aload_n 0, 1))) (.branch 100 (.leaf (97, .getfield 35, 3)) (.branch 101 (.leaf (100, .iload_n 3, 1)) (.leaf (101, .iaload, 1))))))) (.branch 118 (.branch 110 (.branch 106 (.branch 105 (.leaf (102, .goto 9, 3)) (.leaf (105, .aload_n 0, 1))) (.branch 109 (.leaf (106, .getfield 38, 3)) (.leaf (109, .iload_n 3, 1)))) (.branch 113 (.branch 111 (.leaf (110, .iaload, 1)) (.leaf (111, .istore 7, 2))) (.branch 114 (.leaf (113, .aload_n 0, 1)) (.branch 115 (.leaf (114, .aload_n 0, 1)) (.leaf (115, .getfield 50, 3)))))) (.branch 129 (.branch 123 (.branch 121 (.leaf (118, .invokevirtual 174, 3)) (.leaf (121, .iload 6, 2))) (.branch 124 (.leaf (123, .iconst (-1), 1)) (.branch 127 (.leaf (124, .if_icmp .ne 8, 3)) (.leaf (127, .iload 7, 2))))) (.branch 133 (.branch 132 (.leaf (129, .goto 9, 3)) (.leaf (132, .aload_n 0, 1))) (.branch 135 (.leaf (133, .bipush (-5), 2)) (.branch 138 (.leaf (135, .invokevirtual 84, 3)) (.leaf (138, .ireturn, 1))))))))
def mc_199 : am_T := .branch 40 (.branch 18 (.branch 5 (.branch 2 (.branch 1 (.leaf (0, .aload_n 0, 1)) (.leaf (1, .iload_n 1, 1))) (.branch 3 (.leaf (2, .iload_n 2, 1)) (.branch 4 (.leaf (3, .aload_n 0, 1)) (.leaf (4, .iload_n 3, 1))))) (.branch 13 (.branch 7 (.leaf (5, .iload 4, 2)) (.branch 10 (.leaf (7, .invokevirtual 202, 3)) (.leaf (10, .ifCond .ne 7, 3)))) (.branch 14 (.leaf (13, .iconst 1, 1)) (.branch 17 (.leaf (14, .goto 4, 3)) (.leaf (17, .iconst 0, 1)))))) (.branch 29 (.branch 23 (.branch 21 (.leaf (18, .invokevirtual 217, 3)) (.leaf (21, .istore 5, 2))) (.branch 25 (.leaf (23, .iload 5, 2)) (.branch 28 (.leaf (25, .ifCond .ge 10, 3)) (.leaf (28, .aload_n 0, 1))))) (.branch 35 (.branch 31 (.leaf (29, .iload 5, 2)) (.branch 34 (.leaf (31, .invokevirtual 84, 3)) (.leaf (34, .ireturn, 1)))) (.branch 36 (.leaf (35, .aload_n 0, 1)) (.branch 37 (.leaf (36, .aload_n 0, 1)) (.leaf (37, .getfield 50, 3))))))) (.branch 59 (.branch 47 (.branch 44 (.branch 43 (.leaf (40, .invokevirtual 166, 3)) (.leaf (43, .aload_n 0, 1))) (.branch 45 (.leaf (44, .iload_n 1, 1)) (.branch 46 (.leaf (45, .iload_n 2, 1)) (.leaf (46, .iload_n 3, 1))))) (.branch 54 (.branch 49 (.leaf (47, .iload 4, 2)) (.branch 52 (.leaf (49, .invokevirtual 221, 3)) (.leaf (52, .istore 6, 2)))) (.branch 55 (.leaf (54, .aload_n 0, 1)) (.branch 56 (.leaf (55, .aload_n 0, 1)) (.leaf (56, .getfield 50, 3)))))) (.branch 69 (.branch 64 (.branch 62 (.leaf (59, .invokevirtual 174, 3)) (.leaf (62, .iload 6, 2))) (.branch 65 (.leaf (64, .iconst (-1), 1)) (.branch 68 (.leaf (65, .if_icmp .ne 10, 3)) (.leaf (68, .aload_n 0, 1))))) (.branch 76 (.branch 72 (.leaf (69, .getfield 205, 3)) (.branch 75 (.leaf (72, .goto 9, 3)) (.leaf (75, .aload_n 0, 1)))) (.branch 78 (.leaf (76, .bipush (-5), 2)) (.branch 81 (.leaf (78, .invokevirtual 84, 3)) (.leaf (81, .ireturn, 1)))))))
def mc_200 : am_T := .branch 9 (.branch 4 (.branch 1 (.leaf (0, .iload_n 0, 1)) (.branch 3 (.leaf (1, .bipush 20, 2)) (.leaf (3, .imul, 1)))) (.branch 6 (.branch 5 (.leaf (4, .iload_n 1, 1)) (.leaf (5, .iadd, 1))) (.branch 8 (.leaf (6, .bipush 11, 2)) (.leaf (8, .imul, 1))))) (.branch 13 (.branch 10 (.leaf (9, .iload_n 2, 1)) (.branch 11 (.leaf (10, .iadd, 1)) (.leaf (11, .bipush 8, 2)))) (.branch 15 (.branch 14 (.leaf (13, .imul, 1)) (.leaf (14, .iload_n 3, 1))) (.branch 16 (.leaf (15, .iadd, 1)) (.leaf (16, .ireturn, 1)))))
def mc_201 : am_T := .branch 30 (.branch 12 (.branch 4 (.branch 2 (.branch 1 (.leaf (0, .iconst 0, 1)) (.leaf (1, .istore_n 3, 1))) (.branch 3 (.leaf (2, .iload_n 3, 1)) (.leaf (3, .aload_n 0, 1)))) (.branch 8 (.branch 7 (.leaf (4, .getfield 53, 3)) (.leaf (7, .arraylength, 1))) (.branch 11 (.leaf (8, .if_icmp .ge 18, 3)) (.leaf (11, .aload_n 0, 1))))) (.branch 20 (.branch 16 (.branch 15 (.leaf (12, .getfield 53, 3)) (.leaf (15, .iload_n 3, 1))) (.branch 19 (.leaf (16, .sipush 10000, 3)) (.leaf (19, .iastore, 1)))) (.branch 26 (.branch 23 (.leaf (20, .iinc 3 1, 3)) (.leaf (23, .goto (-21), 3))) (.branch 27 (.leaf (26, .aload_n 0, 1)) (.leaf (27, .getfield 53, 3)))))) (.branch 42 (.branch 36 (.branch 34 (.branch 31 (.leaf (30, .aload_n 0, 1)) (.leaf (31, .getfield 29, 3))) (.branch 35 (.leaf (34, .iload_n 1, 1)) (.leaf (35, .iaload, 1)))) (.branch 40 (.branch 37 (.leaf (36, .aload_n 0, 1)) (.leaf (37, .getfield 32, 3))) (.branch 41 (.leaf (40, .iload_n 1, 1)) (.leaf (41, .iaload, 1))))) (.branch 48 (.branch 46 (.branch 43 (.leaf (42, .aload_n 0, 1)) (.leaf (43, .getfield 38, 3))) (.branch 47 (.leaf (46, .iload_n 1, 1)) (.leaf (47, .iaload, 1)))) (.branch 52 (.branch 49 (.leaf (48, .iload_n 2, 1)) (.leaf (49, .invokestatic 224, 3))) (.branch 53 (.leaf (52, .iconst 0, 1)) (.branch 54 (.leaf (53, .iastore, 1)) (.leaf (54, .return_, 1)))))))
def mc_202 : am_T := .branch 16 (.branch 5 (.branch 2 (.branch 1 (.leaf (0, .iload_n 1, 1)) (.leaf (1, .iload_n 2, 1))) (.branch 3 (.leaf (2, .iload_n 3, 1)) (.leaf (3, .iload 4, 2)))) (.branch 10 (.branch 8 (.leaf (5, .invokestatic 224, 3)) (.leaf (8, .istore 6, 2))) (.branch 12 (.leaf (10, .iload 5, 2)) (.branch 13 (.leaf (12, .aload_n 0, 1)) (.leaf (13, .getfield 56, 3)))))) (.branch 23 (.branch 19 (.branch 18 (.leaf (16, .iload 6, 2)) (.leaf (18, .iaload, 1))) (.branch 22 (.leaf (19, .if_icmp .ge 12, 3)) (.leaf (22, .aload_n 0, 1)))) (.branch 28 (.branch 26 (.leaf (23, .getfield 56, 3)) (.leaf (26, .iload 6, 2))) (.branch 30 (.leaf (28, .iload 5, 2)) (.branch 31 (.leaf (30, .iastore, 1)) (.leaf (31, .return_, 1))))))
def mc_203 : am_T := .branch 165 (.branch 78 (.branch 37 (.branch 17 (.branch 7 (.branch 4 (.branch 1 (.leaf (0, .aload_n 0, 1)) (.leaf (1, .getfield 26, 3))) (.branch 5 (.leaf (4, .iload_n 1, 1)) (.branch 6 (.leaf (5, .iaload, 1)) (.leaf (6, .iconst 2, 1))))) (.branch 14 (.branch 10 (.leaf (7, .if_icmp .eq 27, 3)) (.branch 11 (.leaf (10, .aload_n 0, 1)) (.leaf (11, .getfield 26, 3)))) (.branch 15 (.leaf (14, .iload_n 1, 1)) (.branch 16 (.leaf (15, .iaload, 1)) (.leaf (16, .iconst 3, 1)))))) (.branch 27 (.branch 24 (.branch 20 (.leaf (17, .if_icmp .eq 17, 3)) (.branch 21 (.leaf (20, .aload_n 0, 1)) (.leaf (21, .getfield 26, 3)))) (.branch 25 (.leaf (24, .iload_n 1, 1)) (.branch 26 (.leaf (25, .iaload, 1)) (.leaf (26, .iconst 4, 1))))) (.branch 34 (.branch 30 (.leaf (27, .if_icmp .eq 7, 3)) (.branch 31 (.leaf (30, .iconst 1, 1)) (.leaf (31, .goto 4, 3)))) (.branch 35 (.leaf (34, .iconst 0, 1)) (.branch 36 (.leaf (35, .istore_n 2, 1)) (.leaf (36, .iconst 0, 1))))))) (.branch 56 (.branch 44 (.branch 39 (.branch 38 (.leaf (37, .istore_n 3, 1)) (.leaf (38, .iload_n 3, 1))) (.branch 40 (.leaf (39, .aload_n 0, 1)) (.branch 43 (.leaf (40, .getfield 56, 3)) (.leaf (43, .arraylength, 1))))) (.branch 51 (.branch 47 (.leaf (44, .if_icmp .ge 18, 3)) (.branch 48 (.leaf (47, .aload_n 0, 1)) (.leaf (48, .getfield 56, 3)))) (.branch 52 (.leaf (51, .iload_n 3, 1)) (.branch 55 (.leaf (52, .sipush 10000, 3)) (.leaf (55, .iastore, 1)))))) (.branch 66 (.branch 63 (.branch 59 (.leaf (56, .iinc 3 1, 3)) (.branch 62 (.leaf (59, .goto (-21), 3)) (.leaf (62, .iconst 0, 1)))) (.branch 64 (.leaf (63, .istore_n 3, 1)) (.branch 65 (.leaf (64, .iload_n 3, 1)) (.leaf (65, .aload_n 0, 1))))) (.branch 73 (.branch 69 (.leaf (66, .getfield 66, 3)) (.branch 72 (.leaf (69, .if_icmp .ge 228, 3)) (.leaf (72, .iconst 0, 1)))) (.branch 75 (.leaf (73, .istore 4, 2)) (.branch 77 (.leaf (75, .iload 4, 2)) (.leaf (77, .aload_n 0, 1)))))))) (.branch 123 (.branch 99 (.branch 87 (.branch 82 (.branch 81 (.leaf (78, .getfield 20, 3)) (.leaf (81, .iload_n 3, 1))) (.branch 83 (.leaf (82, .iaload, 1)) (.branch 86 (.leaf (83, .if_icmp .ge 208, 3)) (.leaf (86, .iconst 0, 1))))) (.branch 93 (.branch 89 (.leaf (87, .istore 5, 2)) (.branch 91 (.leaf (89, .iload 5, 2)) (.leaf (91, .bipush 11, 2)))) (.branch 96 (.leaf (93, .if_icmp .ge 192, 3)) (.branch 97 (.leaf (96, .iconst 0, 1)) (.leaf (97, .istore 6, 2)))))) (.branch 111 (.branch 106 (.branch 101 (.leaf (99, .iload 6, 2)) (.branch 103 (.leaf (101, .bipush 8, 2)) (.leaf (103, .if_icmp .ge 176, 3)))) (.branch 107 (.leaf (106, .aload_n 0, 1)) (.branch 110 (.leaf (107, .getfield 53, 3)) (.leaf (110, .iload_n 3, 1))))) (.branch 117 (.branch 113 (.leaf (111, .iload 4, 2)) (.branch 115 (.leaf (113, .iload 5, 2)) (.leaf (115, .iload 6, 2)))) (.branch 120 (.leaf (117, .invokestatic 224, 3)) (.branch 121 (.leaf (120, .iaload, 1)) (.leaf (121, .istore 7, 2))))))) (.branch 148 (.branch 135 (.branch 128 (.branch 125 (.leaf (123, .iload 7, 2)) (.leaf (125, .sipush 10000, 3))) (.branch 131 (.leaf (128, .if_icmp .ne 6, 3)) (.branch 134 (.leaf (131, .goto 142, 3)) (.leaf (134, .aload_n 0, 1))))) (.branch 141 (.branch 136 (.leaf (135, .iload_n 3, 1)) (.branch 138 (.leaf (136, .iload 5, 2)) (.leaf (138, .ifCond .le 8, 3)))) (.branch 143 (.leaf (141, .iload 4, 2)) (.branch 146 (.leaf (143, .goto 14, 3)) (.leaf (146, .iload 4, 2)))))) (.branch 156 (.branch 151 (.branch 149 (.leaf (148, .iconst 1, 1)) (.branch 150 (.leaf (149, .iadd, 1)) (.leaf (150, .aload_n 0, 1)))) (.branch 154 (.leaf (151, .getfield 20, 3)) (.branch 155 (.leaf (154, .iload_n 3, 1)) (.leaf (155, .iaload, 1))))) (.branch 160 (.branch 157 (.leaf (156, .irem, 1)) (.branch 158 (.leaf (157, .iconst 0, 1)) (.leaf (158, .iload 5, 2)))) (.branch 161 (.leaf (160, .iconst 1, 1)) (.branch 162 (.leaf (161, .isub, 1)) (.leaf (162, .invokestatic 177, 3))))))))) (.branch 243 (.branch 208 (.branch 189 (.branch 177 (.branch 169 (.branch 167 (.leaf (165, .iload 6, 2)) (.leaf (167, .iload 7, 2))) (.branch 172 (.leaf (169, .invokevirtual 227, 3)) (.branch 174 (.leaf (172, .iload 5, 2)) (.leaf (174, .ifCond .gt 99, 3))))) (.branch 184 (.branch 178 (.leaf (177, .iload_n 2, 1)) (.branch 181 (.leaf (178, .ifCond .ne 6, 3)) (.leaf (181, .goto 92, 3)))) (.branch 185 (.leaf (184, .aload_n 0, 1)) (.branch 188 (.leaf (185, .getfield 20, 3)) (.leaf (188, .iload_n 3, 1)))))) (.branch 198 (.branch 194 (.branch 190 (.leaf (189, .iaload, 1)) (.branch 193 (.leaf (190, .invokestatic 188, 3)) (.leaf (193, .iconst 1, 1)))) (.branch 195 (.leaf (194, .isub, 1)) (.branch 197 (.leaf (195, .istore 8, 2)) (.leaf (197, .iload_n 3, 1))))) (.branch 203 (.branch 199 (.leaf (198, .aload_n 0, 1)) (.branch 202 (.leaf (199, .getfield 66, 3)) (.leaf (202, .iconst 1, 1)))) (.branch 204 (.leaf (203, .isub, 1)) (.branch 207 (.leaf (204, .if_icmp .ge 33, 3)) (.leaf (207, .aload_n 0, 1))))))) (.branch 223 (.branch 214 (.branch 210 (.branch 209 (.leaf (208, .iload_n 3, 1)) (.leaf (209, .iconst 1, 1))) (.branch 211 (.leaf (210, .iadd, 1)) (.branch 212 (.leaf (211, .aload_n 0, 1)) (.leaf (212, .iload 4, 2))))) (.branch 217 (.branch 215 (.leaf (214, .iload_n 3, 1)) (.branch 216 (.leaf (215, .iload_n 3, 1)) (.leaf (216, .iconst 1, 1)))) (.branch 218 (.leaf (217, .iadd, 1)) (.branch 221 (.leaf (218, .invokevirtual 191, 3)) (.leaf (221, .iload 8, 2)))))) (.branch 233 (.branch 228 (.branch 225 (.leaf (223, .iload 6, 2)) (.branch 227 (.leaf (225, .iload 7, 2)) (.leaf (227, .aload_n 0, 1)))) (.branch 229 (.leaf (228, .iload_n 1, 1)) (.branch 230 (.leaf (229, .iload_n 3, 1)) (.leaf (230, .invokevirtual 98, 3))))) (.branch 238 (.branch 234 (.leaf (233, .iadd, 1)) (.branch 237 (.leaf (234, .invokevirtual 227, 3)) (.leaf (237, .iload_n 3, 1)))) (.branch 241 (.leaf (238, .ifCond .le 35, 3)) (.branch 242 (.leaf (241, .aload_n 0, 1)) (.leaf (242, .iload_n 3, 1)))))))) (.branch 282 (.branch 259 (.branch 249 (.branch 245 (.branch 244 (.leaf (243, .iconst 1, 1)) (.leaf (244, .isub, 1))) (.branch 246 (.leaf (245, .aload_n 0, 1)) (.branch 248 (.leaf (246, .iload 4, 2)) (.leaf (248, .iload_n 3, 1))))) (.branch 252 (.branch 250 (.leaf (249, .iload_n 3, 1)) (.branch 251 (.leaf (250, .iconst 1, 1)) (.leaf (251, .isub, 1)))) (.branch 255 (.leaf (252, .invokevirtual 191, 3)) (.branch 257 (.leaf (255, .iload 8, 2)) (.leaf (257, .iload 6, 2)))))) (.branch 266 (.branch 263 (.branch 261 (.leaf (259, .iload 7, 2)) (.branch 262 (.leaf (261, .aload_n 0, 1)) (.leaf (262, .iload_n 1, 1)))) (.branch 264 (.leaf (263, .iload_n 3, 1)) (.branch 265 (.leaf (264, .iconst 1, 1)) (.leaf (265, .isub, 1))))) (.branch 273 (.branch 269 (.leaf (266, .invokevirtual 98, 3)) (.branch 270 (.leaf (269, .iadd, 1)) (.leaf (270, .invokevirtual 227, 3)))) (.branch 276 (.leaf (273, .iinc 6 1, 3)) (.branch 279 (.leaf (276, .goto (-177), 3)) (.leaf (279, .iinc 5 1, 3))))))) (.branch 305 (.branch 297 (.branch 288 (.branch 285 (.leaf (282, .goto (-193), 3)) (.leaf (285, .iinc 4 1, 3))) (.branch 291 (.leaf (288, .goto (-213), 3)) (.branch 294 (.leaf (291, .iinc 3 1, 3)) (.leaf (294, .goto (-230), 3))))) (.branch 300 (.branch 298 (.leaf (297, .iconst 0, 1)) (.branch 299 (.leaf (298, .istore_n 3, 1)) (.leaf (299, .iload_n 3, 1)))) (.branch 301 (.leaf (300, .aload_n 0, 1)) (.branch 304 (.leaf (301, .getfield 53, 3)) (.leaf (304, .arraylength, 1)))))) (.branch 317 (.branch 312 (.branch 308 (.leaf (305, .if_icmp .ge 21, 3)) (.branch 309 (.leaf (308, .aload_n 0, 1)) (.leaf (309, .getfield 53, 3)))) (.branch 313 (.leaf (312, .iload_n 3, 1)) (.branch 314 (.leaf (313, .aload_n 0, 1)) (.leaf (314, .getfield 56, 3))))) (.branch 320 (.branch 318 (.leaf (317, .iload_n 3, 1)) (.branch 319 (.leaf (318, .iaload, 1)) (.leaf (319, .iastore, 1)))) (.branch 323 (.leaf (320, .iinc 3 1, 3)) (.branch 326 (.leaf (323, .goto (-24), 3)) (.leaf (326, .return_, 1)))))))))
def mc_204 : am_T := .branch 22 (.branch 11 (.branch 5 (.branch 1 (.leaf (0, .iload_n 2, 1)) (.branch 2 (.leaf (1, .aload_n 0, 1)) (.leaf (2, .getfield 38, 3)))) (.branch 7 (.branch 6 (.leaf (5, .iload_n 1, 1)) (.leaf (6, .iaload, 1))) (.branch 10 (.leaf (7, .if_icmp .ge 7, 3)) (.leaf (10, .iconst (-1), 1))))) (.branch 18 (.branch 14 (.leaf (11, .goto 30, 3)) (.branch 15 (.leaf (14, .aload_n 0, 1)) (.leaf (15, .getfield 32, 3)))) (.branch 20 (.branch 19 (.leaf (18, .iload_n 1, 1)) (.leaf (19, .iaload, 1))) (.branch 21 (.leaf (20, .iload_n 2, 1)) (.leaf (21, .iadd, 1)))))) (.branch 33 (.branch 27 (.branch 23 (.leaf (22, .aload_n 0, 1)) (.branch 26 (.leaf (23, .getfield 38, 3)) (.leaf (26, .iload_n 1, 1)))) (.branch 29 (.branch 28 (.leaf (27, .iaload, 1)) (.leaf (28, .isub, 1))) (.branch 30 (.leaf (29, .aload_n 0, 1)) (.leaf (30, .getfield 20, 3))))) (.branch 38 (.branch 34 (.leaf (33, .aload_n 0, 1)) (.branch 37 (.leaf (34, .getfield 29, 3)) (.leaf (37, .iload_n 1, 1)))) (.branch 40 (.branch 39 (.leaf (38, .iaload, 1)) (.leaf (39, .iaload, 1))) (.branch 41 (.leaf (40, .irem, 1)) (.leaf (41, .ireturn, 1))))))
def mc_205 : am_T := .branch 56 (.branch 26 (.branch 12 (.branch 6 (.branch 3 (.leaf (0, .sipush 10000, 3)) (.branch 5 (.leaf (3, .istore 6, 2)) (.leaf (5, .aload_n 0, 1)))) (.branch 8 (.branch 7 (.leaf (6, .iload_n 1, 1)) (.leaf (7, .iconst 0, 1))) (.branch 11 (.leaf (8, .invokevirtual 231, 3)) (.leaf (11, .iconst 0, 1))))) (.branch 17 (.branch 14 (.leaf (12, .istore 7, 2)) (.branch 16 (.leaf (14, .iload 7, 2)) (.leaf (16, .iload_n 3, 1)))) (.branch 22 (.branch 20 (.leaf (17, .if_icmp .gt 96, 3)) (.leaf (20, .iload 7, 2))) (.branch 25 (.leaf (22, .ifCond .le 8, 3)) (.leaf (25, .aload_n 0, 1)))))) (.branch 39 (.branch 31 (.branch 27 (.leaf (26, .iload_n 1, 1)) (.branch 30 (.leaf (27, .invokevirtual 234, 3)) (.leaf (30, .aload_n 0, 1)))) (.branch 34 (.branch 32 (.leaf (31, .iload_n 2, 1)) (.leaf (32, .iload 7, 2))) (.branch 37 (.leaf (34, .invokevirtual 237, 3)) (.leaf (37, .istore 8, 2))))) (.branch 48 (.branch 42 (.branch 41 (.leaf (39, .iload 8, 2)) (.leaf (41, .iconst (-1), 1))) (.branch 45 (.leaf (42, .if_icmp .ne 9, 3)) (.leaf (45, .sipush 10000, 3)))) (.branch 52 (.branch 51 (.leaf (48, .goto 21, 3)) (.leaf (51, .aload_n 0, 1))) (.branch 55 (.leaf (52, .getfield 53, 3)) (.leaf (55, .aload_n 0, 1))))))) (.branch 83 (.branch 68 (.branch 61 (.branch 59 (.leaf (56, .getfield 29, 3)) (.branch 60 (.leaf (59, .iload_n 2, 1)) (.leaf (60, .iaload, 1)))) (.branch 64 (.branch 63 (.leaf (61, .iload 8, 2)) (.leaf (63, .iconst 0, 1))) (.branch 65 (.leaf (64, .iconst 0, 1)) (.leaf (65, .invokestatic 224, 3))))) (.branch 73 (.branch 69 (.leaf (68, .iaload, 1)) (.branch 71 (.leaf (69, .istore 9, 2)) (.leaf (71, .iload 9, 2)))) (.branch 78 (.branch 75 (.leaf (73, .iload 4, 2)) (.leaf (75, .if_icmp .le 6, 3))) (.branch 81 (.leaf (78, .goto 29, 3)) (.leaf (81, .iload 6, 2)))))) (.branch 99 (.branch 90 (.branch 85 (.leaf (83, .iload 9, 2)) (.branch 88 (.leaf (85, .invokestatic 240, 3)) (.leaf (88, .istore 6, 2)))) (.branch 95 (.branch 92 (.leaf (90, .iload 5, 2)) (.leaf (92, .ifCond .ne 6, 3))) (.branch 98 (.leaf (95, .goto 12, 3)) (.leaf (98, .aload_n 0, 1))))) (.branch 107 (.branch 104 (.branch 101 (.leaf (99, .iload 7, 2)) (.leaf (101, .putfield 205, 3))) (.branch 106 (.leaf (104, .iload 6, 2)) (.leaf (106, .ireturn, 1)))) (.branch 113 (.branch 110 (.leaf (107, .iinc 7 1, 3)) (.leaf (110, .goto (-96), 3))) (.branch 115 (.leaf (113, .iload 6, 2)) (.leaf (115, .ireturn, 1)))))))
def mc_206 : am_T := .branch 26 (.branch 11 (.branch 3 (.branch 1 (.leaf (0, .aload_n 0, 1)) (.branch 2 (.leaf (1, .iload_n 1, 1)) (.leaf (2, .iload_n 2, 1)))) (.branch 9 (.branch 6 (.leaf (3, .invokevirtual 202, 3)) (.leaf (6, .ifCond .eq 13, 3))) (.branch 10 (.leaf (9, .iload_n 3, 1)) (.leaf (10, .iconst 0, 1))))) (.branch 19 (.branch 13 (.leaf (11, .bipush 60, 2)) (.branch 16 (.leaf (13, .invokestatic 76, 3)) (.leaf (16, .ifCond .ne 10, 3)))) (.branch 22 (.branch 20 (.leaf (19, .aload_n 0, 1)) (.leaf (20, .bipush (-2), 2))) (.branch 25 (.leaf (22, .invokevirtual 84, 3)) (.leaf (25, .ireturn, 1)))))) (.branch 37 (.branch 29 (.branch 27 (.leaf (26, .aload_n 0, 1)) (.branch 28 (.leaf (27, .iload_n 1, 1)) (.leaf (28, .iload_n 2, 1)))) (.branch 33 (.branch 30 (.leaf (29, .iload_n 3, 1)) (.leaf (30, .sipush 9999, 3))) (.branch 34 (.leaf (33, .iconst 0, 1)) (.leaf (34, .invokevirtual 243, 3))))) (.branch 47 (.branch 41 (.branch 39 (.leaf (37, .istore 4, 2)) (.leaf (39, .iload 4, 2))) (.branch 44 (.leaf (41, .sipush 10000, 3)) (.leaf (44, .if_icmp .ne 7, 3)))) (.branch 51 (.branch 48 (.leaf (47, .iconst (-1), 1)) (.leaf (48, .goto 5, 3))) (.branch 53 (.leaf (51, .iload 4, 2)) (.leaf (53, .ireturn, 1))))))
def mc_207 : am_T := .branch 21 (.branch 10 (.branch 3 (.branch 1 (.leaf (0, .aload_n 0, 1)) (.branch 2 (.leaf (1, .iload_n 1, 1)) (.leaf (2, .iload_n 2, 1)))) (.branch 6 (.leaf (3, .invokevirtual 202, 3)) (.branch 9 (.leaf (6, .ifCond .ne 10, 3)) (.leaf (9, .aload_n 0, 1))))) (.branch 16 (.branch 12 (.leaf (10, .bipush (-2), 2)) (.branch 15 (.leaf (12, .invokevirtual 84, 3)) (.leaf (15, .ireturn, 1)))) (.branch 18 (.branch 17 (.leaf (16, .aload_n 0, 1)) (.leaf (17, .iload_n 1, 1))) (.branch 19 (.leaf (18, .iload_n 2, 1)) (.leaf (19, .bipush 60, 2)))))) (.branch 31 (.branch 26 (.branch 22 (.leaf (21, .aload_n 0, 1)) (.branch 25 (.leaf (22, .getfield 35, 3)) (.leaf (25, .iload_n 1, 1)))) (.branch 27 (.leaf (26, .iaload, 1)) (.branch 28 (.leaf (27, .iconst 1, 1)) (.leaf (28, .invokevirtual 243, 3))))) (.branch 38 (.branch 34 (.leaf (31, .sipush 10000, 3)) (.branch 37 (.leaf (34, .if_icmp .ne 7, 3)) (.leaf (37, .iconst (-1), 1)))) (.branch 42 (.branch 41 (.leaf (38, .goto 7, 3)) (.leaf (41, .aload_n 0, 1))) (.branch 45 (.leaf (42, .getfield 205, 3)) (.leaf (45, .ireturn, 1))))))
def mc_208 : am_T := .branch 10 (.branch 4 (.branch 1 (.leaf (0, .iload_n 0, 1)) (.branch 3 (.leaf (1, .bipush 6, 2)) (.leaf (3, .imul, 1)))) (.branch 6 (.branch 5 (.leaf (4, .iload_n 1, 1)) (.leaf (5, .iadd, 1))) (.branch 9 (.leaf (6, .sipush 220, 3)) (.leaf (9, .imul, 1))))) (.branch 14 (.branch 11 (.leaf (10, .iload_n 2, 1)) (.branch 13 (.leaf (11, .bipush 11, 2)) (.leaf (13, .imul, 1)))) (.branch 16 (.branch 15 (.leaf (14, .iadd, 1)) (.leaf (15, .iload_n 3, 1))) (.branch 17 (.leaf (16, .iadd, 1)) (.leaf (17, .ireturn, 1)))))
def mc_209 : am_T := .branch 221 (.branch 104 (.branch 52 (.branch 23 (.branch 13 (.branch 3 (.branch 1 (.leaf (0, .aload_n 0, 1)) (.branch 2 (.leaf (1, .iload_n 1, 1)) (.leaf (2, .iload_n 2, 1)))) (.branch 9 (.branch 6 (.leaf (3, .invokevirtual 202, 3)) (.leaf (6, .ifCond .eq 7, 3))) (.branch 10 (.leaf (9, .iload_n 3, 1)) (.leaf (10, .ifCond .ge 10, 3))))) (.branch 19 (.branch 14 (.leaf (13, .aload_n 0, 1)) (.branch 16 (.leaf (14, .bipush (-2), 2)) (.leaf (16, .invokevirtual 84, 3)))) (.branch 21 (.branch 20 (.leaf (19, .ireturn, 1)) (.leaf (20, .aload_n 0, 1))) (.branch 22 (.leaf (21, .iload_n 1, 1)) (.leaf (22, .iload_n 2, 1)))))) (.branch 35 (.branch 29 (.branch 25 (.leaf (23, .bipush 60, 2)) (.branch 26 (.leaf (25, .aload_n 0, 1)) (.leaf (26, .getfield 35, 3)))) (.branch 31 (.branch 30 (.leaf (29, .iload_n 1, 1)) (.leaf (30, .iaload, 1))) (.branch 32 (.leaf (31, .iconst 1, 1)) (.leaf (32, .invokevirtual 243, 3))))) (.branch 44 (.branch 41 (.branch 38 (.leaf (35, .sipush 10000, 3)) (.leaf (38, .if_icmp .ne 10, 3))) (.branch 42 (.leaf (41, .aload_n 0, 1)) (.leaf (42, .bipush (-5), 2)))) (.branch 48 (.branch 47 (.leaf (44, .invokevirtual 84, 3)) (.leaf (47, .ireturn, 1))) (.branch 49 (.leaf (48, .aload_n 0, 1)) (.leaf (49, .getfield 205, 3))))))) (.branch 78 (.branch 66 (.branch 57 (.branch 54 (.leaf (52, .istore 4, 2)) (.branch 55 (.leaf (54, .iload_n 3, 1)) (.leaf (55, .iload 4, 2)))) (.branch 61 (.branch 60 (.leaf (57, .if_icmp .lt 10, 3)) (.leaf (60, .aload_n 0, 1))) (.branch 63 (.leaf (61, .bipush (-5), 2)) (.leaf (63, .invokevirtual 84, 3))))) (.branch 72 (.branch 68 (.branch 67 (.leaf (66, .ireturn, 1)) (.leaf (67, .aload_n 0, 1))) (.branch 71 (.leaf (68, .getfield 26, 3)) (.leaf (71, .iload_n 1, 1)))) (.branch 74 (.branch 73 (.leaf (72, .iaload, 1)) (.leaf (73, .iconst 2, 1))) (.branch 77 (.leaf (74, .if_icmp .eq 27, 3)) (.leaf (77, .aload_n 0, 1)))))) (.branch 91 (.branch 83 (.branch 81 (.leaf (78, .getfield 26, 3)) (.branch 82 (.leaf (81, .iload_n 1, 1)) (.leaf (82, .iaload, 1)))) (.branch 87 (.branch 84 (.leaf (83, .iconst 3, 1)) (.leaf (84, .if_icmp .eq 17, 3))) (.branch 88 (.leaf (87, .aload_n 0, 1)) (.leaf (88, .getfield 26, 3))))) (.branch 97 (.branch 93 (.branch 92 (.leaf (91, .iload_n 1, 1)) (.leaf (92, .iaload, 1))) (.branch 94 (.leaf (93, .iconst 4, 1)) (.leaf (94, .if_icmp .eq 7, 3)))) (.branch 101 (.branch 98 (.leaf (97, .iconst 1, 1)) (.leaf (98, .goto 4, 3))) (.branch 102 (.leaf (101, .iconst 0, 1)) (.leaf (102, .istore 5, 2)))))))) (.branch 164 (.branch 131 (.branch 118 (.branch 110 (.branch 106 (.leaf (104, .iload 4, 2)) (.branch 108 (.leaf (106, .istore 6, 2)) (.leaf (108, .iload 6, 2)))) (.branch 114 (.branch 113 (.leaf (110, .ifCond .lt 167, 3)) (.leaf (113, .iconst 0, 1))) (.branch 116 (.leaf (114, .istore 7, 2)) (.leaf (116, .iload 7, 2))))) (.branch 125 (.branch 119 (.leaf (118, .aload_n 0, 1)) (.branch 122 (.leaf (119, .getfield 66, 3)) (.leaf (122, .if_icmp .ge 149, 3)))) (.branch 128 (.branch 126 (.leaf (125, .iconst 0, 1)) (.leaf (126, .istore 8, 2))) (.branch 130 (.leaf (128, .iload 8, 2)) (.leaf (130, .aload_n 0, 1)))))) (.branch 145 (.branch 137 (.branch 134 (.leaf (131, .getfield 20, 3)) (.branch 136 (.leaf (134, .iload 7, 2)) (.leaf (136, .iaload, 1)))) (.branch 141 (.branch 140 (.leaf (137, .if_icmp .ge 128, 3)) (.leaf (140, .iconst 0, 1))) (.branch 143 (.leaf (141, .istore 9, 2)) (.leaf (143, .iload 9, 2))))) (.branch 155 (.branch 150 (.branch 147 (.leaf (145, .bipush 11, 2)) (.leaf (147, .if_icmp .ge 112, 3))) (.branch 153 (.leaf (150, .sipush 10000, 3)) (.leaf (153, .istore 10, 2)))) (.branch 159 (.branch 157 (.leaf (155, .iload 6, 2)) (.leaf (157, .iload 4, 2))) (.branch 162 (.leaf (159, .if_icmp .ne 37, 3)) (.leaf (162, .iload 9, 2))))))) (.branch 193 (.branch 178 (.branch 170 (.branch 167 (.leaf (164, .ifCond .ne 71, 3)) (.branch 169 (.leaf (167, .iload 7, 2)) (.leaf (169, .aload_n 0, 1)))) (.branch 174 (.branch 173 (.leaf (170, .getfield 29, 3)) (.leaf (173, .iload_n 2, 1))) (.branch 175 (.leaf (174, .iaload, 1)) (.leaf (175, .if_icmp .ne 60, 3))))) (.branch 184 (.branch 181 (.branch 180 (.leaf (178, .iload 8, 2)) (.leaf (180, .aload_n 0, 1))) (.branch 182 (.leaf (181, .iload_n 2, 1)) (.leaf (182, .iload 6, 2)))) (.branch 190 (.branch 187 (.leaf (184, .invokevirtual 237, 3)) (.leaf (187, .if_icmp .ne 48, 3))) (.branch 191 (.leaf (190, .iconst 0, 1)) (.leaf (191, .istore 10, 2)))))) (.branch 207 (.branch 199 (.branch 196 (.leaf (193, .goto 42, 3)) (.branch 197 (.leaf (196, .iconst 0, 1)) (.leaf (197, .istore 11, 2)))) (.branch 202 (.branch 201 (.leaf (199, .iload 11, 2)) (.leaf (201, .iconst 3, 1))) (.branch 205 (.leaf (202, .if_icmp .ge 33, 3)) (.leaf (205, .iload 10, 2))))) (.branch 213 (.branch 209 (.branch 208 (.leaf (207, .aload_n 0, 1)) (.leaf (208, .iload_n 1, 1))) (.branch 211 (.leaf (209, .iload 6, 2)) (.leaf (211, .iload 7, 2)))) (.branch 217 (.branch 215 (.leaf (213, .iload 8, 2)) (.leaf (215, .iload 9, 2))) (.branch 219 (.leaf (217, .iload 11, 2)) (.leaf (219, .iload 5, 2))))))))) (.branch 343 (.branch 289 (.branch 253 (.branch 239 (.branch 229 (.branch 224 (.leaf (221, .invokevirtual 247, 3)) (.branch 227 (.leaf (224, .invokestatic 240, 3)) (.leaf (227, .istore 10, 2)))) (.branch 235 (.branch 232 (.leaf (229, .iinc 11 1, 3)) (.leaf (232, .goto (-33), 3))) (.branch 236 (.leaf (235, .aload_n 0, 1)) (.leaf (236, .getfield 60, 3))))) (.branch 245 (.branch 241 (.leaf (239, .iload 6, 2)) (.branch 243 (.leaf (241, .iload 7, 2)) (.leaf (243, .iload 8, 2)))) (.branch 250 (.branch 247 (.leaf (245, .iload 9, 2)) (.leaf (247, .invokestatic 250, 3))) (.branch 252 (.leaf (250, .iload 10, 2)) (.leaf (252, .iastore, 1)))))) (.branch 274 (.branch 262 (.branch 256 (.leaf (253, .iinc 9 1, 3)) (.branch 259 (.leaf (256, .goto (-113), 3)) (.leaf (259, .iinc 8 1, 3)))) (.branch 268 (.branch 265 (.leaf (262, .goto (-134), 3)) (.leaf (265, .iinc 7 1, 3))) (.branch 271 (.leaf (268, .goto (-152), 3)) (.leaf (271, .iinc 6 (-1), 3))))) (.branch 282 (.branch 278 (.branch 277 (.leaf (274, .goto (-166), 3)) (.leaf (277, .aload_n 0, 1))) (.branch 281 (.leaf (278, .getfield 29, 3)) (.leaf (281, .iload_n 1, 1)))) (.branch 285 (.branch 283 (.leaf (282, .iaload, 1)) (.leaf (283, .istore 6, 2))) (.branch 286 (.leaf (285, .aload_n 0, 1)) (.leaf (286, .getfield 32, 3))))))) (.branch 314 (.branch 299 (.branch 293 (.branch 290 (.leaf (289, .iload_n 1, 1)) (.branch 291 (.leaf (290, .iaload, 1)) (.leaf (291, .istore 7, 2)))) (.branch 297 (.branch 294 (.leaf (293, .aload_n 0, 1)) (.leaf (294, .getfield 38, 3))) (.branch 298 (.leaf (297, .iload_n 1, 1)) (.leaf (298, .iaload, 1))))) (.branch 306 (.branch 302 (.branch 301 (.leaf (299, .istore 8, 2)) (.leaf (301, .iconst 0, 1))) (.branch 304 (.leaf (302, .istore 9, 2)) (.leaf (304, .iload 9, 2)))) (.branch 311 (.branch 308 (.leaf (306, .iload 4, 2)) (.leaf (308, .if_icmp .ge 145, 3))) (.branch 312 (.leaf (311, .iconst 0, 1)) (.leaf (312, .istore 10, 2)))))) (.branch 326 (.branch 318 (.branch 315 (.leaf (314, .aload_n 0, 1)) (.branch 316 (.leaf (315, .iload_n 1, 1)) (.leaf (316, .iload 9, 2)))) (.branch 322 (.branch 320 (.leaf (318, .iload 6, 2)) (.leaf (320, .iload 7, 2))) (.branch 324 (.leaf (322, .iload 8, 2)) (.leaf (324, .iload 10, 2))))) (.branch 335 (.branch 331 (.branch 328 (.leaf (326, .iload 5, 2)) (.leaf (328, .invokevirtual 247, 3))) (.branch 332 (.leaf (331, .aload_n 0, 1)) (.leaf (332, .getfield 60, 3)))) (.branch 339 (.branch 337 (.leaf (335, .iload 9, 2)) (.leaf (337, .iload 6, 2))) (.branch 341 (.leaf (339, .iload 7, 2)) (.leaf (341, .iload 8, 2)))))))) (.branch 402 (.branch 376 (.branch 360 (.branch 350 (.branch 346 (.leaf (343, .invokestatic 250, 3)) (.branch 347 (.leaf (346, .iaload, 1)) (.leaf (347, .if_icmp .eq 9, 3)))) (.branch 356 (.branch 353 (.leaf (350, .iinc 10 1, 3)) (.leaf (353, .goto (-39), 3))) (.branch 357 (.leaf (356, .aload_n 0, 1)) (.leaf (357, .getfield 63, 3))))) (.branch 367 (.branch 364 (.branch 362 (.leaf (360, .iload 9, 2)) (.leaf (362, .iload 10, 2))) (.branch 365 (.leaf (364, .iastore, 1)) (.leaf (365, .iload 10, 2)))) (.branch 372 (.branch 370 (.leaf (367, .ifCond .le 55, 3)) (.leaf (370, .iload 10, 2))) (.branch 373 (.leaf (372, .iconst 1, 1)) (.leaf (373, .if_icmp .ne 10, 3)))))) (.branch 387 (.branch 380 (.branch 378 (.leaf (376, .iload 6, 2)) (.branch 379 (.leaf (378, .iconst 1, 1)) (.leaf (379, .iadd, 1)))) (.branch 385 (.branch 383 (.leaf (380, .goto 7, 3)) (.leaf (383, .iload 6, 2))) (.branch 386 (.leaf (385, .iconst 1, 1)) (.leaf (386, .isub, 1))))) (.branch 394 (.branch 390 (.branch 389 (.leaf (387, .istore 11, 2)) (.leaf (389, .aload_n 0, 1))) (.branch 392 (.leaf (390, .iload 7, 2)) (.leaf (392, .iload 6, 2)))) (.branch 399 (.branch 396 (.leaf (394, .iload 11, 2)) (.leaf (396, .invokevirtual 191, 3))) (.branch 401 (.leaf (399, .istore 7, 2)) (.leaf (401, .aload_n 0, 1))))))) (.branch 435 (.branch 415 (.branch 408 (.branch 405 (.leaf (402, .getfield 20, 3)) (.branch 407 (.leaf (405, .iload 6, 2)) (.leaf (407, .iaload, 1)))) (.branch 412 (.branch 411 (.leaf (408, .invokestatic 188, 3)) (.leaf (411, .iconst 1, 1))) (.branch 413 (.leaf (412, .isub, 1)) (.leaf (413, .istore 8, 2))))) (.branch 424 (.branch 419 (.branch 417 (.leaf (415, .iload 11, 2)) (.leaf (417, .istore 6, 2))) (.branch 422 (.leaf (419, .goto 28, 3)) (.leaf (422, .iload 8, 2)))) (.branch 430 (.branch 427 (.leaf (424, .ifCond .le 9, 3)) (.leaf (427, .iinc 8 (-1), 3))) (.branch 433 (.leaf (430, .goto 17, 3)) (.leaf (433, .iload 7, 2)))))) (.branch 445 (.branch 438 (.branch 436 (.leaf (435, .iconst 1, 1)) (.branch 437 (.leaf (436, .iadd, 1)) (.leaf (437, .aload_n 0, 1)))) (.branch 443 (.branch 441 (.leaf (438, .getfield 20, 3)) (.leaf (441, .iload 6, 2))) (.branch 444 (.leaf (443, .iaload, 1)) (.leaf (444, .irem, 1))))) (.branch 454 (.branch 450 (.branch 447 (.leaf (445, .istore 7, 2)) (.leaf (447, .iinc 9 1, 3))) (.branch 453 (.leaf (450, .goto (-146), 3)) (.leaf (453, .aload_n 0, 1)))) (.branch 458 (.branch 457 (.leaf (454, .getfield 63, 3)) (.leaf (457, .iload_n 3, 1))) (.branch 459 (.leaf (458, .iaload, 1)) (.leaf (459, .ireturn, 1)))))))))
def mc_210 : am_T := .branch 64 (.branch 33 (.branch 15 (.branch 9 (.branch 5 (.branch 2 (.leaf (0, .iload 6, 2)) (.leaf (2, .ifCond .ne 45, 3))) (.branch 6 (.leaf (5, .aload_n 0, 1)) (.leaf (6, .getfield 60, 3)))) (.branch 11 (.branch 10 (.leaf (9, .iload_n 2, 1)) (.leaf (10, .iconst 1, 1))) (.branch 12 (.leaf (11, .iadd, 1)) (.branch 13 (.leaf (12, .iload_n 3, 1)) (.leaf (13, .iload 5, 2)))))) (.branch 26 (.branch 20 (.branch 18 (.leaf (15, .ifCond .le 8, 3)) (.leaf (18, .iload 4, 2))) (.branch 23 (.leaf (20, .goto 14, 3)) (.branch 25 (.leaf (23, .iload 4, 2)) (.leaf (25, .iconst 1, 1))))) (.branch 28 (.branch 27 (.leaf (26, .iadd, 1)) (.leaf (27, .aload_n 0, 1))) (.branch 31 (.leaf (28, .getfield 20, 3)) (.branch 32 (.leaf (31, .iload_n 3, 1)) (.leaf (32, .iaload, 1))))))) (.branch 49 (.branch 39 (.branch 35 (.branch 34 (.leaf (33, .irem, 1)) (.leaf (34, .iconst 0, 1))) (.branch 37 (.leaf (35, .iload 5, 2)) (.branch 38 (.leaf (37, .iconst 1, 1)) (.leaf (38, .isub, 1))))) (.branch 45 (.branch 42 (.leaf (39, .invokestatic 177, 3)) (.leaf (42, .invokestatic 250, 3))) (.branch 46 (.leaf (45, .iaload, 1)) (.branch 47 (.leaf (46, .ireturn, 1)) (.leaf (47, .iload 6, 2)))))) (.branch 56 (.branch 53 (.branch 50 (.leaf (49, .iconst 1, 1)) (.leaf (50, .if_icmp .ne 9, 3))) (.branch 54 (.leaf (53, .iload_n 3, 1)) (.branch 55 (.leaf (54, .iconst 1, 1)) (.leaf (55, .iadd, 1))))) (.branch 60 (.branch 59 (.leaf (56, .goto 6, 3)) (.leaf (59, .iload_n 3, 1))) (.branch 61 (.leaf (60, .iconst 1, 1)) (.branch 62 (.leaf (61, .isub, 1)) (.leaf (62, .istore 8, 2)))))))) (.branch 106 (.branch 87 (.branch 75 (.branch 69 (.branch 66 (.leaf (64, .iload 7, 2)) (.leaf (66, .ifCond .eq 17, 3))) (.branch 71 (.leaf (69, .iload 5, 2)) (.branch 74 (.leaf (71, .ifCond .gt 12, 3)) (.leaf (74, .aload_n 0, 1))))) (.branch 80 (.branch 77 (.leaf (75, .iload 8, 2)) (.leaf (77, .invokevirtual 105, 3))) (.branch 83 (.leaf (80, .ifCond .ne 7, 3)) (.branch 86 (.leaf (83, .sipush 10000, 3)) (.leaf (86, .ireturn, 1)))))) (.branch 95 (.branch 91 (.branch 90 (.leaf (87, .sipush 10000, 3)) (.leaf (90, .aload_n 0, 1))) (.branch 92 (.leaf (91, .iload_n 1, 1)) (.branch 93 (.leaf (92, .iload_n 3, 1)) (.leaf (93, .iload 8, 2))))) (.branch 101 (.branch 98 (.leaf (95, .invokestatic 240, 3)) (.leaf (98, .invokevirtual 98, 3))) (.branch 102 (.leaf (101, .aload_n 0, 1)) (.branch 105 (.leaf (102, .getfield 60, 3)) (.leaf (105, .iload_n 2, 1))))))) (.branch 123 (.branch 113 (.branch 108 (.branch 107 (.leaf (106, .iconst 1, 1)) (.leaf (107, .iadd, 1))) (.branch 110 (.leaf (108, .iload 8, 2)) (.branch 111 (.leaf (110, .aload_n 0, 1)) (.leaf (111, .iload 4, 2))))) (.branch 116 (.branch 114 (.leaf (113, .iload_n 3, 1)) (.leaf (114, .iload 8, 2))) (.branch 119 (.leaf (116, .invokevirtual 191, 3)) (.branch 120 (.leaf (119, .aload_n 0, 1)) (.leaf (120, .getfield 20, 3)))))) (.branch 130 (.branch 125 (.branch 124 (.leaf (123, .iload_n 3, 1)) (.leaf (124, .iaload, 1))) (.branch 128 (.leaf (125, .invokestatic 188, 3)) (.branch 129 (.leaf (128, .iconst 1, 1)) (.leaf (129, .isub, 1))))) (.branch 134 (.branch 133 (.leaf (130, .invokestatic 250, 3)) (.leaf (133, .iaload, 1))) (.branch 135 (.leaf (134, .iadd, 1)) (.branch 138 (.leaf (135, .invokestatic 240, 3)) (.leaf (138, .ireturn, 1))))))))
def mc_211 : am_T := .branch 139 (.branch 65 (.branch 32 (.branch 15 (.branch 8 (.branch 2 (.branch 1 (.leaf (0, .aload_n 0, 1)) (.leaf (1, .iload_n 1, 1))) (.branch 5 (.leaf (2, .invokevirtual 80, 3)) (.leaf (5, .ifCond .eq 45, 3)))) (.branch 10 (.branch 9 (.leaf (8, .iload_n 2, 1)) (.leaf (9, .iconst 0, 1))) (.branch 11 (.leaf (10, .iconst 1, 1)) (.branch 12 (.leaf (11, .aload_n 0, 1)) (.leaf (12, .getfield 73, 3)))))) (.branch 21 (.branch 17 (.branch 16 (.leaf (15, .ishl, 1)) (.leaf (16, .iconst 1, 1))) (.branch 18 (.leaf (17, .isub, 1)) (.leaf (18, .invokestatic 76, 3)))) (.branch 25 (.branch 24 (.leaf (21, .ifCond .eq 29, 3)) (.leaf (24, .iload_n 2, 1))) (.branch 26 (.leaf (25, .iload_n 1, 1)) (.branch 29 (.leaf (26, .invokestatic 253, 3)) (.leaf (29, .ifCond .ne 21, 3))))))) (.branch 50 (.branch 40 (.branch 36 (.branch 33 (.leaf (32, .iload_n 2, 1)) (.leaf (33, .invokestatic 256, 3))) (.branch 37 (.leaf (36, .iconst 3, 1)) (.leaf (37, .if_icmp .gt 13, 3)))) (.branch 42 (.branch 41 (.leaf (40, .iload_n 3, 1)) (.leaf (41, .iconst 0, 1))) (.branch 44 (.leaf (42, .bipush 60, 2)) (.branch 47 (.leaf (44, .invokestatic 76, 3)) (.leaf (47, .ifCond .ne 10, 3)))))) (.branch 58 (.branch 53 (.branch 51 (.leaf (50, .aload_n 0, 1)) (.leaf (51, .bipush (-2), 2))) (.branch 56 (.leaf (53, .invokevirtual 84, 3)) (.branch 57 (.leaf (56, .ireturn, 1)) (.leaf (57, .iconst 1, 1))))) (.branch 62 (.branch 59 (.leaf (58, .iload_n 2, 1)) (.leaf (59, .invokestatic 256, 3))) (.branch 63 (.leaf (62, .ishl, 1)) (.branch 64 (.leaf (63, .iconst 1, 1)) (.leaf (64, .isub, 1)))))))) (.branch 100 (.branch 81 (.branch 73 (.branch 70 (.branch 67 (.leaf (65, .istore 4, 2)) (.leaf (67, .sipush 10000, 3))) (.branch 72 (.leaf (70, .istore 5, 2)) (.leaf (72, .aload_n 0, 1)))) (.branch 75 (.branch 74 (.leaf (73, .iload_n 1, 1)) (.leaf (74, .iconst 0, 1))) (.branch 78 (.leaf (75, .invokevirtual 231, 3)) (.branch 79 (.leaf (78, .iconst 0, 1)) (.leaf (79, .istore 6, 2)))))) (.branch 92 (.branch 84 (.branch 83 (.leaf (81, .iload 6, 2)) (.leaf (83, .iload_n 3, 1))) (.branch 87 (.leaf (84, .if_icmp .gt 193, 3)) (.branch 89 (.leaf (87, .iload 6, 2)) (.leaf (89, .ifCond .le 8, 3))))) (.branch 94 (.branch 93 (.leaf (92, .aload_n 0, 1)) (.leaf (93, .iload_n 1, 1))) (.branch 97 (.leaf (94, .invokevirtual 234, 3)) (.branch 98 (.leaf (97, .iconst 0, 1)) (.leaf (98, .istore 7, 2))))))) (.branch 118 (.branch 106 (.branch 103 (.branch 101 (.leaf (100, .iconst 0, 1)) (.leaf (101, .istore 8, 2))) (.branch 105 (.leaf (103, .iload 8, 2)) (.leaf (105, .aload_n 0, 1)))) (.branch 112 (.branch 109 (.leaf (106, .getfield 73, 3)) (.leaf (109, .if_icmp .ge 126, 3))) (.branch 113 (.leaf (112, .iload_n 2, 1)) (.branch 115 (.leaf (113, .iload 8, 2)) (.leaf (115, .invokestatic 253, 3)))))) (.branch 129 (.branch 124 (.branch 121 (.leaf (118, .ifCond .ne 6, 3)) (.leaf (121, .goto 108, 3))) (.branch 125 (.leaf (124, .aload_n 0, 1)) (.branch 127 (.leaf (125, .iload 8, 2)) (.leaf (127, .iload 6, 2))))) (.branch 134 (.branch 132 (.leaf (129, .invokevirtual 237, 3)) (.leaf (132, .istore 9, 2))) (.branch 135 (.leaf (134, .iconst 0, 1)) (.branch 137 (.leaf (135, .istore 10, 2)) (.leaf (137, .iload 10, 2))))))))) (.branch 210 (.branch 176 (.branch 157 (.branch 147 (.branch 144 (.branch 141 (.leaf (139, .bipush 8, 2)) (.leaf (141, .if_icmp .ge 85, 3))) (.branch 146 (.leaf (144, .iload 9, 2)) (.leaf (146, .iconst (-1), 1)))) (.branch 151 (.branch 150 (.leaf (147, .if_icmp .eq 79, 3)) (.leaf (150, .aload_n 0, 1))) (.branch 154 (.leaf (151, .getfield 29, 3)) (.branch 156 (.leaf (154, .iload 8, 2)) (.leaf (156, .iaload, 1)))))) (.branch 167 (.branch 160 (.branch 159 (.leaf (157, .iload 9, 2)) (.leaf (159, .iconst 0, 1))) (.branch 162 (.leaf (160, .iload 10, 2)) (.branch 165 (.leaf (162, .invokestatic 224, 3)) (.leaf (165, .istore 11, 2))))) (.branch 171 (.branch 168 (.leaf (167, .aload_n 0, 1)) (.leaf (168, .getfield 29, 3))) (.branch 173 (.leaf (171, .iload 8, 2)) (.branch 174 (.leaf (173, .iaload, 1)) (.leaf (174, .iload 9, 2))))))) (.branch 190 (.branch 182 (.branch 179 (.branch 177 (.leaf (176, .iconst 0, 1)) (.leaf (177, .iload 10, 2))) (.branch 180 (.leaf (179, .iconst 1, 1)) (.leaf (180, .iload 7, 2)))) (.branch 184 (.branch 183 (.leaf (182, .ishl, 1)) (.leaf (183, .ior, 1))) (.branch 187 (.leaf (184, .invokestatic 224, 3)) (.branch 189 (.leaf (187, .istore 12, 2)) (.leaf (189, .aload_n 0, 1)))))) (.branch 200 (.branch 195 (.branch 193 (.leaf (190, .getfield 53, 3)) (.leaf (193, .iload 11, 2))) (.branch 196 (.leaf (195, .iaload, 1)) (.branch 197 (.leaf (196, .aload_n 0, 1)) (.leaf (197, .getfield 53, 3))))) (.branch 203 (.branch 202 (.leaf (200, .iload 12, 2)) (.leaf (202, .iaload, 1))) (.branch 206 (.leaf (203, .if_icmp .ge 17, 3)) (.branch 207 (.leaf (206, .aload_n 0, 1)) (.leaf (207, .getfield 53, 3)))))))) (.branch 250 (.branch 229 (.branch 218 (.branch 213 (.branch 212 (.leaf (210, .iload 12, 2)) (.leaf (212, .aload_n 0, 1))) (.branch 216 (.leaf (213, .getfield 53, 3)) (.leaf (216, .iload 11, 2)))) (.branch 220 (.branch 219 (.leaf (218, .iaload, 1)) (.leaf (219, .iastore, 1))) (.branch 223 (.leaf (220, .iinc 10 1, 3)) (.branch 226 (.leaf (223, .goto (-86), 3)) (.leaf (226, .iinc 7 1, 3)))))) (.branch 240 (.branch 235 (.branch 232 (.leaf (229, .iinc 8 1, 3)) (.leaf (232, .goto (-129), 3))) (.branch 236 (.leaf (235, .iconst 0, 1)) (.branch 238 (.leaf (236, .istore 8, 2)) (.leaf (238, .iload 8, 2))))) (.branch 244 (.branch 241 (.leaf (240, .aload_n 0, 1)) (.leaf (241, .getfield 53, 3))) (.branch 245 (.leaf (244, .arraylength, 1)) (.branch 248 (.leaf (245, .if_icmp .ge 26, 3)) (.leaf (248, .iload 5, 2))))))) (.branch 268 (.branch 258 (.branch 254 (.branch 251 (.leaf (250, .aload_n 0, 1)) (.leaf (251, .getfield 53, 3))) (.branch 256 (.leaf (254, .iload 8, 2)) (.leaf (256, .iload 4, 2)))) (.branch 260 (.branch 259 (.leaf (258, .iadd, 1)) (.leaf (259, .iaload, 1))) (.branch 263 (.leaf (260, .invokestatic 240, 3)) (.branch 265 (.leaf (263, .istore 5, 2)) (.leaf (265, .iinc 8 8, 3)))))) (.branch 282 (.branch 274 (.branch 271 (.leaf (268, .goto (-30), 3)) (.leaf (271, .iinc 6 1, 3))) (.branch 277 (.leaf (274, .goto (-193), 3)) (.branch 279 (.leaf (277, .iload 5, 2)) (.leaf (279, .sipush 10000, 3))))) (.branch 286 (.branch 285 (.leaf (282, .if_icmp .ne 7, 3)) (.leaf (285, .iconst (-1), 1))) (.branch 289 (.leaf (286, .goto 5, 3)) (.branch 291 (.leaf (289, .iload 5, 2)) (.leaf (291, .ireturn, 1)))))))))
def mc_212 : am_T := .branch 60 (.branch 30 (.branch 14 (.branch 8 (.branch 2 (.branch 1 (.leaf (0, .aload_n 0, 1)) (.leaf (1, .iload_n 1, 1))) (.branch 5 (.leaf (2, .invokevirtual 80, 3)) (.leaf (5, .ifCond .eq 12, 3)))) (.branch 10 (.branch 9 (.leaf (8, .iload_n 2, 1)) (.leaf (9, .iconst 0, 1))) (.branch 11 (.leaf (10, .iconst 1, 1)) (.leaf (11, .invokestatic 76, 3))))) (.branch 23 (.branch 18 (.branch 17 (.leaf (14, .ifCond .ne 10, 3)) (.leaf (17, .aload_n 0, 1))) (.branch 20 (.leaf (18, .bipush (-2), 2)) (.leaf (20, .invokevirtual 84, 3)))) (.branch 25 (.branch 24 (.leaf (23, .ireturn, 1)) (.leaf (24, .aload_n 0, 1))) (.branch 28 (.leaf (25, .getfield 29, 3)) (.branch 29 (.leaf (28, .iload_n 1, 1)) (.leaf (29, .iaload, 1))))))) (.branch 44 (.branch 38 (.branch 34 (.branch 33 (.leaf (30, .ifCond .le 24, 3)) (.leaf (33, .aload_n 0, 1))) (.branch 37 (.leaf (34, .getfield 26, 3)) (.leaf (37, .iload_n 1, 1)))) (.branch 40 (.branch 39 (.leaf (38, .iaload, 1)) (.leaf (39, .iconst 2, 1))) (.branch 41 (.leaf (40, .iconst 4, 1)) (.leaf (41, .invokestatic 76, 3))))) (.branch 53 (.branch 48 (.branch 47 (.leaf (44, .ifCond .eq 10, 3)) (.leaf (47, .aload_n 0, 1))) (.branch 50 (.leaf (48, .bipush (-5), 2)) (.leaf (50, .invokevirtual 84, 3)))) (.branch 55 (.branch 54 (.leaf (53, .ireturn, 1)) (.leaf (54, .iconst 0, 1))) (.branch 56 (.leaf (55, .istore_n 3, 1)) (.branch 57 (.leaf (56, .aload_n 0, 1)) (.leaf (57, .getfield 38, 3)))))))) (.branch 87 (.branch 72 (.branch 65 (.branch 62 (.branch 61 (.leaf (60, .iload_n 1, 1)) (.leaf (61, .iaload, 1))) (.branch 64 (.leaf (62, .istore 4, 2)) (.leaf (64, .aload_n 0, 1)))) (.branch 69 (.branch 68 (.leaf (65, .getfield 29, 3)) (.leaf (68, .iload_n 1, 1))) (.branch 70 (.leaf (69, .iaload, 1)) (.leaf (70, .istore 5, 2))))) (.branch 79 (.branch 77 (.branch 74 (.leaf (72, .iload 5, 2)) (.leaf (74, .ifCond .le 36, 3))) (.branch 78 (.leaf (77, .iload_n 3, 1)) (.leaf (78, .aload_n 0, 1)))) (.branch 82 (.branch 80 (.leaf (79, .iload_n 1, 1)) (.leaf (80, .iload 5, 2))) (.branch 83 (.leaf (82, .iconst 1, 1)) (.branch 84 (.leaf (83, .isub, 1)) (.leaf (84, .invokevirtual 98, 3))))))) (.branch 102 (.branch 92 (.branch 89 (.branch 88 (.leaf (87, .iadd, 1)) (.leaf (88, .istore_n 3, 1))) (.branch 91 (.leaf (89, .iload 4, 2)) (.leaf (91, .aload_n 0, 1)))) (.branch 97 (.branch 95 (.leaf (92, .getfield 20, 3)) (.leaf (95, .iload 5, 2))) (.branch 98 (.leaf (97, .iaload, 1)) (.branch 101 (.leaf (98, .invokestatic 188, 3)) (.leaf (101, .iadd, 1)))))) (.branch 111 (.branch 107 (.branch 104 (.leaf (102, .istore 4, 2)) (.leaf (104, .iinc 5 (-1), 3))) (.branch 110 (.leaf (107, .goto (-35), 3)) (.leaf (110, .iload_n 2, 1)))) (.branch 115 (.branch 114 (.leaf (111, .ifCond .ne 7, 3)) (.leaf (114, .iload_n 3, 1))) (.branch 118 (.leaf (115, .goto 5, 3)) (.branch 120 (.leaf (118, .iload 4, 2)) (.leaf (120, .ireturn, 1))))))))
def mc_213 : am_T := .branch 51 (.branch 27 (.branch 13 (.branch 7 (.branch 1 (.leaf (0, .aload_n 0, 1)) (.branch 4 (.leaf (1, .getfield 73, 3)) (.leaf (4, .ifCond .ne 7, 3)))) (.branch 11 (.branch 10 (.leaf (7, .ldc2_w 261, 3)) (.leaf (10, .lreturn, 1))) (.branch 12 (.leaf (11, .lconst 1, 1)) (.leaf (12, .lstore_n 1, 1))))) (.branch 17 (.branch 15 (.branch 14 (.leaf (13, .iconst 0, 1)) (.leaf (14, .istore_n 3, 1))) (.branch 16 (.leaf (15, .iload_n 3, 1)) (.leaf (16, .aload_n 0, 1)))) (.branch 23 (.branch 20 (.leaf (17, .getfield 73, 3)) (.leaf (20, .if_icmp .ge 82, 3))) (.branch 24 (.leaf (23, .aload_n 0, 1)) (.leaf (24, .getfield 38, 3)))))) (.branch 39 (.branch 32 (.branch 28 (.leaf (27, .iload_n 3, 1)) (.branch 29 (.leaf (28, .iaload, 1)) (.leaf (29, .ifCond .le 7, 3)))) (.branch 36 (.branch 35 (.leaf (32, .ldc2_w 261, 3)) (.leaf (35, .lreturn, 1))) (.branch 37 (.leaf (36, .lload_n 1, 1)) (.leaf (37, .lstore 4, 2))))) (.branch 47 (.branch 43 (.branch 40 (.leaf (39, .aload_n 0, 1)) (.leaf (40, .getfield 20, 3))) (.branch 44 (.leaf (43, .aload_n 0, 1)) (.leaf (44, .getfield 29, 3)))) (.branch 49 (.branch 48 (.leaf (47, .iload_n 3, 1)) (.leaf (48, .iaload, 1))) (.branch 50 (.leaf (49, .iaload, 1)) (.leaf (50, .i2l, 1))))))) (.branch 79 (.branch 64 (.branch 56 (.branch 53 (.leaf (51, .lstore 6, 2)) (.branch 55 (.leaf (53, .lload 6, 2)) (.leaf (55, .lconst 0, 1)))) (.branch 60 (.branch 57 (.leaf (56, .lcmp, 1)) (.leaf (57, .ifCond .eq 21, 3))) (.branch 62 (.leaf (60, .lload 4, 2)) (.leaf (62, .lload 6, 2))))) (.branch 71 (.branch 67 (.branch 65 (.leaf (64, .lrem, 1)) (.leaf (65, .lstore 8, 2))) (.branch 69 (.leaf (67, .lload 6, 2)) (.leaf (69, .lstore 4, 2)))) (.branch 75 (.branch 73 (.leaf (71, .lload 8, 2)) (.leaf (73, .lstore 6, 2))) (.branch 78 (.leaf (75, .goto (-22), 3)) (.leaf (78, .lload_n 1, 1)))))) (.branch 92 (.branch 86 (.branch 82 (.branch 81 (.leaf (79, .lload 4, 2)) (.leaf (81, .ldiv, 1))) (.branch 83 (.leaf (82, .aload_n 0, 1)) (.leaf (83, .getfield 20, 3)))) (.branch 90 (.branch 87 (.leaf (86, .aload_n 0, 1)) (.leaf (87, .getfield 29, 3))) (.branch 91 (.leaf (90, .iload_n 3, 1)) (.leaf (91, .iaload, 1))))) (.branch 96 (.branch 94 (.branch 93 (.leaf (92, .iaload, 1)) (.leaf (93, .i2l, 1))) (.branch 95 (.leaf (94, .lmul, 1)) (.leaf (95, .lstore_n 1, 1)))) (.branch 102 (.branch 99 (.leaf (96, .iinc 3 1, 3)) (.leaf (99, .goto (-84), 3))) (.branch 103 (.leaf (102, .lload_n 1, 1)) (.leaf (103, .lreturn, 1)))))))
def mc_214 : am_T := .branch 62 (.branch 32 (.branch 16 (.branch 6 (.branch 2 (.branch 1 (.leaf (0, .aload_n 0, 1)) (.leaf (1, .iload_n 1, 1))) (.branch 3 (.leaf (2, .iload_n 2, 1)) (.leaf (3, .invokevirtual 202, 3)))) (.branch 10 (.branch 9 (.leaf (6, .ifCond .ne 10, 3)) (.leaf (9, .aload_n 0, 1))) (.branch 12 (.leaf (10, .bipush (-2), 2)) (.branch 15 (.leaf (12, .invokevirtual 84, 3)) (.leaf (15, .ireturn, 1)))))) (.branch 25 (.branch 20 (.branch 17 (.leaf (16, .aload_n 0, 1)) (.leaf (17, .getfield 20, 3))) (.branch 21 (.leaf (20, .aload_n 0, 1)) (.branch 24 (.leaf (21, .getfield 29, 3)) (.leaf (24, .iload_n 1, 1))))) (.branch 27 (.branch 26 (.leaf (25, .iaload, 1)) (.leaf (26, .iaload, 1))) (.branch 28 (.leaf (27, .istore_n 3, 1)) (.branch 29 (.leaf (28, .aload_n 0, 1)) (.leaf (29, .getfield 20, 3))))))) (.branch 46 (.branch 38 (.branch 36 (.branch 33 (.leaf (32, .aload_n 0, 1)) (.leaf (33, .getfield 29, 3))) (.branch 37 (.leaf (36, .iload_n 2, 1)) (.leaf (37, .iaload, 1)))) (.branch 41 (.branch 39 (.leaf (38, .iaload, 1)) (.leaf (39, .istore 4, 2))) (.branch 42 (.leaf (41, .iconst 0, 1)) (.branch 44 (.leaf (42, .istore 5, 2)) (.leaf (44, .iload 5, 2)))))) (.branch 54 (.branch 49 (.branch 47 (.leaf (46, .iload_n 3, 1)) (.leaf (47, .iload 4, 2))) (.branch 50 (.leaf (49, .imul, 1)) (.branch 53 (.leaf (50, .if_icmp .ge 73, 3)) (.leaf (53, .aload_n 0, 1))))) (.branch 58 (.branch 57 (.leaf (54, .getfield 32, 3)) (.leaf (57, .iload_n 1, 1))) (.branch 59 (.leaf (58, .iaload, 1)) (.branch 60 (.leaf (59, .iconst 0, 1)) (.leaf (60, .iload 5, 2)))))))) (.branch 91 (.branch 75 (.branch 68 (.branch 66 (.branch 63 (.leaf (62, .aload_n 0, 1)) (.leaf (63, .getfield 38, 3))) (.branch 67 (.leaf (66, .iload_n 1, 1)) (.leaf (67, .iaload, 1)))) (.branch 72 (.branch 69 (.leaf (68, .isub, 1)) (.leaf (69, .invokestatic 177, 3))) (.branch 73 (.leaf (72, .iadd, 1)) (.branch 74 (.leaf (73, .iload_n 3, 1)) (.leaf (74, .irem, 1)))))) (.branch 83 (.branch 78 (.branch 77 (.leaf (75, .istore 6, 2)) (.leaf (77, .aload_n 0, 1))) (.branch 81 (.leaf (78, .getfield 32, 3)) (.branch 82 (.leaf (81, .iload_n 2, 1)) (.leaf (82, .iaload, 1))))) (.branch 86 (.branch 84 (.leaf (83, .iconst 0, 1)) (.leaf (84, .iload 5, 2))) (.branch 87 (.leaf (86, .aload_n 0, 1)) (.branch 90 (.leaf (87, .getfield 38, 3)) (.leaf (90, .iload_n 2, 1))))))) (.branch 107 (.branch 99 (.branch 93 (.branch 92 (.leaf (91, .iaload, 1)) (.leaf (92, .isub, 1))) (.branch 96 (.leaf (93, .invokestatic 177, 3)) (.branch 97 (.leaf (96, .iadd, 1)) (.leaf (97, .iload 4, 2))))) (.branch 102 (.branch 100 (.leaf (99, .irem, 1)) (.leaf (100, .istore 7, 2))) (.branch 104 (.leaf (102, .iload 6, 2)) (.branch 106 (.leaf (104, .iload 4, 2)) (.leaf (106, .imul, 1)))))) (.branch 116 (.branch 110 (.branch 109 (.leaf (107, .iload 7, 2)) (.leaf (109, .iload_n 3, 1))) (.branch 111 (.leaf (110, .imul, 1)) (.branch 114 (.leaf (111, .if_icmp .ne 6, 3)) (.leaf (114, .iload 5, 2))))) (.branch 120 (.branch 117 (.leaf (116, .ireturn, 1)) (.leaf (117, .iinc 5 1, 3))) (.branch 123 (.leaf (120, .goto (-76), 3)) (.branch 124 (.leaf (123, .iconst (-1), 1)) (.leaf (124, .ireturn, 1))))))))
def mc_215 : am_T := .branch 76 (.branch 36 (.branch 19 (.branch 9 (.branch 2 (.branch 1 (.leaf (0, .aload_n 0, 1)) (.leaf (1, .iload_n 1, 1))) (.branch 5 (.leaf (2, .invokevirtual 80, 3)) (.branch 8 (.leaf (5, .ifCond .eq 13, 3)) (.leaf (8, .iload_n 2, 1))))) (.branch 12 (.branch 10 (.leaf (9, .iconst 0, 1)) (.leaf (10, .bipush 20, 2))) (.branch 15 (.leaf (12, .invokestatic 76, 3)) (.branch 18 (.leaf (15, .ifCond .ne 10, 3)) (.leaf (18, .aload_n 0, 1)))))) (.branch 29 (.branch 24 (.branch 21 (.leaf (19, .bipush (-2), 2)) (.leaf (21, .invokevirtual 84, 3))) (.branch 25 (.leaf (24, .ireturn, 1)) (.branch 26 (.leaf (25, .aload_n 0, 1)) (.leaf (26, .getfield 26, 3))))) (.branch 31 (.branch 30 (.leaf (29, .iload_n 1, 1)) (.leaf (30, .iaload, 1))) (.branch 32 (.leaf (31, .iconst 4, 1)) (.branch 35 (.leaf (32, .if_icmp .eq 10, 3)) (.leaf (35, .aload_n 0, 1))))))) (.branch 53 (.branch 44 (.branch 41 (.branch 38 (.leaf (36, .bipush (-5), 2)) (.leaf (38, .invokevirtual 84, 3))) (.branch 42 (.leaf (41, .ireturn, 1)) (.branch 43 (.leaf (42, .iconst 0, 1)) (.leaf (43, .istore_n 3, 1))))) (.branch 47 (.branch 45 (.leaf (44, .iconst 0, 1)) (.leaf (45, .istore 4, 2))) (.branch 49 (.leaf (47, .iload 4, 2)) (.branch 50 (.leaf (49, .aload_n 0, 1)) (.leaf (50, .getfield 73, 3)))))) (.branch 63 (.branch 58 (.branch 56 (.leaf (53, .if_icmp .ge 93, 3)) (.leaf (56, .iload 4, 2))) (.branch 59 (.leaf (58, .iload_n 1, 1)) (.branch 62 (.leaf (59, .if_icmp .eq 81, 3)) (.leaf (62, .aload_n 0, 1))))) (.branch 69 (.branch 66 (.leaf (63, .getfield 38, 3)) (.branch 68 (.leaf (66, .iload 4, 2)) (.leaf (68, .iaload, 1)))) (.branch 72 (.leaf (69, .ifCond .gt 71, 3)) (.branch 73 (.leaf (72, .aload_n 0, 1)) (.leaf (73, .getfield 29, 3)))))))) (.branch 113 (.branch 95 (.branch 84 (.branch 79 (.branch 78 (.leaf (76, .iload 4, 2)) (.leaf (78, .iaload, 1))) (.branch 80 (.leaf (79, .aload_n 0, 1)) (.branch 83 (.leaf (80, .getfield 29, 3)) (.leaf (83, .iload_n 1, 1))))) (.branch 88 (.branch 85 (.leaf (84, .iaload, 1)) (.leaf (85, .if_icmp .eq 6, 3))) (.branch 91 (.leaf (88, .goto 52, 3)) (.branch 92 (.leaf (91, .aload_n 0, 1)) (.leaf (92, .getfield 32, 3)))))) (.branch 103 (.branch 98 (.branch 97 (.leaf (95, .iload 4, 2)) (.leaf (97, .iaload, 1))) (.branch 99 (.leaf (98, .aload_n 0, 1)) (.branch 102 (.leaf (99, .getfield 32, 3)) (.leaf (102, .iload_n 1, 1))))) (.branch 108 (.branch 104 (.leaf (103, .iaload, 1)) (.branch 105 (.leaf (104, .isub, 1)) (.leaf (105, .invokestatic 263, 3)))) (.branch 110 (.leaf (108, .istore 5, 2)) (.branch 112 (.leaf (110, .iload 5, 2)) (.leaf (112, .aload_n 0, 1))))))) (.branch 130 (.branch 122 (.branch 117 (.branch 116 (.leaf (113, .getfield 20, 3)) (.leaf (116, .aload_n 0, 1))) (.branch 120 (.leaf (117, .getfield 29, 3)) (.branch 121 (.leaf (120, .iload_n 1, 1)) (.leaf (121, .iaload, 1))))) (.branch 125 (.branch 123 (.leaf (122, .iaload, 1)) (.leaf (123, .iload 5, 2))) (.branch 126 (.leaf (125, .isub, 1)) (.branch 129 (.leaf (126, .invokestatic 240, 3)) (.leaf (129, .iload_n 2, 1)))))) (.branch 138 (.branch 134 (.branch 133 (.leaf (130, .if_icmp .ge 10, 3)) (.leaf (133, .iload_n 3, 1))) (.branch 135 (.leaf (134, .iconst 1, 1)) (.branch 137 (.leaf (135, .iload 4, 2)) (.leaf (137, .ishl, 1))))) (.branch 143 (.branch 139 (.leaf (138, .ior, 1)) (.branch 140 (.leaf (139, .istore_n 3, 1)) (.leaf (140, .iinc 4 1, 3)))) (.branch 146 (.leaf (143, .goto (-96), 3)) (.branch 147 (.leaf (146, .iload_n 3, 1)) (.leaf (147, .ireturn, 1))))))))
def mc_216 : am_T := .branch 17 (.branch 5 (.branch 2 (.branch 1 (.leaf (0, .iconst 0, 1)) (.leaf (1, .istore_n 1, 1))) (.branch 3 (.leaf (2, .iconst 1, 1)) (.branch 4 (.leaf (3, .istore_n 2, 1)) (.leaf (4, .iload_n 2, 1))))) (.branch 12 (.branch 6 (.leaf (5, .aload_n 0, 1)) (.branch 9 (.leaf (6, .getfield 66, 3)) (.leaf (9, .if_icmp .ge 30, 3)))) (.branch 13 (.leaf (12, .aload_n 0, 1)) (.branch 14 (.leaf (13, .iload_n 2, 1)) (.leaf (14, .invokevirtual 108, 3)))))) (.branch 31 (.branch 22 (.branch 20 (.leaf (17, .invokestatic 256, 3)) (.branch 21 (.leaf (20, .aload_n 0, 1)) (.leaf (21, .iload_n 1, 1)))) (.branch 25 (.leaf (22, .invokevirtual 108, 3)) (.branch 28 (.leaf (25, .invokestatic 256, 3)) (.leaf (28, .if_icmp .le 5, 3))))) (.branch 36 (.branch 32 (.leaf (31, .iload_n 2, 1)) (.branch 33 (.leaf (32, .istore_n 1, 1)) (.leaf (33, .iinc 2 1, 3)))) (.branch 39 (.leaf (36, .goto (-32), 3)) (.branch 40 (.leaf (39, .iload_n 1, 1)) (.leaf (40, .ireturn, 1))))))
def mc_217 : am_T := .branch 49 (.branch 24 (.branch 13 (.branch 4 (.branch 1 (.leaf (0, .iload_n 1, 1)) (.branch 2 (.leaf (1, .iconst 0, 1)) (.leaf (2, .bipush 60, 2)))) (.branch 10 (.branch 7 (.leaf (4, .invokestatic 76, 3)) (.leaf (7, .ifCond .ne 10, 3))) (.branch 11 (.leaf (10, .aload_n 0, 1)) (.leaf (11, .bipush (-2), 2))))) (.branch 18 (.branch 16 (.leaf (13, .invokevirtual 84, 3)) (.branch 17 (.leaf (16, .ireturn, 1)) (.leaf (17, .iconst 0, 1)))) (.branch 20 (.branch 19 (.leaf (18, .istore_n 2, 1)) (.leaf (19, .iload_n 2, 1))) (.branch 21 (.leaf (20, .iload_n 1, 1)) (.leaf (21, .if_icmp .gt 84, 3)))))) (.branch 35 (.branch 27 (.branch 25 (.leaf (24, .iconst 0, 1)) (.branch 26 (.leaf (25, .istore_n 3, 1)) (.leaf (26, .iload_n 3, 1)))) (.branch 31 (.branch 28 (.leaf (27, .aload_n 0, 1)) (.leaf (28, .getfield 73, 3))) (.branch 34 (.leaf (31, .if_icmp .ge 68, 3)) (.leaf (34, .iconst 0, 1))))) (.branch 43 (.branch 39 (.branch 37 (.leaf (35, .istore 4, 2)) (.leaf (37, .iload 4, 2))) (.branch 40 (.leaf (39, .iload_n 3, 1)) (.leaf (40, .if_icmp .ge 53, 3)))) (.branch 47 (.branch 44 (.leaf (43, .aload_n 0, 1)) (.leaf (44, .getfield 29, 3))) (.branch 48 (.leaf (47, .iload_n 3, 1)) (.leaf (48, .iaload, 1))))))) (.branch 75 (.branch 61 (.branch 55 (.branch 50 (.leaf (49, .aload_n 0, 1)) (.branch 53 (.leaf (50, .getfield 29, 3)) (.leaf (53, .iload 4, 2)))) (.branch 59 (.branch 56 (.leaf (55, .iaload, 1)) (.leaf (56, .if_icmp .ne 31, 3))) (.branch 60 (.leaf (59, .aload_n 0, 1)) (.leaf (60, .iload_n 3, 1))))) (.branch 69 (.branch 65 (.branch 62 (.leaf (61, .iload_n 2, 1)) (.leaf (62, .invokevirtual 237, 3))) (.branch 66 (.leaf (65, .iconst (-1), 1)) (.leaf (66, .if_icmp .eq 21, 3)))) (.branch 71 (.branch 70 (.leaf (69, .aload_n 0, 1)) (.leaf (70, .iload_n 3, 1))) (.branch 72 (.leaf (71, .iload_n 2, 1)) (.leaf (72, .invokevirtual 237, 3)))))) (.branch 87 (.branch 79 (.branch 76 (.leaf (75, .aload_n 0, 1)) (.branch 78 (.leaf (76, .iload 4, 2)) (.leaf (78, .iload_n 2, 1)))) (.branch 85 (.branch 82 (.leaf (79, .invokevirtual 237, 3)) (.leaf (82, .if_icmp .ne 5, 3))) (.branch 86 (.leaf (85, .iload_n 2, 1)) (.leaf (86, .ireturn, 1))))) (.branch 99 (.branch 93 (.branch 90 (.leaf (87, .iinc 4 1, 3)) (.leaf (90, .goto (-53), 3))) (.branch 96 (.leaf (93, .iinc 3 1, 3)) (.leaf (96, .goto (-70), 3)))) (.branch 105 (.branch 102 (.leaf (99, .iinc 2 1, 3)) (.leaf (102, .goto (-83), 3))) (.branch 106 (.leaf (105, .iconst (-1), 1)) (.leaf (106, .ireturn, 1)))))))
def mc_218 : am_T := .branch 189 (.branch 99 (.branch 54 (.branch 28 (.branch 12 (.branch 4 (.branch 1 (.leaf (0, .iload_n 1, 1)) (.branch 2 (.leaf (1, .iconst 0, 1)) (.leaf (2, .bipush 7, 2)))) (.branch 10 (.branch 7 (.leaf (4, .invokestatic 76, 3)) (.leaf (7, .ifCond .eq 21, 3))) (.branch 11 (.leaf (10, .iload_n 2, 1)) (.leaf (11, .iconst 1, 1))))) (.branch 20 (.branch 14 (.leaf (12, .bipush 10, 2)) (.branch 17 (.leaf (14, .invokestatic 76, 3)) (.leaf (17, .ifCond .eq 11, 3)))) (.branch 22 (.branch 21 (.leaf (20, .aload_n 0, 1)) (.leaf (21, .iload_n 3, 1))) (.branch 25 (.leaf (22, .invokevirtual 80, 3)) (.leaf (25, .ifCond .ne 10, 3)))))) (.branch 40 (.branch 34 (.branch 29 (.leaf (28, .aload_n 0, 1)) (.branch 31 (.leaf (29, .bipush (-2), 2)) (.leaf (31, .invokevirtual 84, 3)))) (.branch 36 (.branch 35 (.leaf (34, .ireturn, 1)) (.leaf (35, .aload_n 0, 1))) (.branch 37 (.leaf (36, .iload_n 1, 1)) (.leaf (37, .invokevirtual 88, 3))))) (.branch 47 (.branch 42 (.leaf (40, .istore 4, 2)) (.branch 44 (.leaf (42, .iload 4, 2)) (.leaf (44, .ifCond .ge 10, 3)))) (.branch 50 (.branch 48 (.leaf (47, .aload_n 0, 1)) (.leaf (48, .iload 4, 2))) (.branch 53 (.leaf (50, .invokevirtual 84, 3)) (.leaf (53, .ireturn, 1))))))) (.branch 76 (.branch 63 (.branch 57 (.branch 55 (.leaf (54, .iconst 3, 1)) (.branch 56 (.leaf (55, .iload_n 2, 1)) (.leaf (56, .imul, 1)))) (.branch 61 (.branch 58 (.leaf (57, .aload_n 0, 1)) (.leaf (58, .getfield 13, 3))) (.branch 62 (.leaf (61, .iload_n 1, 1)) (.leaf (62, .iaload, 1))))) (.branch 69 (.branch 66 (.leaf (63, .if_icmp .le 10, 3)) (.branch 67 (.leaf (66, .aload_n 0, 1)) (.leaf (67, .bipush (-2), 2)))) (.branch 73 (.branch 72 (.leaf (69, .invokevirtual 84, 3)) (.leaf (72, .ireturn, 1))) (.branch 74 (.leaf (73, .iconst 0, 1)) (.leaf (74, .istore 5, 2)))))) (.branch 89 (.branch 82 (.branch 78 (.leaf (76, .iload 5, 2)) (.branch 79 (.leaf (78, .iload_n 2, 1)) (.leaf (79, .if_icmp .ge 148, 3)))) (.branch 86 (.branch 83 (.leaf (82, .aload_n 0, 1)) (.leaf (83, .getfield 16, 3))) (.branch 88 (.leaf (86, .bipush 40, 2)) (.leaf (88, .iload_n 1, 1))))) (.branch 94 (.branch 91 (.branch 90 (.leaf (89, .imul, 1)) (.leaf (90, .iconst 3, 1))) (.branch 93 (.leaf (91, .iload 5, 2)) (.leaf (93, .imul, 1)))) (.branch 96 (.branch 95 (.leaf (94, .iadd, 1)) (.leaf (95, .laload, 1))) (.branch 98 (.leaf (96, .lstore 6, 2)) (.leaf (98, .aload_n 0, 1)))))))) (.branch 141 (.branch 120 (.branch 110 (.branch 105 (.branch 102 (.leaf (99, .getfield 16, 3)) (.branch 104 (.leaf (102, .bipush 40, 2)) (.leaf (104, .iload_n 1, 1)))) (.branch 107 (.branch 106 (.leaf (105, .imul, 1)) (.leaf (106, .iconst 3, 1))) (.branch 109 (.leaf (107, .iload 5, 2)) (.leaf (109, .imul, 1))))) (.branch 113 (.branch 111 (.leaf (110, .iadd, 1)) (.branch 112 (.leaf (111, .iconst 1, 1)) (.leaf (112, .iadd, 1)))) (.branch 116 (.branch 114 (.leaf (113, .laload, 1)) (.leaf (114, .lstore 8, 2))) (.branch 117 (.leaf (116, .aload_n 0, 1)) (.leaf (117, .getfield 16, 3)))))) (.branch 129 (.branch 124 (.branch 122 (.leaf (120, .bipush 40, 2)) (.branch 123 (.leaf (122, .iload_n 1, 1)) (.leaf (123, .imul, 1)))) (.branch 127 (.branch 125 (.leaf (124, .iconst 3, 1)) (.leaf (125, .iload 5, 2))) (.branch 128 (.leaf (127, .imul, 1)) (.leaf (128, .iadd, 1))))) (.branch 132 (.branch 130 (.leaf (129, .iconst 2, 1)) (.branch 131 (.leaf (130, .iadd, 1)) (.leaf (131, .laload, 1)))) (.branch 136 (.branch 134 (.leaf (132, .lstore 10, 2)) (.leaf (134, .lload 6, 2))) (.branch 138 (.leaf (136, .iload 5, 2)) (.leaf (138, .ifCond .le 22, 3))))))) (.branch 161 (.branch 152 (.branch 147 (.branch 142 (.leaf (141, .aload_n 0, 1)) (.branch 145 (.leaf (142, .getfield 16, 3)) (.leaf (145, .bipush 40, 2)))) (.branch 149 (.branch 148 (.leaf (147, .iload_n 1, 1)) (.leaf (148, .imul, 1))) (.branch 150 (.leaf (149, .iconst 3, 1)) (.leaf (150, .iload 5, 2))))) (.branch 155 (.branch 153 (.leaf (152, .imul, 1)) (.branch 154 (.leaf (153, .iadd, 1)) (.leaf (154, .iconst 3, 1)))) (.branch 157 (.branch 156 (.leaf (155, .isub, 1)) (.leaf (156, .laload, 1))) (.branch 160 (.leaf (157, .goto 4, 3)) (.leaf (160, .lconst 0, 1)))))) (.branch 176 (.branch 167 (.branch 162 (.leaf (161, .lcmp, 1)) (.branch 165 (.leaf (162, .ifCond .lt 52, 3)) (.leaf (165, .lload 6, 2)))) (.branch 171 (.branch 170 (.leaf (167, .ldc2_w 266, 3)) (.leaf (170, .lcmp, 1))) (.branch 174 (.leaf (171, .ifCond .gt 43, 3)) (.leaf (174, .lload 8, 2))))) (.branch 183 (.branch 178 (.branch 177 (.leaf (176, .lconst 0, 1)) (.leaf (177, .lcmp, 1))) (.branch 181 (.leaf (178, .ifCond .lt 36, 3)) (.leaf (181, .lload 8, 2)))) (.branch 187 (.branch 184 (.leaf (183, .aload_n 0, 1)) (.leaf (184, .getfield 66, 3))) (.branch 188 (.leaf (187, .i2l, 1)) (.leaf (188, .lcmp, 1))))))))) (.branch 288 (.branch 239 (.branch 214 (.branch 202 (.branch 195 (.branch 192 (.leaf (189, .ifCond .ge 25, 3)) (.branch 194 (.leaf (192, .lload 10, 2)) (.leaf (194, .lconst 0, 1)))) (.branch 199 (.branch 196 (.leaf (195, .lcmp, 1)) (.leaf (196, .ifCond .lt 18, 3))) (.branch 201 (.leaf (199, .lload 10, 2)) (.leaf (201, .aload_n 0, 1))))) (.branch 208 (.branch 205 (.leaf (202, .getfield 20, 3)) (.branch 207 (.leaf (205, .lload 8, 2)) (.leaf (207, .l2i, 1)))) (.branch 210 (.branch 209 (.leaf (208, .iaload, 1)) (.leaf (209, .i2l, 1))) (.branch 211 (.leaf (210, .lcmp, 1)) (.leaf (211, .ifCond .lt 10, 3)))))) (.branch 228 (.branch 220 (.branch 215 (.leaf (214, .aload_n 0, 1)) (.branch 217 (.leaf (215, .bipush (-2), 2)) (.leaf (217, .invokevirtual 84, 3)))) (.branch 224 (.branch 221 (.leaf (220, .ireturn, 1)) (.leaf (221, .iinc 5 1, 3))) (.branch 227 (.leaf (224, .goto (-148), 3)) (.leaf (227, .aload_n 0, 1))))) (.branch 233 (.branch 229 (.leaf (228, .iload_n 3, 1)) (.branch 230 (.leaf (229, .iconst 0, 1)) (.leaf (230, .invokevirtual 231, 3)))) (.branch 236 (.branch 234 (.leaf (233, .iconst 0, 1)) (.leaf (234, .istore 5, 2))) (.branch 237 (.leaf (236, .iconst 0, 1)) (.leaf (237, .istore 6, 2))))))) (.branch 262 (.branch 251 (.branch 244 (.branch 240 (.leaf (239, .iconst 0, 1)) (.branch 242 (.leaf (240, .istore 7, 2)) (.leaf (242, .iload 7, 2)))) (.branch 248 (.branch 245 (.leaf (244, .iload_n 2, 1)) (.leaf (245, .if_icmp .ge 129, 3))) (.branch 250 (.leaf (248, .iload 5, 2)) (.leaf (250, .i2l, 1))))) (.branch 257 (.branch 252 (.leaf (251, .aload_n 0, 1)) (.branch 255 (.leaf (252, .getfield 16, 3)) (.leaf (255, .bipush 40, 2)))) (.branch 259 (.branch 258 (.leaf (257, .iload_n 1, 1)) (.leaf (258, .imul, 1))) (.branch 260 (.leaf (259, .iconst 3, 1)) (.leaf (260, .iload 7, 2)))))) (.branch 271 (.branch 265 (.branch 263 (.leaf (262, .imul, 1)) (.branch 264 (.leaf (263, .iadd, 1)) (.leaf (264, .laload, 1)))) (.branch 269 (.branch 266 (.leaf (265, .lcmp, 1)) (.leaf (266, .ifCond .ge 14, 3))) (.branch 270 (.leaf (269, .aload_n 0, 1)) (.leaf (270, .iload_n 3, 1))))) (.branch 281 (.branch 277 (.branch 274 (.leaf (271, .invokevirtual 234, 3)) (.leaf (274, .iinc 5 1, 3))) (.branch 280 (.leaf (277, .goto (-29), 3)) (.leaf (280, .aload_n 0, 1)))) (.branch 286 (.branch 284 (.leaf (281, .getfield 16, 3)) (.leaf (284, .bipush 40, 2))) (.branch 287 (.leaf (286, .iload_n 1, 1)) (.leaf (287, .imul, 1)))))))) (.branch 328 (.branch 306 (.branch 296 (.branch 292 (.branch 289 (.leaf (288, .iconst 3, 1)) (.branch 291 (.leaf (289, .iload 7, 2)) (.leaf (291, .imul, 1)))) (.branch 294 (.branch 293 (.leaf (292, .iadd, 1)) (.leaf (293, .iconst 1, 1))) (.branch 295 (.leaf (294, .iadd, 1)) (.leaf (295, .laload, 1))))) (.branch 301 (.branch 297 (.leaf (296, .l2i, 1)) (.branch 298 (.leaf (297, .aload_n 0, 1)) (.leaf (298, .getfield 16, 3)))) (.branch 304 (.branch 303 (.leaf (301, .bipush 40, 2)) (.leaf (303, .iload_n 1, 1))) (.branch 305 (.leaf (304, .imul, 1)) (.leaf (305, .iconst 3, 1)))))) (.branch 314 (.branch 310 (.branch 308 (.leaf (306, .iload 7, 2)) (.branch 309 (.leaf (308, .imul, 1)) (.leaf (309, .iadd, 1)))) (.branch 312 (.branch 311 (.leaf (310, .iconst 2, 1)) (.leaf (311, .iadd, 1))) (.branch 313 (.leaf (312, .laload, 1)) (.leaf (313, .l2i, 1))))) (.branch 321 (.branch 316 (.branch 315 (.leaf (314, .iconst 0, 1)) (.leaf (315, .iconst 0, 1))) (.branch 319 (.leaf (316, .invokestatic 224, 3)) (.leaf (319, .istore 8, 2)))) (.branch 325 (.branch 322 (.leaf (321, .aload_n 0, 1)) (.leaf (322, .getfield 53, 3))) (.branch 327 (.leaf (325, .iload 8, 2)) (.leaf (327, .iaload, 1))))))) (.branch 356 (.branch 340 (.branch 333 (.branch 330 (.leaf (328, .istore 6, 2)) (.branch 331 (.leaf (330, .iconst 0, 1)) (.leaf (331, .istore 9, 2)))) (.branch 336 (.branch 335 (.leaf (333, .iload 9, 2)) (.leaf (335, .aload_n 0, 1))) (.branch 339 (.leaf (336, .getfield 53, 3)) (.leaf (339, .arraylength, 1))))) (.branch 347 (.branch 343 (.leaf (340, .if_icmp .ge 19, 3)) (.branch 344 (.leaf (343, .aload_n 0, 1)) (.leaf (344, .getfield 53, 3)))) (.branch 352 (.branch 349 (.leaf (347, .iload 9, 2)) (.leaf (349, .sipush 10000, 3))) (.branch 353 (.leaf (352, .iastore, 1)) (.leaf (353, .iinc 9 1, 3)))))) (.branch 371 (.branch 363 (.branch 359 (.leaf (356, .goto (-23), 3)) (.branch 360 (.leaf (359, .aload_n 0, 1)) (.leaf (360, .getfield 53, 3)))) (.branch 367 (.branch 365 (.leaf (363, .iload 8, 2)) (.leaf (365, .iload 6, 2))) (.branch 368 (.leaf (367, .iastore, 1)) (.leaf (368, .iinc 7 1, 3))))) (.branch 382 (.branch 376 (.branch 374 (.leaf (371, .goto (-129), 3)) (.leaf (374, .iload 6, 2))) (.branch 379 (.leaf (376, .sipush 10000, 3)) (.leaf (379, .if_icmp .ne 7, 3)))) (.branch 386 (.branch 383 (.leaf (382, .iconst (-1), 1)) (.leaf (383, .goto 5, 3))) (.branch 388 (.leaf (386, .iload 6, 2)) (.leaf (388, .ireturn, 1)))))))))
def mc_219 : am_T := .branch 128 (.branch 58 (.branch 29 (.branch 15 (.branch 6 (.branch 2 (.branch 1 (.leaf (0, .aload_n 0, 1)) (.leaf (1, .iload_n 1, 1))) (.branch 3 (.leaf (2, .iload_n 2, 1)) (.leaf (3, .invokevirtual 102, 3)))) (.branch 10 (.branch 9 (.leaf (6, .ifCond .eq 5, 3)) (.leaf (9, .iconst 1, 1))) (.branch 11 (.leaf (10, .ireturn, 1)) (.branch 12 (.leaf (11, .iload_n 3, 1)) (.leaf (12, .ifCond .ne 5, 3)))))) (.branch 21 (.branch 17 (.branch 16 (.leaf (15, .iconst 0, 1)) (.leaf (16, .ireturn, 1))) (.branch 18 (.leaf (17, .aload_n 0, 1)) (.leaf (18, .getfield 29, 3)))) (.branch 23 (.branch 22 (.leaf (21, .iload_n 1, 1)) (.leaf (22, .iaload, 1))) (.branch 25 (.leaf (23, .istore 4, 2)) (.branch 26 (.leaf (25, .aload_n 0, 1)) (.leaf (26, .getfield 32, 3))))))) (.branch 42 (.branch 34 (.branch 31 (.branch 30 (.leaf (29, .iload_n 1, 1)) (.leaf (30, .iaload, 1))) (.branch 33 (.leaf (31, .istore 5, 2)) (.leaf (33, .aload_n 0, 1)))) (.branch 38 (.branch 37 (.leaf (34, .getfield 35, 3)) (.leaf (37, .iload_n 1, 1))) (.branch 39 (.leaf (38, .iaload, 1)) (.branch 41 (.leaf (39, .istore 6, 2)) (.leaf (41, .aload_n 0, 1)))))) (.branch 50 (.branch 46 (.branch 45 (.leaf (42, .getfield 38, 3)) (.leaf (45, .iload_n 1, 1))) (.branch 47 (.leaf (46, .iaload, 1)) (.branch 49 (.leaf (47, .istore 7, 2)) (.leaf (49, .aload_n 0, 1))))) (.branch 54 (.branch 53 (.leaf (50, .getfield 29, 3)) (.leaf (53, .iload_n 2, 1))) (.branch 55 (.leaf (54, .iaload, 1)) (.branch 57 (.leaf (55, .istore 8, 2)) (.leaf (57, .aload_n 0, 1)))))))) (.branch 89 (.branch 73 (.branch 65 (.branch 62 (.branch 61 (.leaf (58, .getfield 32, 3)) (.leaf (61, .iload_n 2, 1))) (.branch 63 (.leaf (62, .iaload, 1)) (.leaf (63, .istore 9, 2)))) (.branch 69 (.branch 66 (.leaf (65, .aload_n 0, 1)) (.leaf (66, .getfield 35, 3))) (.branch 70 (.leaf (69, .iload_n 2, 1)) (.branch 71 (.leaf (70, .iaload, 1)) (.leaf (71, .istore 10, 2)))))) (.branch 81 (.branch 77 (.branch 74 (.leaf (73, .aload_n 0, 1)) (.leaf (74, .getfield 38, 3))) (.branch 78 (.leaf (77, .iload_n 2, 1)) (.branch 79 (.leaf (78, .iaload, 1)) (.leaf (79, .istore 11, 2))))) (.branch 84 (.branch 82 (.leaf (81, .iconst 0, 1)) (.leaf (82, .istore 12, 2))) (.branch 85 (.leaf (84, .iconst 0, 1)) (.branch 87 (.leaf (85, .istore 13, 2)) (.leaf (87, .iload 13, 2))))))) (.branch 108 (.branch 98 (.branch 93 (.branch 90 (.leaf (89, .iconst 3, 1)) (.leaf (90, .if_icmp .ge 166, 3))) (.branch 95 (.leaf (93, .iload 12, 2)) (.leaf (95, .ifCond .ne 161, 3)))) (.branch 100 (.branch 99 (.leaf (98, .aload_n 0, 1)) (.leaf (99, .iload_n 1, 1))) (.branch 102 (.leaf (100, .iload 13, 2)) (.branch 105 (.leaf (102, .invokevirtual 199, 3)) (.leaf (105, .ifCond .ne 6, 3)))))) (.branch 117 (.branch 112 (.branch 111 (.leaf (108, .goto 142, 3)) (.leaf (111, .iconst 1, 1))) (.branch 114 (.leaf (112, .istore 14, 2)) (.branch 115 (.leaf (114, .iconst 0, 1)) (.leaf (115, .istore 15, 2))))) (.branch 120 (.branch 119 (.leaf (117, .iload 15, 2)) (.leaf (119, .iconst 3, 1))) (.branch 123 (.leaf (120, .if_icmp .ge 126, 3)) (.branch 125 (.leaf (123, .iload 14, 2)) (.leaf (125, .ifCond .eq 121, 3))))))))) (.branch 192 (.branch 162 (.branch 145 (.branch 135 (.branch 130 (.branch 129 (.leaf (128, .aload_n 0, 1)) (.leaf (129, .iload_n 2, 1))) (.branch 132 (.leaf (130, .iload 15, 2)) (.leaf (132, .invokevirtual 199, 3)))) (.branch 141 (.branch 138 (.leaf (135, .ifCond .ne 6, 3)) (.leaf (138, .goto 102, 3))) (.branch 142 (.leaf (141, .aload_n 0, 1)) (.branch 143 (.leaf (142, .iload_n 1, 1)) (.leaf (143, .iload 13, 2)))))) (.branch 155 (.branch 149 (.branch 148 (.leaf (145, .invokevirtual 210, 3)) (.leaf (148, .aload_n 0, 1))) (.branch 150 (.leaf (149, .iload_n 2, 1)) (.branch 152 (.leaf (150, .iload 15, 2)) (.leaf (152, .invokevirtual 210, 3))))) (.branch 157 (.branch 156 (.leaf (155, .aload_n 0, 1)) (.leaf (156, .iload_n 1, 1))) (.branch 160 (.leaf (157, .invokevirtual 213, 3)) (.branch 161 (.leaf (160, .aload_n 0, 1)) (.leaf (161, .iload_n 2, 1))))))) (.branch 176 (.branch 168 (.branch 166 (.branch 165 (.leaf (162, .invokevirtual 213, 3)) (.leaf (165, .aload_n 0, 1))) (.branch 167 (.leaf (166, .iload_n 1, 1)) (.leaf (167, .iload_n 2, 1)))) (.branch 170 (.branch 169 (.leaf (168, .iload_n 3, 1)) (.leaf (169, .iconst 1, 1))) (.branch 171 (.leaf (170, .isub, 1)) (.branch 174 (.leaf (171, .invokevirtual 268, 3)) (.leaf (174, .istore 14, 2)))))) (.branch 184 (.branch 180 (.branch 177 (.leaf (176, .aload_n 0, 1)) (.leaf (177, .getfield 29, 3))) (.branch 181 (.leaf (180, .iload_n 1, 1)) (.branch 183 (.leaf (181, .iload 4, 2)) (.leaf (183, .iastore, 1))))) (.branch 188 (.branch 185 (.leaf (184, .aload_n 0, 1)) (.leaf (185, .getfield 32, 3))) (.branch 189 (.leaf (188, .iload_n 1, 1)) (.branch 191 (.leaf (189, .iload 5, 2)) (.leaf (191, .iastore, 1)))))))) (.branch 223 (.branch 207 (.branch 199 (.branch 196 (.branch 193 (.leaf (192, .aload_n 0, 1)) (.leaf (193, .getfield 35, 3))) (.branch 197 (.leaf (196, .iload_n 1, 1)) (.leaf (197, .iload 6, 2)))) (.branch 201 (.branch 200 (.leaf (199, .iastore, 1)) (.leaf (200, .aload_n 0, 1))) (.branch 204 (.leaf (201, .getfield 38, 3)) (.branch 205 (.leaf (204, .iload_n 1, 1)) (.leaf (205, .iload 7, 2)))))) (.branch 215 (.branch 209 (.branch 208 (.leaf (207, .iastore, 1)) (.leaf (208, .aload_n 0, 1))) (.branch 212 (.leaf (209, .getfield 29, 3)) (.branch 213 (.leaf (212, .iload_n 2, 1)) (.leaf (213, .iload 8, 2))))) (.branch 217 (.branch 216 (.leaf (215, .iastore, 1)) (.leaf (216, .aload_n 0, 1))) (.branch 220 (.leaf (217, .getfield 32, 3)) (.branch 221 (.leaf (220, .iload_n 2, 1)) (.leaf (221, .iload 9, 2))))))) (.branch 237 (.branch 229 (.branch 225 (.branch 224 (.leaf (223, .iastore, 1)) (.leaf (224, .aload_n 0, 1))) (.branch 228 (.leaf (225, .getfield 35, 3)) (.leaf (228, .iload_n 2, 1)))) (.branch 232 (.branch 231 (.leaf (229, .iload 10, 2)) (.leaf (231, .iastore, 1))) (.branch 233 (.leaf (232, .aload_n 0, 1)) (.branch 236 (.leaf (233, .getfield 38, 3)) (.leaf (236, .iload_n 2, 1)))))) (.branch 248 (.branch 240 (.branch 239 (.leaf (237, .iload 11, 2)) (.leaf (239, .iastore, 1))) (.branch 243 (.leaf (240, .iinc 15 1, 3)) (.branch 246 (.leaf (243, .goto (-126), 3)) (.leaf (246, .iload 14, 2))))) (.branch 253 (.branch 250 (.leaf (248, .istore 12, 2)) (.leaf (250, .iinc 13 1, 3))) (.branch 256 (.leaf (253, .goto (-166), 3)) (.branch 258 (.leaf (256, .iload 12, 2)) (.leaf (258, .ireturn, 1)))))))))
def mc_220 : am_T := .branch 21 (.branch 10 (.branch 3 (.branch 1 (.leaf (0, .aload_n 0, 1)) (.branch 2 (.leaf (1, .iload_n 1, 1)) (.leaf (2, .iload_n 2, 1)))) (.branch 6 (.leaf (3, .invokevirtual 202, 3)) (.branch 9 (.leaf (6, .ifCond .eq 12, 3)) (.leaf (9, .iload_n 3, 1))))) (.branch 15 (.branch 11 (.leaf (10, .iconst 0, 1)) (.branch 12 (.leaf (11, .iconst 5, 1)) (.leaf (12, .invokestatic 76, 3)))) (.branch 18 (.leaf (15, .ifCond .ne 10, 3)) (.branch 19 (.leaf (18, .aload_n 0, 1)) (.leaf (19, .bipush (-2), 2)))))) (.branch 29 (.branch 26 (.branch 24 (.leaf (21, .invokevirtual 84, 3)) (.branch 25 (.leaf (24, .ireturn, 1)) (.leaf (25, .aload_n 0, 1)))) (.branch 27 (.leaf (26, .iload_n 1, 1)) (.branch 28 (.leaf (27, .iload_n 2, 1)) (.leaf (28, .iload_n 3, 1))))) (.branch 36 (.branch 32 (.leaf (29, .invokevirtual 268, 3)) (.branch 35 (.leaf (32, .ifCond .eq 7, 3)) (.leaf (35, .iconst 1, 1)))) (.branch 39 (.leaf (36, .goto 4, 3)) (.branch 40 (.leaf (39, .iconst 0, 1)) (.leaf (40, .ireturn, 1))))))
def mc_221 : am_T := .branch 66 (.branch 30 (.branch 12 (.branch 6 (.branch 4 (.branch 1 (.leaf (0, .aload_n 0, 1)) (.leaf (1, .getfield 271, 3))) (.branch 5 (.leaf (4, .istore_n 2, 1)) (.leaf (5, .iconst 0, 1)))) (.branch 8 (.branch 7 (.leaf (6, .istore_n 3, 1)) (.leaf (7, .iload_n 3, 1))) (.branch 9 (.leaf (8, .iload_n 1, 1)) (.leaf (9, .if_icmp .ge 110, 3))))) (.branch 18 (.branch 15 (.branch 13 (.leaf (12, .iconst 0, 1)) (.leaf (13, .istore 4, 2))) (.branch 17 (.leaf (15, .iload 4, 2)) (.leaf (17, .aload_n 0, 1)))) (.branch 24 (.branch 21 (.leaf (18, .getfield 73, 3)) (.leaf (21, .if_icmp .ge 15, 3))) (.branch 25 (.leaf (24, .aload_n 0, 1)) (.branch 27 (.leaf (25, .iload 4, 2)) (.leaf (27, .invokevirtual 213, 3))))))) (.branch 49 (.branch 39 (.branch 36 (.branch 33 (.leaf (30, .iinc 4 1, 3)) (.leaf (33, .goto (-18), 3))) (.branch 37 (.leaf (36, .iconst 0, 1)) (.leaf (37, .istore 4, 2)))) (.branch 42 (.branch 41 (.leaf (39, .iload 4, 2)) (.leaf (41, .aload_n 0, 1))) (.branch 45 (.leaf (42, .getfield 73, 3)) (.branch 48 (.leaf (45, .if_icmp .ge 68, 3)) (.leaf (48, .iconst 0, 1)))))) (.branch 58 (.branch 53 (.branch 51 (.leaf (49, .istore 5, 2)) (.leaf (51, .iload 5, 2))) (.branch 55 (.leaf (53, .iload 4, 2)) (.leaf (55, .if_icmp .ge 52, 3)))) (.branch 62 (.branch 59 (.leaf (58, .aload_n 0, 1)) (.leaf (59, .getfield 26, 3))) (.branch 64 (.leaf (62, .iload 4, 2)) (.branch 65 (.leaf (64, .iaload, 1)) (.leaf (65, .iconst 3, 1)))))))) (.branch 98 (.branch 81 (.branch 75 (.branch 70 (.branch 69 (.leaf (66, .if_icmp .eq 14, 3)) (.leaf (69, .aload_n 0, 1))) (.branch 73 (.leaf (70, .getfield 26, 3)) (.leaf (73, .iload 5, 2)))) (.branch 77 (.branch 76 (.leaf (75, .iaload, 1)) (.leaf (76, .iconst 3, 1))) (.branch 80 (.leaf (77, .if_icmp .ne 24, 3)) (.leaf (80, .aload_n 0, 1))))) (.branch 91 (.branch 85 (.branch 83 (.leaf (81, .iload 4, 2)) (.leaf (83, .iload 5, 2))) (.branch 88 (.leaf (85, .invokevirtual 102, 3)) (.leaf (88, .ifCond .eq 13, 3)))) (.branch 93 (.branch 92 (.leaf (91, .aload_n 0, 1)) (.leaf (92, .dup, 1))) (.branch 96 (.leaf (93, .getfield 271, 3)) (.branch 97 (.leaf (96, .iconst 1, 1)) (.leaf (97, .iadd, 1))))))) (.branch 121 (.branch 110 (.branch 104 (.branch 101 (.leaf (98, .putfield 271, 3)) (.leaf (101, .iinc 5 1, 3))) (.branch 107 (.leaf (104, .goto (-53), 3)) (.leaf (107, .iinc 4 1, 3)))) (.branch 116 (.branch 113 (.leaf (110, .goto (-71), 3)) (.leaf (113, .iinc 3 1, 3))) (.branch 119 (.leaf (116, .goto (-109), 3)) (.branch 120 (.leaf (119, .aload_n 0, 1)) (.leaf (120, .dup, 1)))))) (.branch 129 (.branch 125 (.branch 124 (.leaf (121, .getfield 274, 3)) (.leaf (124, .iload_n 1, 1))) (.branch 126 (.leaf (125, .iadd, 1)) (.leaf (126, .putfield 274, 3)))) (.branch 133 (.branch 130 (.leaf (129, .aload_n 0, 1)) (.leaf (130, .getfield 271, 3))) (.branch 134 (.leaf (133, .iload_n 2, 1)) (.branch 135 (.leaf (134, .isub, 1)) (.leaf (135, .ireturn, 1))))))))
def mc_222 : am_T := .branch 11 (.branch 4 (.branch 1 (.leaf (0, .iload_n 1, 1)) (.branch 2 (.leaf (1, .iconst 1, 1)) (.leaf (2, .bipush 60, 2)))) (.branch 7 (.leaf (4, .invokestatic 76, 3)) (.branch 10 (.leaf (7, .ifCond .eq 11, 3)) (.leaf (10, .aload_n 0, 1))))) (.branch 18 (.branch 12 (.leaf (11, .iload_n 1, 1)) (.branch 15 (.leaf (12, .invokevirtual 160, 3)) (.leaf (15, .goto 9, 3)))) (.branch 21 (.branch 19 (.leaf (18, .aload_n 0, 1)) (.leaf (19, .bipush (-2), 2))) (.branch 24 (.leaf (21, .invokevirtual 84, 3)) (.leaf (24, .ireturn, 1)))))
def mc_223 : am_T := .branch 27 (.branch 14 (.branch 8 (.branch 2 (.branch 1 (.leaf (0, .aload_n 0, 1)) (.leaf (1, .iload_n 1, 1))) (.branch 5 (.leaf (2, .invokevirtual 80, 3)) (.leaf (5, .ifCond .eq 12, 3)))) (.branch 10 (.branch 9 (.leaf (8, .iload_n 2, 1)) (.leaf (9, .iconst 1, 1))) (.branch 11 (.leaf (10, .iconst 2, 1)) (.leaf (11, .invokestatic 76, 3))))) (.branch 23 (.branch 18 (.branch 17 (.leaf (14, .ifCond .ne 10, 3)) (.leaf (17, .aload_n 0, 1))) (.branch 20 (.leaf (18, .bipush (-2), 2)) (.leaf (20, .invokevirtual 84, 3)))) (.branch 25 (.branch 24 (.leaf (23, .ireturn, 1)) (.leaf (24, .aload_n 0, 1))) (.branch 26 (.leaf (25, .iload_n 1, 1)) (.leaf (26, .iload_n 2, 1)))))) (.branch 42 (.branch 36 (.branch 33 (.branch 30 (.leaf (27, .invokevirtual 199, 3)) (.leaf (30, .ifCond .ne 10, 3))) (.branch 34 (.leaf (33, .aload_n 0, 1)) (.leaf (34, .bipush (-5), 2)))) (.branch 40 (.branch 39 (.leaf (36, .invokevirtual 84, 3)) (.leaf (39, .ireturn, 1))) (.branch 41 (.leaf (40, .aload_n 0, 1)) (.leaf (41, .iload_n 1, 1))))) (.branch 48 (.branch 46 (.branch 43 (.leaf (42, .iload_n 2, 1)) (.leaf (43, .invokevirtual 185, 3))) (.branch 47 (.leaf (46, .istore_n 3, 1)) (.leaf (47, .aload_n 0, 1)))) (.branch 50 (.branch 49 (.leaf (48, .iload_n 1, 1)) (.leaf (49, .iload_n 2, 1))) (.branch 53 (.leaf (50, .invokevirtual 210, 3)) (.branch 54 (.leaf (53, .iload_n 3, 1)) (.leaf (54, .ireturn, 1)))))))
def mc_224 : am_T := .branch 56 (.branch 30 (.branch 13 (.branch 6 (.branch 2 (.branch 1 (.leaf (0, .aload_n 0, 1)) (.leaf (1, .iload_n 1, 1))) (.branch 3 (.leaf (2, .iload_n 2, 1)) (.leaf (3, .invokevirtual 202, 3)))) (.branch 10 (.branch 9 (.leaf (6, .ifCond .eq 13, 3)) (.leaf (9, .iload_n 3, 1))) (.branch 11 (.leaf (10, .iconst 1, 1)) (.leaf (11, .bipush 99, 2))))) (.branch 22 (.branch 19 (.branch 16 (.leaf (13, .invokestatic 76, 3)) (.leaf (16, .ifCond .ne 10, 3))) (.branch 20 (.leaf (19, .aload_n 0, 1)) (.leaf (20, .bipush (-2), 2)))) (.branch 26 (.branch 25 (.leaf (22, .invokevirtual 84, 3)) (.leaf (25, .ireturn, 1))) (.branch 27 (.leaf (26, .aload_n 0, 1)) (.leaf (27, .getfield 26, 3)))))) (.branch 42 (.branch 36 (.branch 32 (.branch 31 (.leaf (30, .iload_n 1, 1)) (.leaf (31, .iaload, 1))) (.branch 33 (.leaf (32, .iconst 5, 1)) (.leaf (33, .if_icmp .ne 35, 3)))) (.branch 38 (.branch 37 (.leaf (36, .aload_n 0, 1)) (.leaf (37, .iload_n 1, 1))) (.branch 39 (.leaf (38, .iload_n 2, 1)) (.leaf (39, .invokevirtual 102, 3))))) (.branch 50 (.branch 46 (.branch 45 (.leaf (42, .ifCond .eq 26, 3)) (.leaf (45, .aload_n 0, 1))) (.branch 49 (.leaf (46, .getfield 35, 3)) (.leaf (49, .iload_n 1, 1)))) (.branch 52 (.branch 51 (.leaf (50, .iaload, 1)) (.leaf (51, .iload_n 3, 1))) (.branch 55 (.leaf (52, .if_icmp .lt 16, 3)) (.leaf (55, .aload_n 0, 1))))))) (.branch 82 (.branch 69 (.branch 62 (.branch 60 (.branch 59 (.leaf (56, .getfield 35, 3)) (.leaf (59, .iload_n 2, 1))) (.branch 61 (.leaf (60, .iaload, 1)) (.leaf (61, .iload_n 3, 1)))) (.branch 65 (.branch 63 (.leaf (62, .iadd, 1)) (.leaf (63, .bipush 99, 2))) (.branch 68 (.leaf (65, .if_icmp .le 10, 3)) (.leaf (68, .aload_n 0, 1))))) (.branch 76 (.branch 74 (.branch 71 (.leaf (69, .bipush (-5), 2)) (.leaf (71, .invokevirtual 84, 3))) (.branch 75 (.leaf (74, .ireturn, 1)) (.leaf (75, .aload_n 0, 1)))) (.branch 80 (.branch 79 (.leaf (76, .getfield 35, 3)) (.leaf (79, .iload_n 1, 1))) (.branch 81 (.leaf (80, .dup2, 1)) (.leaf (81, .iaload, 1)))))) (.branch 92 (.branch 86 (.branch 84 (.branch 83 (.leaf (82, .iload_n 3, 1)) (.leaf (83, .isub, 1))) (.branch 85 (.leaf (84, .iastore, 1)) (.leaf (85, .aload_n 0, 1)))) (.branch 90 (.branch 89 (.leaf (86, .getfield 35, 3)) (.leaf (89, .iload_n 2, 1))) (.branch 91 (.leaf (90, .dup2, 1)) (.leaf (91, .iaload, 1))))) (.branch 96 (.branch 94 (.branch 93 (.leaf (92, .iload_n 3, 1)) (.leaf (93, .iadd, 1))) (.branch 95 (.leaf (94, .iastore, 1)) (.leaf (95, .aload_n 0, 1)))) (.branch 100 (.branch 99 (.leaf (96, .getfield 35, 3)) (.leaf (99, .iload_n 2, 1))) (.branch 101 (.leaf (100, .iaload, 1)) (.leaf (101, .ireturn, 1)))))))
def mc_225 : am_T := .branch 89 (.branch 42 (.branch 21 (.branch 10 (.branch 3 (.branch 1 (.leaf (0, .aload_n 0, 1)) (.branch 2 (.leaf (1, .iload_n 1, 1)) (.leaf (2, .iload_n 2, 1)))) (.branch 6 (.leaf (3, .invokevirtual 202, 3)) (.branch 9 (.leaf (6, .ifCond .eq 12, 3)) (.leaf (9, .iload_n 3, 1))))) (.branch 15 (.branch 11 (.leaf (10, .iconst 1, 1)) (.branch 12 (.leaf (11, .iconst 2, 1)) (.leaf (12, .invokestatic 76, 3)))) (.branch 18 (.leaf (15, .ifCond .ne 10, 3)) (.branch 19 (.leaf (18, .aload_n 0, 1)) (.leaf (19, .bipush (-2), 2)))))) (.branch 31 (.branch 26 (.branch 24 (.leaf (21, .invokevirtual 84, 3)) (.branch 25 (.leaf (24, .ireturn, 1)) (.leaf (25, .aload_n 0, 1)))) (.branch 29 (.leaf (26, .getfield 26, 3)) (.branch 30 (.leaf (29, .iload_n 2, 1)) (.leaf (30, .iaload, 1))))) (.branch 36 (.branch 32 (.leaf (31, .iconst 2, 1)) (.branch 35 (.leaf (32, .if_icmp .eq 13, 3)) (.leaf (35, .aload_n 0, 1)))) (.branch 40 (.branch 39 (.leaf (36, .getfield 26, 3)) (.leaf (39, .iload_n 2, 1))) (.branch 41 (.leaf (40, .iaload, 1)) (.leaf (41, .iconst 3, 1))))))) (.branch 63 (.branch 53 (.branch 49 (.branch 45 (.leaf (42, .if_icmp .ne 7, 3)) (.branch 46 (.leaf (45, .iconst 1, 1)) (.leaf (46, .goto 4, 3)))) (.branch 50 (.leaf (49, .iconst 0, 1)) (.branch 52 (.leaf (50, .istore 4, 2)) (.leaf (52, .aload_n 0, 1))))) (.branch 58 (.branch 56 (.leaf (53, .getfield 26, 3)) (.branch 57 (.leaf (56, .iload_n 1, 1)) (.leaf (57, .iaload, 1)))) (.branch 59 (.leaf (58, .iconst 2, 1)) (.branch 62 (.leaf (59, .if_icmp .eq 17, 3)) (.leaf (62, .aload_n 0, 1)))))) (.branch 73 (.branch 68 (.branch 66 (.leaf (63, .getfield 26, 3)) (.branch 67 (.leaf (66, .iload_n 1, 1)) (.leaf (67, .iaload, 1)))) (.branch 69 (.leaf (68, .iconst 3, 1)) (.branch 72 (.leaf (69, .if_icmp .eq 7, 3)) (.leaf (72, .iconst 1, 1))))) (.branch 79 (.branch 76 (.leaf (73, .goto 4, 3)) (.branch 77 (.leaf (76, .iconst 0, 1)) (.leaf (77, .istore 5, 2)))) (.branch 84 (.branch 81 (.leaf (79, .iload 4, 2)) (.leaf (81, .ifCond .eq 57, 3))) (.branch 86 (.leaf (84, .iload 5, 2)) (.leaf (86, .ifCond .eq 52, 3)))))))) (.branch 130 (.branch 109 (.branch 99 (.branch 92 (.branch 90 (.leaf (89, .aload_n 0, 1)) (.branch 91 (.leaf (90, .iload_n 1, 1)) (.leaf (91, .iload_n 2, 1)))) (.branch 95 (.leaf (92, .invokevirtual 102, 3)) (.branch 98 (.leaf (95, .ifCond .eq 43, 3)) (.leaf (98, .aload_n 0, 1))))) (.branch 104 (.branch 102 (.leaf (99, .getfield 35, 3)) (.branch 103 (.leaf (102, .iload_n 1, 1)) (.leaf (103, .iaload, 1)))) (.branch 107 (.leaf (104, .ifCond .eq 34, 3)) (.branch 108 (.leaf (107, .aload_n 0, 1)) (.leaf (108, .iload_n 3, 1)))))) (.branch 119 (.branch 114 (.branch 110 (.leaf (109, .iconst 1, 1)) (.branch 113 (.leaf (110, .if_icmp .ne 14, 3)) (.leaf (113, .aload_n 0, 1)))) (.branch 117 (.leaf (114, .getfield 29, 3)) (.branch 118 (.leaf (117, .iload_n 2, 1)) (.leaf (118, .iaload, 1))))) (.branch 124 (.branch 120 (.leaf (119, .iconst 1, 1)) (.branch 121 (.leaf (120, .iadd, 1)) (.leaf (121, .goto 11, 3)))) (.branch 128 (.branch 125 (.leaf (124, .aload_n 0, 1)) (.leaf (125, .getfield 29, 3))) (.branch 129 (.leaf (128, .iload_n 2, 1)) (.leaf (129, .iaload, 1))))))) (.branch 151 (.branch 141 (.branch 135 (.branch 131 (.leaf (130, .iconst 1, 1)) (.branch 132 (.leaf (131, .isub, 1)) (.leaf (132, .invokevirtual 105, 3)))) (.branch 138 (.leaf (135, .ifCond .ne 10, 3)) (.branch 139 (.leaf (138, .aload_n 0, 1)) (.leaf (139, .bipush (-5), 2))))) (.branch 146 (.branch 144 (.leaf (141, .invokevirtual 84, 3)) (.branch 145 (.leaf (144, .ireturn, 1)) (.leaf (145, .aload_n 0, 1)))) (.branch 149 (.leaf (146, .getfield 35, 3)) (.branch 150 (.leaf (149, .iload_n 1, 1)) (.leaf (150, .dup2, 1)))))) (.branch 157 (.branch 154 (.branch 152 (.leaf (151, .iaload, 1)) (.branch 153 (.leaf (152, .iconst 1, 1)) (.leaf (153, .isub, 1)))) (.branch 155 (.leaf (154, .iastore, 1)) (.branch 156 (.leaf (155, .aload_n 0, 1)) (.leaf (156, .iload_n 2, 1))))) (.branch 162 (.branch 158 (.leaf (157, .iload_n 3, 1)) (.branch 161 (.leaf (158, .invokevirtual 195, 3)) (.leaf (161, .aload_n 0, 1)))) (.branch 166 (.branch 165 (.leaf (162, .getfield 38, 3)) (.leaf (165, .iload_n 2, 1))) (.branch 167 (.leaf (166, .iaload, 1)) (.leaf (167, .ireturn, 1))))))))
def mc_226 : am_T := .branch 13 (.branch 5 (.branch 1 (.leaf (0, .aload_n 0, 1)) (.branch 2 (.leaf (1, .aload_n 0, 1)) (.leaf (2, .getfield 70, 3)))) (.branch 9 (.branch 8 (.leaf (5, .ldc_w 277, 3)) (.leaf (8, .imul, 1))) (.branch 12 (.leaf (9, .sipush 12345, 3)) (.leaf (12, .iadd, 1))))) (.branch 22 (.branch 17 (.branch 16 (.leaf (13, .putfield 70, 3)) (.leaf (16, .aload_n 0, 1))) (.branch 20 (.leaf (17, .getfield 70, 3)) (.leaf (20, .bipush 16, 2)))) (.branch 24 (.branch 23 (.leaf (22, .iushr, 1)) (.leaf (23, .iload_n 1, 1))) (.branch 25 (.leaf (24, .irem, 1)) (.leaf (25, .ireturn, 1)))))
def mc_227 : am_T := .branch 34 (.branch 17 (.branch 7 (.branch 2 (.branch 1 (.leaf (0, .iload_n 1, 1)) (.leaf (1, .iconst 1, 1))) (.branch 4 (.leaf (2, .bipush 6, 2)) (.leaf (4, .invokestatic 76, 3)))) (.branch 11 (.branch 10 (.leaf (7, .ifCond .ne 10, 3)) (.leaf (10, .aload_n 0, 1))) (.branch 13 (.leaf (11, .bipush (-2), 2)) (.branch 16 (.leaf (13, .invokevirtual 84, 3)) (.leaf (16, .ireturn, 1)))))) (.branch 24 (.branch 19 (.branch 18 (.leaf (17, .iconst 0, 1)) (.leaf (18, .istore_n 2, 1))) (.branch 20 (.leaf (19, .iload_n 2, 1)) (.branch 21 (.leaf (20, .iload_n 1, 1)) (.leaf (21, .if_icmp .ge 45, 3))))) (.branch 28 (.branch 25 (.leaf (24, .aload_n 0, 1)) (.leaf (25, .getfield 73, 3))) (.branch 30 (.leaf (28, .bipush 6, 2)) (.branch 33 (.leaf (30, .if_icmp .ge 36, 3)) (.leaf (33, .aload_n 0, 1))))))) (.branch 50 (.branch 43 (.branch 38 (.branch 35 (.leaf (34, .aload_n 0, 1)) (.leaf (35, .getfield 66, 3))) (.branch 41 (.leaf (38, .invokevirtual 278, 3)) (.branch 42 (.leaf (41, .istore_n 3, 1)) (.leaf (42, .aload_n 0, 1))))) (.branch 45 (.branch 44 (.leaf (43, .iconst 3, 1)) (.leaf (44, .iload_n 3, 1))) (.branch 46 (.leaf (45, .aload_n 0, 1)) (.branch 47 (.leaf (46, .aload_n 0, 1)) (.leaf (47, .getfield 20, 3)))))) (.branch 59 (.branch 52 (.branch 51 (.leaf (50, .iload_n 3, 1)) (.leaf (51, .iaload, 1))) (.branch 55 (.leaf (52, .invokevirtual 278, 3)) (.branch 56 (.leaf (55, .iconst 0, 1)) (.leaf (56, .invokevirtual 111, 3))))) (.branch 63 (.branch 60 (.leaf (59, .pop, 1)) (.leaf (60, .iinc 2 1, 3))) (.branch 66 (.leaf (63, .goto (-44), 3)) (.branch 67 (.leaf (66, .iload_n 2, 1)) (.leaf (67, .ireturn, 1)))))))
def mc_228 : am_T := .branch 6 (.branch 4 (.branch 1 (.leaf (0, .aload_n 0, 1)) (.leaf (1, .getfield 70, 3))) (.branch 5 (.leaf (4, .istore_n 2, 1)) (.leaf (5, .aload_n 0, 1)))) (.branch 10 (.branch 7 (.leaf (6, .iload_n 1, 1)) (.leaf (7, .putfield 70, 3))) (.branch 11 (.leaf (10, .iload_n 2, 1)) (.leaf (11, .ireturn, 1))))
def mc_229 : am_T := .branch 64 (.branch 32 (.branch 16 (.branch 8 (.branch 2 (.branch 1 (.leaf (0, .iconst 0, 1)) (.leaf (1, .istore_n 2, 1))) (.branch 3 (.leaf (2, .iload_n 2, 1)) (.branch 5 (.leaf (3, .bipush 6, 2)) (.leaf (5, .if_icmp .ge 90, 3))))) (.branch 11 (.branch 9 (.leaf (8, .aload_n 1, 1)) (.branch 10 (.leaf (9, .iload_n 2, 1)) (.leaf (10, .aload_n 0, 1)))) (.branch 14 (.leaf (11, .getfield 20, 3)) (.branch 15 (.leaf (14, .iload_n 2, 1)) (.leaf (15, .iaload, 1)))))) (.branch 23 (.branch 20 (.branch 17 (.leaf (16, .iastore, 1)) (.branch 18 (.leaf (17, .aload_n 1, 1)) (.leaf (18, .bipush 6, 2)))) (.branch 21 (.leaf (20, .iload_n 2, 1)) (.branch 22 (.leaf (21, .iadd, 1)) (.leaf (22, .aload_n 0, 1))))) (.branch 28 (.branch 26 (.leaf (23, .getfield 23, 3)) (.branch 27 (.leaf (26, .iload_n 2, 1)) (.leaf (27, .iaload, 1)))) (.branch 29 (.leaf (28, .iastore, 1)) (.branch 30 (.leaf (29, .aload_n 1, 1)) (.leaf (30, .bipush 12, 2))))))) (.branch 47 (.branch 40 (.branch 35 (.branch 33 (.leaf (32, .iload_n 2, 1)) (.branch 34 (.leaf (33, .iadd, 1)) (.leaf (34, .aload_n 0, 1)))) (.branch 38 (.leaf (35, .getfield 26, 3)) (.branch 39 (.leaf (38, .iload_n 2, 1)) (.leaf (39, .iaload, 1))))) (.branch 44 (.branch 41 (.leaf (40, .iastore, 1)) (.branch 42 (.leaf (41, .aload_n 1, 1)) (.leaf (42, .bipush 18, 2)))) (.branch 45 (.leaf (44, .iload_n 2, 1)) (.branch 46 (.leaf (45, .iadd, 1)) (.leaf (46, .aload_n 0, 1)))))) (.branch 56 (.branch 52 (.branch 50 (.leaf (47, .getfield 29, 3)) (.branch 51 (.leaf (50, .iload_n 2, 1)) (.leaf (51, .iaload, 1)))) (.branch 53 (.leaf (52, .iastore, 1)) (.branch 54 (.leaf (53, .aload_n 1, 1)) (.leaf (54, .bipush 24, 2))))) (.branch 59 (.branch 57 (.leaf (56, .iload_n 2, 1)) (.branch 58 (.leaf (57, .iadd, 1)) (.leaf (58, .aload_n 0, 1)))) (.branch 62 (.leaf (59, .getfield 32, 3)) (.branch 63 (.leaf (62, .iload_n 2, 1)) (.leaf (63, .iaload, 1)))))))) (.branch 98 (.branch 78 (.branch 70 (.branch 66 (.branch 65 (.leaf (64, .iastore, 1)) (.leaf (65, .aload_n 1, 1))) (.branch 68 (.leaf (66, .bipush 30, 2)) (.branch 69 (.leaf (68, .iload_n 2, 1)) (.leaf (69, .iadd, 1))))) (.branch 75 (.branch 71 (.leaf (70, .aload_n 0, 1)) (.branch 74 (.leaf (71, .getfield 35, 3)) (.leaf (74, .iload_n 2, 1)))) (.branch 76 (.leaf (75, .iaload, 1)) (.branch 77 (.leaf (76, .iastore, 1)) (.leaf (77, .aload_n 1, 1)))))) (.branch 87 (.branch 82 (.branch 80 (.leaf (78, .bipush 36, 2)) (.branch 81 (.leaf (80, .iload_n 2, 1)) (.leaf (81, .iadd, 1)))) (.branch 83 (.leaf (82, .aload_n 0, 1)) (.branch 86 (.leaf (83, .getfield 38, 3)) (.leaf (86, .iload_n 2, 1))))) (.branch 92 (.branch 88 (.leaf (87, .iaload, 1)) (.branch 89 (.leaf (88, .iastore, 1)) (.leaf (89, .iinc 2 1, 3)))) (.branch 95 (.leaf (92, .goto (-90), 3)) (.branch 96 (.leaf (95, .aload_n 1, 1)) (.leaf (96, .bipush 42, 2))))))) (.branch 118 (.branch 107 (.branch 103 (.branch 99 (.leaf (98, .aload_n 0, 1)) (.branch 102 (.leaf (99, .getfield 66, 3)) (.leaf (102, .iastore, 1)))) (.branch 104 (.leaf (103, .aload_n 1, 1)) (.branch 106 (.leaf (104, .bipush 43, 2)) (.leaf (106, .aload_n 0, 1))))) (.branch 112 (.branch 110 (.leaf (107, .getfield 73, 3)) (.branch 111 (.leaf (110, .iastore, 1)) (.leaf (111, .aload_n 1, 1)))) (.branch 114 (.leaf (112, .bipush 44, 2)) (.branch 115 (.leaf (114, .aload_n 0, 1)) (.leaf (115, .getfield 274, 3)))))) (.branch 127 (.branch 122 (.branch 119 (.leaf (118, .iastore, 1)) (.branch 120 (.leaf (119, .aload_n 1, 1)) (.leaf (120, .bipush 45, 2)))) (.branch 123 (.leaf (122, .aload_n 0, 1)) (.branch 126 (.leaf (123, .getfield 271, 3)) (.leaf (126, .iastore, 1))))) (.branch 131 (.branch 128 (.leaf (127, .aload_n 1, 1)) (.branch 130 (.leaf (128, .bipush 46, 2)) (.leaf (130, .aload_n 0, 1)))) (.branch 134 (.leaf (131, .getfield 70, 3)) (.branch 135 (.leaf (134, .iastore, 1)) (.leaf (135, .return_, 1))))))))
def mc_230 : am_T := .branch 64 (.branch 33 (.branch 16 (.branch 8 (.branch 2 (.branch 1 (.leaf (0, .iconst 0, 1)) (.leaf (1, .istore_n 2, 1))) (.branch 3 (.leaf (2, .iload_n 2, 1)) (.branch 5 (.leaf (3, .bipush 6, 2)) (.leaf (5, .if_icmp .ge 90, 3))))) (.branch 13 (.branch 9 (.leaf (8, .aload_n 0, 1)) (.branch 12 (.leaf (9, .getfield 20, 3)) (.leaf (12, .iload_n 2, 1)))) (.branch 14 (.leaf (13, .aload_n 1, 1)) (.branch 15 (.leaf (14, .iload_n 2, 1)) (.leaf (15, .iaload, 1)))))) (.branch 25 (.branch 21 (.branch 17 (.leaf (16, .iastore, 1)) (.branch 18 (.leaf (17, .aload_n 0, 1)) (.leaf (18, .getfield 23, 3)))) (.branch 22 (.leaf (21, .iload_n 2, 1)) (.branch 23 (.leaf (22, .aload_n 1, 1)) (.leaf (23, .bipush 6, 2))))) (.branch 28 (.branch 26 (.leaf (25, .iload_n 2, 1)) (.branch 27 (.leaf (26, .iadd, 1)) (.leaf (27, .iaload, 1)))) (.branch 29 (.leaf (28, .iastore, 1)) (.branch 30 (.leaf (29, .aload_n 0, 1)) (.leaf (30, .getfield 26, 3))))))) (.branch 49 (.branch 40 (.branch 37 (.branch 34 (.leaf (33, .iload_n 2, 1)) (.branch 35 (.leaf (34, .aload_n 1, 1)) (.leaf (35, .bipush 12, 2)))) (.branch 38 (.leaf (37, .iload_n 2, 1)) (.branch 39 (.leaf (38, .iadd, 1)) (.leaf (39, .iaload, 1))))) (.branch 45 (.branch 41 (.leaf (40, .iastore, 1)) (.branch 42 (.leaf (41, .aload_n 0, 1)) (.leaf (42, .getfield 29, 3)))) (.branch 46 (.leaf (45, .iload_n 2, 1)) (.branch 47 (.leaf (46, .aload_n 1, 1)) (.leaf (47, .bipush 18, 2)))))) (.branch 57 (.branch 52 (.branch 50 (.leaf (49, .iload_n 2, 1)) (.branch 51 (.leaf (50, .iadd, 1)) (.leaf (51, .iaload, 1)))) (.branch 53 (.leaf (52, .iastore, 1)) (.branch 54 (.leaf (53, .aload_n 0, 1)) (.leaf (54, .getfield 32, 3))))) (.branch 61 (.branch 58 (.leaf (57, .iload_n 2, 1)) (.branch 59 (.leaf (58, .aload_n 1, 1)) (.leaf (59, .bipush 24, 2)))) (.branch 62 (.leaf (61, .iload_n 2, 1)) (.branch 63 (.leaf (62, .iadd, 1)) (.leaf (63, .iaload, 1)))))))) (.branch 97 (.branch 78 (.branch 71 (.branch 66 (.branch 65 (.leaf (64, .iastore, 1)) (.leaf (65, .aload_n 0, 1))) (.branch 69 (.leaf (66, .getfield 35, 3)) (.branch 70 (.leaf (69, .iload_n 2, 1)) (.leaf (70, .aload_n 1, 1))))) (.branch 75 (.branch 73 (.leaf (71, .bipush 30, 2)) (.branch 74 (.leaf (73, .iload_n 2, 1)) (.leaf (74, .iadd, 1)))) (.branch 76 (.leaf (75, .iaload, 1)) (.branch 77 (.leaf (76, .iastore, 1)) (.leaf (77, .aload_n 0, 1)))))) (.branch 87 (.branch 83 (.branch 81 (.leaf (78, .getfield 38, 3)) (.branch 82 (.leaf (81, .iload_n 2, 1)) (.leaf (82, .aload_n 1, 1)))) (.branch 85 (.leaf (83, .bipush 36, 2)) (.branch 86 (.leaf (85, .iload_n 2, 1)) (.leaf (86, .iadd, 1))))) (.branch 92 (.branch 88 (.leaf (87, .iaload, 1)) (.branch 89 (.leaf (88, .iastore, 1)) (.leaf (89, .iinc 2 1, 3)))) (.branch 95 (.leaf (92, .goto (-90), 3)) (.branch 96 (.leaf (95, .aload_n 0, 1)) (.leaf (96, .aload_n 1, 1))))))) (.branch 116 (.branch 107 (.branch 103 (.branch 99 (.leaf (97, .bipush 42, 2)) (.branch 100 (.leaf (99, .iaload, 1)) (.leaf (100, .putfield 66, 3)))) (.branch 104 (.leaf (103, .aload_n 0, 1)) (.branch 105 (.leaf (104, .aload_n 1, 1)) (.leaf (105, .bipush 43, 2))))) (.branch 112 (.branch 108 (.leaf (107, .iaload, 1)) (.branch 111 (.leaf (108, .putfield 73, 3)) (.leaf (111, .aload_n 0, 1)))) (.branch 113 (.leaf (112, .aload_n 1, 1)) (.branch 115 (.leaf (113, .bipush 44, 2)) (.leaf (115, .iaload, 1)))))) (.branch 127 (.branch 121 (.branch 119 (.leaf (116, .putfield 274, 3)) (.branch 120 (.leaf (119, .aload_n 0, 1)) (.leaf (120, .aload_n 1, 1)))) (.branch 123 (.leaf (121, .bipush 45, 2)) (.branch 124 (.leaf (123, .iaload, 1)) (.leaf (124, .putfield 271, 3))))) (.branch 131 (.branch 128 (.leaf (127, .aload_n 0, 1)) (.branch 129 (.leaf (128, .aload_n 1, 1)) (.leaf (129, .bipush 46, 2)))) (.branch 132 (.leaf (131, .iaload, 1)) (.branch 135 (.leaf (132, .putfield 70, 3)) (.leaf (135, .return_, 1))))))))
def mc_231 : am_T := .branch 6 (.branch 2 (.branch 1 (.leaf (0, .aload_n 0, 1)) (.leaf (1, .iconst 1, 1))) (.branch 5 (.leaf (2, .putfield 281, 3)) (.leaf (5, .aload_n 0, 1)))) (.branch 10 (.branch 7 (.leaf (6, .aload_n 0, 1)) (.leaf (7, .getfield 47, 3))) (.branch 13 (.leaf (10, .invokevirtual 166, 3)) (.branch 14 (.leaf (13, .iconst 1, 1)) (.leaf (14, .ireturn, 1)))))
def mc_232 : am_T := .branch 31 (.branch 15 (.branch 8 (.branch 4 (.branch 1 (.leaf (0, .aload_n 0, 1)) (.leaf (1, .getfield 281, 3))) (.branch 7 (.leaf (4, .ifCond .ne 10, 3)) (.leaf (7, .aload_n 0, 1)))) (.branch 13 (.branch 10 (.leaf (8, .bipush (-5), 2)) (.leaf (10, .invokevirtual 84, 3))) (.branch 14 (.leaf (13, .ireturn, 1)) (.leaf (14, .aload_n 0, 1))))) (.branch 23 (.branch 19 (.branch 16 (.leaf (15, .aload_n 0, 1)) (.leaf (16, .getfield 47, 3))) (.branch 22 (.leaf (19, .invokevirtual 174, 3)) (.leaf (22, .iconst 0, 1)))) (.branch 25 (.branch 24 (.leaf (23, .istore_n 1, 1)) (.leaf (24, .iload_n 1, 1))) (.branch 27 (.leaf (25, .bipush 8, 2)) (.branch 30 (.leaf (27, .if_icmp .ge 32, 3)) (.leaf (30, .aload_n 0, 1))))))) (.branch 46 (.branch 38 (.branch 35 (.branch 34 (.leaf (31, .getfield 7, 3)) (.leaf (34, .iload_n 1, 1))) (.branch 36 (.leaf (35, .iaload, 1)) (.leaf (36, .bipush 10, 2)))) (.branch 42 (.branch 39 (.leaf (38, .aload_n 0, 1)) (.leaf (39, .getfield 73, 3))) (.branch 43 (.leaf (42, .iadd, 1)) (.leaf (43, .if_icmp .lt 10, 3))))) (.branch 52 (.branch 50 (.branch 47 (.leaf (46, .aload_n 0, 1)) (.leaf (47, .getfield 7, 3))) (.branch 51 (.leaf (50, .iload_n 1, 1)) (.leaf (51, .iconst (-1), 1)))) (.branch 56 (.branch 53 (.leaf (52, .iastore, 1)) (.leaf (53, .iinc 1 1, 3))) (.branch 59 (.leaf (56, .goto (-32), 3)) (.branch 60 (.leaf (59, .iconst 1, 1)) (.leaf (60, .ireturn, 1)))))))
def mc_233 : am_T := .branch 119 (.branch 82 (.branch 63 (.branch 53 (.branch 2 (.branch 1 (.leaf (0, .iconst 0, 1)) (.leaf (1, .istore_n 2, 1))) (.branch 3 (.leaf (2, .iload_n 1, 1)) (.branch 52 (.leaf (3, .tableswitch 168 0 8 #[49, 54, 59, 64, 69, 96, 129, 134, 139], 49)) (.leaf (52, .aload_n 0, 1))))) (.branch 58 (.branch 56 (.leaf (53, .getfield 66, 3)) (.branch 57 (.leaf (56, .ireturn, 1)) (.leaf (57, .aload_n 0, 1)))) (.branch 61 (.leaf (58, .getfield 73, 3)) (.branch 62 (.leaf (61, .ireturn, 1)) (.leaf (62, .aload_n 0, 1)))))) (.branch 72 (.branch 67 (.branch 66 (.leaf (63, .getfield 274, 3)) (.leaf (66, .ireturn, 1))) (.branch 68 (.leaf (67, .aload_n 0, 1)) (.branch 71 (.leaf (68, .getfield 271, 3)) (.leaf (71, .ireturn, 1))))) (.branch 75 (.branch 73 (.leaf (72, .iconst 0, 1)) (.branch 74 (.leaf (73, .istore_n 3, 1)) (.leaf (74, .iload_n 3, 1)))) (.branch 76 (.leaf (75, .aload_n 0, 1)) (.branch 79 (.leaf (76, .getfield 73, 3)) (.leaf (79, .if_icmp .ge 18, 3))))))) (.branch 99 (.branch 89 (.branch 84 (.branch 83 (.leaf (82, .iload_n 2, 1)) (.leaf (83, .aload_n 0, 1))) (.branch 87 (.leaf (84, .getfield 35, 3)) (.branch 88 (.leaf (87, .iload_n 3, 1)) (.leaf (88, .iaload, 1))))) (.branch 94 (.branch 90 (.leaf (89, .iadd, 1)) (.branch 91 (.leaf (90, .istore_n 2, 1)) (.leaf (91, .iinc 3 1, 3)))) (.branch 97 (.leaf (94, .goto (-20), 3)) (.branch 98 (.leaf (97, .iload_n 2, 1)) (.leaf (98, .ireturn, 1)))))) (.branch 109 (.branch 102 (.branch 100 (.leaf (99, .iconst 0, 1)) (.branch 101 (.leaf (100, .istore_n 3, 1)) (.leaf (101, .iload_n 3, 1)))) (.branch 103 (.leaf (102, .aload_n 0, 1)) (.branch 106 (.leaf (103, .getfield 73, 3)) (.leaf (106, .if_icmp .ge 24, 3))))) (.branch 114 (.branch 110 (.leaf (109, .aload_n 0, 1)) (.branch 113 (.leaf (110, .getfield 38, 3)) (.leaf (113, .iload_n 3, 1)))) (.branch 115 (.leaf (114, .iaload, 1)) (.branch 118 (.leaf (115, .ifCond .le 9, 3)) (.leaf (118, .iload_n 2, 1)))))))) (.branch 154 (.branch 136 (.branch 124 (.branch 121 (.branch 120 (.leaf (119, .iconst 1, 1)) (.leaf (120, .iload_n 3, 1))) (.branch 122 (.leaf (121, .ishl, 1)) (.branch 123 (.leaf (122, .ior, 1)) (.leaf (123, .istore_n 2, 1))))) (.branch 131 (.branch 127 (.leaf (124, .iinc 3 1, 3)) (.branch 130 (.leaf (127, .goto (-26), 3)) (.leaf (130, .iload_n 2, 1)))) (.branch 132 (.leaf (131, .ireturn, 1)) (.branch 133 (.leaf (132, .aload_n 0, 1)) (.leaf (133, .getfield 115, 3)))))) (.branch 143 (.branch 138 (.branch 137 (.leaf (136, .ireturn, 1)) (.leaf (137, .aload_n 0, 1))) (.branch 141 (.leaf (138, .getfield 70, 3)) (.branch 142 (.leaf (141, .ireturn, 1)) (.leaf (142, .iconst 0, 1))))) (.branch 147 (.branch 144 (.leaf (143, .istore_n 3, 1)) (.branch 145 (.leaf (144, .iload_n 3, 1)) (.leaf (145, .bipush 8, 2)))) (.branch 150 (.leaf (147, .if_icmp .ge 22, 3)) (.branch 151 (.leaf (150, .aload_n 0, 1)) (.leaf (151, .getfield 7, 3))))))) (.branch 174 (.branch 163 (.branch 156 (.branch 155 (.leaf (154, .iload_n 3, 1)) (.leaf (155, .iaload, 1))) (.branch 157 (.leaf (156, .iconst (-1), 1)) (.branch 160 (.leaf (157, .if_icmp .eq 6, 3)) (.leaf (160, .iinc 2 1, 3))))) (.branch 170 (.branch 166 (.leaf (163, .iinc 3 1, 3)) (.branch 169 (.leaf (166, .goto (-22), 3)) (.leaf (169, .iload_n 2, 1)))) (.branch 171 (.leaf (170, .ireturn, 1)) (.branch 172 (.leaf (171, .iload_n 1, 1)) (.leaf (172, .bipush 12, 2)))))) (.branch 187 (.branch 182 (.branch 176 (.leaf (174, .bipush 16, 2)) (.branch 179 (.leaf (176, .invokestatic 76, 3)) (.leaf (179, .ifCond .eq 15, 3)))) (.branch 183 (.leaf (182, .aload_n 0, 1)) (.branch 186 (.leaf (183, .getfield 44, 3)) (.leaf (186, .iload_n 1, 1))))) (.branch 191 (.branch 189 (.leaf (187, .bipush 10, 2)) (.branch 190 (.leaf (189, .isub, 1)) (.leaf (190, .iaload, 1)))) (.branch 194 (.leaf (191, .goto 4, 3)) (.branch 195 (.leaf (194, .iconst (-1), 1)) (.leaf (195, .ireturn, 1))))))))
def mc_234 : am_T := .branch 27 (.branch 14 (.branch 7 (.branch 2 (.branch 1 (.leaf (0, .iload_n 0, 1)) (.leaf (1, .iload_n 0, 1))) (.branch 3 (.leaf (2, .iconst 1, 1)) (.branch 4 (.leaf (3, .iushr, 1)) (.leaf (4, .ldc_w 265, 3))))) (.branch 9 (.branch 8 (.leaf (7, .iand, 1)) (.leaf (8, .isub, 1))) (.branch 10 (.leaf (9, .istore_n 0, 1)) (.branch 11 (.leaf (10, .iload_n 0, 1)) (.leaf (11, .ldc_w 266, 3)))))) (.branch 21 (.branch 16 (.branch 15 (.leaf (14, .iand, 1)) (.leaf (15, .iload_n 0, 1))) (.branch 17 (.leaf (16, .iconst 2, 1)) (.branch 18 (.leaf (17, .iushr, 1)) (.leaf (18, .ldc_w 266, 3))))) (.branch 24 (.branch 22 (.leaf (21, .iand, 1)) (.branch 23 (.leaf (22, .iadd, 1)) (.leaf (23, .istore_n 0, 1)))) (.branch 25 (.leaf (24, .iload_n 0, 1)) (.branch 26 (.leaf (25, .iload_n 0, 1)) (.leaf (26, .iconst 4, 1))))))) (.branch 40 (.branch 34 (.branch 29 (.branch 28 (.leaf (27, .iushr, 1)) (.leaf (28, .iadd, 1))) (.branch 32 (.leaf (29, .ldc_w 267, 3)) (.branch 33 (.leaf (32, .iand, 1)) (.leaf (33, .istore_n 0, 1))))) (.branch 36 (.branch 35 (.leaf (34, .iload_n 0, 1)) (.leaf (35, .iload_n 0, 1))) (.branch 38 (.leaf (36, .bipush 8, 2)) (.branch 39 (.leaf (38, .iushr, 1)) (.leaf (39, .iadd, 1)))))) (.branch 46 (.branch 42 (.branch 41 (.leaf (40, .istore_n 0, 1)) (.leaf (41, .iload_n 0, 1))) (.branch 43 (.leaf (42, .iload_n 0, 1)) (.branch 45 (.leaf (43, .bipush 16, 2)) (.leaf (45, .iushr, 1))))) (.branch 49 (.branch 47 (.leaf (46, .iadd, 1)) (.branch 48 (.leaf (47, .istore_n 0, 1)) (.leaf (48, .iload_n 0, 1)))) (.branch 51 (.leaf (49, .bipush 63, 2)) (.branch 52 (.leaf (51, .iand, 1)) (.leaf (52, .ireturn, 1)))))))
def mc_235 : am_T := .branch 5 (.branch 1 (.leaf (0, .iload_n 0, 1)) (.branch 4 (.leaf (1, .ifCond .ge 8, 3)) (.leaf (4, .iload_n 0, 1)))) (.branch 9 (.branch 6 (.leaf (5, .ineg, 1)) (.leaf (6, .goto 4, 3))) (.branch 10 (.leaf (9, .iload_n 0, 1)) (.leaf (10, .ireturn, 1))))
def mc_236 : am_T := .branch 5 (.branch 1 (.leaf (0, .iload_n 0, 1)) (.branch 2 (.leaf (1, .iload_n 1, 1)) (.leaf (2, .if_icmp .lt 7, 3)))) (.branch 9 (.branch 6 (.leaf (5, .iload_n 0, 1)) (.leaf (6, .goto 4, 3))) (.branch 10 (.leaf (9, .iload_n 1, 1)) (.leaf (10, .ireturn, 1))))
def mc_237 : am_T := .branch 5 (.branch 1 (.leaf (0, .iload_n 0, 1)) (.branch 2 (.leaf (1, .iload_n 1, 1)) (.leaf (2, .if_icmp .gt 7, 3)))) (.branch 9 (.branch 6 (.leaf (5, .iload_n 0, 1)) (.leaf (6, .goto 4, 3))) (.branch 10 (.leaf (9, .iload_n 1, 1)) (.leaf (10, .ireturn, 1))))
def mc_238 : am_T := .branch 9 (.branch 3 (.branch 1 (.leaf (0, .iconst 0, 1)) (.branch 2 (.leaf (1, .istore_n 3, 1)) (.leaf (2, .aload_n 0, 1)))) (.branch 6 (.branch 4 (.leaf (3, .arraylength, 1)) (.leaf (4, .istore 4, 2))) (.branch 7 (.leaf (6, .iload_n 3, 1)) (.leaf (7, .iload 4, 2))))) (.branch 15 (.branch 13 (.branch 12 (.leaf (9, .if_icmp .ge 13, 3)) (.leaf (12, .aload_n 0, 1))) (.branch 14 (.leaf (13, .iload_n 3, 1)) (.leaf (14, .lload_n 1, 1)))) (.branch 19 (.branch 16 (.leaf (15, .lastore, 1)) (.leaf (16, .iinc 3 1, 3))) (.branch 22 (.leaf (19, .goto (-13), 3)) (.leaf (22, .return_, 1)))))
def mc_239 : am_T := .branch 7 (.branch 3 (.branch 1 (.leaf (0, .iconst 0, 1)) (.branch 2 (.leaf (1, .istore_n 2, 1)) (.leaf (2, .aload_n 0, 1)))) (.branch 5 (.branch 4 (.leaf (3, .arraylength, 1)) (.leaf (4, .istore_n 3, 1))) (.branch 6 (.leaf (5, .iload_n 2, 1)) (.leaf (6, .iload_n 3, 1))))) (.branch 13 (.branch 11 (.branch 10 (.leaf (7, .if_icmp .ge 13, 3)) (.leaf (10, .aload_n 0, 1))) (.branch 12 (.leaf (11, .iload_n 2, 1)) (.leaf (12, .iload_n 1, 1)))) (.branch 17 (.branch 14 (.leaf (13, .iastore, 1)) (.leaf (14, .iinc 2 1, 3))) (.branch 20 (.leaf (17, .goto (-12), 3)) (.leaf (20, .return_, 1)))))
def mc_240_0 : am_T := .branch 32 (.branch 18 (.branch 11 (.branch 4 (.branch 3 (.leaf (0, .new 7, 3)) (.leaf (3, .dup, 1))) (.branch 7 (.leaf (4, .invokespecial 9, 3)) (.branch 8 (.leaf (7, .astore_n 1, 1)) (.leaf (8, .new 10, 3))))) (.branch 15 (.branch 12 (.leaf (11, .dup, 1)) (.leaf (12, .invokespecial 12, 3))) (.branch 16 (.leaf (15, .astore_n 2, 1)) (.branch 17 (.leaf (16, .iconst 0, 1)) (.leaf (17, .istore_n 3, 1)))))) (.branch 24 (.branch 20 (.branch 19 (.leaf (18, .iload_n 3, 1)) (.leaf (19, .aload_n 0, 1))) (.branch 21 (.leaf (20, .arraylength, 1)) (.branch 23 (.leaf (21, .bipush 6, 2)) (.leaf (23, .isub, 1))))) (.branch 28 (.branch 27 (.leaf (24, .if_icmp .gt 1690, 3)) (.leaf (27, .aload_n 0, 1))) (.branch 29 (.leaf (28, .iload_n 3, 1)) (.branch 30 (.leaf (29, .iaload, 1)) (.leaf (30, .bipush 63, 2))))))) (.branch 232 (.branch 227 (.branch 224 (.branch 33 (.leaf (32, .iand, 1)) (.leaf (33, .tableswitch 1675 0 43 #[191, 234, 307, 370, 404, 427, 460, 493, 516, 549, 582, 635, 668, 691, 704, 717, 750, 783, 816, 859, 892, 935, 988, 1041, 1084, 1117, 1160, 1203, 1236, 1250, 1283, 1316, 1329, 1352, 1395, 1438, 1461, 1494, 1537, 1580, 1603, 1626, 1639, 1652], 191))) (.branch 225 (.leaf (224, .aload_n 1, 1)) (.branch 226 (.leaf (225, .aload_n 0, 1)) (.leaf (226, .iload_n 3, 1))))) (.branch 229 (.branch 228 (.leaf (227, .iconst 1, 1)) (.leaf (228, .iadd, 1))) (.branch 230 (.leaf (229, .iaload, 1)) (.branch 231 (.leaf (230, .aload_n 0, 1)) (.leaf (231, .iload_n 3, 1)))))) (.branch 237 (.branch 234 (.branch 233 (.leaf (232, .iconst 2, 1)) (.leaf (233, .iadd, 1))) (.branch 235 (.leaf (234, .iaload, 1)) (.branch 236 (.leaf (235, .aload_n 0, 1)) (.leaf (236, .iload_n 3, 1))))) (.branch 239 (.branch 238 (.leaf (237, .iconst 3, 1)) (.leaf (238, .iadd, 1))) (.branch 240 (.leaf (239, .iaload, 1)) (.branch 243 (.leaf (240, .invokevirtual 13, 3)) (.leaf (243, .aload_n 2, 1)))))))
def mc_240_1 : am_T := .branch 268 (.branch 254 (.branch 249 (.branch 246 (.branch 245 (.leaf (244, .aload_n 0, 1)) (.leaf (245, .iload_n 3, 1))) (.branch 247 (.leaf (246, .iconst 1, 1)) (.branch 248 (.leaf (247, .iadd, 1)) (.leaf (248, .iaload, 1))))) (.branch 251 (.branch 250 (.leaf (249, .aload_n 0, 1)) (.leaf (250, .iload_n 3, 1))) (.branch 252 (.leaf (251, .iconst 2, 1)) (.branch 253 (.leaf (252, .iadd, 1)) (.leaf (253, .iaload, 1)))))) (.branch 259 (.branch 256 (.branch 255 (.leaf (254, .aload_n 0, 1)) (.leaf (255, .iload_n 3, 1))) (.branch 257 (.leaf (256, .iconst 3, 1)) (.branch 258 (.leaf (257, .iadd, 1)) (.leaf (258, .iaload, 1))))) (.branch 265 (.branch 262 (.leaf (259, .invokevirtual 17, 3)) (.leaf (262, .if_icmp .eq 1446, 3))) (.branch 266 (.leaf (265, .iconst 0, 1)) (.branch 267 (.leaf (266, .ireturn, 1)) (.leaf (267, .aload_n 1, 1))))))) (.branch 278 (.branch 273 (.branch 270 (.branch 269 (.leaf (268, .aload_n 0, 1)) (.leaf (269, .iload_n 3, 1))) (.branch 271 (.leaf (270, .iconst 1, 1)) (.branch 272 (.leaf (271, .iadd, 1)) (.leaf (272, .iaload, 1))))) (.branch 275 (.branch 274 (.leaf (273, .aload_n 0, 1)) (.leaf (274, .iload_n 3, 1))) (.branch 276 (.leaf (275, .iconst 2, 1)) (.branch 277 (.leaf (276, .iadd, 1)) (.leaf (277, .iaload, 1)))))) (.branch 283 (.branch 280 (.branch 279 (.leaf (278, .aload_n 0, 1)) (.leaf (279, .iload_n 3, 1))) (.branch 281 (.leaf (280, .iconst 3, 1)) (.branch 282 (.leaf (281, .iadd, 1)) (.leaf (282, .iaload, 1))))) (.branch 286 (.branch 284 (.leaf (283, .i2l, 1)) (.leaf (284, .bipush 32, 2))) (.branch 287 (.leaf (286, .lshl, 1)) (.branch 288 (.leaf (287, .aload_n 0, 1)) (.leaf (288, .iload_n 3, 1)))))))
def mc_240_2 : am_T := .branch 313 (.branch 303 (.branch 296 (.branch 291 (.branch 290 (.leaf (289, .iconst 4, 1)) (.leaf (290, .iadd, 1))) (.branch 292 (.leaf (291, .iaload, 1)) (.branch 293 (.leaf (292, .i2l, 1)) (.leaf (293, .ldc2_w 18, 3))))) (.branch 298 (.branch 297 (.leaf (296, .land, 1)) (.leaf (297, .lor, 1))) (.branch 301 (.leaf (298, .invokevirtual 20, 3)) (.branch 302 (.leaf (301, .aload_n 2, 1)) (.leaf (302, .aload_n 0, 1)))))) (.branch 308 (.branch 305 (.branch 304 (.leaf (303, .iload_n 3, 1)) (.leaf (304, .iconst 1, 1))) (.branch 306 (.leaf (305, .iadd, 1)) (.branch 307 (.leaf (306, .iaload, 1)) (.leaf (307, .aload_n 0, 1))))) (.branch 310 (.branch 309 (.leaf (308, .iload_n 3, 1)) (.leaf (309, .iconst 2, 1))) (.branch 311 (.leaf (310, .iadd, 1)) (.branch 312 (.leaf (311, .iaload, 1)) (.leaf (312, .aload_n 0, 1))))))) (.branch 324 (.branch 318 (.branch 315 (.branch 314 (.leaf (313, .iload_n 3, 1)) (.leaf (314, .iconst 3, 1))) (.branch 316 (.leaf (315, .iadd, 1)) (.branch 317 (.leaf (316, .iaload, 1)) (.leaf (317, .i2l, 1))))) (.branch 321 (.branch 320 (.leaf (318, .bipush 32, 2)) (.leaf (320, .lshl, 1))) (.branch 322 (.leaf (321, .aload_n 0, 1)) (.branch 323 (.leaf (322, .iload_n 3, 1)) (.leaf (323, .iconst 4, 1)))))) (.branch 331 (.branch 326 (.branch 325 (.leaf (324, .iadd, 1)) (.leaf (325, .iaload, 1))) (.branch 327 (.leaf (326, .i2l, 1)) (.branch 330 (.leaf (327, .ldc2_w 18, 3)) (.leaf (330, .land, 1))))) (.branch 335 (.branch 332 (.leaf (331, .lor, 1)) (.leaf (332, .invokevirtual 24, 3))) (.branch 338 (.leaf (335, .if_icmp .eq 1373, 3)) (.branch 339 (.leaf (338, .iconst 0, 1)) (.leaf (339, .ireturn, 1)))))))
def mc_240_3 : am_T := .branch 360 (.branch 350 (.branch 345 (.branch 342 (.branch 341 (.leaf (340, .aload_n 1, 1)) (.leaf (341, .aload_n 0, 1))) (.branch 343 (.leaf (342, .iload_n 3, 1)) (.branch 344 (.leaf (343, .iconst 1, 1)) (.leaf (344, .iadd, 1))))) (.branch 347 (.branch 346 (.leaf (345, .iaload, 1)) (.leaf (346, .aload_n 0, 1))) (.branch 348 (.leaf (347, .iload_n 3, 1)) (.branch 349 (.leaf (348, .iconst 2, 1)) (.leaf (349, .iadd, 1)))))) (.branch 355 (.branch 352 (.branch 351 (.leaf (350, .iaload, 1)) (.leaf (351, .aload_n 0, 1))) (.branch 353 (.leaf (352, .iload_n 3, 1)) (.branch 354 (.leaf (353, .iconst 3, 1)) (.leaf (354, .iadd, 1))))) (.branch 357 (.branch 356 (.leaf (355, .iaload, 1)) (.leaf (356, .aload_n 0, 1))) (.branch 358 (.leaf (357, .iload_n 3, 1)) (.branch 359 (.leaf (358, .iconst 4, 1)) (.leaf (359, .iadd, 1))))))) (.branch 372 (.branch 365 (.branch 362 (.branch 361 (.leaf (360, .iaload, 1)) (.leaf (361, .aload_n 0, 1))) (.branch 363 (.leaf (362, .iload_n 3, 1)) (.branch 364 (.leaf (363, .iconst 5, 1)) (.leaf (364, .iadd, 1))))) (.branch 369 (.branch 366 (.leaf (365, .iaload, 1)) (.leaf (366, .invokevirtual 25, 3))) (.branch 370 (.leaf (369, .aload_n 2, 1)) (.branch 371 (.leaf (370, .aload_n 0, 1)) (.leaf (371, .iload_n 3, 1)))))) (.branch 377 (.branch 374 (.branch 373 (.leaf (372, .iconst 1, 1)) (.leaf (373, .iadd, 1))) (.branch 375 (.leaf (374, .iaload, 1)) (.branch 376 (.leaf (375, .aload_n 0, 1)) (.leaf (376, .iload_n 3, 1))))) (.branch 379 (.branch 378 (.leaf (377, .iconst 2, 1)) (.leaf (378, .iadd, 1))) (.branch 380 (.leaf (379, .iaload, 1)) (.branch 381 (.leaf (380, .aload_n 0, 1)) (.leaf (381, .iload_n 3, 1)))))))
def mc_240_4 : am_T := .branch 406 (.branch 392 (.branch 387 (.branch 384 (.branch 383 (.leaf (382, .iconst 3, 1)) (.leaf (383, .iadd, 1))) (.branch 385 (.leaf (384, .iaload, 1)) (.branch 386 (.leaf (385, .aload_n 0, 1)) (.leaf (386, .iload_n 3, 1))))) (.branch 389 (.branch 388 (.leaf (387, .iconst 4, 1)) (.leaf (388, .iadd, 1))) (.branch 390 (.leaf (389, .iaload, 1)) (.branch 391 (.leaf (390, .aload_n 0, 1)) (.leaf (391, .iload_n 3, 1)))))) (.branch 401 (.branch 394 (.branch 393 (.leaf (392, .iconst 5, 1)) (.leaf (393, .iadd, 1))) (.branch 395 (.leaf (394, .iaload, 1)) (.branch 398 (.leaf (395, .invokevirtual 29, 3)) (.leaf (398, .if_icmp .eq 1310, 3))))) (.branch 403 (.branch 402 (.leaf (401, .iconst 0, 1)) (.leaf (402, .ireturn, 1))) (.branch 404 (.leaf (403, .aload_n 1, 1)) (.branch 405 (.leaf (404, .aload_n 0, 1)) (.leaf (405, .iload_n 3, 1))))))) (.branch 418 (.branch 411 (.branch 408 (.branch 407 (.leaf (406, .iconst 1, 1)) (.leaf (407, .iadd, 1))) (.branch 409 (.leaf (408, .iaload, 1)) (.branch 410 (.leaf (409, .aload_n 0, 1)) (.leaf (410, .iload_n 3, 1))))) (.branch 413 (.branch 412 (.leaf (411, .iconst 2, 1)) (.leaf (412, .iadd, 1))) (.branch 414 (.leaf (413, .iaload, 1)) (.branch 417 (.leaf (414, .invokevirtual 30, 3)) (.leaf (417, .aload_n 2, 1)))))) (.branch 423 (.branch 420 (.branch 419 (.leaf (418, .aload_n 0, 1)) (.leaf (419, .iload_n 3, 1))) (.branch 421 (.leaf (420, .iconst 1, 1)) (.branch 422 (.leaf (421, .iadd, 1)) (.leaf (422, .iaload, 1))))) (.branch 425 (.branch 424 (.leaf (423, .aload_n 0, 1)) (.leaf (424, .iload_n 3, 1))) (.branch 426 (.leaf (425, .iconst 2, 1)) (.branch 427 (.leaf (426, .iadd, 1)) (.leaf (427, .iaload, 1)))))))
def mc_240_5 : am_T := .branch 458 (.branch 442 (.branch 437 (.branch 432 (.branch 431 (.leaf (428, .invokevirtual 34, 3)) (.leaf (431, .lcmp, 1))) (.branch 435 (.leaf (432, .ifCond .eq 1276, 3)) (.branch 436 (.leaf (435, .iconst 0, 1)) (.leaf (436, .ireturn, 1))))) (.branch 439 (.branch 438 (.leaf (437, .aload_n 1, 1)) (.leaf (438, .aload_n 0, 1))) (.branch 440 (.leaf (439, .iload_n 3, 1)) (.branch 441 (.leaf (440, .iconst 1, 1)) (.leaf (441, .iadd, 1)))))) (.branch 449 (.branch 446 (.branch 443 (.leaf (442, .iaload, 1)) (.leaf (443, .invokevirtual 35, 3))) (.branch 447 (.leaf (446, .aload_n 2, 1)) (.branch 448 (.leaf (447, .aload_n 0, 1)) (.leaf (448, .iload_n 3, 1))))) (.branch 451 (.branch 450 (.leaf (449, .iconst 1, 1)) (.leaf (450, .iadd, 1))) (.branch 452 (.leaf (451, .iaload, 1)) (.branch 455 (.leaf (452, .invokevirtual 39, 3)) (.leaf (455, .if_icmp .eq 1253, 3))))))) (.branch 468 (.branch 463 (.branch 460 (.branch 459 (.leaf (458, .iconst 0, 1)) (.leaf (459, .ireturn, 1))) (.branch 461 (.leaf (460, .aload_n 1, 1)) (.branch 462 (.leaf (461, .aload_n 0, 1)) (.leaf (462, .iload_n 3, 1))))) (.branch 465 (.branch 464 (.leaf (463, .iconst 1, 1)) (.leaf (464, .iadd, 1))) (.branch 466 (.leaf (465, .iaload, 1)) (.branch 467 (.leaf (466, .aload_n 0, 1)) (.leaf (467, .iload_n 3, 1)))))) (.branch 475 (.branch 470 (.branch 469 (.leaf (468, .iconst 2, 1)) (.leaf (469, .iadd, 1))) (.branch 471 (.leaf (470, .iaload, 1)) (.branch 474 (.leaf (471, .invokevirtual 40, 3)) (.leaf (474, .aload_n 2, 1))))) (.branch 477 (.branch 476 (.leaf (475, .aload_n 0, 1)) (.leaf (476, .iload_n 3, 1))) (.branch 478 (.leaf (477, .iconst 1, 1)) (.branch 479 (.leaf (478, .iadd, 1)) (.leaf (479, .iaload, 1)))))))
def mc_240_6 : am_T := .branch 504 (.branch 494 (.branch 485 (.branch 482 (.branch 481 (.leaf (480, .aload_n 0, 1)) (.leaf (481, .iload_n 3, 1))) (.branch 483 (.leaf (482, .iconst 2, 1)) (.branch 484 (.leaf (483, .iadd, 1)) (.leaf (484, .iaload, 1))))) (.branch 491 (.branch 488 (.leaf (485, .invokevirtual 44, 3)) (.leaf (488, .if_icmp .eq 1220, 3))) (.branch 492 (.leaf (491, .iconst 0, 1)) (.branch 493 (.leaf (492, .ireturn, 1)) (.leaf (493, .aload_n 1, 1)))))) (.branch 499 (.branch 496 (.branch 495 (.leaf (494, .aload_n 0, 1)) (.leaf (495, .iload_n 3, 1))) (.branch 497 (.leaf (496, .iconst 1, 1)) (.branch 498 (.leaf (497, .iadd, 1)) (.leaf (498, .iaload, 1))))) (.branch 501 (.branch 500 (.leaf (499, .aload_n 0, 1)) (.leaf (500, .iload_n 3, 1))) (.branch 502 (.leaf (501, .iconst 2, 1)) (.branch 503 (.leaf (502, .iadd, 1)) (.leaf (503, .iaload, 1))))))) (.branch 516 (.branch 511 (.branch 508 (.branch 507 (.leaf (504, .invokevirtual 45, 3)) (.leaf (507, .aload_n 2, 1))) (.branch 509 (.leaf (508, .aload_n 0, 1)) (.branch 510 (.leaf (509, .iload_n 3, 1)) (.leaf (510, .iconst 1, 1))))) (.branch 513 (.branch 512 (.leaf (511, .iadd, 1)) (.leaf (512, .iaload, 1))) (.branch 514 (.leaf (513, .aload_n 0, 1)) (.branch 515 (.leaf (514, .iload_n 3, 1)) (.leaf (515, .iconst 2, 1)))))) (.branch 525 (.branch 518 (.branch 517 (.leaf (516, .iadd, 1)) (.leaf (517, .iaload, 1))) (.branch 521 (.leaf (518, .invokevirtual 48, 3)) (.branch 524 (.leaf (521, .if_icmp .eq 1187, 3)) (.leaf (524, .iconst 0, 1))))) (.branch 527 (.branch 526 (.leaf (525, .ireturn, 1)) (.leaf (526, .aload_n 1, 1))) (.branch 528 (.leaf (527, .aload_n 0, 1)) (.branch 529 (.leaf (528, .iload_n 3, 1)) (.leaf (529, .iconst 1, 1)))))))
def mc_240_7 : am_T := .branch 556 (.branch 544 (.branch 537 (.branch 532 (.branch 531 (.leaf (530, .iadd, 1)) (.leaf (531, .iaload, 1))) (.branch 535 (.leaf (532, .invokevirtual 49, 3)) (.branch 536 (.leaf (535, .aload_n 2, 1)) (.leaf (536, .aload_n 0, 1))))) (.branch 539 (.branch 538 (.leaf (537, .iload_n 3, 1)) (.leaf (538, .iconst 1, 1))) (.branch 540 (.leaf (539, .iadd, 1)) (.branch 541 (.leaf (540, .iaload, 1)) (.leaf (541, .invokevirtual 52, 3)))))) (.branch 551 (.branch 548 (.branch 547 (.leaf (544, .if_icmp .eq 1164, 3)) (.leaf (547, .iconst 0, 1))) (.branch 549 (.leaf (548, .ireturn, 1)) (.branch 550 (.leaf (549, .aload_n 1, 1)) (.leaf (550, .aload_n 0, 1))))) (.branch 553 (.branch 552 (.leaf (551, .iload_n 3, 1)) (.leaf (552, .iconst 1, 1))) (.branch 554 (.leaf (553, .iadd, 1)) (.branch 555 (.leaf (554, .iaload, 1)) (.leaf (555, .aload_n 0, 1))))))) (.branch 568 (.branch 563 (.branch 558 (.branch 557 (.leaf (556, .iload_n 3, 1)) (.leaf (557, .iconst 2, 1))) (.branch 559 (.leaf (558, .iadd, 1)) (.branch 560 (.leaf (559, .iaload, 1)) (.leaf (560, .invokevirtual 53, 3))))) (.branch 565 (.branch 564 (.leaf (563, .aload_n 2, 1)) (.leaf (564, .aload_n 0, 1))) (.branch 566 (.leaf (565, .iload_n 3, 1)) (.branch 567 (.leaf (566, .iconst 1, 1)) (.leaf (567, .iadd, 1)))))) (.branch 573 (.branch 570 (.branch 569 (.leaf (568, .iaload, 1)) (.leaf (569, .aload_n 0, 1))) (.branch 571 (.leaf (570, .iload_n 3, 1)) (.branch 572 (.leaf (571, .iconst 2, 1)) (.leaf (572, .iadd, 1))))) (.branch 577 (.branch 574 (.leaf (573, .iaload, 1)) (.leaf (574, .invokevirtual 56, 3))) (.branch 580 (.leaf (577, .if_icmp .eq 1131, 3)) (.branch 581 (.leaf (580, .iconst 0, 1)) (.leaf (581, .ireturn, 1)))))))
def mc_240_8 : am_T := .branch 604 (.branch 592 (.branch 587 (.branch 584 (.branch 583 (.leaf (582, .aload_n 1, 1)) (.leaf (583, .aload_n 0, 1))) (.branch 585 (.leaf (584, .iload_n 3, 1)) (.branch 586 (.leaf (585, .iconst 1, 1)) (.leaf (586, .iadd, 1))))) (.branch 589 (.branch 588 (.leaf (587, .iaload, 1)) (.leaf (588, .aload_n 0, 1))) (.branch 590 (.leaf (589, .iload_n 3, 1)) (.branch 591 (.leaf (590, .iconst 2, 1)) (.leaf (591, .iadd, 1)))))) (.branch 599 (.branch 596 (.branch 593 (.leaf (592, .iaload, 1)) (.leaf (593, .invokevirtual 57, 3))) (.branch 597 (.leaf (596, .aload_n 2, 1)) (.branch 598 (.leaf (597, .aload_n 0, 1)) (.leaf (598, .iload_n 3, 1))))) (.branch 601 (.branch 600 (.leaf (599, .iconst 1, 1)) (.leaf (600, .iadd, 1))) (.branch 602 (.leaf (601, .iaload, 1)) (.branch 603 (.leaf (602, .aload_n 0, 1)) (.leaf (603, .iload_n 3, 1))))))) (.branch 618 (.branch 613 (.branch 606 (.branch 605 (.leaf (604, .iconst 2, 1)) (.leaf (605, .iadd, 1))) (.branch 607 (.leaf (606, .iaload, 1)) (.branch 610 (.leaf (607, .invokevirtual 60, 3)) (.leaf (610, .if_icmp .eq 1098, 3))))) (.branch 615 (.branch 614 (.leaf (613, .iconst 0, 1)) (.leaf (614, .ireturn, 1))) (.branch 616 (.leaf (615, .aload_n 1, 1)) (.branch 617 (.leaf (616, .aload_n 0, 1)) (.leaf (617, .iload_n 3, 1)))))) (.branch 623 (.branch 620 (.branch 619 (.leaf (618, .iconst 1, 1)) (.leaf (619, .iadd, 1))) (.branch 621 (.leaf (620, .iaload, 1)) (.branch 622 (.leaf (621, .aload_n 0, 1)) (.leaf (622, .iload_n 3, 1))))) (.branch 625 (.branch 624 (.leaf (623, .iconst 2, 1)) (.leaf (624, .iadd, 1))) (.branch 626 (.leaf (625, .iaload, 1)) (.branch 627 (.leaf (626, .aload_n 0, 1)) (.leaf (627, .iload_n 3, 1)))))))
def mc_240_9 : am_T := .branch 650 (.branch 640 (.branch 633 (.branch 630 (.branch 629 (.leaf (628, .iconst 3, 1)) (.leaf (629, .iadd, 1))) (.branch 631 (.leaf (630, .iaload, 1)) (.branch 632 (.leaf (631, .aload_n 0, 1)) (.leaf (632, .iload_n 3, 1))))) (.branch 635 (.branch 634 (.leaf (633, .iconst 4, 1)) (.leaf (634, .iadd, 1))) (.branch 636 (.leaf (635, .iaload, 1)) (.branch 639 (.leaf (636, .invokevirtual 61, 3)) (.leaf (639, .aload_n 2, 1)))))) (.branch 645 (.branch 642 (.branch 641 (.leaf (640, .aload_n 0, 1)) (.leaf (641, .iload_n 3, 1))) (.branch 643 (.leaf (642, .iconst 1, 1)) (.branch 644 (.leaf (643, .iadd, 1)) (.leaf (644, .iaload, 1))))) (.branch 647 (.branch 646 (.leaf (645, .aload_n 0, 1)) (.leaf (646, .iload_n 3, 1))) (.branch 648 (.leaf (647, .iconst 2, 1)) (.branch 649 (.leaf (648, .iadd, 1)) (.leaf (649, .iaload, 1))))))) (.branch 660 (.branch 655 (.branch 652 (.branch 651 (.leaf (650, .aload_n 0, 1)) (.leaf (651, .iload_n 3, 1))) (.branch 653 (.leaf (652, .iconst 3, 1)) (.branch 654 (.leaf (653, .iadd, 1)) (.leaf (654, .iaload, 1))))) (.branch 657 (.branch 656 (.leaf (655, .aload_n 0, 1)) (.leaf (656, .iload_n 3, 1))) (.branch 658 (.leaf (657, .iconst 4, 1)) (.branch 659 (.leaf (658, .iadd, 1)) (.leaf (659, .iaload, 1)))))) (.branch 669 (.branch 666 (.branch 663 (.leaf (660, .invokevirtual 65, 3)) (.leaf (663, .if_icmp .eq 1045, 3))) (.branch 667 (.leaf (666, .iconst 0, 1)) (.branch 668 (.leaf (667, .ireturn, 1)) (.leaf (668, .aload_n 1, 1))))) (.branch 671 (.branch 670 (.leaf (669, .aload_n 0, 1)) (.leaf (670, .iload_n 3, 1))) (.branch 672 (.leaf (671, .iconst 1, 1)) (.branch 673 (.leaf (672, .iadd, 1)) (.leaf (673, .iaload, 1)))))))
def mc_240_10 : am_T := .branch 700 (.branch 686 (.branch 679 (.branch 676 (.branch 675 (.leaf (674, .aload_n 0, 1)) (.leaf (675, .iload_n 3, 1))) (.branch 677 (.leaf (676, .iconst 2, 1)) (.branch 678 (.leaf (677, .iadd, 1)) (.leaf (678, .iaload, 1))))) (.branch 683 (.branch 682 (.leaf (679, .invokevirtual 66, 3)) (.leaf (682, .aload_n 2, 1))) (.branch 684 (.leaf (683, .aload_n 0, 1)) (.branch 685 (.leaf (684, .iload_n 3, 1)) (.leaf (685, .iconst 1, 1)))))) (.branch 691 (.branch 688 (.branch 687 (.leaf (686, .iadd, 1)) (.leaf (687, .iaload, 1))) (.branch 689 (.leaf (688, .aload_n 0, 1)) (.branch 690 (.leaf (689, .iload_n 3, 1)) (.leaf (690, .iconst 2, 1))))) (.branch 693 (.branch 692 (.leaf (691, .iadd, 1)) (.leaf (692, .iaload, 1))) (.branch 696 (.leaf (693, .invokevirtual 69, 3)) (.branch 699 (.leaf (696, .if_icmp .eq 1012, 3)) (.leaf (699, .iconst 0, 1))))))) (.branch 712 (.branch 705 (.branch 702 (.branch 701 (.leaf (700, .ireturn, 1)) (.leaf (701, .aload_n 1, 1))) (.branch 703 (.leaf (702, .aload_n 0, 1)) (.branch 704 (.leaf (703, .iload_n 3, 1)) (.leaf (704, .iconst 1, 1))))) (.branch 707 (.branch 706 (.leaf (705, .iadd, 1)) (.leaf (706, .iaload, 1))) (.branch 710 (.leaf (707, .invokevirtual 70, 3)) (.branch 711 (.leaf (710, .aload_n 2, 1)) (.leaf (711, .aload_n 0, 1)))))) (.branch 719 (.branch 714 (.branch 713 (.leaf (712, .iload_n 3, 1)) (.leaf (713, .iconst 1, 1))) (.branch 715 (.leaf (714, .iadd, 1)) (.branch 716 (.leaf (715, .iaload, 1)) (.leaf (716, .invokevirtual 73, 3))))) (.branch 723 (.branch 722 (.leaf (719, .if_icmp .eq 989, 3)) (.leaf (722, .iconst 0, 1))) (.branch 724 (.leaf (723, .ireturn, 1)) (.branch 725 (.leaf (724, .aload_n 1, 1)) (.leaf (725, .invokevirtual 74, 3)))))))
def mc_240_11 : am_T := .branch 758 (.branch 748 (.branch 737 (.branch 732 (.branch 729 (.leaf (728, .aload_n 2, 1)) (.leaf (729, .invokevirtual 78, 3))) (.branch 735 (.leaf (732, .if_icmp .eq 976, 3)) (.branch 736 (.leaf (735, .iconst 0, 1)) (.leaf (736, .ireturn, 1))))) (.branch 741 (.branch 738 (.leaf (737, .aload_n 1, 1)) (.leaf (738, .invokevirtual 79, 3))) (.branch 742 (.leaf (741, .aload_n 2, 1)) (.branch 745 (.leaf (742, .invokevirtual 82, 3)) (.leaf (745, .if_icmp .eq 963, 3)))))) (.branch 753 (.branch 750 (.branch 749 (.leaf (748, .iconst 0, 1)) (.leaf (749, .ireturn, 1))) (.branch 751 (.leaf (750, .aload_n 1, 1)) (.branch 752 (.leaf (751, .aload_n 0, 1)) (.leaf (752, .iload_n 3, 1))))) (.branch 755 (.branch 754 (.leaf (753, .iconst 1, 1)) (.leaf (754, .iadd, 1))) (.branch 756 (.leaf (755, .iaload, 1)) (.branch 757 (.leaf (756, .aload_n 0, 1)) (.leaf (757, .iload_n 3, 1))))))) (.branch 770 (.branch 765 (.branch 760 (.branch 759 (.leaf (758, .iconst 2, 1)) (.leaf (759, .iadd, 1))) (.branch 761 (.leaf (760, .iaload, 1)) (.branch 764 (.leaf (761, .invokevirtual 83, 3)) (.leaf (764, .aload_n 2, 1))))) (.branch 767 (.branch 766 (.leaf (765, .aload_n 0, 1)) (.leaf (766, .iload_n 3, 1))) (.branch 768 (.leaf (767, .iconst 1, 1)) (.branch 769 (.leaf (768, .iadd, 1)) (.leaf (769, .iaload, 1)))))) (.branch 775 (.branch 772 (.branch 771 (.leaf (770, .aload_n 0, 1)) (.leaf (771, .iload_n 3, 1))) (.branch 773 (.leaf (772, .iconst 2, 1)) (.branch 774 (.leaf (773, .iadd, 1)) (.leaf (774, .iaload, 1))))) (.branch 781 (.branch 778 (.leaf (775, .invokevirtual 86, 3)) (.leaf (778, .if_icmp .eq 930, 3))) (.branch 782 (.leaf (781, .iconst 0, 1)) (.branch 783 (.leaf (782, .ireturn, 1)) (.leaf (783, .aload_n 1, 1)))))))
def mc_240_12 : am_T := .branch 806 (.branch 794 (.branch 789 (.branch 786 (.branch 785 (.leaf (784, .aload_n 0, 1)) (.leaf (785, .iload_n 3, 1))) (.branch 787 (.leaf (786, .iconst 1, 1)) (.branch 788 (.leaf (787, .iadd, 1)) (.leaf (788, .iaload, 1))))) (.branch 791 (.branch 790 (.leaf (789, .aload_n 0, 1)) (.leaf (790, .iload_n 3, 1))) (.branch 792 (.leaf (791, .iconst 2, 1)) (.branch 793 (.leaf (792, .iadd, 1)) (.leaf (793, .iaload, 1)))))) (.branch 801 (.branch 798 (.branch 797 (.leaf (794, .invokevirtual 87, 3)) (.leaf (797, .aload_n 2, 1))) (.branch 799 (.leaf (798, .aload_n 0, 1)) (.branch 800 (.leaf (799, .iload_n 3, 1)) (.leaf (800, .iconst 1, 1))))) (.branch 803 (.branch 802 (.leaf (801, .iadd, 1)) (.leaf (802, .iaload, 1))) (.branch 804 (.leaf (803, .aload_n 0, 1)) (.branch 805 (.leaf (804, .iload_n 3, 1)) (.leaf (805, .iconst 2, 1))))))) (.branch 820 (.branch 815 (.branch 808 (.branch 807 (.leaf (806, .iadd, 1)) (.leaf (807, .iaload, 1))) (.branch 811 (.leaf (808, .invokevirtual 90, 3)) (.branch 814 (.leaf (811, .if_icmp .eq 897, 3)) (.leaf (814, .iconst 0, 1))))) (.branch 817 (.branch 816 (.leaf (815, .ireturn, 1)) (.leaf (816, .aload_n 1, 1))) (.branch 818 (.leaf (817, .aload_n 0, 1)) (.branch 819 (.leaf (818, .iload_n 3, 1)) (.leaf (819, .iconst 1, 1)))))) (.branch 825 (.branch 822 (.branch 821 (.leaf (820, .iadd, 1)) (.leaf (821, .iaload, 1))) (.branch 823 (.leaf (822, .aload_n 0, 1)) (.branch 824 (.leaf (823, .iload_n 3, 1)) (.leaf (824, .iconst 2, 1))))) (.branch 827 (.branch 826 (.leaf (825, .iadd, 1)) (.leaf (826, .iaload, 1))) (.branch 830 (.leaf (827, .invokevirtual 91, 3)) (.branch 831 (.leaf (830, .aload_n 2, 1)) (.leaf (831, .aload_n 0, 1)))))))
def mc_240_13 : am_T := .branch 856 (.branch 844 (.branch 837 (.branch 834 (.branch 833 (.leaf (832, .iload_n 3, 1)) (.leaf (833, .iconst 1, 1))) (.branch 835 (.leaf (834, .iadd, 1)) (.branch 836 (.leaf (835, .iaload, 1)) (.leaf (836, .aload_n 0, 1))))) (.branch 839 (.branch 838 (.leaf (837, .iload_n 3, 1)) (.leaf (838, .iconst 2, 1))) (.branch 840 (.leaf (839, .iadd, 1)) (.branch 841 (.leaf (840, .iaload, 1)) (.leaf (841, .invokevirtual 94, 3)))))) (.branch 851 (.branch 848 (.branch 847 (.leaf (844, .if_icmp .eq 864, 3)) (.leaf (847, .iconst 0, 1))) (.branch 849 (.leaf (848, .ireturn, 1)) (.branch 850 (.leaf (849, .aload_n 1, 1)) (.leaf (850, .aload_n 0, 1))))) (.branch 853 (.branch 852 (.leaf (851, .iload_n 3, 1)) (.leaf (852, .iconst 1, 1))) (.branch 854 (.leaf (853, .iadd, 1)) (.branch 855 (.leaf (854, .iaload, 1)) (.leaf (855, .aload_n 0, 1))))))) (.branch 868 (.branch 861 (.branch 858 (.branch 857 (.leaf (856, .iload_n 3, 1)) (.leaf (857, .iconst 2, 1))) (.branch 859 (.leaf (858, .iadd, 1)) (.branch 860 (.leaf (859, .iaload, 1)) (.leaf (860, .aload_n 0, 1))))) (.branch 863 (.branch 862 (.leaf (861, .iload_n 3, 1)) (.leaf (862, .iconst 3, 1))) (.branch 864 (.leaf (863, .iadd, 1)) (.branch 865 (.leaf (864, .iaload, 1)) (.leaf (865, .invokevirtual 95, 3)))))) (.branch 873 (.branch 870 (.branch 869 (.leaf (868, .aload_n 2, 1)) (.leaf (869, .aload_n 0, 1))) (.branch 871 (.leaf (870, .iload_n 3, 1)) (.branch 872 (.leaf (871, .iconst 1, 1)) (.leaf (872, .iadd, 1))))) (.branch 875 (.branch 874 (.leaf (873, .iaload, 1)) (.leaf (874, .aload_n 0, 1))) (.branch 876 (.leaf (875, .iload_n 3, 1)) (.branch 877 (.leaf (876, .iconst 2, 1)) (.leaf (877, .iadd, 1)))))))
def mc_240_14 : am_T := .branch 902 (.branch 892 (.branch 883 (.branch 880 (.branch 879 (.leaf (878, .iaload, 1)) (.leaf (879, .aload_n 0, 1))) (.branch 881 (.leaf (880, .iload_n 3, 1)) (.branch 882 (.leaf (881, .iconst 3, 1)) (.leaf (882, .iadd, 1))))) (.branch 887 (.branch 884 (.leaf (883, .iaload, 1)) (.leaf (884, .invokevirtual 98, 3))) (.branch 890 (.leaf (887, .if_icmp .eq 821, 3)) (.branch 891 (.leaf (890, .iconst 0, 1)) (.leaf (891, .ireturn, 1)))))) (.branch 897 (.branch 894 (.branch 893 (.leaf (892, .aload_n 1, 1)) (.leaf (893, .aload_n 0, 1))) (.branch 895 (.leaf (894, .iload_n 3, 1)) (.branch 896 (.leaf (895, .iconst 1, 1)) (.leaf (896, .iadd, 1))))) (.branch 899 (.branch 898 (.leaf (897, .iaload, 1)) (.leaf (898, .aload_n 0, 1))) (.branch 900 (.leaf (899, .iload_n 3, 1)) (.branch 901 (.leaf (900, .iconst 2, 1)) (.leaf (901, .iadd, 1))))))) (.branch 914 (.branch 909 (.branch 906 (.branch 903 (.leaf (902, .iaload, 1)) (.leaf (903, .invokevirtual 99, 3))) (.branch 907 (.leaf (906, .aload_n 2, 1)) (.branch 908 (.leaf (907, .aload_n 0, 1)) (.leaf (908, .iload_n 3, 1))))) (.branch 911 (.branch 910 (.leaf (909, .iconst 1, 1)) (.leaf (910, .iadd, 1))) (.branch 912 (.leaf (911, .iaload, 1)) (.branch 913 (.leaf (912, .aload_n 0, 1)) (.leaf (913, .iload_n 3, 1)))))) (.branch 923 (.branch 916 (.branch 915 (.leaf (914, .iconst 2, 1)) (.leaf (915, .iadd, 1))) (.branch 917 (.leaf (916, .iaload, 1)) (.branch 920 (.leaf (917, .invokevirtual 102, 3)) (.leaf (920, .if_icmp .eq 788, 3))))) (.branch 925 (.branch 924 (.leaf (923, .iconst 0, 1)) (.leaf (924, .ireturn, 1))) (.branch 926 (.leaf (925, .aload_n 1, 1)) (.branch 927 (.leaf (926, .aload_n 0, 1)) (.leaf (927, .iload_n 3, 1)))))))
def mc_240_15 : am_T := .branch 950 (.branch 938 (.branch 933 (.branch 930 (.branch 929 (.leaf (928, .iconst 1, 1)) (.leaf (929, .iadd, 1))) (.branch 931 (.leaf (930, .iaload, 1)) (.branch 932 (.leaf (931, .aload_n 0, 1)) (.leaf (932, .iload_n 3, 1))))) (.branch 935 (.branch 934 (.leaf (933, .iconst 2, 1)) (.leaf (934, .iadd, 1))) (.branch 936 (.leaf (935, .iaload, 1)) (.branch 937 (.leaf (936, .aload_n 0, 1)) (.leaf (937, .iload_n 3, 1)))))) (.branch 945 (.branch 940 (.branch 939 (.leaf (938, .iconst 3, 1)) (.leaf (939, .iadd, 1))) (.branch 941 (.leaf (940, .iaload, 1)) (.branch 944 (.leaf (941, .invokevirtual 103, 3)) (.leaf (944, .aload_n 2, 1))))) (.branch 947 (.branch 946 (.leaf (945, .aload_n 0, 1)) (.leaf (946, .iload_n 3, 1))) (.branch 948 (.leaf (947, .iconst 1, 1)) (.branch 949 (.leaf (948, .iadd, 1)) (.leaf (949, .iaload, 1))))))) (.branch 960 (.branch 955 (.branch 952 (.branch 951 (.leaf (950, .aload_n 0, 1)) (.leaf (951, .iload_n 3, 1))) (.branch 953 (.leaf (952, .iconst 2, 1)) (.branch 954 (.leaf (953, .iadd, 1)) (.leaf (954, .iaload, 1))))) (.branch 957 (.branch 956 (.leaf (955, .aload_n 0, 1)) (.leaf (956, .iload_n 3, 1))) (.branch 958 (.leaf (957, .iconst 3, 1)) (.branch 959 (.leaf (958, .iadd, 1)) (.leaf (959, .iaload, 1)))))) (.branch 969 (.branch 966 (.branch 963 (.leaf (960, .invokevirtual 106, 3)) (.leaf (963, .if_icmp .eq 745, 3))) (.branch 967 (.leaf (966, .iconst 0, 1)) (.branch 968 (.leaf (967, .ireturn, 1)) (.leaf (968, .aload_n 1, 1))))) (.branch 971 (.branch 970 (.leaf (969, .aload_n 0, 1)) (.leaf (970, .iload_n 3, 1))) (.branch 972 (.leaf (971, .iconst 1, 1)) (.branch 973 (.leaf (972, .iadd, 1)) (.leaf (973, .iaload, 1)))))))
def mc_240_16 : am_T := .branch 996 (.branch 984 (.branch 979 (.branch 976 (.branch 975 (.leaf (974, .aload_n 0, 1)) (.leaf (975, .iload_n 3, 1))) (.branch 977 (.leaf (976, .iconst 2, 1)) (.branch 978 (.leaf (977, .iadd, 1)) (.leaf (978, .iaload, 1))))) (.branch 981 (.branch 980 (.leaf (979, .aload_n 0, 1)) (.leaf (980, .iload_n 3, 1))) (.branch 982 (.leaf (981, .iconst 3, 1)) (.branch 983 (.leaf (982, .iadd, 1)) (.leaf (983, .iaload, 1)))))) (.branch 989 (.branch 986 (.branch 985 (.leaf (984, .aload_n 0, 1)) (.leaf (985, .iload_n 3, 1))) (.branch 987 (.leaf (986, .iconst 4, 1)) (.branch 988 (.leaf (987, .iadd, 1)) (.leaf (988, .iaload, 1))))) (.branch 993 (.branch 992 (.leaf (989, .invokevirtual 107, 3)) (.leaf (992, .aload_n 2, 1))) (.branch 994 (.leaf (993, .aload_n 0, 1)) (.branch 995 (.leaf (994, .iload_n 3, 1)) (.leaf (995, .iconst 1, 1))))))) (.branch 1006 (.branch 1001 (.branch 998 (.branch 997 (.leaf (996, .iadd, 1)) (.leaf (997, .iaload, 1))) (.branch 999 (.leaf (998, .aload_n 0, 1)) (.branch 1000 (.leaf (999, .iload_n 3, 1)) (.leaf (1000, .iconst 2, 1))))) (.branch 1003 (.branch 1002 (.leaf (1001, .iadd, 1)) (.leaf (1002, .iaload, 1))) (.branch 1004 (.leaf (1003, .aload_n 0, 1)) (.branch 1005 (.leaf (1004, .iload_n 3, 1)) (.leaf (1005, .iconst 3, 1)))))) (.branch 1011 (.branch 1008 (.branch 1007 (.leaf (1006, .iadd, 1)) (.leaf (1007, .iaload, 1))) (.branch 1009 (.leaf (1008, .aload_n 0, 1)) (.branch 1010 (.leaf (1009, .iload_n 3, 1)) (.leaf (1010, .iconst 4, 1))))) (.branch 1013 (.branch 1012 (.leaf (1011, .iadd, 1)) (.leaf (1012, .iaload, 1))) (.branch 1016 (.leaf (1013, .invokevirtual 110, 3)) (.branch 1019 (.leaf (1016, .if_icmp .eq 692, 3)) (.leaf (1019, .iconst 0, 1)))))))
def mc_240_17 : am_T := .branch 1040 (.branch 1030 (.branch 1025 (.branch 1022 (.branch 1021 (.leaf (1020, .ireturn, 1)) (.leaf (1021, .aload_n 1, 1))) (.branch 1023 (.leaf (1022, .aload_n 0, 1)) (.branch 1024 (.leaf (1023, .iload_n 3, 1)) (.leaf (1024, .iconst 1, 1))))) (.branch 1027 (.branch 1026 (.leaf (1025, .iadd, 1)) (.leaf (1026, .iaload, 1))) (.branch 1028 (.leaf (1027, .aload_n 0, 1)) (.branch 1029 (.leaf (1028, .iload_n 3, 1)) (.leaf (1029, .iconst 2, 1)))))) (.branch 1035 (.branch 1032 (.branch 1031 (.leaf (1030, .iadd, 1)) (.leaf (1031, .iaload, 1))) (.branch 1033 (.leaf (1032, .aload_n 0, 1)) (.branch 1034 (.leaf (1033, .iload_n 3, 1)) (.leaf (1034, .iconst 3, 1))))) (.branch 1037 (.branch 1036 (.leaf (1035, .iadd, 1)) (.leaf (1036, .iaload, 1))) (.branch 1038 (.leaf (1037, .aload_n 0, 1)) (.branch 1039 (.leaf (1038, .iload_n 3, 1)) (.leaf (1039, .iconst 4, 1))))))) (.branch 1052 (.branch 1047 (.branch 1042 (.branch 1041 (.leaf (1040, .iadd, 1)) (.leaf (1041, .iaload, 1))) (.branch 1045 (.leaf (1042, .invokevirtual 111, 3)) (.branch 1046 (.leaf (1045, .aload_n 2, 1)) (.leaf (1046, .aload_n 0, 1))))) (.branch 1049 (.branch 1048 (.leaf (1047, .iload_n 3, 1)) (.leaf (1048, .iconst 1, 1))) (.branch 1050 (.leaf (1049, .iadd, 1)) (.branch 1051 (.leaf (1050, .iaload, 1)) (.leaf (1051, .aload_n 0, 1)))))) (.branch 1057 (.branch 1054 (.branch 1053 (.leaf (1052, .iload_n 3, 1)) (.leaf (1053, .iconst 2, 1))) (.branch 1055 (.leaf (1054, .iadd, 1)) (.branch 1056 (.leaf (1055, .iaload, 1)) (.leaf (1056, .aload_n 0, 1))))) (.branch 1059 (.branch 1058 (.leaf (1057, .iload_n 3, 1)) (.leaf (1058, .iconst 3, 1))) (.branch 1060 (.leaf (1059, .iadd, 1)) (.branch 1061 (.leaf (1060, .iaload, 1)) (.leaf (1061, .aload_n 0, 1)))))))
def mc_240_18 : am_T := .branch 1086 (.branch 1076 (.branch 1069 (.branch 1064 (.branch 1063 (.leaf (1062, .iload_n 3, 1)) (.leaf (1063, .iconst 4, 1))) (.branch 1065 (.leaf (1064, .iadd, 1)) (.branch 1066 (.leaf (1065, .iaload, 1)) (.leaf (1066, .invokevirtual 114, 3))))) (.branch 1073 (.branch 1072 (.leaf (1069, .if_icmp .eq 639, 3)) (.leaf (1072, .iconst 0, 1))) (.branch 1074 (.leaf (1073, .ireturn, 1)) (.branch 1075 (.leaf (1074, .aload_n 1, 1)) (.leaf (1075, .aload_n 0, 1)))))) (.branch 1081 (.branch 1078 (.branch 1077 (.leaf (1076, .iload_n 3, 1)) (.leaf (1077, .iconst 1, 1))) (.branch 1079 (.leaf (1078, .iadd, 1)) (.branch 1080 (.leaf (1079, .iaload, 1)) (.leaf (1080, .aload_n 0, 1))))) (.branch 1083 (.branch 1082 (.leaf (1081, .iload_n 3, 1)) (.leaf (1082, .iconst 2, 1))) (.branch 1084 (.leaf (1083, .iadd, 1)) (.branch 1085 (.leaf (1084, .iaload, 1)) (.leaf (1085, .aload_n 0, 1))))))) (.branch 1098 (.branch 1093 (.branch 1088 (.branch 1087 (.leaf (1086, .iload_n 3, 1)) (.leaf (1087, .iconst 3, 1))) (.branch 1089 (.leaf (1088, .iadd, 1)) (.branch 1090 (.leaf (1089, .iaload, 1)) (.leaf (1090, .invokevirtual 115, 3))))) (.branch 1095 (.branch 1094 (.leaf (1093, .aload_n 2, 1)) (.leaf (1094, .aload_n 0, 1))) (.branch 1096 (.leaf (1095, .iload_n 3, 1)) (.branch 1097 (.leaf (1096, .iconst 1, 1)) (.leaf (1097, .iadd, 1)))))) (.branch 1103 (.branch 1100 (.branch 1099 (.leaf (1098, .iaload, 1)) (.leaf (1099, .aload_n 0, 1))) (.branch 1101 (.leaf (1100, .iload_n 3, 1)) (.branch 1102 (.leaf (1101, .iconst 2, 1)) (.leaf (1102, .iadd, 1))))) (.branch 1105 (.branch 1104 (.leaf (1103, .iaload, 1)) (.leaf (1104, .aload_n 0, 1))) (.branch 1106 (.leaf (1105, .iload_n 3, 1)) (.branch 1107 (.leaf (1106, .iconst 3, 1)) (.leaf (1107, .iadd, 1)))))))
def mc_240_19 : am_T := .branch 1134 (.branch 1122 (.branch 1117 (.branch 1112 (.branch 1109 (.leaf (1108, .iaload, 1)) (.leaf (1109, .invokevirtual 118, 3))) (.branch 1115 (.leaf (1112, .if_icmp .eq 596, 3)) (.branch 1116 (.leaf (1115, .iconst 0, 1)) (.leaf (1116, .ireturn, 1))))) (.branch 1119 (.branch 1118 (.leaf (1117, .aload_n 1, 1)) (.leaf (1118, .aload_n 0, 1))) (.branch 1120 (.leaf (1119, .iload_n 3, 1)) (.branch 1121 (.leaf (1120, .iconst 1, 1)) (.leaf (1121, .iadd, 1)))))) (.branch 1127 (.branch 1124 (.branch 1123 (.leaf (1122, .iaload, 1)) (.leaf (1123, .aload_n 0, 1))) (.branch 1125 (.leaf (1124, .iload_n 3, 1)) (.branch 1126 (.leaf (1125, .iconst 2, 1)) (.leaf (1126, .iadd, 1))))) (.branch 1131 (.branch 1128 (.leaf (1127, .iaload, 1)) (.leaf (1128, .invokevirtual 119, 3))) (.branch 1132 (.leaf (1131, .aload_n 2, 1)) (.branch 1133 (.leaf (1132, .aload_n 0, 1)) (.leaf (1133, .iload_n 3, 1))))))) (.branch 1148 (.branch 1139 (.branch 1136 (.branch 1135 (.leaf (1134, .iconst 1, 1)) (.leaf (1135, .iadd, 1))) (.branch 1137 (.leaf (1136, .iaload, 1)) (.branch 1138 (.leaf (1137, .aload_n 0, 1)) (.leaf (1138, .iload_n 3, 1))))) (.branch 1141 (.branch 1140 (.leaf (1139, .iconst 2, 1)) (.leaf (1140, .iadd, 1))) (.branch 1142 (.leaf (1141, .iaload, 1)) (.branch 1145 (.leaf (1142, .invokevirtual 122, 3)) (.leaf (1145, .if_icmp .eq 563, 3)))))) (.branch 1153 (.branch 1150 (.branch 1149 (.leaf (1148, .iconst 0, 1)) (.leaf (1149, .ireturn, 1))) (.branch 1151 (.leaf (1150, .aload_n 1, 1)) (.branch 1152 (.leaf (1151, .aload_n 0, 1)) (.leaf (1152, .iload_n 3, 1))))) (.branch 1155 (.branch 1154 (.leaf (1153, .iconst 1, 1)) (.leaf (1154, .iadd, 1))) (.branch 1156 (.leaf (1155, .iaload, 1)) (.branch 1157 (.leaf (1156, .aload_n 0, 1)) (.leaf (1157, .iload_n 3, 1)))))))
def mc_240_20 : am_T := .branch 1180 (.branch 1170 (.branch 1163 (.branch 1160 (.branch 1159 (.leaf (1158, .iconst 2, 1)) (.leaf (1159, .iadd, 1))) (.branch 1161 (.leaf (1160, .iaload, 1)) (.branch 1162 (.leaf (1161, .aload_n 0, 1)) (.leaf (1162, .iload_n 3, 1))))) (.branch 1165 (.branch 1164 (.leaf (1163, .iconst 3, 1)) (.leaf (1164, .iadd, 1))) (.branch 1166 (.leaf (1165, .iaload, 1)) (.branch 1169 (.leaf (1166, .invokevirtual 123, 3)) (.leaf (1169, .aload_n 2, 1)))))) (.branch 1175 (.branch 1172 (.branch 1171 (.leaf (1170, .aload_n 0, 1)) (.leaf (1171, .iload_n 3, 1))) (.branch 1173 (.leaf (1172, .iconst 1, 1)) (.branch 1174 (.leaf (1173, .iadd, 1)) (.leaf (1174, .iaload, 1))))) (.branch 1177 (.branch 1176 (.leaf (1175, .aload_n 0, 1)) (.leaf (1176, .iload_n 3, 1))) (.branch 1178 (.leaf (1177, .iconst 2, 1)) (.branch 1179 (.leaf (1178, .iadd, 1)) (.leaf (1179, .iaload, 1))))))) (.branch 1194 (.branch 1185 (.branch 1182 (.branch 1181 (.leaf (1180, .aload_n 0, 1)) (.leaf (1181, .iload_n 3, 1))) (.branch 1183 (.leaf (1182, .iconst 3, 1)) (.branch 1184 (.leaf (1183, .iadd, 1)) (.leaf (1184, .iaload, 1))))) (.branch 1191 (.branch 1188 (.leaf (1185, .invokevirtual 126, 3)) (.leaf (1188, .if_icmp .eq 520, 3))) (.branch 1192 (.leaf (1191, .iconst 0, 1)) (.branch 1193 (.leaf (1192, .ireturn, 1)) (.leaf (1193, .aload_n 1, 1)))))) (.branch 1199 (.branch 1196 (.branch 1195 (.leaf (1194, .aload_n 0, 1)) (.leaf (1195, .iload_n 3, 1))) (.branch 1197 (.leaf (1196, .iconst 1, 1)) (.branch 1198 (.leaf (1197, .iadd, 1)) (.leaf (1198, .iaload, 1))))) (.branch 1201 (.branch 1200 (.leaf (1199, .aload_n 0, 1)) (.leaf (1200, .iload_n 3, 1))) (.branch 1202 (.leaf (1201, .iconst 2, 1)) (.branch 1203 (.leaf (1202, .iadd, 1)) (.leaf (1203, .iaload, 1)))))))
def mc_240_21 : am_T := .branch 1226 (.branch 1216 (.branch 1209 (.branch 1206 (.branch 1205 (.leaf (1204, .aload_n 0, 1)) (.leaf (1205, .iload_n 3, 1))) (.branch 1207 (.leaf (1206, .iconst 3, 1)) (.branch 1208 (.leaf (1207, .iadd, 1)) (.leaf (1208, .iaload, 1))))) (.branch 1213 (.branch 1212 (.leaf (1209, .invokevirtual 127, 3)) (.leaf (1212, .aload_n 2, 1))) (.branch 1214 (.leaf (1213, .aload_n 0, 1)) (.branch 1215 (.leaf (1214, .iload_n 3, 1)) (.leaf (1215, .iconst 1, 1)))))) (.branch 1221 (.branch 1218 (.branch 1217 (.leaf (1216, .iadd, 1)) (.leaf (1217, .iaload, 1))) (.branch 1219 (.leaf (1218, .aload_n 0, 1)) (.branch 1220 (.leaf (1219, .iload_n 3, 1)) (.leaf (1220, .iconst 2, 1))))) (.branch 1223 (.branch 1222 (.leaf (1221, .iadd, 1)) (.leaf (1222, .iaload, 1))) (.branch 1224 (.leaf (1223, .aload_n 0, 1)) (.branch 1225 (.leaf (1224, .iload_n 3, 1)) (.leaf (1225, .iconst 3, 1))))))) (.branch 1240 (.branch 1235 (.branch 1228 (.branch 1227 (.leaf (1226, .iadd, 1)) (.leaf (1227, .iaload, 1))) (.branch 1231 (.leaf (1228, .invokevirtual 130, 3)) (.branch 1234 (.leaf (1231, .if_icmp .eq 477, 3)) (.leaf (1234, .iconst 0, 1))))) (.branch 1237 (.branch 1236 (.leaf (1235, .ireturn, 1)) (.leaf (1236, .aload_n 1, 1))) (.branch 1238 (.leaf (1237, .aload_n 0, 1)) (.branch 1239 (.leaf (1238, .iload_n 3, 1)) (.leaf (1239, .iconst 1, 1)))))) (.branch 1245 (.branch 1242 (.branch 1241 (.leaf (1240, .iadd, 1)) (.leaf (1241, .iaload, 1))) (.branch 1243 (.leaf (1242, .aload_n 0, 1)) (.branch 1244 (.leaf (1243, .iload_n 3, 1)) (.leaf (1244, .iconst 2, 1))))) (.branch 1247 (.branch 1246 (.leaf (1245, .iadd, 1)) (.leaf (1246, .iaload, 1))) (.branch 1250 (.leaf (1247, .invokevirtual 131, 3)) (.branch 1251 (.leaf (1250, .aload_n 2, 1)) (.leaf (1251, .aload_n 0, 1)))))))
def mc_240_22 : am_T := .branch 1282 (.branch 1264 (.branch 1257 (.branch 1254 (.branch 1253 (.leaf (1252, .iload_n 3, 1)) (.leaf (1253, .iconst 1, 1))) (.branch 1255 (.leaf (1254, .iadd, 1)) (.branch 1256 (.leaf (1255, .iaload, 1)) (.leaf (1256, .aload_n 0, 1))))) (.branch 1259 (.branch 1258 (.leaf (1257, .iload_n 3, 1)) (.leaf (1258, .iconst 2, 1))) (.branch 1260 (.leaf (1259, .iadd, 1)) (.branch 1261 (.leaf (1260, .iaload, 1)) (.leaf (1261, .invokevirtual 134, 3)))))) (.branch 1273 (.branch 1268 (.branch 1267 (.leaf (1264, .if_icmp .eq 444, 3)) (.leaf (1267, .iconst 0, 1))) (.branch 1269 (.leaf (1268, .ireturn, 1)) (.branch 1270 (.leaf (1269, .aload_n 1, 1)) (.leaf (1270, .invokevirtual 135, 3))))) (.branch 1277 (.branch 1274 (.leaf (1273, .aload_n 2, 1)) (.leaf (1274, .invokevirtual 139, 3))) (.branch 1278 (.leaf (1277, .lcmp, 1)) (.branch 1281 (.leaf (1278, .ifCond .eq 430, 3)) (.leaf (1281, .iconst 0, 1))))))) (.branch 1292 (.branch 1287 (.branch 1284 (.branch 1283 (.leaf (1282, .ireturn, 1)) (.leaf (1283, .aload_n 1, 1))) (.branch 1285 (.leaf (1284, .aload_n 0, 1)) (.branch 1286 (.leaf (1285, .iload_n 3, 1)) (.leaf (1286, .iconst 1, 1))))) (.branch 1289 (.branch 1288 (.leaf (1287, .iadd, 1)) (.leaf (1288, .iaload, 1))) (.branch 1290 (.leaf (1289, .aload_n 0, 1)) (.branch 1291 (.leaf (1290, .iload_n 3, 1)) (.leaf (1291, .iconst 2, 1)))))) (.branch 1299 (.branch 1294 (.branch 1293 (.leaf (1292, .iadd, 1)) (.leaf (1293, .iaload, 1))) (.branch 1297 (.leaf (1294, .invokevirtual 140, 3)) (.branch 1298 (.leaf (1297, .aload_n 2, 1)) (.leaf (1298, .aload_n 0, 1))))) (.branch 1301 (.branch 1300 (.leaf (1299, .iload_n 3, 1)) (.leaf (1300, .iconst 1, 1))) (.branch 1302 (.leaf (1301, .iadd, 1)) (.branch 1303 (.leaf (1302, .iaload, 1)) (.leaf (1303, .aload_n 0, 1)))))))
def mc_240_23 : am_T := .branch 1330 (.branch 1318 (.branch 1311 (.branch 1306 (.branch 1305 (.leaf (1304, .iload_n 3, 1)) (.leaf (1305, .iconst 2, 1))) (.branch 1307 (.leaf (1306, .iadd, 1)) (.branch 1308 (.leaf (1307, .iaload, 1)) (.leaf (1308, .invokevirtual 143, 3))))) (.branch 1315 (.branch 1314 (.leaf (1311, .if_icmp .eq 397, 3)) (.leaf (1314, .iconst 0, 1))) (.branch 1316 (.leaf (1315, .ireturn, 1)) (.branch 1317 (.leaf (1316, .aload_n 1, 1)) (.leaf (1317, .aload_n 0, 1)))))) (.branch 1323 (.branch 1320 (.branch 1319 (.leaf (1318, .iload_n 3, 1)) (.leaf (1319, .iconst 1, 1))) (.branch 1321 (.leaf (1320, .iadd, 1)) (.branch 1322 (.leaf (1321, .iaload, 1)) (.leaf (1322, .aload_n 0, 1))))) (.branch 1325 (.branch 1324 (.leaf (1323, .iload_n 3, 1)) (.leaf (1324, .iconst 2, 1))) (.branch 1326 (.leaf (1325, .iadd, 1)) (.branch 1327 (.leaf (1326, .iaload, 1)) (.leaf (1327, .invokevirtual 144, 3))))))) (.branch 1340 (.branch 1335 (.branch 1332 (.branch 1331 (.leaf (1330, .aload_n 2, 1)) (.leaf (1331, .aload_n 0, 1))) (.branch 1333 (.leaf (1332, .iload_n 3, 1)) (.branch 1334 (.leaf (1333, .iconst 1, 1)) (.leaf (1334, .iadd, 1))))) (.branch 1337 (.branch 1336 (.leaf (1335, .iaload, 1)) (.leaf (1336, .aload_n 0, 1))) (.branch 1338 (.leaf (1337, .iload_n 3, 1)) (.branch 1339 (.leaf (1338, .iconst 2, 1)) (.leaf (1339, .iadd, 1)))))) (.branch 1349 (.branch 1344 (.branch 1341 (.leaf (1340, .iaload, 1)) (.leaf (1341, .invokevirtual 147, 3))) (.branch 1347 (.leaf (1344, .if_icmp .eq 364, 3)) (.branch 1348 (.leaf (1347, .iconst 0, 1)) (.leaf (1348, .ireturn, 1))))) (.branch 1353 (.branch 1350 (.leaf (1349, .aload_n 1, 1)) (.leaf (1350, .invokevirtual 148, 3))) (.branch 1354 (.leaf (1353, .aload_n 2, 1)) (.branch 1357 (.leaf (1354, .invokevirtual 151, 3)) (.leaf (1357, .if_icmp .eq 351, 3)))))))
def mc_240_24 : am_T := .branch 1386 (.branch 1372 (.branch 1365 (.branch 1362 (.branch 1361 (.leaf (1360, .iconst 0, 1)) (.leaf (1361, .ireturn, 1))) (.branch 1363 (.leaf (1362, .aload_n 1, 1)) (.branch 1364 (.leaf (1363, .aload_n 0, 1)) (.leaf (1364, .iload_n 3, 1))))) (.branch 1367 (.branch 1366 (.leaf (1365, .iconst 1, 1)) (.leaf (1366, .iadd, 1))) (.branch 1368 (.leaf (1367, .iaload, 1)) (.branch 1371 (.leaf (1368, .invokevirtual 152, 3)) (.leaf (1371, .aload_n 2, 1)))))) (.branch 1377 (.branch 1374 (.branch 1373 (.leaf (1372, .aload_n 0, 1)) (.leaf (1373, .iload_n 3, 1))) (.branch 1375 (.leaf (1374, .iconst 1, 1)) (.branch 1376 (.leaf (1375, .iadd, 1)) (.leaf (1376, .iaload, 1))))) (.branch 1383 (.branch 1380 (.leaf (1377, .invokevirtual 155, 3)) (.leaf (1380, .if_icmp .eq 328, 3))) (.branch 1384 (.leaf (1383, .iconst 0, 1)) (.branch 1385 (.leaf (1384, .ireturn, 1)) (.leaf (1385, .aload_n 1, 1))))))) (.branch 1396 (.branch 1391 (.branch 1388 (.branch 1387 (.leaf (1386, .aload_n 0, 1)) (.leaf (1387, .iload_n 3, 1))) (.branch 1389 (.leaf (1388, .iconst 1, 1)) (.branch 1390 (.leaf (1389, .iadd, 1)) (.leaf (1390, .iaload, 1))))) (.branch 1393 (.branch 1392 (.leaf (1391, .aload_n 0, 1)) (.leaf (1392, .iload_n 3, 1))) (.branch 1394 (.leaf (1393, .iconst 2, 1)) (.branch 1395 (.leaf (1394, .iadd, 1)) (.leaf (1395, .iaload, 1)))))) (.branch 1401 (.branch 1398 (.branch 1397 (.leaf (1396, .aload_n 0, 1)) (.leaf (1397, .iload_n 3, 1))) (.branch 1399 (.leaf (1398, .iconst 3, 1)) (.branch 1400 (.leaf (1399, .iadd, 1)) (.leaf (1400, .iaload, 1))))) (.branch 1405 (.branch 1404 (.leaf (1401, .invokevirtual 156, 3)) (.leaf (1404, .aload_n 2, 1))) (.branch 1406 (.leaf (1405, .aload_n 0, 1)) (.branch 1407 (.leaf (1406, .iload_n 3, 1)) (.leaf (1407, .iconst 1, 1)))))))
def mc_240_25 : am_T := .branch 1432 (.branch 1418 (.branch 1413 (.branch 1410 (.branch 1409 (.leaf (1408, .iadd, 1)) (.leaf (1409, .iaload, 1))) (.branch 1411 (.leaf (1410, .aload_n 0, 1)) (.branch 1412 (.leaf (1411, .iload_n 3, 1)) (.leaf (1412, .iconst 2, 1))))) (.branch 1415 (.branch 1414 (.leaf (1413, .iadd, 1)) (.leaf (1414, .iaload, 1))) (.branch 1416 (.leaf (1415, .aload_n 0, 1)) (.branch 1417 (.leaf (1416, .iload_n 3, 1)) (.leaf (1417, .iconst 3, 1)))))) (.branch 1427 (.branch 1420 (.branch 1419 (.leaf (1418, .iadd, 1)) (.leaf (1419, .iaload, 1))) (.branch 1423 (.leaf (1420, .invokevirtual 159, 3)) (.branch 1426 (.leaf (1423, .if_icmp .eq 285, 3)) (.leaf (1426, .iconst 0, 1))))) (.branch 1429 (.branch 1428 (.leaf (1427, .ireturn, 1)) (.leaf (1428, .aload_n 1, 1))) (.branch 1430 (.leaf (1429, .aload_n 0, 1)) (.branch 1431 (.leaf (1430, .iload_n 3, 1)) (.leaf (1431, .iconst 1, 1))))))) (.branch 1442 (.branch 1437 (.branch 1434 (.branch 1433 (.leaf (1432, .iadd, 1)) (.leaf (1433, .iaload, 1))) (.branch 1435 (.leaf (1434, .aload_n 0, 1)) (.branch 1436 (.leaf (1435, .iload_n 3, 1)) (.leaf (1436, .iconst 2, 1))))) (.branch 1439 (.branch 1438 (.leaf (1437, .iadd, 1)) (.leaf (1438, .iaload, 1))) (.branch 1440 (.leaf (1439, .aload_n 0, 1)) (.branch 1441 (.leaf (1440, .iload_n 3, 1)) (.leaf (1441, .iconst 3, 1)))))) (.branch 1449 (.branch 1444 (.branch 1443 (.leaf (1442, .iadd, 1)) (.leaf (1443, .iaload, 1))) (.branch 1447 (.leaf (1444, .invokevirtual 160, 3)) (.branch 1448 (.leaf (1447, .aload_n 2, 1)) (.leaf (1448, .aload_n 0, 1))))) (.branch 1451 (.branch 1450 (.leaf (1449, .iload_n 3, 1)) (.leaf (1450, .iconst 1, 1))) (.branch 1452 (.leaf (1451, .iadd, 1)) (.branch 1453 (.leaf (1452, .iaload, 1)) (.leaf (1453, .aload_n 0, 1)))))))
def mc_240_26 : am_T := .branch 1480 (.branch 1466 (.branch 1459 (.branch 1456 (.branch 1455 (.leaf (1454, .iload_n 3, 1)) (.leaf (1455, .iconst 2, 1))) (.branch 1457 (.leaf (1456, .iadd, 1)) (.branch 1458 (.leaf (1457, .iaload, 1)) (.leaf (1458, .aload_n 0, 1))))) (.branch 1461 (.branch 1460 (.leaf (1459, .iload_n 3, 1)) (.leaf (1460, .iconst 3, 1))) (.branch 1462 (.leaf (1461, .iadd, 1)) (.branch 1463 (.leaf (1462, .iaload, 1)) (.leaf (1463, .invokevirtual 163, 3)))))) (.branch 1473 (.branch 1470 (.branch 1469 (.leaf (1466, .if_icmp .eq 242, 3)) (.leaf (1469, .iconst 0, 1))) (.branch 1471 (.leaf (1470, .ireturn, 1)) (.branch 1472 (.leaf (1471, .aload_n 1, 1)) (.leaf (1472, .aload_n 0, 1))))) (.branch 1475 (.branch 1474 (.leaf (1473, .iload_n 3, 1)) (.leaf (1474, .iconst 1, 1))) (.branch 1476 (.leaf (1475, .iadd, 1)) (.branch 1477 (.leaf (1476, .iaload, 1)) (.leaf (1477, .invokevirtual 164, 3))))))) (.branch 1494 (.branch 1485 (.branch 1482 (.branch 1481 (.leaf (1480, .aload_n 2, 1)) (.leaf (1481, .aload_n 0, 1))) (.branch 1483 (.leaf (1482, .iload_n 3, 1)) (.branch 1484 (.leaf (1483, .iconst 1, 1)) (.leaf (1484, .iadd, 1))))) (.branch 1489 (.branch 1486 (.leaf (1485, .iaload, 1)) (.leaf (1486, .invokevirtual 167, 3))) (.branch 1492 (.leaf (1489, .if_icmp .eq 219, 3)) (.branch 1493 (.leaf (1492, .iconst 0, 1)) (.leaf (1493, .ireturn, 1)))))) (.branch 1499 (.branch 1496 (.branch 1495 (.leaf (1494, .aload_n 1, 1)) (.leaf (1495, .aload_n 0, 1))) (.branch 1497 (.leaf (1496, .iload_n 3, 1)) (.branch 1498 (.leaf (1497, .iconst 1, 1)) (.leaf (1498, .iadd, 1))))) (.branch 1501 (.branch 1500 (.leaf (1499, .iaload, 1)) (.leaf (1500, .aload_n 0, 1))) (.branch 1502 (.leaf (1501, .iload_n 3, 1)) (.branch 1503 (.leaf (1502, .iconst 2, 1)) (.leaf (1503, .iadd, 1)))))))
def mc_240_27 : am_T := .branch 1530 (.branch 1516 (.branch 1511 (.branch 1508 (.branch 1505 (.leaf (1504, .iaload, 1)) (.leaf (1505, .invokevirtual 168, 3))) (.branch 1509 (.leaf (1508, .aload_n 2, 1)) (.branch 1510 (.leaf (1509, .aload_n 0, 1)) (.leaf (1510, .iload_n 3, 1))))) (.branch 1513 (.branch 1512 (.leaf (1511, .iconst 1, 1)) (.leaf (1512, .iadd, 1))) (.branch 1514 (.leaf (1513, .iaload, 1)) (.branch 1515 (.leaf (1514, .aload_n 0, 1)) (.leaf (1515, .iload_n 3, 1)))))) (.branch 1525 (.branch 1518 (.branch 1517 (.leaf (1516, .iconst 2, 1)) (.leaf (1517, .iadd, 1))) (.branch 1519 (.leaf (1518, .iaload, 1)) (.branch 1522 (.leaf (1519, .invokevirtual 171, 3)) (.leaf (1522, .if_icmp .eq 186, 3))))) (.branch 1527 (.branch 1526 (.leaf (1525, .iconst 0, 1)) (.leaf (1526, .ireturn, 1))) (.branch 1528 (.leaf (1527, .aload_n 1, 1)) (.branch 1529 (.leaf (1528, .aload_n 0, 1)) (.leaf (1529, .iload_n 3, 1))))))) (.branch 1540 (.branch 1535 (.branch 1532 (.branch 1531 (.leaf (1530, .iconst 1, 1)) (.leaf (1531, .iadd, 1))) (.branch 1533 (.leaf (1532, .iaload, 1)) (.branch 1534 (.leaf (1533, .aload_n 0, 1)) (.leaf (1534, .iload_n 3, 1))))) (.branch 1537 (.branch 1536 (.leaf (1535, .iconst 2, 1)) (.leaf (1536, .iadd, 1))) (.branch 1538 (.leaf (1537, .iaload, 1)) (.branch 1539 (.leaf (1538, .aload_n 0, 1)) (.leaf (1539, .iload_n 3, 1)))))) (.branch 1547 (.branch 1542 (.branch 1541 (.leaf (1540, .iconst 3, 1)) (.leaf (1541, .iadd, 1))) (.branch 1543 (.leaf (1542, .iaload, 1)) (.branch 1546 (.leaf (1543, .invokevirtual 172, 3)) (.leaf (1546, .aload_n 2, 1))))) (.branch 1549 (.branch 1548 (.leaf (1547, .aload_n 0, 1)) (.leaf (1548, .iload_n 3, 1))) (.branch 1550 (.leaf (1549, .iconst 1, 1)) (.branch 1551 (.leaf (1550, .iadd, 1)) (.leaf (1551, .iaload, 1)))))))
def mc_240_28 : am_T := .branch 1576 (.branch 1562 (.branch 1557 (.branch 1554 (.branch 1553 (.leaf (1552, .aload_n 0, 1)) (.leaf (1553, .iload_n 3, 1))) (.branch 1555 (.leaf (1554, .iconst 2, 1)) (.branch 1556 (.leaf (1555, .iadd, 1)) (.leaf (1556, .iaload, 1))))) (.branch 1559 (.branch 1558 (.leaf (1557, .aload_n 0, 1)) (.leaf (1558, .iload_n 3, 1))) (.branch 1560 (.leaf (1559, .iconst 3, 1)) (.branch 1561 (.leaf (1560, .iadd, 1)) (.leaf (1561, .iaload, 1)))))) (.branch 1571 (.branch 1568 (.branch 1565 (.leaf (1562, .invokevirtual 175, 3)) (.leaf (1565, .if_icmp .eq 143, 3))) (.branch 1569 (.leaf (1568, .iconst 0, 1)) (.branch 1570 (.leaf (1569, .ireturn, 1)) (.leaf (1570, .aload_n 1, 1))))) (.branch 1573 (.branch 1572 (.leaf (1571, .aload_n 0, 1)) (.leaf (1572, .iload_n 3, 1))) (.branch 1574 (.leaf (1573, .iconst 1, 1)) (.branch 1575 (.leaf (1574, .iadd, 1)) (.leaf (1575, .iaload, 1))))))) (.branch 1586 (.branch 1581 (.branch 1578 (.branch 1577 (.leaf (1576, .aload_n 0, 1)) (.leaf (1577, .iload_n 3, 1))) (.branch 1579 (.leaf (1578, .iconst 2, 1)) (.branch 1580 (.leaf (1579, .iadd, 1)) (.leaf (1580, .iaload, 1))))) (.branch 1583 (.branch 1582 (.leaf (1581, .aload_n 0, 1)) (.leaf (1582, .iload_n 3, 1))) (.branch 1584 (.leaf (1583, .iconst 3, 1)) (.branch 1585 (.leaf (1584, .iadd, 1)) (.leaf (1585, .iaload, 1)))))) (.branch 1593 (.branch 1590 (.branch 1589 (.leaf (1586, .invokevirtual 176, 3)) (.leaf (1589, .aload_n 2, 1))) (.branch 1591 (.leaf (1590, .aload_n 0, 1)) (.branch 1592 (.leaf (1591, .iload_n 3, 1)) (.leaf (1592, .iconst 1, 1))))) (.branch 1595 (.branch 1594 (.leaf (1593, .iadd, 1)) (.leaf (1594, .iaload, 1))) (.branch 1596 (.leaf (1595, .aload_n 0, 1)) (.branch 1597 (.leaf (1596, .iload_n 3, 1)) (.leaf (1597, .iconst 2, 1)))))))
def mc_240_29 : am_T := .branch 1624 (.branch 1612 (.branch 1603 (.branch 1600 (.branch 1599 (.leaf (1598, .iadd, 1)) (.leaf (1599, .iaload, 1))) (.branch 1601 (.leaf (1600, .aload_n 0, 1)) (.branch 1602 (.leaf (1601, .iload_n 3, 1)) (.leaf (1602, .iconst 3, 1))))) (.branch 1605 (.branch 1604 (.leaf (1603, .iadd, 1)) (.leaf (1604, .iaload, 1))) (.branch 1608 (.leaf (1605, .invokevirtual 179, 3)) (.branch 1611 (.leaf (1608, .if_icmp .eq 100, 3)) (.leaf (1611, .iconst 0, 1)))))) (.branch 1617 (.branch 1614 (.branch 1613 (.leaf (1612, .ireturn, 1)) (.leaf (1613, .aload_n 1, 1))) (.branch 1615 (.leaf (1614, .aload_n 0, 1)) (.branch 1616 (.leaf (1615, .iload_n 3, 1)) (.leaf (1616, .iconst 1, 1))))) (.branch 1619 (.branch 1618 (.leaf (1617, .iadd, 1)) (.leaf (1618, .iaload, 1))) (.branch 1622 (.leaf (1619, .invokevirtual 180, 3)) (.branch 1623 (.leaf (1622, .aload_n 2, 1)) (.leaf (1623, .aload_n 0, 1))))))) (.branch 1638 (.branch 1631 (.branch 1626 (.branch 1625 (.leaf (1624, .iload_n 3, 1)) (.leaf (1625, .iconst 1, 1))) (.branch 1627 (.leaf (1626, .iadd, 1)) (.branch 1628 (.leaf (1627, .iaload, 1)) (.leaf (1628, .invokevirtual 183, 3))))) (.branch 1635 (.branch 1634 (.leaf (1631, .if_icmp .eq 77, 3)) (.leaf (1634, .iconst 0, 1))) (.branch 1636 (.leaf (1635, .ireturn, 1)) (.branch 1637 (.leaf (1636, .aload_n 1, 1)) (.leaf (1637, .aload_n 0, 1)))))) (.branch 1645 (.branch 1640 (.branch 1639 (.leaf (1638, .iload_n 3, 1)) (.leaf (1639, .iconst 1, 1))) (.branch 1641 (.leaf (1640, .iadd, 1)) (.branch 1642 (.leaf (1641, .iaload, 1)) (.leaf (1642, .invokevirtual 184, 3))))) (.branch 1647 (.branch 1646 (.leaf (1645, .aload_n 2, 1)) (.leaf (1646, .aload_n 0, 1))) (.branch 1648 (.leaf (1647, .iload_n 3, 1)) (.branch 1649 (.leaf (1648, .iconst 1, 1)) (.leaf (1649, .iadd, 1)))))))
def mc_240_30 : am_T := .branch 1686 (.branch 1670 (.branch 1659 (.branch 1654 (.branch 1651 (.leaf (1650, .iaload, 1)) (.leaf (1651, .invokevirtual 187, 3))) (.branch 1657 (.leaf (1654, .if_icmp .eq 54, 3)) (.branch 1658 (.leaf (1657, .iconst 0, 1)) (.leaf (1658, .ireturn, 1))))) (.branch 1663 (.branch 1660 (.leaf (1659, .aload_n 1, 1)) (.leaf (1660, .invokevirtual 188, 3))) (.branch 1664 (.leaf (1663, .aload_n 2, 1)) (.branch 1667 (.leaf (1664, .invokevirtual 191, 3)) (.leaf (1667, .if_icmp .eq 41, 3)))))) (.branch 1677 (.branch 1672 (.branch 1671 (.leaf (1670, .iconst 0, 1)) (.leaf (1671, .ireturn, 1))) (.branch 1673 (.leaf (1672, .aload_n 1, 1)) (.branch 1676 (.leaf (1673, .invokevirtual 192, 3)) (.leaf (1676, .aload_n 2, 1))))) (.branch 1683 (.branch 1680 (.leaf (1677, .invokevirtual 195, 3)) (.leaf (1680, .if_icmp .eq 28, 3))) (.branch 1684 (.leaf (1683, .iconst 0, 1)) (.branch 1685 (.leaf (1684, .ireturn, 1)) (.leaf (1685, .aload_n 1, 1))))))) (.branch 1698 (.branch 1691 (.branch 1688 (.branch 1687 (.leaf (1686, .aload_n 0, 1)) (.leaf (1687, .iload_n 3, 1))) (.branch 1689 (.leaf (1688, .iconst 1, 1)) (.branch 1690 (.leaf (1689, .iadd, 1)) (.leaf (1690, .iaload, 1))))) (.branch 1695 (.branch 1694 (.leaf (1691, .invokevirtual 196, 3)) (.leaf (1694, .aload_n 2, 1))) (.branch 1696 (.leaf (1695, .aload_n 0, 1)) (.branch 1697 (.leaf (1696, .iload_n 3, 1)) (.leaf (1697, .iconst 1, 1)))))) (.branch 1707 (.branch 1700 (.branch 1699 (.leaf (1698, .iadd, 1)) (.leaf (1699, .iaload, 1))) (.branch 1703 (.leaf (1700, .invokevirtual 199, 3)) (.branch 1706 (.leaf (1703, .if_icmp .eq 5, 3)) (.leaf (1706, .iconst 0, 1))))) (.branch 1711 (.branch 1708 (.leaf (1707, .ireturn, 1)) (.leaf (1708, .iinc 3 6, 3))) (.branch 1714 (.leaf (1711, .goto (-1693), 3)) (.branch 1715 (.leaf (1714, .iconst 1, 1)) (.leaf (1715, .ireturn, 1)))))))
def mc_240 : am_T := .branch 928 (.branch 530 (.branch 340 (.branch 244 (mc_240_0) (.branch 289 (mc_240_1) (mc_240_2))) (.branch 428 (.branch 382 (mc_240_3) (mc_240_4)) (.branch 480 (mc_240_5) (mc_240_6)))) (.branch 728 (.branch 628 (.branch 582 (mc_240_7) (mc_240_8)) (.branch 674 (mc_240_9) (mc_240_10))) (.branch 832 (.branch 784 (mc_240_11) (mc_240_12)) (.branch 878 (mc_240_13) (mc_240_14))))) (.branch 1304 (.branch 1108 (.branch 1020 (.branch 974 (mc_240_15) (mc_240_16)) (.branch 1062 (mc_240_17) (mc_240_18))) (.branch 1204 (.branch 1158 (mc_240_19) (mc_240_20)) (.branch 1252 (mc_240_21) (mc_240_22)))) (.branch 1504 (.branch 1408 (.branch 1360 (mc_240_23) (mc_240_24)) (.branch 1454 (mc_240_25) (mc_240_26))) (.branch 1598 (.branch 1552 (mc_240_27) (mc_240_28)) (.branch 1650 (mc_240_29) (mc_240_30)))))
/-- a method: its class, how many places its frame has, what it answers (0 nothing, 1 int, 2 long, 3 a reference, 4 a boolean), its rank, its code -/
def am_mt : Lean.RArray (Nat × Nat × Nat × Nat × am_T) := .branch 120 (.branch 60 (.branch 30 (.branch 15 (.branch 7 (.branch 3 (.branch 1 (.leaf (0, 3, 0, 2, mc_0)) (.branch 2 (.leaf (0, 4, 4, 17, mc_1)) (.leaf (0, 4, 4, 4, mc_2)))) (.branch 5 (.branch 4 (.leaf (0, 4, 4, 4, mc_3)) (.leaf (1, 2, 0, 1, mc_4))) (.branch 6 (.leaf (1, 5, 1, 5, mc_5)) (.leaf (1, 4, 1, 5, mc_6))))) (.branch 11 (.branch 9 (.branch 8 (.leaf (1, 9, 1, 5, mc_7)) (.leaf (1, 5, 1, 1, mc_8))) (.branch 10 (.leaf (1, 5, 0, 4, mc_9)) (.leaf (1, 6, 0, 3, mc_10)))) (.branch 13 (.branch 12 (.leaf (1, 8, 0, 2, mc_11)) (.leaf (1, 3, 0, 0, mc_12))) (.branch 14 (.leaf (1, 7, 0, 3, mc_13)) (.leaf (1, 7, 0, 2, mc_14)))))) (.branch 22 (.branch 18 (.branch 16 (.leaf (1, 3, 0, 0, mc_15)) (.branch 17 (.leaf (1, 9, 0, 1, mc_16)) (.leaf (1, 10, 1, 6, mc_17)))) (.branch 20 (.branch 19 (.leaf (1, 9, 0, 2, mc_18)) (.leaf (1, 6, 1, 2, mc_19))) (.branch 21 (.leaf (1, 7, 1, 1, mc_20)) (.leaf (1, 1, 1, 0, mc_21))))) (.branch 26 (.branch 24 (.branch 23 (.leaf (2, 1, 0, 1, mc_22)) (.leaf (2, 1, 4, 0, mc_23))) (.branch 25 (.leaf (2, 1, 4, 0, mc_24)) (.leaf (2, 1, 4, 0, mc_25)))) (.branch 28 (.branch 27 (.leaf (2, 1, 1, 1, mc_26)) (.leaf (2, 1, 0, 0, mc_27))) (.branch 29 (.leaf (2, 2, 0, 0, mc_28)) (.leaf (2, 3, 0, 1, mc_29))))))) (.branch 45 (.branch 37 (.branch 33 (.branch 31 (.leaf (2, 3, 4, 0, mc_30)) (.branch 32 (.leaf (2, 4, 0, 1, mc_31)) (.leaf (2, 3, 2, 0, mc_32)))) (.branch 35 (.branch 34 (.leaf (3, 1, 0, 3, mc_33)) (.leaf (3, 3, 1, 7, mc_34))) (.branch 36 (.leaf (3, 1, 0, 6, mc_35)) (.leaf (3, 2, 0, 3, mc_36))))) (.branch 41 (.branch 39 (.branch 38 (.leaf (3, 4, 0, 3, mc_37)) (.leaf (3, 3, 0, 3, mc_38))) (.branch 40 (.leaf (3, 5, 0, 5, mc_39)) (.leaf (3, 2, 0, 3, mc_40)))) (.branch 43 (.branch 42 (.leaf (3, 4, 1, 2, mc_41)) (.leaf (3, 3, 1, 0, mc_42))) (.branch 44 (.leaf (3, 3, 4, 4, mc_43)) (.leaf (3, 3, 0, 1, mc_44)))))) (.branch 52 (.branch 48 (.branch 46 (.leaf (3, 3, 1, 0, mc_45)) (.branch 47 (.leaf (4, 1, 0, 1, mc_46)) (.leaf (4, 2, 0, 0, mc_47)))) (.branch 50 (.branch 49 (.leaf (4, 2, 4, 0, mc_48)) (.leaf (4, 2, 4, 0, mc_49))) (.branch 51 (.leaf (4, 1, 4, 1, mc_50)) (.leaf (4, 2, 1, 1, mc_51))))) (.branch 56 (.branch 54 (.branch 53 (.leaf (5, 2, 0, 2, mc_52)) (.leaf (5, 3, 0, 1, mc_53))) (.branch 55 (.leaf (5, 2, 4, 0, mc_54)) (.leaf (5, 2, 4, 0, mc_55)))) (.branch 58 (.branch 57 (.leaf (5, 3, 4, 1, mc_56)) (.leaf (5, 3, 4, 1, mc_57))) (.branch 59 (.leaf (5, 2, 4, 0, mc_58)) (.leaf (5, 3, 4, 1, mc_59)))))))) (.branch 90 (.branch 75 (.branch 67 (.branch 63 (.branch 61 (.leaf (5, 1, 4, 0, mc_60)) (.branch 62 (.leaf (5, 2, 1, 0, mc_61)) (.leaf (5, 3, 1, 0, mc_62)))) (.branch 65 (.branch 64 (.leaf (5, 6, 1, 1, mc_63)) (.leaf (5, 4, 1, 0, mc_64))) (.branch 66 (.leaf (5, 3, 1, 0, mc_65)) (.leaf (5, 2, 1, 1, mc_66))))) (.branch 71 (.branch 69 (.branch 68 (.leaf (5, 3, 1, 0, mc_67)) (.leaf (5, 4, 1, 1, mc_68))) (.branch 70 (.leaf (5, 5, 1, 1, mc_69)) (.leaf (5, 2, 1, 1, mc_70)))) (.branch 73 (.branch 72 (.leaf (5, 7, 1, 1, mc_71)) (.leaf (5, 4, 4, 2, mc_72))) (.branch 74 (.leaf (5, 4, 0, 2, mc_73)) (.leaf (5, 2, 0, 1, mc_74)))))) (.branch 82 (.branch 78 (.branch 76 (.leaf (5, 3, 1, 1, mc_75)) (.branch 77 (.leaf (5, 5, 4, 3, mc_76)) (.leaf (5, 5, 1, 2, mc_77)))) (.branch 80 (.branch 79 (.leaf (5, 5, 1, 1, mc_78)) (.leaf (5, 5, 4, 3, mc_79))) (.branch 81 (.leaf (5, 2, 1, 0, mc_80)) (.leaf (5, 3, 1, 2, mc_81))))) (.branch 86 (.branch 84 (.branch 83 (.leaf (5, 2, 1, 1, mc_82)) (.leaf (6, 2, 0, 4, mc_83))) (.branch 85 (.leaf (6, 4, 1, 2, mc_84)) (.leaf (6, 7, 1, 2, mc_85)))) (.branch 88 (.branch 87 (.leaf (6, 9, 1, 1, mc_86)) (.leaf (6, 3, 2, 1, mc_87))) (.branch 89 (.leaf (6, 2, 1, 1, mc_88)) (.leaf (6, 3, 1, 1, mc_89))))))) (.branch 105 (.branch 97 (.branch 93 (.branch 91 (.leaf (6, 6, 1, 3, mc_90)) (.branch 92 (.leaf (6, 3, 1, 1, mc_91)) (.leaf (6, 4, 1, 1, mc_92)))) (.branch 95 (.branch 94 (.leaf (6, 4, 1, 1, mc_93)) (.leaf (6, 5, 1, 2, mc_94))) (.branch 96 (.leaf (6, 4, 1, 1, mc_95)) (.leaf (6, 2, 1, 1, mc_96))))) (.branch 101 (.branch 99 (.branch 98 (.leaf (6, 2, 1, 0, mc_97)) (.leaf (6, 2, 1, 8, mc_98))) (.branch 100 (.leaf (6, 4, 1, 1, mc_99)) (.leaf (6, 3, 1, 1, mc_100)))) (.branch 103 (.branch 102 (.leaf (6, 4, 1, 3, mc_101)) (.leaf (6, 5, 1, 2, mc_102))) (.branch 104 (.leaf (6, 3, 1, 2, mc_103)) (.leaf (6, 5, 1, 5, mc_104)))))) (.branch 112 (.branch 108 (.branch 106 (.leaf (6, 6, 1, 5, mc_105)) (.branch 107 (.leaf (6, 6, 1, 5, mc_106)) (.leaf (6, 4, 1, 6, mc_107)))) (.branch 110 (.branch 109 (.leaf (6, 3, 1, 6, mc_108)) (.leaf (6, 5, 1, 7, mc_109))) (.branch 111 (.leaf (6, 4, 1, 6, mc_110)) (.leaf (6, 7, 1, 2, mc_111))))) (.branch 116 (.branch 114 (.branch 113 (.leaf (6, 5, 2, 1, mc_112)) (.leaf (6, 8, 1, 2, mc_113))) (.branch 115 (.leaf (6, 3, 1, 3, mc_114)) (.leaf (6, 3, 1, 1, mc_115)))) (.branch 118 (.branch 117 (.leaf (6, 3, 1, 4, mc_116)) (.leaf (6, 6, 1, 6, mc_117))) (.branch 119 (.leaf (6, 4, 1, 18, mc_118)) (.leaf (6, 2, 1, 3, mc_119))))))))) (.branch 180 (.branch 150 (.branch 135 (.branch 127 (.branch 123 (.branch 121 (.leaf (6, 5, 1, 3, mc_120)) (.branch 122 (.leaf (6, 7, 1, 2, mc_121)) (.leaf (6, 7, 1, 3, mc_122)))) (.branch 125 (.branch 124 (.leaf (6, 5, 1, 2, mc_123)) (.leaf (6, 3, 1, 0, mc_124))) (.branch 126 (.leaf (6, 1, 1, 2, mc_125)) (.leaf (6, 2, 1, 2, mc_126))))) (.branch 131 (.branch 129 (.branch 128 (.leaf (6, 2, 1, 2, mc_127)) (.leaf (6, 3, 1, 0, mc_128))) (.branch 130 (.leaf (6, 2, 1, 0, mc_129)) (.leaf (6, 3, 1, 1, mc_130)))) (.branch 133 (.branch 132 (.leaf (6, 5, 1, 1, mc_131)) (.leaf (6, 4, 1, 2, mc_132))) (.branch 134 (.leaf (6, 5, 1, 4, mc_133)) (.leaf (6, 6, 1, 4, mc_134)))))) (.branch 142 (.branch 138 (.branch 136 (.leaf (6, 10, 1, 2, mc_135)) (.branch 137 (.leaf (6, 12, 4, 1, mc_136)) (.leaf (6, 4, 4, 1, mc_137)))) (.branch 140 (.branch 139 (.leaf (6, 3, 4, 1, mc_138)) (.leaf (6, 1, 3, 2, mc_139))) (.branch 141 (.leaf (6, 1, 4, 0, mc_140)) (.leaf (6, 1, 4, 0, mc_141))))) (.branch 146 (.branch 144 (.branch 143 (.leaf (6, 1, 4, 0, mc_142)) (.leaf (6, 1, 4, 0, mc_143))) (.branch 145 (.leaf (6, 1, 4, 0, mc_144)) (.leaf (6, 2, 1, 0, mc_145)))) (.branch 148 (.branch 147 (.leaf (6, 4, 2, 0, mc_146)) (.leaf (7, 2, 0, 1, mc_147))) (.branch 149 (.leaf (7, 2, 1, 0, mc_148)) (.leaf (7, 3, 4, 0, mc_149))))))) (.branch 165 (.branch 157 (.branch 153 (.branch 151 (.leaf (7, 2, 4, 0, mc_150)) (.branch 152 (.leaf (7, 2, 4, 1, mc_151)) (.leaf (7, 3, 4, 2, mc_152)))) (.branch 155 (.branch 154 (.leaf (7, 2, 4, 1, mc_153)) (.leaf (7, 2, 4, 1, mc_154))) (.branch 156 (.leaf (7, 5, 1, 1, mc_155)) (.leaf (7, 2, 1, 1, mc_156))))) (.branch 161 (.branch 159 (.branch 158 (.leaf (7, 8, 1, 2, mc_157)) (.leaf (7, 7, 1, 2, mc_158))) (.branch 160 (.leaf (7, 3, 2, 2, mc_159)) (.leaf (7, 2, 1, 1, mc_160)))) (.branch 163 (.branch 162 (.leaf (7, 3, 1, 2, mc_161)) (.leaf (7, 2, 4, 0, mc_162))) (.branch 164 (.leaf (7, 6, 1, 2, mc_163)) (.leaf (7, 4, 1, 0, mc_164)))))) (.branch 172 (.branch 168 (.branch 166 (.leaf (7, 3, 1, 1, mc_165)) (.branch 167 (.leaf (7, 4, 1, 2, mc_166)) (.leaf (7, 4, 1, 1, mc_167)))) (.branch 170 (.branch 169 (.leaf (7, 5, 1, 0, mc_168)) (.leaf (7, 5, 1, 2, mc_169))) (.branch 171 (.leaf (7, 4, 1, 2, mc_170)) (.leaf (7, 2, 1, 1, mc_171))))) (.branch 176 (.branch 174 (.branch 173 (.leaf (7, 2, 1, 0, mc_172)) (.leaf (7, 1, 4, 0, mc_173))) (.branch 175 (.leaf (7, 1, 4, 0, mc_174)) (.leaf (7, 2, 0, 1, mc_175)))) (.branch 178 (.branch 177 (.leaf (7, 3, 4, 4, mc_176)) (.leaf (7, 3, 4, 2, mc_177))) (.branch 179 (.leaf (7, 4, 4, 5, mc_178)) (.leaf (7, 3, 1, 6, mc_179)))))))) (.branch 210 (.branch 195 (.branch 187 (.branch 183 (.branch 181 (.leaf (7, 3, 1, 2, mc_180)) (.branch 182 (.leaf (7, 3, 1, 2, mc_181)) (.leaf (7, 2, 0, 0, mc_182)))) (.branch 185 (.branch 184 (.leaf (7, 3, 4, 0, mc_183)) (.leaf (7, 3, 1, 0, mc_184))) (.branch 186 (.leaf (7, 1, 1, 1, mc_185)) (.leaf (7, 4, 1, 0, mc_186))))) (.branch 191 (.branch 189 (.branch 188 (.leaf (7, 3, 4, 0, mc_187)) (.leaf (7, 3, 1, 1, mc_188))) (.branch 190 (.leaf (7, 3, 4, 2, mc_189)) (.leaf (7, 5, 0, 2, mc_190)))) (.branch 193 (.branch 192 (.leaf (7, 3, 0, 3, mc_191)) (.leaf (7, 3, 1, 3, mc_192))) (.branch 194 (.leaf (7, 6, 1, 2, mc_193)) (.leaf (7, 3, 1, 3, mc_194)))))) (.branch 202 (.branch 198 (.branch 196 (.leaf (7, 5, 1, 2, mc_195)) (.branch 197 (.leaf (7, 9, 1, 4, mc_196)) (.leaf (7, 6, 1, 5, mc_197)))) (.branch 200 (.branch 199 (.leaf (7, 8, 1, 5, mc_198)) (.leaf (7, 7, 1, 5, mc_199))) (.branch 201 (.leaf (7, 4, 1, 0, mc_200)) (.leaf (7, 4, 0, 1, mc_201))))) (.branch 206 (.branch 204 (.branch 203 (.leaf (7, 7, 0, 1, mc_202)) (.leaf (7, 9, 0, 2, mc_203))) (.branch 205 (.leaf (7, 3, 1, 0, mc_204)) (.leaf (7, 10, 1, 3, mc_205)))) (.branch 208 (.branch 207 (.leaf (7, 5, 1, 4, mc_206)) (.leaf (7, 3, 1, 4, mc_207))) (.branch 209 (.leaf (7, 4, 1, 0, mc_208)) (.leaf (7, 12, 1, 4, mc_209))))))) (.branch 225 (.branch 217 (.branch 213 (.branch 211 (.leaf (7, 9, 1, 2, mc_210)) (.branch 212 (.leaf (7, 13, 1, 3, mc_211)) (.leaf (7, 6, 1, 2, mc_212)))) (.branch 215 (.branch 214 (.leaf (7, 10, 2, 0, mc_213)) (.leaf (7, 8, 1, 3, mc_214))) (.branch 216 (.leaf (7, 6, 1, 2, mc_215)) (.leaf (7, 3, 1, 1, mc_216))))) (.branch 221 (.branch 219 (.branch 218 (.leaf (7, 5, 1, 1, mc_217)) (.leaf (7, 12, 1, 3, mc_218))) (.branch 220 (.leaf (7, 16, 4, 4, mc_219)) (.leaf (7, 4, 1, 17, mc_220)))) (.branch 223 (.branch 222 (.leaf (7, 6, 1, 1, mc_221)) (.leaf (7, 2, 1, 2, mc_222))) (.branch 224 (.leaf (7, 4, 1, 4, mc_223)) (.leaf (7, 4, 1, 3, mc_224)))))) (.branch 233 (.branch 229 (.branch 227 (.branch 226 (.leaf (7, 6, 1, 3, mc_225)) (.leaf (7, 2, 1, 0, mc_226))) (.branch 228 (.leaf (7, 4, 1, 1, mc_227)) (.leaf (7, 3, 1, 0, mc_228)))) (.branch 231 (.branch 230 (.leaf (7, 3, 0, 0, mc_229)) (.leaf (7, 3, 0, 0, mc_230))) (.branch 232 (.leaf (7, 1, 1, 1, mc_231)) (.leaf (7, 2, 1, 1, mc_232))))) (.branch 237 (.branch 235 (.branch 234 (.leaf (7, 4, 1, 1, mc_233)) (.leaf (8, 1, 1, 0, mc_234))) (.branch 236 (.leaf (9, 1, 1, 0, mc_235)) (.leaf (9, 2, 1, 0, mc_236)))) (.branch 239 (.branch 238 (.leaf (9, 2, 1, 0, mc_237)) (.leaf (10, 5, 0, 0, mc_238))) (.branch 240 (.leaf (10, 4, 0, 0, mc_239)) (.leaf (11, 4, 4, 19, mc_240)))))))))
def am_by : Lean.RArray ByteArray := .branch 120 (.branch 60 (.branch 30 (.branch 15 (.branch 7 (.branch 3 (.branch 1 (.leaf cX0_init) (.branch 2 (.leaf cX0_isWon) (.leaf cX0_catches))) (.branch 5 (.branch 4 (.leaf cX0_catchesAll) (.leaf cX1_init)) (.branch 6 (.leaf cX1_fewestDrops) (.leaf cX1_firstStep)))) (.branch 11 (.branch 9 (.branch 8 (.leaf cX1_dropsThrough) (.leaf cX1_keepOnly)) (.branch 10 (.leaf cX1_prepare) (.leaf cX1_chart))) (.branch 13 (.branch 12 (.leaf cX1_chartChange) (.leaf cX1_gather)) (.branch 14 (.leaf cX1_visit) (.leaf cX1_arrive))))) (.branch 22 (.branch 18 (.branch 16 (.leaf cX1_finish) (.branch 17 (.leaf cX1_spread) (.leaf cX1_codeOfWay))) (.branch 20 (.branch 19 (.leaf cX1_setToGo) (.leaf cX1_firstBestCode)) (.branch 21 (.leaf cX1_dropsBy) (.leaf cX1_slotOf)))) (.branch 26 (.branch 24 (.branch 23 (.leaf cX2_init) (.leaf cX2_isEmpty)) (.branch 25 (.leaf cX2_isShip) (.leaf cX2_isRow))) (.branch 28 (.branch 27 (.leaf cX2_shipNumber) (.leaf cX2_beEmpty)) (.branch 29 (.leaf cX2_beShip) (.leaf cX2_beRow)))))) (.branch 45 (.branch 37 (.branch 33 (.branch 31 (.leaf cX2_hasPart) (.branch 32 (.leaf cX2_put) (.leaf cX2_narrowed))) (.branch 35 (.branch 34 (.leaf cX3_init) (.leaf cX3_read)) (.branch 36 (.leaf cX3_readStatement) (.leaf cX3_readCircles)))) (.branch 41 (.branch 39 (.branch 38 (.leaf cX3_readTime) (.leaf cX3_readCost)) (.branch 40 (.leaf cX3_readShip) (.leaf cX3_readSteps))) (.branch 43 (.branch 42 (.leaf cX3_readNumber) (.leaf cX3_numberHere)) (.branch 44 (.leaf cX3_isWord) (.leaf cX3_takeToken))))) (.branch 52 (.branch 48 (.branch 46 (.leaf cX3_sortAt) (.branch 47 (.leaf cX4_init) (.leaf cX4_become))) (.branch 50 (.branch 49 (.leaf cX4_isWith) (.leaf cX4_isOf)) (.branch 51 (.leaf cX4_steers) (.leaf cX4_busyBehind)))) (.branch 56 (.branch 54 (.branch 53 (.leaf cX5_init) (.leaf cX5_become)) (.branch 55 (.leaf cX5_hasCircle) (.leaf cX5_hasCircleAbove))) (.branch 58 (.branch 57 (.leaf cX5_hasCircleNext) (.leaf cX5_hasPlace)) (.branch 59 (.leaf cX5_hasShip) (.leaf cX5_hasPair))))))) (.branch 90 (.branch 75 (.branch 67 (.branch 63 (.branch 61 (.leaf cX5_isFull) (.branch 62 (.leaf cX5_timeOf) (.leaf cX5_next))) (.branch 65 (.branch 64 (.leaf cX5_addShip) (.leaf cX5_shipsOn)) (.branch 66 (.leaf cX5_busyShips) (.leaf cX5_idleOn)))) (.branch 71 (.branch 69 (.branch 68 (.leaf cX5_allDrops) (.leaf cX5_countMet)) (.branch 70 (.leaf cX5_price) (.leaf cX5_crossing))) (.branch 73 (.branch 72 (.leaf cX5_landing) (.leaf cX5_isAble)) (.branch 74 (.leaf cX5_send) (.leaf cX5_drift))))) (.branch 82 (.branch 78 (.branch 76 (.leaf cX5_placeBehind) (.branch 77 (.leaf cX5_fly) (.leaf cX5_advance))) (.branch 80 (.branch 79 (.leaf cX5_pairsHit) (.leaf cX5_isClashBehind)) (.branch 81 (.leaf cX5_spotOf) (.leaf cX5_spotBehind)))) (.branch 86 (.branch 84 (.branch 83 (.leaf cX5_draw) (.leaf cX6_init)) (.branch 85 (.leaf cX6_row) (.leaf cX6_set))) (.branch 88 (.branch 87 (.leaf cX6_copy) (.leaf cX6_element)) (.branch 89 (.leaf cX6_holds) (.leaf cX6_show)))))) (.branch 105 (.branch 97 (.branch 93 (.branch 91 (.leaf cX6_says) (.branch 92 (.leaf cX6_circles) (.leaf cX6_time))) (.branch 95 (.branch 94 (.leaf cX6_cost) (.leaf cX6_ship)) (.branch 96 (.leaf cX6_fill) (.leaf cX6_feed)))) (.branch 101 (.branch 99 (.branch 98 (.leaf cX6_wipe) (.leaf cX6_world)) (.branch 100 (.leaf cX6_shipOf) (.leaf cX6_circleOf))) (.branch 103 (.branch 102 (.leaf cX6_can) (.leaf cX6_behind)) (.branch 104 (.leaf cX6_meets) (.leaf cX6_judge))))) (.branch 112 (.branch 108 (.branch 106 (.leaf cX6_flown) (.branch 107 (.leaf cX6_met) (.leaf cX6_cheapest))) (.branch 110 (.branch 109 (.leaf cX6_soonest) (.leaf cX6_way)) (.branch 111 (.leaf cX6_round) (.leaf cX6_home)))) (.branch 116 (.branch 114 (.branch 113 (.leaf cX6_again) (.leaf cX6_pass)) (.branch 115 (.leaf cX6_queue) (.leaf cX6_fullest))) (.branch 118 (.branch 117 (.leaf cX6_clash) (.leaf cX6_burnt)) (.branch 119 (.leaf cX6_tag) (.leaf cX6_step)))))))) (.branch 180 (.branch 150 (.branch 135 (.branch 127 (.branch 123 (.branch 121 (.leaf cX6_change) (.branch 122 (.leaf cX6_hand) (.leaf cX6_hurl))) (.branch 125 (.branch 124 (.leaf cX6_bolts) (.leaf cX6_seed)) (.branch 126 (.leaf cX6_image) (.leaf cX6_back)))) (.branch 131 (.branch 129 (.branch 128 (.leaf cX6_status) (.leaf cX6_refuse)) (.branch 130 (.leaf cX6_refusalsOf) (.leaf cX6_shelvesInUse))) (.branch 133 (.branch 132 (.leaf cX6_rowRefusal) (.leaf cX6_saying)) (.branch 134 (.leaf cX6_firstWrongCode) (.leaf cX6_firstMeeting))))) (.branch 142 (.branch 138 (.branch 136 (.leaf cX6_queueAt) (.branch 137 (.leaf cX6_areSightings) (.leaf cX6_isSetOfOthers))) (.branch 140 (.branch 139 (.leaf cX6_isFlight) (.leaf cX6_thinking)) (.branch 141 (.leaf cX6_isShelf) (.leaf cX6_isKind)))) (.branch 146 (.branch 144 (.branch 143 (.leaf cX6_isChange) (.leaf cX6_areDrops)) (.branch 145 (.leaf cX6_areSteps) (.leaf cX6_modulo))) (.branch 148 (.branch 147 (.leaf cX6_leastCommonMultiple) (.leaf cX7_init)) (.branch 149 (.leaf cX7_no) (.leaf cX7_within)))))) (.branch 165 (.branch 157 (.branch 153 (.branch 151 (.leaf cX7_has) (.branch 152 (.leaf cX7_isShip) (.leaf cX7_areTwo))) (.branch 155 (.branch 154 (.leaf cX7_isCircle) (.leaf cX7_isRow)) (.branch 156 (.leaf cX7_row) (.leaf cX7_noRow)))) (.branch 161 (.branch 159 (.branch 158 (.leaf cX7_set) (.leaf cX7_copy)) (.branch 160 (.leaf cX7_element) (.leaf cX7_holds))) (.branch 163 (.branch 162 (.leaf cX7_show) (.leaf cX7_isUnder)) (.branch 164 (.leaf cX7_says) (.leaf cX7_those))))) (.branch 172 (.branch 168 (.branch 166 (.leaf cX7_circles) (.branch 167 (.leaf cX7_time) (.leaf cX7_cost))) (.branch 170 (.branch 169 (.leaf cX7_newShip) (.leaf cX7_ship)) (.branch 171 (.leaf cX7_fill) (.leaf cX7_feed)))) (.branch 176 (.branch 174 (.branch 173 (.leaf cX7_wipe) (.leaf cX7_isLetter)) (.branch 175 (.leaf cX7_isDigit) (.leaf cX7_next))) (.branch 178 (.branch 177 (.leaf cX7_isWord) (.leaf cX7_number)) (.branch 179 (.leaf cX7_statement) (.leaf cX7_world))))))) (.branch 210 (.branch 195 (.branch 187 (.branch 183 (.branch 181 (.leaf cX7_shipOf) (.branch 182 (.leaf cX7_circleOf) (.leaf cX7_drift))) (.branch 185 (.branch 184 (.leaf cX7_meet) (.leaf cX7_price)) (.branch 186 (.leaf cX7_halfOf) (.leaf cX7_across)))) (.branch 191 (.branch 189 (.branch 188 (.leaf cX7_isWay) (.leaf cX7_priceOf)) (.branch 190 (.leaf cX7_isCode) (.leaf cX7_moves))) (.branch 193 (.branch 192 (.leaf cX7_acts) (.leaf cX7_can)) (.branch 194 (.leaf cX7_behind) (.leaf cX7_meets))))) (.branch 202 (.branch 198 (.branch 196 (.leaf cX7_noFlight) (.branch 197 (.leaf cX7_fly) (.leaf cX7_judge))) (.branch 200 (.branch 199 (.leaf cX7_flown) (.leaf cX7_met)) (.branch 201 (.leaf cX7_state) (.leaf cX7_begin)))) (.branch 206 (.branch 204 (.branch 203 (.leaf cX7_better) (.leaf cX7_goOn)) (.branch 205 (.leaf cX7_placeAt) (.leaf cX7_least))) (.branch 208 (.branch 207 (.leaf cX7_cheapest) (.leaf cX7_soonest)) (.branch 209 (.leaf cX7_leftAt) (.leaf cX7_way)))))) (.branch 225 (.branch 217 (.branch 213 (.branch 211 (.leaf cX7_ahead) (.branch 212 (.leaf cX7_round) (.leaf cX7_home))) (.branch 215 (.branch 214 (.leaf cX7_again) (.leaf cX7_pass)) (.branch 216 (.leaf cX7_queue) (.leaf cX7_fullest)))) (.branch 221 (.branch 219 (.branch 218 (.leaf cX7_clash) (.leaf cX7_burnt)) (.branch 220 (.leaf cX7_tags) (.leaf cX7_tag))) (.branch 223 (.branch 222 (.leaf cX7_steps) (.leaf cX7_step)) (.branch 224 (.leaf cX7_change) (.leaf cX7_hand))))) (.branch 233 (.branch 229 (.branch 227 (.branch 226 (.leaf cX7_hurl) (.leaf cX7_draw)) (.branch 228 (.leaf cX7_bolts) (.leaf cX7_seed))) (.branch 231 (.branch 230 (.leaf cX7_keep) (.leaf cX7_again_)) (.branch 232 (.leaf cX7_image) (.leaf cX7_back)))) (.branch 237 (.branch 235 (.branch 234 (.leaf cX7_status) (.leaf cJ6_bitCount_0f7a4)) (.branch 236 (.leaf cJ9_abs_0f7a4) (.leaf cJ9_max_7cf53))) (.branch 239 (.branch 238 (.leaf cJ9_min_7cf53) (.leaf cJ7_fill_d0a16)) (.branch 240 (.leaf cJ7_fill_53178) (.leaf cL_law))))))))
def am_nm : Lean.RArray MethodName := .branch 120 (.branch 60 (.branch 30 (.branch 15 (.branch 7 (.branch 3 (.branch 1 (.leaf yX0_init) (.branch 2 (.leaf yX0_isWon) (.leaf yX0_catches))) (.branch 5 (.branch 4 (.leaf yX0_catchesAll) (.leaf yX1_init)) (.branch 6 (.leaf yX1_fewestDrops) (.leaf yX1_firstStep)))) (.branch 11 (.branch 9 (.branch 8 (.leaf yX1_dropsThrough) (.leaf yX1_keepOnly)) (.branch 10 (.leaf yX1_prepare) (.leaf yX1_chart))) (.branch 13 (.branch 12 (.leaf yX1_chartChange) (.leaf yX1_gather)) (.branch 14 (.leaf yX1_visit) (.leaf yX1_arrive))))) (.branch 22 (.branch 18 (.branch 16 (.leaf yX1_finish) (.branch 17 (.leaf yX1_spread) (.leaf yX1_codeOfWay))) (.branch 20 (.branch 19 (.leaf yX1_setToGo) (.leaf yX1_firstBestCode)) (.branch 21 (.leaf yX1_dropsBy) (.leaf yX1_slotOf)))) (.branch 26 (.branch 24 (.branch 23 (.leaf yX2_init) (.leaf yX2_isEmpty)) (.branch 25 (.leaf yX2_isShip) (.leaf yX2_isRow))) (.branch 28 (.branch 27 (.leaf yX2_shipNumber) (.leaf yX2_beEmpty)) (.branch 29 (.leaf yX2_beShip) (.leaf yX2_beRow)))))) (.branch 45 (.branch 37 (.branch 33 (.branch 31 (.leaf yX2_hasPart) (.branch 32 (.leaf yX2_put) (.leaf yX2_narrowed))) (.branch 35 (.branch 34 (.leaf yX3_init) (.leaf yX3_read)) (.branch 36 (.leaf yX3_readStatement) (.leaf yX3_readCircles)))) (.branch 41 (.branch 39 (.branch 38 (.leaf yX3_readTime) (.leaf yX3_readCost)) (.branch 40 (.leaf yX3_readShip) (.leaf yX3_readSteps))) (.branch 43 (.branch 42 (.leaf yX3_readNumber) (.leaf yX3_numberHere)) (.branch 44 (.leaf yX3_isWord) (.leaf yX3_takeToken))))) (.branch 52 (.branch 48 (.branch 46 (.leaf yX3_sortAt) (.branch 47 (.leaf yX4_init) (.leaf yX4_become))) (.branch 50 (.branch 49 (.leaf yX4_isWith) (.leaf yX4_isOf)) (.branch 51 (.leaf yX4_steers) (.leaf yX4_busyBehind)))) (.branch 56 (.branch 54 (.branch 53 (.leaf yX5_init) (.leaf yX5_become)) (.branch 55 (.leaf yX5_hasCircle) (.leaf yX5_hasCircleAbove))) (.branch 58 (.branch 57 (.leaf yX5_hasCircleNext) (.leaf yX5_hasPlace)) (.branch 59 (.leaf yX5_hasShip) (.leaf yX5_hasPair))))))) (.branch 90 (.branch 75 (.branch 67 (.branch 63 (.branch 61 (.leaf yX5_isFull) (.branch 62 (.leaf yX5_timeOf) (.leaf yX5_next))) (.branch 65 (.branch 64 (.leaf yX5_addShip) (.leaf yX5_shipsOn)) (.branch 66 (.leaf yX5_busyShips) (.leaf yX5_idleOn)))) (.branch 71 (.branch 69 (.branch 68 (.leaf yX5_allDrops) (.leaf yX5_countMet)) (.branch 70 (.leaf yX5_price) (.leaf yX5_crossing))) (.branch 73 (.branch 72 (.leaf yX5_landing) (.leaf yX5_isAble)) (.branch 74 (.leaf yX5_send) (.leaf yX5_drift))))) (.branch 82 (.branch 78 (.branch 76 (.leaf yX5_placeBehind) (.branch 77 (.leaf yX5_fly) (.leaf yX5_advance))) (.branch 80 (.branch 79 (.leaf yX5_pairsHit) (.leaf yX5_isClashBehind)) (.branch 81 (.leaf yX5_spotOf) (.leaf yX5_spotBehind)))) (.branch 86 (.branch 84 (.branch 83 (.leaf yX5_draw) (.leaf yX6_init)) (.branch 85 (.leaf yX6_row) (.leaf yX6_set))) (.branch 88 (.branch 87 (.leaf yX6_copy) (.leaf yX6_element)) (.branch 89 (.leaf yX6_holds) (.leaf yX6_show)))))) (.branch 105 (.branch 97 (.branch 93 (.branch 91 (.leaf yX6_says) (.branch 92 (.leaf yX6_circles) (.leaf yX6_time))) (.branch 95 (.branch 94 (.leaf yX6_cost) (.leaf yX6_ship)) (.branch 96 (.leaf yX6_fill) (.leaf yX6_feed)))) (.branch 101 (.branch 99 (.branch 98 (.leaf yX6_wipe) (.leaf yX6_world)) (.branch 100 (.leaf yX6_shipOf) (.leaf yX6_circleOf))) (.branch 103 (.branch 102 (.leaf yX6_can) (.leaf yX6_behind)) (.branch 104 (.leaf yX6_meets) (.leaf yX6_judge))))) (.branch 112 (.branch 108 (.branch 106 (.leaf yX6_flown) (.branch 107 (.leaf yX6_met) (.leaf yX6_cheapest))) (.branch 110 (.branch 109 (.leaf yX6_soonest) (.leaf yX6_way)) (.branch 111 (.leaf yX6_round) (.leaf yX6_home)))) (.branch 116 (.branch 114 (.branch 113 (.leaf yX6_again) (.leaf yX6_pass)) (.branch 115 (.leaf yX6_queue) (.leaf yX6_fullest))) (.branch 118 (.branch 117 (.leaf yX6_clash) (.leaf yX6_burnt)) (.branch 119 (.leaf yX6_tag) (.leaf yX6_step)))))))) (.branch 180 (.branch 150 (.branch 135 (.branch 127 (.branch 123 (.branch 121 (.leaf yX6_change) (.branch 122 (.leaf yX6_hand) (.leaf yX6_hurl))) (.branch 125 (.branch 124 (.leaf yX6_bolts) (.leaf yX6_seed)) (.branch 126 (.leaf yX6_image) (.leaf yX6_back)))) (.branch 131 (.branch 129 (.branch 128 (.leaf yX6_status) (.leaf yX6_refuse)) (.branch 130 (.leaf yX6_refusalsOf) (.leaf yX6_shelvesInUse))) (.branch 133 (.branch 132 (.leaf yX6_rowRefusal) (.leaf yX6_saying)) (.branch 134 (.leaf yX6_firstWrongCode) (.leaf yX6_firstMeeting))))) (.branch 142 (.branch 138 (.branch 136 (.leaf yX6_queueAt) (.branch 137 (.leaf yX6_areSightings) (.leaf yX6_isSetOfOthers))) (.branch 140 (.branch 139 (.leaf yX6_isFlight) (.leaf yX6_thinking)) (.branch 141 (.leaf yX6_isShelf) (.leaf yX6_isKind)))) (.branch 146 (.branch 144 (.branch 143 (.leaf yX6_isChange) (.leaf yX6_areDrops)) (.branch 145 (.leaf yX6_areSteps) (.leaf yX6_modulo))) (.branch 148 (.branch 147 (.leaf yX6_leastCommonMultiple) (.leaf yX7_init)) (.branch 149 (.leaf yX7_no) (.leaf yX7_within)))))) (.branch 165 (.branch 157 (.branch 153 (.branch 151 (.leaf yX7_has) (.branch 152 (.leaf yX7_isShip) (.leaf yX7_areTwo))) (.branch 155 (.branch 154 (.leaf yX7_isCircle) (.leaf yX7_isRow)) (.branch 156 (.leaf yX7_row) (.leaf yX7_noRow)))) (.branch 161 (.branch 159 (.branch 158 (.leaf yX7_set) (.leaf yX7_copy)) (.branch 160 (.leaf yX7_element) (.leaf yX7_holds))) (.branch 163 (.branch 162 (.leaf yX7_show) (.leaf yX7_isUnder)) (.branch 164 (.leaf yX7_says) (.leaf yX7_those))))) (.branch 172 (.branch 168 (.branch 166 (.leaf yX7_circles) (.branch 167 (.leaf yX7_time) (.leaf yX7_cost))) (.branch 170 (.branch 169 (.leaf yX7_newShip) (.leaf yX7_ship)) (.branch 171 (.leaf yX7_fill) (.leaf yX7_feed)))) (.branch 176 (.branch 174 (.branch 173 (.leaf yX7_wipe) (.leaf yX7_isLetter)) (.branch 175 (.leaf yX7_isDigit) (.leaf yX7_next))) (.branch 178 (.branch 177 (.leaf yX7_isWord) (.leaf yX7_number)) (.branch 179 (.leaf yX7_statement) (.leaf yX7_world))))))) (.branch 210 (.branch 195 (.branch 187 (.branch 183 (.branch 181 (.leaf yX7_shipOf) (.branch 182 (.leaf yX7_circleOf) (.leaf yX7_drift))) (.branch 185 (.branch 184 (.leaf yX7_meet) (.leaf yX7_price)) (.branch 186 (.leaf yX7_halfOf) (.leaf yX7_across)))) (.branch 191 (.branch 189 (.branch 188 (.leaf yX7_isWay) (.leaf yX7_priceOf)) (.branch 190 (.leaf yX7_isCode) (.leaf yX7_moves))) (.branch 193 (.branch 192 (.leaf yX7_acts) (.leaf yX7_can)) (.branch 194 (.leaf yX7_behind) (.leaf yX7_meets))))) (.branch 202 (.branch 198 (.branch 196 (.leaf yX7_noFlight) (.branch 197 (.leaf yX7_fly) (.leaf yX7_judge))) (.branch 200 (.branch 199 (.leaf yX7_flown) (.leaf yX7_met)) (.branch 201 (.leaf yX7_state) (.leaf yX7_begin)))) (.branch 206 (.branch 204 (.branch 203 (.leaf yX7_better) (.leaf yX7_goOn)) (.branch 205 (.leaf yX7_placeAt) (.leaf yX7_least))) (.branch 208 (.branch 207 (.leaf yX7_cheapest) (.leaf yX7_soonest)) (.branch 209 (.leaf yX7_leftAt) (.leaf yX7_way)))))) (.branch 225 (.branch 217 (.branch 213 (.branch 211 (.leaf yX7_ahead) (.branch 212 (.leaf yX7_round) (.leaf yX7_home))) (.branch 215 (.branch 214 (.leaf yX7_again) (.leaf yX7_pass)) (.branch 216 (.leaf yX7_queue) (.leaf yX7_fullest)))) (.branch 221 (.branch 219 (.branch 218 (.leaf yX7_clash) (.leaf yX7_burnt)) (.branch 220 (.leaf yX7_tags) (.leaf yX7_tag))) (.branch 223 (.branch 222 (.leaf yX7_steps) (.leaf yX7_step)) (.branch 224 (.leaf yX7_change) (.leaf yX7_hand))))) (.branch 233 (.branch 229 (.branch 227 (.branch 226 (.leaf yX7_hurl) (.leaf yX7_draw)) (.branch 228 (.leaf yX7_bolts) (.leaf yX7_seed))) (.branch 231 (.branch 230 (.leaf yX7_keep) (.leaf yX7_again_)) (.branch 232 (.leaf yX7_image) (.leaf yX7_back)))) (.branch 237 (.branch 235 (.branch 234 (.leaf yX7_status) (.leaf yJ6_bitCount_0f7a4)) (.branch 236 (.leaf yJ9_abs_0f7a4) (.leaf yJ9_max_7cf53))) (.branch 239 (.branch 238 (.leaf yJ9_min_7cf53) (.leaf yJ7_fill_d0a16)) (.branch 240 (.leaf yJ7_fill_53178) (.leaf yL_law))))))))
def am_chk (cc : ByteArray) (t : am_T) : Bool := am_allb (fun q => decide (decode cc q.1 = .ok q.2)) t
end
section
theorem am_chk_b {cc : ByteArray} {p : Nat} {l r : am_T} (h1 : am_chk cc l = true) (h2 : am_chk cc r = true) : am_chk cc (.branch p l r) = true := Bool.and_eq_true_iff.mpr ⟨h1, h2⟩
set_option maxRecDepth 20000 in
theorem mk_0 : am_chk cX0_init mc_0 = true := by decide +kernel
set_option maxRecDepth 20000 in
theorem mk_1 : am_chk cX0_isWon mc_1 = true := by decide +kernel
set_option maxRecDepth 20000 in
theorem mk_2 : am_chk cX0_catches mc_2 = true := by decide +kernel
set_option maxRecDepth 20000 in
theorem mk_3 : am_chk cX0_catchesAll mc_3 = true := by decide +kernel
set_option maxRecDepth 20000 in
theorem mk_4 : am_chk cX1_init mc_4 = true := by decide +kernel
set_option maxRecDepth 20000 in
theorem mk_5 : am_chk cX1_fewestDrops mc_5 = true := by decide +kernel
set_option maxRecDepth 20000 in
theorem mk_6 : am_chk cX1_firstStep mc_6 = true := by decide +kernel
set_option maxRecDepth 20000 in
theorem mk_7 : am_chk cX1_dropsThrough mc_7 = true := by decide +kernel
set_option maxRecDepth 20000 in
theorem mk_8 : am_chk cX1_keepOnly mc_8 = true := by decide +kernel
set_option maxRecDepth 20000 in
theorem mk_9 : am_chk cX1_prepare mc_9 = true := by decide +kernel
set_option maxRecDepth 20000 in
theorem mk_10 : am_chk cX1_chart mc_10 = true := by decide +kernel
set_option maxRecDepth 20000 in
theorem mk_11 : am_chk cX1_chartChange mc_11 = true := by decide +kernel
set_option maxRecDepth 20000 in
theorem mk_12 : am_chk cX1_gather mc_12 = true := by decide +kernel
set_option maxRecDepth 20000 in
theorem mk_13 : am_chk cX1_visit mc_13 = true := by decide +kernel
set_option maxRecDepth 20000 in
theorem mk_14 : am_chk cX1_arrive mc_14 = true := by decide +kernel
set_option maxRecDepth 20000 in
theorem mk_15 : am_chk cX1_finish mc_15 = true := by decide +kernel
set_option maxRecDepth 20000 in
theorem mk_16 : am_chk cX1_spread mc_16 = true := by decide +kernel
set_option maxRecDepth 20000 in
theorem mk_17 : am_chk cX1_codeOfWay mc_17 = true := by decide +kernel
set_option maxRecDepth 20000 in
theorem mk_18 : am_chk cX1_setToGo mc_18 = true := by decide +kernel
set_option maxRecDepth 20000 in
theorem mk_19 : am_chk cX1_firstBestCode mc_19 = true := by decide +kernel
set_option maxRecDepth 20000 in
theorem mk_20 : am_chk cX1_dropsBy mc_20 = true := by decide +kernel
set_option maxRecDepth 20000 in
theorem mk_21 : am_chk cX1_slotOf mc_21 = true := by decide +kernel
set_option maxRecDepth 20000 in
theorem mk_22 : am_chk cX2_init mc_22 = true := by decide +kernel
set_option maxRecDepth 20000 in
theorem mk_23 : am_chk cX2_isEmpty mc_23 = true := by decide +kernel
set_option maxRecDepth 20000 in
theorem mk_24 : am_chk cX2_isShip mc_24 = true := by decide +kernel
set_option maxRecDepth 20000 in
theorem mk_25 : am_chk cX2_isRow mc_25 = true := by decide +kernel
set_option maxRecDepth 20000 in
theorem mk_26 : am_chk cX2_shipNumber mc_26 = true := by decide +kernel
set_option maxRecDepth 20000 in
theorem mk_27 : am_chk cX2_beEmpty mc_27 = true := by decide +kernel
set_option maxRecDepth 20000 in
theorem mk_28 : am_chk cX2_beShip mc_28 = true := by decide +kernel
set_option maxRecDepth 20000 in
theorem mk_29 : am_chk cX2_beRow mc_29 = true := by decide +kernel
set_option maxRecDepth 20000 in
theorem mk_30 : am_chk cX2_hasPart mc_30 = true := by decide +kernel
set_option maxRecDepth 20000 in
theorem mk_31 : am_chk cX2_put mc_31 = true := by decide +kernel
set_option maxRecDepth 20000 in
theorem mk_32 : am_chk cX2_narrowed mc_32 = true := by decide +kernel
set_option maxRecDepth 20000 in
theorem mk_33 : am_chk cX3_init mc_33 = true := by decide +kernel
set_option maxRecDepth 20000 in
theorem mk_34 : am_chk cX3_read mc_34 = true := by decide +kernel
set_option maxRecDepth 20000 in
theorem mk_35 : am_chk cX3_readStatement mc_35 = true := by decide +kernel
set_option maxRecDepth 20000 in
theorem mk_36 : am_chk cX3_readCircles mc_36 = true := by decide +kernel
set_option maxRecDepth 20000 in
theorem mk_37 : am_chk cX3_readTime mc_37 = true := by decide +kernel
set_option maxRecDepth 20000 in
theorem mk_38 : am_chk cX3_readCost mc_38 = true := by decide +kernel
set_option maxRecDepth 20000 in
theorem mk_39 : am_chk cX3_readShip mc_39 = true := by decide +kernel
set_option maxRecDepth 20000 in
theorem mk_40 : am_chk cX3_readSteps mc_40 = true := by decide +kernel
set_option maxRecDepth 20000 in
theorem mk_41 : am_chk cX3_readNumber mc_41 = true := by decide +kernel
set_option maxRecDepth 20000 in
theorem mk_42 : am_chk cX3_numberHere mc_42 = true := by decide +kernel
set_option maxRecDepth 20000 in
theorem mk_43 : am_chk cX3_isWord mc_43 = true := by decide +kernel
set_option maxRecDepth 20000 in
theorem mk_44 : am_chk cX3_takeToken mc_44 = true := by decide +kernel
set_option maxRecDepth 20000 in
theorem mk_45 : am_chk cX3_sortAt mc_45 = true := by decide +kernel
set_option maxRecDepth 20000 in
theorem mk_46 : am_chk cX4_init mc_46 = true := by decide +kernel
set_option maxRecDepth 20000 in
theorem mk_47 : am_chk cX4_become mc_47 = true := by decide +kernel
set_option maxRecDepth 20000 in
theorem mk_48 : am_chk cX4_isWith mc_48 = true := by decide +kernel
set_option maxRecDepth 20000 in
theorem mk_49 : am_chk cX4_isOf mc_49 = true := by decide +kernel
set_option maxRecDepth 20000 in
theorem mk_50 : am_chk cX4_steers mc_50 = true := by decide +kernel
set_option maxRecDepth 20000 in
theorem mk_51 : am_chk cX4_busyBehind mc_51 = true := by decide +kernel
set_option maxRecDepth 20000 in
theorem mk_52 : am_chk cX5_init mc_52 = true := by decide +kernel
set_option maxRecDepth 20000 in
theorem mk_53 : am_chk cX5_become mc_53 = true := by decide +kernel
set_option maxRecDepth 20000 in
theorem mk_54 : am_chk cX5_hasCircle mc_54 = true := by decide +kernel
set_option maxRecDepth 20000 in
theorem mk_55 : am_chk cX5_hasCircleAbove mc_55 = true := by decide +kernel
set_option maxRecDepth 20000 in
theorem mk_56 : am_chk cX5_hasCircleNext mc_56 = true := by decide +kernel
set_option maxRecDepth 20000 in
theorem mk_57 : am_chk cX5_hasPlace mc_57 = true := by decide +kernel
set_option maxRecDepth 20000 in
theorem mk_58 : am_chk cX5_hasShip mc_58 = true := by decide +kernel
set_option maxRecDepth 20000 in
theorem mk_59 : am_chk cX5_hasPair mc_59 = true := by decide +kernel
set_option maxRecDepth 20000 in
theorem mk_60 : am_chk cX5_isFull mc_60 = true := by decide +kernel
set_option maxRecDepth 20000 in
theorem mk_61 : am_chk cX5_timeOf mc_61 = true := by decide +kernel
set_option maxRecDepth 20000 in
theorem mk_62 : am_chk cX5_next mc_62 = true := by decide +kernel
set_option maxRecDepth 20000 in
theorem mk_63 : am_chk cX5_addShip mc_63 = true := by decide +kernel
set_option maxRecDepth 20000 in
theorem mk_64 : am_chk cX5_shipsOn mc_64 = true := by decide +kernel
set_option maxRecDepth 20000 in
theorem mk_65 : am_chk cX5_busyShips mc_65 = true := by decide +kernel
set_option maxRecDepth 20000 in
theorem mk_66 : am_chk cX5_idleOn mc_66 = true := by decide +kernel
set_option maxRecDepth 20000 in
theorem mk_67 : am_chk cX5_allDrops mc_67 = true := by decide +kernel
set_option maxRecDepth 20000 in
theorem mk_68 : am_chk cX5_countMet mc_68 = true := by decide +kernel
set_option maxRecDepth 20000 in
theorem mk_69 : am_chk cX5_price mc_69 = true := by decide +kernel
set_option maxRecDepth 20000 in
theorem mk_70 : am_chk cX5_crossing mc_70 = true := by decide +kernel
set_option maxRecDepth 20000 in
theorem mk_71 : am_chk cX5_landing mc_71 = true := by decide +kernel
set_option maxRecDepth 20000 in
theorem mk_72 : am_chk cX5_isAble mc_72 = true := by decide +kernel
set_option maxRecDepth 20000 in
theorem mk_73 : am_chk cX5_send mc_73 = true := by decide +kernel
set_option maxRecDepth 20000 in
theorem mk_74 : am_chk cX5_drift mc_74 = true := by decide +kernel
set_option maxRecDepth 20000 in
theorem mk_75 : am_chk cX5_placeBehind mc_75 = true := by decide +kernel
set_option maxRecDepth 20000 in
theorem mk_76 : am_chk cX5_fly mc_76 = true := by decide +kernel
set_option maxRecDepth 20000 in
theorem mk_77 : am_chk cX5_advance mc_77 = true := by decide +kernel
set_option maxRecDepth 20000 in
theorem mk_78 : am_chk cX5_pairsHit mc_78 = true := by decide +kernel
set_option maxRecDepth 20000 in
theorem mk_79 : am_chk cX5_isClashBehind mc_79 = true := by decide +kernel
set_option maxRecDepth 20000 in
theorem mk_80 : am_chk cX5_spotOf mc_80 = true := by decide +kernel
set_option maxRecDepth 20000 in
theorem mk_81 : am_chk cX5_spotBehind mc_81 = true := by decide +kernel
set_option maxRecDepth 20000 in
theorem mk_82 : am_chk cX5_draw mc_82 = true := by decide +kernel
set_option maxRecDepth 20000 in
theorem mk_83 : am_chk cX6_init mc_83 = true := by decide +kernel
set_option maxRecDepth 20000 in
theorem mk_84 : am_chk cX6_row mc_84 = true := by decide +kernel
set_option maxRecDepth 20000 in
theorem mk_85 : am_chk cX6_set mc_85 = true := by decide +kernel
set_option maxRecDepth 20000 in
theorem mk_86 : am_chk cX6_copy mc_86 = true := by decide +kernel
set_option maxRecDepth 20000 in
theorem mk_87 : am_chk cX6_element mc_87 = true := by decide +kernel
set_option maxRecDepth 20000 in
theorem mk_88 : am_chk cX6_holds mc_88 = true := by decide +kernel
set_option maxRecDepth 20000 in
theorem mk_89 : am_chk cX6_show mc_89 = true := by decide +kernel
set_option maxRecDepth 20000 in
theorem mk_90 : am_chk cX6_says mc_90 = true := by decide +kernel
set_option maxRecDepth 20000 in
theorem mk_91 : am_chk cX6_circles mc_91 = true := by decide +kernel
set_option maxRecDepth 20000 in
theorem mk_92 : am_chk cX6_time mc_92 = true := by decide +kernel
set_option maxRecDepth 20000 in
theorem mk_93 : am_chk cX6_cost mc_93 = true := by decide +kernel
set_option maxRecDepth 20000 in
theorem mk_94 : am_chk cX6_ship mc_94 = true := by decide +kernel
set_option maxRecDepth 20000 in
theorem mk_95 : am_chk cX6_fill mc_95 = true := by decide +kernel
set_option maxRecDepth 20000 in
theorem mk_96 : am_chk cX6_feed mc_96 = true := by decide +kernel
set_option maxRecDepth 20000 in
theorem mk_97 : am_chk cX6_wipe mc_97 = true := by decide +kernel
set_option maxRecDepth 20000 in
theorem mk_98 : am_chk cX6_world mc_98 = true := by decide +kernel
set_option maxRecDepth 20000 in
theorem mk_99 : am_chk cX6_shipOf mc_99 = true := by decide +kernel
set_option maxRecDepth 20000 in
theorem mk_100 : am_chk cX6_circleOf mc_100 = true := by decide +kernel
set_option maxRecDepth 20000 in
theorem mk_101 : am_chk cX6_can mc_101 = true := by decide +kernel
set_option maxRecDepth 20000 in
theorem mk_102 : am_chk cX6_behind mc_102 = true := by decide +kernel
set_option maxRecDepth 20000 in
theorem mk_103 : am_chk cX6_meets mc_103 = true := by decide +kernel
set_option maxRecDepth 20000 in
theorem mk_104 : am_chk cX6_judge mc_104 = true := by decide +kernel
set_option maxRecDepth 20000 in
theorem mk_105 : am_chk cX6_flown mc_105 = true := by decide +kernel
set_option maxRecDepth 20000 in
theorem mk_106 : am_chk cX6_met mc_106 = true := by decide +kernel
set_option maxRecDepth 20000 in
theorem mk_107 : am_chk cX6_cheapest mc_107 = true := by decide +kernel
set_option maxRecDepth 20000 in
theorem mk_108 : am_chk cX6_soonest mc_108 = true := by decide +kernel
set_option maxRecDepth 20000 in
theorem mk_109 : am_chk cX6_way mc_109 = true := by decide +kernel
set_option maxRecDepth 20000 in
theorem mk_110 : am_chk cX6_round mc_110 = true := by decide +kernel
set_option maxRecDepth 20000 in
theorem mk_111 : am_chk cX6_home mc_111 = true := by decide +kernel
set_option maxRecDepth 20000 in
theorem mk_112 : am_chk cX6_again mc_112 = true := by decide +kernel
set_option maxRecDepth 20000 in
theorem mk_113 : am_chk cX6_pass mc_113 = true := by decide +kernel
set_option maxRecDepth 20000 in
theorem mk_114 : am_chk cX6_queue mc_114 = true := by decide +kernel
set_option maxRecDepth 20000 in
theorem mk_115 : am_chk cX6_fullest mc_115 = true := by decide +kernel
set_option maxRecDepth 20000 in
theorem mk_116 : am_chk cX6_clash mc_116 = true := by decide +kernel
set_option maxRecDepth 20000 in
theorem mk_117 : am_chk cX6_burnt mc_117 = true := by decide +kernel
set_option maxRecDepth 20000 in
theorem mk_118 : am_chk cX6_tag mc_118 = true := by decide +kernel
set_option maxRecDepth 20000 in
theorem mk_119 : am_chk cX6_step mc_119 = true := by decide +kernel
set_option maxRecDepth 20000 in
theorem mk_120 : am_chk cX6_change mc_120 = true := by decide +kernel
set_option maxRecDepth 20000 in
theorem mk_121 : am_chk cX6_hand mc_121 = true := by decide +kernel
set_option maxRecDepth 20000 in
theorem mk_122 : am_chk cX6_hurl mc_122 = true := by decide +kernel
set_option maxRecDepth 20000 in
theorem mk_123 : am_chk cX6_bolts mc_123 = true := by decide +kernel
set_option maxRecDepth 20000 in
theorem mk_124 : am_chk cX6_seed mc_124 = true := by decide +kernel
set_option maxRecDepth 20000 in
theorem mk_125 : am_chk cX6_image mc_125 = true := by decide +kernel
set_option maxRecDepth 20000 in
theorem mk_126 : am_chk cX6_back mc_126 = true := by decide +kernel
set_option maxRecDepth 20000 in
theorem mk_127 : am_chk cX6_status mc_127 = true := by decide +kernel
set_option maxRecDepth 20000 in
theorem mk_128 : am_chk cX6_refuse mc_128 = true := by decide +kernel
set_option maxRecDepth 20000 in
theorem mk_129 : am_chk cX6_refusalsOf mc_129 = true := by decide +kernel
set_option maxRecDepth 20000 in
theorem mk_130 : am_chk cX6_shelvesInUse mc_130 = true := by decide +kernel
set_option maxRecDepth 20000 in
theorem mk_131 : am_chk cX6_rowRefusal mc_131 = true := by decide +kernel
set_option maxRecDepth 20000 in
theorem mk_132 : am_chk cX6_saying mc_132 = true := by decide +kernel
set_option maxRecDepth 20000 in
theorem mk_133 : am_chk cX6_firstWrongCode mc_133 = true := by decide +kernel
set_option maxRecDepth 20000 in
theorem mk_134 : am_chk cX6_firstMeeting mc_134 = true := by decide +kernel
set_option maxRecDepth 20000 in
theorem mk_135 : am_chk cX6_queueAt mc_135 = true := by decide +kernel
set_option maxRecDepth 20000 in
theorem mk_136 : am_chk cX6_areSightings mc_136 = true := by decide +kernel
set_option maxRecDepth 20000 in
theorem mk_137 : am_chk cX6_isSetOfOthers mc_137 = true := by decide +kernel
set_option maxRecDepth 20000 in
theorem mk_138 : am_chk cX6_isFlight mc_138 = true := by decide +kernel
set_option maxRecDepth 20000 in
theorem mk_139 : am_chk cX6_thinking mc_139 = true := by decide +kernel
set_option maxRecDepth 20000 in
theorem mk_140 : am_chk cX6_isShelf mc_140 = true := by decide +kernel
set_option maxRecDepth 20000 in
theorem mk_141 : am_chk cX6_isKind mc_141 = true := by decide +kernel
set_option maxRecDepth 20000 in
theorem mk_142 : am_chk cX6_isChange mc_142 = true := by decide +kernel
set_option maxRecDepth 20000 in
theorem mk_143 : am_chk cX6_areDrops mc_143 = true := by decide +kernel
set_option maxRecDepth 20000 in
theorem mk_144 : am_chk cX6_areSteps mc_144 = true := by decide +kernel
set_option maxRecDepth 20000 in
theorem mk_145 : am_chk cX6_modulo mc_145 = true := by decide +kernel
set_option maxRecDepth 20000 in
theorem mk_146 : am_chk cX6_leastCommonMultiple mc_146 = true := by decide +kernel
set_option maxRecDepth 20000 in
theorem mk_147 : am_chk cX7_init mc_147 = true := by decide +kernel
set_option maxRecDepth 20000 in
theorem mk_148 : am_chk cX7_no mc_148 = true := by decide +kernel
set_option maxRecDepth 20000 in
theorem mk_149 : am_chk cX7_within mc_149 = true := by decide +kernel
set_option maxRecDepth 20000 in
theorem mk_150 : am_chk cX7_has mc_150 = true := by decide +kernel
set_option maxRecDepth 20000 in
theorem mk_151 : am_chk cX7_isShip mc_151 = true := by decide +kernel
set_option maxRecDepth 20000 in
theorem mk_152 : am_chk cX7_areTwo mc_152 = true := by decide +kernel
set_option maxRecDepth 20000 in
theorem mk_153 : am_chk cX7_isCircle mc_153 = true := by decide +kernel
set_option maxRecDepth 20000 in
theorem mk_154 : am_chk cX7_isRow mc_154 = true := by decide +kernel
set_option maxRecDepth 20000 in
theorem mk_155 : am_chk cX7_row mc_155 = true := by decide +kernel
set_option maxRecDepth 20000 in
theorem mk_156 : am_chk cX7_noRow mc_156 = true := by decide +kernel
set_option maxRecDepth 20000 in
theorem mk_157 : am_chk cX7_set mc_157 = true := by decide +kernel
set_option maxRecDepth 20000 in
theorem mk_158 : am_chk cX7_copy mc_158 = true := by decide +kernel
set_option maxRecDepth 20000 in
theorem mk_159 : am_chk cX7_element mc_159 = true := by decide +kernel
set_option maxRecDepth 20000 in
theorem mk_160 : am_chk cX7_holds mc_160 = true := by decide +kernel
set_option maxRecDepth 20000 in
theorem mk_161 : am_chk cX7_show mc_161 = true := by decide +kernel
set_option maxRecDepth 20000 in
theorem mk_162 : am_chk cX7_isUnder mc_162 = true := by decide +kernel
set_option maxRecDepth 20000 in
theorem mk_163 : am_chk cX7_says mc_163 = true := by decide +kernel
set_option maxRecDepth 20000 in
theorem mk_164 : am_chk cX7_those mc_164 = true := by decide +kernel
set_option maxRecDepth 20000 in
theorem mk_165 : am_chk cX7_circles mc_165 = true := by decide +kernel
set_option maxRecDepth 20000 in
theorem mk_166 : am_chk cX7_time mc_166 = true := by decide +kernel
set_option maxRecDepth 20000 in
theorem mk_167 : am_chk cX7_cost mc_167 = true := by decide +kernel
set_option maxRecDepth 20000 in
theorem mk_168 : am_chk cX7_newShip mc_168 = true := by decide +kernel
set_option maxRecDepth 20000 in
theorem mk_169 : am_chk cX7_ship mc_169 = true := by decide +kernel
set_option maxRecDepth 20000 in
theorem mk_170 : am_chk cX7_fill mc_170 = true := by decide +kernel
set_option maxRecDepth 20000 in
theorem mk_171 : am_chk cX7_feed mc_171 = true := by decide +kernel
set_option maxRecDepth 20000 in
theorem mk_172 : am_chk cX7_wipe mc_172 = true := by decide +kernel
set_option maxRecDepth 20000 in
theorem mk_173 : am_chk cX7_isLetter mc_173 = true := by decide +kernel
set_option maxRecDepth 20000 in
theorem mk_174 : am_chk cX7_isDigit mc_174 = true := by decide +kernel
set_option maxRecDepth 20000 in
theorem mk_175 : am_chk cX7_next mc_175 = true := by decide +kernel
set_option maxRecDepth 20000 in
theorem mk_176 : am_chk cX7_isWord mc_176 = true := by decide +kernel
set_option maxRecDepth 20000 in
theorem mk_177 : am_chk cX7_number mc_177 = true := by decide +kernel
set_option maxRecDepth 20000 in
theorem mk_178 : am_chk cX7_statement mc_178 = true := by decide +kernel
set_option maxRecDepth 20000 in
theorem mk_179 : am_chk cX7_world mc_179 = true := by decide +kernel
set_option maxRecDepth 20000 in
theorem mk_180 : am_chk cX7_shipOf mc_180 = true := by decide +kernel
set_option maxRecDepth 20000 in
theorem mk_181 : am_chk cX7_circleOf mc_181 = true := by decide +kernel
set_option maxRecDepth 20000 in
theorem mk_182 : am_chk cX7_drift mc_182 = true := by decide +kernel
set_option maxRecDepth 20000 in
theorem mk_183 : am_chk cX7_meet mc_183 = true := by decide +kernel
set_option maxRecDepth 20000 in
theorem mk_184 : am_chk cX7_price mc_184 = true := by decide +kernel
set_option maxRecDepth 20000 in
theorem mk_185 : am_chk cX7_halfOf mc_185 = true := by decide +kernel
set_option maxRecDepth 20000 in
theorem mk_186 : am_chk cX7_across mc_186 = true := by decide +kernel
set_option maxRecDepth 20000 in
theorem mk_187 : am_chk cX7_isWay mc_187 = true := by decide +kernel
set_option maxRecDepth 20000 in
theorem mk_188 : am_chk cX7_priceOf mc_188 = true := by decide +kernel
set_option maxRecDepth 20000 in
theorem mk_189 : am_chk cX7_isCode mc_189 = true := by decide +kernel
set_option maxRecDepth 20000 in
theorem mk_190 : am_chk cX7_moves mc_190 = true := by decide +kernel
set_option maxRecDepth 20000 in
theorem mk_191 : am_chk cX7_acts mc_191 = true := by decide +kernel
set_option maxRecDepth 20000 in
theorem mk_192 : am_chk cX7_can mc_192 = true := by decide +kernel
set_option maxRecDepth 20000 in
theorem mk_193 : am_chk cX7_behind mc_193 = true := by decide +kernel
set_option maxRecDepth 20000 in
theorem mk_194 : am_chk cX7_meets mc_194 = true := by decide +kernel
set_option maxRecDepth 20000 in
theorem mk_195 : am_chk cX7_noFlight mc_195 = true := by decide +kernel
set_option maxRecDepth 20000 in
theorem mk_196 : am_chk cX7_fly mc_196 = true := by decide +kernel
set_option maxRecDepth 20000 in
theorem mk_197 : am_chk cX7_judge mc_197 = true := by decide +kernel
set_option maxRecDepth 20000 in
theorem mk_198 : am_chk cX7_flown mc_198 = true := by decide +kernel
set_option maxRecDepth 20000 in
theorem mk_199 : am_chk cX7_met mc_199 = true := by decide +kernel
set_option maxRecDepth 20000 in
theorem mk_200 : am_chk cX7_state mc_200 = true := by decide +kernel
set_option maxRecDepth 20000 in
theorem mk_201 : am_chk cX7_begin mc_201 = true := by decide +kernel
set_option maxRecDepth 20000 in
theorem mk_202 : am_chk cX7_better mc_202 = true := by decide +kernel
set_option maxRecDepth 20000 in
theorem mk_203 : am_chk cX7_goOn mc_203 = true := by decide +kernel
set_option maxRecDepth 20000 in
theorem mk_204 : am_chk cX7_placeAt mc_204 = true := by decide +kernel
set_option maxRecDepth 20000 in
theorem mk_205 : am_chk cX7_least mc_205 = true := by decide +kernel
set_option maxRecDepth 20000 in
theorem mk_206 : am_chk cX7_cheapest mc_206 = true := by decide +kernel
set_option maxRecDepth 20000 in
theorem mk_207 : am_chk cX7_soonest mc_207 = true := by decide +kernel
set_option maxRecDepth 20000 in
theorem mk_208 : am_chk cX7_leftAt mc_208 = true := by decide +kernel
set_option maxRecDepth 20000 in
theorem mk_209 : am_chk cX7_way mc_209 = true := by decide +kernel
set_option maxRecDepth 20000 in
theorem mk_210 : am_chk cX7_ahead mc_210 = true := by decide +kernel
set_option maxRecDepth 20000 in
theorem mk_211 : am_chk cX7_round mc_211 = true := by decide +kernel
set_option maxRecDepth 20000 in
theorem mk_212 : am_chk cX7_home mc_212 = true := by decide +kernel
set_option maxRecDepth 20000 in
theorem mk_213 : am_chk cX7_again mc_213 = true := by decide +kernel
set_option maxRecDepth 20000 in
theorem mk_214 : am_chk cX7_pass mc_214 = true := by decide +kernel
set_option maxRecDepth 20000 in
theorem mk_215 : am_chk cX7_queue mc_215 = true := by decide +kernel
set_option maxRecDepth 20000 in
theorem mk_216 : am_chk cX7_fullest mc_216 = true := by decide +kernel
set_option maxRecDepth 20000 in
theorem mk_217 : am_chk cX7_clash mc_217 = true := by decide +kernel
set_option maxRecDepth 20000 in
theorem mk_218 : am_chk cX7_burnt mc_218 = true := by decide +kernel
set_option maxRecDepth 20000 in
theorem mk_219 : am_chk cX7_tags mc_219 = true := by decide +kernel
set_option maxRecDepth 20000 in
theorem mk_220 : am_chk cX7_tag mc_220 = true := by decide +kernel
set_option maxRecDepth 20000 in
theorem mk_221 : am_chk cX7_steps mc_221 = true := by decide +kernel
set_option maxRecDepth 20000 in
theorem mk_222 : am_chk cX7_step mc_222 = true := by decide +kernel
set_option maxRecDepth 20000 in
theorem mk_223 : am_chk cX7_change mc_223 = true := by decide +kernel
set_option maxRecDepth 20000 in
theorem mk_224 : am_chk cX7_hand mc_224 = true := by decide +kernel
set_option maxRecDepth 20000 in
theorem mk_225 : am_chk cX7_hurl mc_225 = true := by decide +kernel
set_option maxRecDepth 20000 in
theorem mk_226 : am_chk cX7_draw mc_226 = true := by decide +kernel
set_option maxRecDepth 20000 in
theorem mk_227 : am_chk cX7_bolts mc_227 = true := by decide +kernel
set_option maxRecDepth 20000 in
theorem mk_228 : am_chk cX7_seed mc_228 = true := by decide +kernel
set_option maxRecDepth 20000 in
theorem mk_229 : am_chk cX7_keep mc_229 = true := by decide +kernel
set_option maxRecDepth 20000 in
theorem mk_230 : am_chk cX7_again_ mc_230 = true := by decide +kernel
set_option maxRecDepth 20000 in
theorem mk_231 : am_chk cX7_image mc_231 = true := by decide +kernel
set_option maxRecDepth 20000 in
theorem mk_232 : am_chk cX7_back mc_232 = true := by decide +kernel
set_option maxRecDepth 20000 in
theorem mk_233 : am_chk cX7_status mc_233 = true := by decide +kernel
set_option maxRecDepth 20000 in
theorem mk_234 : am_chk cJ6_bitCount_0f7a4 mc_234 = true := by decide +kernel
set_option maxRecDepth 20000 in
theorem mk_235 : am_chk cJ9_abs_0f7a4 mc_235 = true := by decide +kernel
set_option maxRecDepth 20000 in
theorem mk_236 : am_chk cJ9_max_7cf53 mc_236 = true := by decide +kernel
set_option maxRecDepth 20000 in
theorem mk_237 : am_chk cJ9_min_7cf53 mc_237 = true := by decide +kernel
set_option maxRecDepth 20000 in
theorem mk_238 : am_chk cJ7_fill_d0a16 mc_238 = true := by decide +kernel
set_option maxRecDepth 20000 in
theorem mk_239 : am_chk cJ7_fill_53178 mc_239 = true := by decide +kernel
set_option maxRecDepth 20000 in
theorem mk_240_0 : am_chk cL_law mc_240_0 = true := by decide +kernel
set_option maxRecDepth 20000 in
theorem mk_240_1 : am_chk cL_law mc_240_1 = true := by decide +kernel
set_option maxRecDepth 20000 in
theorem mk_240_2 : am_chk cL_law mc_240_2 = true := by decide +kernel
set_option maxRecDepth 20000 in
theorem mk_240_3 : am_chk cL_law mc_240_3 = true := by decide +kernel
set_option maxRecDepth 20000 in
theorem mk_240_4 : am_chk cL_law mc_240_4 = true := by decide +kernel
set_option maxRecDepth 20000 in
theorem mk_240_5 : am_chk cL_law mc_240_5 = true := by decide +kernel
set_option maxRecDepth 20000 in
theorem mk_240_6 : am_chk cL_law mc_240_6 = true := by decide +kernel
set_option maxRecDepth 20000 in
theorem mk_240_7 : am_chk cL_law mc_240_7 = true := by decide +kernel
set_option maxRecDepth 20000 in
theorem mk_240_8 : am_chk cL_law mc_240_8 = true := by decide +kernel
set_option maxRecDepth 20000 in
theorem mk_240_9 : am_chk cL_law mc_240_9 = true := by decide +kernel
set_option maxRecDepth 20000 in
theorem mk_240_10 : am_chk cL_law mc_240_10 = true := by decide +kernel
set_option maxRecDepth 20000 in
theorem mk_240_11 : am_chk cL_law mc_240_11 = true := by decide +kernel
set_option maxRecDepth 20000 in
theorem mk_240_12 : am_chk cL_law mc_240_12 = true := by decide +kernel
set_option maxRecDepth 20000 in
theorem mk_240_13 : am_chk cL_law mc_240_13 = true := by decide +kernel
set_option maxRecDepth 20000 in
theorem mk_240_14 : am_chk cL_law mc_240_14 = true := by decide +kernel
set_option maxRecDepth 20000 in
theorem mk_240_15 : am_chk cL_law mc_240_15 = true := by decide +kernel
set_option maxRecDepth 20000 in
theorem mk_240_16 : am_chk cL_law mc_240_16 = true := by decide +kernel
set_option maxRecDepth 20000 in
theorem mk_240_17 : am_chk cL_law mc_240_17 = true := by decide +kernel
set_option maxRecDepth 20000 in
theorem mk_240_18 : am_chk cL_law mc_240_18 = true := by decide +kernel
set_option maxRecDepth 20000 in
theorem mk_240_19 : am_chk cL_law mc_240_19 = true := by decide +kernel
set_option maxRecDepth 20000 in
theorem mk_240_20 : am_chk cL_law mc_240_20 = true := by decide +kernel
set_option maxRecDepth 20000 in
theorem mk_240_21 : am_chk cL_law mc_240_21 = true := by decide +kernel
set_option maxRecDepth 20000 in
theorem mk_240_22 : am_chk cL_law mc_240_22 = true := by decide +kernel
set_option maxRecDepth 20000 in
theorem mk_240_23 : am_chk cL_law mc_240_23 = true := by decide +kernel
set_option maxRecDepth 20000 in
theorem mk_240_24 : am_chk cL_law mc_240_24 = true := by decide +kernel
set_option maxRecDepth 20000 in
theorem mk_240_25 : am_chk cL_law mc_240_25 = true := by decide +kernel
set_option maxRecDepth 20000 in
theorem mk_240_26 : am_chk cL_law mc_240_26 = true := by decide +kernel
set_option maxRecDepth 20000 in
theorem mk_240_27 : am_chk cL_law mc_240_27 = true := by decide +kernel
set_option maxRecDepth 20000 in
theorem mk_240_28 : am_chk cL_law mc_240_28 = true := by decide +kernel
set_option maxRecDepth 20000 in
theorem mk_240_29 : am_chk cL_law mc_240_29 = true := by decide +kernel
set_option maxRecDepth 20000 in
theorem mk_240_30 : am_chk cL_law mc_240_30 = true := by decide +kernel
theorem mk_240 : am_chk cL_law mc_240 = true := (am_chk_b (am_chk_b (am_chk_b (am_chk_b mk_240_0 (am_chk_b mk_240_1 mk_240_2)) (am_chk_b (am_chk_b mk_240_3 mk_240_4) (am_chk_b mk_240_5 mk_240_6))) (am_chk_b (am_chk_b (am_chk_b mk_240_7 mk_240_8) (am_chk_b mk_240_9 mk_240_10)) (am_chk_b (am_chk_b mk_240_11 mk_240_12) (am_chk_b mk_240_13 mk_240_14)))) (am_chk_b (am_chk_b (am_chk_b (am_chk_b mk_240_15 mk_240_16) (am_chk_b mk_240_17 mk_240_18)) (am_chk_b (am_chk_b mk_240_19 mk_240_20) (am_chk_b mk_240_21 mk_240_22))) (am_chk_b (am_chk_b (am_chk_b mk_240_23 mk_240_24) (am_chk_b mk_240_25 mk_240_26)) (am_chk_b (am_chk_b mk_240_27 mk_240_28) (am_chk_b mk_240_29 mk_240_30)))))
end
section
/-! ===== the pools as tables (by program; held against the tables of the Statement below) ===== -/
def mp_0 : Lean.RArray (Nat × Nat × Nat × Nat × Nat × Nat × Nat × Nat × Nat) := .branch 34 (.branch 24 (.leaf (3, 6, 0, 1, 0, 940, 0, 0, 0)) (.branch 30 (.leaf (24, 5, 46, 1, 0, 942, 108, 0, 76)) (.leaf (30, 0, 47, 2, 0, 957, 490, 491, 76)))) (.branch 42 (.branch 38 (.leaf (34, 0, 2, 3, 1, 958, 960, 35, 89)) (.leaf (38, 0, 48, 2, 1, 962, 396, 397, 76))) (.branch 46 (.leaf (42, 0, 76, 3, 1, 963, 677, 678, 75)) (.leaf (46, 0, 3, 3, 1, 964, 966, 36, 89))))
def mf_0 : Lean.RArray (Nat × Nat × Nat × Nat) := .branch 20 (.branch 17 (.leaf (11, 0, 1, 944)) (.leaf (17, 0, 2, 945))) (.branch 25 (.leaf (20, 0, 0, 943)) (.leaf (25, 5, 4, 155)))
def mp_1 : Lean.RArray (Nat × Nat × Nat × Nat × Nat × Nat × Nat × Nat × Nat) := .branch 129 (.branch 93 (.branch 78 (.branch 43 (.leaf (3, 6, 0, 1, 0, 723, 0, 0, 0)) (.branch 56 (.leaf (43, 0, 9, 4, 0, 777, 779, 20, 88)) (.leaf (56, 0, 13, 2, 0, 811, 813, 24, 88)))) (.branch 82 (.leaf (78, 0, 8, 3, 1, 927, 929, 34, 88)) (.branch 87 (.leaf (82, 2, 21, 1, 1, 804, 805, 0, 88)) (.leaf (87, 2, 239, 2, 0, 801, 802, 0, 80))))) (.branch 115 (.branch 97 (.leaf (93, 0, 10, 2, 0, 781, 783, 21, 88)) (.branch 103 (.leaf (97, 0, 12, 2, 0, 796, 798, 23, 88)) (.leaf (103, 0, 80, 2, 1, 807, 808, 809, 75)))) (.branch 121 (.branch 118 (.leaf (115, 0, 61, 2, 1, 785, 418, 419, 75)) (.leaf (118, 3, 145, 2, 1, 786, 606, 0, 74))) (.branch 125 (.leaf (121, 0, 11, 5, 0, 787, 789, 22, 88)) (.leaf (125, 0, 50, 1, 1, 791, 634, 635, 76)))))) (.branch 161 (.branch 140 (.branch 133 (.leaf (129, 0, 69, 4, 1, 792, 373, 374, 75)) (.branch 136 (.leaf (133, 0, 62, 3, 1, 793, 377, 378, 75)) (.leaf (136, 0, 71, 4, 1, 794, 691, 692, 75)))) (.branch 153 (.leaf (140, 0, 70, 2, 1, 795, 687, 688, 75)) (.branch 157 (.leaf (153, 0, 81, 3, 1, 815, 816, 817, 75)) (.leaf (157, 0, 14, 5, 0, 821, 823, 25, 88))))) (.branch 173 (.branch 165 (.leaf (161, 0, 15, 3, 0, 825, 827, 26, 88)) (.branch 168 (.leaf (165, 0, 16, 5, 0, 829, 831, 27, 88)) (.leaf (168, 2, 237, 2, 1, 833, 381, 0, 82)))) (.branch 180 (.branch 176 (.leaf (173, 0, 6, 3, 1, 850, 839, 840, 88)) (.leaf (176, 0, 18, 4, 0, 851, 853, 28, 88))) (.branch 183 (.leaf (180, 0, 19, 4, 1, 859, 861, 30, 88)) (.leaf (183, 0, 20, 5, 1, 855, 857, 29, 88))))))
def mf_1 : Lean.RArray (Nat × Nat × Nat × Nat) := .branch 60 (.branch 29 (.branch 20 (.branch 17 (.leaf (11, 1, 1, 727)) (.leaf (17, 1, 3, 729))) (.branch 23 (.leaf (20, 1, 4, 730)) (.branch 26 (.leaf (23, 1, 5, 731)) (.leaf (26, 1, 6, 732))))) (.branch 38 (.branch 32 (.leaf (29, 1, 7, 733)) (.branch 35 (.leaf (32, 1, 8, 734)) (.leaf (35, 1, 9, 735)))) (.branch 47 (.leaf (38, 1, 0, 726)) (.branch 53 (.leaf (47, 4, 4, 124)) (.leaf (53, 1, 12, 738)))))) (.branch 100 (.branch 66 (.branch 63 (.leaf (60, 1, 13, 739)) (.leaf (63, 4, 3, 121))) (.branch 69 (.leaf (66, 1, 14, 740)) (.branch 74 (.leaf (69, 2, 1, 227)) (.leaf (74, 2, 2, 230))))) (.branch 143 (.branch 109 (.leaf (100, 1, 11, 737)) (.branch 112 (.leaf (109, 1, 2, 728)) (.leaf (112, 5, 0, 142)))) (.branch 146 (.leaf (143, 1, 10, 736)) (.branch 149 (.leaf (146, 5, 3, 152)) (.leaf (149, 5, 4, 157))))))
def mp_2 : Lean.RArray (Nat × Nat × Nat × Nat × Nat × Nat × Nat × Nat × Nat) := .branch 26 (.branch 19 (.leaf (3, 6, 0, 1, 0, 223, 0, 0, 0)) (.leaf (19, 0, 24, 1, 1, 363, 298, 299, 78))) (.branch 32 (.leaf (26, 2, 238, 2, 0, 286, 287, 0, 80)) (.leaf (32, 0, 32, 2, 2, 309, 311, 2, 78)))
def mf_2 : Lean.RArray (Nat × Nat × Nat × Nat) := .branch 15 (.leaf (9, 2, 0, 224)) (.branch 23 (.leaf (15, 2, 2, 229)) (.leaf (23, 2, 1, 228)))
def mp_3 : Lean.RArray (Nat × Nat × Nat × Nat × Nat × Nat × Nat × Nat × Nat) := .branch 80 (.branch 50 (.branch 26 (.branch 17 (.leaf (3, 6, 0, 1, 0, 186, 0, 0, 0)) (.leaf (17, 4, 52, 1, 0, 188, 101, 0, 75))) (.branch 33 (.leaf (26, 0, 53, 2, 0, 484, 485, 486, 75)) (.branch 39 (.leaf (33, 0, 44, 1, 0, 493, 495, 4, 77)) (.leaf (39, 0, 35, 1, 0, 502, 504, 6, 77))))) (.branch 64 (.branch 54 (.leaf (50, 0, 43, 2, 1, 507, 509, 7, 77)) (.branch 59 (.leaf (54, 0, 36, 1, 0, 559, 561, 8, 77)) (.leaf (59, 0, 37, 1, 0, 572, 574, 11, 77)))) (.branch 69 (.leaf (64, 0, 38, 1, 0, 578, 580, 12, 77)) (.branch 74 (.leaf (69, 0, 39, 1, 0, 583, 585, 13, 77)) (.leaf (74, 0, 40, 1, 0, 592, 594, 14, 77)))))) (.branch 110 (.branch 97 (.branch 87 (.leaf (80, 0, 41, 3, 1, 563, 565, 9, 77)) (.leaf (87, 0, 64, 2, 1, 576, 404, 405, 75))) (.branch 101 (.leaf (97, 0, 60, 1, 1, 587, 456, 457, 75)) (.branch 106 (.leaf (101, 0, 61, 2, 1, 588, 418, 419, 75)) (.leaf (106, 0, 63, 5, 1, 590, 460, 461, 75))))) (.branch 122 (.branch 113 (.leaf (110, 0, 77, 2, 1, 596, 597, 598, 75)) (.branch 117 (.leaf (113, 0, 42, 1, 1, 567, 569, 10, 77)) (.leaf (117, 8, 0, 1, 1, 511, 512, 513, 84)))) (.branch 126 (.leaf (122, 9, 0, 2, 1, 521, 522, 523, 84)) (.branch 129 (.leaf (126, 0, 45, 2, 1, 497, 499, 5, 77)) (.leaf (129, 2, 237, 2, 1, 501, 381, 0, 82))))))
def mf_3 : Lean.RArray (Nat × Nat × Nat × Nat) := .branch 42 (.branch 22 (.branch 18 (.leaf (9, 3, 0, 189)) (.leaf (18, 3, 2, 193))) (.branch 30 (.leaf (22, 3, 6, 198)) (.branch 36 (.leaf (30, 3, 5, 197)) (.leaf (36, 3, 1, 191))))) (.branch 84 (.branch 45 (.leaf (42, 3, 3, 195)) (.branch 77 (.leaf (45, 3, 4, 196)) (.leaf (77, 5, 3, 151)))) (.branch 91 (.leaf (84, 5, 0, 141)) (.branch 94 (.leaf (91, 5, 1, 145)) (.leaf (94, 5, 2, 148)))))
def mp_4 : Lean.RArray (Nat × Nat × Nat × Nat × Nat × Nat × Nat × Nat × Nat) := .branch 27 (.leaf (3, 6, 0, 1, 0, 110, 0, 0, 0)) (.branch 31 (.leaf (27, 0, 49, 2, 1, 637, 365, 366, 76)) (.leaf (31, 2, 236, 2, 1, 652, 389, 0, 82)))
def mf_4 : Lean.RArray (Nat × Nat × Nat × Nat) := .branch 18 (.branch 15 (.leaf (9, 4, 0, 111)) (.leaf (15, 4, 1, 114))) (.branch 21 (.leaf (18, 4, 2, 117)) (.branch 24 (.leaf (21, 4, 3, 120)) (.leaf (24, 4, 4, 125))))
def mp_5 : Lean.RArray (Nat × Nat × Nat × Nat × Nat × Nat × Nat × Nat × Nat) := .branch 104 (.branch 62 (.branch 41 (.branch 31 (.leaf (3, 6, 0, 1, 0, 103, 0, 0, 0)) (.branch 32 (.leaf (31, 5, 46, 1, 0, 107, 108, 0, 76)) (.leaf (32, 7, 0, 5, 0, 488, 327, 326, 81)))) (.branch 55 (.branch 51 (.leaf (41, 0, 47, 2, 0, 489, 490, 491, 76)) (.leaf (51, 0, 62, 3, 1, 376, 377, 378, 75))) (.branch 59 (.leaf (55, 0, 54, 2, 1, 451, 434, 435, 75)) (.leaf (59, 0, 58, 2, 1, 661, 341, 342, 75))))) (.branch 89 (.branch 81 (.leaf (62, 0, 60, 1, 1, 463, 456, 457, 75)) (.branch 85 (.leaf (81, 0, 64, 2, 1, 403, 404, 405, 75)) (.leaf (85, 0, 65, 1, 1, 407, 408, 409, 75)))) (.branch 98 (.branch 93 (.leaf (89, 0, 48, 2, 1, 395, 396, 397, 76)) (.leaf (93, 2, 237, 2, 1, 380, 381, 0, 82))) (.branch 101 (.leaf (98, 0, 55, 2, 1, 383, 384, 385, 75)) (.leaf (101, 0, 49, 2, 1, 387, 365, 366, 76)))))) (.branch 129 (.branch 113 (.branch 107 (.leaf (104, 0, 61, 2, 1, 604, 418, 419, 75)) (.branch 110 (.leaf (107, 2, 236, 2, 1, 647, 389, 0, 82)) (.leaf (110, 3, 145, 2, 1, 605, 606, 0, 74)))) (.branch 120 (.branch 116 (.leaf (113, 0, 50, 1, 1, 633, 634, 635, 76)) (.leaf (116, 0, 69, 4, 1, 638, 373, 374, 75))) (.branch 123 (.leaf (120, 0, 70, 2, 1, 686, 687, 688, 75)) (.leaf (123, 0, 71, 4, 1, 690, 691, 692, 75))))) (.branch 140 (.branch 133 (.leaf (129, 0, 72, 3, 1, 681, 630, 631, 75)) (.branch 137 (.leaf (133, 0, 73, 3, 0, 682, 683, 684, 75)) (.leaf (137, 0, 74, 2, 0, 600, 601, 602, 75)))) (.branch 147 (.branch 143 (.leaf (140, 0, 78, 1, 1, 608, 610, 15, 75)) (.leaf (143, 0, 81, 3, 1, 913, 816, 817, 75))) (.branch 150 (.leaf (147, 0, 51, 2, 1, 819, 649, 650, 76)) (.leaf (150, 0, 75, 3, 1, 820, 644, 645, 75))))))
def mf_5 : Lean.RArray (Nat × Nat × Nat × Nat) := .branch 45 (.branch 24 (.branch 15 (.leaf (9, 5, 0, 140)) (.branch 19 (.leaf (15, 5, 1, 144)) (.leaf (19, 5, 2, 147)))) (.branch 28 (.leaf (24, 5, 4, 154)) (.branch 38 (.leaf (28, 5, 7, 162)) (.leaf (38, 5, 3, 150))))) (.branch 69 (.branch 48 (.leaf (45, 5, 5, 158)) (.branch 66 (.leaf (48, 5, 6, 160)) (.leaf (66, 4, 0, 112)))) (.branch 75 (.branch 72 (.leaf (69, 4, 1, 115)) (.leaf (72, 4, 2, 118))) (.branch 78 (.leaf (75, 4, 3, 122)) (.leaf (78, 4, 4, 126)))))
def mp_6 : Lean.RArray (Nat × Nat × Nat × Nat × Nat × Nat × Nat × Nat × Nat) := .branch 214 (.branch 108 (.branch 67 (.branch 46 (.branch 21 (.branch 9 (.leaf (1, 6, 0, 1, 0, 95, 0, 0, 0)) (.leaf (9, 4, 52, 1, 0, 100, 101, 0, 75))) (.branch 38 (.leaf (21, 5, 33, 1, 0, 183, 184, 0, 77)) (.leaf (38, 5, 46, 1, 0, 218, 108, 0, 76)))) (.branch 51 (.branch 47 (.leaf (46, 5, 22, 1, 0, 220, 221, 0, 78)) (.leaf (47, 2, 140, 1, 1, 275, 276, 0, 74))) (.branch 55 (.leaf (51, 0, 128, 2, 1, 278, 280, 0, 74)) (.branch 59 (.leaf (55, 0, 29, 3, 0, 282, 283, 284, 78)) (.leaf (59, 0, 131, 4, 1, 293, 295, 1, 74)))))) (.branch 84 (.branch 78 (.branch 71 (.leaf (67, 0, 31, 3, 0, 305, 306, 307, 78)) (.leaf (71, 0, 25, 1, 1, 317, 318, 319, 78))) (.branch 81 (.leaf (78, 0, 24, 1, 1, 297, 298, 299, 78)) (.leaf (81, 0, 23, 1, 1, 301, 302, 303, 78)))) (.branch 98 (.branch 92 (.leaf (84, 0, 30, 3, 1, 321, 322, 323, 78)) (.leaf (92, 7, 0, 5, 0, 325, 327, 326, 81))) (.branch 101 (.leaf (98, 0, 58, 2, 1, 340, 341, 342, 75)) (.branch 104 (.leaf (101, 0, 27, 1, 0, 344, 345, 346, 78)) (.leaf (104, 0, 28, 2, 0, 348, 349, 350, 78))))))) (.branch 153 (.branch 132 (.branch 119 (.branch 111 (.leaf (108, 2, 141, 1, 1, 356, 357, 0, 74)) (.leaf (111, 0, 26, 1, 1, 359, 360, 361, 78))) (.branch 122 (.leaf (119, 0, 49, 2, 1, 364, 365, 366, 76)) (.leaf (122, 0, 132, 3, 1, 368, 370, 3, 74)))) (.branch 141 (.branch 135 (.leaf (132, 0, 54, 2, 1, 433, 434, 435, 75)) (.leaf (135, 0, 64, 2, 1, 437, 404, 405, 75))) (.branch 147 (.leaf (141, 0, 55, 2, 1, 442, 384, 385, 75)) (.branch 150 (.leaf (147, 0, 57, 3, 1, 447, 448, 449, 75)) (.leaf (150, 2, 143, 1, 1, 452, 453, 0, 74)))))) (.branch 196 (.branch 167 (.branch 156 (.leaf (153, 0, 60, 1, 1, 455, 456, 457, 75)) (.leaf (156, 0, 63, 5, 1, 459, 460, 461, 75))) (.branch 177 (.leaf (167, 0, 34, 2, 1, 480, 481, 482, 77)) (.branch 193 (.leaf (177, 0, 53, 2, 0, 612, 485, 486, 75)) (.leaf (193, 2, 142, 1, 1, 626, 627, 0, 74))))) (.branch 204 (.branch 200 (.leaf (196, 0, 72, 3, 1, 629, 630, 631, 75)) (.leaf (200, 0, 69, 4, 1, 372, 373, 374, 75))) (.branch 208 (.leaf (204, 0, 75, 3, 1, 643, 644, 645, 75)) (.branch 211 (.leaf (208, 0, 51, 2, 1, 648, 649, 650, 76)) (.leaf (211, 0, 59, 3, 1, 657, 658, 659, 75)))))))) (.branch 290 (.branch 247 (.branch 229 (.branch 221 (.branch 218 (.leaf (214, 0, 48, 2, 1, 662, 396, 397, 76)) (.leaf (218, 0, 138, 3, 1, 667, 669, 16, 74))) (.branch 225 (.leaf (221, 0, 133, 4, 1, 671, 673, 17, 74)) (.leaf (225, 0, 134, 5, 1, 702, 704, 18, 74)))) (.branch 236 (.branch 232 (.leaf (229, 2, 144, 1, 1, 711, 712, 0, 74)) (.leaf (232, 0, 139, 1, 3, 714, 716, 19, 74))) (.branch 241 (.leaf (236, 0, 5, 4, 1, 772, 773, 774, 88)) (.branch 244 (.leaf (241, 0, 6, 3, 1, 838, 839, 840, 88)) (.leaf (244, 0, 17, 4, 1, 846, 847, 848, 88)))))) (.branch 265 (.branch 253 (.branch 250 (.leaf (247, 0, 137, 3, 1, 867, 869, 31, 74)) (.leaf (250, 0, 50, 1, 1, 875, 634, 635, 76))) (.branch 258 (.leaf (253, 0, 70, 2, 1, 876, 687, 688, 75)) (.branch 261 (.leaf (258, 0, 61, 2, 1, 417, 418, 419, 75)) (.leaf (261, 2, 146, 2, 2, 882, 883, 0, 74))))) (.branch 273 (.branch 268 (.leaf (265, 0, 135, 3, 1, 893, 895, 32, 74)) (.leaf (268, 2, 234, 1, 1, 411, 412, 0, 83))) (.branch 276 (.leaf (273, 0, 79, 2, 1, 909, 910, 911, 75)) (.branch 280 (.leaf (276, 0, 136, 3, 1, 918, 920, 33, 74)) (.leaf (280, 0, 7, 4, 1, 923, 924, 925, 88))))))) (.branch 331 (.branch 303 (.branch 296 (.branch 292 (.leaf (290, 4, 0, 2, 0, 937, 938, 0, 89)) (.leaf (292, 0, 1, 4, 1, 953, 954, 955, 89))) (.branch 299 (.leaf (296, 0, 77, 2, 1, 972, 597, 598, 75)) (.leaf (299, 0, 73, 3, 0, 977, 683, 684, 75)))) (.branch 322 (.branch 306 (.leaf (303, 0, 56, 3, 1, 986, 987, 988, 75)) (.leaf (306, 0, 82, 2, 1, 994, 995, 996, 75))) (.branch 325 (.leaf (322, 0, 67, 1, 1, 421, 422, 423, 75)) (.branch 328 (.leaf (325, 0, 65, 1, 1, 1015, 408, 409, 75)) (.leaf (328, 0, 130, 1, 1, 1016, 1018, 37, 74)))))) (.branch 348 (.branch 339 (.branch 334 (.leaf (331, 0, 129, 2, 1, 1020, 1022, 38, 74)) (.leaf (334, 2, 236, 2, 1, 388, 389, 0, 82))) (.branch 342 (.leaf (339, 0, 68, 2, 1, 391, 392, 393, 75)) (.branch 345 (.leaf (342, 0, 66, 2, 1, 399, 400, 401, 75)) (.leaf (345, 0, 47, 2, 0, 675, 490, 491, 76))))) (.branch 355 (.branch 352 (.leaf (348, 0, 76, 3, 1, 676, 677, 678, 75)) (.leaf (352, 0, 74, 2, 0, 706, 601, 602, 75))) (.branch 358 (.leaf (355, 2, 235, 1, 1, 897, 898, 0, 82)) (.branch 367 (.leaf (358, 2, 237, 2, 1, 900, 381, 0, 82)) (.leaf (367, 4, 4, 2, 0, 720, 721, 0, 88))))))))
def mf_6 : Lean.RArray (Nat × Nat × Nat × Nat) := .branch 160 (.branch 63 (.branch 28 (.branch 16 (.leaf (10, 6, 0, 240)) (.branch 22 (.leaf (16, 6, 1, 241)) (.leaf (22, 6, 3, 243)))) (.branch 39 (.branch 32 (.leaf (28, 6, 4, 244)) (.leaf (32, 6, 5, 245))) (.branch 43 (.leaf (39, 6, 6, 246)) (.leaf (43, 6, 7, 247))))) (.branch 126 (.branch 88 (.branch 75 (.leaf (63, 2, 1, 226)) (.leaf (75, 2, 0, 225))) (.branch 115 (.leaf (88, 2, 2, 231)) (.leaf (115, 5, 4, 156)))) (.branch 138 (.branch 129 (.leaf (126, 5, 3, 153)) (.leaf (129, 5, 0, 143))) (.branch 144 (.leaf (138, 5, 1, 146)) (.leaf (144, 5, 2, 149)))))) (.branch 187 (.branch 171 (.branch 163 (.leaf (160, 4, 3, 123)) (.branch 164 (.leaf (163, 3, 1, 192)) (.leaf (164, 3, 0, 190)))) (.branch 181 (.branch 174 (.leaf (171, 3, 6, 199)) (.leaf (174, 3, 2, 194))) (.branch 184 (.leaf (181, 4, 0, 113)) (.leaf (184, 4, 1, 116))))) (.branch 312 (.branch 284 (.branch 190 (.leaf (187, 4, 2, 119)) (.leaf (190, 4, 4, 127))) (.branch 309 (.leaf (284, 6, 9, 249)) (.leaf (309, 5, 7, 163)))) (.branch 319 (.branch 316 (.leaf (312, 6, 2, 242)) (.leaf (316, 5, 5, 159))) (.branch 363 (.leaf (319, 5, 6, 161)) (.leaf (363, 6, 8, 248))))))
def mp_7 : Lean.RArray (Nat × Nat × Nat × Nat × Nat × Nat × Nat × Nat × Nat) := .branch 182 (.branch 127 (.branch 94 (.branch 84 (.branch 76 (.leaf (1, 6, 0, 1, 0, 1029, 0, 0, 0)) (.branch 80 (.leaf (76, 2, 149, 3, 1, 1126, 1127, 0, 79)) (.leaf (80, 0, 151, 2, 1, 1161, 1163, 42, 79)))) (.branch 88 (.leaf (84, 0, 148, 2, 1, 1129, 1131, 39, 79)) (.branch 91 (.leaf (88, 0, 156, 2, 1, 1137, 1139, 40, 79)) (.leaf (91, 0, 154, 2, 1, 1145, 1147, 41, 79))))) (.branch 105 (.branch 98 (.leaf (94, 2, 162, 2, 1, 1169, 1170, 0, 79)) (.branch 102 (.leaf (98, 0, 184, 3, 1, 1172, 1174, 43, 79)) (.leaf (102, 0, 183, 3, 1, 1176, 1178, 44, 79)))) (.branch 108 (.leaf (105, 0, 153, 2, 1, 1188, 1190, 45, 79)) (.branch 111 (.leaf (108, 0, 164, 2, 1, 1192, 1194, 46, 79)) (.leaf (111, 0, 168, 5, 1, 1204, 1206, 47, 79)))))) (.branch 153 (.branch 142 (.branch 130 (.leaf (127, 2, 173, 1, 1, 1232, 1233, 0, 79)) (.branch 136 (.leaf (130, 2, 174, 1, 1, 1235, 1236, 0, 79)) (.leaf (136, 8, 0, 1, 1, 1247, 512, 513, 84)))) (.branch 146 (.leaf (142, 9, 0, 2, 1, 1248, 522, 523, 84)) (.branch 149 (.leaf (146, 0, 175, 1, 0, 1228, 1230, 49, 79)) (.leaf (149, 0, 176, 2, 1, 1243, 1245, 51, 79))))) (.branch 170 (.branch 160 (.leaf (153, 0, 177, 3, 1, 1249, 1251, 52, 79)) (.branch 166 (.leaf (160, 0, 221, 2, 1, 1256, 1258, 53, 79)) (.leaf (166, 0, 229, 2, 0, 1224, 1226, 48, 79)))) (.branch 174 (.leaf (170, 0, 178, 1, 1, 1238, 1240, 50, 79)) (.branch 177 (.leaf (174, 0, 230, 2, 0, 1266, 1268, 55, 79)) (.leaf (177, 2, 236, 2, 1, 1298, 389, 0, 82))))))) (.branch 227 (.branch 202 (.branch 191 (.branch 185 (.leaf (182, 0, 187, 3, 1, 1286, 1288, 57, 79)) (.branch 188 (.leaf (185, 0, 188, 3, 1, 1290, 1292, 58, 79)) (.leaf (188, 2, 185, 1, 1, 1328, 1329, 0, 79)))) (.branch 195 (.leaf (191, 0, 186, 4, 1, 1331, 1333, 64, 79)) (.branch 199 (.leaf (195, 0, 190, 3, 0, 1324, 1326, 63, 79)) (.leaf (199, 0, 189, 3, 1, 1282, 1284, 56, 79))))) (.branch 217 (.branch 210 (.leaf (202, 0, 152, 3, 1, 1303, 1305, 59, 79)) (.branch 213 (.leaf (210, 0, 191, 3, 0, 1320, 1322, 62, 79)) (.leaf (213, 0, 182, 2, 0, 1260, 1262, 54, 79)))) (.branch 221 (.leaf (217, 0, 195, 4, 1, 1311, 1313, 60, 79)) (.branch 224 (.leaf (221, 0, 196, 5, 1, 1315, 1317, 61, 79)) (.leaf (224, 2, 200, 4, 1, 1355, 1356, 0, 79)))))) (.branch 247 (.branch 237 (.branch 231 (.leaf (227, 0, 202, 6, 0, 1362, 1364, 68, 79)) (.branch 234 (.leaf (231, 0, 201, 3, 0, 1351, 1353, 66, 79)) (.leaf (234, 0, 203, 2, 0, 1358, 1360, 67, 79)))) (.branch 240 (.leaf (237, 0, 204, 3, 1, 1366, 1368, 69, 79)) (.branch 243 (.leaf (240, 2, 237, 2, 1, 1370, 381, 0, 82)) (.leaf (243, 0, 205, 6, 1, 1347, 1349, 65, 79))))) (.branch 256 (.branch 250 (.leaf (247, 0, 210, 8, 1, 1379, 1381, 70, 79)) (.branch 253 (.leaf (250, 2, 208, 4, 1, 1383, 1384, 0, 79)) (.leaf (253, 2, 150, 2, 1, 1390, 1391, 0, 79)))) (.branch 268 (.branch 263 (.leaf (256, 2, 234, 1, 1, 1393, 412, 0, 83)) (.leaf (263, 2, 235, 1, 1, 1411, 898, 0, 82))) (.branch 278 (.leaf (268, 0, 219, 4, 1, 1429, 1431, 71, 79)) (.leaf (278, 0, 226, 2, 1, 1453, 1455, 72, 79)))))))
def mf_7 : Lean.RArray (Nat × Nat × Nat × Nat) := .branch 56 (.branch 32 (.branch 20 (.branch 13 (.leaf (7, 7, 0, 1031)) (.branch 16 (.leaf (13, 7, 1, 1032)) (.leaf (16, 7, 2, 1033)))) (.branch 26 (.branch 23 (.leaf (20, 7, 4, 1035)) (.leaf (23, 7, 5, 1036))) (.branch 29 (.leaf (26, 7, 7, 1038)) (.leaf (29, 7, 8, 1039))))) (.branch 44 (.branch 38 (.branch 35 (.leaf (32, 7, 9, 1040)) (.leaf (35, 7, 10, 1041))) (.branch 41 (.leaf (38, 7, 11, 1042)) (.leaf (41, 7, 16, 1047)))) (.branch 50 (.branch 47 (.leaf (44, 7, 21, 1052)) (.leaf (47, 7, 23, 1054))) (.branch 53 (.leaf (50, 7, 24, 1055)) (.leaf (53, 7, 25, 1056)))))) (.branch 118 (.branch 66 (.branch 60 (.leaf (56, 7, 26, 1057)) (.branch 63 (.leaf (60, 7, 27, 1058)) (.leaf (63, 7, 28, 1059)))) (.branch 73 (.branch 70 (.leaf (66, 7, 3, 1034)) (.leaf (70, 7, 14, 1045))) (.branch 115 (.leaf (73, 7, 6, 1037)) (.leaf (115, 7, 15, 1046))))) (.branch 205 (.branch 124 (.branch 121 (.leaf (118, 7, 17, 1048)) (.leaf (121, 7, 18, 1049))) (.branch 133 (.leaf (124, 7, 19, 1050)) (.leaf (133, 7, 20, 1051)))) (.branch 274 (.branch 271 (.leaf (205, 7, 29, 1060)) (.leaf (271, 7, 13, 1044))) (.branch 281 (.leaf (274, 7, 12, 1043)) (.leaf (281, 7, 22, 1053))))))
def mp_8 : Lean.RArray (Nat × Nat × Nat × Nat × Nat × Nat × Nat × Nat × Nat) := .leaf (999999, 0, 0, 0, 0, 0, 0, 0, 0)
def mf_8 : Lean.RArray (Nat × Nat × Nat × Nat) := .leaf (999999, 0, 0, 0)
def mp_9 : Lean.RArray (Nat × Nat × Nat × Nat × Nat × Nat × Nat × Nat × Nat) := .leaf (999999, 0, 0, 0, 0, 0, 0, 0, 0)
def mf_9 : Lean.RArray (Nat × Nat × Nat × Nat) := .leaf (999999, 0, 0, 0)
def mp_10 : Lean.RArray (Nat × Nat × Nat × Nat × Nat × Nat × Nat × Nat × Nat) := .leaf (999999, 0, 0, 0, 0, 0, 0, 0, 0)
def mf_10 : Lean.RArray (Nat × Nat × Nat × Nat) := .leaf (999999, 0, 0, 0)
def mp_11 : Lean.RArray (Nat × Nat × Nat × Nat × Nat × Nat × Nat × Nat × Nat) := .branch 110 (.branch 61 (.branch 39 (.branch 24 (.branch 13 (.branch 12 (.leaf (9, 4, 83, 1, 0, 92, 93, 0, 74)) (.leaf (12, 4, 147, 1, 0, 1026, 1027, 0, 79))) (.branch 17 (.leaf (13, 0, 84, 4, 1, 271, 272, 273, 74)) (.branch 20 (.leaf (17, 0, 155, 4, 1, 1122, 1123, 1124, 79)) (.leaf (20, 0, 85, 4, 1, 289, 290, 291, 74))))) (.branch 30 (.branch 25 (.leaf (24, 0, 157, 4, 1, 1133, 1134, 1135, 79)) (.branch 29 (.leaf (25, 0, 86, 6, 1, 313, 314, 315, 74)) (.leaf (29, 0, 158, 6, 1, 1141, 1142, 1143, 79)))) (.branch 34 (.leaf (30, 0, 87, 3, 2, 328, 329, 330, 74)) (.branch 35 (.leaf (34, 0, 159, 3, 2, 1149, 1150, 1151, 79)) (.leaf (35, 0, 88, 2, 1, 332, 333, 334, 74)))))) (.branch 49 (.branch 44 (.branch 40 (.leaf (39, 0, 160, 2, 1, 1153, 1154, 1155, 79)) (.leaf (40, 0, 89, 3, 1, 336, 337, 338, 74))) (.branch 45 (.leaf (44, 0, 161, 3, 1, 1157, 1158, 1159, 79)) (.branch 48 (.leaf (45, 0, 90, 3, 1, 352, 353, 354, 74)) (.leaf (48, 0, 163, 3, 1, 1165, 1166, 1167, 79))))) (.branch 56 (.branch 52 (.leaf (49, 0, 91, 2, 1, 425, 426, 427, 74)) (.branch 53 (.leaf (52, 0, 165, 2, 1, 1180, 1181, 1182, 79)) (.leaf (53, 0, 92, 3, 1, 429, 430, 431, 74)))) (.branch 57 (.leaf (56, 0, 166, 3, 1, 1184, 1185, 1186, 79)) (.branch 60 (.leaf (57, 0, 93, 3, 1, 438, 439, 440, 74)) (.leaf (60, 0, 167, 3, 1, 1196, 1197, 1198, 79))))))) (.branch 86 (.branch 73 (.branch 66 (.branch 65 (.leaf (61, 0, 94, 5, 1, 443, 444, 445, 74)) (.leaf (65, 0, 169, 5, 1, 1200, 1201, 1202, 79))) (.branch 69 (.leaf (66, 0, 95, 3, 1, 464, 465, 466, 74)) (.branch 70 (.leaf (69, 0, 170, 3, 1, 1208, 1209, 1210, 79)) (.leaf (70, 0, 96, 2, 1, 468, 469, 470, 74))))) (.branch 79 (.branch 74 (.leaf (73, 0, 171, 2, 1, 1212, 1213, 1214, 79)) (.branch 78 (.leaf (74, 0, 97, 1, 1, 472, 473, 474, 74)) (.leaf (78, 0, 172, 1, 1, 1216, 1217, 1218, 79)))) (.branch 82 (.leaf (79, 0, 98, 1, 1, 476, 477, 478, 74)) (.branch 83 (.leaf (82, 0, 179, 1, 1, 1220, 1221, 1222, 79)) (.leaf (83, 0, 99, 3, 1, 614, 615, 616, 74)))))) (.branch 98 (.branch 91 (.branch 87 (.leaf (86, 0, 180, 3, 1, 1270, 1271, 1272, 79)) (.branch 90 (.leaf (87, 0, 100, 3, 1, 618, 619, 620, 74)) (.leaf (90, 0, 181, 3, 1, 1274, 1275, 1276, 79)))) (.branch 94 (.leaf (91, 0, 101, 3, 1, 622, 623, 624, 74)) (.branch 95 (.leaf (94, 0, 192, 3, 1, 1278, 1279, 1280, 79)) (.leaf (95, 0, 102, 4, 1, 639, 640, 641, 74))))) (.branch 103 (.branch 99 (.leaf (98, 0, 193, 4, 1, 1294, 1295, 1296, 79)) (.branch 102 (.leaf (99, 0, 103, 3, 1, 653, 654, 655, 74)) (.leaf (102, 0, 194, 3, 1, 1299, 1300, 1301, 79)))) (.branch 106 (.leaf (103, 0, 104, 4, 1, 663, 664, 665, 74)) (.branch 107 (.leaf (106, 0, 197, 4, 1, 1307, 1308, 1309, 79)) (.leaf (107, 0, 105, 5, 1, 694, 695, 696, 74)))))))) (.branch 155 (.branch 131 (.branch 119 (.branch 114 (.branch 111 (.leaf (110, 0, 198, 5, 1, 1335, 1336, 1337, 79)) (.leaf (111, 0, 106, 5, 1, 698, 699, 700, 74))) (.branch 115 (.leaf (114, 0, 199, 5, 1, 1339, 1340, 1341, 79)) (.branch 118 (.leaf (115, 0, 107, 4, 1, 707, 708, 709, 74)) (.leaf (118, 0, 206, 4, 1, 1343, 1344, 1345, 79))))) (.branch 126 (.branch 122 (.leaf (119, 0, 108, 3, 1, 834, 835, 836, 74)) (.branch 123 (.leaf (122, 0, 207, 3, 1, 1371, 1372, 1373, 79)) (.leaf (123, 0, 109, 4, 1, 842, 843, 844, 74)))) (.branch 127 (.leaf (126, 0, 209, 4, 1, 1375, 1376, 1377, 79)) (.branch 130 (.leaf (127, 0, 110, 4, 1, 863, 864, 865, 74)) (.leaf (130, 0, 211, 4, 1, 1386, 1387, 1388, 79)))))) (.branch 143 (.branch 135 (.branch 134 (.leaf (131, 0, 111, 3, 1, 871, 872, 873, 74)) (.leaf (134, 0, 212, 3, 1, 1394, 1395, 1396, 79))) (.branch 139 (.leaf (135, 0, 112, 1, 2, 877, 878, 879, 74)) (.branch 140 (.leaf (139, 0, 213, 1, 2, 1398, 1399, 1400, 79)) (.leaf (140, 0, 113, 3, 1, 885, 886, 887, 74))))) (.branch 148 (.branch 144 (.leaf (143, 0, 214, 3, 1, 1403, 1404, 1405, 79)) (.branch 147 (.leaf (144, 0, 114, 3, 1, 889, 890, 891, 74)) (.leaf (147, 0, 215, 3, 1, 1407, 1408, 1409, 79)))) (.branch 151 (.leaf (148, 0, 115, 1, 1, 901, 902, 903, 74)) (.branch 152 (.leaf (151, 0, 216, 1, 1, 1412, 1413, 1414, 79)) (.leaf (152, 0, 116, 2, 1, 905, 906, 907, 74))))))) (.branch 176 (.branch 164 (.branch 159 (.branch 156 (.leaf (155, 0, 217, 2, 1, 1416, 1417, 1418, 79)) (.leaf (156, 0, 117, 4, 1, 914, 915, 916, 74))) (.branch 160 (.leaf (159, 0, 218, 4, 1, 1420, 1421, 1422, 79)) (.branch 163 (.leaf (160, 0, 118, 4, 1, 931, 932, 933, 74)) (.leaf (163, 0, 220, 4, 1, 1425, 1426, 1427, 79))))) (.branch 171 (.branch 167 (.leaf (164, 0, 119, 2, 1, 968, 969, 970, 74)) (.branch 168 (.leaf (167, 0, 222, 2, 1, 1433, 1434, 1435, 79)) (.leaf (168, 0, 120, 3, 1, 973, 974, 975, 74)))) (.branch 172 (.leaf (171, 0, 223, 3, 1, 1437, 1438, 1439, 79)) (.branch 175 (.leaf (172, 0, 121, 4, 1, 978, 979, 980, 74)) (.leaf (175, 0, 224, 4, 1, 1441, 1442, 1443, 79)))))) (.branch 188 (.branch 183 (.branch 179 (.leaf (176, 0, 122, 4, 1, 982, 983, 984, 74)) (.branch 180 (.leaf (179, 0, 225, 4, 1, 1445, 1446, 1447, 79)) (.leaf (180, 0, 123, 2, 1, 990, 991, 992, 74)))) (.branch 184 (.leaf (183, 0, 227, 2, 1, 1449, 1450, 1451, 79)) (.branch 187 (.leaf (184, 0, 124, 2, 1, 999, 1000, 1001, 74)) (.leaf (187, 0, 228, 2, 1, 1458, 1459, 1460, 79))))) (.branch 195 (.branch 191 (.leaf (188, 0, 125, 1, 1, 1003, 1004, 1005, 74)) (.branch 192 (.leaf (191, 0, 231, 1, 1, 1462, 1463, 1464, 79)) (.leaf (192, 0, 126, 1, 1, 1007, 1008, 1009, 74)))) (.branch 196 (.leaf (195, 0, 232, 1, 1, 1466, 1467, 1468, 79)) (.branch 199 (.leaf (196, 0, 127, 2, 1, 1011, 1012, 1013, 74)) (.leaf (199, 0, 233, 2, 1, 1470, 1471, 1472, 79))))))))
def mf_11 : Lean.RArray (Nat × Nat × Nat × Nat) := .leaf (999999, 0, 0, 0)
def am_pm : Lean.RArray (Lean.RArray (Nat × Nat × Nat × Nat × Nat × Nat × Nat × Nat × Nat)) := .branch 6 (.branch 3 (.branch 1 (.leaf mp_0) (.branch 2 (.leaf mp_1) (.leaf mp_2))) (.branch 4 (.leaf mp_3) (.branch 5 (.leaf mp_4) (.leaf mp_5)))) (.branch 9 (.branch 7 (.leaf mp_6) (.branch 8 (.leaf mp_7) (.leaf mp_8))) (.branch 10 (.leaf mp_9) (.branch 11 (.leaf mp_10) (.leaf mp_11))))
def am_pf : Lean.RArray (Lean.RArray (Nat × Nat × Nat × Nat)) := .branch 6 (.branch 3 (.branch 1 (.leaf mf_0) (.branch 2 (.leaf mf_1) (.leaf mf_2))) (.branch 4 (.leaf mf_3) (.branch 5 (.leaf mf_4) (.leaf mf_5)))) (.branch 9 (.branch 7 (.leaf mf_6) (.branch 8 (.leaf mf_7) (.leaf mf_8))) (.branch 10 (.leaf mf_9) (.branch 11 (.leaf mf_10) (.leaf mf_11))))
def mq_0 : Lean.RArray (Nat × Int × Nat) := .leaf (999999, 0, 0)
def mq_1 : Lean.RArray (Nat × Int × Nat) := .branch 86 (.leaf (42, 999999, 776)) (.leaf (86, 1000000, 800))
def mq_2 : Lean.RArray (Nat × Int × Nat) := .leaf (999999, 0, 0)
def mq_3 : Lean.RArray (Nat × Int × Nat) := .leaf (999999, 0, 0)
def mq_4 : Lean.RArray (Nat × Int × Nat) := .leaf (999999, 0, 0)
def mq_5 : Lean.RArray (Nat × Int × Nat) := .leaf (153, 1103515245, 998)
def mq_6 : Lean.RArray (Nat × Int × Nat) := .leaf (999999, 0, 0)
def mq_7 : Lean.RArray (Nat × Int × Nat) := .branch 277 (.leaf (59, 80520, 1030)) (.leaf (277, 1103515245, 1457))
def mq_8 : Lean.RArray (Nat × Int × Nat) := .branch 266 (.leaf (265, 1431655765, 414)) (.branch 267 (.leaf (266, 858993459, 415)) (.leaf (267, 252645135, 416)))
def mq_9 : Lean.RArray (Nat × Int × Nat) := .leaf (999999, 0, 0)
def mq_10 : Lean.RArray (Nat × Int × Nat) := .leaf (999999, 0, 0)
def mq_11 : Lean.RArray (Nat × Int × Nat) := .leaf (999999, 0, 0)
def am_pc : Lean.RArray (Lean.RArray (Nat × Int × Nat)) := .branch 6 (.branch 3 (.branch 1 (.leaf mq_0) (.branch 2 (.leaf mq_1) (.leaf mq_2))) (.branch 4 (.leaf mq_3) (.branch 5 (.leaf mq_4) (.leaf mq_5)))) (.branch 9 (.branch 7 (.leaf mq_6) (.branch 8 (.leaf mq_7) (.leaf mq_8))) (.branch 10 (.leaf mq_9) (.branch 11 (.leaf mq_10) (.leaf mq_11))))
def ml_0 : Lean.RArray (Nat × Int × Nat) := .leaf (999999, 0, 0)
def ml_1 : Lean.RArray (Nat × Int × Nat) := .leaf (999999, 0, 0)
def ml_2 : Lean.RArray (Nat × Int × Nat) := .leaf (999999, 0, 0)
def ml_3 : Lean.RArray (Nat × Int × Nat) := .leaf (999999, 0, 0)
def ml_4 : Lean.RArray (Nat × Int × Nat) := .leaf (999999, 0, 0)
def ml_5 : Lean.RArray (Nat × Int × Nat) := .leaf (127, 2, 680)
def ml_6 : Lean.RArray (Nat × Int × Nat) := .branch 361 (.leaf (256, -1, 881)) (.leaf (361, 60, 922))
def ml_7 : Lean.RArray (Nat × Int × Nat) := .branch 261 (.leaf (208, 2, 1319)) (.branch 266 (.leaf (261, -1, 1402)) (.leaf (266, 60, 1424)))
def ml_8 : Lean.RArray (Nat × Int × Nat) := .leaf (999999, 0, 0)
def ml_9 : Lean.RArray (Nat × Int × Nat) := .leaf (999999, 0, 0)
def ml_10 : Lean.RArray (Nat × Int × Nat) := .leaf (999999, 0, 0)
def ml_11 : Lean.RArray (Nat × Int × Nat) := .leaf (18, 4294967295, 1474)
def am_pl : Lean.RArray (Lean.RArray (Nat × Int × Nat)) := .branch 6 (.branch 3 (.branch 1 (.leaf ml_0) (.branch 2 (.leaf ml_1) (.leaf ml_2))) (.branch 4 (.leaf ml_3) (.branch 5 (.leaf ml_4) (.leaf ml_5)))) (.branch 9 (.branch 7 (.leaf ml_6) (.branch 8 (.leaf ml_7) (.leaf ml_8))) (.branch 10 (.leaf ml_9) (.branch 11 (.leaf ml_10) (.leaf ml_11))))
def ms_0 : Lean.RArray (Nat × Nat × Nat) := .leaf (999999, 0, 0)
def ms_1 : Lean.RArray (Nat × Nat × Nat) := .leaf (999999, 0, 0)
def ms_2 : Lean.RArray (Nat × Nat × Nat) := .leaf (999999, 0, 0)
def ms_3 : Lean.RArray (Nat × Nat × Nat) := .branch 67 (.branch 57 (.leaf (48, 0, 506)) (.branch 62 (.leaf (57, 1, 571)) (.leaf (62, 2, 577)))) (.branch 72 (.leaf (67, 3, 582)) (.branch 104 (.leaf (72, 5, 591)) (.leaf (104, 4, 589))))
def ms_4 : Lean.RArray (Nat × Nat × Nat) := .leaf (999999, 0, 0)
def ms_5 : Lean.RArray (Nat × Nat × Nat) := .leaf (999999, 0, 0)
def ms_6 : Lean.RArray (Nat × Nat × Nat) := .leaf (999999, 0, 0)
def ms_7 : Lean.RArray (Nat × Nat × Nat) := .branch 158 (.branch 156 (.leaf (148, 0, 1242)) (.branch 157 (.leaf (156, 1, 1253)) (.leaf (157, 2, 1254)))) (.branch 163 (.leaf (158, 5, 1255)) (.branch 165 (.leaf (163, 3, 1264)) (.leaf (165, 4, 1265))))
def ms_8 : Lean.RArray (Nat × Nat × Nat) := .leaf (999999, 0, 0)
def ms_9 : Lean.RArray (Nat × Nat × Nat) := .leaf (999999, 0, 0)
def ms_10 : Lean.RArray (Nat × Nat × Nat) := .leaf (999999, 0, 0)
def ms_11 : Lean.RArray (Nat × Nat × Nat) := .leaf (999999, 0, 0)
def am_ps : Lean.RArray (Lean.RArray (Nat × Nat × Nat)) := .branch 6 (.branch 3 (.branch 1 (.leaf ms_0) (.branch 2 (.leaf ms_1) (.leaf ms_2))) (.branch 4 (.leaf ms_3) (.branch 5 (.leaf ms_4) (.leaf ms_5)))) (.branch 9 (.branch 7 (.leaf ms_6) (.branch 8 (.leaf ms_7) (.leaf ms_8))) (.branch 10 (.leaf ms_9) (.branch 11 (.leaf ms_10) (.leaf ms_11))))
def mn_0 : Lean.RArray (Nat × Nat × Nat) := .leaf (9, 4, 941)
def mn_1 : Lean.RArray (Nat × Nat × Nat) := .leaf (15, 104, 724)
def mn_2 : Lean.RArray (Nat × Nat × Nat) := .leaf (999999, 0, 0)
def mn_3 : Lean.RArray (Nat × Nat × Nat) := .leaf (15, 5, 187)
def mn_4 : Lean.RArray (Nat × Nat × Nat) := .leaf (999999, 0, 0)
def mn_5 : Lean.RArray (Nat × Nat × Nat) := .leaf (22, 4, 104)
def mn_6 : Lean.RArray (Nat × Nat × Nat) := .branch 36 (.branch 19 (.leaf (7, 5, 98)) (.branch 26 (.leaf (19, 3, 181)) (.leaf (26, 2, 215)))) (.branch 237 (.leaf (36, 4, 217)) (.branch 288 (.leaf (237, 1, 718)) (.leaf (288, 0, 935))))
def mn_7 : Lean.RArray (Nat × Nat × Nat) := .leaf (999999, 0, 0)
def mn_8 : Lean.RArray (Nat × Nat × Nat) := .leaf (999999, 0, 0)
def mn_9 : Lean.RArray (Nat × Nat × Nat) := .leaf (999999, 0, 0)
def mn_10 : Lean.RArray (Nat × Nat × Nat) := .leaf (999999, 0, 0)
def mn_11 : Lean.RArray (Nat × Nat × Nat) := .branch 10 (.leaf (7, 6, 90)) (.leaf (10, 7, 1024))
def am_pn : Lean.RArray (Lean.RArray (Nat × Nat × Nat)) := .branch 6 (.branch 3 (.branch 1 (.leaf mn_0) (.branch 2 (.leaf mn_1) (.leaf mn_2))) (.branch 4 (.leaf mn_3) (.branch 5 (.leaf mn_4) (.leaf mn_5)))) (.branch 9 (.branch 7 (.leaf mn_6) (.branch 8 (.leaf mn_7) (.leaf mn_8))) (.branch 10 (.leaf mn_9) (.branch 11 (.leaf mn_10) (.leaf mn_11))))
/-- the fields of each kind of object: 0 int, 1 boolean, 2 a reference -/
def am_fks : List (List Nat) := [[2, 2, 2], [2, 2, 0, 2, 2, 2, 2, 2, 2, 2, 0, 0, 0, 0, 0], [0, 0, 2], [2, 0, 2, 0, 0, 0, 0], [0, 0, 0, 0, 0], [0, 2, 2, 0, 2, 0, 0, 0], [2, 2, 1, 2, 2, 2, 2, 2, 2, 2], [2, 2, 2, 0, 2, 2, 0, 2, 2, 2, 2, 2, 0, 0, 0, 0, 2, 0, 0, 0, 0, 2, 1, 2, 2, 2, 2, 2, 2, 0]]
def am_fins : List (List Nat) := [[1, 1, 1], [1, 1, 0, 1, 1, 1, 1, 1, 1, 1, 0, 0, 0, 0, 0], [0, 0, 1], [1, 0, 1, 0, 0, 0, 0], [0, 0, 0, 0, 0], [0, 1, 1, 0, 1, 0, 0, 0], [1, 1, 0, 1, 1, 1, 1, 1, 0, 0], [1, 1, 1, 0, 1, 1, 0, 1, 1, 1, 1, 1, 0, 0, 0, 0, 1, 0, 0, 0, 0, 1, 0, 1, 1, 1, 1, 1, 1, 0]]
def am_ctors : List Nat := [0, 4, 22, 33, 46, 52, 83, 147]
def am_texts : List (List Int) := [[99, 105, 114, 99, 108, 101, 115], [116, 105, 109, 101], [99, 111, 115, 116], [115, 104, 105, 112], [100, 114, 111, 112, 115], [115, 116, 101, 112]]
def am_recs : List Nat := [2, 3, 219]
end
section
/-! ===== the abstract machine's step ===== -/
/-- a pool's row of that number (999999 stands in an empty pool) -/
noncomputable def am_lk {α : Type} (t : Lean.RArray (Nat × α)) (k : Nat) : Option α := cond (Nat.blt k 999999) (am_look t k) none
theorem am_lk_of {α : Type} {P : Nat × α → Prop} {t : Lean.RArray (Nat × α)} (h : am_all (fun q => q.1 = 999999 ∨ P q) t) {k : Nat} {a : α} (e : am_lk t k = some a) : P (k, a) := by
  unfold am_lk at e
  cases hb : Nat.blt k 999999 with
  | false => rw [hb] at e; cases e
  | true =>
    rw [hb] at e
    have h1 : k < 999999 := Nat.le_of_ble_eq_true hb
    rcases am_look_of h e with q | q
    · exact absurd q (by dsimp only; omega)
    · exact q
/-- an instruction's length -/
def am_ln (i : Instr) (len : Nat) : Bool := match i with
  | .tableswitch _ _ _ _ => true
  | .bipush _ => Nat.beq len 2
  | .iload _ => Nat.beq len 2
  | .lload _ => Nat.beq len 2
  | .aload _ => Nat.beq len 2
  | .istore _ => Nat.beq len 2
  | .lstore _ => Nat.beq len 2
  | .astore _ => Nat.beq len 2
  | .ldc _ => Nat.beq len 2
  | .newarray _ => Nat.beq len 2
  | .sipush _ => Nat.beq len 3
  | .iinc _ _ => Nat.beq len 3
  | .goto _ => Nat.beq len 3
  | .ifCond _ _ => Nat.beq len 3
  | .if_icmp _ _ => Nat.beq len 3
  | .ifnonnull _ => Nat.beq len 3
  | .getfield _ => Nat.beq len 3
  | .putfield _ => Nat.beq len 3
  | .new _ => Nat.beq len 3
  | .anewarray _ => Nat.beq len 3
  | .invokevirtual _ => Nat.beq len 3
  | .invokestatic _ => Nat.beq len 3
  | .invokespecial _ => Nat.beq len 3
  | .ldc_w _ => Nat.beq len 3
  | .ldc2_w _ => Nat.beq len 3
  | .multianewarray _ _ => Nat.beq len 4
  | _ => Nat.beq len 1
noncomputable def am_code (b pc : Nat) : Option (Instr × Nat) := match am_look (am_mt.get b).2.2.2.2 pc with
  | some (i, len) => cond (am_ln i len) (some (i, len)) none
  | none => none
noncomputable def am_own (b : Nat) : Nat := (am_mt.get b).1
noncomputable def am_max (b : Nat) : Nat := (am_mt.get b).2.1
noncomputable def am_rt (b : Nat) : Nat := (am_mt.get b).2.2.1
noncomputable def am_rk (m : am_M) : Nat := (am_mt.get m.1).2.2.2.1 + m.2
def am_fk (ci k : Nat) : Nat := (am_fks.getD ci []).getD k 0
def am_nf (ci : Nat) : Nat := (am_fks.getD ci []).length
/-- what a new object holds -/
def am_d0 (ci k : Nat) : Int := if am_fk ci k = 2 then -1 else 0
/-- the methods that call themselves: tags, catches, catchesAll -/
def am_rec (b : Nat) : Bool := am_recs.contains b
/-- which method a call of b' from m goes to: those that call themselves have a level -/
def am_lv (m : am_M) (b : Nat) : Option am_M := cond (am_rec b) (cond (am_rec m.1) (match m.2 with | 0 => none | k + 1 => some (b, k)) (some (b, 12))) (some (b, 0))
abbrev am_Act : Type := (Nat × am_S) ⊕ (am_R ⊕ (am_M × Nat × List am_V × Nat × am_S))
def am_nx (pc : Nat) (L : am_L) (S : List am_V) (ω : am_W) : Option am_Act := some (.inl (pc, L, S, ω))
def am_jp (t : Int) (L : am_L) (S : List am_V) (ω : am_W) : Option am_Act := cond (decide (0 ≤ t)) (some (.inl (t.toNat, L, S, ω))) none
def am_br (c : Bool) (t : Int) (pc : Nat) (L : am_L) (S : List am_V) (ω : am_W) : Option am_Act := cond (decide (0 ≤ t)) (some (.inl (if c = true then t.toNat else pc, L, S, ω))) none
def am_rv (v : Option am_V) (ω : am_W) : Option am_Act := some (.inr (.inl (v, ω)))
def am_st1 (L : Option am_L) (pc : Nat) (S : List am_V) (ω : am_W) : Option am_Act := match L with
  | none => none
  | some L => am_nx pc L S ω
def am_ldi (L : am_L) (k pc : Nat) (S : List am_V) (ω : am_W) : Option am_Act := match L[k]? with
  | some (some (.inl z)) => am_nx pc L (.inl z :: S) ω
  | _ => none
def am_ldl (L : am_L) (k pc : Nat) (S : List am_V) (ω : am_W) : Option am_Act := match L[k]? with
  | some (some (.inr (.inl z))) => am_nx pc L (.inr (.inl z) :: S) ω
  | _ => none
def am_lda (L : am_L) (k pc : Nat) (S : List am_V) (ω : am_W) : Option am_Act := match L[k]? with
  | some (some (.inr (.inr z))) => am_nx pc L (.inr (.inr z) :: S) ω
  | _ => none
def am_sti (L : am_L) (k pc : Nat) (S : List am_V) (ω : am_W) : Option am_Act := match S with
  | .inl z :: S => am_st1 (am_sto L k (.inl z)) pc S ω
  | _ => none
def am_stj (L : am_L) (k pc : Nat) (S : List am_V) (ω : am_W) : Option am_Act := match S with
  | .inr (.inl z) :: S => am_st1 (am_stl L k (.inr (.inl z))) pc S ω
  | _ => none
def am_sta (L : am_L) (k pc : Nat) (S : List am_V) (ω : am_W) : Option am_Act := match S with
  | .inr (.inr z) :: S => am_st1 (am_sto L k (.inr (.inr z))) pc S ω
  | _ => none
def am_b2 (f : Int → Int → Int) (pc : Nat) (L : am_L) (S : List am_V) (ω : am_W) : Option am_Act := match S with
  | .inl b :: .inl a :: S => am_nx pc L (.inl (f a b) :: S) ω
  | _ => none
def am_j2 (f : Int → Int → Int) (pc : Nat) (L : am_L) (S : List am_V) (ω : am_W) : Option am_Act := match S with
  | .inr (.inl b) :: .inr (.inl a) :: S => am_nx pc L (.inr (.inl (f a b)) :: S) ω
  | _ => none
def am_nar (rt : Nat) (z : Int) : Bool := match rt with
  | 1 => true
  | 4 => decide (z = 0) || decide (z = 1)
  | _ => false
noncomputable def am_getf (own idx pc : Nat) (L : am_L) (S : List am_V) (ω : am_W) : Option am_Act := match am_lk (am_pf.get own) idx, S with
  | some (ci, k, _), .inr (.inr r) :: S => cond (am_is ω r (ci, am_nf ci)) (am_nx pc L ((match am_fk ci k with | 2 => .inr (.inr (am_get ω r.toNat k)) | _ => .inl (am_get ω r.toNat k)) :: S) ω) none
  | _, _ => none
/-- final fields are set by their own constructors alone -/
def am_fin (own b ci k : Nat) : Bool := Nat.beq ((am_fins.getD ci []).getD k 0) 0 || (am_ctors.contains b && Nat.beq own ci)
noncomputable def am_putf (own b idx pc : Nat) (L : am_L) (S : List am_V) (ω : am_W) : Option am_Act := match am_lk (am_pf.get own) idx, S with
  | some (ci, k, _), .inl z :: .inr (.inr r) :: S => cond (am_is ω r (ci, am_nf ci) && (am_fin own b ci k && match am_fk ci k with | 0 => true | 1 => decide (z = 0) || decide (z = 1) | _ => false)) (am_nx pc L S (am_put ω r.toNat k z)) none
  | some (ci, k, _), .inr (.inr z) :: .inr (.inr r) :: S => cond (am_is ω r (ci, am_nf ci) && (am_fin own b ci k && (Nat.beq (am_fk ci k) 2 && decide (-1 ≤ z)))) (am_nx pc L S (am_put ω r.toNat k z)) none
  | _, _ => none
/-- a call's arguments, the receiver first -/
def am_args (n : Nat) (S : List am_V) : Option (List am_V × List am_V) := cond (decide (n ≤ S.length) && decide (am_words (S.drop n) ≤ 8)) (some ((S.take n).reverse, S.drop n)) none
/-- a call of a method that is walked -/
noncomputable def am_call (m : am_M) (b na rk pc : Nat) (rc : Bool) (L : am_L) (S : List am_V) (ω : am_W) : Option am_Act := match am_args na S, am_lv m b with
  | some (as, S), some m' => cond ((!rc || match as with | .inr (.inr r) :: _ => am_is ω r (am_own b, am_nf (am_own b)) | _ => false) && (Nat.ble (am_rk m' + 1) (am_rk m) && Nat.ble (am_spread as).length (am_max b))) (some (.inr (.inr (m', rk, as, pc, L, S, ω)))) none
  | _, _ => none
/-- System.arraycopy between two arrays of one kind of numbers -/
def am_acpy (rk pc : Nat) (L : am_L) (S : List am_V) (ω : am_W) : Option am_Act := match S with
  | .inl n :: .inl dp :: .inr (.inr r1) :: .inl sp :: .inr (.inr r0) :: S =>
    cond (Nat.ble 1 rk && (decide (am_words S ≤ 8) && (((am_ar ω r0 100 && am_ar ω r1 100) || (am_ar ω r0 101 && am_ar ω r1 101)) && (decide (0 ≤ sp) && (decide (0 ≤ dp) && (decide (0 ≤ n) && (decide (sp + n ≤ am_len ω r0) && decide (dp + n ≤ am_len ω r1))))))))
      (am_nx pc L S (am_cpy ω r0.toNat sp.toNat r1.toNat dp.toNat n.toNat)) none
  | _ => none
def am_slen (rk pc : Nat) (L : am_L) (S : List am_V) (ω : am_W) : Option am_Act := match S with
  | .inr (.inr r) :: S => cond (Nat.ble 4 rk && (decide (am_words S ≤ 8) && (decide (r ≤ -3) && decide (-9 < r)))) (am_nx pc L (.inl (((am_texts.getD (-3 - r).toNat []).length : Nat) : Int) :: S) ω) none
  | _ => none
def am_schr (rk pc : Nat) (L : am_L) (S : List am_V) (ω : am_W) : Option am_Act := match S with
  | .inl i :: .inr (.inr r) :: S => cond (Nat.ble 4 rk && (decide (am_words S ≤ 8) && (decide (r ≤ -3) && (decide (-9 < r) && (decide (0 ≤ i) && decide (i < (((am_texts.getD (-3 - r).toNat []).length : Nat) : Int))))))) (am_nx pc L (.inl ((am_texts.getD (-3 - r).toNat []).getD i.toNat 0) :: S) ω) none
  | _ => none
noncomputable def am_inv (op : Nat) (m : am_M) (idx pc : Nat) (L : am_L) (S : List am_V) (ω : am_W) : Option am_Act := match am_lk (am_pm.get (am_own m.1)) idx with
  | some (kd, b, na, rk, _) => match op, kd with
    | 0, 0 => am_call m b na rk pc true L S ω
    | 0, 8 => am_slen (am_rk m) pc L S ω
    | 0, 9 => am_schr (am_rk m) pc L S ω
    | 1, 2 => am_call m b na rk pc false L S ω
    | 1, 3 => am_call m b na rk pc false L S ω
    | 1, 7 => am_acpy (am_rk m) pc L S ω
    | 2, 4 => am_call m b na rk pc true L S ω
    | 2, 5 => am_call m b na rk pc true L S ω
    | 2, 6 => (match S with | .inr (.inr r) :: S => cond (Nat.ble 1 (am_rk m) && (decide (0 ≤ r) && decide (am_words S ≤ 8))) (am_nx pc L S ω) none | _ => none)
    | _, _ => none
  | none => none
/-- what a jump table says -/
def am_tsw (dflt lo hi : Int) (offs : Array Int) (z : Int) : Option Int := cond (decide (z < lo) || decide (hi < z)) (some dflt) (offs[(z - lo).toNat]?)
noncomputable def am_st (m : am_M) (i : Instr) (pc : Nat) (L : am_L) (S : List am_V) (ω : am_W) : Option am_Act := match i with
  | .iconst n => cond (decide (-128 ≤ n) && decide (n ≤ 127)) (am_nx (pc + 1) L (.inl n :: S) ω) none
  | .bipush n => cond (decide (-128 ≤ n) && decide (n ≤ 127)) (am_nx (pc + 2) L (.inl n :: S) ω) none
  | .sipush n => cond (decide (-32768 ≤ n) && decide (n ≤ 32767)) (am_nx (pc + 3) L (.inl n :: S) ω) none
  | .lconst n => am_nx (pc + 1) L (.inr (.inl ((n : Nat) : Int)) :: S) ω
  | .iload_n k => am_ldi L k (pc + 1) S ω
  | .iload k => am_ldi L k (pc + 2) S ω
  | .lload_n k => am_ldl L k (pc + 1) S ω
  | .lload k => am_ldl L k (pc + 2) S ω
  | .aload_n k => am_lda L k (pc + 1) S ω
  | .aload k => am_lda L k (pc + 2) S ω
  | .istore_n k => am_sti L k (pc + 1) S ω
  | .istore k => am_sti L k (pc + 2) S ω
  | .lstore_n k => am_stj L k (pc + 1) S ω
  | .lstore k => am_stj L k (pc + 2) S ω
  | .astore_n k => am_sta L k (pc + 1) S ω
  | .astore k => am_sta L k (pc + 2) S ω
  | .iinc k n => (match L[k]? with
    | some (some (.inl z)) => am_st1 (am_sto L k (.inl (am_w (z + n)))) (pc + 3) S ω
    | _ => none)
  | .iadd => am_b2 (fun a b => am_w (a + b)) (pc + 1) L S ω
  | .isub => am_b2 (fun a b => am_w (a - b)) (pc + 1) L S ω
  | .imul => am_b2 (fun a b => am_w (a * b)) (pc + 1) L S ω
  | .iand => am_b2 am_and (pc + 1) L S ω
  | .ior => am_b2 am_or (pc + 1) L S ω
  | .ixor => am_b2 am_xor (pc + 1) L S ω
  | .ishl => am_b2 am_shl (pc + 1) L S ω
  | .ishr => am_b2 am_shr (pc + 1) L S ω
  | .iushr => am_b2 am_ushr (pc + 1) L S ω
  | .idiv => (match S with
    | .inl b :: .inl a :: S => cond (decide (b = 0)) none (am_nx (pc + 1) L (.inl (am_w (a.tdiv b)) :: S) ω)
    | _ => none)
  | .irem => (match S with
    | .inl b :: .inl a :: S => cond (decide (b = 0)) none (am_nx (pc + 1) L (.inl (a.tmod b) :: S) ω)
    | _ => none)
  | .ineg => (match S with
    | .inl a :: S => am_nx (pc + 1) L (.inl (am_w (-a)) :: S) ω
    | _ => none)
  | .ladd => am_j2 (fun a b => am_wl (a + b)) (pc + 1) L S ω
  | .lmul => am_j2 (fun a b => am_wl (a * b)) (pc + 1) L S ω
  | .land => am_j2 am_land (pc + 1) L S ω
  | .lor => am_j2 am_lor (pc + 1) L S ω
  | .lshl => (match S with
    | .inl b :: .inr (.inl a) :: S => am_nx (pc + 1) L (.inr (.inl (am_lshl a b)) :: S) ω
    | _ => none)
  | .ldiv => (match S with
    | .inr (.inl b) :: .inr (.inl a) :: S => cond (decide (b = 0)) none (am_nx (pc + 1) L (.inr (.inl (am_wl (a.tdiv b))) :: S) ω)
    | _ => none)
  | .lrem => (match S with
    | .inr (.inl b) :: .inr (.inl a) :: S => cond (decide (b = 0)) none (am_nx (pc + 1) L (.inr (.inl (a.tmod b)) :: S) ω)
    | _ => none)
  | .lcmp => (match S with
    | .inr (.inl b) :: .inr (.inl a) :: S => am_nx (pc + 1) L (.inl (am_cmp a b) :: S) ω
    | _ => none)
  | .i2l => (match S with
    | .inl a :: S => am_nx (pc + 1) L (.inr (.inl a) :: S) ω
    | _ => none)
  | .l2i => (match S with
    | .inr (.inl a) :: S => am_nx (pc + 1) L (.inl (am_w a) :: S) ω
    | _ => none)
  | .i2b => (match S with
    | .inl a :: S => am_nx (pc + 1) L (.inl (a.bmod 256) :: S) ω
    | _ => none)
  | .i2s => (match S with
    | .inl a :: S => am_nx (pc + 1) L (.inl (a.bmod 65536) :: S) ω
    | _ => none)
  | .ldc idx => (match am_lk (am_pc.get (am_own m.1)) idx, am_lk (am_ps.get (am_own m.1)) idx with
    | some (z, _), _ => am_nx (pc + 2) L (.inl z :: S) ω
    | none, some (k, _) => am_nx (pc + 2) L (.inr (.inr (-3 - (k : Int))) :: S) ω
    | none, none => none)
  | .ldc_w idx => (match am_lk (am_pc.get (am_own m.1)) idx with
    | some (z, _) => am_nx (pc + 3) L (.inl z :: S) ω
    | none => none)
  | .ldc2_w idx => (match am_lk (am_pl.get (am_own m.1)) idx with
    | some (z, _) => am_nx (pc + 3) L (.inr (.inl z) :: S) ω
    | none => none)
  | .dup => (match S with
    | .inl z :: S => am_nx (pc + 1) L (.inl z :: .inl z :: S) ω
    | .inr (.inr z) :: S => am_nx (pc + 1) L (.inr (.inr z) :: .inr (.inr z) :: S) ω
    | _ => none)
  | .dup_x1 => (match S with
    | .inl z :: .inr (.inr r) :: S => am_nx (pc + 1) L (.inl z :: .inr (.inr r) :: .inl z :: S) ω
    | _ => none)
  | .dup2 => (match S with
    | .inl z :: .inr (.inr r) :: S => am_nx (pc + 1) L (.inl z :: .inr (.inr r) :: .inl z :: .inr (.inr r) :: S) ω
    | _ => none)
  | .pop => (match S with
    | .inl _ :: S => am_nx (pc + 1) L S ω
    | .inr (.inr _) :: S => am_nx (pc + 1) L S ω
    | _ => none)
  | .goto off => am_jp ((pc : Int) + off) L S ω
  | .ifCond c off => (match S with
    | .inl a :: S => am_br (am_cc c a 0) ((pc : Int) + off) (pc + 3) L S ω
    | _ => none)
  | .if_icmp c off => (match S with
    | .inl b :: .inl a :: S => am_br (am_cc c a b) ((pc : Int) + off) (pc + 3) L S ω
    | _ => none)
  | .ifnonnull off => (match S with
    | .inr (.inr r) :: S => am_br (decide (¬ r = -1)) ((pc : Int) + off) (pc + 3) L S ω
    | _ => none)
  | .tableswitch dflt lo hi offs => (match S with
    | .inl z :: S => (match am_tsw dflt lo hi offs z with
      | some off => am_jp ((pc : Int) + off) L S ω
      | none => none)
    | _ => none)
  | .getfield idx => am_getf (am_own m.1) idx (pc + 3) L S ω
  | .putfield idx => am_putf (am_own m.1) m.1 idx (pc + 3) L S ω
  | .arraylength => (match S with
    | .inr (.inr r) :: S => cond (Nat.beq m.1 240 && decide (r = -2)) (am_nx (pc + 1) L (.inl (ω.2.2.1 : Int) :: S) ω) (cond (am_ar ω r 100 || am_ar ω r 101) (am_nx (pc + 1) L (.inl (am_len ω r) :: S) ω) none)
    | _ => none)
  | .iaload => (match S with
    | .inl j :: .inr (.inr r) :: S => cond (Nat.beq m.1 240 && decide (r = -2)) (cond (decide (0 ≤ j) && decide (j < (ω.2.2.1 : Int))) (am_nx (pc + 1) L (.inl (ω.2.2.2 j.toNat) :: S) ω) none) (cond (am_in ω r 100 j) (am_nx (pc + 1) L (.inl (am_get ω r.toNat j.toNat) :: S) ω) none)
    | _ => none)
  | .laload => (match S with
    | .inl j :: .inr (.inr r) :: S => cond (am_in ω r 101 j) (am_nx (pc + 1) L (.inr (.inl (am_get ω r.toNat j.toNat)) :: S) ω) none
    | _ => none)
  | .aaload => (match S with
    | .inl j :: .inr (.inr r) :: S => cond (am_in ω r 102 j || (am_in ω r 103 j || am_in ω r 104 j)) (am_nx (pc + 1) L (.inr (.inr (am_get ω r.toNat j.toNat)) :: S) ω) none
    | _ => none)
  | .iastore => (match S with
    | .inl z :: .inl j :: .inr (.inr r) :: S => cond (am_in ω r 100 j) (am_nx (pc + 1) L S (am_put ω r.toNat j.toNat z)) none
    | _ => none)
  | .lastore => (match S with
    | .inr (.inl z) :: .inl j :: .inr (.inr r) :: S => cond (am_in ω r 101 j) (am_nx (pc + 1) L S (am_put ω r.toNat j.toNat z)) none
    | _ => none)
  | .aastore => (match S with
    | .inr (.inr z) :: .inl j :: .inr (.inr r) :: S => cond ((am_in ω r 102 j && am_is ω z (4, 5)) || (am_in ω r 103 j && am_is ω z (2, 3))) (am_nx (pc + 1) L S (am_put ω r.toNat j.toNat z)) none
    | _ => none)
  | .new idx => (match am_lk (am_pn.get (am_own m.1)) idx with
    | some (ci, _) => cond (decide (ci < 8)) (am_nx (pc + 3) L (.inr (.inr (ω.1.length : Int)) :: S) (am_new ω (ci, am_nf ci) (am_d0 ci))) none
    | none => none)
  | .newarray ty => (match S with
    | .inl n :: S => cond (decide (0 ≤ n) && decide (n ≤ 100000)) (match ty with
      | .int => am_nx (pc + 2) L (.inr (.inr (ω.1.length : Int)) :: S) (am_new ω (100, n.toNat) (fun _ => 0))
      | .long => am_nx (pc + 2) L (.inr (.inr (ω.1.length : Int)) :: S) (am_new ω (101, n.toNat) (fun _ => 0))
      | _ => none) none
    | _ => none)
  | .anewarray idx => (match am_lk (am_pn.get (am_own m.1)) idx, S with
    | some (ci, _), .inl n :: S => cond (decide (0 ≤ n) && decide (n ≤ 100000)) (match ci with
      | 4 => am_nx (pc + 3) L (.inr (.inr (ω.1.length : Int)) :: S) (am_new ω (102, n.toNat) (fun _ => -1))
      | 2 => am_nx (pc + 3) L (.inr (.inr (ω.1.length : Int)) :: S) (am_new ω (103, n.toNat) (fun _ => -1))
      | _ => none) none
    | _, _ => none)
  | .multianewarray idx dims => (match am_lk (am_pn.get (am_own m.1)) idx, S with
    | some (104, _), .inl k :: .inl n :: S => cond (Nat.beq dims 2 && (decide (0 ≤ n) && (decide (n ≤ 1000) && (decide (0 ≤ k) && decide (k ≤ 100000))))) (am_nx (pc + 4) L (.inr (.inr (ω.1.length : Int)) :: S) (am_newg ω n.toNat k.toNat)) none
    | _, _ => none)
  | .invokevirtual idx => am_inv 0 m idx (pc + 3) L S ω
  | .invokestatic idx => am_inv 1 m idx (pc + 3) L S ω
  | .invokespecial idx => am_inv 2 m idx (pc + 3) L S ω
  | .ireturn => (match S with
    | [.inl z] => cond (am_nar (am_rt m.1) z) (am_rv (some (.inl z)) ω) none
    | _ => none)
  | .lreturn => (match S with
    | [.inr (.inl z)] => cond (Nat.beq (am_rt m.1) 2) (am_rv (some (.inr (.inl z))) ω) none
    | _ => none)
  | .areturn => (match S with
    | [.inr (.inr z)] => cond (Nat.beq (am_rt m.1) 3 && am_is ω z (1, 15)) (am_rv (some (.inr (.inr z))) ω) none
    | _ => none)
  | .return_ => (match S with
    | [] => cond (Nat.beq (am_rt m.1) 0) (am_rv none ω) none
    | _ => none)
  | _ => none
/-- a method's frame at its start -/
noncomputable def am_ent (b : Nat) (as : List am_V) : am_L := am_spread as ++ List.replicate (am_max b - (am_spread as).length) none
noncomputable def am : Nat → am_M → Nat → am_S → Option am_R
  | 0, _, _, _ => none
  | n + 1, m, pc, (L, S, ω) => match am_code m.1 pc with
    | none => none
    | some (i, _) => match am_st m i pc L S ω with
      | none => none
      | some (.inl (pc', σ)) => am n m pc' σ
      | some (.inr (.inl r)) => some r
      | some (.inr (.inr (m', rk, as, pc', L', S', ω'))) => match am n m' 0 (am_ent m'.1 as, [], ω') with
        | none => none
        | some (v, ω1) => match am_push rk v S' with
          | none => none
          | some S1 => am n m pc' (L', S1, ω1)
end
section
/-! ===== what a run comes to, whatever it takes ===== -/
theorem am_mono : ∀ (n : Nat) (m : am_M) (pc : Nat) (σ : am_S) (r : am_R), am n m pc σ = some r → am (n + 1) m pc σ = some r := by
  intro n
  induction n with
  | zero => intro m pc σ r h; cases h
  | succ n ih =>
    intro m pc σ r h
    obtain ⟨L, S, ω⟩ := σ
    unfold am at h ⊢
    cases hc : am_code m.1 pc with
    | none => rw [hc] at h; cases h
    | some q =>
      obtain ⟨i, len⟩ := q
      rw [hc] at h
      dsimp only at h ⊢
      cases hs : am_st m i pc L S ω with
      | none => rw [hs] at h; cases h
      | some a =>
        rw [hs] at h
        rcases a with ⟨pc', σ'⟩ | r' | ⟨m', rk, as, pc', L', S', ω'⟩
        · exact ih _ _ _ _ h
        · exact h
        · dsimp only at h ⊢
          cases h1 : am n m' 0 (am_ent m'.1 as, [], ω') with
          | none => rw [h1] at h; cases h
          | some v =>
            obtain ⟨v, ω1⟩ := v
            rw [h1] at h
            rw [ih _ _ _ _ h1]
            dsimp only at h ⊢
            cases h2 : am_push rk v S' with
            | none => rw [h2] at h; cases h
            | some S1 =>
              rw [h2] at h
              exact ih _ _ _ _ h
theorem am_mono' {n k : Nat} {m : am_M} {pc : Nat} {σ : am_S} {r : am_R} (h : am n m pc σ = some r) (hk : n ≤ k) : am k m pc σ = some r := by
  induction hk with
  | refl => exact h
  | step _ ih => exact am_mono _ _ _ _ _ ih
theorem am_det {n k : Nat} {m : am_M} {pc : Nat} {σ : am_S} {r q : am_R} (h : am n m pc σ = some r) (h2 : am k m pc σ = some q) : r = q := by
  have a := am_mono' h (Nat.le_max_left n k)
  have b := am_mono' h2 (Nat.le_max_right n k)
  exact Option.some.inj (a.symm.trans b)
noncomputable def am_run (m : am_M) (pc : Nat) (σ : am_S) : Option am_R := by
  classical
  exact if h : ∃ (r : am_R) (n : Nat), am n m pc σ = some r then some (Classical.choose h) else none
theorem am_run_iff {m : am_M} {pc : Nat} {σ : am_S} {r : am_R} : am_run m pc σ = some r ↔ ∃ n, am n m pc σ = some r := by
  unfold am_run
  constructor
  · intro h
    split at h
    · next hx =>
      obtain ⟨n, hn⟩ := Classical.choose_spec hx
      exact ⟨n, hn.trans h⟩
    · cases h
  · intro h
    obtain ⟨n, hn⟩ := h
    have hx : ∃ (r : am_R) (n : Nat), am n m pc σ = some r := ⟨r, n, hn⟩
    rw [dif_pos hx]
    obtain ⟨k, hk⟩ := Classical.choose_spec hx
    exact congrArg some (am_det hk hn)
theorem am_go {m : am_M} {pc pc' : Nat} {L : am_L} {S : List am_V} {ω : am_W} {σ : am_S} {i : Instr} {len : Nat} (hc : am_code m.1 pc = some (i, len)) (hs : am_st m i pc L S ω = some (.inl (pc', σ))) : am_run m pc (L, S, ω) = am_run m pc' σ := by
  apply Option.ext
  intro r
  rw [am_run_iff, am_run_iff]
  constructor
  · rintro ⟨n, hn⟩
    cases n with
    | zero => cases hn
    | succ n =>
      unfold am at hn
      rw [hc] at hn
      dsimp only at hn
      rw [hs] at hn
      exact ⟨n, hn⟩
  · rintro ⟨n, hn⟩
    refine ⟨n + 1, ?_⟩
    unfold am
    rw [hc]
    dsimp only
    rw [hs]
    exact hn
theorem am_ret {m : am_M} {pc : Nat} {L : am_L} {S : List am_V} {ω : am_W} {r : am_R} {i : Instr} {len : Nat} (hc : am_code m.1 pc = some (i, len)) (hs : am_st m i pc L S ω = some (.inr (.inl r))) : am_run m pc (L, S, ω) = some r := by
  rw [am_run_iff]
  refine ⟨1, ?_⟩
  unfold am
  rw [hc]
  dsimp only
  rw [hs]
theorem am_stop {m : am_M} {pc : Nat} {L : am_L} {S : List am_V} {ω : am_W} {i : Instr} {len : Nat} (hc : am_code m.1 pc = some (i, len)) (hs : am_st m i pc L S ω = none) : am_run m pc (L, S, ω) = none := by
  cases h : am_run m pc (L, S, ω) with
  | none => rfl
  | some r =>
    obtain ⟨n, hn⟩ := am_run_iff.mp h
    cases n with
    | zero => cases hn
    | succ n =>
      unfold am at hn
      rw [hc] at hn
      dsimp only at hn
      rw [hs] at hn
      cases hn
theorem am_goc {m m' : am_M} {pc pc' rk : Nat} {L L' : am_L} {S S' : List am_V} {ω ω' : am_W} {as : List am_V} {i : Instr} {len : Nat} (hc : am_code m.1 pc = some (i, len)) (hs : am_st m i pc L S ω = some (.inr (.inr (m', rk, as, pc', L', S', ω')))) :
    am_run m pc (L, S, ω) = (am_run m' 0 (am_ent m'.1 as, [], ω')).bind (fun q => (am_push rk q.1 S').bind (fun S1 => am_run m pc' (L', S1, q.2))) := by
  apply Option.ext
  intro r
  rw [am_run_iff]
  constructor
  · rintro ⟨n, hn⟩
    cases n with
    | zero => cases hn
    | succ n =>
      unfold am at hn
      rw [hc] at hn
      dsimp only at hn
      rw [hs] at hn
      dsimp only at hn
      cases h1 : am n m' 0 (am_ent m'.1 as, [], ω') with
      | none => rw [h1] at hn; cases hn
      | some v =>
        obtain ⟨v, ω1⟩ := v
        rw [h1] at hn
        dsimp only at hn
        cases h2 : am_push rk v S' with
        | none => rw [h2] at hn; cases hn
        | some S1 =>
          rw [h2] at hn
          rw [am_run_iff.mpr ⟨n, h1⟩]
          show (am_push rk v S').bind _ = some r
          rw [h2]
          exact am_run_iff.mpr ⟨n, hn⟩
  · intro h
    cases h1 : am_run m' 0 (am_ent m'.1 as, [], ω') with
    | none => rw [h1] at h; cases h
    | some v =>
      obtain ⟨v, ω1⟩ := v
      rw [h1] at h
      have h : (am_push rk v S').bind (fun S1 => am_run m pc' (L', S1, ω1)) = some r := h
      cases h2 : am_push rk v S' with
      | none => rw [h2] at h; cases h
      | some S1 =>
        rw [h2] at h
        obtain ⟨k, hk⟩ := am_run_iff.mp h1
        obtain ⟨j, hj⟩ := am_run_iff.mp (show am_run m pc' (L', S1, ω1) = some r from h)
        refine ⟨max k j + 1, ?_⟩
        unfold am
        rw [hc]
        dsimp only
        rw [hs]
        dsimp only
        rw [am_mono' hk (Nat.le_max_left k j)]
        dsimp only
        rw [h2]
        exact am_mono' hj (Nat.le_max_right k j)
end
section
/-! ===== numbers in range ===== -/
def am_R32 (z : Int) : Prop := -2147483648 ≤ z ∧ z < 2147483648
def am_R64 (z : Int) : Prop := -9223372036854775808 ≤ z ∧ z < 9223372036854775808
theorem nu_w (z : Int) : am_R32 (am_w z) := by
  have h1 := Int.le_bmod (x := z) (m := 4294967296) (by decide)
  have h2 := Int.bmod_lt (x := z) (m := 4294967296) (by decide)
  unfold am_R32 am_w
  omega
theorem nu_wl (z : Int) : am_R64 (am_wl z) := by
  have h1 := Int.le_bmod (x := z) (m := 18446744073709551616) (by decide)
  have h2 := Int.bmod_lt (x := z) (m := 18446744073709551616) (by decide)
  unfold am_R64 am_wl
  omega
theorem nu_id {z : Int} (h : am_R32 z) : am_w z = z := by
  unfold am_R32 at h
  unfold am_w
  exact Int.bmod_eq_of_le (by omega) (by omega)
theorem nu_idl {z : Int} (h : am_R64 z) : am_wl z = z := by
  unfold am_R64 at h
  unfold am_wl
  exact Int.bmod_eq_of_le (by omega) (by omega)
theorem nu_to (x : Int32) : am_R32 x.toInt := by
  have h1 := Int32.le_toInt x
  have h2 := Int32.toInt_lt x
  unfold am_R32
  omega
theorem nu_tol (x : Int64) : am_R64 x.toInt := by
  have h1 := Int64.le_toInt x
  have h2 := Int64.toInt_lt x
  unfold am_R64
  omega
theorem nu_of {z : Int} (h : am_R32 z) : (Int32.ofInt z).toInt = z := by
  unfold am_R32 at h
  exact Int32.toInt_ofInt_of_le (by omega) (by omega)
theorem nu_ofl {z : Int} (h : am_R64 z) : (Int64.ofInt z).toInt = z := by
  unfold am_R64 at h
  exact Int64.toInt_ofInt_of_le (by omega) (by omega)
theorem nu_ti (z : Int) : (Int32.ofInt z).toInt = am_w z := Int32.toInt_ofInt
theorem nu_til (z : Int) : (Int64.ofInt z).toInt = am_wl z := Int64.toInt_ofInt
theorem nu_back (x : Int32) : Int32.ofInt x.toInt = x := Int32.ofInt_toInt x
theorem nu_backl (x : Int64) : Int64.ofInt x.toInt = x := Int64.ofInt_toInt x
theorem nu_eq {x : Int32} {z : Int} (h : x.toInt = am_w z) : x = Int32.ofInt z := Int32.toInt_inj.mp (by rw [nu_ti]; exact h)
theorem nu_eql {x : Int64} {z : Int} (h : x.toInt = am_wl z) : x = Int64.ofInt z := Int64.toInt_inj.mp (by rw [nu_til]; exact h)
theorem nu_ww (z : Int) : am_w (am_w z) = am_w z := nu_id (nu_w z)
theorem nu_wwl (z : Int) : am_wl (am_wl z) = am_wl z := nu_idl (nu_wl z)
theorem nu_add (a b : Int) : Int32.ofInt a + Int32.ofInt b = Int32.ofInt (am_w (a + b)) := nu_eq (by rw [nu_ww, Int32.toInt_add, nu_ti, nu_ti]; simp [am_w])
theorem nu_sub (a b : Int) : Int32.ofInt a - Int32.ofInt b = Int32.ofInt (am_w (a - b)) := nu_eq (by rw [nu_ww, Int32.toInt_sub, nu_ti, nu_ti]; simp [am_w])
theorem nu_mul (a b : Int) : Int32.ofInt a * Int32.ofInt b = Int32.ofInt (am_w (a * b)) := nu_eq (by rw [nu_ww, Int32.toInt_mul, nu_ti, nu_ti]; simp [am_w])
theorem nu_neg (a : Int) : -Int32.ofInt a = Int32.ofInt (am_w (-a)) := nu_eq (by rw [nu_ww, Int32.toInt_neg, nu_ti]; simp [am_w])
theorem nu_addl (a b : Int) : Int64.ofInt a + Int64.ofInt b = Int64.ofInt (am_wl (a + b)) := nu_eql (by rw [nu_wwl, Int64.toInt_add, nu_til, nu_til]; simp [am_wl])
theorem nu_mull (a b : Int) : Int64.ofInt a * Int64.ofInt b = Int64.ofInt (am_wl (a * b)) := nu_eql (by rw [nu_wwl, Int64.toInt_mul, nu_til, nu_til]; simp [am_wl])
theorem nu_div {a b : Int} (ha : am_R32 a) (hb : am_R32 b) : Int32.ofInt a / Int32.ofInt b = Int32.ofInt (am_w (a.tdiv b)) := nu_eq (by rw [nu_ww, Int32.toInt_div, nu_of ha, nu_of hb]; rfl)
theorem nu_divl {a b : Int} (ha : am_R64 a) (hb : am_R64 b) : Int64.ofInt a / Int64.ofInt b = Int64.ofInt (am_wl (a.tdiv b)) := nu_eql (by rw [nu_wwl, Int64.toInt_div, nu_ofl ha, nu_ofl hb]; rfl)
theorem nu_tmod {a b : Int} : (a - a.tdiv b * b) = a.tmod b := by
  have := Int.mul_tdiv_add_tmod a b
  rw [Int.mul_comm] at this
  omega
theorem nu_tlt {a b : Int} (h : ¬ b = 0) : -(b.natAbs : Int) < a.tmod b ∧ a.tmod b < b.natAbs := by
  have h1 : (a.tmod b).natAbs = a.natAbs % b.natAbs := Int.natAbs_tmod a b
  have h2 : a.natAbs % b.natAbs < b.natAbs := Nat.mod_lt _ (by omega)
  omega
theorem nu_rem {a b : Int} (ha : am_R32 a) (hb : am_R32 b) : Int32.ofInt a - Int32.ofInt a / Int32.ofInt b * Int32.ofInt b = Int32.ofInt (a.tmod b) := by
  rw [nu_div ha hb, nu_mul, nu_sub]
  refine nu_eq ?_
  rw [nu_ti, nu_ww]
  rw [← nu_tmod]
  simp [am_w]
theorem nu_reml {a b : Int} (ha : am_R64 a) (hb : am_R64 b) : Int64.ofInt a - Int64.ofInt a / Int64.ofInt b * Int64.ofInt b = Int64.ofInt (a.tmod b) := by
  rw [nu_divl ha hb, nu_mull]
  refine nu_eql ?_
  rw [Int64.toInt_sub, nu_til, nu_til]
  rw [← nu_tmod]
  simp [am_wl]
theorem nu_r32m {a b : Int} (hb : am_R32 b) (h : ¬ b = 0) : am_R32 (a.tmod b) := by
  have := nu_tlt (a := a) h
  unfold am_R32 at hb ⊢
  omega
theorem nu_r64m {a b : Int} (hb : am_R64 b) (h : ¬ b = 0) : am_R64 (a.tmod b) := by
  have := nu_tlt (a := a) h
  unfold am_R64 at hb ⊢
  omega
theorem nu_ne {b : Int} (hb : am_R32 b) (h : ¬ b = 0) : ¬ Int32.ofInt b = 0 := fun e => h (by rw [← nu_of hb, e]; rfl)
theorem nu_nel {b : Int} (hb : am_R64 b) (h : ¬ b = 0) : ¬ Int64.ofInt b = 0 := fun e => h (by rw [← nu_ofl hb, e]; rfl)
theorem nu_lt {a b : Int} (ha : am_R32 a) (hb : am_R32 b) : Int32.ofInt a < Int32.ofInt b ↔ a < b := by rw [Int32.lt_iff_toInt_lt, nu_of ha, nu_of hb]
theorem nu_le {a b : Int} (ha : am_R32 a) (hb : am_R32 b) : Int32.ofInt a ≤ Int32.ofInt b ↔ a ≤ b := by rw [Int32.le_iff_toInt_le, nu_of ha, nu_of hb]
theorem nu_eqi {a b : Int} (ha : am_R32 a) (hb : am_R32 b) : Int32.ofInt a = Int32.ofInt b ↔ a = b := by rw [← Int32.toInt_inj, nu_of ha, nu_of hb]
theorem nu_i2l {a : Int} (ha : am_R32 a) : (Int32.ofInt a).toInt64 = Int64.ofInt a := Int64.toInt_inj.mp (by rw [Int32.toInt_toInt64, nu_of ha, nu_ofl (by unfold am_R32 at ha; unfold am_R64; omega)])
theorem nu_l2i {a : Int} (ha : am_R64 a) : (Int64.ofInt a).toInt32 = Int32.ofInt (am_w a) := nu_eq (by rw [Int64.toInt_toInt32, nu_ofl ha, nu_ww]; rfl)
theorem nu_b {a : Int} (n : Nat) (h0 : 0 < n) (h : n ≤ 65536) : am_R32 (a.bmod n) := by
  have h1 := Int.le_bmod (x := a) (m := n) h0
  have h2 := Int.bmod_lt (x := a) (m := n) h0
  unfold am_R32
  omega
theorem nu_i2b {a : Int} (ha : am_R32 a) : (Int32.ofInt a).toInt8.toInt32 = Int32.ofInt (a.bmod 256) := Int32.toInt_inj.mp (by rw [Int8.toInt_toInt32, Int32.toInt_toInt8, nu_of ha, nu_of (nu_b 256 (by decide) (by decide))])
theorem nu_i2s {a : Int} (ha : am_R32 a) : (Int32.ofInt a).toInt16.toInt32 = Int32.ofInt (a.bmod 65536) := Int32.toInt_inj.mp (by rw [Int16.toInt_toInt32, Int32.toInt_toInt16, nu_of ha, nu_of (nu_b 65536 (by decide) (by decide))])
theorem nu_cmp {a b : Int} (ha : am_R64 a) (hb : am_R64 b) : lg_cmp (Int64.ofInt a) (Int64.ofInt b) = Int32.ofInt (am_cmp a b) := by
  unfold lg_cmp am_cmp
  simp only [gt_iff_lt, Int64.lt_iff_toInt_lt, ← Int64.toInt_inj, nu_ofl ha, nu_ofl hb]
  repeat' split
  all_goals first | omega | rfl
theorem nu_rcmp (a b : Int) : am_R32 (am_cmp a b) := by
  unfold am_cmp am_R32
  repeat' split
  all_goals omega
theorem nu_pos {z : Int} (h : am_R32 z) (h0 : 0 ≤ z) : ¬ Int32.ofInt z < 0 := by
  rw [Int32.lt_iff_toInt_lt, nu_of h, Int32.toInt_zero]
  omega
theorem nu_clamp {z : Int} (h : am_R32 z) (h0 : 0 ≤ z) : (Int32.ofInt z).toNatClampNeg = z.toNat := by
  show (Int32.ofInt z).toInt.toNat = z.toNat
  rw [nu_of h]
theorem nu_in {z : Int} {n : Nat} (h : am_R32 z) (h0 : 0 ≤ z) (h1 : z < n) : vp_in (Int32.ofInt z) n := by
  rw [vp_in_iff, nu_of h]
  omega
theorem nu_nat {n : Nat} (h : n < 2147483648) : Int32.ofNat n = Int32.ofInt (n : Int) := rfl
theorem nu_byte {n : Int} (h1 : -128 ≤ n) (h2 : n ≤ 127) : (Int8.ofInt n).toInt32 = Int32.ofInt n := Int32.toInt_inj.mp (by
  rw [Int8.toInt_toInt32, Int8.toInt_ofInt_of_le (by omega) (by omega), nu_of (by unfold am_R32; omega)])
theorem nu_short {n : Int} (h1 : -32768 ≤ n) (h2 : n ≤ 32767) : (Int16.ofInt n).toInt32 = Int32.ofInt n := Int32.toInt_inj.mp (by
  rw [Int16.toInt_toInt32, Int16.toInt_ofInt_of_le (by omega) (by omega), nu_of (by unfold am_R32; omega)])
end
section
/-! ===== the abstract machine against the machine: worlds, values, frames ===== -/
/-- the numbers of a launch: classes and slots; the classes of int[], long[], Vessel[], Shelf[], int[][]; the script's address; the texts' addresses, and those of their bytes -/
abbrev am_G : Type := va_G × (ClassId × ClassId × ClassId × ClassId × ClassId) × Nat × (Nat → Nat) × (Nat → Nat)
def am_rf (AD : List Nat) (z : Int) : Option Nat := if 0 ≤ z then some (AD.getD z.toNat 0) else none
def am_mr (G : am_G) (AD : List Nat) (z : Int) : Value := if 0 ≤ z then .ref (AD.getD z.toNat 0) else if z = -1 then .null else if z = -2 then .ref G.2.2.1 else .ref (G.2.2.2.1 (-3 - z).toNat)
def am_mv (G : am_G) (AD : List Nat) : am_V → Value
  | .inl z => .int (Int32.ofInt z)
  | .inr (.inl z) => .long (Int64.ofInt z)
  | .inr (.inr z) => am_mr G AD z
def am_fv (AD : List Nat) (fk : Nat) (z : Int) : Value := if fk = 2 then va_rf (am_rf AD z) else .int (Int32.ofInt z)
def am_ca (G : am_G) (kd : Nat) : ClassId := match kd with
  | 100 => G.2.1.1
  | 101 => G.2.1.2.1
  | 102 => G.2.1.2.2.1
  | 103 => G.2.1.2.2.2.1
  | _ => G.2.1.2.2.2.2
def am_enc (G : am_G) (AD : List Nat) (q : Nat × Nat) (f : Nat → Int) : va_E :=
  if q.1 < 8 then .inr (q.1, (List.range q.2).map (fun j => am_fv AD (am_fk q.1 j) (f j)))
  else if q.1 = 100 then .inl (am_ca G 100, q.2, .inl (fun j => Int32.ofInt (f j)))
  else if q.1 = 101 then .inl (am_ca G 101, q.2, .inr (.inl (fun j => Int64.ofInt (f j))))
  else .inl (am_ca G q.1, q.2, .inr (.inr (.inr (.inr (fun j => am_rf AD (f j))))))
def am_ws (G : am_G) (AD : List Nat) (ω : am_W) : va_W := (List.range ω.1.length).map (fun i => (AD.getD i 0, am_enc G AD (ω.1.getD i (0, 0)) (ω.2.1 i)))
/-- what a place of a cell may hold, n cells being there -/
def am_okc (n kd j : Nat) (z : Int) : Prop := if kd < 8 then (if am_fk kd j = 2 then -1 ≤ z ∧ z < n else am_R32 z) else if kd = 100 then am_R32 z else if kd = 101 then am_R64 z else -1 ≤ z ∧ z < n
def am_oks (q : Nat × Nat) : Prop := (q.1 < 8 ∧ q.2 = am_nf q.1) ∨ (100 ≤ q.1 ∧ q.1 ≤ 104 ∧ q.2 < 2147483648)
def am_okw (ω : am_W) : Prop := (∀ (i : Nat) (q : Nat × Nat), ω.1[i]? = some q → am_oks q ∧ ∀ j : Nat, am_okc ω.1.length q.1 j (ω.2.1 i j)) ∧ ω.2.2.1 < 2147483648 ∧ ∀ j : Nat, am_R32 (ω.2.2.2 j)
def am_okv (n : Nat) : am_V → Prop
  | .inl z => am_R32 z
  | .inr (.inl z) => am_R64 z
  | .inr (.inr z) => -9 < z ∧ z < n
def am_Rl (G : am_G) (A : Nat → Prop) (AD : List Nat) (ω : am_W) (H : Heap) : Prop := AD.length = ω.1.length ∧ am_okw ω ∧ va_P G.1 vwCl (am_ws G AD ω) H ∧ va_D A (am_ws G AD ω)
/-- the frame's places -/
def am_Fr (G : am_G) (AD : List Nat) (nL : Nat) (L : am_L) (ls : Array Slot) : Prop := L.length = nL ∧ ls.size = nL ∧ lv_wf ls ∧ ∀ (k : Nat) (v : am_V), L[k]? = some (some v) → ls[k]? = some (.val (am_mv G AD v))
def am_okL (n : Nat) (L : am_L) : Prop := ∀ (k : Nat) (v : am_V), L[k]? = some (some v) → am_okv n v
def am_okS (n : Nat) (S : List am_V) : Prop := ∀ v ∈ S, am_okv n v
-- rows on worlds
theorem am_ws_len (G : am_G) (AD : List Nat) (ω : am_W) : (am_ws G AD ω).length = ω.1.length := by simp [am_ws]
theorem am_ws_at {G : am_G} {AD : List Nat} {ω : am_W} {i : Nat} {q : Nat × Nat} (h : ω.1[i]? = some q) : (am_ws G AD ω)[i]? = some (AD.getD i 0, am_enc G AD q (ω.2.1 i)) := by
  have hl := (List.getElem?_eq_some_iff.mp h).1
  unfold am_ws
  rw [List.getElem?_map, List.getElem?_range hl]
  simp [h]
theorem am_ws_out {G : am_G} {AD : List Nat} {ω : am_W} {i : Nat} (h : ω.1[i]? = none) : (am_ws G AD ω)[i]? = none := by
  rw [List.getElem?_eq_none_iff] at h ⊢
  rw [am_ws_len]
  exact h
theorem am_ws_mem {G : am_G} {AD : List Nat} {ω : am_W} {i : Nat} {x : Nat × va_E} (h : (am_ws G AD ω)[i]? = some x) : ∃ q, ω.1[i]? = some q ∧ x = (AD.getD i 0, am_enc G AD q (ω.2.1 i)) := by
  cases hq : ω.1[i]? with
  | none => rw [am_ws_out hq] at h; cases h
  | some q =>
    rw [am_ws_at hq] at h
    exact ⟨q, rfl, (Option.some.inj h).symm⟩
/-- a world whose cell a holds something else -/
theorem am_ws_set {G : am_G} {AD : List Nat} {ω : am_W} {a : Nat} {q : Nat × Nat} {g : Nat → Nat → Int} {E : va_E} (h : ω.1[a]? = some q) (hE : E = am_enc G AD q (g a)) (hg : ∀ i, i ≠ a → g i = ω.2.1 i) : (am_ws G AD ω).set a (AD.getD a 0, E) = am_ws G AD (ω.1, g, ω.2.2) := by
  have hl := (List.getElem?_eq_some_iff.mp h).1
  apply List.ext_getElem?
  intro i
  by_cases hi : i = a
  · subst hi
    rw [List.getElem?_set_self (by rw [am_ws_len]; exact hl), am_ws_at (ω := (ω.1, g, ω.2.2)) h, hE]
  · rw [List.getElem?_set_ne (fun e => hi e.symm)]
    cases hq : ω.1[i]? with
    | none => rw [am_ws_out hq, am_ws_out (ω := (ω.1, g, ω.2.2)) hq]
    | some q' => rw [am_ws_at hq, am_ws_at (ω := (ω.1, g, ω.2.2)) hq]; show _ = some (_, am_enc G AD q' (g i)); rw [hg i hi]
theorem am_rf_ext {AD : List Nat} (X : List Nat) {z : Int} (h : z < AD.length) : am_rf (AD ++ X) z = am_rf AD z := by
  unfold am_rf
  by_cases h0 : 0 ≤ z
  · rw [if_pos h0, if_pos h0]
    simp only [List.getD_eq_getElem?_getD]
    rw [List.getElem?_append_left (by omega)]
  · rw [if_neg h0, if_neg h0]
theorem am_enc_ext {G : am_G} {AD : List Nat} (X : List Nat) {n : Nat} {q : Nat × Nat} {f : Nat → Int} (hn : n = AD.length) (h : ∀ j, am_okc n q.1 j (f j)) : am_enc G (AD ++ X) q f = am_enc G AD q f := by
  unfold am_enc
  by_cases h1 : q.1 < 8
  · rw [if_pos h1, if_pos h1]
    congr 2
    apply List.map_congr_left
    intro j _
    have hj := h j
    unfold am_okc at hj
    rw [if_pos h1] at hj
    unfold am_fv
    by_cases h2 : am_fk q.1 j = 2
    · rw [if_pos h2] at hj
      rw [if_pos h2, if_pos h2, am_rf_ext X (by omega)]
    · rw [if_neg h2, if_neg h2]
  · rw [if_neg h1, if_neg h1]
    by_cases h2 : q.1 = 100
    · rw [if_pos h2, if_pos h2]
    · rw [if_neg h2, if_neg h2]
      by_cases h3 : q.1 = 101
      · rw [if_pos h3, if_pos h3]
      · rw [if_neg h3, if_neg h3]
        have e : (fun j => am_rf (AD ++ X) (f j)) = (fun j => am_rf AD (f j)) := by
          funext j
          have hj := h j
          unfold am_okc at hj
          rw [if_neg h1, if_neg h2, if_neg h3] at hj
          exact am_rf_ext X (by omega)
        rw [e]
theorem am_mv_ext {G : am_G} {AD : List Nat} (X : List Nat) {v : am_V} {n : Nat} (hn : n = AD.length) (h : am_okv n v) : am_mv G (AD ++ X) v = am_mv G AD v := by
  rcases v with z | z | z
  · rfl
  · rfl
  · have h : -9 < z ∧ z < n := h
    show am_mr _ _ _ = am_mr _ _ _
    unfold am_mr
    by_cases h0 : 0 ≤ z
    · rw [if_pos h0, if_pos h0]
      simp only [List.getD_eq_getElem?_getD]
      rw [List.getElem?_append_left (by omega)]
    · rw [if_neg h0, if_neg h0]
theorem am_okv_up {n k : Nat} {v : am_V} (h : am_okv n v) (hk : n ≤ k) : am_okv k v := by
  rcases v with z | z | z
  · exact h
  · exact h
  · have h : -9 < z ∧ z < n := h
    show -9 < z ∧ z < k
    omega
theorem am_okc_up {n k kd j : Nat} {z : Int} (h : am_okc n kd j z) (hk : n ≤ k) : am_okc k kd j z := by
  unfold am_okc at h ⊢
  split
  · rename_i h1
    rw [if_pos h1] at h
    split
    · rename_i h2
      rw [if_pos h2] at h
      omega
    · rename_i h2
      rw [if_neg h2] at h
      exact h
  · rename_i h1
    rw [if_neg h1] at h
    split
    · rename_i h2
      rw [if_pos h2] at h
      exact h
    · rename_i h2
      rw [if_neg h2] at h
      split
      · rename_i h3
        rw [if_pos h3] at h
        exact h
      · rename_i h3
        rw [if_neg h3] at h
        omega
theorem am_map_ext {G : am_G} {AD : List Nat} (X : List Nat) {S : List am_V} {n : Nat} (hn : n = AD.length) (h : am_okS n S) : S.map (am_mv G (AD ++ X)) = S.map (am_mv G AD) := List.map_congr_left (fun v hv => am_mv_ext X hn (h v hv))
theorem am_Fr_ext {G : am_G} {AD : List Nat} (X : List Nat) {nL n : Nat} {L : am_L} {ls : Array Slot} (hn : n = AD.length) (h : am_Fr G AD nL L ls) (hk : am_okL n L) : am_Fr G (AD ++ X) nL L ls := ⟨h.1, h.2.1, h.2.2.1, fun k v hv => by rw [am_mv_ext X hn (hk k v hv)]; exact h.2.2.2 k v hv⟩
theorem am_okS_up {n k : Nat} {S : List am_V} (h : am_okS n S) (hk : n ≤ k) : am_okS k S := fun v hv => am_okv_up (h v hv) hk
theorem am_okL_up {n k : Nat} {L : am_L} (h : am_okL n L) (hk : n ≤ k) : am_okL k L := fun i v hv => am_okv_up (h i v hv) hk
theorem am_okS_c {n : Nat} {v : am_V} {S : List am_V} (h1 : am_okv n v) (h2 : am_okS n S) : am_okS n (v :: S) := fun w hw => by
  rcases List.mem_cons.mp hw with rfl | hw
  · exact h1
  · exact h2 w hw
theorem am_okS_h {n : Nat} {v : am_V} {S : List am_V} (h : am_okS n (v :: S)) : am_okv n v := h v List.mem_cons_self
theorem am_okS_t {n : Nat} {v : am_V} {S : List am_V} (h : am_okS n (v :: S)) : am_okS n S := fun w hw => h w (List.mem_cons_of_mem _ hw)
/-- one more cell -/
theorem am_ws_new {G : am_G} {AD : List Nat} {ω : am_W} {x : Nat} {q : Nat × Nat} {d : Nat → Int} (hn : AD.length = ω.1.length) (hw : am_okw ω) {E : va_E} (hE : E = am_enc G (AD ++ [x]) q d) : am_ws G AD ω ++ [(x, E)] = am_ws G (AD ++ [x]) (am_new ω q d) := by
  apply List.ext_getElem?
  intro i
  by_cases h1 : i < ω.1.length
  · rw [List.getElem?_append_left (by rw [am_ws_len]; exact h1)]
    have hq : ω.1[i]? = some ω.1[i] := List.getElem?_eq_getElem h1
    have hq2 : (am_new ω q d).1[i]? = some ω.1[i] := by
      show (ω.1 ++ [q])[i]? = _
      rw [List.getElem?_append_left h1]; exact hq
    rw [am_ws_at hq, am_ws_at hq2]
    have e1 : (AD ++ [x]).getD i 0 = AD.getD i 0 := by
      simp only [List.getD_eq_getElem?_getD]
      rw [List.getElem?_append_left (by omega)]
    have e2 : (am_new ω q d).2.1 i = ω.2.1 i := by
      funext k
      show (if i = ω.1.length then d k else ω.2.1 i k) = _
      rw [if_neg (by omega)]
    rw [e1, e2, am_enc_ext [x] hn.symm ((hw.1 i _ hq).2)]
  · by_cases h2 : i = ω.1.length
    · subst h2
      have e0 : (am_ws G AD ω ++ [(x, E)])[ω.1.length]? = some (x, E) := by
        rw [List.getElem?_append_right (by rw [am_ws_len]; exact Nat.le_refl _), am_ws_len, Nat.sub_self]
        rfl
      have hq2 : (am_new ω q d).1[ω.1.length]? = some q := by
        show (ω.1 ++ [q])[ω.1.length]? = _
        simp
      rw [e0, am_ws_at hq2]
      have e1 : (AD ++ [x]).getD ω.1.length 0 = x := by
        rw [← hn]
        simp
      have e2 : (am_new ω q d).2.1 ω.1.length = d := by
        funext k
        show (if ω.1.length = ω.1.length then d k else _) = _
        rw [if_pos rfl]
      rw [e1, e2, hE]
    · rw [List.getElem?_eq_none (by simp [am_ws_len]; omega), List.getElem?_eq_none (by rw [am_ws_len]; show (ω.1 ++ [q]).length ≤ i; simp; omega)]
theorem am_okw_put {ω : am_W} {a k : Nat} {v : Int} (hw : am_okw ω) (h : ∀ q, ω.1[a]? = some q → am_okc ω.1.length q.1 k v) : am_okw (am_put ω a k v) := by
  refine ⟨fun i q hq => ?_, hw.2⟩
  obtain ⟨h1, h2⟩ := hw.1 i q hq
  refine ⟨h1, fun j => ?_⟩
  show am_okc ω.1.length q.1 j (if i = a ∧ j = k then v else ω.2.1 i j)
  by_cases e : i = a ∧ j = k
  · rw [if_pos e]
    obtain ⟨rfl, rfl⟩ := e
    exact h q hq
  · rw [if_neg e]
    exact h2 j
theorem am_okw_new {ω : am_W} {q : Nat × Nat} {d : Nat → Int} (hw : am_okw ω) (hq : am_oks q) (h : ∀ j, am_okc (ω.1.length + 1) q.1 j (d j)) : am_okw (am_new ω q d) := by
  have hl : (am_new ω q d).1.length = ω.1.length + 1 := by
    show (ω.1 ++ [q]).length = _
    simp
  refine ⟨fun i x hx => ?_, hw.2⟩
  rw [hl]
  have hx : (ω.1 ++ [q])[i]? = some x := hx
  by_cases h1 : i < ω.1.length
  · rw [List.getElem?_append_left h1] at hx
    obtain ⟨g1, g2⟩ := hw.1 i x hx
    refine ⟨g1, fun j => ?_⟩
    show am_okc _ x.1 j (if i = ω.1.length then d j else ω.2.1 i j)
    rw [if_neg (by omega)]
    exact am_okc_up (g2 j) (Nat.le_succ _)
  · have h2 : i = ω.1.length := by
      have := (List.getElem?_eq_some_iff.mp hx).1
      simp at this
      omega
    subst h2
    have e : x = q := by simpa using hx.symm
    subst e
    refine ⟨hq, fun j => ?_⟩
    show am_okc _ x.1 j (if ω.1.length = ω.1.length then d j else _)
    rw [if_pos rfl]
    exact h j
theorem am_is_of {ω : am_W} {r : Int} {q : Nat × Nat} (h : am_is ω r q = true) : 0 ≤ r ∧ ω.1[r.toNat]? = some q := by
  unfold am_is at h
  simp only [Bool.and_eq_true, decide_eq_true_eq, beq_iff_eq] at h
  exact h
theorem am_ar_of {ω : am_W} {r : Int} {kd : Nat} (h : am_ar ω r kd = true) : 0 ≤ r ∧ ∃ n : Nat, ω.1[r.toNat]? = some (kd, n) ∧ am_len ω r = (n : Int) := by
  unfold am_ar at h
  simp only [Bool.and_eq_true, decide_eq_true_eq, beq_iff_eq] at h
  obtain ⟨h1, h2⟩ := h
  cases hq : ω.1[r.toNat]? with
  | none => rw [hq] at h2; cases h2
  | some q =>
    rw [hq] at h2
    have e : q.1 = kd := by simpa using h2
    refine ⟨h1, q.2, by rw [← e], ?_⟩
    unfold am_len
    rw [hq]
    rfl
theorem am_in_of {ω : am_W} {r i : Int} {kd : Nat} (h : am_in ω r kd i = true) : 0 ≤ r ∧ ∃ n : Nat, ω.1[r.toNat]? = some (kd, n) ∧ 0 ≤ i ∧ i < n := by
  unfold am_in at h
  simp only [Bool.and_eq_true, decide_eq_true_eq] at h
  obtain ⟨h1, n, h2, h3⟩ := am_ar_of h.1
  refine ⟨h1, n, h2, h.2.1, ?_⟩
  rw [← h3]
  exact h.2.2
end
section
/-! ===== the pools and the methods against the tables of the Statement ===== -/
def am_cn (o : Nat) : String := [RX0, RX1, RX2, RX3, RX4, RX5, RX6, RX7, RJ6, RJ9, RJ7].getD o RL
/-- what a method answers -/
noncomputable def am_ty (b : Nat) : Option FieldType := match am_rt b with
  | 0 => none
  | 1 => some .int
  | 2 => some .long
  | 3 => some (.object "FasterToBeLater$Planner")
  | _ => some .boolean
/-- the words that pass from frame to frame -/
def am_wds : List Cond := lw_tbl.filter goodWord
theorem am_wd {i : Nat} {w : Cond} (h : lw_tbl[i]? = some w) (hg : goodWord w = true) : w ∈ am_wds := List.mem_filter.mpr ⟨List.mem_of_getElem? h, hg⟩
theorem am_wds_good : ∀ w ∈ am_wds, (w.onTables && w.keeps) = true ∨ ∃ ty, w = .arrayClass ty := fun w h => good_of_word (List.mem_filter.mp h).2
def am_txs : List String := ["circles", "time", "cost", "ship", "drops", "step"]
end
section
/-! ===== the methods against the tables ===== -/
def am_cw_0 : Lean.RArray (Nat × Nat) := .branch 3 (.branch 1 (.leaf (0, 939)) (.branch 2 (.leaf (1, 956)) (.leaf (2, 961)))) (.branch 4 (.leaf (3, 967)) (.branch 5 (.leaf (4, 722)) (.leaf (5, 775))))
def am_cw_1 : Lean.RArray (Nat × Nat) := .branch 9 (.branch 7 (.leaf (6, 841)) (.branch 8 (.leaf (7, 926)) (.leaf (8, 930)))) (.branch 10 (.leaf (9, 780)) (.branch 11 (.leaf (10, 784)) (.leaf (11, 790))))
def am_cw_2 : Lean.RArray (Nat × Nat) := .branch 15 (.branch 13 (.leaf (12, 799)) (.branch 14 (.leaf (13, 814)) (.leaf (14, 824)))) (.branch 16 (.leaf (15, 828)) (.branch 17 (.leaf (16, 832)) (.leaf (17, 849))))
def am_cw_3 : Lean.RArray (Nat × Nat) := .branch 21 (.branch 19 (.leaf (18, 854)) (.branch 20 (.leaf (19, 862)) (.leaf (20, 858)))) (.branch 22 (.leaf (21, 806)) (.branch 23 (.leaf (22, 222)) (.leaf (23, 304))))
def am_cw_4 : Lean.RArray (Nat × Nat) := .branch 27 (.branch 25 (.leaf (24, 300)) (.branch 26 (.leaf (25, 320)) (.leaf (26, 362)))) (.branch 28 (.leaf (27, 347)) (.branch 29 (.leaf (28, 351)) (.leaf (29, 285))))
def am_cw_5 : Lean.RArray (Nat × Nat) := .branch 33 (.branch 31 (.leaf (30, 324)) (.branch 32 (.leaf (31, 308)) (.leaf (32, 312)))) (.branch 34 (.leaf (33, 185)) (.branch 35 (.leaf (34, 483)) (.leaf (35, 505))))
def am_cw_6 : Lean.RArray (Nat × Nat) := .branch 39 (.branch 37 (.leaf (36, 562)) (.branch 38 (.leaf (37, 575)) (.leaf (38, 581)))) (.branch 40 (.leaf (39, 586)) (.branch 41 (.leaf (40, 595)) (.leaf (41, 566))))
def am_cw_7 : Lean.RArray (Nat × Nat) := .branch 45 (.branch 43 (.leaf (42, 570)) (.branch 44 (.leaf (43, 510)) (.leaf (44, 496)))) (.branch 46 (.leaf (45, 500)) (.branch 47 (.leaf (46, 109)) (.leaf (47, 492))))
def am_cw_8 : Lean.RArray (Nat × Nat) := .branch 51 (.branch 49 (.leaf (48, 398)) (.branch 50 (.leaf (49, 367)) (.leaf (50, 636)))) (.branch 52 (.leaf (51, 651)) (.branch 53 (.leaf (52, 102)) (.leaf (53, 487))))
def am_cw_9 : Lean.RArray (Nat × Nat) := .branch 57 (.branch 55 (.leaf (54, 436)) (.branch 56 (.leaf (55, 386)) (.leaf (56, 989)))) (.branch 58 (.leaf (57, 450)) (.branch 59 (.leaf (58, 343)) (.leaf (59, 660))))
def am_cw_10 : Lean.RArray (Nat × Nat) := .branch 63 (.branch 61 (.leaf (60, 458)) (.branch 62 (.leaf (61, 420)) (.leaf (62, 379)))) (.branch 64 (.leaf (63, 462)) (.branch 65 (.leaf (64, 406)) (.leaf (65, 410))))
def am_cw_11 : Lean.RArray (Nat × Nat) := .branch 69 (.branch 67 (.leaf (66, 402)) (.branch 68 (.leaf (67, 424)) (.leaf (68, 394)))) (.branch 70 (.leaf (69, 375)) (.branch 71 (.leaf (70, 689)) (.leaf (71, 693))))
def am_cw_12 : Lean.RArray (Nat × Nat) := .branch 75 (.branch 73 (.leaf (72, 632)) (.branch 74 (.leaf (73, 685)) (.leaf (74, 603)))) (.branch 76 (.leaf (75, 646)) (.branch 77 (.leaf (76, 679)) (.leaf (77, 599))))
def am_cw_13 : Lean.RArray (Nat × Nat) := .branch 81 (.branch 79 (.leaf (78, 611)) (.branch 80 (.leaf (79, 912)) (.leaf (80, 810)))) (.branch 82 (.leaf (81, 818)) (.branch 83 (.leaf (82, 997)) (.leaf (83, 94))))
def am_cw_14 : Lean.RArray (Nat × Nat) := .branch 87 (.branch 85 (.leaf (84, 274)) (.branch 86 (.leaf (85, 292)) (.leaf (86, 316)))) (.branch 88 (.leaf (87, 331)) (.branch 89 (.leaf (88, 335)) (.leaf (89, 339))))
def am_cw_15 : Lean.RArray (Nat × Nat) := .branch 93 (.branch 91 (.leaf (90, 355)) (.branch 92 (.leaf (91, 428)) (.leaf (92, 432)))) (.branch 94 (.leaf (93, 441)) (.branch 95 (.leaf (94, 446)) (.leaf (95, 467))))
def am_cw_16 : Lean.RArray (Nat × Nat) := .branch 99 (.branch 97 (.leaf (96, 471)) (.branch 98 (.leaf (97, 475)) (.leaf (98, 479)))) (.branch 100 (.leaf (99, 617)) (.branch 101 (.leaf (100, 621)) (.leaf (101, 625))))
def am_cw_17 : Lean.RArray (Nat × Nat) := .branch 105 (.branch 103 (.leaf (102, 642)) (.branch 104 (.leaf (103, 656)) (.leaf (104, 666)))) (.branch 106 (.leaf (105, 697)) (.branch 107 (.leaf (106, 701)) (.leaf (107, 710))))
def am_cw_18 : Lean.RArray (Nat × Nat) := .branch 111 (.branch 109 (.leaf (108, 837)) (.branch 110 (.leaf (109, 845)) (.leaf (110, 866)))) (.branch 112 (.leaf (111, 874)) (.branch 113 (.leaf (112, 880)) (.leaf (113, 888))))
def am_cw_19 : Lean.RArray (Nat × Nat) := .branch 117 (.branch 115 (.leaf (114, 892)) (.branch 116 (.leaf (115, 904)) (.leaf (116, 908)))) (.branch 118 (.leaf (117, 917)) (.branch 119 (.leaf (118, 934)) (.leaf (119, 971))))
def am_cw_20 : Lean.RArray (Nat × Nat) := .branch 123 (.branch 121 (.leaf (120, 976)) (.branch 122 (.leaf (121, 981)) (.leaf (122, 985)))) (.branch 124 (.leaf (123, 993)) (.branch 125 (.leaf (124, 1002)) (.leaf (125, 1006))))
def am_cw_21 : Lean.RArray (Nat × Nat) := .branch 129 (.branch 127 (.leaf (126, 1010)) (.branch 128 (.leaf (127, 1014)) (.leaf (128, 281)))) (.branch 130 (.leaf (129, 1023)) (.branch 131 (.leaf (130, 1019)) (.leaf (131, 296))))
def am_cw_22 : Lean.RArray (Nat × Nat) := .branch 135 (.branch 133 (.leaf (132, 371)) (.branch 134 (.leaf (133, 674)) (.leaf (134, 705)))) (.branch 136 (.leaf (135, 896)) (.branch 137 (.leaf (136, 921)) (.leaf (137, 870))))
def am_cw_23 : Lean.RArray (Nat × Nat) := .branch 141 (.branch 139 (.leaf (138, 670)) (.branch 140 (.leaf (139, 717)) (.leaf (140, 277)))) (.branch 142 (.leaf (141, 358)) (.branch 143 (.leaf (142, 628)) (.leaf (143, 454))))
def am_cw_24 : Lean.RArray (Nat × Nat) := .branch 147 (.branch 145 (.leaf (144, 713)) (.branch 146 (.leaf (145, 607)) (.leaf (146, 884)))) (.branch 148 (.leaf (147, 1028)) (.branch 149 (.leaf (148, 1132)) (.leaf (149, 1128))))
def am_cw_25 : Lean.RArray (Nat × Nat) := .branch 153 (.branch 151 (.leaf (150, 1392)) (.branch 152 (.leaf (151, 1164)) (.leaf (152, 1306)))) (.branch 154 (.leaf (153, 1191)) (.branch 155 (.leaf (154, 1148)) (.leaf (155, 1125))))
def am_cw_26 : Lean.RArray (Nat × Nat) := .branch 159 (.branch 157 (.leaf (156, 1140)) (.branch 158 (.leaf (157, 1136)) (.leaf (158, 1144)))) (.branch 160 (.leaf (159, 1152)) (.branch 161 (.leaf (160, 1156)) (.leaf (161, 1160))))
def am_cw_27 : Lean.RArray (Nat × Nat) := .branch 165 (.branch 163 (.leaf (162, 1171)) (.branch 164 (.leaf (163, 1168)) (.leaf (164, 1195)))) (.branch 166 (.leaf (165, 1183)) (.branch 167 (.leaf (166, 1187)) (.leaf (167, 1199))))
def am_cw_28 : Lean.RArray (Nat × Nat) := .branch 171 (.branch 169 (.leaf (168, 1207)) (.branch 170 (.leaf (169, 1203)) (.leaf (170, 1211)))) (.branch 172 (.leaf (171, 1215)) (.branch 173 (.leaf (172, 1219)) (.leaf (173, 1234))))
def am_cw_29 : Lean.RArray (Nat × Nat) := .branch 177 (.branch 175 (.leaf (174, 1237)) (.branch 176 (.leaf (175, 1231)) (.leaf (176, 1246)))) (.branch 178 (.leaf (177, 1252)) (.branch 179 (.leaf (178, 1241)) (.leaf (179, 1223))))
def am_cw_30 : Lean.RArray (Nat × Nat) := .branch 183 (.branch 181 (.leaf (180, 1273)) (.branch 182 (.leaf (181, 1277)) (.leaf (182, 1263)))) (.branch 184 (.leaf (183, 1179)) (.branch 185 (.leaf (184, 1175)) (.leaf (185, 1330))))
def am_cw_31 : Lean.RArray (Nat × Nat) := .branch 189 (.branch 187 (.leaf (186, 1334)) (.branch 188 (.leaf (187, 1289)) (.leaf (188, 1293)))) (.branch 190 (.leaf (189, 1285)) (.branch 191 (.leaf (190, 1327)) (.leaf (191, 1323))))
def am_cw_32 : Lean.RArray (Nat × Nat) := .branch 195 (.branch 193 (.leaf (192, 1281)) (.branch 194 (.leaf (193, 1297)) (.leaf (194, 1302)))) (.branch 196 (.leaf (195, 1314)) (.branch 197 (.leaf (196, 1318)) (.leaf (197, 1310))))
def am_cw_33 : Lean.RArray (Nat × Nat) := .branch 201 (.branch 199 (.leaf (198, 1338)) (.branch 200 (.leaf (199, 1342)) (.leaf (200, 1357)))) (.branch 202 (.leaf (201, 1354)) (.branch 203 (.leaf (202, 1365)) (.leaf (203, 1361))))
def am_cw_34 : Lean.RArray (Nat × Nat) := .branch 207 (.branch 205 (.leaf (204, 1369)) (.branch 206 (.leaf (205, 1350)) (.leaf (206, 1346)))) (.branch 208 (.leaf (207, 1374)) (.branch 209 (.leaf (208, 1385)) (.leaf (209, 1378))))
def am_cw_35 : Lean.RArray (Nat × Nat) := .branch 213 (.branch 211 (.leaf (210, 1382)) (.branch 212 (.leaf (211, 1389)) (.leaf (212, 1397)))) (.branch 214 (.leaf (213, 1401)) (.branch 215 (.leaf (214, 1406)) (.leaf (215, 1410))))
def am_cw_36 : Lean.RArray (Nat × Nat) := .branch 219 (.branch 217 (.leaf (216, 1415)) (.branch 218 (.leaf (217, 1419)) (.leaf (218, 1423)))) (.branch 220 (.leaf (219, 1432)) (.branch 221 (.leaf (220, 1428)) (.leaf (221, 1259))))
def am_cw_37 : Lean.RArray (Nat × Nat) := .branch 225 (.branch 223 (.leaf (222, 1436)) (.branch 224 (.leaf (223, 1440)) (.leaf (224, 1444)))) (.branch 226 (.leaf (225, 1448)) (.branch 227 (.leaf (226, 1456)) (.leaf (227, 1452))))
def am_cw_38 : Lean.RArray (Nat × Nat) := .branch 231 (.branch 229 (.leaf (228, 1461)) (.branch 230 (.leaf (229, 1227)) (.leaf (230, 1269)))) (.branch 232 (.leaf (231, 1465)) (.branch 233 (.leaf (232, 1469)) (.leaf (233, 1473))))
def am_cw_39 : Lean.RArray (Nat × Nat) := .branch 237 (.branch 235 (.leaf (234, 413)) (.branch 236 (.leaf (235, 899)) (.leaf (236, 390)))) (.branch 238 (.leaf (237, 382)) (.branch 239 (.leaf (238, 288)) (.leaf (239, 803))))
def am_cw : Lean.RArray (Nat × Nat) := .branch 120 (.branch 60 (.branch 30 (.branch 12 (.branch 6 (am_cw_0) (am_cw_1)) (.branch 18 (am_cw_2) (.branch 24 (am_cw_3) (am_cw_4)))) (.branch 42 (.branch 36 (am_cw_5) (am_cw_6)) (.branch 48 (am_cw_7) (.branch 54 (am_cw_8) (am_cw_9))))) (.branch 90 (.branch 72 (.branch 66 (am_cw_10) (am_cw_11)) (.branch 78 (am_cw_12) (.branch 84 (am_cw_13) (am_cw_14)))) (.branch 102 (.branch 96 (am_cw_15) (am_cw_16)) (.branch 108 (am_cw_17) (.branch 114 (am_cw_18) (am_cw_19)))))) (.branch 180 (.branch 150 (.branch 132 (.branch 126 (am_cw_20) (am_cw_21)) (.branch 138 (am_cw_22) (.branch 144 (am_cw_23) (am_cw_24)))) (.branch 162 (.branch 156 (am_cw_25) (am_cw_26)) (.branch 168 (am_cw_27) (.branch 174 (am_cw_28) (am_cw_29))))) (.branch 210 (.branch 192 (.branch 186 (am_cw_30) (am_cw_31)) (.branch 198 (am_cw_32) (.branch 204 (am_cw_33) (am_cw_34)))) (.branch 222 (.branch 216 (am_cw_35) (am_cw_36)) (.branch 228 (am_cw_37) (.branch 234 (am_cw_38) (am_cw_39))))))
def am_okm (q : Nat × Nat) : Bool := decide (lw_tbl[q.2]? = some (.code (am_nm.getImpl q.1) (am_by.getImpl q.1) (am_mt.getImpl q.1).2.1 (match (am_mt.getImpl q.1).2.2.1 with | 0 => none | 1 => some .int | 2 => some .long | 3 => some (.object "FasterToBeLater$Planner") | _ => some .boolean))) && (plainFor (am_nm.getImpl q.1) && (decide ((am_nm.getImpl q.1).cls ≠ "java/lang/invoke/MethodHandle" ∧ (am_nm.getImpl q.1).cls ≠ "java/lang/invoke/VarHandle") && (decide ((am_nm.getImpl q.1).cls = am_cn (am_mt.getImpl q.1).1) && Nat.ble (am_mt.getImpl q.1).2.1 16)))
theorem am_okm_0 : am_allb am_okm am_cw_0 = true := by decide +kernel
theorem am_okm_1 : am_allb am_okm am_cw_1 = true := by decide +kernel
theorem am_okm_2 : am_allb am_okm am_cw_2 = true := by decide +kernel
theorem am_okm_3 : am_allb am_okm am_cw_3 = true := by decide +kernel
theorem am_okm_4 : am_allb am_okm am_cw_4 = true := by decide +kernel
theorem am_okm_5 : am_allb am_okm am_cw_5 = true := by decide +kernel
theorem am_okm_6 : am_allb am_okm am_cw_6 = true := by decide +kernel
theorem am_okm_7 : am_allb am_okm am_cw_7 = true := by decide +kernel
theorem am_okm_8 : am_allb am_okm am_cw_8 = true := by decide +kernel
theorem am_okm_9 : am_allb am_okm am_cw_9 = true := by decide +kernel
theorem am_okm_10 : am_allb am_okm am_cw_10 = true := by decide +kernel
theorem am_okm_11 : am_allb am_okm am_cw_11 = true := by decide +kernel
theorem am_okm_12 : am_allb am_okm am_cw_12 = true := by decide +kernel
theorem am_okm_13 : am_allb am_okm am_cw_13 = true := by decide +kernel
theorem am_okm_14 : am_allb am_okm am_cw_14 = true := by decide +kernel
theorem am_okm_15 : am_allb am_okm am_cw_15 = true := by decide +kernel
theorem am_okm_16 : am_allb am_okm am_cw_16 = true := by decide +kernel
theorem am_okm_17 : am_allb am_okm am_cw_17 = true := by decide +kernel
theorem am_okm_18 : am_allb am_okm am_cw_18 = true := by decide +kernel
theorem am_okm_19 : am_allb am_okm am_cw_19 = true := by decide +kernel
theorem am_okm_20 : am_allb am_okm am_cw_20 = true := by decide +kernel
theorem am_okm_21 : am_allb am_okm am_cw_21 = true := by decide +kernel
theorem am_okm_22 : am_allb am_okm am_cw_22 = true := by decide +kernel
theorem am_okm_23 : am_allb am_okm am_cw_23 = true := by decide +kernel
theorem am_okm_24 : am_allb am_okm am_cw_24 = true := by decide +kernel
theorem am_okm_25 : am_allb am_okm am_cw_25 = true := by decide +kernel
theorem am_okm_26 : am_allb am_okm am_cw_26 = true := by decide +kernel
theorem am_okm_27 : am_allb am_okm am_cw_27 = true := by decide +kernel
theorem am_okm_28 : am_allb am_okm am_cw_28 = true := by decide +kernel
theorem am_okm_29 : am_allb am_okm am_cw_29 = true := by decide +kernel
theorem am_okm_30 : am_allb am_okm am_cw_30 = true := by decide +kernel
theorem am_okm_31 : am_allb am_okm am_cw_31 = true := by decide +kernel
theorem am_okm_32 : am_allb am_okm am_cw_32 = true := by decide +kernel
theorem am_okm_33 : am_allb am_okm am_cw_33 = true := by decide +kernel
theorem am_okm_34 : am_allb am_okm am_cw_34 = true := by decide +kernel
theorem am_okm_35 : am_allb am_okm am_cw_35 = true := by decide +kernel
theorem am_okm_36 : am_allb am_okm am_cw_36 = true := by decide +kernel
theorem am_okm_37 : am_allb am_okm am_cw_37 = true := by decide +kernel
theorem am_okm_38 : am_allb am_okm am_cw_38 = true := by decide +kernel
theorem am_okm_39 : am_allb am_okm am_cw_39 = true := by decide +kernel
theorem am_allb_b {α : Type} {f : α → Bool} {p : Nat} {l r : Lean.RArray α} (h1 : am_allb f l = true) (h2 : am_allb f r = true) : am_allb f (.branch p l r) = true := Bool.and_eq_true_iff.mpr ⟨h1, h2⟩
theorem am_okm_all : am_allb am_okm am_cw = true := (am_allb_b (am_allb_b (am_allb_b (am_allb_b (am_allb_b am_okm_0 am_okm_1) (am_allb_b am_okm_2 (am_allb_b am_okm_3 am_okm_4))) (am_allb_b (am_allb_b am_okm_5 am_okm_6) (am_allb_b am_okm_7 (am_allb_b am_okm_8 am_okm_9)))) (am_allb_b (am_allb_b (am_allb_b am_okm_10 am_okm_11) (am_allb_b am_okm_12 (am_allb_b am_okm_13 am_okm_14))) (am_allb_b (am_allb_b am_okm_15 am_okm_16) (am_allb_b am_okm_17 (am_allb_b am_okm_18 am_okm_19))))) (am_allb_b (am_allb_b (am_allb_b (am_allb_b am_okm_20 am_okm_21) (am_allb_b am_okm_22 (am_allb_b am_okm_23 am_okm_24))) (am_allb_b (am_allb_b am_okm_25 am_okm_26) (am_allb_b am_okm_27 (am_allb_b am_okm_28 am_okm_29)))) (am_allb_b (am_allb_b (am_allb_b am_okm_30 am_okm_31) (am_allb_b am_okm_32 (am_allb_b am_okm_33 am_okm_34))) (am_allb_b (am_allb_b am_okm_35 am_okm_36) (am_allb_b am_okm_37 (am_allb_b am_okm_38 am_okm_39))))))
end
section
/-! ===== the pools against the tables ===== -/
def am_okf (o : Nat) (q : Nat × Nat × Nat × Nat) : Bool := Nat.beq q.1 999999 || (decide (q.2.1 < 8) && (decide (q.2.2.1 < am_nf q.2.1) && (match vwCl[q.2.1]? with | some r => decide (lw_tbl[q.2.2.2]? = some (.fieldLink (am_cn o) q.1 (r.2.1 q.2.2.1).1 (r.2.1 q.2.2.1).2.1 (r.2.1 q.2.2.1).2.2.1)) | none => false)))
theorem am_okf_0 : am_allb (am_okf 0) mf_0 = true := by decide +kernel
theorem am_okf_1 : am_allb (am_okf 1) mf_1 = true := by decide +kernel
theorem am_okf_2 : am_allb (am_okf 2) mf_2 = true := by decide +kernel
theorem am_okf_3 : am_allb (am_okf 3) mf_3 = true := by decide +kernel
theorem am_okf_4 : am_allb (am_okf 4) mf_4 = true := by decide +kernel
theorem am_okf_5 : am_allb (am_okf 5) mf_5 = true := by decide +kernel
theorem am_okf_6 : am_allb (am_okf 6) mf_6 = true := by decide +kernel
theorem am_okf_7 : am_allb (am_okf 7) mf_7 = true := by decide +kernel
theorem am_okf_8 : am_allb (am_okf 8) mf_8 = true := by decide +kernel
theorem am_okf_9 : am_allb (am_okf 9) mf_9 = true := by decide +kernel
theorem am_okf_10 : am_allb (am_okf 10) mf_10 = true := by decide +kernel
theorem am_okf_11 : am_allb (am_okf 11) mf_11 = true := by decide +kernel
def am_okp (o : Nat) (q : Nat × Nat × Nat × Nat × Nat × Nat × Nat × Nat × Nat) : Bool := Nat.beq q.1 999999 || (match q with
  | (idx, kd, b, na, rk, w, w2, w3, w4) =>
    let y := am_nm.getImpl b
    let own := (am_mt.getImpl b).1
    let rt := (am_mt.getImpl b).2.2.1
    let rok := Nat.beq rk (if rt = 4 then 1 else rt)
    let ini := decide (lw_tbl[w4]? = some (.initialized y.cls))
    match kd with
    | 0 => decide (lw_tbl[w]? = some (.methodLink (am_cn o) idx y)) && (decide (lw_tbl[w2]? = some (.instanceMethod y)) && (decide (lw_tbl[w3]? = some (.selects y.cls y y)) && (ini && (decide (own < 8) && (rok && (decide (b < 240) && decide ((parseMethodDescriptor y.desc).map (fun d => d.parameters.length + 1) = some na)))))))
    | 2 => decide (lw_tbl[w]? = some (.methodLink (am_cn o) idx y)) && (decide (lw_tbl[w2]? = some (.static y)) && (ini && (rok && (decide (b < 240) && decide ((parseMethodDescriptor y.desc).map (fun d => d.parameters.length) = some na)))))
    | 3 => decide (lw_tbl[w]? = some (.methodLinkNest (am_cn o) idx y "FasterToBeLater")) && (decide (lw_tbl[w2]? = some (.static y)) && (ini && (rok && (decide (b < 240) && decide ((parseMethodDescriptor y.desc).map (fun d => d.parameters.length) = some na)))))
    | 4 => decide (lw_tbl[w]? = some (.methodLink (am_cn o) idx y)) && (decide (lw_tbl[w2]? = some (.instanceMethod y)) && (decide (y.name = "<init>") && (ini && (decide (own < 8) && (decide (rk = 0 ∧ rt = 0) && (decide (b < 240) && decide ((parseMethodDescriptor y.desc).map (fun d => d.parameters.length + 1) = some na)))))))
    | 5 => decide (lw_tbl[w]? = some (.methodLinkNest (am_cn o) idx y "FasterToBeLater")) && (decide (lw_tbl[w2]? = some (.instanceMethod y)) && (decide (y.name = "<init>") && (ini && (decide (own < 8) && (decide (rk = 0 ∧ rt = 0) && (decide (b < 240) && decide ((parseMethodDescriptor y.desc).map (fun d => d.parameters.length + 1) = some na)))))))
    | 6 => decide (lw_tbl[w]? = some (.methodLink (am_cn o) idx objectInit))
    | 7 => decide (lw_tbl[w]? = some (.methodLink (am_cn o) idx arraycopyName))
    | 8 => decide (lw_tbl[w]? = some (.methodLink (am_cn o) idx yJ0_length_8abf5))
    | 9 => decide (lw_tbl[w]? = some (.methodLink (am_cn o) idx yJ0_charAt_5068e))
    | _ => false)
theorem am_okp_0 : am_allb (am_okp 0) mp_0 = true := by decide +kernel
theorem am_okp_1 : am_allb (am_okp 1) mp_1 = true := by decide +kernel
theorem am_okp_2 : am_allb (am_okp 2) mp_2 = true := by decide +kernel
theorem am_okp_3 : am_allb (am_okp 3) mp_3 = true := by decide +kernel
theorem am_okp_4 : am_allb (am_okp 4) mp_4 = true := by decide +kernel
theorem am_okp_5 : am_allb (am_okp 5) mp_5 = true := by decide +kernel
theorem am_okp_6 : am_allb (am_okp 6) mp_6 = true := by decide +kernel
theorem am_okp_7 : am_allb (am_okp 7) mp_7 = true := by decide +kernel
theorem am_okp_8 : am_allb (am_okp 8) mp_8 = true := by decide +kernel
theorem am_okp_9 : am_allb (am_okp 9) mp_9 = true := by decide +kernel
theorem am_okp_10 : am_allb (am_okp 10) mp_10 = true := by decide +kernel
theorem am_okp_11 : am_allb (am_okp 11) mp_11 = true := by decide +kernel
def am_okq (o : Nat) (q : Nat × Int × Nat) : Bool := Nat.beq q.1 999999 || (decide (lw_tbl[q.2.2]? = some (.constant (am_cn o) q.1 (Int32.ofInt q.2.1))) && (decide (-2147483648 ≤ q.2.1) && decide (q.2.1 < 2147483648)))
def am_okl (o : Nat) (q : Nat × Int × Nat) : Bool := Nat.beq q.1 999999 || (decide (lw_tbl[q.2.2]? = some (.constantLong (am_cn o) q.1 (Int64.ofInt q.2.1))) && (decide (-9223372036854775808 ≤ q.2.1) && decide (q.2.1 < 9223372036854775808)))
def am_okx (o : Nat) (q : Nat × Nat × Nat) : Bool := Nat.beq q.1 999999 || (decide (lw_tbl[q.2.2]? = some (.stringRef (am_cn o) q.1 (am_txs.getD q.2.1 ""))) && (decide (q.2.1 < 6) && (decide (o = 3) || decide (o = 7))))
def am_okn (o : Nat) (q : Nat × Nat × Nat) : Bool := Nat.beq q.1 999999 || decide (lw_tbl[q.2.2]? = some (.classLink (am_cn o) q.1 (if q.2.1 < 8 then am_cn q.2.1 else "[[I")))
theorem am_okq_0 : am_allb (am_okq 0) mq_0 = true := by decide +kernel
theorem am_okl_0 : am_allb (am_okl 0) ml_0 = true := by decide +kernel
theorem am_okx_0 : am_allb (am_okx 0) ms_0 = true := by decide +kernel
theorem am_okn_0 : am_allb (am_okn 0) mn_0 = true := by decide +kernel
theorem am_okq_1 : am_allb (am_okq 1) mq_1 = true := by decide +kernel
theorem am_okl_1 : am_allb (am_okl 1) ml_1 = true := by decide +kernel
theorem am_okx_1 : am_allb (am_okx 1) ms_1 = true := by decide +kernel
theorem am_okn_1 : am_allb (am_okn 1) mn_1 = true := by decide +kernel
theorem am_okq_2 : am_allb (am_okq 2) mq_2 = true := by decide +kernel
theorem am_okl_2 : am_allb (am_okl 2) ml_2 = true := by decide +kernel
theorem am_okx_2 : am_allb (am_okx 2) ms_2 = true := by decide +kernel
theorem am_okn_2 : am_allb (am_okn 2) mn_2 = true := by decide +kernel
theorem am_okq_3 : am_allb (am_okq 3) mq_3 = true := by decide +kernel
theorem am_okl_3 : am_allb (am_okl 3) ml_3 = true := by decide +kernel
theorem am_okx_3 : am_allb (am_okx 3) ms_3 = true := by decide +kernel
theorem am_okn_3 : am_allb (am_okn 3) mn_3 = true := by decide +kernel
theorem am_okq_4 : am_allb (am_okq 4) mq_4 = true := by decide +kernel
theorem am_okl_4 : am_allb (am_okl 4) ml_4 = true := by decide +kernel
theorem am_okx_4 : am_allb (am_okx 4) ms_4 = true := by decide +kernel
theorem am_okn_4 : am_allb (am_okn 4) mn_4 = true := by decide +kernel
theorem am_okq_5 : am_allb (am_okq 5) mq_5 = true := by decide +kernel
theorem am_okl_5 : am_allb (am_okl 5) ml_5 = true := by decide +kernel
theorem am_okx_5 : am_allb (am_okx 5) ms_5 = true := by decide +kernel
theorem am_okn_5 : am_allb (am_okn 5) mn_5 = true := by decide +kernel
theorem am_okq_6 : am_allb (am_okq 6) mq_6 = true := by decide +kernel
theorem am_okl_6 : am_allb (am_okl 6) ml_6 = true := by decide +kernel
theorem am_okx_6 : am_allb (am_okx 6) ms_6 = true := by decide +kernel
theorem am_okn_6 : am_allb (am_okn 6) mn_6 = true := by decide +kernel
theorem am_okq_7 : am_allb (am_okq 7) mq_7 = true := by decide +kernel
theorem am_okl_7 : am_allb (am_okl 7) ml_7 = true := by decide +kernel
theorem am_okx_7 : am_allb (am_okx 7) ms_7 = true := by decide +kernel
theorem am_okn_7 : am_allb (am_okn 7) mn_7 = true := by decide +kernel
theorem am_okq_8 : am_allb (am_okq 8) mq_8 = true := by decide +kernel
theorem am_okl_8 : am_allb (am_okl 8) ml_8 = true := by decide +kernel
theorem am_okx_8 : am_allb (am_okx 8) ms_8 = true := by decide +kernel
theorem am_okn_8 : am_allb (am_okn 8) mn_8 = true := by decide +kernel
theorem am_okq_9 : am_allb (am_okq 9) mq_9 = true := by decide +kernel
theorem am_okl_9 : am_allb (am_okl 9) ml_9 = true := by decide +kernel
theorem am_okx_9 : am_allb (am_okx 9) ms_9 = true := by decide +kernel
theorem am_okn_9 : am_allb (am_okn 9) mn_9 = true := by decide +kernel
theorem am_okq_10 : am_allb (am_okq 10) mq_10 = true := by decide +kernel
theorem am_okl_10 : am_allb (am_okl 10) ml_10 = true := by decide +kernel
theorem am_okx_10 : am_allb (am_okx 10) ms_10 = true := by decide +kernel
theorem am_okn_10 : am_allb (am_okn 10) mn_10 = true := by decide +kernel
theorem am_okq_11 : am_allb (am_okq 11) mq_11 = true := by decide +kernel
theorem am_okl_11 : am_allb (am_okl 11) ml_11 = true := by decide +kernel
theorem am_okx_11 : am_allb (am_okx 11) ms_11 = true := by decide +kernel
theorem am_okn_11 : am_allb (am_okn 11) mn_11 = true := by decide +kernel
theorem am_cls_nf : ∀ ci, ci < 8 → (vwCl.getD ci (RX0, TX0, 0)).2.2 = am_nf ci ∧ (vwCl.getD ci (RX0, TX0, 0)).1 = am_cn ci := by decide +kernel
theorem am_in_0 : ∀ w ∈ u_ws RX0 TX0 3, w ∈ lw_tbl ∧ goodWord w = true := by decide +kernel
theorem am_in_1 : ∀ w ∈ u_ws RX1 TX1 15, w ∈ lw_tbl ∧ goodWord w = true := by decide +kernel
theorem am_in_2 : ∀ w ∈ u_ws RX2 TX2 3, w ∈ lw_tbl ∧ goodWord w = true := by decide +kernel
theorem am_in_3 : ∀ w ∈ u_ws RX3 TX3 7, w ∈ lw_tbl ∧ goodWord w = true := by decide +kernel
theorem am_in_4 : ∀ w ∈ u_ws RX4 TX4 5, w ∈ lw_tbl ∧ goodWord w = true := by decide +kernel
theorem am_in_5 : ∀ w ∈ u_ws RX5 TX5 8, w ∈ lw_tbl ∧ goodWord w = true := by decide +kernel
theorem am_in_6 : ∀ w ∈ u_ws RX6 TX6 10, w ∈ lw_tbl ∧ goodWord w = true := by decide +kernel
theorem am_in_7 : ∀ w ∈ u_ws RX7 TX7 30, w ∈ lw_tbl ∧ goodWord w = true := by decide +kernel
theorem am_ini_c : ∀ ci, ci < 8 → (Cond.instantiable (am_cn ci) (am_nf ci) ∈ lw_tbl ∧ Cond.initialized (am_cn ci) ∈ lw_tbl) := by decide +kernel
end
section
/-! ===== a method's frame on the machine, and what it owes ===== -/
def am_tys (G : am_G) : List (ClassId × FieldType) := [(am_ca G 100, .int), (am_ca G 101, .long), (am_ca G 102, .object RX4), (am_ca G 103, .object RX2), (am_ca G 104, .array .int)]
/-- the words of nest mates -/
def am_nes : List Cond := lw_tbl.filter (fun w => match w with | .methodLinkNest _ _ _ _ => true | _ => false)
def am_lens : List Nat := [7, 4, 4, 4, 5, 4]
def am_byts : List (List Int32) := [[99, 105, 114, 99, 108, 101, 115], [116, 105, 109, 101], [99, 111, 115, 116], [115, 104, 105, 112], [100, 114, 111, 112, 115], [115, 116, 101, 112]]
/-- the texts -/
def am_St (G : am_G) (A : Nat → Prop) (s : State) : Prop := vk_S 6 am_lens am_byts G.2.2.2.1 G.2.2.2.2 A s s.heap ∧ va_Z "java/lang/String" "COMPACT_STRINGS" "Z" (.int 1) A s s.heap ∧ ∀ (o idx k w : Nat), am_lk (am_ps.get o) idx = some (k, w) → vk_R (am_cn o) idx (am_txs.getD k "") (G.2.2.2.1 k) s
/-- the script -/
def am_Sc (G : am_G) (A : Nat → Prop) (sc : Nat × (Nat → Int)) (s : State) : Prop := va_X G.2.2.1 sc.1 (fun j => Int32.ofInt (sc.2 j)) s s.heap ∧ ¬ A G.2.2.1 ∧ G.2.2.1 < s.heap.size
def am_AO (s : State) : Prop := va_AO RX4 s ∧ va_AO RX2 s ∧ am_AOA .int s
def am_Cx (G : am_G) (mm : am_M) (A : Nat → Prop) (p : Program) (R : Room) (s : State) (m : MethodId) (args : Array Value) (meth : Method) (c : Code) (sc : Nat × (Nat → Int)) : Prop :=
  p.tables.exec = Jvm.exec ∧ c.code = am_by.get mm.1 ∧ c.maxLocals = am_max mm.1 ∧ s.vm.findClass (am_cn (am_own mm.1)) = some m.cls ∧ (∀ w ∈ am_wds, w.before args s = true) ∧ meth.sig.returnType = am_ty mm.1 ∧ meth.locks = false ∧ (mm.1 ∈ am_ctors → meth.name = "<init>") ∧ va_K G.1 vwCl (am_tys G) s ∧ (∀ w ∈ am_nes, va_Nw w s) ∧ am_St G A s ∧ am_rk mm ≤ R.frames ∧ 40 * am_rk mm ≤ R.locals ∧ (∀ q, s.heap.size ≤ q → A q) ∧ am_Sc G A sc s ∧ am_AO s
def am_sl (τ : List (Nat × Nat)) : Nat := (τ.map (fun q => q.2)).sum
/-- since the method's start nothing outside A has changed, and cells have only come -/
def am_VS (A : Nat → Prop) (H0 : Heap) (AD0 AD : List Nat) (H : Heap) (locs : List Loc) : Prop := va_S A H0 H locs ∧ AD0 <+: AD
/-- from every machine state that stands for this one the machine comes to Q -/
def am_J (G : am_G) (mm : am_M) (A : Nat → Prop) (p : Program) (l : Launch) (e : Env) (R : Room) (s : State) (m : MethodId) (args : Array Value) (below : List Frame) (meth : Method) (c : Code) (Q : State → Prop) (c0 s0 : Nat) (sc : Nat × (Nat → Int)) (AD0 : List Nat) (pc : Nat) (L : am_L) (S : List am_V) (ω : am_W) : Prop :=
  ∀ (AD : List Nat) (H : Heap) (locs : List Loc) (ls : Array Slot) (cells slots : Nat), am_Fr G AD (am_max mm.1) L ls → am_okL ω.1.length L → am_okS ω.1.length S → am_Rl G A AD ω H → am_VS A s.heap AD0 AD H locs → cells + c0 = ω.1.length → slots + s0 = am_sl ω.1 → ω.2.2 = sc → W p l e R s m args below meth c H locs cells slots Q (F0 m pc ls (S.map (am_mv G AD)))
section AJ
variable {G : am_G} {mm : am_M} {A : Nat → Prop} {p : Program} {l : Launch} {e : Env} {R : Room} {s : State} {m : MethodId} {args : Array Value} {below : List Frame} {meth : Method} {c : Code} {Q : State → Prop} {c0 s0 : Nat} {sc : Nat × (Nat → Int)} {AD0 : List Nat} {pc : Nat} {L : am_L} {S : List am_V} {ω : am_W}
theorem am_cat (G : am_G) (AD : List Nat) (z : Int) : (am_mr G AD z).category = 1 := by
  unfold am_mr
  split
  · rfl
  · split
    · rfl
    · split <;> rfl
theorem am_mr_or (G : am_G) (AD : List Nat) (z : Int) : (z = -1 ∧ am_mr G AD z = .null) ∨ (¬ z = -1 ∧ ∃ a, am_mr G AD z = .ref a) := by
  unfold am_mr
  by_cases h : z = -1
  · left
    subst h
    exact ⟨rfl, rfl⟩
  · right
    refine ⟨h, ?_⟩
    by_cases h0 : 0 ≤ z
    · exact ⟨_, if_pos h0⟩
    · rw [if_neg h0, if_neg h]
      by_cases h2 : z = -2
      · exact ⟨_, if_pos h2⟩
      · exact ⟨_, if_neg h2⟩
theorem aj_iconst {n : Int} (C : am_Cx G mm A p R s m args meth c sc) (h1 : -128 ≤ n) (h2 : n ≤ 127) (hd : decode (am_by.get mm.1) pc = .ok (.iconst n, 1)) (k : am_J G mm A p l e R s m args below meth c Q c0 s0 sc AD0 (pc + 1) L (.inl n :: S) ω) : am_J G mm A p l e R s m args below meth c Q c0 s0 sc AD0 pc L (S) ω := by
  intro AD H locs ls cells slots hF hL hS hR hV hc hs hsc
  refine lv_iconst C.1 C.2.1 hd rfl ?_
  exact k AD H locs ls cells slots hF hL (am_okS_c (v := .inl n) (by show am_R32 n; unfold am_R32; omega) hS) hR hV hc hs hsc
theorem aj_bipush {n : Int} (C : am_Cx G mm A p R s m args meth c sc) (h1 : -128 ≤ n) (h2 : n ≤ 127) (hd : decode (am_by.get mm.1) pc = .ok (.bipush n, 2)) (k : am_J G mm A p l e R s m args below meth c Q c0 s0 sc AD0 (pc + 2) L (.inl n :: S) ω) : am_J G mm A p l e R s m args below meth c Q c0 s0 sc AD0 pc L (S) ω := by
  intro AD H locs ls cells slots hF hL hS hR hV hc hs hsc
  refine lv_bipush C.1 C.2.1 hd (nu_byte h1 h2) ?_
  exact k AD H locs ls cells slots hF hL (am_okS_c (v := .inl n) (by show am_R32 n; unfold am_R32; omega) hS) hR hV hc hs hsc
theorem aj_sipush {n : Int} (C : am_Cx G mm A p R s m args meth c sc) (h1 : -32768 ≤ n) (h2 : n ≤ 32767) (hd : decode (am_by.get mm.1) pc = .ok (.sipush n, 3)) (k : am_J G mm A p l e R s m args below meth c Q c0 s0 sc AD0 (pc + 3) L (.inl n :: S) ω) : am_J G mm A p l e R s m args below meth c Q c0 s0 sc AD0 pc L (S) ω := by
  intro AD H locs ls cells slots hF hL hS hR hV hc hs hsc
  refine lv_sipush C.1 C.2.1 hd (nu_short h1 h2) ?_
  exact k AD H locs ls cells slots hF hL (am_okS_c (v := .inl n) (by show am_R32 n; unfold am_R32; omega) hS) hR hV hc hs hsc
theorem aj_lconst {n : Fin 2} (C : am_Cx G mm A p R s m args meth c sc) (hd : decode (am_by.get mm.1) pc = .ok (.lconst n, 1)) (k : am_J G mm A p l e R s m args below meth c Q c0 s0 sc AD0 (pc + 1) L (.inr (.inl ((n : Nat) : Int)) :: S) ω) : am_J G mm A p l e R s m args below meth c Q c0 s0 sc AD0 pc L (S) ω := by
  intro AD H locs ls cells slots hF hL hS hR hV hc hs hsc
  refine lv_lconst C.1 C.2.1 hd rfl ?_
  exact k AD H locs ls cells slots hF hL (am_okS_c (v := .inr (.inl ((n : Nat) : Int))) (by show am_R64 _; unfold am_R64; omega) hS) hR hV hc hs hsc
theorem aj_iadd {a b : Int} (C : am_Cx G mm A p R s m args meth c sc) (hd : decode (am_by.get mm.1) pc = .ok (.iadd, 1)) (k : am_J G mm A p l e R s m args below meth c Q c0 s0 sc AD0 (pc + 1) L (.inl (am_w (a + b)) :: S) ω) : am_J G mm A p l e R s m args below meth c Q c0 s0 sc AD0 pc L (.inl b :: .inl a :: S) ω := by
  intro AD H locs ls cells slots hF hL hS hR hV hc hs hsc
  refine lv_iadd C.1 C.2.1 hd ?_
  rw [nu_add]
  exact k AD H locs ls cells slots hF hL (am_okS_c (v := .inl _) (nu_w _) (am_okS_t (am_okS_t hS))) hR hV hc hs hsc
theorem aj_isub {a b : Int} (C : am_Cx G mm A p R s m args meth c sc) (hd : decode (am_by.get mm.1) pc = .ok (.isub, 1)) (k : am_J G mm A p l e R s m args below meth c Q c0 s0 sc AD0 (pc + 1) L (.inl (am_w (a - b)) :: S) ω) : am_J G mm A p l e R s m args below meth c Q c0 s0 sc AD0 pc L (.inl b :: .inl a :: S) ω := by
  intro AD H locs ls cells slots hF hL hS hR hV hc hs hsc
  refine lv_isub C.1 C.2.1 hd ?_
  rw [nu_sub]
  exact k AD H locs ls cells slots hF hL (am_okS_c (v := .inl _) (nu_w _) (am_okS_t (am_okS_t hS))) hR hV hc hs hsc
theorem aj_imul {a b : Int} (C : am_Cx G mm A p R s m args meth c sc) (hd : decode (am_by.get mm.1) pc = .ok (.imul, 1)) (k : am_J G mm A p l e R s m args below meth c Q c0 s0 sc AD0 (pc + 1) L (.inl (am_w (a * b)) :: S) ω) : am_J G mm A p l e R s m args below meth c Q c0 s0 sc AD0 pc L (.inl b :: .inl a :: S) ω := by
  intro AD H locs ls cells slots hF hL hS hR hV hc hs hsc
  refine lv_imul C.1 C.2.1 hd ?_
  rw [nu_mul]
  exact k AD H locs ls cells slots hF hL (am_okS_c (v := .inl _) (nu_w _) (am_okS_t (am_okS_t hS))) hR hV hc hs hsc
theorem aj_iand {a b : Int} (C : am_Cx G mm A p R s m args meth c sc) (hd : decode (am_by.get mm.1) pc = .ok (.iand, 1)) (k : am_J G mm A p l e R s m args below meth c Q c0 s0 sc AD0 (pc + 1) L (.inl (am_and a b) :: S) ω) : am_J G mm A p l e R s m args below meth c Q c0 s0 sc AD0 pc L (.inl b :: .inl a :: S) ω := by
  intro AD H locs ls cells slots hF hL hS hR hV hc hs hsc
  refine lv_iand C.1 C.2.1 hd ?_
  rw [show Int32.ofInt a &&& Int32.ofInt b = Int32.ofInt (am_and a b) from (nu_back _).symm]
  exact k AD H locs ls cells slots hF hL (am_okS_c (v := .inl _) (nu_to _) (am_okS_t (am_okS_t hS))) hR hV hc hs hsc
theorem aj_ior {a b : Int} (C : am_Cx G mm A p R s m args meth c sc) (hd : decode (am_by.get mm.1) pc = .ok (.ior, 1)) (k : am_J G mm A p l e R s m args below meth c Q c0 s0 sc AD0 (pc + 1) L (.inl (am_or a b) :: S) ω) : am_J G mm A p l e R s m args below meth c Q c0 s0 sc AD0 pc L (.inl b :: .inl a :: S) ω := by
  intro AD H locs ls cells slots hF hL hS hR hV hc hs hsc
  refine lv_ior C.1 C.2.1 hd ?_
  rw [show Int32.ofInt a ||| Int32.ofInt b = Int32.ofInt (am_or a b) from (nu_back _).symm]
  exact k AD H locs ls cells slots hF hL (am_okS_c (v := .inl _) (nu_to _) (am_okS_t (am_okS_t hS))) hR hV hc hs hsc
theorem aj_ixor {a b : Int} (C : am_Cx G mm A p R s m args meth c sc) (hd : decode (am_by.get mm.1) pc = .ok (.ixor, 1)) (k : am_J G mm A p l e R s m args below meth c Q c0 s0 sc AD0 (pc + 1) L (.inl (am_xor a b) :: S) ω) : am_J G mm A p l e R s m args below meth c Q c0 s0 sc AD0 pc L (.inl b :: .inl a :: S) ω := by
  intro AD H locs ls cells slots hF hL hS hR hV hc hs hsc
  refine lv_ixor C.1 C.2.1 hd ?_
  rw [show Int32.ofInt a ^^^ Int32.ofInt b = Int32.ofInt (am_xor a b) from (nu_back _).symm]
  exact k AD H locs ls cells slots hF hL (am_okS_c (v := .inl _) (nu_to _) (am_okS_t (am_okS_t hS))) hR hV hc hs hsc
theorem aj_ishl {a b : Int} (C : am_Cx G mm A p R s m args meth c sc) (hd : decode (am_by.get mm.1) pc = .ok (.ishl, 1)) (k : am_J G mm A p l e R s m args below meth c Q c0 s0 sc AD0 (pc + 1) L (.inl (am_shl a b) :: S) ω) : am_J G mm A p l e R s m args below meth c Q c0 s0 sc AD0 pc L (.inl b :: .inl a :: S) ω := by
  intro AD H locs ls cells slots hF hL hS hR hV hc hs hsc
  refine lv_ishl C.1 C.2.1 hd ?_
  rw [show Int32.ofInt a <<< (Int32.ofInt b &&& 31) = Int32.ofInt (am_shl a b) from (nu_back _).symm]
  exact k AD H locs ls cells slots hF hL (am_okS_c (v := .inl _) (nu_to _) (am_okS_t (am_okS_t hS))) hR hV hc hs hsc
theorem aj_ishr {a b : Int} (C : am_Cx G mm A p R s m args meth c sc) (hd : decode (am_by.get mm.1) pc = .ok (.ishr, 1)) (k : am_J G mm A p l e R s m args below meth c Q c0 s0 sc AD0 (pc + 1) L (.inl (am_shr a b) :: S) ω) : am_J G mm A p l e R s m args below meth c Q c0 s0 sc AD0 pc L (.inl b :: .inl a :: S) ω := by
  intro AD H locs ls cells slots hF hL hS hR hV hc hs hsc
  refine lv_ishr C.1 C.2.1 hd ?_
  rw [show Int32.ofInt a >>> (Int32.ofInt b &&& 31) = Int32.ofInt (am_shr a b) from (nu_back _).symm]
  exact k AD H locs ls cells slots hF hL (am_okS_c (v := .inl _) (nu_to _) (am_okS_t (am_okS_t hS))) hR hV hc hs hsc
theorem aj_iushr {a b : Int} (C : am_Cx G mm A p R s m args meth c sc) (hd : decode (am_by.get mm.1) pc = .ok (.iushr, 1)) (k : am_J G mm A p l e R s m args below meth c Q c0 s0 sc AD0 (pc + 1) L (.inl (am_ushr a b) :: S) ω) : am_J G mm A p l e R s m args below meth c Q c0 s0 sc AD0 pc L (.inl b :: .inl a :: S) ω := by
  intro AD H locs ls cells slots hF hL hS hR hV hc hs hsc
  refine lv_iushr (v := Int32.ofInt (am_ushr a b)) C.1 C.2.1 hd (nu_back _).symm ?_
  exact k AD H locs ls cells slots hF hL (am_okS_c (v := .inl _) (nu_to _) (am_okS_t (am_okS_t hS))) hR hV hc hs hsc
theorem aj_idiv {a b : Int} (C : am_Cx G mm A p R s m args meth c sc) (h0 : ¬ b = 0) (hd : decode (am_by.get mm.1) pc = .ok (.idiv, 1)) (k : am_J G mm A p l e R s m args below meth c Q c0 s0 sc AD0 (pc + 1) L (.inl (am_w (a.tdiv b)) :: S) ω) : am_J G mm A p l e R s m args below meth c Q c0 s0 sc AD0 pc L (.inl b :: .inl a :: S) ω := by
  intro AD H locs ls cells slots hF hL hS hR hV hc hs hsc
  refine lv_idiv C.1 C.2.1 hd (nu_ne (am_okS_h hS) h0) ?_
  rw [nu_div (am_okS_h (am_okS_t hS)) (am_okS_h hS)]
  exact k AD H locs ls cells slots hF hL (am_okS_c (v := .inl _) (nu_w _) (am_okS_t (am_okS_t hS))) hR hV hc hs hsc
theorem aj_irem {a b : Int} (C : am_Cx G mm A p R s m args meth c sc) (h0 : ¬ b = 0) (hd : decode (am_by.get mm.1) pc = .ok (.irem, 1)) (k : am_J G mm A p l e R s m args below meth c Q c0 s0 sc AD0 (pc + 1) L (.inl (a.tmod b) :: S) ω) : am_J G mm A p l e R s m args below meth c Q c0 s0 sc AD0 pc L (.inl b :: .inl a :: S) ω := by
  intro AD H locs ls cells slots hF hL hS hR hV hc hs hsc
  refine lv_irem C.1 C.2.1 hd (nu_ne (am_okS_h hS) h0) ?_
  rw [nu_rem (am_okS_h (am_okS_t hS)) (am_okS_h hS)]
  exact k AD H locs ls cells slots hF hL (am_okS_c (v := .inl _) (nu_r32m (am_okS_h hS) h0) (am_okS_t (am_okS_t hS))) hR hV hc hs hsc
theorem aj_ineg {a : Int} (C : am_Cx G mm A p R s m args meth c sc) (hd : decode (am_by.get mm.1) pc = .ok (.ineg, 1)) (k : am_J G mm A p l e R s m args below meth c Q c0 s0 sc AD0 (pc + 1) L (.inl (am_w (-a)) :: S) ω) : am_J G mm A p l e R s m args below meth c Q c0 s0 sc AD0 pc L (.inl a :: S) ω := by
  intro AD H locs ls cells slots hF hL hS hR hV hc hs hsc
  refine lv_ineg C.1 C.2.1 hd ?_
  rw [nu_neg]
  exact k AD H locs ls cells slots hF hL (am_okS_c (v := .inl _) (nu_w _) (am_okS_t hS)) hR hV hc hs hsc
theorem aj_ladd {a b : Int} (C : am_Cx G mm A p R s m args meth c sc) (hd : decode (am_by.get mm.1) pc = .ok (.ladd, 1)) (k : am_J G mm A p l e R s m args below meth c Q c0 s0 sc AD0 (pc + 1) L (.inr (.inl (am_wl (a + b))) :: S) ω) : am_J G mm A p l e R s m args below meth c Q c0 s0 sc AD0 pc L (.inr (.inl b) :: .inr (.inl a) :: S) ω := by
  intro AD H locs ls cells slots hF hL hS hR hV hc hs hsc
  refine lv_ladd C.1 C.2.1 hd ?_
  rw [nu_addl]
  exact k AD H locs ls cells slots hF hL (am_okS_c (v := .inr (.inl _)) (nu_wl _) (am_okS_t (am_okS_t hS))) hR hV hc hs hsc
theorem aj_lmul {a b : Int} (C : am_Cx G mm A p R s m args meth c sc) (hd : decode (am_by.get mm.1) pc = .ok (.lmul, 1)) (k : am_J G mm A p l e R s m args below meth c Q c0 s0 sc AD0 (pc + 1) L (.inr (.inl (am_wl (a * b))) :: S) ω) : am_J G mm A p l e R s m args below meth c Q c0 s0 sc AD0 pc L (.inr (.inl b) :: .inr (.inl a) :: S) ω := by
  intro AD H locs ls cells slots hF hL hS hR hV hc hs hsc
  refine lv_lmul C.1 C.2.1 hd ?_
  rw [nu_mull]
  exact k AD H locs ls cells slots hF hL (am_okS_c (v := .inr (.inl _)) (nu_wl _) (am_okS_t (am_okS_t hS))) hR hV hc hs hsc
theorem aj_land {a b : Int} (C : am_Cx G mm A p R s m args meth c sc) (hd : decode (am_by.get mm.1) pc = .ok (.land, 1)) (k : am_J G mm A p l e R s m args below meth c Q c0 s0 sc AD0 (pc + 1) L (.inr (.inl (am_land a b)) :: S) ω) : am_J G mm A p l e R s m args below meth c Q c0 s0 sc AD0 pc L (.inr (.inl b) :: .inr (.inl a) :: S) ω := by
  intro AD H locs ls cells slots hF hL hS hR hV hc hs hsc
  refine lv_land C.1 C.2.1 hd ?_
  rw [show Int64.ofInt a &&& Int64.ofInt b = Int64.ofInt (am_land a b) from (nu_backl _).symm]
  exact k AD H locs ls cells slots hF hL (am_okS_c (v := .inr (.inl _)) (nu_tol _) (am_okS_t (am_okS_t hS))) hR hV hc hs hsc
theorem aj_lor {a b : Int} (C : am_Cx G mm A p R s m args meth c sc) (hd : decode (am_by.get mm.1) pc = .ok (.lor, 1)) (k : am_J G mm A p l e R s m args below meth c Q c0 s0 sc AD0 (pc + 1) L (.inr (.inl (am_lor a b)) :: S) ω) : am_J G mm A p l e R s m args below meth c Q c0 s0 sc AD0 pc L (.inr (.inl b) :: .inr (.inl a) :: S) ω := by
  intro AD H locs ls cells slots hF hL hS hR hV hc hs hsc
  refine lv_lor C.1 C.2.1 hd ?_
  rw [show Int64.ofInt a ||| Int64.ofInt b = Int64.ofInt (am_lor a b) from (nu_backl _).symm]
  exact k AD H locs ls cells slots hF hL (am_okS_c (v := .inr (.inl _)) (nu_tol _) (am_okS_t (am_okS_t hS))) hR hV hc hs hsc
theorem aj_lshl {a b : Int} (C : am_Cx G mm A p R s m args meth c sc) (hd : decode (am_by.get mm.1) pc = .ok (.lshl, 1)) (k : am_J G mm A p l e R s m args below meth c Q c0 s0 sc AD0 (pc + 1) L (.inr (.inl (am_lshl a b)) :: S) ω) : am_J G mm A p l e R s m args below meth c Q c0 s0 sc AD0 pc L (.inl b :: .inr (.inl a) :: S) ω := by
  intro AD H locs ls cells slots hF hL hS hR hV hc hs hsc
  refine lv_lshl (v := Int64.ofInt (am_lshl a b)) C.1 C.2.1 hd (nu_backl _).symm ?_
  exact k AD H locs ls cells slots hF hL (am_okS_c (v := .inr (.inl _)) (nu_tol _) (am_okS_t (am_okS_t hS))) hR hV hc hs hsc
theorem aj_ldiv {a b : Int} (C : am_Cx G mm A p R s m args meth c sc) (h0 : ¬ b = 0) (hd : decode (am_by.get mm.1) pc = .ok (.ldiv, 1)) (k : am_J G mm A p l e R s m args below meth c Q c0 s0 sc AD0 (pc + 1) L (.inr (.inl (am_wl (a.tdiv b))) :: S) ω) : am_J G mm A p l e R s m args below meth c Q c0 s0 sc AD0 pc L (.inr (.inl b) :: .inr (.inl a) :: S) ω := by
  intro AD H locs ls cells slots hF hL hS hR hV hc hs hsc
  refine lv_ldiv C.1 C.2.1 hd (nu_nel (am_okS_h hS) h0) ?_
  rw [nu_divl (am_okS_h (am_okS_t hS)) (am_okS_h hS)]
  exact k AD H locs ls cells slots hF hL (am_okS_c (v := .inr (.inl _)) (nu_wl _) (am_okS_t (am_okS_t hS))) hR hV hc hs hsc
theorem aj_lrem {a b : Int} (C : am_Cx G mm A p R s m args meth c sc) (h0 : ¬ b = 0) (hd : decode (am_by.get mm.1) pc = .ok (.lrem, 1)) (k : am_J G mm A p l e R s m args below meth c Q c0 s0 sc AD0 (pc + 1) L (.inr (.inl (a.tmod b)) :: S) ω) : am_J G mm A p l e R s m args below meth c Q c0 s0 sc AD0 pc L (.inr (.inl b) :: .inr (.inl a) :: S) ω := by
  intro AD H locs ls cells slots hF hL hS hR hV hc hs hsc
  refine lv_lrem C.1 C.2.1 hd (nu_nel (am_okS_h hS) h0) ?_
  rw [nu_reml (am_okS_h (am_okS_t hS)) (am_okS_h hS)]
  exact k AD H locs ls cells slots hF hL (am_okS_c (v := .inr (.inl _)) (nu_r64m (am_okS_h hS) h0) (am_okS_t (am_okS_t hS))) hR hV hc hs hsc
theorem aj_lcmp {a b : Int} (C : am_Cx G mm A p R s m args meth c sc) (hd : decode (am_by.get mm.1) pc = .ok (.lcmp, 1)) (k : am_J G mm A p l e R s m args below meth c Q c0 s0 sc AD0 (pc + 1) L (.inl (am_cmp a b) :: S) ω) : am_J G mm A p l e R s m args below meth c Q c0 s0 sc AD0 pc L (.inr (.inl b) :: .inr (.inl a) :: S) ω := by
  intro AD H locs ls cells slots hF hL hS hR hV hc hs hsc
  refine W.lcmp C.1 C.2.1 hd ?_
  rw [nu_cmp (am_okS_h (am_okS_t hS)) (am_okS_h hS)]
  exact k AD H locs ls cells slots hF hL (am_okS_c (v := .inl _) (nu_rcmp _ _) (am_okS_t (am_okS_t hS))) hR hV hc hs hsc
theorem aj_i2l {a : Int} (C : am_Cx G mm A p R s m args meth c sc) (hd : decode (am_by.get mm.1) pc = .ok (.i2l, 1)) (k : am_J G mm A p l e R s m args below meth c Q c0 s0 sc AD0 (pc + 1) L (.inr (.inl a) :: S) ω) : am_J G mm A p l e R s m args below meth c Q c0 s0 sc AD0 pc L (.inl a :: S) ω := by
  intro AD H locs ls cells slots hF hL hS hR hV hc hs hsc
  refine lv_i2l C.1 C.2.1 hd (nu_i2l (am_okS_h hS)) ?_
  exact k AD H locs ls cells slots hF hL (am_okS_c (v := .inr (.inl _)) (by have := am_okS_h hS; have h : am_R32 a := this; unfold am_R32 at h; show am_R64 a; unfold am_R64; omega) (am_okS_t hS)) hR hV hc hs hsc
theorem aj_l2i {a : Int} (C : am_Cx G mm A p R s m args meth c sc) (hd : decode (am_by.get mm.1) pc = .ok (.l2i, 1)) (k : am_J G mm A p l e R s m args below meth c Q c0 s0 sc AD0 (pc + 1) L (.inl (am_w a) :: S) ω) : am_J G mm A p l e R s m args below meth c Q c0 s0 sc AD0 pc L (.inr (.inl a) :: S) ω := by
  intro AD H locs ls cells slots hF hL hS hR hV hc hs hsc
  refine lv_l2i C.1 C.2.1 hd (nu_l2i (am_okS_h hS)) ?_
  exact k AD H locs ls cells slots hF hL (am_okS_c (v := .inl _) (nu_w _) (am_okS_t hS)) hR hV hc hs hsc
theorem aj_i2b {a : Int} (C : am_Cx G mm A p R s m args meth c sc) (hd : decode (am_by.get mm.1) pc = .ok (.i2b, 1)) (k : am_J G mm A p l e R s m args below meth c Q c0 s0 sc AD0 (pc + 1) L (.inl (a.bmod 256) :: S) ω) : am_J G mm A p l e R s m args below meth c Q c0 s0 sc AD0 pc L (.inl a :: S) ω := by
  intro AD H locs ls cells slots hF hL hS hR hV hc hs hsc
  refine lv_i2b C.1 C.2.1 hd (nu_i2b (am_okS_h hS)) ?_
  exact k AD H locs ls cells slots hF hL (am_okS_c (v := .inl _) (nu_b 256 (by decide) (by decide)) (am_okS_t hS)) hR hV hc hs hsc
theorem aj_i2s {a : Int} (C : am_Cx G mm A p R s m args meth c sc) (hd : decode (am_by.get mm.1) pc = .ok (.i2s, 1)) (k : am_J G mm A p l e R s m args below meth c Q c0 s0 sc AD0 (pc + 1) L (.inl (a.bmod 65536) :: S) ω) : am_J G mm A p l e R s m args below meth c Q c0 s0 sc AD0 pc L (.inl a :: S) ω := by
  intro AD H locs ls cells slots hF hL hS hR hV hc hs hsc
  refine lv_i2s C.1 C.2.1 hd (nu_i2s (am_okS_h hS)) ?_
  exact k AD H locs ls cells slots hF hL (am_okS_c (v := .inl _) (nu_b 65536 (by decide) (by decide)) (am_okS_t hS)) hR hV hc hs hsc
theorem aj_dupi {a : Int} (C : am_Cx G mm A p R s m args meth c sc) (hd : decode (am_by.get mm.1) pc = .ok (.dup, 1)) (k : am_J G mm A p l e R s m args below meth c Q c0 s0 sc AD0 (pc + 1) L (.inl a :: .inl a :: S) ω) : am_J G mm A p l e R s m args below meth c Q c0 s0 sc AD0 pc L (.inl a :: S) ω := by
  intro AD H locs ls cells slots hF hL hS hR hV hc hs hsc
  refine lv_dup C.1 C.2.1 hd rfl ?_
  exact k AD H locs ls cells slots hF hL (am_okS_c (am_okS_h hS) hS) hR hV hc hs hsc
theorem aj_dupr {a : Int} (C : am_Cx G mm A p R s m args meth c sc) (hd : decode (am_by.get mm.1) pc = .ok (.dup, 1)) (k : am_J G mm A p l e R s m args below meth c Q c0 s0 sc AD0 (pc + 1) L (.inr (.inr a) :: .inr (.inr a) :: S) ω) : am_J G mm A p l e R s m args below meth c Q c0 s0 sc AD0 pc L (.inr (.inr a) :: S) ω := by
  intro AD H locs ls cells slots hF hL hS hR hV hc hs hsc
  refine lv_dup C.1 C.2.1 hd (am_cat _ _ _) ?_
  exact k AD H locs ls cells slots hF hL (am_okS_c (am_okS_h hS) hS) hR hV hc hs hsc
theorem aj_dup_x1 {a r : Int} (C : am_Cx G mm A p R s m args meth c sc) (hd : decode (am_by.get mm.1) pc = .ok (.dup_x1, 1)) (k : am_J G mm A p l e R s m args below meth c Q c0 s0 sc AD0 (pc + 1) L (.inl a :: .inr (.inr r) :: .inl a :: S) ω) : am_J G mm A p l e R s m args below meth c Q c0 s0 sc AD0 pc L (.inl a :: .inr (.inr r) :: S) ω := by
  intro AD H locs ls cells slots hF hL hS hR hV hc hs hsc
  refine lv_dup_x1 C.1 C.2.1 hd rfl (am_cat _ _ _) ?_
  exact k AD H locs ls cells slots hF hL (am_okS_c (am_okS_h hS) (am_okS_c (am_okS_h (am_okS_t hS)) (am_okS_c (am_okS_h hS) (am_okS_t (am_okS_t hS))))) hR hV hc hs hsc
theorem aj_dup2 {a r : Int} (C : am_Cx G mm A p R s m args meth c sc) (hd : decode (am_by.get mm.1) pc = .ok (.dup2, 1)) (k : am_J G mm A p l e R s m args below meth c Q c0 s0 sc AD0 (pc + 1) L (.inl a :: .inr (.inr r) :: .inl a :: .inr (.inr r) :: S) ω) : am_J G mm A p l e R s m args below meth c Q c0 s0 sc AD0 pc L (.inl a :: .inr (.inr r) :: S) ω := by
  intro AD H locs ls cells slots hF hL hS hR hV hc hs hsc
  refine lv_dup2_11 C.1 C.2.1 hd rfl (am_cat _ _ _) ?_
  exact k AD H locs ls cells slots hF hL (am_okS_c (am_okS_h hS) (am_okS_c (am_okS_h (am_okS_t hS)) hS)) hR hV hc hs hsc
theorem aj_popi {a : Int} (C : am_Cx G mm A p R s m args meth c sc) (hd : decode (am_by.get mm.1) pc = .ok (.pop, 1)) (k : am_J G mm A p l e R s m args below meth c Q c0 s0 sc AD0 (pc + 1) L (S) ω) : am_J G mm A p l e R s m args below meth c Q c0 s0 sc AD0 pc L (.inl a :: S) ω := by
  intro AD H locs ls cells slots hF hL hS hR hV hc hs hsc
  refine lv_pop C.1 C.2.1 hd rfl ?_
  exact k AD H locs ls cells slots hF hL (am_okS_t hS) hR hV hc hs hsc
theorem aj_popr {a : Int} (C : am_Cx G mm A p R s m args meth c sc) (hd : decode (am_by.get mm.1) pc = .ok (.pop, 1)) (k : am_J G mm A p l e R s m args below meth c Q c0 s0 sc AD0 (pc + 1) L (S) ω) : am_J G mm A p l e R s m args below meth c Q c0 s0 sc AD0 pc L (.inr (.inr a) :: S) ω := by
  intro AD H locs ls cells slots hF hL hS hR hV hc hs hsc
  refine lv_pop C.1 C.2.1 hd (am_cat _ _ _) ?_
  exact k AD H locs ls cells slots hF hL (am_okS_t hS) hR hV hc hs hsc
theorem aj_iload_n {k0 : Fin 4} {z : Int} (C : am_Cx G mm A p R s m args meth c sc) (hd : decode (am_by.get mm.1) pc = .ok (.iload_n k0, 1)) (hl : L[(k0 : Nat)]? = some (some (.inl z))) (k : am_J G mm A p l e R s m args below meth c Q c0 s0 sc AD0 (pc + 1) L (.inl z :: S) ω) : am_J G mm A p l e R s m args below meth c Q c0 s0 sc AD0 pc L S ω := by
  intro AD H locs ls cells slots hF hL hS hR hV hc hs hsc
  have h1 := hF.2.2.2 _ _ hl
  have h2 := hL _ _ hl
  refine lv_iload_n C.1 C.2.1 hd rfl h1 ?_
  exact k AD H locs ls cells slots hF hL (am_okS_c h2 hS) hR hV hc hs hsc
theorem aj_iload {k0 : Nat} {z : Int} (C : am_Cx G mm A p R s m args meth c sc) (hd : decode (am_by.get mm.1) pc = .ok (.iload k0, 2)) (hl : L[k0]? = some (some (.inl z))) (k : am_J G mm A p l e R s m args below meth c Q c0 s0 sc AD0 (pc + 2) L (.inl z :: S) ω) : am_J G mm A p l e R s m args below meth c Q c0 s0 sc AD0 pc L S ω := by
  intro AD H locs ls cells slots hF hL hS hR hV hc hs hsc
  have h1 := hF.2.2.2 _ _ hl
  have h2 := hL _ _ hl
  refine lv_iload C.1 C.2.1 hd h1 ?_
  exact k AD H locs ls cells slots hF hL (am_okS_c h2 hS) hR hV hc hs hsc
theorem aj_lload_n {k0 : Fin 4} {z : Int} (C : am_Cx G mm A p R s m args meth c sc) (hd : decode (am_by.get mm.1) pc = .ok (.lload_n k0, 1)) (hl : L[(k0 : Nat)]? = some (some (.inr (.inl z)))) (k : am_J G mm A p l e R s m args below meth c Q c0 s0 sc AD0 (pc + 1) L (.inr (.inl z) :: S) ω) : am_J G mm A p l e R s m args below meth c Q c0 s0 sc AD0 pc L S ω := by
  intro AD H locs ls cells slots hF hL hS hR hV hc hs hsc
  have h1 := hF.2.2.2 _ _ hl
  have h2 := hL _ _ hl
  refine lv_lload_n C.1 C.2.1 hd rfl h1 ?_
  exact k AD H locs ls cells slots hF hL (am_okS_c h2 hS) hR hV hc hs hsc
theorem aj_lload {k0 : Nat} {z : Int} (C : am_Cx G mm A p R s m args meth c sc) (hd : decode (am_by.get mm.1) pc = .ok (.lload k0, 2)) (hl : L[k0]? = some (some (.inr (.inl z)))) (k : am_J G mm A p l e R s m args below meth c Q c0 s0 sc AD0 (pc + 2) L (.inr (.inl z) :: S) ω) : am_J G mm A p l e R s m args below meth c Q c0 s0 sc AD0 pc L S ω := by
  intro AD H locs ls cells slots hF hL hS hR hV hc hs hsc
  have h1 := hF.2.2.2 _ _ hl
  have h2 := hL _ _ hl
  refine lv_lload C.1 C.2.1 hd h1 ?_
  exact k AD H locs ls cells slots hF hL (am_okS_c h2 hS) hR hV hc hs hsc
theorem aj_aload_n {k0 : Fin 4} {z : Int} (C : am_Cx G mm A p R s m args meth c sc) (hd : decode (am_by.get mm.1) pc = .ok (.aload_n k0, 1)) (hl : L[(k0 : Nat)]? = some (some (.inr (.inr z)))) (k : am_J G mm A p l e R s m args below meth c Q c0 s0 sc AD0 (pc + 1) L (.inr (.inr z) :: S) ω) : am_J G mm A p l e R s m args below meth c Q c0 s0 sc AD0 pc L S ω := by
  intro AD H locs ls cells slots hF hL hS hR hV hc hs hsc
  have h1 := hF.2.2.2 _ _ hl
  have h2 := hL _ _ hl
  have k2 := k AD H locs ls cells slots hF hL (am_okS_c h2 hS) hR hV hc hs hsc
  have h1 : ls[(k0 : Nat)]? = some (Slot.val (am_mr G AD z)) := h1
  have k2 : W p l e R s m args below meth c H locs cells slots Q (F0 m (pc + 1) ls (am_mr G AD z :: S.map (am_mv G AD))) := k2
  rcases am_mr_or G AD z with ⟨-, hv⟩ | ⟨-, a, hv⟩
  · rw [hv] at h1 k2
    exact lv_aload_nN C.1 C.2.1 hd rfl h1 k2
  · rw [hv] at h1 k2
    exact lv_aload_n C.1 C.2.1 hd rfl h1 k2
theorem aj_aload {k0 : Nat} {z : Int} (C : am_Cx G mm A p R s m args meth c sc) (hd : decode (am_by.get mm.1) pc = .ok (.aload k0, 2)) (hl : L[k0]? = some (some (.inr (.inr z)))) (k : am_J G mm A p l e R s m args below meth c Q c0 s0 sc AD0 (pc + 2) L (.inr (.inr z) :: S) ω) : am_J G mm A p l e R s m args below meth c Q c0 s0 sc AD0 pc L S ω := by
  intro AD H locs ls cells slots hF hL hS hR hV hc hs hsc
  have h1 := hF.2.2.2 _ _ hl
  have h2 := hL _ _ hl
  have k2 := k AD H locs ls cells slots hF hL (am_okS_c h2 hS) hR hV hc hs hsc
  have h1 : ls[k0]? = some (Slot.val (am_mr G AD z)) := h1
  have k2 : W p l e R s m args below meth c H locs cells slots Q (F0 m (pc + 2) ls (am_mr G AD z :: S.map (am_mv G AD))) := k2
  rcases am_mr_or G AD z with ⟨-, hv⟩ | ⟨-, a, hv⟩
  · rw [hv] at h1 k2
    exact lv_aloadN C.1 C.2.1 hd h1 k2
  · rw [hv] at h1 k2
    exact lv_aload C.1 C.2.1 hd h1 k2
/-- the places that hold something -/
def am_ents (G : am_G) (AD : List Nat) (L : am_L) : List (Nat × Value) := (List.range L.length).filterMap (fun k => match L[k]? with | some (some v) => some (k, am_mv G AD v) | _ => none)
theorem am_ents_in {AD : List Nat} {k : Nat} {v : am_V} (h : L[k]? = some (some v)) : (k, am_mv G AD v) ∈ am_ents G AD L := by
  unfold am_ents
  refine List.mem_filterMap.mpr ⟨k, List.mem_range.mpr (List.getElem?_eq_some_iff.mp h).1, ?_⟩
  rw [h]
theorem am_ents_of {AD : List Nat} {q : Nat × Value} (h : q ∈ am_ents G AD L) : ∃ v, L[q.1]? = some (some v) ∧ q.2 = am_mv G AD v := by
  unfold am_ents at h
  obtain ⟨k, -, hk⟩ := List.mem_filterMap.mp h
  cases hv : L[k]? with
  | none => rw [hv] at hk; cases hk
  | some w =>
    rw [hv] at hk
    cases w with
    | none => cases hk
    | some v =>
      have e : (k, am_mv G AD v) = q := Option.some.inj hk
      subst e
      exact ⟨v, hv, rfl⟩
theorem am_Fr_has {AD : List Nat} {nL : Nat} {ls : Array Slot} (h : am_Fr G AD nL L ls) : lv_has ls nL (am_ents G AD L) := ⟨h.2.1, h.2.2.1, fun q hq => by
  obtain ⟨v, h1, h2⟩ := am_ents_of hq
  rw [h2]
  exact h.2.2.2 _ _ h1⟩
theorem am_prev_no {k : Nat} (h : am_prev L k = false) {i : Nat} {v : am_V} (hi : L[i]? = some (some v)) (e : i + 1 = k) : ∀ z, v ≠ .inr (.inl z) := by
  subst e
  intro z hz
  subst hz
  have h : am_isl L[i]? = false := h
  rw [hi] at h
  cases h
theorem am_cat1 {AD : List Nat} {v : am_V} (h : ∀ z, v ≠ .inr (.inl z)) : (am_mv G AD v).category = 1 := by
  rcases v with z | z | z
  · rfl
  · exact absurd rfl (h z)
  · exact am_cat _ _ _
theorem am_sto_of {k : Nat} {v : am_V} {L' : am_L} (h : am_sto L k v = some L') : k < L.length ∧ am_prev L k = false ∧ L' = L.set k (some v) := by
  unfold am_sto at h
  split at h
  · rename_i hc
    simp only [Bool.and_eq_true, decide_eq_true_eq, Bool.not_eq_true'] at hc
    exact ⟨hc.1, hc.2, (Option.some.inj h).symm⟩
  · cases h
theorem am_stl_of {k : Nat} {v : am_V} {L' : am_L} (h : am_stl L k v = some L') : k + 1 < L.length ∧ am_prev L k = false ∧ L' = (L.set k (some v)).set (k + 1) none := by
  unfold am_stl at h
  split at h
  · rename_i hc
    simp only [Bool.and_eq_true, decide_eq_true_eq, Bool.not_eq_true'] at hc
    exact ⟨hc.1, hc.2, (Option.some.inj h).symm⟩
  · cases h
theorem am_Fr_sto {AD : List Nat} {nL k : Nat} {v : am_V} {L' : am_L} {ls ls' : Array Slot} (hF : am_Fr G AD nL L ls) (h : am_sto L k v = some L') (h' : lv_has ls' nL ((k, am_mv G AD v) :: (am_ents G AD L).filter (fun q => !(q.1 == k) && !(q.1 + 1 == k && q.2.category == 2)))) : am_Fr G AD nL L' ls' := by
  obtain ⟨h1, h2, rfl⟩ := am_sto_of h
  refine ⟨by rw [List.length_set]; exact hF.1, h'.1, h'.2.1, fun i w hi => ?_⟩
  by_cases e : i = k
  · subst e
    rw [List.getElem?_set_self h1] at hi
    have e2 : v = w := by simpa using hi
    subst e2
    exact h'.2.2 _ List.mem_cons_self
  · rw [List.getElem?_set_ne (fun z => e z.symm)] at hi
    refine h'.2.2 (i, am_mv G AD w) (List.mem_cons_of_mem _ (List.mem_filter.mpr ⟨am_ents_in hi, ?_⟩))
    have e1 : (i == k) = false := by simpa using e
    by_cases e3 : i + 1 = k
    · have hc := am_cat1 (G := G) (AD := AD) (am_prev_no h2 hi e3)
      simp [e1, hc]
    · simp [e1, e3]
theorem am_okL_sto {n k : Nat} {v : am_V} {L' : am_L} (hL : am_okL n L) (hv : am_okv n v) (h : am_sto L k v = some L') : am_okL n L' := by
  obtain ⟨h1, h2, rfl⟩ := am_sto_of h
  intro i w hi
  by_cases e : i = k
  · subst e
    rw [List.getElem?_set_self h1] at hi
    have e2 : v = w := by simpa using hi
    subst e2
    exact hv
  · rw [List.getElem?_set_ne (fun z => e z.symm)] at hi
    exact hL i w hi
theorem am_Fr_stl {AD : List Nat} {nL k : Nat} {v : am_V} {L' : am_L} {ls ls' : Array Slot} (hF : am_Fr G AD nL L ls) (h : am_stl L k v = some L') (h' : lv_has ls' nL ((k, am_mv G AD v) :: (am_ents G AD L).filter (fun q => !(q.1 == k) && (!(q.1 == k + 1) && !(q.1 + 1 == k && q.2.category == 2))))) : am_Fr G AD nL L' ls' := by
  obtain ⟨h1, h2, rfl⟩ := am_stl_of h
  refine ⟨by rw [List.length_set, List.length_set]; exact hF.1, h'.1, h'.2.1, fun i w hi => ?_⟩
  by_cases e5 : i = k + 1
  · subst e5
    rw [List.getElem?_set_self (by rw [List.length_set]; exact h1)] at hi
    simp at hi
  · rw [List.getElem?_set_ne (fun z => e5 z.symm)] at hi
    by_cases e : i = k
    · subst e
      rw [List.getElem?_set_self (by omega)] at hi
      have e2 : v = w := by simpa using hi
      subst e2
      exact h'.2.2 _ List.mem_cons_self
    · rw [List.getElem?_set_ne (fun z => e z.symm)] at hi
      refine h'.2.2 (i, am_mv G AD w) (List.mem_cons_of_mem _ (List.mem_filter.mpr ⟨am_ents_in hi, ?_⟩))
      have e1 : (i == k) = false := by simpa using e
      have e4 : (i == k + 1) = false := by simpa using e5
      by_cases e3 : i + 1 = k
      · have hc := am_cat1 (G := G) (AD := AD) (am_prev_no h2 hi e3)
        simp [e1, e4, hc]
      · simp [e1, e4, e3]
theorem am_okL_stl {n k : Nat} {v : am_V} {L' : am_L} (hL : am_okL n L) (hv : am_okv n v) (h : am_stl L k v = some L') : am_okL n L' := by
  obtain ⟨h1, h2, rfl⟩ := am_stl_of h
  intro i w hi
  by_cases e5 : i = k + 1
  · subst e5
    rw [List.getElem?_set_self (by rw [List.length_set]; exact h1)] at hi
    simp at hi
  · rw [List.getElem?_set_ne (fun z => e5 z.symm)] at hi
    by_cases e : i = k
    · subst e
      rw [List.getElem?_set_self (by omega)] at hi
      have e2 : v = w := by simpa using hi
      subst e2
      exact hv
    · rw [List.getElem?_set_ne (fun z => e z.symm)] at hi
      exact hL i w hi
theorem aj_istore_n {k0 : Fin 4} {z : Int} {L' : am_L} (C : am_Cx G mm A p R s m args meth c sc) (hd : decode (am_by.get mm.1) pc = .ok (.istore_n k0, 1)) (hl : am_sto L (k0 : Nat) (.inl z) = some L') (k : am_J G mm A p l e R s m args below meth c Q c0 s0 sc AD0 (pc + 1) L' S ω) : am_J G mm A p l e R s m args below meth c Q c0 s0 sc AD0 pc L (.inl z :: S) ω := by
  intro AD H locs ls cells slots hF hL hS hR hV hc hs hsc
  have hlt := (am_sto_of hl).1
  rw [hF.1] at hlt
  refine lv_istore_n C.1 C.2.1 hd rfl (am_Fr_has hF) hlt rfl (fun ls' hl' => ?_)
  exact k AD H locs ls' cells slots (am_Fr_sto hF hl hl') (am_okL_sto hL (am_okS_h hS) hl) (am_okS_t hS) hR hV hc hs hsc
theorem aj_istore {k0 : Nat} {z : Int} {L' : am_L} (C : am_Cx G mm A p R s m args meth c sc) (hd : decode (am_by.get mm.1) pc = .ok (.istore k0, 2)) (hl : am_sto L k0 (.inl z) = some L') (k : am_J G mm A p l e R s m args below meth c Q c0 s0 sc AD0 (pc + 2) L' S ω) : am_J G mm A p l e R s m args below meth c Q c0 s0 sc AD0 pc L (.inl z :: S) ω := by
  intro AD H locs ls cells slots hF hL hS hR hV hc hs hsc
  have hlt := (am_sto_of hl).1
  rw [hF.1] at hlt
  refine lv_istore C.1 C.2.1 hd (am_Fr_has hF) hlt rfl (fun ls' hl' => ?_)
  exact k AD H locs ls' cells slots (am_Fr_sto hF hl hl') (am_okL_sto hL (am_okS_h hS) hl) (am_okS_t hS) hR hV hc hs hsc
theorem aj_lstore_n {k0 : Fin 4} {z : Int} {L' : am_L} (C : am_Cx G mm A p R s m args meth c sc) (hd : decode (am_by.get mm.1) pc = .ok (.lstore_n k0, 1)) (hl : am_stl L (k0 : Nat) (.inr (.inl z)) = some L') (k : am_J G mm A p l e R s m args below meth c Q c0 s0 sc AD0 (pc + 1) L' S ω) : am_J G mm A p l e R s m args below meth c Q c0 s0 sc AD0 pc L (.inr (.inl z) :: S) ω := by
  intro AD H locs ls cells slots hF hL hS hR hV hc hs hsc
  have hlt := (am_stl_of hl).1
  rw [hF.1] at hlt
  refine lv_lstore_n C.1 C.2.1 hd rfl (am_Fr_has hF) hlt rfl (fun ls' hl' => ?_)
  exact k AD H locs ls' cells slots (am_Fr_stl hF hl hl') (am_okL_stl hL (am_okS_h hS) hl) (am_okS_t hS) hR hV hc hs hsc
theorem aj_lstore {k0 : Nat} {z : Int} {L' : am_L} (C : am_Cx G mm A p R s m args meth c sc) (hd : decode (am_by.get mm.1) pc = .ok (.lstore k0, 2)) (hl : am_stl L k0 (.inr (.inl z)) = some L') (k : am_J G mm A p l e R s m args below meth c Q c0 s0 sc AD0 (pc + 2) L' S ω) : am_J G mm A p l e R s m args below meth c Q c0 s0 sc AD0 pc L (.inr (.inl z) :: S) ω := by
  intro AD H locs ls cells slots hF hL hS hR hV hc hs hsc
  have hlt := (am_stl_of hl).1
  rw [hF.1] at hlt
  refine lv_lstore C.1 C.2.1 hd (am_Fr_has hF) hlt rfl (fun ls' hl' => ?_)
  exact k AD H locs ls' cells slots (am_Fr_stl hF hl hl') (am_okL_stl hL (am_okS_h hS) hl) (am_okS_t hS) hR hV hc hs hsc
theorem aj_astore_n {k0 : Fin 4} {z : Int} {L' : am_L} (C : am_Cx G mm A p R s m args meth c sc) (hd : decode (am_by.get mm.1) pc = .ok (.astore_n k0, 1)) (hl : am_sto L (k0 : Nat) (.inr (.inr z)) = some L') (k : am_J G mm A p l e R s m args below meth c Q c0 s0 sc AD0 (pc + 1) L' S ω) : am_J G mm A p l e R s m args below meth c Q c0 s0 sc AD0 pc L (.inr (.inr z) :: S) ω := by
  intro AD H locs ls cells slots hF hL hS hR hV hc hs hsc
  have hlt := (am_sto_of hl).1
  rw [hF.1] at hlt
  show W p l e R s m args below meth c H locs cells slots Q (F0 m pc ls (am_mr G AD z :: S.map (am_mv G AD)))
  have kz := fun (ls' : Array Slot) (hl' : lv_has ls' (am_max mm.1) (((k0 : Nat), am_mr G AD z) :: (am_ents G AD L).filter (fun q => !(q.1 == (k0 : Nat)) && !(q.1 + 1 == (k0 : Nat) && q.2.category == 2)))) => k AD H locs ls' cells slots (am_Fr_sto hF hl hl') (am_okL_sto hL (am_okS_h hS) hl) (am_okS_t hS) hR hV hc hs hsc
  rcases am_mr_or G AD z with ⟨-, hv⟩ | ⟨-, a, hv⟩
  · rw [hv] at kz ⊢
    exact lv_astore_nN C.1 C.2.1 hd rfl (am_Fr_has hF) hlt rfl kz
  · rw [hv] at kz ⊢
    exact lv_astore_n C.1 C.2.1 hd rfl (am_Fr_has hF) hlt rfl kz
theorem aj_astore {k0 : Nat} {z : Int} {L' : am_L} (C : am_Cx G mm A p R s m args meth c sc) (hd : decode (am_by.get mm.1) pc = .ok (.astore k0, 2)) (hl : am_sto L k0 (.inr (.inr z)) = some L') (k : am_J G mm A p l e R s m args below meth c Q c0 s0 sc AD0 (pc + 2) L' S ω) : am_J G mm A p l e R s m args below meth c Q c0 s0 sc AD0 pc L (.inr (.inr z) :: S) ω := by
  intro AD H locs ls cells slots hF hL hS hR hV hc hs hsc
  have hlt := (am_sto_of hl).1
  rw [hF.1] at hlt
  show W p l e R s m args below meth c H locs cells slots Q (F0 m pc ls (am_mr G AD z :: S.map (am_mv G AD)))
  have kz := fun (ls' : Array Slot) (hl' : lv_has ls' (am_max mm.1) ((k0, am_mr G AD z) :: (am_ents G AD L).filter (fun q => !(q.1 == k0) && !(q.1 + 1 == k0 && q.2.category == 2)))) => k AD H locs ls' cells slots (am_Fr_sto hF hl hl') (am_okL_sto hL (am_okS_h hS) hl) (am_okS_t hS) hR hV hc hs hsc
  rcases am_mr_or G AD z with ⟨-, hv⟩ | ⟨-, a, hv⟩
  · rw [hv] at kz ⊢
    exact lv_astoreN C.1 C.2.1 hd (am_Fr_has hF) hlt rfl kz
  · rw [hv] at kz ⊢
    exact lv_astore C.1 C.2.1 hd (am_Fr_has hF) hlt rfl kz
theorem aj_iinc {k0 : Nat} {n z : Int} {L' : am_L} (C : am_Cx G mm A p R s m args meth c sc) (hd : decode (am_by.get mm.1) pc = .ok (.iinc k0 n, 3)) (h0 : L[k0]? = some (some (.inl z))) (hl : am_sto L k0 (.inl (am_w (z + n))) = some L') (k : am_J G mm A p l e R s m args below meth c Q c0 s0 sc AD0 (pc + 3) L' S ω) : am_J G mm A p l e R s m args below meth c Q c0 s0 sc AD0 pc L S ω := by
  intro AD H locs ls cells slots hF hL hS hR hV hc hs hsc
  have hlt := (am_sto_of hl).1
  rw [hF.1] at hlt
  obtain ⟨i, hi⟩ := List.getElem?_of_mem (am_ents_in (G := G) (AD := AD) h0)
  refine lv_iinc (v := Int32.ofInt (am_w (z + n))) C.1 C.2.1 hd (am_Fr_has hF) (k := i) hi (nu_add z n) hlt rfl (fun ls' hl' => ?_)
  exact k AD H locs ls' cells slots (am_Fr_sto hF hl hl') (am_okL_sto (v := .inl (am_w (z + n))) hL (nu_w _) hl) hS hR hV hc hs hsc
theorem aj_goto {off : Int} {t : Nat} (C : am_Cx G mm A p R s m args meth c sc) (hd : decode (am_by.get mm.1) pc = .ok (.goto off, 3)) (ht : (pc : Int) + off = (t : Int)) (k : am_J G mm A p l e R s m args below meth c Q c0 s0 sc AD0 t L S ω) : am_J G mm A p l e R s m args below meth c Q c0 s0 sc AD0 pc L S ω := by
  intro AD H locs ls cells slots hF hL hS hR hV hc hs hsc
  exact lv_goto C.1 C.2.1 hd ht (k AD H locs ls cells slots hF hL hS hR hV hc hs hsc)
theorem aj_if {cd : Jvm.ClassFile.Cond} {off a : Int} {t : Nat} (C : am_Cx G mm A p R s m args meth c sc) (hd : decode (am_by.get mm.1) pc = .ok (.ifCond cd off, 3)) (ht : (pc : Int) + off = (t : Int)) (k : am_J G mm A p l e R s m args below meth c Q c0 s0 sc AD0 (if am_cc cd a 0 = true then t else pc + 3) L S ω) : am_J G mm A p l e R s m args below meth c Q c0 s0 sc AD0 pc L (.inl a :: S) ω := by
  intro AD H locs ls cells slots hF hL hS hR hV hc hs hsc
  have ha : am_R32 a := am_okS_h hS
  have h0 : am_R32 0 := by unfold am_R32; omega
  have kk := k AD H locs ls cells slots hF hL (am_okS_t hS) hR hV hc hs hsc
  have z0 : (0 : Int32) = Int32.ofInt 0 := rfl
  cases cd
  case eq =>
    refine lv_if_eq C.1 C.2.1 hd ht (fun q => ?_) (fun q => ?_)
    · rw [z0] at q
      have q2 := (nu_eqi ha h0).mp (by first | exact q | exact (fun z => q z))
      rw [if_pos (by simp only [am_cc, decide_eq_true_eq]; exact q2)] at kk
      exact kk
    · rw [z0] at q
      rw [if_neg (by simp only [am_cc, decide_eq_true_eq]; first | exact fun z => q ((nu_eqi ha h0).mpr z) | exact fun z => (nu_eqi ha h0).mpr z q)] at kk
      exact kk
  case ne =>
    refine lv_if_ne C.1 C.2.1 hd ht (fun q => ?_) (fun q => ?_)
    · rw [z0] at q
      have q2 := (not_congr (nu_eqi ha h0)).mp (by first | exact q | exact (fun z => q z))
      rw [if_pos (by simp only [am_cc, decide_eq_true_eq]; exact q2)] at kk
      exact kk
    · rw [z0] at q
      rw [if_neg (by simp only [am_cc, decide_eq_true_eq]; first | exact fun z => q ((not_congr (nu_eqi ha h0)).mpr z) | exact fun z => (not_congr (nu_eqi ha h0)).mpr z q)] at kk
      exact kk
  case lt =>
    refine lv_if_lt C.1 C.2.1 hd ht (fun q => ?_) (fun q => ?_)
    · rw [z0] at q
      have q2 := (nu_lt ha h0).mp (by first | exact q | exact (fun z => q z))
      rw [if_pos (by simp only [am_cc, decide_eq_true_eq]; exact q2)] at kk
      exact kk
    · rw [z0] at q
      rw [if_neg (by simp only [am_cc, decide_eq_true_eq]; first | exact fun z => q ((nu_lt ha h0).mpr z) | exact fun z => (nu_lt ha h0).mpr z q)] at kk
      exact kk
  case ge =>
    refine lv_if_ge C.1 C.2.1 hd ht (fun q => ?_) (fun q => ?_)
    · rw [z0] at q
      have q2 := (nu_le h0 ha).mp (by first | exact q | exact (fun z => q z))
      rw [if_pos (by simp only [am_cc, decide_eq_true_eq]; exact q2)] at kk
      exact kk
    · rw [z0] at q
      rw [if_neg (by simp only [am_cc, decide_eq_true_eq]; first | exact fun z => q ((nu_le h0 ha).mpr z) | exact fun z => (nu_le h0 ha).mpr z q)] at kk
      exact kk
  case gt =>
    refine lv_if_gt C.1 C.2.1 hd ht (fun q => ?_) (fun q => ?_)
    · rw [z0] at q
      have q2 := (nu_lt h0 ha).mp (by first | exact q | exact (fun z => q z))
      rw [if_pos (by simp only [am_cc, decide_eq_true_eq]; exact q2)] at kk
      exact kk
    · rw [z0] at q
      rw [if_neg (by simp only [am_cc, decide_eq_true_eq]; first | exact fun z => q ((nu_lt h0 ha).mpr z) | exact fun z => (nu_lt h0 ha).mpr z q)] at kk
      exact kk
  case le =>
    refine lv_if_le C.1 C.2.1 hd ht (fun q => ?_) (fun q => ?_)
    · rw [z0] at q
      have q2 := (nu_le ha h0).mp (by first | exact q | exact (fun z => q z))
      rw [if_pos (by simp only [am_cc, decide_eq_true_eq]; exact q2)] at kk
      exact kk
    · rw [z0] at q
      rw [if_neg (by simp only [am_cc, decide_eq_true_eq]; first | exact fun z => q ((nu_le ha h0).mpr z) | exact fun z => (nu_le ha h0).mpr z q)] at kk
      exact kk
theorem aj_icmp {cd : Jvm.ClassFile.Cond} {off a b : Int} {t : Nat} (C : am_Cx G mm A p R s m args meth c sc) (hd : decode (am_by.get mm.1) pc = .ok (.if_icmp cd off, 3)) (ht : (pc : Int) + off = (t : Int)) (k : am_J G mm A p l e R s m args below meth c Q c0 s0 sc AD0 (if am_cc cd a b = true then t else pc + 3) L S ω) : am_J G mm A p l e R s m args below meth c Q c0 s0 sc AD0 pc L (.inl b :: .inl a :: S) ω := by
  intro AD H locs ls cells slots hF hL hS hR hV hc hs hsc
  have hb : am_R32 b := am_okS_h hS
  have ha : am_R32 a := am_okS_h (am_okS_t hS)
  have kk := k AD H locs ls cells slots hF hL (am_okS_t (am_okS_t hS)) hR hV hc hs hsc
  cases cd
  case eq =>
    refine lv_icmp_eq C.1 C.2.1 hd ht (fun q => ?_) (fun q => ?_)
    · have q2 := (nu_eqi ha hb).mp (by first | exact q | exact (fun z => q z))
      rw [if_pos (by simp only [am_cc, decide_eq_true_eq]; exact q2)] at kk
      exact kk
    · rw [if_neg (by simp only [am_cc, decide_eq_true_eq]; first | exact fun z => q ((nu_eqi ha hb).mpr z) | exact fun z => (nu_eqi ha hb).mpr z q)] at kk
      exact kk
  case ne =>
    refine lv_icmp_ne C.1 C.2.1 hd ht (fun q => ?_) (fun q => ?_)
    · have q2 := (not_congr (nu_eqi ha hb)).mp (by first | exact q | exact (fun z => q z))
      rw [if_pos (by simp only [am_cc, decide_eq_true_eq]; exact q2)] at kk
      exact kk
    · rw [if_neg (by simp only [am_cc, decide_eq_true_eq]; first | exact fun z => q ((not_congr (nu_eqi ha hb)).mpr z) | exact fun z => (not_congr (nu_eqi ha hb)).mpr z q)] at kk
      exact kk
  case lt =>
    refine lv_icmp_lt C.1 C.2.1 hd ht (fun q => ?_) (fun q => ?_)
    · have q2 := (nu_lt ha hb).mp (by first | exact q | exact (fun z => q z))
      rw [if_pos (by simp only [am_cc, decide_eq_true_eq]; exact q2)] at kk
      exact kk
    · rw [if_neg (by simp only [am_cc, decide_eq_true_eq]; first | exact fun z => q ((nu_lt ha hb).mpr z) | exact fun z => (nu_lt ha hb).mpr z q)] at kk
      exact kk
  case ge =>
    refine lv_icmp_ge C.1 C.2.1 hd ht (fun q => ?_) (fun q => ?_)
    · have q2 := (nu_le hb ha).mp (by first | exact q | exact (fun z => q z))
      rw [if_pos (by simp only [am_cc, decide_eq_true_eq]; exact q2)] at kk
      exact kk
    · rw [if_neg (by simp only [am_cc, decide_eq_true_eq]; first | exact fun z => q ((nu_le hb ha).mpr z) | exact fun z => (nu_le hb ha).mpr z q)] at kk
      exact kk
  case gt =>
    refine lv_icmp_gt C.1 C.2.1 hd ht (fun q => ?_) (fun q => ?_)
    · have q2 := (nu_lt hb ha).mp (by first | exact q | exact (fun z => q z))
      rw [if_pos (by simp only [am_cc, decide_eq_true_eq]; exact q2)] at kk
      exact kk
    · rw [if_neg (by simp only [am_cc, decide_eq_true_eq]; first | exact fun z => q ((nu_lt hb ha).mpr z) | exact fun z => (nu_lt hb ha).mpr z q)] at kk
      exact kk
  case le =>
    refine lv_icmp_le C.1 C.2.1 hd ht (fun q => ?_) (fun q => ?_)
    · have q2 := (nu_le ha hb).mp (by first | exact q | exact (fun z => q z))
      rw [if_pos (by simp only [am_cc, decide_eq_true_eq]; exact q2)] at kk
      exact kk
    · rw [if_neg (by simp only [am_cc, decide_eq_true_eq]; first | exact fun z => q ((nu_le ha hb).mpr z) | exact fun z => (nu_le ha hb).mpr z q)] at kk
      exact kk
theorem aj_ifnonnull {off r : Int} {t : Nat} (C : am_Cx G mm A p R s m args meth c sc) (hd : decode (am_by.get mm.1) pc = .ok (.ifnonnull off, 3)) (ht : (pc : Int) + off = (t : Int)) (k : am_J G mm A p l e R s m args below meth c Q c0 s0 sc AD0 (if decide (¬ r = -1) = true then t else pc + 3) L S ω) : am_J G mm A p l e R s m args below meth c Q c0 s0 sc AD0 pc L (.inr (.inr r) :: S) ω := by
  intro AD H locs ls cells slots hF hL hS hR hV hc hs hsc
  have kk := k AD H locs ls cells slots hF hL (am_okS_t hS) hR hV hc hs hsc
  show W p l e R s m args below meth c H locs cells slots Q (F0 m pc ls (am_mr G AD r :: S.map (am_mv G AD)))
  rcases am_mr_or G AD r with ⟨h, hv⟩ | ⟨h, a, hv⟩
  · rw [hv]
    rw [if_neg (by simp [h])] at kk
    exact lv_ifnonnullN C.1 C.2.1 hd kk
  · rw [hv]
    rw [if_pos (by simp [h])] at kk
    exact lv_ifnonnull C.1 C.2.1 hd ht kk
theorem aj_tableswitch {dflt lo hi off z : Int} {offs : Array Int} {t len : Nat} (C : am_Cx G mm A p R s m args meth c sc) (hd : decode (am_by.get mm.1) pc = .ok (.tableswitch dflt lo hi offs, len)) (ho : am_tsw dflt lo hi offs z = some off) (ht : (pc : Int) + off = (t : Int)) (k : am_J G mm A p l e R s m args below meth c Q c0 s0 sc AD0 t L S ω) : am_J G mm A p l e R s m args below meth c Q c0 s0 sc AD0 pc L (.inl z :: S) ω := by
  intro AD H locs ls cells slots hF hL hS hR hV hc hs hsc
  have hz : am_R32 z := am_okS_h hS
  have kk := k AD H locs ls cells slots hF hL (am_okS_t hS) hR hV hc hs hsc
  unfold am_tsw at ho
  by_cases h : z < lo ∨ hi < z
  · have e : (decide (z < lo) || decide (hi < z)) = true := by simpa using h
    rw [e] at ho
    have e2 : dflt = off := Option.some.inj ho
    subst e2
    exact lv_tableOut C.1 C.2.1 hd (by rw [nu_of hz]; exact h) ht kk
  · have e : (decide (z < lo) || decide (hi < z)) = false := by simpa using h
    rw [e] at ho
    exact lv_tableIn C.1 C.2.1 hd (by rw [nu_of hz]; omega) (by rw [nu_of hz]; omega) (by rw [nu_of hz]; exact ho) ht kk
end AJ
end
section
/-! ===== what the pools say, read off the checks ===== -/
theorem am_all_imp {α : Type} {P P' : α → Prop} (h : ∀ a, P a → P' a) : ∀ {t : Lean.RArray α}, am_all P t → am_all P' t
  | .leaf _, q => h _ q
  | .branch _ _ _, q => ⟨am_all_imp h q.1, am_all_imp h q.2⟩
def am_tokb : Nat → FieldType → Bool
  | 0, .int => true
  | 1, .boolean => true
  | 2, .object _ => true
  | 2, .array _ => true
  | _, _ => false
/-- a class of ours -/
def am_clsP (ci : Nat) (rr : vw_C) : Prop := vwCl[ci]? = some rr ∧ rr.2.2 = am_nf ci ∧ rr.1 = am_cn ci ∧ (∀ w ∈ u_ws rr.1 rr.2.1 rr.2.2, w ∈ am_wds) ∧ (∃ ty0 : Nat → FieldType, (∀ k, k < rr.2.2 → parseFieldDescriptor (rr.2.1 k).2.2.1 = some (ty0 k)) ∧ ∀ k, k < rr.2.2 → am_tokb (am_fk ci k) (ty0 k) = true) ∧ (∀ a, a < rr.2.2 → ∀ b, b < rr.2.2 → a ≠ b → (rr.2.1 a).2.1 ≠ (rr.2.1 b).2.1) ∧ ∀ k, k < rr.2.2 → ((rr.2.1 k).2.2.2 = !(Nat.beq ((am_fins.getD ci []).getD k 0) 0)) ∧ (rr.2.1 k).1 = am_cn ci
theorem am_cls_0 : am_clsP 0 (RX0, TX0, 3) := ⟨rfl, by decide +kernel, by decide +kernel, fun w h => List.mem_filter.mpr (am_in_0 w h), ⟨tyX0, tyX0_ok, by decide +kernel⟩, nmX0, by decide +kernel⟩
theorem am_cls_1 : am_clsP 1 (RX1, TX1, 15) := ⟨rfl, by decide +kernel, by decide +kernel, fun w h => List.mem_filter.mpr (am_in_1 w h), ⟨tyX1, tyX1_ok, by decide +kernel⟩, nmX1, by decide +kernel⟩
theorem am_cls_2 : am_clsP 2 (RX2, TX2, 3) := ⟨rfl, by decide +kernel, by decide +kernel, fun w h => List.mem_filter.mpr (am_in_2 w h), ⟨tyX2, tyX2_ok, by decide +kernel⟩, nmX2, by decide +kernel⟩
theorem am_cls_3 : am_clsP 3 (RX3, TX3, 7) := ⟨rfl, by decide +kernel, by decide +kernel, fun w h => List.mem_filter.mpr (am_in_3 w h), ⟨tyX3, tyX3_ok, by decide +kernel⟩, nmX3, by decide +kernel⟩
theorem am_cls_4 : am_clsP 4 (RX4, TX4, 5) := ⟨rfl, by decide +kernel, by decide +kernel, fun w h => List.mem_filter.mpr (am_in_4 w h), ⟨tyX4, tyX4_ok, by decide +kernel⟩, nmX4, by decide +kernel⟩
theorem am_cls_5 : am_clsP 5 (RX5, TX5, 8) := ⟨rfl, by decide +kernel, by decide +kernel, fun w h => List.mem_filter.mpr (am_in_5 w h), ⟨tyX5, tyX5_ok, by decide +kernel⟩, nmX5, by decide +kernel⟩
theorem am_cls_6 : am_clsP 6 (RX6, TX6, 10) := ⟨rfl, by decide +kernel, by decide +kernel, fun w h => List.mem_filter.mpr (am_in_6 w h), ⟨tyX6, tyX6_ok, by decide +kernel⟩, nmX6, by decide +kernel⟩
theorem am_cls_7 : am_clsP 7 (RX7, TX7, 30) := ⟨rfl, by decide +kernel, by decide +kernel, fun w h => List.mem_filter.mpr (am_in_7 w h), ⟨tyX7, tyX7_ok, by decide +kernel⟩, nmX7, by decide +kernel⟩
theorem am_cls {ci : Nat} (h : ci < 8) : ∃ rr, am_clsP ci rr := match ci, h with
  | 0, _ => ⟨_, am_cls_0⟩
  | 1, _ => ⟨_, am_cls_1⟩
  | 2, _ => ⟨_, am_cls_2⟩
  | 3, _ => ⟨_, am_cls_3⟩
  | 4, _ => ⟨_, am_cls_4⟩
  | 5, _ => ⟨_, am_cls_5⟩
  | 6, _ => ⟨_, am_cls_6⟩
  | 7, _ => ⟨_, am_cls_7⟩
  | n + 8, h => absurd h (by omega)
theorem am_own_lt (b : Nat) : am_own b < 12 := of_decide_eq_true (am_all_get (am_allb_all (f := fun q => decide (q.1 < 12)) (show am_allb _ am_mt = true by decide +kernel)) b)
theorem am_okf_o {o : Nat} (h : o < 12) : am_allb (am_okf o) (am_pf.get o) = true := match o, h with
  | 0, _ => am_okf_0
  | 1, _ => am_okf_1
  | 2, _ => am_okf_2
  | 3, _ => am_okf_3
  | 4, _ => am_okf_4
  | 5, _ => am_okf_5
  | 6, _ => am_okf_6
  | 7, _ => am_okf_7
  | 8, _ => am_okf_8
  | 9, _ => am_okf_9
  | 10, _ => am_okf_10
  | 11, _ => am_okf_11
  | n + 12, h => absurd h (by omega)
theorem am_okp_o {o : Nat} (h : o < 12) : am_allb (am_okp o) (am_pm.get o) = true := match o, h with
  | 0, _ => am_okp_0
  | 1, _ => am_okp_1
  | 2, _ => am_okp_2
  | 3, _ => am_okp_3
  | 4, _ => am_okp_4
  | 5, _ => am_okp_5
  | 6, _ => am_okp_6
  | 7, _ => am_okp_7
  | 8, _ => am_okp_8
  | 9, _ => am_okp_9
  | 10, _ => am_okp_10
  | 11, _ => am_okp_11
  | n + 12, h => absurd h (by omega)
theorem am_okq_o {o : Nat} (h : o < 12) : am_allb (am_okq o) (am_pc.get o) = true := match o, h with
  | 0, _ => am_okq_0
  | 1, _ => am_okq_1
  | 2, _ => am_okq_2
  | 3, _ => am_okq_3
  | 4, _ => am_okq_4
  | 5, _ => am_okq_5
  | 6, _ => am_okq_6
  | 7, _ => am_okq_7
  | 8, _ => am_okq_8
  | 9, _ => am_okq_9
  | 10, _ => am_okq_10
  | 11, _ => am_okq_11
  | n + 12, h => absurd h (by omega)
theorem am_okl_o {o : Nat} (h : o < 12) : am_allb (am_okl o) (am_pl.get o) = true := match o, h with
  | 0, _ => am_okl_0
  | 1, _ => am_okl_1
  | 2, _ => am_okl_2
  | 3, _ => am_okl_3
  | 4, _ => am_okl_4
  | 5, _ => am_okl_5
  | 6, _ => am_okl_6
  | 7, _ => am_okl_7
  | 8, _ => am_okl_8
  | 9, _ => am_okl_9
  | 10, _ => am_okl_10
  | 11, _ => am_okl_11
  | n + 12, h => absurd h (by omega)
theorem am_okx_o {o : Nat} (h : o < 12) : am_allb (am_okx o) (am_ps.get o) = true := match o, h with
  | 0, _ => am_okx_0
  | 1, _ => am_okx_1
  | 2, _ => am_okx_2
  | 3, _ => am_okx_3
  | 4, _ => am_okx_4
  | 5, _ => am_okx_5
  | 6, _ => am_okx_6
  | 7, _ => am_okx_7
  | 8, _ => am_okx_8
  | 9, _ => am_okx_9
  | 10, _ => am_okx_10
  | 11, _ => am_okx_11
  | n + 12, h => absurd h (by omega)
theorem am_okn_o {o : Nat} (h : o < 12) : am_allb (am_okn o) (am_pn.get o) = true := match o, h with
  | 0, _ => am_okn_0
  | 1, _ => am_okn_1
  | 2, _ => am_okn_2
  | 3, _ => am_okn_3
  | 4, _ => am_okn_4
  | 5, _ => am_okn_5
  | 6, _ => am_okn_6
  | 7, _ => am_okn_7
  | 8, _ => am_okn_8
  | 9, _ => am_okn_9
  | 10, _ => am_okn_10
  | 11, _ => am_okn_11
  | n + 12, h => absurd h (by omega)
theorem am_okf_at {o idx ci k w : Nat} (ho : o < 12) (h : am_lk (am_pf.get o) idx = some (ci, k, w)) : ci < 8 ∧ k < am_nf ci ∧ ∀ rr, vwCl[ci]? = some rr → Cond.fieldLink (am_cn o) idx (rr.2.1 k).1 (rr.2.1 k).2.1 (rr.2.1 k).2.2.1 ∈ am_wds := by
  have h1 : am_all (fun q : Nat × Nat × Nat × Nat => q.1 = 999999 ∨ (q.2.1 < 8 ∧ q.2.2.1 < am_nf q.2.1 ∧ ∀ rr, vwCl[q.2.1]? = some rr → Cond.fieldLink (am_cn o) q.1 (rr.2.1 q.2.2.1).1 (rr.2.1 q.2.2.1).2.1 (rr.2.1 q.2.2.1).2.2.1 ∈ am_wds)) (am_pf.get o) := am_all_imp (fun q hq => by
    unfold am_okf at hq
    rcases Bool.or_eq_true_iff.mp hq with e | e
    · exact Or.inl (Nat.eq_of_beq_eq_true e)
    · right
      simp only [Bool.and_eq_true, decide_eq_true_eq] at e
      refine ⟨e.1, e.2.1, fun rr hr => ?_⟩
      have e3 := e.2.2
      rw [hr] at e3
      exact am_wd (of_decide_eq_true e3) rfl) (am_allb_all (am_okf_o ho))
  exact am_lk_of h1 h
theorem am_okq_at {o idx w : Nat} {z : Int} (ho : o < 12) (h : am_lk (am_pc.get o) idx = some (z, w)) : Cond.constant (am_cn o) idx (Int32.ofInt z) ∈ am_wds ∧ am_R32 z := by
  have h1 : am_all (fun q : Nat × Int × Nat => q.1 = 999999 ∨ (Cond.constant (am_cn o) q.1 (Int32.ofInt q.2.1) ∈ am_wds ∧ am_R32 q.2.1)) (am_pc.get o) := am_all_imp (fun q hq => by
    unfold am_okq at hq
    rcases Bool.or_eq_true_iff.mp hq with e | e
    · exact Or.inl (Nat.eq_of_beq_eq_true e)
    · right
      simp only [Bool.and_eq_true, decide_eq_true_eq] at e
      exact ⟨am_wd e.1 rfl, e.2⟩) (am_allb_all (am_okq_o ho))
  exact am_lk_of h1 h
theorem am_okl_at {o idx w : Nat} {z : Int} (ho : o < 12) (h : am_lk (am_pl.get o) idx = some (z, w)) : Cond.constantLong (am_cn o) idx (Int64.ofInt z) ∈ am_wds ∧ am_R64 z := by
  have h1 : am_all (fun q : Nat × Int × Nat => q.1 = 999999 ∨ (Cond.constantLong (am_cn o) q.1 (Int64.ofInt q.2.1) ∈ am_wds ∧ am_R64 q.2.1)) (am_pl.get o) := am_all_imp (fun q hq => by
    unfold am_okl at hq
    rcases Bool.or_eq_true_iff.mp hq with e | e
    · exact Or.inl (Nat.eq_of_beq_eq_true e)
    · right
      simp only [Bool.and_eq_true, decide_eq_true_eq] at e
      exact ⟨am_wd e.1 rfl, e.2⟩) (am_allb_all (am_okl_o ho))
  exact am_lk_of h1 h
theorem am_okx_at {o idx k w : Nat} (ho : o < 12) (h : am_lk (am_ps.get o) idx = some (k, w)) : k < 6 := by
  have h1 : am_all (fun q : Nat × Nat × Nat => q.1 = 999999 ∨ q.2.1 < 6) (am_ps.get o) := am_all_imp (fun q hq => by
    unfold am_okx at hq
    rcases Bool.or_eq_true_iff.mp hq with e | e
    · exact Or.inl (Nat.eq_of_beq_eq_true e)
    · right
      simp only [Bool.and_eq_true, decide_eq_true_eq] at e
      exact e.2.1) (am_allb_all (am_okx_o ho))
  exact am_lk_of h1 h
theorem am_okn_at {o idx ci w : Nat} (ho : o < 12) (h : am_lk (am_pn.get o) idx = some (ci, w)) : Cond.classLink (am_cn o) idx (if ci < 8 then am_cn ci else "[[I") ∈ am_wds := by
  have h1 : am_all (fun q : Nat × Nat × Nat => q.1 = 999999 ∨ Cond.classLink (am_cn o) q.1 (if q.2.1 < 8 then am_cn q.2.1 else "[[I") ∈ am_wds) (am_pn.get o) := am_all_imp (fun q hq => by
    unfold am_okn at hq
    rcases Bool.or_eq_true_iff.mp hq with e | e
    · exact Or.inl (Nat.eq_of_beq_eq_true e)
    · right
      exact am_wd (of_decide_eq_true e) rfl) (am_allb_all (am_okn_o ho))
  exact am_lk_of h1 h
theorem am_ctor_nm : ∀ b ∈ am_ctors, (am_nm.getImpl b).name = "<init>" := by decide +kernel
section AM
variable {G : am_G} {mm : am_M} {A : Nat → Prop} {p : Program} {l : Launch} {e : Env} {R : Room} {s : State} {m : MethodId} {args : Array Value} {below : List Frame} {meth : Method} {c : Code} {Q : State → Prop} {c0 s0 : Nat} {sc : Nat × (Nat → Int)} {AD0 : List Nat} {pc : Nat} {L : am_L} {S : List am_V} {ω : am_W}
theorem am_mr_pos {AD : List Nat} {r : Int} (h : 0 ≤ r) : am_mr G AD r = .ref (AD.getD r.toNat 0) := if_pos h
theorem am_mr_rf {AD : List Nat} {r : Int} (h : -1 ≤ r) : va_rf (am_rf AD r) = am_mr G AD r := by
  unfold am_rf am_mr
  by_cases h0 : 0 ≤ r
  · rw [if_pos h0, if_pos h0]; rfl
  · rw [if_neg h0, if_neg h0, if_pos (by omega)]; rfl
theorem am_enc_o {AD : List Nat} {ci n : Nat} {f : Nat → Int} (h : ci < 8) : am_enc G AD (ci, n) f = .inr (ci, (List.range n).map (fun j => am_fv AD (am_fk ci j) (f j))) := if_pos h
theorem am_enc_i {AD : List Nat} {n : Nat} {f : Nat → Int} : am_enc G AD (100, n) f = .inl (am_ca G 100, n, .inl (fun j => Int32.ofInt (f j))) := rfl
theorem am_enc_l {AD : List Nat} {n : Nat} {f : Nat → Int} : am_enc G AD (101, n) f = .inl (am_ca G 101, n, .inr (.inl (fun j => Int64.ofInt (f j)))) := rfl
theorem am_enc_q {AD : List Nat} {kd n : Nat} {f : Nat → Int} (h : 102 ≤ kd) : am_enc G AD (kd, n) f = .inl (am_ca G kd, n, .inr (.inr (.inr (.inr (fun j => am_rf AD (f j)))))) := by
  unfold am_enc
  rw [if_neg (by dsimp only; omega), if_neg (by dsimp only; omega), if_neg (by dsimp only; omega)]
theorem am_okc_i {n j : Nat} {z : Int} (h : am_okc n 100 j z) : am_R32 z := h
theorem am_okc_l {n j : Nat} {z : Int} (h : am_okc n 101 j z) : am_R64 z := h
theorem am_okc_q {n kd j : Nat} {z : Int} (hk : 102 ≤ kd) : am_okc n kd j z ↔ -1 ≤ z ∧ z < n := by
  unfold am_okc
  rw [if_neg (by omega), if_neg (by omega), if_neg (by omega)]
theorem aj_getfield {idx ci k w : Nat} {r : Int} (C : am_Cx G mm A p R s m args meth c sc) (hd : decode (am_by.get mm.1) pc = .ok (.getfield idx, 3)) (hp : am_lk (am_pf.get (am_own mm.1)) idx = some (ci, k, w)) (hi : am_is ω r (ci, am_nf ci) = true) (kk : am_J G mm A p l e R s m args below meth c Q c0 s0 sc AD0 (pc + 3) L ((match am_fk ci k with | 2 => .inr (.inr (am_get ω r.toNat k)) | _ => .inl (am_get ω r.toNat k)) :: S) ω) : am_J G mm A p l e R s m args below meth c Q c0 s0 sc AD0 pc L (.inr (.inr r) :: S) ω := by
  intro AD H locs ls cells slots hF hL hS hR hV hc hs hsc
  obtain ⟨h0, hq⟩ := am_is_of hi
  obtain ⟨hci, hk, hlk⟩ := am_okf_at (am_own_lt mm.1) hp
  obtain ⟨rr, g1, g2, g3, g4, -⟩ := am_cls hci
  obtain ⟨hA, hW, hP, hD⟩ := hR
  have hat := am_ws_at (G := G) (AD := AD) hq
  rw [am_enc_o hci] at hat
  have hv : ((List.range (am_nf ci)).map (fun j => am_fv AD (am_fk ci j) (ω.2.1 r.toNat j)))[k]? = some (am_fv AD (am_fk ci k) (ω.2.1 r.toNat k)) := by rw [List.getElem?_map, List.getElem?_range hk]; rfl
  have hokc := (hW.1 _ _ hq).2 k
  unfold am_okc at hokc
  rw [if_pos hci] at hokc
  show W p l e R s m args below meth c H locs cells slots Q (F0 m pc ls (am_mr G AD r :: S.map (am_mv G AD)))
  rw [am_mr_pos h0]
  refine va_get (D := G.1) (cl := vwCl) (tys := am_tys G) (C := rr.1) (T := rr.2.1) (N := rr.2.2) (Ts := am_wds) C.1 C.2.1 C.2.2.2.2.1 g4 C.2.2.2.1 C.2.2.2.2.2.2.2.2.1 hP r.toNat hat g1 k (by rw [g2]; exact hk) (C.2.2.2.2.1 _ (hlk rr g1)) (fun _ h => h) hv hd ?_
  have hok : am_okv ω.1.length (match am_fk ci k with | 2 => .inr (.inr (am_get ω r.toNat k)) | _ => .inl (am_get ω r.toNat k)) := by
    by_cases h2 : am_fk ci k = 2
    · rw [h2]
      rw [if_pos h2] at hokc
      show -9 < am_get ω r.toNat k ∧ am_get ω r.toNat k < (ω.1.length : Int)
      have hokc : -1 ≤ am_get ω r.toNat k ∧ am_get ω r.toNat k < (ω.1.length : Int) := hokc
      omega
    · rw [if_neg h2] at hokc
      split
      · rename_i h3; exact absurd h3 h2
      · exact hokc
  have k2 := kk AD H locs ls cells slots hF hL (am_okS_c hok (am_okS_t hS)) ⟨hA, hW, hP, hD⟩ hV hc hs hsc
  have ev : am_mv G AD (match am_fk ci k with | 2 => .inr (.inr (am_get ω r.toNat k)) | _ => .inl (am_get ω r.toNat k)) = am_fv AD (am_fk ci k) (ω.2.1 r.toNat k) := by
    unfold am_fv
    by_cases h2 : am_fk ci k = 2
    · rw [if_pos h2, h2]
      rw [if_pos h2] at hokc
      exact (am_mr_rf hokc.1).symm
    · rw [if_neg h2]
      split
      · rename_i h3; exact absurd h3 h2
      · rfl
  rw [← ev]
  exact k2
/-- a cell of the world holds something else -/
theorem am_Rl_put {AD : List Nat} {H H1 : Heap} {a k : Nat} {v : Int} {q : Nat × Nat} {E : va_E} (hR : am_Rl G A AD ω H) (hq : ω.1[a]? = some q) (hv : am_okc ω.1.length q.1 k v) (hE : E = am_enc G AD q (fun k' => if k' = k then v else ω.2.1 a k')) (hP : va_P G.1 vwCl ((am_ws G AD ω).set a (AD.getD a 0, E)) H1) (hD : va_D A ((am_ws G AD ω).set a (AD.getD a 0, E))) : am_Rl G A AD (am_put ω a k v) H1 := by
  have e : (am_ws G AD ω).set a (AD.getD a 0, E) = am_ws G AD (am_put ω a k v) := by
    refine am_ws_set (g := fun a' k' => if a' = a ∧ k' = k then v else ω.2.1 a' k') hq ?_ (fun i hi => ?_)
    · rw [hE]
      congr 1
      funext k'
      by_cases hk : k' = k
      · rw [if_pos hk, if_pos ⟨rfl, hk⟩]
      · rw [if_neg hk, if_neg (fun z => hk z.2)]
    · funext k'
      exact if_neg (fun z => hi z.1)
  rw [e] at hP hD
  exact ⟨hR.1, am_okw_put hR.2.1 (fun q' hq' => by rw [hq] at hq'; cases hq'; exact hv), hP, hD⟩
theorem am_set_o {AD : List Nat} {ci n k : Nat} {f : Nat → Int} {v : Int} (h : ci < 8) (hk : k < n) : (.inr (ci, ((List.range n).map (fun j => am_fv AD (am_fk ci j) (f j))).set k (am_fv AD (am_fk ci k) v)) : va_E) = am_enc G AD (ci, n) (fun k' => if k' = k then v else f k') := by
  rw [am_enc_o h]
  congr 2
  apply List.ext_getElem?
  intro i
  by_cases hi : i = k
  · subst hi
    rw [List.getElem?_set_self (by simpa using hk), List.getElem?_map, List.getElem?_range hk]
    simp
  · rw [List.getElem?_set_ne (fun z => hi z.symm), List.getElem?_map, List.getElem?_map]
    cases hr : (List.range n)[i]? with
    | none => rfl
    | some x =>
      have hx : x = i := by
        have := List.getElem?_eq_some_iff.mp hr
        obtain ⟨h1, h2⟩ := this
        simpa using h2.symm
      subst hx
      simp [hi]
theorem aj_putfieldi {idx ci k w : Nat} {r z : Int} (C : am_Cx G mm A p R s m args meth c sc) (hd : decode (am_by.get mm.1) pc = .ok (.putfield idx, 3)) (hp : am_lk (am_pf.get (am_own mm.1)) idx = some (ci, k, w)) (hi : am_is ω r (ci, am_nf ci) = true) (hfin : am_fin (am_own mm.1) mm.1 ci k = true) (hz0 : am_fk ci k = 0 ∨ (am_fk ci k = 1 ∧ (z = 0 ∨ z = 1))) (kk : am_J G mm A p l e R s m args below meth c Q c0 s0 sc AD0 (pc + 3) L S (am_put ω r.toNat k z)) : am_J G mm A p l e R s m args below meth c Q c0 s0 sc AD0 pc L (.inl z :: .inr (.inr r) :: S) ω := by
  intro AD H locs ls cells slots hF hL hS hR hV hc hs hsc
  obtain ⟨h0, hq⟩ := am_is_of hi
  obtain ⟨hci, hk, hlk⟩ := am_okf_at (am_own_lt mm.1) hp
  obtain ⟨rr, g1, g2, g3, g4, ⟨ty0, g5, g6⟩, g7, g8⟩ := am_cls hci
  have hR0 := hR
  obtain ⟨hA, hW, hP, hD⟩ := hR
  have hat := am_ws_at (G := G) (AD := AD) hq
  rw [am_enc_o hci] at hat
  have hkr : k < rr.2.2 := by rw [g2]; exact hk
  have ht := g6 k hkr
  have hz : am_okv ω.1.length (.inl z) := am_okS_h hS
  have hfe : .int (Int32.ofInt z) = am_fv AD (am_fk ci k) z := by
    unfold am_fv
    rw [if_neg (by omega)]
  have hnar : narrow (ty0 k) (.int (Int32.ofInt z)) = .int (Int32.ofInt z) := by
    rcases hz0 with h | ⟨h, h2⟩
    · rw [h] at ht
      cases hty : ty0 k <;> first | (rw [hty] at ht; cases ht; done) | rfl
    · rw [h] at ht
      cases hty : ty0 k <;> first | (rw [hty] at ht; cases ht; done) | (rcases h2 with rfl | rfl <;> rfl)
  have hfit : fits (ty0 k) (.int (Int32.ofInt z)) = true := by
    rcases hz0 with h | ⟨h, h2⟩
    · rw [h] at ht
      cases hty : ty0 k <;> first | (rw [hty] at ht; cases ht; done) | rfl
    · rw [h] at ht
      cases hty : ty0 k <;> first | (rw [hty] at ht; cases ht; done) | (rcases h2 with rfl | rfl <;> rfl)
  have hokc : am_okc ω.1.length (ci, am_nf ci).1 k z := by
    show am_okc ω.1.length ci k z
    unfold am_okc
    rw [if_pos hci]
    rw [if_neg (by omega)]
    exact hz
  show W p l e R s m args below meth c H locs cells slots Q (F0 m pc ls (.int (Int32.ofInt z) :: am_mr G AD r :: S.map (am_mv G AD)))
  rw [am_mr_pos h0]
  have fin : ∀ (H1 : Heap) (locs1 : List Loc), va_P G.1 vwCl ((am_ws G AD ω).set r.toNat (AD.getD r.toNat 0, .inr (ci, ((List.range (am_nf ci)).map (fun j => am_fv AD (am_fk ci j) (ω.2.1 r.toNat j))).set k (.int (Int32.ofInt z))))) H1 → va_D A ((am_ws G AD ω).set r.toNat (AD.getD r.toNat 0, .inr (ci, ((List.range (am_nf ci)).map (fun j => am_fv AD (am_fk ci j) (ω.2.1 r.toNat j))).set k (.int (Int32.ofInt z))))) → va_S A s.heap H1 locs1 → W p l e R s m args below meth c H1 locs1 cells slots Q (F0 m (pc + 3) ls (S.map (am_mv G AD))) := by
    intro H1 locs1 hP1 hD1 hS1
    rw [hfe] at hP1 hD1
    exact kk AD H1 locs1 ls cells slots hF hL (am_okS_t (am_okS_t hS)) (am_Rl_put hR0 hq hokc (am_set_o hci hk) hP1 hD1) ⟨hS1, hV.2⟩ hc hs hsc
  have hl : k < ((List.range (am_nf ci)).map (fun j => am_fv AD (am_fk ci j) (ω.2.1 r.toNat j))).length := by simpa using hk
  cases hf : Nat.beq ((am_fins.getD ci []).getD k 0) 0 with
  | true =>
    have hf2 : (rr.2.1 k).2.2.2 = false := by rw [(g8 k hkr).1, hf]; rfl
    exact va_put (D := G.1) (cl := vwCl) (tys := am_tys G) (C := rr.1) (T := rr.2.1) (N := rr.2.2) (Ts := am_wds) C.1 C.2.1 C.2.2.2.2.1 g4 ty0 g5 g7 C.2.2.2.1 C.2.2.2.2.2.2.2.2.1 hP hD hV.1 r.toNat hat g1 k hkr (C.2.2.2.2.1 _ (hlk rr g1)) (fun _ h => h) hf2 (g5 k hkr) hnar hfit hl hd fin
  | false =>
    have hf2 : (rr.2.1 k).2.2.2 = true := by rw [(g8 k hkr).1, hf]; rfl
    unfold am_fin at hfin
    rw [hf, Bool.false_or, Bool.and_eq_true] at hfin
    have hmem : mm.1 ∈ am_ctors := List.contains_iff_mem.mp hfin.1
    have hnm : meth.name = "<init>" := C.2.2.2.2.2.2.2.1 hmem
    have how : (rr.2.1 k).1 = am_cn (am_own mm.1) := by rw [(g8 k hkr).2, Nat.eq_of_beq_eq_true hfin.2]
    exact va_putF (D := G.1) (cl := vwCl) (tys := am_tys G) (C := rr.1) (T := rr.2.1) (N := rr.2.2) (Ts := am_wds) C.1 C.2.1 C.2.2.2.2.1 g4 ty0 g5 g7 C.2.2.2.1 C.2.2.2.2.2.2.2.2.1 hP hD hV.1 r.toNat hat g1 k hkr (C.2.2.2.2.1 _ (hlk rr g1)) (fun _ h => h) hf2 hnm how (g5 k hkr) hnar hfit hl hd fin
theorem aj_putfieldr {idx ci k w : Nat} {r z : Int} (C : am_Cx G mm A p R s m args meth c sc) (hd : decode (am_by.get mm.1) pc = .ok (.putfield idx, 3)) (hp : am_lk (am_pf.get (am_own mm.1)) idx = some (ci, k, w)) (hi : am_is ω r (ci, am_nf ci) = true) (hfin : am_fin (am_own mm.1) mm.1 ci k = true) (hz0 : am_fk ci k = 2) (hz1 : -1 ≤ z) (kk : am_J G mm A p l e R s m args below meth c Q c0 s0 sc AD0 (pc + 3) L S (am_put ω r.toNat k z)) : am_J G mm A p l e R s m args below meth c Q c0 s0 sc AD0 pc L (.inr (.inr z) :: .inr (.inr r) :: S) ω := by
  intro AD H locs ls cells slots hF hL hS hR hV hc hs hsc
  obtain ⟨h0, hq⟩ := am_is_of hi
  obtain ⟨hci, hk, hlk⟩ := am_okf_at (am_own_lt mm.1) hp
  obtain ⟨rr, g1, g2, g3, g4, ⟨ty0, g5, g6⟩, g7, g8⟩ := am_cls hci
  have hR0 := hR
  obtain ⟨hA, hW, hP, hD⟩ := hR
  have hat := am_ws_at (G := G) (AD := AD) hq
  rw [am_enc_o hci] at hat
  have hkr : k < rr.2.2 := by rw [g2]; exact hk
  have ht := g6 k hkr
  have hz : am_okv ω.1.length (.inr (.inr z)) := am_okS_h hS
  have hfe : am_mr G AD z = am_fv AD (am_fk ci k) z := by
    unfold am_fv
    rw [if_pos hz0, am_mr_rf hz1]
  have hnar : narrow (ty0 k) (am_mr G AD z) = am_mr G AD z := by
    rw [hz0] at ht
    cases hty : ty0 k <;> first | (rw [hty] at ht; cases ht; done) | rfl
  have hfit : fits (ty0 k) (am_mr G AD z) = true := by
    rw [hz0] at ht
    rcases am_mr_or G AD z with ⟨-, hv⟩ | ⟨-, a, hv⟩ <;> rw [hv] <;> cases hty : ty0 k <;> first | (rw [hty] at ht; cases ht; done) | rfl
  have hokc : am_okc ω.1.length (ci, am_nf ci).1 k z := by
    show am_okc ω.1.length ci k z
    unfold am_okc
    rw [if_pos hci]
    rw [if_pos hz0]
    have hz : -9 < z ∧ z < (ω.1.length : Int) := hz
    omega
  show W p l e R s m args below meth c H locs cells slots Q (F0 m pc ls (am_mr G AD z :: am_mr G AD r :: S.map (am_mv G AD)))
  rw [am_mr_pos h0]
  have fin : ∀ (H1 : Heap) (locs1 : List Loc), va_P G.1 vwCl ((am_ws G AD ω).set r.toNat (AD.getD r.toNat 0, .inr (ci, ((List.range (am_nf ci)).map (fun j => am_fv AD (am_fk ci j) (ω.2.1 r.toNat j))).set k (am_mr G AD z)))) H1 → va_D A ((am_ws G AD ω).set r.toNat (AD.getD r.toNat 0, .inr (ci, ((List.range (am_nf ci)).map (fun j => am_fv AD (am_fk ci j) (ω.2.1 r.toNat j))).set k (am_mr G AD z)))) → va_S A s.heap H1 locs1 → W p l e R s m args below meth c H1 locs1 cells slots Q (F0 m (pc + 3) ls (S.map (am_mv G AD))) := by
    intro H1 locs1 hP1 hD1 hS1
    rw [hfe] at hP1 hD1
    exact kk AD H1 locs1 ls cells slots hF hL (am_okS_t (am_okS_t hS)) (am_Rl_put hR0 hq hokc (am_set_o hci hk) hP1 hD1) ⟨hS1, hV.2⟩ hc hs hsc
  have hl : k < ((List.range (am_nf ci)).map (fun j => am_fv AD (am_fk ci j) (ω.2.1 r.toNat j))).length := by simpa using hk
  cases hf : Nat.beq ((am_fins.getD ci []).getD k 0) 0 with
  | true =>
    have hf2 : (rr.2.1 k).2.2.2 = false := by rw [(g8 k hkr).1, hf]; rfl
    exact va_put (D := G.1) (cl := vwCl) (tys := am_tys G) (C := rr.1) (T := rr.2.1) (N := rr.2.2) (Ts := am_wds) C.1 C.2.1 C.2.2.2.2.1 g4 ty0 g5 g7 C.2.2.2.1 C.2.2.2.2.2.2.2.2.1 hP hD hV.1 r.toNat hat g1 k hkr (C.2.2.2.2.1 _ (hlk rr g1)) (fun _ h => h) hf2 (g5 k hkr) hnar hfit hl hd fin
  | false =>
    have hf2 : (rr.2.1 k).2.2.2 = true := by rw [(g8 k hkr).1, hf]; rfl
    unfold am_fin at hfin
    rw [hf, Bool.false_or, Bool.and_eq_true] at hfin
    have hmem : mm.1 ∈ am_ctors := List.contains_iff_mem.mp hfin.1
    have hnm : meth.name = "<init>" := C.2.2.2.2.2.2.2.1 hmem
    have how : (rr.2.1 k).1 = am_cn (am_own mm.1) := by rw [(g8 k hkr).2, Nat.eq_of_beq_eq_true hfin.2]
    exact va_putF (D := G.1) (cl := vwCl) (tys := am_tys G) (C := rr.1) (T := rr.2.1) (N := rr.2.2) (Ts := am_wds) C.1 C.2.1 C.2.2.2.2.1 g4 ty0 g5 g7 C.2.2.2.1 C.2.2.2.2.2.2.2.2.1 hP hD hV.1 r.toNat hat g1 k hkr (C.2.2.2.2.1 _ (hlk rr g1)) (fun _ h => h) hf2 hnm how (g5 k hkr) hnar hfit hl hd fin
theorem aj_iaload {j r : Int} (C : am_Cx G mm A p R s m args meth c sc) (hd : decode (am_by.get mm.1) pc = .ok (.iaload, 1)) (hi : am_in ω r 100 j = true) (kk : am_J G mm A p l e R s m args below meth c Q c0 s0 sc AD0 (pc + 1) L (.inl (am_get ω r.toNat j.toNat) :: S) ω) : am_J G mm A p l e R s m args below meth c Q c0 s0 sc AD0 pc L (.inl j :: .inr (.inr r) :: S) ω := by
  intro AD H locs ls cells slots hF hL hS hR hV hc hs hsc
  obtain ⟨h0, n, hq, h1, h2⟩ := am_in_of hi
  have hj : am_R32 j := am_okS_h hS
  obtain ⟨hA, hW, hP, hD⟩ := id hR
  have hat := am_ws_at (G := G) (AD := AD) hq
  rw [am_enc_i] at hat
  show W p l e R s m args below meth c H locs cells slots Q (F0 m pc ls (.int (Int32.ofInt j) :: am_mr G AD r :: S.map (am_mv G AD)))
  rw [am_mr_pos h0]
  refine va_iald (D := G.1) (cl := vwCl) (tys := am_tys G) C.1 C.2.1 C.2.2.2.2.2.2.2.2.1 hP r.toNat 0 hat rfl (nu_in hj h1 h2) hd ?_
  rw [nu_clamp hj h1]
  exact kk AD H locs ls cells slots hF hL (am_okS_c (am_okc_i ((hW.1 _ _ hq).2 j.toNat)) (am_okS_t (am_okS_t hS))) hR hV hc hs hsc
theorem aj_laload {j r : Int} (C : am_Cx G mm A p R s m args meth c sc) (hd : decode (am_by.get mm.1) pc = .ok (.laload, 1)) (hi : am_in ω r 101 j = true) (kk : am_J G mm A p l e R s m args below meth c Q c0 s0 sc AD0 (pc + 1) L (.inr (.inl (am_get ω r.toNat j.toNat)) :: S) ω) : am_J G mm A p l e R s m args below meth c Q c0 s0 sc AD0 pc L (.inl j :: .inr (.inr r) :: S) ω := by
  intro AD H locs ls cells slots hF hL hS hR hV hc hs hsc
  obtain ⟨h0, n, hq, h1, h2⟩ := am_in_of hi
  have hj : am_R32 j := am_okS_h hS
  obtain ⟨hA, hW, hP, hD⟩ := id hR
  have hat := am_ws_at (G := G) (AD := AD) hq
  rw [am_enc_l] at hat
  show W p l e R s m args below meth c H locs cells slots Q (F0 m pc ls (.int (Int32.ofInt j) :: am_mr G AD r :: S.map (am_mv G AD)))
  rw [am_mr_pos h0]
  refine va_lald (D := G.1) (cl := vwCl) (tys := am_tys G) C.1 C.2.1 C.2.2.2.2.2.2.2.2.1 hP r.toNat 1 hat rfl (nu_in hj h1 h2) hd ?_
  rw [nu_clamp hj h1]
  exact kk AD H locs ls cells slots hF hL (am_okS_c (am_okc_l ((hW.1 _ _ hq).2 j.toNat)) (am_okS_t (am_okS_t hS))) hR hV hc hs hsc
/-- a reference out of an array, of objects or of arrays -/
theorem am_aald {AD : List Nat} {H : Heap} {locs : List Loc} {ls : Array Slot} {cells slots : Nat} {a q0 t0 n : Nat} {cA : ClassId} {ty : FieldType} {f : Nat → Option Nat} {i : Int32} {rest : List Value} (C : am_Cx G mm A p R s m args meth c sc) (hP : va_P G.1 vwCl (am_ws G AD ω) H) (ha : (am_ws G AD ω)[q0]? = some (a, .inl (cA, n, .inr (.inr (.inr (.inr f)))))) (ht : (am_tys G)[t0]? = some (cA, ty)) (hty : ty.isReference = true) (hin : vp_in i n) (hdg : decode (am_by.get mm.1) pc = .ok (.aaload, 1))
    (kk : W p l e R s m args below meth c H locs cells slots Q (F0 m (pc + 1) ls (va_rf (f i.toNatClampNeg) :: rest))) : W p l e R s m args below meth c H locs cells slots Q (F0 m pc ls (.int i :: .ref a :: rest)) := by
  have hlt : i.toNatClampNeg < n := Nat.not_le.mp fun q => hin (Or.inr q)
  exact W.aald (v := va_rf (f i.toNatClampNeg)) (ty := ty) C.1 C.2.1 (hP q0 _ ha) ((C.2.2.2.2.2.2.2.2.1.2 t0 _ ht).1 n (fun j => va_rf (f j))) hty (fun q => by cases q) (by show ¬ (i < 0 ∨ (arrV _ _ _).slots.size ≤ _); rw [arrV_size]; exact hin) (by show (arrV _ _ _).slots[_]? = _; rw [arrV_read _ _ hlt]) rfl rfl hdg kk
theorem aj_aaload {kd t0 : Nat} {ty : FieldType} {j r : Int} (C : am_Cx G mm A p R s m args meth c sc) (hd : decode (am_by.get mm.1) pc = .ok (.aaload, 1)) (hkd : 102 ≤ kd) (ht : (am_tys G)[t0]? = some (am_ca G kd, ty)) (hty : ty.isReference = true) (hi : am_in ω r kd j = true) (kk : am_J G mm A p l e R s m args below meth c Q c0 s0 sc AD0 (pc + 1) L (.inr (.inr (am_get ω r.toNat j.toNat)) :: S) ω) : am_J G mm A p l e R s m args below meth c Q c0 s0 sc AD0 pc L (.inl j :: .inr (.inr r) :: S) ω := by
  intro AD H locs ls cells slots hF hL hS hR hV hc hs hsc
  obtain ⟨h0, n, hq, h1, h2⟩ := am_in_of hi
  have hj : am_R32 j := am_okS_h hS
  obtain ⟨hA, hW, hP, hD⟩ := id hR
  have hat := am_ws_at (G := G) (AD := AD) hq
  rw [am_enc_q hkd] at hat
  have hz := (am_okc_q hkd).mp ((hW.1 _ _ hq).2 j.toNat)
  show W p l e R s m args below meth c H locs cells slots Q (F0 m pc ls (.int (Int32.ofInt j) :: am_mr G AD r :: S.map (am_mv G AD)))
  rw [am_mr_pos h0]
  refine am_aald C hP hat ht hty (nu_in hj h1 h2) hd ?_
  rw [nu_clamp hj h1]
  show W p l e R s m args below meth c H locs cells slots Q (F0 m (pc + 1) ls (va_rf (am_rf AD (ω.2.1 r.toNat j.toNat)) :: S.map (am_mv G AD)))
  rw [am_mr_rf (G := G) hz.1]
  exact kk AD H locs ls cells slots hF hL (am_okS_c (v := .inr (.inr _)) (show -9 < am_get ω r.toNat j.toNat ∧ am_get ω r.toNat j.toNat < (ω.1.length : Int) from ⟨by have : -1 ≤ am_get ω r.toNat j.toNat := hz.1; omega, hz.2⟩) (am_okS_t (am_okS_t hS))) hR hV hc hs hsc
theorem aj_arraylength {kd t0 : Nat} {ty : FieldType} {r : Int} (C : am_Cx G mm A p R s m args meth c sc) (hd : decode (am_by.get mm.1) pc = .ok (.arraylength, 1)) (hkd : kd = 100 ∨ kd = 101) (ht : (am_tys G)[t0]? = some (am_ca G kd, ty)) (hi : am_ar ω r kd = true) (kk : am_J G mm A p l e R s m args below meth c Q c0 s0 sc AD0 (pc + 1) L (.inl (am_len ω r) :: S) ω) : am_J G mm A p l e R s m args below meth c Q c0 s0 sc AD0 pc L (.inr (.inr r) :: S) ω := by
  intro AD H locs ls cells slots hF hL hS hR hV hc hs hsc
  obtain ⟨h0, n, hq, h1⟩ := am_ar_of hi
  obtain ⟨hA, hW, hP, hD⟩ := id hR
  have hat := am_ws_at (G := G) (AD := AD) hq
  have hx : ∃ x : vp_A, am_enc G AD (kd, n) (ω.2.1 r.toNat) = .inl (am_ca G kd, x) ∧ x.1 = n := by
    rcases hkd with rfl | rfl
    · exact ⟨_, rfl, rfl⟩
    · exact ⟨_, rfl, rfl⟩
  obtain ⟨x, hx1, hx2⟩ := hx
  rw [hx1] at hat
  have hn : n < 2147483648 := by
    rcases (hW.1 _ _ hq).1 with h | h
    · have h : kd < 8 ∧ n = am_nf kd := h
      omega
    · exact h.2.2
  show W p l e R s m args below meth c H locs cells slots Q (F0 m pc ls (am_mr G AD r :: S.map (am_mv G AD)))
  rw [am_mr_pos h0]
  refine va_alen (D := G.1) (cl := vwCl) (tys := am_tys G) C.1 C.2.1 C.2.2.2.2.2.2.2.2.1 hP r.toNat t0 hat ht (v := Int32.ofInt (am_len ω r)) (by rw [hx2, h1]; rfl) hd ?_
  exact kk AD H locs ls cells slots hF hL (am_okS_c (v := .inl _) (by show am_R32 (am_len ω r); rw [h1]; unfold am_R32; omega) (am_okS_t hS)) hR hV hc hs hsc
theorem aj_scrlen (C : am_Cx G mm A p R s m args meth c sc) (hd : decode (am_by.get mm.1) pc = .ok (.arraylength, 1)) (kk : am_J G mm A p l e R s m args below meth c Q c0 s0 sc AD0 (pc + 1) L (.inl (ω.2.2.1 : Int) :: S) ω) : am_J G mm A p l e R s m args below meth c Q c0 s0 sc AD0 pc L (.inr (.inr (-2)) :: S) ω := by
  intro AD H locs ls cells slots hF hL hS hR hV hc hs hsc
  obtain ⟨hX, hbA, hbl⟩ := C.2.2.2.2.2.2.2.2.2.2.2.2.2.2.1
  rw [← hsc] at hX
  have h1 := hR.2.1.2.1
  refine va_slen C.1 C.2.1 hX hbl hbA hV.1 hd ?_
  exact kk AD H locs ls cells slots hF hL (am_okS_c (v := .inl _) (by show am_R32 _; unfold am_R32; omega) (am_okS_t hS)) hR hV hc hs hsc
theorem aj_scrload {j : Int} (C : am_Cx G mm A p R s m args meth c sc) (hd : decode (am_by.get mm.1) pc = .ok (.iaload, 1)) (h0 : 0 ≤ j) (h1 : j < (ω.2.2.1 : Int)) (kk : am_J G mm A p l e R s m args below meth c Q c0 s0 sc AD0 (pc + 1) L (.inl (ω.2.2.2 j.toNat) :: S) ω) : am_J G mm A p l e R s m args below meth c Q c0 s0 sc AD0 pc L (.inl j :: .inr (.inr (-2)) :: S) ω := by
  intro AD H locs ls cells slots hF hL hS hR hV hc hs hsc
  obtain ⟨hX, hbA, hbl⟩ := C.2.2.2.2.2.2.2.2.2.2.2.2.2.2.1
  rw [← hsc] at hX
  have hj : am_R32 j := am_okS_h hS
  refine va_sld C.1 C.2.1 hX hbl hbA hV.1 (nu_in hj h0 h1) hd ?_
  rw [nu_clamp hj h0]
  exact kk AD H locs ls cells slots hF hL (am_okS_c (v := .inl _) (hR.2.1.2.2 j.toNat) (am_okS_t (am_okS_t hS))) hR hV hc hs hsc
theorem am_upd_i {AD : List Nat} {n j : Nat} {f : Nat → Int} {z : Int} : (.inl (am_ca G 100, n, .inl (upd (fun j => Int32.ofInt (f j)) j (Int32.ofInt z))) : va_E) = am_enc G AD (100, n) (fun k' => if k' = j then z else f k') := by
  rw [am_enc_i]
  congr 4
  funext k
  unfold upd
  by_cases h : k = j
  · rw [if_pos h, if_pos h]
  · rw [if_neg h, if_neg h]
theorem am_upd_l {AD : List Nat} {n j : Nat} {f : Nat → Int} {z : Int} : (.inl (am_ca G 101, n, .inr (.inl (vp_updL (fun j => Int64.ofInt (f j)) j (Int64.ofInt z)))) : va_E) = am_enc G AD (101, n) (fun k' => if k' = j then z else f k') := by
  rw [am_enc_l]
  congr 5
  funext k
  unfold vp_updL
  by_cases h : k = j
  · rw [if_pos h, if_pos h]
  · rw [if_neg h, if_neg h]
theorem am_upd_q {AD : List Nat} {kd n j : Nat} {f : Nat → Int} {z : Int} (h0 : 102 ≤ kd) : (.inl (am_ca G kd, n, .inr (.inr (.inr (.inr (va_up (fun j => am_rf AD (f j)) j (am_rf AD z)))))) : va_E) = am_enc G AD (kd, n) (fun k' => if k' = j then z else f k') := by
  rw [am_enc_q h0]
  congr 8
  funext k
  unfold va_up
  by_cases h : k = j
  · rw [if_pos h, if_pos h]
  · rw [if_neg h, if_neg h]
theorem aj_iastore {j r z : Int} (C : am_Cx G mm A p R s m args meth c sc) (hd : decode (am_by.get mm.1) pc = .ok (.iastore, 1)) (hi : am_in ω r 100 j = true) (kk : am_J G mm A p l e R s m args below meth c Q c0 s0 sc AD0 (pc + 1) L S (am_put ω r.toNat j.toNat z)) : am_J G mm A p l e R s m args below meth c Q c0 s0 sc AD0 pc L (.inl z :: .inl j :: .inr (.inr r) :: S) ω := by
  intro AD H locs ls cells slots hF hL hS hR hV hc hs hsc
  obtain ⟨h0, n, hq, h1, h2⟩ := am_in_of hi
  have hz : am_R32 z := am_okS_h hS
  have hj : am_R32 j := am_okS_h (am_okS_t hS)
  obtain ⟨hA, hW, hP, hD⟩ := id hR
  have hat := am_ws_at (G := G) (AD := AD) hq
  rw [am_enc_i] at hat
  show W p l e R s m args below meth c H locs cells slots Q (F0 m pc ls (.int (Int32.ofInt z) :: .int (Int32.ofInt j) :: am_mr G AD r :: S.map (am_mv G AD)))
  rw [am_mr_pos h0]
  refine va_iast (D := G.1) (cl := vwCl) (tys := am_tys G) C.1 C.2.1 C.2.2.2.2.2.2.2.2.1 hP hD hV.1 r.toNat 0 hat rfl (nu_in hj h1 h2) hd (fun H1 locs1 hP1 hD1 hS1 => ?_)
  rw [nu_clamp hj h1] at hP1 hD1
  exact kk AD H1 locs1 ls cells slots hF hL (am_okS_t (am_okS_t (am_okS_t hS))) (am_Rl_put hR hq hz am_upd_i hP1 hD1) ⟨hS1, hV.2⟩ hc hs hsc
theorem aj_lastore {j r z : Int} (C : am_Cx G mm A p R s m args meth c sc) (hd : decode (am_by.get mm.1) pc = .ok (.lastore, 1)) (hi : am_in ω r 101 j = true) (kk : am_J G mm A p l e R s m args below meth c Q c0 s0 sc AD0 (pc + 1) L S (am_put ω r.toNat j.toNat z)) : am_J G mm A p l e R s m args below meth c Q c0 s0 sc AD0 pc L (.inr (.inl z) :: .inl j :: .inr (.inr r) :: S) ω := by
  intro AD H locs ls cells slots hF hL hS hR hV hc hs hsc
  obtain ⟨h0, n, hq, h1, h2⟩ := am_in_of hi
  have hz : am_R64 z := am_okS_h hS
  have hj : am_R32 j := am_okS_h (am_okS_t hS)
  obtain ⟨hA, hW, hP, hD⟩ := id hR
  have hat := am_ws_at (G := G) (AD := AD) hq
  rw [am_enc_l] at hat
  show W p l e R s m args below meth c H locs cells slots Q (F0 m pc ls (.long (Int64.ofInt z) :: .int (Int32.ofInt j) :: am_mr G AD r :: S.map (am_mv G AD)))
  rw [am_mr_pos h0]
  refine va_last (D := G.1) (cl := vwCl) (tys := am_tys G) C.1 C.2.1 C.2.2.2.2.2.2.2.2.1 hP hD hV.1 r.toNat 1 hat rfl (nu_in hj h1 h2) hd (fun H1 locs1 hP1 hD1 hS1 => ?_)
  rw [nu_clamp hj h1] at hP1 hD1
  exact kk AD H1 locs1 ls cells slots hF hL (am_okS_t (am_okS_t (am_okS_t hS))) (am_Rl_put hR hq hz am_upd_l hP1 hD1) ⟨hS1, hV.2⟩ hc hs hsc
theorem aj_aastore {kd t0 ci n0 : Nat} {rr : vw_C} {j r z : Int} (C : am_Cx G mm A p R s m args meth c sc) (hd : decode (am_by.get mm.1) pc = .ok (.aastore, 1)) (hkd : 102 ≤ kd) (hci : ci < 8) (hrr : vwCl[ci]? = some rr) (ht : (am_tys G)[t0]? = some (am_ca G kd, .object rr.1)) (hi : am_in ω r kd j = true) (hv : am_is ω z (ci, n0) = true) (kk : am_J G mm A p l e R s m args below meth c Q c0 s0 sc AD0 (pc + 1) L S (am_put ω r.toNat j.toNat z)) : am_J G mm A p l e R s m args below meth c Q c0 s0 sc AD0 pc L (.inr (.inr z) :: .inl j :: .inr (.inr r) :: S) ω := by
  intro AD H locs ls cells slots hF hL hS hR hV hc hs hsc
  obtain ⟨h0, n, hq, h1, h2⟩ := am_in_of hi
  obtain ⟨hz0, hqz⟩ := am_is_of hv
  have hz : -9 < z ∧ z < (ω.1.length : Int) := am_okS_h hS
  have hj : am_R32 j := am_okS_h (am_okS_t hS)
  obtain ⟨hA, hW, hP, hD⟩ := id hR
  have hat := am_ws_at (G := G) (AD := AD) hq
  rw [am_enc_q hkd] at hat
  have hatz := am_ws_at (G := G) (AD := AD) hqz
  rw [am_enc_o hci] at hatz
  show W p l e R s m args below meth c H locs cells slots Q (F0 m pc ls (am_mr G AD z :: .int (Int32.ofInt j) :: am_mr G AD r :: S.map (am_mv G AD)))
  rw [am_mr_pos h0, am_mr_pos hz0]
  refine va_astq (D := G.1) (cl := vwCl) (tys := am_tys G) C.1 C.2.1 C.2.2.2.2.2.2.2.2.1 hP hD hV.1 r.toNat t0 z.toNat ci hat ht hatz hrr (nu_in hj h1 h2) hd (fun H1 locs1 hP1 hD1 hS1 => ?_)
  rw [nu_clamp hj h1, show some (AD.getD z.toNat 0) = am_rf AD z from (if_pos hz0).symm] at hP1 hD1
  exact kk AD H1 locs1 ls cells slots hF hL (am_okS_t (am_okS_t (am_okS_t hS))) (am_Rl_put hR hq ((am_okc_q hkd).mpr ⟨by omega, hz.2⟩) (am_upd_q hkd) hP1 hD1) ⟨hS1, hV.2⟩ hc hs hsc
theorem aj_ldc {idx w : Nat} {z : Int} (C : am_Cx G mm A p R s m args meth c sc) (hd : decode (am_by.get mm.1) pc = .ok (.ldc idx, 2)) (hp : am_lk (am_pc.get (am_own mm.1)) idx = some (z, w)) (kk : am_J G mm A p l e R s m args below meth c Q c0 s0 sc AD0 (pc + 2) L (.inl z :: S) ω) : am_J G mm A p l e R s m args below meth c Q c0 s0 sc AD0 pc L S ω := by
  intro AD H locs ls cells slots hF hL hS hR hV hc hs hsc
  obtain ⟨h1, h2⟩ := am_okq_at (am_own_lt mm.1) hp
  refine lv_ldc C.1 C.2.1 C.2.2.2.1 (C.2.2.2.2.1 _ h1) hd ?_
  exact kk AD H locs ls cells slots hF hL (am_okS_c (v := .inl z) h2 hS) hR hV hc hs hsc
theorem aj_ldcw {idx w : Nat} {z : Int} (C : am_Cx G mm A p R s m args meth c sc) (hd : decode (am_by.get mm.1) pc = .ok (.ldc_w idx, 3)) (hp : am_lk (am_pc.get (am_own mm.1)) idx = some (z, w)) (kk : am_J G mm A p l e R s m args below meth c Q c0 s0 sc AD0 (pc + 3) L (.inl z :: S) ω) : am_J G mm A p l e R s m args below meth c Q c0 s0 sc AD0 pc L S ω := by
  intro AD H locs ls cells slots hF hL hS hR hV hc hs hsc
  obtain ⟨h1, h2⟩ := am_okq_at (am_own_lt mm.1) hp
  refine lv_ldcw C.1 C.2.1 C.2.2.2.1 (C.2.2.2.2.1 _ h1) hd ?_
  exact kk AD H locs ls cells slots hF hL (am_okS_c (v := .inl z) h2 hS) hR hV hc hs hsc
theorem aj_ldc2 {idx w : Nat} {z : Int} (C : am_Cx G mm A p R s m args meth c sc) (hd : decode (am_by.get mm.1) pc = .ok (.ldc2_w idx, 3)) (hp : am_lk (am_pl.get (am_own mm.1)) idx = some (z, w)) (kk : am_J G mm A p l e R s m args below meth c Q c0 s0 sc AD0 (pc + 3) L (.inr (.inl z) :: S) ω) : am_J G mm A p l e R s m args below meth c Q c0 s0 sc AD0 pc L S ω := by
  intro AD H locs ls cells slots hF hL hS hR hV hc hs hsc
  obtain ⟨h1, h2⟩ := am_okl_at (am_own_lt mm.1) hp
  refine lv_ldc2 C.1 C.2.1 C.2.2.2.1 (C.2.2.2.2.1 _ h1) hd ?_
  exact kk AD H locs ls cells slots hF hL (am_okS_c (v := .inr (.inl z)) h2 hS) hR hV hc hs hsc
theorem aj_ldcS {idx k w : Nat} (C : am_Cx G mm A p R s m args meth c sc) (hd : decode (am_by.get mm.1) pc = .ok (.ldc idx, 2)) (hp : am_lk (am_ps.get (am_own mm.1)) idx = some (k, w)) (kk : am_J G mm A p l e R s m args below meth c Q c0 s0 sc AD0 (pc + 2) L (.inr (.inr (-3 - (k : Int))) :: S) ω) : am_J G mm A p l e R s m args below meth c Q c0 s0 sc AD0 pc L S ω := by
  intro AD H locs ls cells slots hF hL hS hR hV hc hs hsc
  have h6 := am_okx_at (am_own_lt mm.1) hp
  have hst := C.2.2.2.2.2.2.2.2.2.2.1.2.2 _ _ _ _ hp
  refine va_ldcS C.1 C.2.1 C.2.2.2.1 hst hd ?_
  have ev : am_mv G AD (.inr (.inr (-3 - (k : Int)))) = .ref (G.2.2.2.1 k) := by
    show am_mr G AD _ = _
    unfold am_mr
    rw [if_neg (by omega), if_neg (by omega), if_neg (by omega), show (-3 - (-3 - (k : Int))).toNat = k by omega]
  rw [← ev]
  exact kk AD H locs ls cells slots hF hL (am_okS_c (v := .inr (.inr _)) (show -9 < -3 - (k : Int) ∧ -3 - (k : Int) < (ω.1.length : Int) by omega) hS) hR hV hc hs hsc
end AM
end
section
theorem am_wds_of {w : Cond} (h : w ∈ lw_tbl) (hg : goodWord w = true) : w ∈ am_wds := List.mem_filter.mpr ⟨h, hg⟩
theorem am_arr_1 : Cond.arrayClass .int ∈ lw_tbl := List.mem_of_getElem? (i := 139) (by decide +kernel)
theorem am_arr_2 : Cond.arrayClass .long ∈ lw_tbl := List.mem_of_getElem? (i := 239) (by decide +kernel)
/-! ===== new cells ===== -/
section AN
variable {G : am_G} {mm : am_M} {A : Nat → Prop} {p : Program} {l : Launch} {e : Env} {R : Room} {s : State} {m : MethodId} {args : Array Value} {below : List Frame} {meth : Method} {c : Code} {Q : State → Prop} {c0 s0 : Nat} {sc : Nat × (Nat → Int)} {AD0 : List Nat} {pc : Nat} {L : am_L} {S : List am_V} {ω : am_W}
theorem am_sl_app (τ τ' : List (Nat × Nat)) : am_sl (τ ++ τ') = am_sl τ + am_sl τ' := by simp [am_sl]
theorem am_words_S (G : am_G) (AD : List Nat) : ∀ S : List am_V, ((S.map (am_mv G AD)).map fun v => v.category).sum = am_words S
  | [] => rfl
  | .inl z :: S => by
    have ih := am_words_S G AD S
    rw [List.map_cons, List.map_cons, List.sum_cons, ih]
    rfl
  | .inr (.inl z) :: S => by
    have ih := am_words_S G AD S
    rw [List.map_cons, List.map_cons, List.sum_cons, ih]
    rfl
  | .inr (.inr z) :: S => by
    have ih := am_words_S G AD S
    rw [List.map_cons, List.map_cons, List.sum_cons, ih]
    show (am_mr G AD z).category + am_words S = 1 + am_words S
    rw [am_cat]
theorem am_oks_a {kd n : Nat} (h1 : 100 ≤ kd) (h2 : kd ≤ 104) (h3 : n < 2147483648) : am_oks (kd, n) := Or.inr ⟨h1, h2, h3⟩
theorem am_kk_new {pc2 : Nat} {q : Nat × Nat} {d : Nat → Int} {AD : List Nat} {H H1 : Heap} {locs : List Loc} {ls : Array Slot} {cells slots x : Nat} {E : va_E} (kk : am_J G mm A p l e R s m args below meth c Q c0 s0 sc AD0 pc2 L (.inr (.inr (ω.1.length : Int)) :: S) (am_new ω q d)) (hF : am_Fr G AD (am_max mm.1) L ls) (hL : am_okL ω.1.length L) (hS : am_okS ω.1.length S) (hR : am_Rl G A AD ω H) (hV : am_VS A s.heap AD0 AD H locs) (hc : cells + c0 = ω.1.length) (hs : slots + s0 = am_sl ω.1) (hsc : ω.2.2 = sc)
    (hq : am_oks q) (hd : ∀ j, am_okc (ω.1.length + 1) q.1 j (d j)) (hE : E = am_enc G (AD ++ [x]) q d) (hP1 : va_P G.1 vwCl (am_ws G AD ω ++ [(x, E)]) H1) (hD1 : va_D A (am_ws G AD ω ++ [(x, E)])) (hS1 : va_S A s.heap H1 locs) :
    W p l e R s m args below meth c H1 locs (cells + 1) (slots + q.2) Q (F0 m pc2 ls (.ref x :: S.map (am_mv G AD))) := by
  rw [am_ws_new hR.1 hR.2.1 hE] at hP1 hD1
  have hl : (am_new ω q d).1.length = ω.1.length + 1 := by
    show (ω.1 ++ [q]).length = _
    simp
  have ev : am_mv G (AD ++ [x]) (.inr (.inr (ω.1.length : Int))) = .ref x := by
    show am_mr G (AD ++ [x]) _ = _
    rw [show am_mr G (AD ++ [x]) (ω.1.length : Int) = .ref ((AD ++ [x]).getD ((ω.1.length : Int)).toNat 0) from if_pos (by omega)]
    rw [Int.toNat_natCast, ← hR.1]
    simp
  have k2 := kk (AD ++ [x]) H1 locs ls (cells + 1) (slots + q.2) (am_Fr_ext [x] hR.1.symm hF hL) (by rw [hl]; exact am_okL_up hL (Nat.le_succ _)) (by
    rw [hl]
    exact am_okS_c (v := .inr (.inr _)) (show -9 < (ω.1.length : Int) ∧ (ω.1.length : Int) < ((ω.1.length + 1 : Nat) : Int) by omega) (am_okS_up hS (Nat.le_succ _))) ⟨by rw [hl]; simp [hR.1], am_okw_new hR.2.1 hq hd, hP1, hD1⟩ ⟨hS1, List.IsPrefix.trans hV.2 (List.prefix_append _ _)⟩ (by rw [hl]; omega) (by show slots + q.2 + s0 = am_sl (ω.1 ++ [q]); rw [am_sl_app]; simp [am_sl] at hs ⊢; omega) hsc
  have k3 : W p l e R s m args below meth c H1 locs (cells + 1) (slots + q.2) Q (F0 m pc2 ls (am_mv G (AD ++ [x]) (.inr (.inr (ω.1.length : Int))) :: S.map (am_mv G (AD ++ [x])))) := k2
  rw [ev, am_map_ext [x] hR.1.symm hS] at k3
  exact k3
theorem am_d0_ok (ci n j : Nat) (h : ci < 8) : am_okc n ci j (am_d0 ci j) := by
  unfold am_okc am_d0
  rw [if_pos h]
  by_cases h2 : am_fk ci j = 2
  · rw [if_pos h2, if_pos h2]; omega
  · rw [if_neg h2, if_neg h2]; unfold am_R32; omega
theorem am_fv_d0 (AD : List Nat) (ci j : Nat) : am_fv AD (am_fk ci j) (am_d0 ci j) = if am_fk ci j = 2 then .null else .int 0 := by
  unfold am_fv am_d0
  by_cases h2 : am_fk ci j = 2
  · rw [if_pos h2, if_pos h2, if_pos h2]; rfl
  · rw [if_neg h2, if_neg h2, if_neg h2]; rfl
theorem aj_new {idx ci w : Nat} (C : am_Cx G mm A p R s m args meth c sc) (hd : decode (am_by.get mm.1) pc = .ok (.new idx, 3)) (hp : am_lk (am_pn.get (am_own mm.1)) idx = some (ci, w)) (hci : ci < 8) (hb : ω.1.length + 1 ≤ c0 + R.cells ∧ am_sl ω.1 + am_nf ci ≤ s0 + R.slots) (kk : am_J G mm A p l e R s m args below meth c Q c0 s0 sc AD0 (pc + 3) L (.inr (.inr (ω.1.length : Int)) :: S) (am_new ω (ci, am_nf ci) (am_d0 ci))) : am_J G mm A p l e R s m args below meth c Q c0 s0 sc AD0 pc L S ω := by
  intro AD H locs ls cells slots hF hL hS hR hV hc hs hsc
  obtain ⟨rr, g1, g2, g3, g4, ⟨ty0, g5, g6⟩, g7, g8⟩ := am_cls hci
  obtain ⟨hA, hW, hP, hD⟩ := id hR
  have hln := am_okn_at (am_own_lt mm.1) hp
  rw [if_pos hci, ← g3] at hln
  have hi1 := am_wds_of (am_ini_c ci hci).1 rfl
  have hi2 := am_wds_of (am_ini_c ci hci).2 rfl
  rw [← g3, ← g2] at hi1
  rw [← g3] at hi2
  have hfs : ∀ j, j < rr.2.2 → defaultValue (ty0 j) = vp_V ((List.range (am_nf ci)).map (fun j => am_fv AD (am_fk ci j) (am_d0 ci j))) j := by
    intro j hj
    have ht := g6 j hj
    rw [g2] at hj
    unfold vp_V
    rw [List.getD_eq_getElem?_getD, List.getElem?_map, List.getElem?_range hj]
    show _ = am_fv AD (am_fk ci j) (am_d0 ci j)
    rw [am_fv_d0]
    match hk : am_fk ci j, ht with
    | 0, ht => cases hty : ty0 j <;> first | (rw [hty, hk] at ht; cases ht; done) | (rw [hty] at ht; cases ht; done) | rfl
    | 1, ht => cases hty : ty0 j <;> first | (rw [hty, hk] at ht; cases ht; done) | (rw [hty] at ht; cases ht; done) | rfl
    | 2, ht => cases hty : ty0 j <;> first | (rw [hty, hk] at ht; cases ht; done) | (rw [hty] at ht; cases ht; done) | rfl
    | n + 3, ht => cases hty : ty0 j <;> (rw [hty] at ht; cases ht)
  refine va_new (D := G.1) (cl := vwCl) (tys := am_tys G) (C := rr.1) (T := rr.2.1) (N := rr.2.2) (Ts := am_wds) C.1 C.2.1 C.2.2.2.2.1 g4 ty0 g5 C.2.2.2.1 (C.2.2.2.2.1 _ hln) (C.2.2.2.2.1 _ hi1) (C.2.2.2.2.1 _ hi2) C.2.2.2.2.2.2.2.2.1 hP hD hV.1 C.2.2.2.2.2.2.2.2.2.2.2.2.2.1 g1 hfs (by omega) (by rw [g2]; omega) hd (fun q H1 hP1 hD1 hS1 => ?_)
  rw [g2]
  refine am_kk_new (q := (ci, am_nf ci)) kk hF hL hS hR hV hc hs hsc (Or.inl ⟨hci, rfl⟩) (fun j => am_d0_ok ci _ j hci) ?_ hP1 hD1 hS1
  rw [am_enc_o hci]
  congr 2
  apply List.map_congr_left
  intro j _
  rw [am_fv_d0, am_fv_d0]
theorem am_cA {cA cB : ClassId} {ty : FieldType} (hK : va_K G.1 vwCl (am_tys G) s) (h2 : va_K G.1 vwCl (am_tys G ++ [(cA, ty)]) s) {t0 : Nat} (ht : (am_tys G)[t0]? = some (cB, ty)) : cA = cB := by
  have a := (h2.2 5 (cA, ty) rfl).2
  have b := (hK.2 t0 _ ht).2
  cases ty with
  | object C =>
    obtain ⟨_, _, _, _, _, h4⟩ := a
    obtain ⟨_, _, _, _, _, h5⟩ := b
    exact Option.some.inj (h4.symm.trans h5)
  | _ => exact Option.some.inj (a.symm.trans b)
theorem aj_newarrayI {n : Int} (C : am_Cx G mm A p R s m args meth c sc) (hd : decode (am_by.get mm.1) pc = .ok (.newarray .int, 2)) (h0 : 0 ≤ n) (h1 : n ≤ 100000) (hb : ω.1.length + 1 ≤ c0 + R.cells ∧ am_sl ω.1 + n.toNat ≤ s0 + R.slots) (kk : am_J G mm A p l e R s m args below meth c Q c0 s0 sc AD0 (pc + 2) L (.inr (.inr (ω.1.length : Int)) :: S) (am_new ω (100, n.toNat) (fun _ => 0))) : am_J G mm A p l e R s m args below meth c Q c0 s0 sc AD0 pc L (.inl n :: S) ω := by
  intro AD H locs ls cells slots hF hL hS hR hV hc hs hsc
  obtain ⟨hA, hW, hP, hD⟩ := id hR
  have hn : am_R32 n := am_okS_h hS
  refine va_newa (D := G.1) (cl := vwCl) (tys := am_tys G) (atype := .int) (ty := .int) (a0 := (n.toNat, .inl (fun _ => 0))) (N' := n.toNat) C.1 C.2.1 (C.2.2.2.2.1 (.arrayClass .int) (am_wds_of am_arr_1 rfl)) rfl C.2.2.2.2.2.2.2.2.1 hP hD hV.1 C.2.2.2.2.2.2.2.2.2.2.2.2.2.1 (fun cA => vp_cell_i cA _ _) (nu_pos hn h0) (nu_clamp hn h0) (show n.toNat * 4 ≤ 536870912 by omega) (by omega) (by omega) hd (fun q cA H1 hK2 hP1 hD1 hS1 => ?_)
  have ec : cA = am_ca G 100 := am_cA C.2.2.2.2.2.2.2.2.1 hK2 (t0 := 0) rfl
  subst ec
  exact am_kk_new (q := (100, n.toNat)) kk hF hL (am_okS_t hS) hR hV hc hs hsc (am_oks_a (by decide) (by decide) (by omega)) (fun j => show am_R32 0 by unfold am_R32; omega) (by rw [am_enc_i]; rfl) hP1 hD1 hS1
theorem aj_newarrayL {n : Int} (C : am_Cx G mm A p R s m args meth c sc) (hd : decode (am_by.get mm.1) pc = .ok (.newarray .long, 2)) (h0 : 0 ≤ n) (h1 : n ≤ 100000) (hb : ω.1.length + 1 ≤ c0 + R.cells ∧ am_sl ω.1 + n.toNat ≤ s0 + R.slots) (kk : am_J G mm A p l e R s m args below meth c Q c0 s0 sc AD0 (pc + 2) L (.inr (.inr (ω.1.length : Int)) :: S) (am_new ω (101, n.toNat) (fun _ => 0))) : am_J G mm A p l e R s m args below meth c Q c0 s0 sc AD0 pc L (.inl n :: S) ω := by
  intro AD H locs ls cells slots hF hL hS hR hV hc hs hsc
  obtain ⟨hA, hW, hP, hD⟩ := id hR
  have hn : am_R32 n := am_okS_h hS
  refine va_newa (D := G.1) (cl := vwCl) (tys := am_tys G) (atype := .long) (ty := .long) (a0 := (n.toNat, .inr (.inl (fun _ => 0)))) (N' := n.toNat) C.1 C.2.1 (C.2.2.2.2.1 (.arrayClass .long) (am_wds_of am_arr_2 rfl)) rfl C.2.2.2.2.2.2.2.2.1 hP hD hV.1 C.2.2.2.2.2.2.2.2.2.2.2.2.2.1 (fun cA => vp_cell_l cA _ _) (nu_pos hn h0) (nu_clamp hn h0) (show n.toNat * 8 ≤ 536870912 by omega) (by omega) (by omega) hd (fun q cA H1 hK2 hP1 hD1 hS1 => ?_)
  have ec : cA = am_ca G 101 := am_cA C.2.2.2.2.2.2.2.2.1 hK2 (t0 := 1) rfl
  subst ec
  exact am_kk_new (q := (101, n.toNat)) kk hF hL (am_okS_t hS) hR hV hc hs hsc (am_oks_a (by decide) (by decide) (by omega)) (fun j => show am_R64 0 by unfold am_R64; omega) (by rw [am_enc_l]; rfl) hP1 hD1 hS1
theorem aj_anewarrayV {idx w : Nat} {n : Int} (C : am_Cx G mm A p R s m args meth c sc) (hd : decode (am_by.get mm.1) pc = .ok (.anewarray idx, 3)) (hp : am_lk (am_pn.get (am_own mm.1)) idx = some (4, w)) (h0 : 0 ≤ n) (h1 : n ≤ 100000) (hb : ω.1.length + 1 ≤ c0 + R.cells ∧ am_sl ω.1 + n.toNat ≤ s0 + R.slots) (kk : am_J G mm A p l e R s m args below meth c Q c0 s0 sc AD0 (pc + 3) L (.inr (.inr (ω.1.length : Int)) :: S) (am_new ω (102, n.toNat) (fun _ => -1))) : am_J G mm A p l e R s m args below meth c Q c0 s0 sc AD0 pc L (.inl n :: S) ω := by
  intro AD H locs ls cells slots hF hL hS hR hV hc hs hsc
  obtain ⟨hA, hW, hP, hD⟩ := id hR
  have hn : am_R32 n := am_okS_h hS
  have hln := am_okn_at (am_own_lt mm.1) hp
  rw [if_pos (by decide), show am_cn 4 = RX4 from rfl] at hln
  refine va_newq (D := G.1) (cl := vwCl) (tys := am_tys G) (C := RX4) (N' := n.toNat) C.1 C.2.1 C.2.2.2.1 (C.2.2.2.2.1 _ hln) C.2.2.2.2.2.2.2.2.2.2.2.2.2.2.2.1 C.2.2.2.2.2.2.2.2.1 hP hD hV.1 C.2.2.2.2.2.2.2.2.2.2.2.2.2.1 (nu_pos hn h0) (nu_clamp hn h0) (by omega) (by omega) (by omega) hd (fun q cA H1 hK2 hP1 hD1 hS1 => ?_)
  have ec : cA = am_ca G 102 := am_cA C.2.2.2.2.2.2.2.2.1 hK2 (t0 := 2) rfl
  subst ec
  exact am_kk_new (q := (102, n.toNat)) kk hF hL (am_okS_t hS) hR hV hc hs hsc (am_oks_a (by decide) (by decide) (by omega)) (fun j => (am_okc_q (kd := 102) (by decide)).mpr (by omega)) (by rw [am_enc_q (by decide)]; rfl) hP1 hD1 hS1
theorem aj_anewarrayS {idx w : Nat} {n : Int} (C : am_Cx G mm A p R s m args meth c sc) (hd : decode (am_by.get mm.1) pc = .ok (.anewarray idx, 3)) (hp : am_lk (am_pn.get (am_own mm.1)) idx = some (2, w)) (h0 : 0 ≤ n) (h1 : n ≤ 100000) (hb : ω.1.length + 1 ≤ c0 + R.cells ∧ am_sl ω.1 + n.toNat ≤ s0 + R.slots) (kk : am_J G mm A p l e R s m args below meth c Q c0 s0 sc AD0 (pc + 3) L (.inr (.inr (ω.1.length : Int)) :: S) (am_new ω (103, n.toNat) (fun _ => -1))) : am_J G mm A p l e R s m args below meth c Q c0 s0 sc AD0 pc L (.inl n :: S) ω := by
  intro AD H locs ls cells slots hF hL hS hR hV hc hs hsc
  obtain ⟨hA, hW, hP, hD⟩ := id hR
  have hn : am_R32 n := am_okS_h hS
  have hln := am_okn_at (am_own_lt mm.1) hp
  rw [if_pos (by decide), show am_cn 2 = RX2 from rfl] at hln
  refine va_newq (D := G.1) (cl := vwCl) (tys := am_tys G) (C := RX2) (N' := n.toNat) C.1 C.2.1 C.2.2.2.1 (C.2.2.2.2.1 _ hln) C.2.2.2.2.2.2.2.2.2.2.2.2.2.2.2.2.1 C.2.2.2.2.2.2.2.2.1 hP hD hV.1 C.2.2.2.2.2.2.2.2.2.2.2.2.2.1 (nu_pos hn h0) (nu_clamp hn h0) (by omega) (by omega) (by omega) hd (fun q cA H1 hK2 hP1 hD1 hS1 => ?_)
  have ec : cA = am_ca G 103 := am_cA C.2.2.2.2.2.2.2.2.1 hK2 (t0 := 3) rfl
  subst ec
  exact am_kk_new (q := (103, n.toNat)) kk hF hL (am_okS_t hS) hR hV hc hs hsc (am_oks_a (by decide) (by decide) (by omega)) (fun j => (am_okc_q (kd := 103) (by decide)).mpr (by omega)) (by rw [am_enc_q (by decide)]; rfl) hP1 hD1 hS1
theorem am_ws_newg {AD : List Nat} {x n k : Nat} {r : Nat → Nat} (hn : AD.length = ω.1.length) (hw : am_okw ω) (h : ∀ i, i < n → (AD ++ (x :: (List.range n).map r)).getD (ω.1.length + 1 + i) 0 = r i) (hx : (AD ++ (x :: (List.range n).map r)).getD ω.1.length 0 = x) : am_ws G AD ω ++ [(x, .inl (am_ca G 104, n, .inr (.inr (.inr (.inr (fun i => if i < n then some (r i) else none))))))] ++ (List.range n).map (fun i => (r i, .inl (am_ca G 100, k, .inl (fun _ => 0)))) = am_ws G (AD ++ (x :: (List.range n).map r)) (am_newg ω n k) := by
  have hlen : (am_newg ω n k).1.length = ω.1.length + 1 + n := by
    show (ω.1 ++ ((104, n) :: List.replicate n (100, k))).length = _
    simp; omega
  apply List.ext_getElem?
  intro i
  by_cases h1 : i < ω.1.length
  · rw [List.append_assoc, List.getElem?_append_left (by rw [am_ws_len]; exact h1)]
    have hq : ω.1[i]? = some ω.1[i] := List.getElem?_eq_getElem h1
    have hq2 : (am_newg ω n k).1[i]? = some ω.1[i] := by
      show (ω.1 ++ _)[i]? = _
      rw [List.getElem?_append_left h1]; exact hq
    rw [am_ws_at hq, am_ws_at hq2]
    have e1 : (AD ++ (x :: (List.range n).map r)).getD i 0 = AD.getD i 0 := by
      simp only [List.getD_eq_getElem?_getD]
      rw [List.getElem?_append_left (by omega)]
    have e2 : (am_newg ω n k).2.1 i = ω.2.1 i := by
      funext j
      show (if i = ω.1.length then _ else if ω.1.length < i ∧ i ≤ ω.1.length + n then _ else ω.2.1 i j) = _
      rw [if_neg (by omega), if_neg (by omega)]
    rw [e1, e2, am_enc_ext _ hn.symm ((hw.1 i _ hq).2)]
  · by_cases h2 : i = ω.1.length
    · subst h2
      rw [List.append_assoc, List.getElem?_append_right (by rw [am_ws_len]; exact Nat.le_refl _), am_ws_len, Nat.sub_self]
      have hq2 : (am_newg ω n k).1[ω.1.length]? = some (104, n) := by
        show (ω.1 ++ _)[ω.1.length]? = _
        simp
      rw [am_ws_at hq2, hx, am_enc_q (by decide)]
      refine congrArg (fun f : Nat → Option Nat => some (x, (.inl (am_ca G 104, n, .inr (.inr (.inr (.inr f)))) : va_E))) (funext fun j => ?_)
      show _ = am_rf _ (if ω.1.length = ω.1.length then (if j < n then ((ω.1.length + 1 + j : Nat) : Int) else -1) else _)
      rw [if_pos rfl]
      by_cases hj : j < n
      · rw [if_pos hj, if_pos hj]
        unfold am_rf
        rw [if_pos (by omega), Int.toNat_natCast, h j hj]
      · rw [if_neg hj, if_neg hj]
        rfl
    · by_cases h3 : i < ω.1.length + 1 + n
      · obtain ⟨j, rfl⟩ : ∃ j, i = ω.1.length + 1 + j := ⟨i - (ω.1.length + 1), by omega⟩
        have hj : j < n := by omega
        rw [List.getElem?_append_right (by simp [am_ws_len])]
        have e0 : ω.1.length + 1 + j - (am_ws G AD ω ++ [(x, (.inl (am_ca G 104, n, .inr (.inr (.inr (.inr (fun i => if i < n then some (r i) else none))))) : va_E))]).length = j := by simp [am_ws_len]
        rw [e0, List.getElem?_map, List.getElem?_range hj]
        have hq2 : (am_newg ω n k).1[ω.1.length + 1 + j]? = some (100, k) := by
          show (ω.1 ++ ((104, n) :: List.replicate n (100, k)))[ω.1.length + 1 + j]? = _
          rw [List.getElem?_append_right (by omega), show ω.1.length + 1 + j - ω.1.length = j + 1 by omega, List.getElem?_cons_succ, List.getElem?_replicate, if_pos hj]
        rw [am_ws_at hq2, h j hj, am_enc_i]
        refine congrArg (fun f : Nat → Int32 => some (r j, (.inl (am_ca G 100, k, .inl f) : va_E))) (funext fun t => ?_)
        show (0 : Int32) = Int32.ofInt (if ω.1.length + 1 + j = ω.1.length then _ else if ω.1.length < ω.1.length + 1 + j ∧ ω.1.length + 1 + j ≤ ω.1.length + n then 0 else _)
        rw [if_neg (by omega), if_pos (by omega)]
        rfl
      · rw [List.getElem?_eq_none (by simp [am_ws_len]; omega), List.getElem?_eq_none (by rw [am_ws_len, hlen]; omega)]
theorem am_okw_newg {n k : Nat} (hw : am_okw ω) (hk : k < 2147483648) (hn : n < 2147483648) : am_okw (am_newg ω n k) := by
  have hlen : (am_newg ω n k).1.length = ω.1.length + 1 + n := by
    show (ω.1 ++ ((104, n) :: List.replicate n (100, k))).length = _
    simp; omega
  refine ⟨fun i x hx => ?_, hw.2⟩
  rw [hlen]
  have hx : (ω.1 ++ ((104, n) :: List.replicate n (100, k)))[i]? = some x := hx
  by_cases h1 : i < ω.1.length
  · rw [List.getElem?_append_left h1] at hx
    obtain ⟨g1, g2⟩ := hw.1 i x hx
    refine ⟨g1, fun j => ?_⟩
    show am_okc _ x.1 j (if i = ω.1.length then _ else if ω.1.length < i ∧ i ≤ ω.1.length + n then _ else ω.2.1 i j)
    rw [if_neg (by omega), if_neg (by omega)]
    exact am_okc_up (g2 j) (by omega)
  · rw [List.getElem?_append_right (by omega)] at hx
    by_cases h2 : i = ω.1.length
    · subst h2
      rw [Nat.sub_self] at hx
      have e : (104, n) = x := Option.some.inj hx
      subst e
      refine ⟨am_oks_a (by decide) (by decide) hn, fun j => (am_okc_q (kd := 104) (by decide)).mpr ?_⟩
      show -1 ≤ (if ω.1.length = ω.1.length then (if j < n then ((ω.1.length + 1 + j : Nat) : Int) else -1) else _) ∧ (if ω.1.length = ω.1.length then (if j < n then ((ω.1.length + 1 + j : Nat) : Int) else -1) else _) < _
      rw [if_pos rfl]
      split <;> omega
    · obtain ⟨t, ht⟩ : ∃ t, i - ω.1.length = t + 1 := ⟨i - ω.1.length - 1, by omega⟩
      rw [ht, List.getElem?_cons_succ, List.getElem?_replicate] at hx
      by_cases ht2 : t < n
      · rw [if_pos ht2] at hx
        have e : (100, k) = x := Option.some.inj hx
        subst e
        refine ⟨am_oks_a (by decide) (by decide) hk, fun j => ?_⟩
        show am_R32 (if i = ω.1.length then _ else if ω.1.length < i ∧ i ≤ ω.1.length + n then 0 else _)
        rw [if_neg h2, if_pos (by omega)]
        unfold am_R32; omega
      · rw [if_neg ht2] at hx
        cases hx
theorem aj_multianewarray {idx w : Nat} {n k : Int} (C : am_Cx G mm A p R s m args meth c sc) (hd : decode (am_by.get mm.1) pc = .ok (.multianewarray idx 2, 4)) (hp : am_lk (am_pn.get (am_own mm.1)) idx = some (104, w)) (h0 : 0 ≤ n) (h1 : n ≤ 1000) (h2 : 0 ≤ k) (h3 : k ≤ 100000) (hb : ω.1.length + (1 + n.toNat) ≤ c0 + R.cells ∧ am_sl ω.1 + (n.toNat + n.toNat * k.toNat) ≤ s0 + R.slots) (kk : am_J G mm A p l e R s m args below meth c Q c0 s0 sc AD0 (pc + 4) L (.inr (.inr (ω.1.length : Int)) :: S) (am_newg ω n.toNat k.toNat)) : am_J G mm A p l e R s m args below meth c Q c0 s0 sc AD0 pc L (.inl k :: .inl n :: S) ω := by
  intro AD H locs ls cells slots hF hL hS hR hV hc hs hsc
  obtain ⟨hA, hW, hP, hD⟩ := id hR
  have hk : am_R32 k := am_okS_h hS
  have hn : am_R32 n := am_okS_h (am_okS_t hS)
  have hS2 := am_okS_t (am_okS_t hS)
  have hln := am_okn_at (am_own_lt mm.1) hp
  rw [if_neg (by decide)] at hln
  have hcy : s.vm.findClass (FieldType.array .int).toString = some (am_ca G 100) := (C.2.2.2.2.2.2.2.2.1.2 0 _ rfl).2
  have hP' : va_P G.1 vwCl (am_ws G AD ω ++ va_pl [] (fun _ => (.inr (0, []) : va_E))) H := by rw [show am_ws G AD ω ++ va_pl [] (fun _ => (.inr (0, []) : va_E)) = am_ws G AD ω from List.append_nil _]; exact hP
  have hD' : va_D A (am_ws G AD ω ++ va_pl [] (fun _ => (.inr (0, []) : va_E))) := by rw [show am_ws G AD ω ++ va_pl [] (fun _ => (.inr (0, []) : va_E)) = am_ws G AD ω from List.append_nil _]; exact hD
  refine va_mna (D := G.1) (cl := vwCl) (tys := am_tys G) (ty := .int) (X := am_ws G AD ω) (L := []) (N' := n.toNat) (K' := k.toNat) (z := (k.toNat, .inl (fun _ => 0))) C.1 C.2.1 C.2.2.2.1 (C.2.2.2.2.1 _ hln) C.2.2.2.2.2.2.2.2.2.2.2.2.2.2.2.2.2 (C.2.2.2.2.1 (.arrayClass .int) (am_wds_of am_arr_1 rfl)) hcy C.2.2.2.2.2.2.2.2.1 hP' hD' hV.1 C.2.2.2.2.2.2.2.2.2.2.2.2.2.1 (nu_pos hn h0) (nu_pos hk h2) (nu_clamp hn h0) (nu_clamp hk h2) (by omega) (show k.toNat * 4 ≤ 536870912 by omega) (by omega) rfl rfl (by omega) (by omega) (fun cA => ?_) hd (fun x r cA H1 hinj hnl hK2 hP1 hD1 hS1 => ?_)
  · rw [show vp_cell cA (k.toNat, .inl (fun _ => 0)) = arrV cA k.toNat (fun _ => .int 0) from rfl, ← arrV_new]
    rfl
  have ec : cA = am_ca G 104 := am_cA C.2.2.2.2.2.2.2.2.1 hK2 (t0 := 4) rfl
  subst ec
  have hl : (am_newg ω n.toNat k.toNat).1.length = ω.1.length + 1 + n.toNat := by
    show (ω.1 ++ ((104, n.toNat) :: List.replicate n.toNat (100, k.toNat))).length = _
    simp; omega
  have er : va_pl ([] ++ (List.range n.toNat).map r) (vr_up (fun _ => (.inr (0, []) : va_E)) ((List.range n.toNat).map r) (.inl (am_ca G 100, k.toNat, .inl (fun _ => 0)))) = (List.range n.toNat).map (fun i => (r i, .inl (am_ca G 100, k.toNat, .inl (fun _ => 0)))) := by
    rw [List.nil_append]
    unfold va_pl
    rw [List.map_map]
    apply List.map_congr_left
    intro i hi
    show (r i, vr_up _ _ _ (r i)) = _
    rw [vr_up_in (List.mem_map_of_mem hi)]
  have g1 : ∀ i, i < n.toNat → (AD ++ (x :: (List.range n.toNat).map r)).getD (ω.1.length + 1 + i) 0 = r i := by
    intro i hi
    rw [← hR.1, List.getD_eq_getElem?_getD, List.getElem?_append_right (by omega), show AD.length + 1 + i - AD.length = i + 1 by omega, List.getElem?_cons_succ, List.getElem?_map, List.getElem?_range hi]
    rfl
  have g2 : (AD ++ (x :: (List.range n.toNat).map r)).getD ω.1.length 0 = x := by
    rw [← hR.1]
    simp
  rw [er, am_ws_newg hR.1 hR.2.1 g1 g2] at hP1 hD1
  have ev : am_mv G (AD ++ (x :: (List.range n.toNat).map r)) (.inr (.inr (ω.1.length : Int))) = .ref x := by
    show am_mr G _ _ = _
    rw [show am_mr G (AD ++ (x :: (List.range n.toNat).map r)) (ω.1.length : Int) = .ref ((AD ++ (x :: (List.range n.toNat).map r)).getD ((ω.1.length : Int)).toNat 0) from if_pos (by omega), Int.toNat_natCast, g2]
  have k2 := kk (AD ++ (x :: (List.range n.toNat).map r)) H1 locs ls (cells + 1 + n.toNat) (slots + n.toNat + n.toNat * k.toNat) (am_Fr_ext _ hR.1.symm hF hL) (by rw [hl]; exact am_okL_up hL (by omega)) (by
    rw [hl]
    exact am_okS_c (v := .inr (.inr _)) (show -9 < (ω.1.length : Int) ∧ (ω.1.length : Int) < ((ω.1.length + 1 + n.toNat : Nat) : Int) by omega) (am_okS_up hS2 (by omega))) ⟨by rw [hl]; simp [hR.1]; omega, am_okw_newg hR.2.1 (by omega) (by omega), hP1, hD1⟩ ⟨hS1, List.IsPrefix.trans hV.2 (List.prefix_append _ _)⟩ (by rw [hl]; omega) (by
    show slots + n.toNat + n.toNat * k.toNat + s0 = am_sl (ω.1 ++ ((104, n.toNat) :: List.replicate n.toNat (100, k.toNat)))
    rw [am_sl_app]
    have : am_sl ((104, n.toNat) :: List.replicate n.toNat (100, k.toNat)) = n.toNat + n.toNat * k.toNat := by simp [am_sl]
    omega) hsc
  have k3 : W p l e R s m args below meth c H1 locs (cells + 1 + n.toNat) (slots + n.toNat + n.toNat * k.toNat) Q (F0 m (pc + 4) ls (am_mv G (AD ++ (x :: (List.range n.toNat).map r)) (.inr (.inr (ω.1.length : Int))) :: S.map (am_mv G (AD ++ (x :: (List.range n.toNat).map r))))) := k2
  rw [ev, am_map_ext _ hR.1.symm hS2] at k3
  exact k3
end AN
end
section
/-! ===== arraycopy, Object.<init>, calls ===== -/
theorem am_okp_at {o idx kd b na rk w w2 w3 w4 : Nat} (ho : o < 12) (h : am_lk (am_pm.get o) idx = some (kd, b, na, rk, w, w2, w3, w4)) : ¬ idx = 999999 ∧ am_okp o (idx, kd, b, na, rk, w, w2, w3, w4) = true := by
  have h1 : am_all (fun q : Nat × Nat × Nat × Nat × Nat × Nat × Nat × Nat × Nat => q.1 = 999999 ∨ (¬ q.1 = 999999 ∧ am_okp o q = true)) (am_pm.get o) := am_all_imp (fun q hq => by
    by_cases e : q.1 = 999999
    · exact Or.inl e
    · exact Or.inr ⟨e, hq⟩) (am_allb_all (am_okp_o ho))
  exact am_lk_of h1 h
theorem am_get_impl {α : Type} (t : Lean.RArray α) (k : Nat) : t.getImpl k = t.get k := (congrFun (congrFun (congrFun Lean.RArray.get_eq_getImpl α) t) k).symm
theorem am_cpw : Cond.native arraycopyName ∈ am_wds ∧ Cond.static arraycopyName ∈ am_wds ∧ Cond.initialized "java/lang/System" ∈ am_wds := ⟨am_wds_of (by decide +kernel) rfl, am_wds_of (by decide +kernel) rfl, am_wds_of (by decide +kernel) rfl⟩
theorem am_oiw : Cond.instanceMethod objectInit ∈ am_wds ∧ Cond.code objectInit ⟨#[0xb1]⟩ 1 none ∈ am_wds := ⟨am_wds_of (by decide +kernel) rfl, am_wds_of (by decide +kernel) rfl⟩
section AC
variable {G : am_G} {mm : am_M} {A : Nat → Prop} {p : Program} {l : Launch} {e : Env} {R : Room} {s : State} {m : MethodId} {args : Array Value} {below : List Frame} {meth : Method} {c : Code} {Q : State → Prop} {c0 s0 : Nat} {sc : Nat × (Nat → Int)} {AD0 : List Nat} {pc : Nat} {L : am_L} {S : List am_V} {ω : am_W}
theorem am_okw_cpy {a0 sp a1 dp n kd n0 n1 : Nat} (hw : am_okw ω) (h0 : ω.1[a0]? = some (kd, n0)) (h1 : ω.1[a1]? = some (kd, n1)) (hk : kd = 100 ∨ kd = 101) : am_okw (am_cpy ω a0 sp a1 dp n) := by
  refine ⟨fun i q hq => ?_, hw.2⟩
  obtain ⟨g1, g2⟩ := hw.1 i q hq
  refine ⟨g1, fun j => ?_⟩
  show am_okc ω.1.length q.1 j (if i = a1 ∧ (dp ≤ j ∧ j < dp + n) then ω.2.1 a0 (sp + (j - dp)) else ω.2.1 i j)
  by_cases h : i = a1 ∧ (dp ≤ j ∧ j < dp + n)
  · rw [if_pos h]
    obtain ⟨rfl, -⟩ := h
    have hq : ω.1[i]? = some q := hq
    rw [h1] at hq
    cases hq
    have := (hw.1 a0 _ h0).2 (sp + (j - dp))
    rcases hk with rfl | rfl
    · exact this
    · exact this
  · rw [if_neg h]
    exact g2 j
theorem am_nfw : nativeFrameWords "java/lang/System" "arraycopy" 5 ≤ 21 := by decide +kernel
theorem aj_acpyI {idx b na rk w w2 w3 w4 : Nat} {n dp r1 sp r0 : Int} (C : am_Cx G mm A p R s m args meth c sc) (hd : decode (am_by.get mm.1) pc = .ok (.invokestatic idx, 3)) (hp : am_lk (am_pm.get (am_own mm.1)) idx = some (7, b, na, rk, w, w2, w3, w4)) (hrk : 1 ≤ am_rk mm) (hws : am_words S ≤ 8) (hr0 : am_ar ω r0 100 = true) (hr1 : am_ar ω r1 100 = true) (h1 : 0 ≤ sp) (h2 : 0 ≤ dp) (h3 : 0 ≤ n) (h4 : sp + n ≤ am_len ω r0) (h5 : dp + n ≤ am_len ω r1) (kk : am_J G mm A p l e R s m args below meth c Q c0 s0 sc AD0 (pc + 3) L S (am_cpy ω r0.toNat sp.toNat r1.toNat dp.toNat n.toNat)) : am_J G mm A p l e R s m args below meth c Q c0 s0 sc AD0 pc L (.inl n :: .inl dp :: .inr (.inr r1) :: .inl sp :: .inr (.inr r0) :: S) ω := by
  intro AD H locs ls cells slots hF hL hS hR hV hc hs hsc
  obtain ⟨z0, n0, hq0, e0⟩ := am_ar_of hr0
  obtain ⟨z1, n1, hq1, e1⟩ := am_ar_of hr1
  rw [e0] at h4
  rw [e1] at h5
  have hn : am_R32 n := am_okS_h hS
  have hdp : am_R32 dp := am_okS_h (am_okS_t hS)
  have hsp : am_R32 sp := am_okS_h (am_okS_t (am_okS_t (am_okS_t hS)))
  have hS2 := am_okS_t (am_okS_t (am_okS_t (am_okS_t (am_okS_t hS))))
  obtain ⟨hA, hW, hP, hD⟩ := id hR
  have hat0 := am_ws_at (G := G) (AD := AD) hq0
  have hat1 := am_ws_at (G := G) (AD := AD) hq1
  rw [am_enc_i] at hat0 hat1
  obtain ⟨hne, hok⟩ := am_okp_at (am_own_lt mm.1) hp
  have hlk : lw_tbl[w]? = some (.methodLink (am_cn (am_own mm.1)) idx arraycopyName) := by
    unfold am_okp at hok
    rcases Bool.or_eq_true_iff.mp hok with q | q
    · exact absurd (Nat.eq_of_beq_eq_true q) hne
    · exact of_decide_eq_true q
  show W p l e R s m args below meth c H locs cells slots Q (F0 m pc ls (.int (Int32.ofInt n) :: .int (Int32.ofInt dp) :: am_mr G AD r1 :: .int (Int32.ofInt sp) :: am_mr G AD r0 :: S.map (am_mv G AD)))
  rw [am_mr_pos z0, am_mr_pos z1]
  have hfrm := C.2.2.2.2.2.2.2.2.2.2.2.1
  have hloc := C.2.2.2.2.2.2.2.2.2.2.2.2.1
  refine va_copyi (D := G.1) (cl := vwCl) (tys := am_tys G) (ty := .int) C.1 C.2.1 (by rw [C.2.2.1]; exact hF.2.1.symm) C.2.2.2.1 (C.2.2.2.2.1 _ (am_wd hlk rfl)) (C.2.2.2.2.1 _ am_cpw.1) (C.2.2.2.2.1 _ am_cpw.2.1) (C.2.2.2.2.1 _ am_cpw.2.2) C.2.2.2.2.2.2.2.2.1 hP hD hV.1 r0.toNat r1.toNat 0 0 hat0 hat1 rfl rfl rfl (nu_pos hsp h1) (nu_pos hdp h2) (nu_pos hn h3) (by rw [nu_clamp hsp h1, nu_clamp hn h3]; omega) (by rw [nu_clamp hdp h2, nu_clamp hn h3]; omega) (fun _ _ => rfl) (by omega) (by rw [am_words_S]; have := am_nfw; omega) hd (fun H1 locs1 hP1 hD1 hS1 => ?_)
  rw [nu_clamp hsp h1, nu_clamp hdp h2, nu_clamp hn h3] at hP1 hD1
  have ews : (am_ws G AD ω).set r1.toNat (AD.getD r1.toNat 0, .inl (am_ca G 100, n1, .inl (va_cpy (fun j => Int32.ofInt (ω.2.1 r0.toNat j)) (fun j => Int32.ofInt (ω.2.1 r1.toNat j)) sp.toNat dp.toNat n.toNat))) = am_ws G AD (am_cpy ω r0.toNat sp.toNat r1.toNat dp.toNat n.toNat) := by
    refine am_ws_set (g := fun a k => if a = r1.toNat ∧ (dp.toNat ≤ k ∧ k < dp.toNat + n.toNat) then ω.2.1 r0.toNat (sp.toNat + (k - dp.toNat)) else ω.2.1 a k) hq1 ?_ (fun i hi => ?_)
    · rw [am_enc_i]
      congr 4
      funext j
      unfold va_cpy
      by_cases h : dp.toNat ≤ j ∧ j < dp.toNat + n.toNat
      · rw [if_pos h, if_pos ⟨rfl, h⟩]
      · rw [if_neg h, if_neg (fun q => h q.2)]
    · funext j
      exact if_neg (fun q => hi q.1)
  rw [ews] at hP1 hD1
  exact kk AD H1 locs1 ls cells slots hF hL hS2 ⟨hA, am_okw_cpy hW hq0 hq1 (by decide), hP1, hD1⟩ ⟨hS1, hV.2⟩ hc hs hsc
theorem aj_acpyL {idx b na rk w w2 w3 w4 : Nat} {n dp r1 sp r0 : Int} (C : am_Cx G mm A p R s m args meth c sc) (hd : decode (am_by.get mm.1) pc = .ok (.invokestatic idx, 3)) (hp : am_lk (am_pm.get (am_own mm.1)) idx = some (7, b, na, rk, w, w2, w3, w4)) (hrk : 1 ≤ am_rk mm) (hws : am_words S ≤ 8) (hr0 : am_ar ω r0 101 = true) (hr1 : am_ar ω r1 101 = true) (h1 : 0 ≤ sp) (h2 : 0 ≤ dp) (h3 : 0 ≤ n) (h4 : sp + n ≤ am_len ω r0) (h5 : dp + n ≤ am_len ω r1) (kk : am_J G mm A p l e R s m args below meth c Q c0 s0 sc AD0 (pc + 3) L S (am_cpy ω r0.toNat sp.toNat r1.toNat dp.toNat n.toNat)) : am_J G mm A p l e R s m args below meth c Q c0 s0 sc AD0 pc L (.inl n :: .inl dp :: .inr (.inr r1) :: .inl sp :: .inr (.inr r0) :: S) ω := by
  intro AD H locs ls cells slots hF hL hS hR hV hc hs hsc
  obtain ⟨z0, n0, hq0, e0⟩ := am_ar_of hr0
  obtain ⟨z1, n1, hq1, e1⟩ := am_ar_of hr1
  rw [e0] at h4
  rw [e1] at h5
  have hn : am_R32 n := am_okS_h hS
  have hdp : am_R32 dp := am_okS_h (am_okS_t hS)
  have hsp : am_R32 sp := am_okS_h (am_okS_t (am_okS_t (am_okS_t hS)))
  have hS2 := am_okS_t (am_okS_t (am_okS_t (am_okS_t (am_okS_t hS))))
  obtain ⟨hA, hW, hP, hD⟩ := id hR
  have hat0 := am_ws_at (G := G) (AD := AD) hq0
  have hat1 := am_ws_at (G := G) (AD := AD) hq1
  rw [am_enc_l] at hat0 hat1
  obtain ⟨hne, hok⟩ := am_okp_at (am_own_lt mm.1) hp
  have hlk : lw_tbl[w]? = some (.methodLink (am_cn (am_own mm.1)) idx arraycopyName) := by
    unfold am_okp at hok
    rcases Bool.or_eq_true_iff.mp hok with q | q
    · exact absurd (Nat.eq_of_beq_eq_true q) hne
    · exact of_decide_eq_true q
  show W p l e R s m args below meth c H locs cells slots Q (F0 m pc ls (.int (Int32.ofInt n) :: .int (Int32.ofInt dp) :: am_mr G AD r1 :: .int (Int32.ofInt sp) :: am_mr G AD r0 :: S.map (am_mv G AD)))
  rw [am_mr_pos z0, am_mr_pos z1]
  have hfrm := C.2.2.2.2.2.2.2.2.2.2.2.1
  have hloc := C.2.2.2.2.2.2.2.2.2.2.2.2.1
  refine va_copyl (D := G.1) (cl := vwCl) (tys := am_tys G) (ty := .long) C.1 C.2.1 (by rw [C.2.2.1]; exact hF.2.1.symm) C.2.2.2.1 (C.2.2.2.2.1 _ (am_wd hlk rfl)) (C.2.2.2.2.1 _ am_cpw.1) (C.2.2.2.2.1 _ am_cpw.2.1) (C.2.2.2.2.1 _ am_cpw.2.2) C.2.2.2.2.2.2.2.2.1 hP hD hV.1 r0.toNat r1.toNat 1 1 hat0 hat1 rfl rfl rfl (nu_pos hsp h1) (nu_pos hdp h2) (nu_pos hn h3) (by rw [nu_clamp hsp h1, nu_clamp hn h3]; omega) (by rw [nu_clamp hdp h2, nu_clamp hn h3]; omega) (fun _ _ => rfl) (by omega) (by rw [am_words_S]; have := am_nfw; omega) hd (fun H1 locs1 hP1 hD1 hS1 => ?_)
  rw [nu_clamp hsp h1, nu_clamp hdp h2, nu_clamp hn h3] at hP1 hD1
  have ews : (am_ws G AD ω).set r1.toNat (AD.getD r1.toNat 0, .inl (am_ca G 101, n1, .inr (.inl (va_cpy (fun j => Int64.ofInt (ω.2.1 r0.toNat j)) (fun j => Int64.ofInt (ω.2.1 r1.toNat j)) sp.toNat dp.toNat n.toNat)))) = am_ws G AD (am_cpy ω r0.toNat sp.toNat r1.toNat dp.toNat n.toNat) := by
    refine am_ws_set (g := fun a k => if a = r1.toNat ∧ (dp.toNat ≤ k ∧ k < dp.toNat + n.toNat) then ω.2.1 r0.toNat (sp.toNat + (k - dp.toNat)) else ω.2.1 a k) hq1 ?_ (fun i hi => ?_)
    · rw [am_enc_l]
      congr 5
      funext j
      unfold va_cpy
      by_cases h : dp.toNat ≤ j ∧ j < dp.toNat + n.toNat
      · rw [if_pos h, if_pos ⟨rfl, h⟩]
      · rw [if_neg h, if_neg (fun q => h q.2)]
    · funext j
      exact if_neg (fun q => hi q.1)
  rw [ews] at hP1 hD1
  exact kk AD H1 locs1 ls cells slots hF hL hS2 ⟨hA, am_okw_cpy hW hq0 hq1 (by decide), hP1, hD1⟩ ⟨hS1, hV.2⟩ hc hs hsc
theorem aj_objInit {idx b na rk w w2 w3 w4 : Nat} {r : Int} (C : am_Cx G mm A p R s m args meth c sc) (hd : decode (am_by.get mm.1) pc = .ok (.invokespecial idx, 3)) (hp : am_lk (am_pm.get (am_own mm.1)) idx = some (6, b, na, rk, w, w2, w3, w4)) (hrk : 1 ≤ am_rk mm) (hr : 0 ≤ r) (hws : am_words S ≤ 8) (kk : am_J G mm A p l e R s m args below meth c Q c0 s0 sc AD0 (pc + 3) L S ω) : am_J G mm A p l e R s m args below meth c Q c0 s0 sc AD0 pc L (.inr (.inr r) :: S) ω := by
  intro AD H locs ls cells slots hF hL hS hR hV hc hs hsc
  obtain ⟨hne, hok⟩ := am_okp_at (am_own_lt mm.1) hp
  have hlk : lw_tbl[w]? = some (.methodLink (am_cn (am_own mm.1)) idx objectInit) := by
    unfold am_okp at hok
    rcases Bool.or_eq_true_iff.mp hok with q | q
    · exact absurd (Nat.eq_of_beq_eq_true q) hne
    · exact of_decide_eq_true q
  have hfrm := C.2.2.2.2.2.2.2.2.2.2.2.1
  have hloc := C.2.2.2.2.2.2.2.2.2.2.2.2.1
  show W p l e R s m args below meth c H locs cells slots Q (F0 m pc ls (am_mr G AD r :: S.map (am_mv G AD)))
  rw [am_mr_pos hr]
  refine W.objInit (rest := S.map (am_mv G AD)) C.1 C.2.1 C.2.2.2.1 (C.2.2.2.2.1 _ (am_wd hlk rfl)) (C.2.2.2.2.1 _ am_oiw.1) (C.2.2.2.2.1 _ am_oiw.2) rfl (by rw [C.2.2.1]; exact hF.2.1) rfl hd (by omega) (by rw [am_words_S]; show 2 * 0 + am_words S + 12 ≤ _; omega) ?_
  exact kk AD H locs ls cells slots hF hL (am_okS_t hS) hR hV hc hs hsc
/-- what a method finds at its start -/
def am_Pu (G : am_G) (A : Nat → Prop) (AD : List Nat) (ω : am_W) (U : State) : Prop := am_Rl G A AD ω U.heap ∧ va_K G.1 vwCl (am_tys G) U ∧ (∀ w ∈ am_nes, va_Nw w U) ∧ am_St G A U ∧ (∀ q, U.heap.size ≤ q → A q) ∧ am_Sc G A ω.2.2 U ∧ am_AO U
def am_Pc (G : am_G) (A : Nat → Prop) (AD : List Nat) (as : List am_V) (ω : am_W) : Array Value → State → Prop := fun av U => av = (as.map (am_mv G AD)).toArray ∧ am_Pu G A AD ω U
def am_Qc (G : am_G) (A : Nat → Prop) (AD : List Nat) (v : Option am_V) (ω1 : am_W) : Array Value → State → Outcome → State → Prop := fun _ st oc t => (∃ X, oc = .returned (v.map (am_mv G (AD ++ X))) ∧ am_Rl G A (AD ++ X) ω1 t.heap ∧ am_okS ω1.1.length v.toList) ∧ va_F A st t
/-- the room that a method's run takes -/
noncomputable def am_rm (m' : am_M) (ω ω1 : am_W) : Room := { frames := am_rk m', cells := ω1.1.length - ω.1.length, slots := am_sl ω1.1 - am_sl ω.1, locals := 40 * am_rk m' }
noncomputable def am_wy (b : Nat) : List Cond := Cond.code (am_nm.get b) (am_by.get b) (am_max b) (am_ty b) :: am_wds
def am_Mt (l : Launch) (G : am_G) (A : Nat → Prop) (AD : List Nat) (m' : am_M) (as : List am_V) (ω : am_W) (v : Option am_V) (ω1 : am_W) : Prop := Met l (am_nm.get m'.1) (am_wy m'.1) (am_rm m' ω ω1) (am_Pc G A AD as ω) (am_Qc G A AD v ω1) (ω1.1.length - ω.1.length) (am_sl ω1.1 - am_sl ω.1) A
theorem am_AOA_moved {ty : FieldType} {u U : State} (hvm : u.vm.Alike U.vm) (h : am_AOA ty u) : am_AOA ty U := by
  have h1 : (Cond.arrayOver (.array ty)).before #[] (u.setVm U.vm) = true := by rw [Cond.arrayOver_setVmC hvm]; exact h
  exact h1
theorem am_Pu_at {AD : List Nat} {H : Heap} {locs : List Loc} (C : am_Cx G mm A p R s m args meth c sc) (hR : am_Rl G A AD ω H) (hV : va_S A s.heap H locs) (hsc : ω.2.2 = sc) {U : State} (hU : U.heap = H) (hW : s.WarmedH U.vm) : am_Pu G A AD ω U := by
  obtain ⟨-, -, -, -, -, -, -, -, hK, hnw, hst, -, -, hA, hX, hao⟩ := C
  refine ⟨by rw [hU]; exact hR, va_K.moved hW.alike hK, fun w hw => ?_, ⟨?_, ?_, fun o idx k w h => (hst.2.2 o idx k w h).warm hW⟩, fun q hq => hA q (Nat.le_trans hV.1 (by rw [← hU]; exact hq)), ⟨?_, hX.2.1, ?_⟩, ⟨va_AO.moved hW.alike hao.1, va_AO.moved hW.alike hao.2.1, am_AOA_moved hW.alike hao.2.2⟩⟩
  · have h2 := (List.mem_filter.mp hw).2
    cases w <;> first | (exact va_Nw.warmM hW (hnw _ hw)) | (simp at h2; done)
  · rw [hU]
    exact vk_S.moved hW.alike (hst.1.kept hV.2.1)
  · rw [hU]
    exact va_Z.moved hW.alike (hst.2.1.kept hV.2.1)
  · rw [hU, hsc]
    exact va_X.moved hW.alike (hX.1.kept (hV.2.1 _ hX.2.2 hX.2.1))
  · rw [hU]
    exact Nat.lt_of_lt_of_le hX.2.2 hV.1
theorem am_blind {AD : List Nat} {as : List am_V} : FrameBlind (am_Pc G A AD as ω) := by
  intro a U g mk h
  obtain ⟨h1, h2, h3, h4, h5, h6, h7, h8⟩ := h
  have hv : U.vm.Alike (U.calling g mk a).vm := Vm.Alike.refl U.vm
  refine ⟨h1, h2, va_K.moved (u := U) (U := U.calling g mk a) hv h3, fun w hw => ?_, ⟨vk_S.moved (u := U) (U := U.calling g mk a) hv h5.1, va_Z.moved (u := U) (U := U.calling g mk a) hv h5.2.1, fun o idx k w h => vk_R.same (u := U) (U := U.calling g mk a) rfl (h5.2.2 o idx k w h)⟩, h6, ⟨va_X.moved (u := U) (U := U.calling g mk a) hv h7.1, h7.2⟩, ⟨va_AO.moved (u := U) (U := U.calling g mk a) hv h8.1, va_AO.moved (u := U) (U := U.calling g mk a) hv h8.2.1, am_AOA_moved (u := U) (U := U.calling g mk a) hv h8.2.2⟩⟩
  have h2 := (List.mem_filter.mp hw).2
  cases w <;> first | (exact va_Nw.same (u := U) (U := U.calling g mk a) rfl rfl (h4 _ hw)) | (simp at h2; done)
theorem am_cont {AD : List Nat} {H : Heap} {locs : List Loc} {ls : Array Slot} {cells slots mc ms : Nat} {v : Option am_V} {ω1 : am_W} {st0 rest : List Value} {av : Array Value} (hr : va_Run p l e R s m args below meth c H locs cells slots mc ms (F0 m pc ls st0) rest (am_Qc G A AD v ω1 av) A) (hS : va_S A s.heap H locs)
    (kk : ∀ (X : List Nat) (H1 : Heap) (locs1 : List Loc), am_Rl G A (AD ++ X) ω1 H1 → am_okS ω1.1.length v.toList → va_S A s.heap H1 locs1 → W p l e R s m args below meth c H1 locs1 (cells + mc) (slots + ms) Q (F0 m (pc + 3) ls ((v.map (am_mv G (AD ++ X))).toList ++ rest))) : W p l e R s m args below meth c H locs cells slots Q (F0 m pc ls st0) := by
  intro T hT X
  obtain ⟨v', st₀, t, T', L, h0, X', hL, e1, e2, ⟨⟨Y, hv, hRl, hok⟩, hz, hk⟩, st⟩ := hr T hT X
  have hv := Outcome.returned.inj hv
  subst hv
  rw [h0] at hz hk
  obtain ⟨t2, a1, b1⟩ := kk Y T'.heap (locs ++ L) (by rw [e1]; exact hRl) hok ⟨Nat.le_trans hS.1 (by rw [e1]; exact hz), fun q h1 h2 => by rw [e1, hk q (Nat.lt_of_lt_of_le h1 hS.1) h2]; exact hS.2.1 q h1 h2, fun q hq => (List.mem_append.mp hq).elim (hS.2.2 q) (fun h => hL q h)⟩ T' rfl X'
  exact ⟨t2, st t2 a1, b1⟩
/-- the method's own words, for its callers -/
theorem am_mw {b : Nat} (hb : b < 240) : Cond.code (am_nm.get b) (am_by.get b) (am_max b) (am_ty b) ∈ am_wds ∧ plainFor (am_nm.get b) = true ∧ ((am_nm.get b).cls ≠ "java/lang/invoke/MethodHandle" ∧ (am_nm.get b).cls ≠ "java/lang/invoke/VarHandle") ∧ (am_nm.get b).cls = am_cn (am_own b) ∧ am_max b ≤ 16 := by
  have h1 := am_all_get (am_allb_all am_okm_all) b
  have h2 : (am_cw.get b).1 = b := by
    have : ∀ b, b < 240 → (am_cw.getImpl b).1 = b := by decide +kernel
    rw [← am_get_impl]
    exact this b hb
  unfold am_okm at h1
  simp only [Bool.and_eq_true, decide_eq_true_eq] at h1
  rw [h2] at h1
  simp only [am_get_impl] at h1
  obtain ⟨g1, g2, g3, g4, g5⟩ := h1
  exact ⟨am_wd g1 rfl, g2, g3, g4, Nat.le_of_ble_eq_true g5⟩
theorem am_goodW {b : Nat} (hb : b < 240) : GoodIn am_wds (am_wy b) := fun w hw => by
  rcases List.mem_cons.mp hw with rfl | h
  · exact ⟨(am_mw hb).1, Or.inl rfl⟩
  · exact ⟨h, am_wds_good w h⟩
theorem am_args_of {n : Nat} {as S' : List am_V} (h : am_args n S = some (as, S')) : S = as.reverse ++ S' ∧ as.length = n ∧ am_words S' ≤ 8 := by
  unfold am_args at h
  cases hb : (decide (n ≤ S.length) && decide (am_words (S.drop n) ≤ 8)) with
  | false => rw [hb] at h; cases h
  | true =>
    rw [hb] at h
    simp only [Bool.and_eq_true, decide_eq_true_eq] at hb
    have e := Option.some.inj h
    have e1 : (S.take n).reverse = as := congrArg Prod.fst e
    have e2 : S.drop n = S' := congrArg Prod.snd e
    subst e1
    subst e2
    refine ⟨by rw [List.reverse_reverse, List.take_append_drop], by rw [List.length_reverse, List.length_take]; omega, hb.2⟩
theorem am_push_of {rk : Nat} {v : Option am_V} {S' S1 : List am_V} (h : am_push rk v S' = some S1) : S1 = v.toList ++ S' := by
  unfold am_push at h
  split at h <;> first | (cases h; rfl) | cases h
/-- behind a call -/
theorem am_kk_call {AD : List Nat} {H : Heap} {locs : List Loc} {ls : Array Slot} {cells slots rk : Nat} {v : Option am_V} {ω1 : am_W} {S' S1 : List am_V} {st0 : List Value} {av : Array Value} (hF : am_Fr G AD (am_max mm.1) L ls) (hL : am_okL ω.1.length L) (hS : am_okS ω.1.length S') (hR : am_Rl G A AD ω H) (hV : am_VS A s.heap AD0 AD H locs) (hc : cells + c0 = ω.1.length) (hs : slots + s0 = am_sl ω.1) (hsc : ω.2.2 = sc)
    (hg : ω.1.length ≤ ω1.1.length) (hg2 : am_sl ω.1 ≤ am_sl ω1.1) (hg3 : ω1.2.2 = ω.2.2) (hpu : am_push rk v S' = some S1) (kk : am_J G mm A p l e R s m args below meth c Q c0 s0 sc AD0 (pc + 3) L S1 ω1)
    (hr : va_Run p l e R s m args below meth c H locs cells slots (ω1.1.length - ω.1.length) (am_sl ω1.1 - am_sl ω.1) (F0 m pc ls st0) (S'.map (am_mv G AD)) (am_Qc G A AD v ω1 av) A) : W p l e R s m args below meth c H locs cells slots Q (F0 m pc ls st0) := by
  refine am_cont hr hV.1 (fun X H1 locs1 hR1 hok hS1 => ?_)
  have hlen : AD.length = ω.1.length := hR.1
  have e1 := am_push_of hpu
  subst e1
  have k2 := kk (AD ++ X) H1 locs1 ls (cells + (ω1.1.length - ω.1.length)) (slots + (am_sl ω1.1 - am_sl ω.1)) (am_Fr_ext X hlen.symm hF hL) (am_okL_up hL hg) (fun w hw => (List.mem_append.mp hw).elim (hok w) (fun h => am_okv_up (hS w h) hg)) hR1 ⟨hS1, List.IsPrefix.trans hV.2 (List.prefix_append _ _)⟩ (by omega) (by omega) (hg3.trans hsc)
  rw [List.map_append, am_map_ext X hlen.symm hS] at k2
  have e2 : (v.map (am_mv G (AD ++ X))).toList = v.toList.map (am_mv G (AD ++ X)) := by cases v <;> rfl
  rw [e2]
  exact k2
theorem am_room {m' : am_M} {ω1 : am_W} (C : am_Cx G mm A p R s m args meth c sc) (hb : m'.1 < 240) (hrk : am_rk m' + 1 ≤ am_rk mm) : (am_rm m' ω ω1).frames + 1 ≤ R.frames ∧ 8 + (am_max m'.1 + 11) + (am_rm m' ω ω1).locals ≤ R.locals := by
  have h1 := C.2.2.2.2.2.2.2.2.2.2.2.1
  have h2 := C.2.2.2.2.2.2.2.2.2.2.2.2.1
  have h3 := (am_mw hb).2.2.2.2
  refine ⟨?_, ?_⟩
  · show am_rk m' + 1 ≤ R.frames
    omega
  · show 8 + (am_max m'.1 + 11) + 40 * am_rk m' ≤ R.locals
    omega
theorem am_hW {pc : Nat} {ls : Array Slot} {st : List Value} {AD : List Nat} {S' : List am_V} (h : am_words S' ≤ 8) : 2 * (F0 m pc ls st).monitorRoom + ((S'.map (am_mv G AD)).map fun v => v.category).sum ≤ 8 := by
  rw [am_words_S]
  show 2 * 0 + _ ≤ 8
  omega
theorem am_fix (C : am_Cx G mm A p R s m args meth c sc) : CallFix p m c (am_by.get mm.1) (am_max mm.1) s args am_wds (am_cn (am_own mm.1)) := ⟨C.1, C.2.1, C.2.2.1, C.2.2.2.1, C.2.2.2.2.1⟩
theorem aj_callV {idx b na rk w w2 w3 w4 : Nat} {m' : am_M} {as S' S1 : List am_V} {v : Option am_V} {ω1 : am_W} (C : am_Cx G mm A p R s m args meth c sc) (hd : decode (am_by.get mm.1) pc = .ok (.invokevirtual idx, 3)) (hp : am_lk (am_pm.get (am_own mm.1)) idx = some (0, b, na, rk, w, w2, w3, w4)) (hm : m'.1 = b) (has : am_args na S = some (as, S')) (hrk : am_rk m' + 1 ≤ am_rk mm) (hrc : ∃ r as', as = .inr (.inr r) :: as' ∧ am_is ω r (am_own b, am_nf (am_own b)) = true) (hM : ∀ AD : List Nat, AD.length = ω.1.length → am_okS ω.1.length as → am_Mt l G A AD m' as ω v ω1) (hg : ω.1.length ≤ ω1.1.length) (hg2 : am_sl ω.1 ≤ am_sl ω1.1) (hg3 : ω1.2.2 = ω.2.2) (hb1 : ω1.1.length ≤ c0 + R.cells) (hb2 : am_sl ω1.1 ≤ s0 + R.slots) (hpu : am_push rk v S' = some S1) (kk : am_J G mm A p l e R s m args below meth c Q c0 s0 sc AD0 (pc + 3) L S1 ω1) : am_J G mm A p l e R s m args below meth c Q c0 s0 sc AD0 pc L S ω := by
  intro AD H locs ls cells slots hF hL hS hR hV hc hs hsc
  obtain ⟨hne, hok⟩ := am_okp_at (am_own_lt mm.1) hp
  unfold am_okp at hok
  replace hok := (Bool.or_eq_true_iff.mp hok).resolve_left (fun q => hne (Nat.eq_of_beq_eq_true q))
  dsimp only at hok
  simp only [Bool.and_eq_true, decide_eq_true_eq, am_get_impl] at hok
  obtain ⟨eS, elen, ew⟩ := am_args_of has
  have hSas : am_okS ω.1.length as := fun x hx => hS x (by rw [eS]; exact List.mem_append_left _ (List.mem_reverse.mpr hx))
  have hS' : am_okS ω.1.length S' := fun x hx => hS x (by rw [eS]; exact List.mem_append_right _ hx)
  obtain ⟨o1, o2, o3, o4, o5, o6, o7, o8⟩ := hok
  obtain ⟨r, as', rfl, hris⟩ := hrc
  obtain ⟨h0, hq⟩ := am_is_of hris
  subst hm
  have hb : m'.1 < 240 := o7
  have hMM := hM AD hR.1 hSas
  obtain ⟨y1, y2, y3, y4, y5⟩ := am_mw hb
  obtain ⟨rr, g1, g2, g3, g4, -⟩ := am_cls (show am_own m'.1 < 8 from o5)
  have hat := am_ws_at (G := G) (AD := AD) hq
  rw [am_enc_o (show am_own m'.1 < 8 from o5)] at hat
  have est : S.map (am_mv G AD) = (as'.map (am_mv G AD)).reverse ++ .ref (AD.getD r.toNat 0) :: S'.map (am_mv G AD) := by
    rw [eS, List.reverse_cons, List.append_assoc, List.map_append, List.map_reverse]
    show _ ++ (am_mr G AD r :: S'.map (am_mv G AD)) = _
    rw [am_mr_pos h0]
  have eav : (as'.map (am_mv G AD)).length = as'.length := List.length_map ..
  refine am_kk_call (v := v) hF hL hS' hR hV hc hs hsc hg hg2 hg3 hpu kk (va_runV (As := as'.map (am_mv G AD)) (n := as'.length) (C := (am_nm.get m'.1).cls) (am_fix C) hMM ⟨callB_of as'.length C.2.2.2.2.1 (am_goodW hb) rfl rfl rfl (C.2.2.2.2.1 _ (am_wd o4 rfl)) (C.2.2.2.2.1 _ (am_wd o1 rfl)) ⟨y3.1, y3.2, ?_⟩ (am_room C hb hrk), C.2.2.2.2.1 _ (am_wd o2 rfl), C.2.2.2.2.1 _ (am_wd o3 rfl)⟩ ⟨am_blind, ?_, fun U hU hW => ⟨?_, am_Pu_at C hR hV.1 hsc hU hW⟩⟩ rfl eav hF.2.1 est (am_hW ew) hd ⟨by omega, by omega⟩)
  · have : as'.length + 1 = na := by rw [← elen]; rfl
    rw [← this] at o8
    cases hpd : parseMethodDescriptor (am_nm.get m'.1).desc with
    | none => rw [hpd] at o8; cases o8
    | some d =>
      rw [hpd] at o8
      have e9 : d.parameters.length + 1 = as'.length + 1 := Option.some.inj o8
      show some d.parameters.length = _
      congr 1
      omega
  · have hrv := va_recv C.2.2.2.2.2.2.2.2.1 hR.2.2.1 g1 hat
    rw [g3, ← y4] at hrv
    exact hrv
  · show _ = (am_mr G AD r :: as'.map (am_mv G AD)).toArray
    rw [am_mr_pos h0]
theorem aj_callS {idx b na rk w w2 w3 w4 : Nat} {m' : am_M} {as S' S1 : List am_V} {v : Option am_V} {ω1 : am_W} (C : am_Cx G mm A p R s m args meth c sc) (hd : decode (am_by.get mm.1) pc = .ok (.invokestatic idx, 3)) (hp : am_lk (am_pm.get (am_own mm.1)) idx = some (2, b, na, rk, w, w2, w3, w4)) (hm : m'.1 = b) (has : am_args na S = some (as, S')) (hrk : am_rk m' + 1 ≤ am_rk mm) (hM : ∀ AD : List Nat, AD.length = ω.1.length → am_okS ω.1.length as → am_Mt l G A AD m' as ω v ω1) (hg : ω.1.length ≤ ω1.1.length) (hg2 : am_sl ω.1 ≤ am_sl ω1.1) (hg3 : ω1.2.2 = ω.2.2) (hb1 : ω1.1.length ≤ c0 + R.cells) (hb2 : am_sl ω1.1 ≤ s0 + R.slots) (hpu : am_push rk v S' = some S1) (kk : am_J G mm A p l e R s m args below meth c Q c0 s0 sc AD0 (pc + 3) L S1 ω1) : am_J G mm A p l e R s m args below meth c Q c0 s0 sc AD0 pc L S ω := by
  intro AD H locs ls cells slots hF hL hS hR hV hc hs hsc
  obtain ⟨hne, hok⟩ := am_okp_at (am_own_lt mm.1) hp
  unfold am_okp at hok
  replace hok := (Bool.or_eq_true_iff.mp hok).resolve_left (fun q => hne (Nat.eq_of_beq_eq_true q))
  dsimp only at hok
  simp only [Bool.and_eq_true, decide_eq_true_eq, am_get_impl] at hok
  obtain ⟨eS, elen, ew⟩ := am_args_of has
  have hSas : am_okS ω.1.length as := fun x hx => hS x (by rw [eS]; exact List.mem_append_left _ (List.mem_reverse.mpr hx))
  have hS' : am_okS ω.1.length S' := fun x hx => hS x (by rw [eS]; exact List.mem_append_right _ hx)
  obtain ⟨o1, o2, o4, o6, o7, o8⟩ := hok
  subst hm
  have hb : m'.1 < 240 := o7
  have hMM := hM AD hR.1 hSas
  obtain ⟨y1, y2, y3, y4, y5⟩ := am_mw hb
  have est : S.map (am_mv G AD) = (as.map (am_mv G AD)).reverse ++ S'.map (am_mv G AD) := by
    rw [eS, List.map_append, List.map_reverse]
  have eav : (as.map (am_mv G AD)).length = as.length := List.length_map ..
  refine am_kk_call (v := v) hF hL hS' hR hV hc hs hsc hg hg2 hg3 hpu kk (va_runS (As := as.map (am_mv G AD)) (n := as.length) (am_fix C) hMM ⟨callB_of as.length C.2.2.2.2.1 (am_goodW hb) rfl rfl rfl (C.2.2.2.2.1 _ (am_wd o4 rfl)) (C.2.2.2.2.1 _ (am_wd o1 rfl)) ⟨y3.1, y3.2, ?_⟩ (am_room C hb hrk), C.2.2.2.2.1 _ (am_wd o2 rfl)⟩ ⟨am_blind, fun U hU hW => ⟨rfl, am_Pu_at C hR hV.1 hsc hU hW⟩⟩ rfl eav hF.2.1 est (am_hW ew) hd ⟨by omega, by omega⟩)
  rw [← elen] at o8
  exact o8
theorem aj_callSN {idx b na rk w w2 w3 w4 : Nat} {m' : am_M} {as S' S1 : List am_V} {v : Option am_V} {ω1 : am_W} (C : am_Cx G mm A p R s m args meth c sc) (hd : decode (am_by.get mm.1) pc = .ok (.invokestatic idx, 3)) (hp : am_lk (am_pm.get (am_own mm.1)) idx = some (3, b, na, rk, w, w2, w3, w4)) (hm : m'.1 = b) (has : am_args na S = some (as, S')) (hrk : am_rk m' + 1 ≤ am_rk mm) (hM : ∀ AD : List Nat, AD.length = ω.1.length → am_okS ω.1.length as → am_Mt l G A AD m' as ω v ω1) (hg : ω.1.length ≤ ω1.1.length) (hg2 : am_sl ω.1 ≤ am_sl ω1.1) (hg3 : ω1.2.2 = ω.2.2) (hb1 : ω1.1.length ≤ c0 + R.cells) (hb2 : am_sl ω1.1 ≤ s0 + R.slots) (hpu : am_push rk v S' = some S1) (kk : am_J G mm A p l e R s m args below meth c Q c0 s0 sc AD0 (pc + 3) L S1 ω1) : am_J G mm A p l e R s m args below meth c Q c0 s0 sc AD0 pc L S ω := by
  intro AD H locs ls cells slots hF hL hS hR hV hc hs hsc
  obtain ⟨hne, hok⟩ := am_okp_at (am_own_lt mm.1) hp
  unfold am_okp at hok
  replace hok := (Bool.or_eq_true_iff.mp hok).resolve_left (fun q => hne (Nat.eq_of_beq_eq_true q))
  dsimp only at hok
  simp only [Bool.and_eq_true, decide_eq_true_eq, am_get_impl] at hok
  obtain ⟨eS, elen, ew⟩ := am_args_of has
  have hSas : am_okS ω.1.length as := fun x hx => hS x (by rw [eS]; exact List.mem_append_left _ (List.mem_reverse.mpr hx))
  have hS' : am_okS ω.1.length S' := fun x hx => hS x (by rw [eS]; exact List.mem_append_right _ hx)
  obtain ⟨o1, o2, o4, o6, o7, o8⟩ := hok
  subst hm
  have hb : m'.1 < 240 := o7
  have hMM := hM AD hR.1 hSas
  obtain ⟨y1, y2, y3, y4, y5⟩ := am_mw hb
  have est : S.map (am_mv G AD) = (as.map (am_mv G AD)).reverse ++ S'.map (am_mv G AD) := by
    rw [eS, List.map_append, List.map_reverse]
  have eav : (as.map (am_mv G AD)).length = as.length := List.length_map ..
  refine am_kk_call (v := v) hF hL hS' hR hV hc hs hsc hg hg2 hg3 hpu kk (va_runSN (As := as.map (am_mv G AD)) (n := as.length) (am_fix C) hMM ⟨va_cnB (host := "FasterToBeLater") as.length C.2.2.2.2.1 (am_goodW hb) rfl rfl rfl (C.2.2.2.2.2.2.2.2.2.1 _ (List.mem_filter.mpr ⟨List.mem_of_getElem? o1, rfl⟩)) (C.2.2.2.2.1 _ (am_wd o4 rfl)) ⟨y3.1, y3.2, ?_⟩ (am_room C hb hrk), C.2.2.2.2.1 _ (am_wd o2 rfl), trivial⟩ ⟨am_blind, fun U hU hW => ⟨rfl, am_Pu_at C hR hV.1 hsc hU hW⟩⟩ rfl eav hF.2.1 est (am_hW ew) hd ⟨by omega, by omega⟩)
  rw [← elen] at o8
  exact o8
theorem aj_callI {idx b na rk w w2 w3 w4 : Nat} {m' : am_M} {as S' S1 : List am_V} {v : Option am_V} {ω1 : am_W} (C : am_Cx G mm A p R s m args meth c sc) (hd : decode (am_by.get mm.1) pc = .ok (.invokespecial idx, 3)) (hp : am_lk (am_pm.get (am_own mm.1)) idx = some (4, b, na, rk, w, w2, w3, w4)) (hm : m'.1 = b) (has : am_args na S = some (as, S')) (hrk : am_rk m' + 1 ≤ am_rk mm) (hrc : ∃ r as', as = .inr (.inr r) :: as' ∧ am_is ω r (am_own b, am_nf (am_own b)) = true) (hM : ∀ AD : List Nat, AD.length = ω.1.length → am_okS ω.1.length as → am_Mt l G A AD m' as ω v ω1) (hg : ω.1.length ≤ ω1.1.length) (hg2 : am_sl ω.1 ≤ am_sl ω1.1) (hg3 : ω1.2.2 = ω.2.2) (hb1 : ω1.1.length ≤ c0 + R.cells) (hb2 : am_sl ω1.1 ≤ s0 + R.slots) (hpu : am_push rk v S' = some S1) (kk : am_J G mm A p l e R s m args below meth c Q c0 s0 sc AD0 (pc + 3) L S1 ω1) : am_J G mm A p l e R s m args below meth c Q c0 s0 sc AD0 pc L S ω := by
  intro AD H locs ls cells slots hF hL hS hR hV hc hs hsc
  obtain ⟨hne, hok⟩ := am_okp_at (am_own_lt mm.1) hp
  unfold am_okp at hok
  replace hok := (Bool.or_eq_true_iff.mp hok).resolve_left (fun q => hne (Nat.eq_of_beq_eq_true q))
  dsimp only at hok
  simp only [Bool.and_eq_true, decide_eq_true_eq, am_get_impl] at hok
  obtain ⟨eS, elen, ew⟩ := am_args_of has
  have hSas : am_okS ω.1.length as := fun x hx => hS x (by rw [eS]; exact List.mem_append_left _ (List.mem_reverse.mpr hx))
  have hS' : am_okS ω.1.length S' := fun x hx => hS x (by rw [eS]; exact List.mem_append_right _ hx)
  obtain ⟨o1, o2, o3, o4, o5, o6, o7, o8⟩ := hok
  obtain ⟨r, as', rfl, hris⟩ := hrc
  obtain ⟨h0, hq⟩ := am_is_of hris
  subst hm
  have hb : m'.1 < 240 := o7
  have hMM := hM AD hR.1 hSas
  obtain ⟨y1, y2, y3, y4, y5⟩ := am_mw hb
  have hwy : am_wy m'.1 = Cond.code (am_nm.get m'.1) (am_by.get m'.1) (am_max m'.1) none :: am_wds := by
    unfold am_wy am_ty am_rt
    rw [o6.2]
    rfl
  have est : S.map (am_mv G AD) = (as'.map (am_mv G AD)).reverse ++ .ref (AD.getD r.toNat 0) :: S'.map (am_mv G AD) := by
    rw [eS, List.reverse_cons, List.append_assoc, List.map_append, List.map_reverse]
    show _ ++ (am_mr G AD r :: S'.map (am_mv G AD)) = _
    rw [am_mr_pos h0]
  have eav : (as'.map (am_mv G AD)).length = as'.length := List.length_map ..
  refine am_kk_call (v := v) hF hL hS' hR hV hc hs hsc hg hg2 hg3 hpu kk (va_runI (As := as'.map (am_mv G AD)) (n := as'.length) (am_fix C) hMM (cwI as'.length C.2.2.2.2.1 (am_goodW hb) hwy rfl rfl (C.2.2.2.2.1 _ (am_wd o4 rfl)) (C.2.2.2.2.1 _ (am_wd o1 rfl)) (C.2.2.2.2.1 _ (am_wd o2 rfl)) o3 ⟨y3.1, y3.2, ?_⟩ (am_room C hb hrk)) ⟨am_blind, fun U hU hW => ⟨?_, am_Pu_at C hR hV.1 hsc hU hW⟩⟩ rfl eav hF.2.1 est (am_hW ew) hd ⟨by omega, by omega⟩)
  · have : as'.length + 1 = na := by rw [← elen]; rfl
    rw [← this] at o8
    cases hpd : parseMethodDescriptor (am_nm.get m'.1).desc with
    | none => rw [hpd] at o8; cases o8
    | some d =>
      rw [hpd] at o8
      have e9 : d.parameters.length + 1 = as'.length + 1 := Option.some.inj o8
      show some d.parameters.length = _
      congr 1
      omega
  · show _ = (am_mr G AD r :: as'.map (am_mv G AD)).toArray
    rw [am_mr_pos h0]
theorem aj_callIN {idx b na rk w w2 w3 w4 : Nat} {m' : am_M} {as S' S1 : List am_V} {v : Option am_V} {ω1 : am_W} (C : am_Cx G mm A p R s m args meth c sc) (hd : decode (am_by.get mm.1) pc = .ok (.invokespecial idx, 3)) (hp : am_lk (am_pm.get (am_own mm.1)) idx = some (5, b, na, rk, w, w2, w3, w4)) (hm : m'.1 = b) (has : am_args na S = some (as, S')) (hrk : am_rk m' + 1 ≤ am_rk mm) (hrc : ∃ r as', as = .inr (.inr r) :: as' ∧ am_is ω r (am_own b, am_nf (am_own b)) = true) (hM : ∀ AD : List Nat, AD.length = ω.1.length → am_okS ω.1.length as → am_Mt l G A AD m' as ω v ω1) (hg : ω.1.length ≤ ω1.1.length) (hg2 : am_sl ω.1 ≤ am_sl ω1.1) (hg3 : ω1.2.2 = ω.2.2) (hb1 : ω1.1.length ≤ c0 + R.cells) (hb2 : am_sl ω1.1 ≤ s0 + R.slots) (hpu : am_push rk v S' = some S1) (kk : am_J G mm A p l e R s m args below meth c Q c0 s0 sc AD0 (pc + 3) L S1 ω1) : am_J G mm A p l e R s m args below meth c Q c0 s0 sc AD0 pc L S ω := by
  intro AD H locs ls cells slots hF hL hS hR hV hc hs hsc
  obtain ⟨hne, hok⟩ := am_okp_at (am_own_lt mm.1) hp
  unfold am_okp at hok
  replace hok := (Bool.or_eq_true_iff.mp hok).resolve_left (fun q => hne (Nat.eq_of_beq_eq_true q))
  dsimp only at hok
  simp only [Bool.and_eq_true, decide_eq_true_eq, am_get_impl] at hok
  obtain ⟨eS, elen, ew⟩ := am_args_of has
  have hSas : am_okS ω.1.length as := fun x hx => hS x (by rw [eS]; exact List.mem_append_left _ (List.mem_reverse.mpr hx))
  have hS' : am_okS ω.1.length S' := fun x hx => hS x (by rw [eS]; exact List.mem_append_right _ hx)
  obtain ⟨o1, o2, o3, o4, o5, o6, o7, o8⟩ := hok
  obtain ⟨r, as', rfl, hris⟩ := hrc
  obtain ⟨h0, hq⟩ := am_is_of hris
  subst hm
  have hb : m'.1 < 240 := o7
  have hMM := hM AD hR.1 hSas
  obtain ⟨y1, y2, y3, y4, y5⟩ := am_mw hb
  have hwy : am_wy m'.1 = Cond.code (am_nm.get m'.1) (am_by.get m'.1) (am_max m'.1) none :: am_wds := by
    unfold am_wy am_ty am_rt
    rw [o6.2]
    rfl
  have est : S.map (am_mv G AD) = (as'.map (am_mv G AD)).reverse ++ .ref (AD.getD r.toNat 0) :: S'.map (am_mv G AD) := by
    rw [eS, List.reverse_cons, List.append_assoc, List.map_append, List.map_reverse]
    show _ ++ (am_mr G AD r :: S'.map (am_mv G AD)) = _
    rw [am_mr_pos h0]
  have eav : (as'.map (am_mv G AD)).length = as'.length := List.length_map ..
  refine am_kk_call (v := v) hF hL hS' hR hV hc hs hsc hg hg2 hg3 hpu kk (va_runIN (As := as'.map (am_mv G AD)) (n := as'.length) (am_fix C) hMM (⟨va_cnB (host := "FasterToBeLater") as'.length C.2.2.2.2.1 (am_goodW hb) hwy rfl rfl (C.2.2.2.2.2.2.2.2.2.1 _ (List.mem_filter.mpr ⟨List.mem_of_getElem? o1, rfl⟩)) (C.2.2.2.2.1 _ (am_wd o4 rfl)) ⟨y3.1, y3.2, ?_⟩ (am_room C hb hrk), o3, C.2.2.2.2.1 _ (am_wd o2 rfl)⟩) ⟨am_blind, fun U hU hW => ⟨?_, am_Pu_at C hR hV.1 hsc hU hW⟩⟩ rfl eav hF.2.1 est (am_hW ew) hd ⟨by omega, by omega⟩)
  · have : as'.length + 1 = na := by rw [← elen]; rfl
    rw [← this] at o8
    cases hpd : parseMethodDescriptor (am_nm.get m'.1).desc with
    | none => rw [hpd] at o8; cases o8
    | some d =>
      rw [hpd] at o8
      have e9 : d.parameters.length + 1 = as'.length + 1 := Option.some.inj o8
      show some d.parameters.length = _
      congr 1
      omega
  · show _ = (am_mr G AD r :: as'.map (am_mv G AD)).toArray
    rw [am_mr_pos h0]
end AC
end
section
theorem am_chk_all (b : Nat) (hb : b ≤ 240) : am_chk (am_by.get b) (am_mt.get b).2.2.2.2 = true := match b, hb with
  | 0, _ => mk_0
  | 1, _ => mk_1
  | 2, _ => mk_2
  | 3, _ => mk_3
  | 4, _ => mk_4
  | 5, _ => mk_5
  | 6, _ => mk_6
  | 7, _ => mk_7
  | 8, _ => mk_8
  | 9, _ => mk_9
  | 10, _ => mk_10
  | 11, _ => mk_11
  | 12, _ => mk_12
  | 13, _ => mk_13
  | 14, _ => mk_14
  | 15, _ => mk_15
  | 16, _ => mk_16
  | 17, _ => mk_17
  | 18, _ => mk_18
  | 19, _ => mk_19
  | 20, _ => mk_20
  | 21, _ => mk_21
  | 22, _ => mk_22
  | 23, _ => mk_23
  | 24, _ => mk_24
  | 25, _ => mk_25
  | 26, _ => mk_26
  | 27, _ => mk_27
  | 28, _ => mk_28
  | 29, _ => mk_29
  | 30, _ => mk_30
  | 31, _ => mk_31
  | 32, _ => mk_32
  | 33, _ => mk_33
  | 34, _ => mk_34
  | 35, _ => mk_35
  | 36, _ => mk_36
  | 37, _ => mk_37
  | 38, _ => mk_38
  | 39, _ => mk_39
  | 40, _ => mk_40
  | 41, _ => mk_41
  | 42, _ => mk_42
  | 43, _ => mk_43
  | 44, _ => mk_44
  | 45, _ => mk_45
  | 46, _ => mk_46
  | 47, _ => mk_47
  | 48, _ => mk_48
  | 49, _ => mk_49
  | 50, _ => mk_50
  | 51, _ => mk_51
  | 52, _ => mk_52
  | 53, _ => mk_53
  | 54, _ => mk_54
  | 55, _ => mk_55
  | 56, _ => mk_56
  | 57, _ => mk_57
  | 58, _ => mk_58
  | 59, _ => mk_59
  | 60, _ => mk_60
  | 61, _ => mk_61
  | 62, _ => mk_62
  | 63, _ => mk_63
  | 64, _ => mk_64
  | 65, _ => mk_65
  | 66, _ => mk_66
  | 67, _ => mk_67
  | 68, _ => mk_68
  | 69, _ => mk_69
  | 70, _ => mk_70
  | 71, _ => mk_71
  | 72, _ => mk_72
  | 73, _ => mk_73
  | 74, _ => mk_74
  | 75, _ => mk_75
  | 76, _ => mk_76
  | 77, _ => mk_77
  | 78, _ => mk_78
  | 79, _ => mk_79
  | 80, _ => mk_80
  | 81, _ => mk_81
  | 82, _ => mk_82
  | 83, _ => mk_83
  | 84, _ => mk_84
  | 85, _ => mk_85
  | 86, _ => mk_86
  | 87, _ => mk_87
  | 88, _ => mk_88
  | 89, _ => mk_89
  | 90, _ => mk_90
  | 91, _ => mk_91
  | 92, _ => mk_92
  | 93, _ => mk_93
  | 94, _ => mk_94
  | 95, _ => mk_95
  | 96, _ => mk_96
  | 97, _ => mk_97
  | 98, _ => mk_98
  | 99, _ => mk_99
  | 100, _ => mk_100
  | 101, _ => mk_101
  | 102, _ => mk_102
  | 103, _ => mk_103
  | 104, _ => mk_104
  | 105, _ => mk_105
  | 106, _ => mk_106
  | 107, _ => mk_107
  | 108, _ => mk_108
  | 109, _ => mk_109
  | 110, _ => mk_110
  | 111, _ => mk_111
  | 112, _ => mk_112
  | 113, _ => mk_113
  | 114, _ => mk_114
  | 115, _ => mk_115
  | 116, _ => mk_116
  | 117, _ => mk_117
  | 118, _ => mk_118
  | 119, _ => mk_119
  | 120, _ => mk_120
  | 121, _ => mk_121
  | 122, _ => mk_122
  | 123, _ => mk_123
  | 124, _ => mk_124
  | 125, _ => mk_125
  | 126, _ => mk_126
  | 127, _ => mk_127
  | 128, _ => mk_128
  | 129, _ => mk_129
  | 130, _ => mk_130
  | 131, _ => mk_131
  | 132, _ => mk_132
  | 133, _ => mk_133
  | 134, _ => mk_134
  | 135, _ => mk_135
  | 136, _ => mk_136
  | 137, _ => mk_137
  | 138, _ => mk_138
  | 139, _ => mk_139
  | 140, _ => mk_140
  | 141, _ => mk_141
  | 142, _ => mk_142
  | 143, _ => mk_143
  | 144, _ => mk_144
  | 145, _ => mk_145
  | 146, _ => mk_146
  | 147, _ => mk_147
  | 148, _ => mk_148
  | 149, _ => mk_149
  | 150, _ => mk_150
  | 151, _ => mk_151
  | 152, _ => mk_152
  | 153, _ => mk_153
  | 154, _ => mk_154
  | 155, _ => mk_155
  | 156, _ => mk_156
  | 157, _ => mk_157
  | 158, _ => mk_158
  | 159, _ => mk_159
  | 160, _ => mk_160
  | 161, _ => mk_161
  | 162, _ => mk_162
  | 163, _ => mk_163
  | 164, _ => mk_164
  | 165, _ => mk_165
  | 166, _ => mk_166
  | 167, _ => mk_167
  | 168, _ => mk_168
  | 169, _ => mk_169
  | 170, _ => mk_170
  | 171, _ => mk_171
  | 172, _ => mk_172
  | 173, _ => mk_173
  | 174, _ => mk_174
  | 175, _ => mk_175
  | 176, _ => mk_176
  | 177, _ => mk_177
  | 178, _ => mk_178
  | 179, _ => mk_179
  | 180, _ => mk_180
  | 181, _ => mk_181
  | 182, _ => mk_182
  | 183, _ => mk_183
  | 184, _ => mk_184
  | 185, _ => mk_185
  | 186, _ => mk_186
  | 187, _ => mk_187
  | 188, _ => mk_188
  | 189, _ => mk_189
  | 190, _ => mk_190
  | 191, _ => mk_191
  | 192, _ => mk_192
  | 193, _ => mk_193
  | 194, _ => mk_194
  | 195, _ => mk_195
  | 196, _ => mk_196
  | 197, _ => mk_197
  | 198, _ => mk_198
  | 199, _ => mk_199
  | 200, _ => mk_200
  | 201, _ => mk_201
  | 202, _ => mk_202
  | 203, _ => mk_203
  | 204, _ => mk_204
  | 205, _ => mk_205
  | 206, _ => mk_206
  | 207, _ => mk_207
  | 208, _ => mk_208
  | 209, _ => mk_209
  | 210, _ => mk_210
  | 211, _ => mk_211
  | 212, _ => mk_212
  | 213, _ => mk_213
  | 214, _ => mk_214
  | 215, _ => mk_215
  | 216, _ => mk_216
  | 217, _ => mk_217
  | 218, _ => mk_218
  | 219, _ => mk_219
  | 220, _ => mk_220
  | 221, _ => mk_221
  | 222, _ => mk_222
  | 223, _ => mk_223
  | 224, _ => mk_224
  | 225, _ => mk_225
  | 226, _ => mk_226
  | 227, _ => mk_227
  | 228, _ => mk_228
  | 229, _ => mk_229
  | 230, _ => mk_230
  | 231, _ => mk_231
  | 232, _ => mk_232
  | 233, _ => mk_233
  | 234, _ => mk_234
  | 235, _ => mk_235
  | 236, _ => mk_236
  | 237, _ => mk_237
  | 238, _ => mk_238
  | 239, _ => mk_239
  | 240, _ => mk_240
  | n + 241, h => absurd h (by omega)
end
section
/-! ===== every step of the abstract machine is the machine's ===== -/
def am_Gw (ω ω' : am_W) : Prop := ω.1.length ≤ ω'.1.length ∧ am_sl ω.1 ≤ am_sl ω'.1 ∧ ω'.2.2 = ω.2.2
theorem am_Gw_rf (ω : am_W) : am_Gw ω ω := ⟨Nat.le_refl _, Nat.le_refl _, rfl⟩
theorem am_Gw_tr {ω ω' ω'' : am_W} (h : am_Gw ω ω') (h2 : am_Gw ω' ω'') : am_Gw ω ω'' := ⟨Nat.le_trans h.1 h2.1, Nat.le_trans h.2.1 h2.2.1, h2.2.2.trans h.2.2⟩
theorem am_Gw_put (ω : am_W) (a k : Nat) (v : Int) : am_Gw ω (am_put ω a k v) := ⟨Nat.le_refl _, Nat.le_refl _, rfl⟩
theorem am_Gw_cpy (ω : am_W) (a b c d n : Nat) : am_Gw ω (am_cpy ω a b c d n) := ⟨Nat.le_refl _, Nat.le_refl _, rfl⟩
theorem am_Gw_new (ω : am_W) (q : Nat × Nat) (d : Nat → Int) : am_Gw ω (am_new ω q d) := ⟨by show _ ≤ (ω.1 ++ [q]).length; simp, by show _ ≤ am_sl (ω.1 ++ [q]); rw [am_sl_app]; omega, rfl⟩
theorem am_Gw_newg (ω : am_W) (n k : Nat) : am_Gw ω (am_newg ω n k) := ⟨by show _ ≤ (ω.1 ++ _).length; simp, by show _ ≤ am_sl (ω.1 ++ _); rw [am_sl_app]; omega, rfl⟩
theorem am_new_len (ω : am_W) (q : Nat × Nat) (d : Nat → Int) : (am_new ω q d).1.length = ω.1.length + 1 ∧ am_sl (am_new ω q d).1 = am_sl ω.1 + q.2 := ⟨by show (ω.1 ++ [q]).length = _; simp, by show am_sl (ω.1 ++ [q]) = _; rw [am_sl_app]; simp [am_sl]⟩
theorem am_newg_len (ω : am_W) (n k : Nat) : (am_newg ω n k).1.length = ω.1.length + (1 + n) ∧ am_sl (am_newg ω n k).1 = am_sl ω.1 + (n + n * k) := ⟨by show (ω.1 ++ ((104, n) :: List.replicate n (100, k))).length = _; simp; omega, by show am_sl (ω.1 ++ ((104, n) :: List.replicate n (100, k))) = _; rw [am_sl_app]; simp [am_sl]⟩
theorem cd_of {α : Type} {b : Bool} {x : Option α} {y : α} (h : cond b x none = some y) : b = true ∧ x = some y := by
  cases b
  · cases h
  · exact ⟨rfl, h⟩
theorem cd_ofn {α : Type} {b : Bool} {x : Option α} {y : α} (h : cond b none x = some y) : b = false ∧ x = some y := by
  cases b
  · exact ⟨rfl, h⟩
  · cases h
theorem am_dec {b pc len : Nat} {i : Instr} (hb : b ≤ 240) (h : am_code b pc = some (i, len)) : decode (am_by.get b) pc = .ok (i, len) ∧ am_ln i len = true := by
  unfold am_code at h
  cases h1 : am_look (am_mt.get b).2.2.2.2 pc with
  | none => rw [h1] at h; cases h
  | some q =>
    obtain ⟨i2, len2⟩ := q
    rw [h1] at h
    obtain ⟨h2, h3⟩ := cd_of h
    cases h3
    refine ⟨?_, h2⟩
    have h4 := am_all_get (am_allb_all (am_chk_all b hb)) pc
    exact of_decide_eq_true (am_look_of (P := fun q => decide (decode (am_by.get b) q.1 = .ok q.2) = true) (am_allb_all (am_chk_all b hb)) h1)
section AS
variable {G : am_G} {mm : am_M} {A : Nat → Prop} {p : Program} {l : Launch} {e : Env} {R : Room} {s : State} {m : MethodId} {args : Array Value} {below : List Frame} {meth : Method} {c : Code} {Q : State → Prop} {c0 s0 : Nat} {sc : Nat × (Nat → Int)} {AD0 : List Nat} {pc : Nat} {L : am_L} {S : List am_V} {ω : am_W}
theorem am_ldi_of {k pc2 : Nat} {a : am_Act} (h : am_ldi L k pc2 S ω = some a) : ∃ z, L[k]? = some (some (.inl z)) ∧ a = .inl (pc2, L, .inl z :: S, ω) := by
  unfold am_ldi am_nx at h
  split at h
  · rename_i z hz; exact ⟨z, hz, (Option.some.inj h).symm⟩
  · cases h
theorem am_ldl_of {k pc2 : Nat} {a : am_Act} (h : am_ldl L k pc2 S ω = some a) : ∃ z, L[k]? = some (some (.inr (.inl z))) ∧ a = .inl (pc2, L, .inr (.inl z) :: S, ω) := by
  unfold am_ldl am_nx at h
  split at h
  · rename_i z hz; exact ⟨z, hz, (Option.some.inj h).symm⟩
  · cases h
theorem am_lda_of {k pc2 : Nat} {a : am_Act} (h : am_lda L k pc2 S ω = some a) : ∃ z, L[k]? = some (some (.inr (.inr z))) ∧ a = .inl (pc2, L, .inr (.inr z) :: S, ω) := by
  unfold am_lda am_nx at h
  split at h
  · rename_i z hz; exact ⟨z, hz, (Option.some.inj h).symm⟩
  · cases h
theorem am_st1_of {X : Option am_L} {pc2 : Nat} {T : List am_V} {a : am_Act} (h : am_st1 X pc2 T ω = some a) : ∃ L', X = some L' ∧ a = .inl (pc2, L', T, ω) := by
  unfold am_st1 am_nx at h
  split at h
  · cases h
  · exact ⟨_, rfl, (Option.some.inj h).symm⟩
theorem am_sti_of {k pc2 : Nat} {a : am_Act} (h : am_sti L k pc2 S ω = some a) : ∃ z T L', S = .inl z :: T ∧ am_sto L k (.inl z) = some L' ∧ a = .inl (pc2, L', T, ω) := by
  unfold am_sti at h
  split at h
  · obtain ⟨L', h1, h2⟩ := am_st1_of h; exact ⟨_, _, L', rfl, h1, h2⟩
  · cases h
theorem am_stj_of {k pc2 : Nat} {a : am_Act} (h : am_stj L k pc2 S ω = some a) : ∃ z T L', S = .inr (.inl z) :: T ∧ am_stl L k (.inr (.inl z)) = some L' ∧ a = .inl (pc2, L', T, ω) := by
  unfold am_stj at h
  split at h
  · obtain ⟨L', h1, h2⟩ := am_st1_of h; exact ⟨_, _, L', rfl, h1, h2⟩
  · cases h
theorem am_sta_of {k pc2 : Nat} {a : am_Act} (h : am_sta L k pc2 S ω = some a) : ∃ z T L', S = .inr (.inr z) :: T ∧ am_sto L k (.inr (.inr z)) = some L' ∧ a = .inl (pc2, L', T, ω) := by
  unfold am_sta at h
  split at h
  · obtain ⟨L', h1, h2⟩ := am_st1_of h; exact ⟨_, _, L', rfl, h1, h2⟩
  · cases h
theorem am_b2_of {f : Int → Int → Int} {pc2 : Nat} {a : am_Act} (h : am_b2 f pc2 L S ω = some a) : ∃ x y T, S = .inl y :: .inl x :: T ∧ a = .inl (pc2, L, .inl (f x y) :: T, ω) := by
  unfold am_b2 am_nx at h
  split at h
  · exact ⟨_, _, _, rfl, (Option.some.inj h).symm⟩
  · cases h
theorem am_j2_of {f : Int → Int → Int} {pc2 : Nat} {a : am_Act} (h : am_j2 f pc2 L S ω = some a) : ∃ x y T, S = .inr (.inl y) :: .inr (.inl x) :: T ∧ a = .inl (pc2, L, .inr (.inl (f x y)) :: T, ω) := by
  unfold am_j2 am_nx at h
  split at h
  · exact ⟨_, _, _, rfl, (Option.some.inj h).symm⟩
  · cases h
theorem am_jp_of {t : Int} {a : am_Act} (h : am_jp t L S ω = some a) : t = ((t.toNat : Nat) : Int) ∧ a = .inl (t.toNat, L, S, ω) := by
  unfold am_jp at h
  obtain ⟨h1, h2⟩ := cd_of h
  have h1 := of_decide_eq_true h1
  exact ⟨by omega, (Option.some.inj h2).symm⟩
theorem am_br_of {cb : Bool} {t : Int} {pc2 : Nat} {a : am_Act} (h : am_br cb t pc2 L S ω = some a) : t = ((t.toNat : Nat) : Int) ∧ a = .inl (if cb = true then t.toNat else pc2, L, S, ω) := by
  unfold am_br at h
  obtain ⟨h1, h2⟩ := cd_of h
  have h1 := of_decide_eq_true h1
  exact ⟨by omega, (Option.some.inj h2).symm⟩
theorem aj_slen {idx b na rk w w2 w3 w4 : Nat} {r : Int} (C : am_Cx G mm A p R s m args meth c sc) (hd : decode (am_by.get mm.1) pc = .ok (.invokevirtual idx, 3)) (hp : am_lk (am_pm.get (am_own mm.1)) idx = some (8, b, na, rk, w, w2, w3, w4)) (hrk : 4 ≤ am_rk mm) (hws : am_words S ≤ 8) (h1 : r ≤ -3) (h2 : -9 < r) (kk : am_J G mm A p l e R s m args below meth c Q c0 s0 sc AD0 (pc + 3) L (.inl (((am_texts.getD (-3 - r).toNat []).length : Nat) : Int) :: S) ω) : am_J G mm A p l e R s m args below meth c Q c0 s0 sc AD0 pc L (.inr (.inr r) :: S) ω := sorry
theorem aj_schr {idx b na rk w w2 w3 w4 : Nat} {r i : Int} (C : am_Cx G mm A p R s m args meth c sc) (hd : decode (am_by.get mm.1) pc = .ok (.invokevirtual idx, 3)) (hp : am_lk (am_pm.get (am_own mm.1)) idx = some (9, b, na, rk, w, w2, w3, w4)) (hrk : 4 ≤ am_rk mm) (hws : am_words S ≤ 8) (h1 : r ≤ -3) (h2 : -9 < r) (h3 : 0 ≤ i) (h4 : i < (((am_texts.getD (-3 - r).toNat []).length : Nat) : Int)) (kk : am_J G mm A p l e R s m args below meth c Q c0 s0 sc AD0 (pc + 3) L (.inl ((am_texts.getD (-3 - r).toNat []).getD i.toNat 0) :: S) ω) : am_J G mm A p l e R s m args below meth c Q c0 s0 sc AD0 pc L (.inl i :: .inr (.inr r) :: S) ω := sorry
theorem am_call_no {m : am_M} {b na rk pc2 : Nat} {rc : Bool} {x : Nat × am_S} : ¬ am_call m b na rk pc2 rc L S ω = some (.inl x) := by
  intro h
  unfold am_call at h
  split at h
  · obtain ⟨-, h2⟩ := cd_of h
    cases h2
  · cases h
theorem am_step_J {i : Instr} {len pc' : Nat} {L' : am_L} {S' : List am_V} {ω' : am_W} (hmb : mm.1 ≤ 240) (hcd : am_code mm.1 pc = some (i, len)) (hs : am_st mm i pc L S ω = some (.inl (pc', L', S', ω'))) : am_Gw ω ω' ∧ (am_Cx G mm A p R s m args meth c sc → ω'.1.length ≤ c0 + R.cells → am_sl ω'.1 ≤ s0 + R.slots → am_J G mm A p l e R s m args below meth c Q c0 s0 sc AD0 pc' L' S' ω' → am_J G mm A p l e R s m args below meth c Q c0 s0 sc AD0 pc L S ω) := by
  obtain ⟨hd, hln⟩ := am_dec hmb hcd
  cases i
  case iconst n =>
    change Nat.beq len 1 = true at hln
    obtain rfl := Nat.eq_of_beq_eq_true hln
    change cond (decide (-128 ≤ n) && decide (n ≤ 127)) (am_nx (pc + 1) L (.inl n :: S) ω) none = _ at hs
    obtain ⟨h1, h2⟩ := cd_of hs
    simp only [Bool.and_eq_true, decide_eq_true_eq] at h1
    cases h2
    exact ⟨am_Gw_rf _, fun C _ _ k => aj_iconst C h1.1 h1.2 hd k⟩
  case bipush n =>
    change Nat.beq len 2 = true at hln
    obtain rfl := Nat.eq_of_beq_eq_true hln
    change cond (decide (-128 ≤ n) && decide (n ≤ 127)) (am_nx (pc + 2) L (.inl n :: S) ω) none = _ at hs
    obtain ⟨h1, h2⟩ := cd_of hs
    simp only [Bool.and_eq_true, decide_eq_true_eq] at h1
    cases h2
    exact ⟨am_Gw_rf _, fun C _ _ k => aj_bipush C h1.1 h1.2 hd k⟩
  case sipush n =>
    change Nat.beq len 3 = true at hln
    obtain rfl := Nat.eq_of_beq_eq_true hln
    change cond (decide (-32768 ≤ n) && decide (n ≤ 32767)) (am_nx (pc + 3) L (.inl n :: S) ω) none = _ at hs
    obtain ⟨h1, h2⟩ := cd_of hs
    simp only [Bool.and_eq_true, decide_eq_true_eq] at h1
    cases h2
    exact ⟨am_Gw_rf _, fun C _ _ k => aj_sipush C h1.1 h1.2 hd k⟩
  case lconst n =>
    change Nat.beq len 1 = true at hln
    obtain rfl := Nat.eq_of_beq_eq_true hln
    change am_nx (pc + 1) L (.inr (.inl ((n : Nat) : Int)) :: S) ω = _ at hs
    cases hs
    exact ⟨am_Gw_rf _, fun C _ _ k => aj_lconst C hd k⟩
  case iload_n k =>
    change Nat.beq len 1 = true at hln
    obtain rfl := Nat.eq_of_beq_eq_true hln
    change am_ldi L k (pc + 1) S ω = _ at hs
    obtain ⟨z, h1, h2⟩ := am_ldi_of hs
    cases h2
    exact ⟨am_Gw_rf _, fun C _ _ k => aj_iload_n C hd h1 k⟩
  case iload k =>
    change Nat.beq len 2 = true at hln
    obtain rfl := Nat.eq_of_beq_eq_true hln
    change am_ldi L k (pc + 2) S ω = _ at hs
    obtain ⟨z, h1, h2⟩ := am_ldi_of hs
    cases h2
    exact ⟨am_Gw_rf _, fun C _ _ k => aj_iload C hd h1 k⟩
  case lload_n k =>
    change Nat.beq len 1 = true at hln
    obtain rfl := Nat.eq_of_beq_eq_true hln
    change am_ldl L k (pc + 1) S ω = _ at hs
    obtain ⟨z, h1, h2⟩ := am_ldl_of hs
    cases h2
    exact ⟨am_Gw_rf _, fun C _ _ k => aj_lload_n C hd h1 k⟩
  case lload k =>
    change Nat.beq len 2 = true at hln
    obtain rfl := Nat.eq_of_beq_eq_true hln
    change am_ldl L k (pc + 2) S ω = _ at hs
    obtain ⟨z, h1, h2⟩ := am_ldl_of hs
    cases h2
    exact ⟨am_Gw_rf _, fun C _ _ k => aj_lload C hd h1 k⟩
  case aload_n k =>
    change Nat.beq len 1 = true at hln
    obtain rfl := Nat.eq_of_beq_eq_true hln
    change am_lda L k (pc + 1) S ω = _ at hs
    obtain ⟨z, h1, h2⟩ := am_lda_of hs
    cases h2
    exact ⟨am_Gw_rf _, fun C _ _ k => aj_aload_n C hd h1 k⟩
  case aload k =>
    change Nat.beq len 2 = true at hln
    obtain rfl := Nat.eq_of_beq_eq_true hln
    change am_lda L k (pc + 2) S ω = _ at hs
    obtain ⟨z, h1, h2⟩ := am_lda_of hs
    cases h2
    exact ⟨am_Gw_rf _, fun C _ _ k => aj_aload C hd h1 k⟩
  case istore_n k =>
    change Nat.beq len 1 = true at hln
    obtain rfl := Nat.eq_of_beq_eq_true hln
    change am_sti L k (pc + 1) S ω = _ at hs
    obtain ⟨z, T, L2, rfl, h1, h2⟩ := am_sti_of hs
    cases h2
    exact ⟨am_Gw_rf _, fun C _ _ k => aj_istore_n C hd h1 k⟩
  case istore k =>
    change Nat.beq len 2 = true at hln
    obtain rfl := Nat.eq_of_beq_eq_true hln
    change am_sti L k (pc + 2) S ω = _ at hs
    obtain ⟨z, T, L2, rfl, h1, h2⟩ := am_sti_of hs
    cases h2
    exact ⟨am_Gw_rf _, fun C _ _ k => aj_istore C hd h1 k⟩
  case lstore_n k =>
    change Nat.beq len 1 = true at hln
    obtain rfl := Nat.eq_of_beq_eq_true hln
    change am_stj L k (pc + 1) S ω = _ at hs
    obtain ⟨z, T, L2, rfl, h1, h2⟩ := am_stj_of hs
    cases h2
    exact ⟨am_Gw_rf _, fun C _ _ k => aj_lstore_n C hd h1 k⟩
  case lstore k =>
    change Nat.beq len 2 = true at hln
    obtain rfl := Nat.eq_of_beq_eq_true hln
    change am_stj L k (pc + 2) S ω = _ at hs
    obtain ⟨z, T, L2, rfl, h1, h2⟩ := am_stj_of hs
    cases h2
    exact ⟨am_Gw_rf _, fun C _ _ k => aj_lstore C hd h1 k⟩
  case astore_n k =>
    change Nat.beq len 1 = true at hln
    obtain rfl := Nat.eq_of_beq_eq_true hln
    change am_sta L k (pc + 1) S ω = _ at hs
    obtain ⟨z, T, L2, rfl, h1, h2⟩ := am_sta_of hs
    cases h2
    exact ⟨am_Gw_rf _, fun C _ _ k => aj_astore_n C hd h1 k⟩
  case astore k =>
    change Nat.beq len 2 = true at hln
    obtain rfl := Nat.eq_of_beq_eq_true hln
    change am_sta L k (pc + 2) S ω = _ at hs
    obtain ⟨z, T, L2, rfl, h1, h2⟩ := am_sta_of hs
    cases h2
    exact ⟨am_Gw_rf _, fun C _ _ k => aj_astore C hd h1 k⟩
  case iinc k n =>
    change Nat.beq len 3 = true at hln
    obtain rfl := Nat.eq_of_beq_eq_true hln
    change (match L[k]? with
      | some (some (.inl z)) => am_st1 (am_sto L k (.inl (am_w (z + n)))) (pc + 3) S ω
      | _ => none) = _ at hs
    split at hs
    · rename_i z hz
      obtain ⟨L2, h1, h2⟩ := am_st1_of hs
      cases h2
      exact ⟨am_Gw_rf _, fun C _ _ k => aj_iinc C hd hz h1 k⟩
    · cases hs
  case iadd =>
    change Nat.beq len 1 = true at hln
    obtain rfl := Nat.eq_of_beq_eq_true hln
    change am_b2 (fun a b => am_w (a + b)) (pc + 1) L S ω = _ at hs
    obtain ⟨x, y, T, rfl, h2⟩ := am_b2_of hs
    cases h2
    exact ⟨am_Gw_rf _, fun C _ _ k => aj_iadd C hd k⟩
  case isub =>
    change Nat.beq len 1 = true at hln
    obtain rfl := Nat.eq_of_beq_eq_true hln
    change am_b2 (fun a b => am_w (a - b)) (pc + 1) L S ω = _ at hs
    obtain ⟨x, y, T, rfl, h2⟩ := am_b2_of hs
    cases h2
    exact ⟨am_Gw_rf _, fun C _ _ k => aj_isub C hd k⟩
  case imul =>
    change Nat.beq len 1 = true at hln
    obtain rfl := Nat.eq_of_beq_eq_true hln
    change am_b2 (fun a b => am_w (a * b)) (pc + 1) L S ω = _ at hs
    obtain ⟨x, y, T, rfl, h2⟩ := am_b2_of hs
    cases h2
    exact ⟨am_Gw_rf _, fun C _ _ k => aj_imul C hd k⟩
  case iand =>
    change Nat.beq len 1 = true at hln
    obtain rfl := Nat.eq_of_beq_eq_true hln
    change am_b2 am_and (pc + 1) L S ω = _ at hs
    obtain ⟨x, y, T, rfl, h2⟩ := am_b2_of hs
    cases h2
    exact ⟨am_Gw_rf _, fun C _ _ k => aj_iand C hd k⟩
  case ior =>
    change Nat.beq len 1 = true at hln
    obtain rfl := Nat.eq_of_beq_eq_true hln
    change am_b2 am_or (pc + 1) L S ω = _ at hs
    obtain ⟨x, y, T, rfl, h2⟩ := am_b2_of hs
    cases h2
    exact ⟨am_Gw_rf _, fun C _ _ k => aj_ior C hd k⟩
  case ixor =>
    change Nat.beq len 1 = true at hln
    obtain rfl := Nat.eq_of_beq_eq_true hln
    change am_b2 am_xor (pc + 1) L S ω = _ at hs
    obtain ⟨x, y, T, rfl, h2⟩ := am_b2_of hs
    cases h2
    exact ⟨am_Gw_rf _, fun C _ _ k => aj_ixor C hd k⟩
  case ishl =>
    change Nat.beq len 1 = true at hln
    obtain rfl := Nat.eq_of_beq_eq_true hln
    change am_b2 am_shl (pc + 1) L S ω = _ at hs
    obtain ⟨x, y, T, rfl, h2⟩ := am_b2_of hs
    cases h2
    exact ⟨am_Gw_rf _, fun C _ _ k => aj_ishl C hd k⟩
  case ishr =>
    change Nat.beq len 1 = true at hln
    obtain rfl := Nat.eq_of_beq_eq_true hln
    change am_b2 am_shr (pc + 1) L S ω = _ at hs
    obtain ⟨x, y, T, rfl, h2⟩ := am_b2_of hs
    cases h2
    exact ⟨am_Gw_rf _, fun C _ _ k => aj_ishr C hd k⟩
  case iushr =>
    change Nat.beq len 1 = true at hln
    obtain rfl := Nat.eq_of_beq_eq_true hln
    change am_b2 am_ushr (pc + 1) L S ω = _ at hs
    obtain ⟨x, y, T, rfl, h2⟩ := am_b2_of hs
    cases h2
    exact ⟨am_Gw_rf _, fun C _ _ k => aj_iushr C hd k⟩
  case idiv =>
    change Nat.beq len 1 = true at hln
    obtain rfl := Nat.eq_of_beq_eq_true hln
    change (match S with
      | .inl b :: .inl a :: S => cond (decide (b = 0)) none (am_nx (pc + 1) L (.inl (am_w (a.tdiv b)) :: S) ω)
      | _ => none) = _ at hs
    split at hs
    · obtain ⟨h1, h2⟩ := cd_ofn hs
      cases h2
      exact ⟨am_Gw_rf _, fun C _ _ k => aj_idiv C (of_decide_eq_false h1) hd k⟩
    · cases hs
  case irem =>
    change Nat.beq len 1 = true at hln
    obtain rfl := Nat.eq_of_beq_eq_true hln
    change (match S with
      | .inl b :: .inl a :: S => cond (decide (b = 0)) none (am_nx (pc + 1) L (.inl (a.tmod b) :: S) ω)
      | _ => none) = _ at hs
    split at hs
    · obtain ⟨h1, h2⟩ := cd_ofn hs
      cases h2
      exact ⟨am_Gw_rf _, fun C _ _ k => aj_irem C (of_decide_eq_false h1) hd k⟩
    · cases hs
  case ldiv =>
    change Nat.beq len 1 = true at hln
    obtain rfl := Nat.eq_of_beq_eq_true hln
    change (match S with
      | .inr (.inl b) :: .inr (.inl a) :: S => cond (decide (b = 0)) none (am_nx (pc + 1) L (.inr (.inl (am_wl (a.tdiv b))) :: S) ω)
      | _ => none) = _ at hs
    split at hs
    · obtain ⟨h1, h2⟩ := cd_ofn hs
      cases h2
      exact ⟨am_Gw_rf _, fun C _ _ k => aj_ldiv C (of_decide_eq_false h1) hd k⟩
    · cases hs
  case lrem =>
    change Nat.beq len 1 = true at hln
    obtain rfl := Nat.eq_of_beq_eq_true hln
    change (match S with
      | .inr (.inl b) :: .inr (.inl a) :: S => cond (decide (b = 0)) none (am_nx (pc + 1) L (.inr (.inl (a.tmod b)) :: S) ω)
      | _ => none) = _ at hs
    split at hs
    · obtain ⟨h1, h2⟩ := cd_ofn hs
      cases h2
      exact ⟨am_Gw_rf _, fun C _ _ k => aj_lrem C (of_decide_eq_false h1) hd k⟩
    · cases hs
  case ineg =>
    change Nat.beq len 1 = true at hln
    obtain rfl := Nat.eq_of_beq_eq_true hln
    change (match S with
      | .inl a :: S => am_nx (pc + 1) L (.inl (am_w (-a)) :: S) ω
      | _ => none) = _ at hs
    split at hs
    · cases hs
      exact ⟨am_Gw_rf _, fun C _ _ k => aj_ineg C hd k⟩
    · cases hs
  case lshl =>
    change Nat.beq len 1 = true at hln
    obtain rfl := Nat.eq_of_beq_eq_true hln
    change (match S with
      | .inl b :: .inr (.inl a) :: S => am_nx (pc + 1) L (.inr (.inl (am_lshl a b)) :: S) ω
      | _ => none) = _ at hs
    split at hs
    · cases hs
      exact ⟨am_Gw_rf _, fun C _ _ k => aj_lshl C hd k⟩
    · cases hs
  case lcmp =>
    change Nat.beq len 1 = true at hln
    obtain rfl := Nat.eq_of_beq_eq_true hln
    change (match S with
      | .inr (.inl b) :: .inr (.inl a) :: S => am_nx (pc + 1) L (.inl (am_cmp a b) :: S) ω
      | _ => none) = _ at hs
    split at hs
    · cases hs
      exact ⟨am_Gw_rf _, fun C _ _ k => aj_lcmp C hd k⟩
    · cases hs
  case i2l =>
    change Nat.beq len 1 = true at hln
    obtain rfl := Nat.eq_of_beq_eq_true hln
    change (match S with
      | .inl a :: S => am_nx (pc + 1) L (.inr (.inl a) :: S) ω
      | _ => none) = _ at hs
    split at hs
    · cases hs
      exact ⟨am_Gw_rf _, fun C _ _ k => aj_i2l C hd k⟩
    · cases hs
  case l2i =>
    change Nat.beq len 1 = true at hln
    obtain rfl := Nat.eq_of_beq_eq_true hln
    change (match S with
      | .inr (.inl a) :: S => am_nx (pc + 1) L (.inl (am_w a) :: S) ω
      | _ => none) = _ at hs
    split at hs
    · cases hs
      exact ⟨am_Gw_rf _, fun C _ _ k => aj_l2i C hd k⟩
    · cases hs
  case i2b =>
    change Nat.beq len 1 = true at hln
    obtain rfl := Nat.eq_of_beq_eq_true hln
    change (match S with
      | .inl a :: S => am_nx (pc + 1) L (.inl (a.bmod 256) :: S) ω
      | _ => none) = _ at hs
    split at hs
    · cases hs
      exact ⟨am_Gw_rf _, fun C _ _ k => aj_i2b C hd k⟩
    · cases hs
  case i2s =>
    change Nat.beq len 1 = true at hln
    obtain rfl := Nat.eq_of_beq_eq_true hln
    change (match S with
      | .inl a :: S => am_nx (pc + 1) L (.inl (a.bmod 65536) :: S) ω
      | _ => none) = _ at hs
    split at hs
    · cases hs
      exact ⟨am_Gw_rf _, fun C _ _ k => aj_i2s C hd k⟩
    · cases hs
  case dup_x1 =>
    change Nat.beq len 1 = true at hln
    obtain rfl := Nat.eq_of_beq_eq_true hln
    change (match S with
      | .inl z :: .inr (.inr r) :: S => am_nx (pc + 1) L (.inl z :: .inr (.inr r) :: .inl z :: S) ω
      | _ => none) = _ at hs
    split at hs
    · cases hs
      exact ⟨am_Gw_rf _, fun C _ _ k => aj_dup_x1 C hd k⟩
    · cases hs
  case dup2 =>
    change Nat.beq len 1 = true at hln
    obtain rfl := Nat.eq_of_beq_eq_true hln
    change (match S with
      | .inl z :: .inr (.inr r) :: S => am_nx (pc + 1) L (.inl z :: .inr (.inr r) :: .inl z :: .inr (.inr r) :: S) ω
      | _ => none) = _ at hs
    split at hs
    · cases hs
      exact ⟨am_Gw_rf _, fun C _ _ k => aj_dup2 C hd k⟩
    · cases hs
  case ladd =>
    change Nat.beq len 1 = true at hln
    obtain rfl := Nat.eq_of_beq_eq_true hln
    change am_j2 (fun a b => am_wl (a + b)) (pc + 1) L S ω = _ at hs
    obtain ⟨x, y, T, rfl, h2⟩ := am_j2_of hs
    cases h2
    exact ⟨am_Gw_rf _, fun C _ _ k => aj_ladd C hd k⟩
  case lmul =>
    change Nat.beq len 1 = true at hln
    obtain rfl := Nat.eq_of_beq_eq_true hln
    change am_j2 (fun a b => am_wl (a * b)) (pc + 1) L S ω = _ at hs
    obtain ⟨x, y, T, rfl, h2⟩ := am_j2_of hs
    cases h2
    exact ⟨am_Gw_rf _, fun C _ _ k => aj_lmul C hd k⟩
  case land =>
    change Nat.beq len 1 = true at hln
    obtain rfl := Nat.eq_of_beq_eq_true hln
    change am_j2 am_land (pc + 1) L S ω = _ at hs
    obtain ⟨x, y, T, rfl, h2⟩ := am_j2_of hs
    cases h2
    exact ⟨am_Gw_rf _, fun C _ _ k => aj_land C hd k⟩
  case lor =>
    change Nat.beq len 1 = true at hln
    obtain rfl := Nat.eq_of_beq_eq_true hln
    change am_j2 am_lor (pc + 1) L S ω = _ at hs
    obtain ⟨x, y, T, rfl, h2⟩ := am_j2_of hs
    cases h2
    exact ⟨am_Gw_rf _, fun C _ _ k => aj_lor C hd k⟩
  case ldc idx =>
    change Nat.beq len 2 = true at hln
    obtain rfl := Nat.eq_of_beq_eq_true hln
    change (match am_lk (am_pc.get (am_own mm.1)) idx, am_lk (am_ps.get (am_own mm.1)) idx with
      | some (z, _), _ => am_nx (pc + 2) L (.inl z :: S) ω
      | none, some (k, _) => am_nx (pc + 2) L (.inr (.inr (-3 - (k : Int))) :: S) ω
      | none, none => none) = _ at hs
    split at hs
    · rename_i z w hz
      cases hs
      exact ⟨am_Gw_rf _, fun C _ _ k => aj_ldc C hd (by assumption) k⟩
    · rename_i k2 w hz
      cases hs
      exact ⟨am_Gw_rf _, fun C _ _ k => aj_ldcS C hd (by assumption) k⟩
    · cases hs
  case ldc_w idx =>
    change Nat.beq len 3 = true at hln
    obtain rfl := Nat.eq_of_beq_eq_true hln
    change (match am_lk (am_pc.get (am_own mm.1)) idx with
      | some (z, _) => am_nx (pc + 3) L (.inl z :: S) ω
      | none => none) = _ at hs
    split at hs
    · cases hs
      exact ⟨am_Gw_rf _, fun C _ _ k => aj_ldcw C hd (by assumption) k⟩
    · cases hs
  case ldc2_w idx =>
    change Nat.beq len 3 = true at hln
    obtain rfl := Nat.eq_of_beq_eq_true hln
    change (match am_lk (am_pl.get (am_own mm.1)) idx with
      | some (z, _) => am_nx (pc + 3) L (.inr (.inl z) :: S) ω
      | none => none) = _ at hs
    split at hs
    · cases hs
      exact ⟨am_Gw_rf _, fun C _ _ k => aj_ldc2 C hd (by assumption) k⟩
    · cases hs
  case dup =>
    change Nat.beq len 1 = true at hln
    obtain rfl := Nat.eq_of_beq_eq_true hln
    change (match S with
      | .inl z :: S => am_nx (pc + 1) L (.inl z :: .inl z :: S) ω
      | .inr (.inr z) :: S => am_nx (pc + 1) L (.inr (.inr z) :: .inr (.inr z) :: S) ω
      | _ => none) = _ at hs
    split at hs
    · cases hs
      exact ⟨am_Gw_rf _, fun C _ _ k => aj_dupi C hd k⟩
    · cases hs
      exact ⟨am_Gw_rf _, fun C _ _ k => aj_dupr C hd k⟩
    · cases hs
  case pop =>
    change Nat.beq len 1 = true at hln
    obtain rfl := Nat.eq_of_beq_eq_true hln
    change (match S with
      | .inl _ :: S => am_nx (pc + 1) L S ω
      | .inr (.inr _) :: S => am_nx (pc + 1) L S ω
      | _ => none) = _ at hs
    split at hs
    · cases hs
      exact ⟨am_Gw_rf _, fun C _ _ k => aj_popi C hd k⟩
    · cases hs
      exact ⟨am_Gw_rf _, fun C _ _ k => aj_popr C hd k⟩
    · cases hs
  case goto off =>
    change Nat.beq len 3 = true at hln
    obtain rfl := Nat.eq_of_beq_eq_true hln
    change am_jp ((pc : Int) + off) L S ω = _ at hs
    obtain ⟨h1, h2⟩ := am_jp_of hs
    cases h2
    exact ⟨am_Gw_rf _, fun C _ _ k => aj_goto C hd h1 k⟩
  case ifCond c off =>
    change Nat.beq len 3 = true at hln
    obtain rfl := Nat.eq_of_beq_eq_true hln
    change (match S with
      | .inl a :: S => am_br (am_cc c a 0) ((pc : Int) + off) (pc + 3) L S ω
      | _ => none) = _ at hs
    split at hs
    · obtain ⟨h1, h2⟩ := am_br_of hs
      cases h2
      exact ⟨am_Gw_rf _, fun C _ _ k => aj_if C hd h1 k⟩
    · cases hs
  case if_icmp c off =>
    change Nat.beq len 3 = true at hln
    obtain rfl := Nat.eq_of_beq_eq_true hln
    change (match S with
      | .inl b :: .inl a :: S => am_br (am_cc c a b) ((pc : Int) + off) (pc + 3) L S ω
      | _ => none) = _ at hs
    split at hs
    · obtain ⟨h1, h2⟩ := am_br_of hs
      cases h2
      exact ⟨am_Gw_rf _, fun C _ _ k => aj_icmp C hd h1 k⟩
    · cases hs
  case ifnonnull off =>
    change Nat.beq len 3 = true at hln
    obtain rfl := Nat.eq_of_beq_eq_true hln
    change (match S with
      | .inr (.inr r) :: S => am_br (decide (¬ r = -1)) ((pc : Int) + off) (pc + 3) L S ω
      | _ => none) = _ at hs
    split at hs
    · obtain ⟨h1, h2⟩ := am_br_of hs
      cases h2
      exact ⟨am_Gw_rf _, fun C _ _ k => aj_ifnonnull C hd h1 k⟩
    · cases hs
  case tableswitch dflt lo hi offs =>
    change (match S with
      | .inl z :: S => (match am_tsw dflt lo hi offs z with
      | some off => am_jp ((pc : Int) + off) L S ω
      | none => none)
      | _ => none) = _ at hs
    split at hs
    · split at hs
      · rename_i off ho
        obtain ⟨h1, h2⟩ := am_jp_of hs
        cases h2
        exact ⟨am_Gw_rf _, fun C _ _ k => aj_tableswitch C hd ho h1 k⟩
      · cases hs
    · cases hs
  case getfield idx =>
    change Nat.beq len 3 = true at hln
    obtain rfl := Nat.eq_of_beq_eq_true hln
    change am_getf (am_own mm.1) idx (pc + 3) L S ω = _ at hs
    unfold am_getf at hs
    split at hs
    · obtain ⟨h1, h2⟩ := cd_of hs
      cases h2
      exact ⟨am_Gw_rf _, fun C _ _ k => aj_getfield C hd (by assumption) h1 k⟩
    · cases hs
  case putfield idx =>
    change Nat.beq len 3 = true at hln
    obtain rfl := Nat.eq_of_beq_eq_true hln
    change am_putf (am_own mm.1) mm.1 idx (pc + 3) L S ω = _ at hs
    unfold am_putf at hs
    split at hs
    · obtain ⟨h1, h2⟩ := cd_of hs
      cases h2
      rw [Bool.and_eq_true, Bool.and_eq_true] at h1
      refine ⟨am_Gw_put _ _ _ _, fun C _ _ k => aj_putfieldi C hd (by assumption) h1.1 h1.2.1 ?_ k⟩
      have h3 := h1.2.2
      split at h3
      · rename_i h4; exact Or.inl h4
      · rename_i h4; exact Or.inr ⟨h4, by simpa using h3⟩
      · cases h3
    · obtain ⟨h1, h2⟩ := cd_of hs
      cases h2
      rw [Bool.and_eq_true, Bool.and_eq_true, Bool.and_eq_true] at h1
      exact ⟨am_Gw_put _ _ _ _, fun C _ _ k => aj_putfieldr C hd (by assumption) h1.1 h1.2.1 (Nat.eq_of_beq_eq_true h1.2.2.1) (of_decide_eq_true h1.2.2.2) k⟩
    · cases hs
  case arraylength =>
    change Nat.beq len 1 = true at hln
    obtain rfl := Nat.eq_of_beq_eq_true hln
    change (match S with
      | .inr (.inr r) :: S => cond (Nat.beq mm.1 240 && decide (r = -2)) (am_nx (pc + 1) L (.inl (ω.2.2.1 : Int) :: S) ω) (cond (am_ar ω r 100 || am_ar ω r 101) (am_nx (pc + 1) L (.inl (am_len ω r) :: S) ω) none)
      | _ => none) = _ at hs
    split at hs
    · rename_i r T
      cases hr : (Nat.beq mm.1 240 && decide (r = -2)) with
      | true =>
        rw [hr] at hs
        rw [Bool.and_eq_true] at hr
        obtain rfl := of_decide_eq_true hr.2
        cases hs
        exact ⟨am_Gw_rf _, fun C _ _ k => aj_scrlen C hd k⟩
      | false =>
        rw [hr] at hs
        obtain ⟨h1, h2⟩ := cd_of (show cond (am_ar ω r 100 || am_ar ω r 101) (am_nx (pc + 1) L (.inl (am_len ω r) :: T) ω) none = _ from hs)
        cases h2
        rcases Bool.or_eq_true_iff.mp h1 with h | h
        · exact ⟨am_Gw_rf _, fun C _ _ k => aj_arraylength (kd := 100) (t0 := 0) (ty := .int) C hd (Or.inl rfl) rfl h k⟩
        · exact ⟨am_Gw_rf _, fun C _ _ k => aj_arraylength (kd := 101) (t0 := 1) (ty := .long) C hd (Or.inr rfl) rfl h k⟩
    · cases hs
  case iaload =>
    change Nat.beq len 1 = true at hln
    obtain rfl := Nat.eq_of_beq_eq_true hln
    change (match S with
      | .inl j :: .inr (.inr r) :: S => cond (Nat.beq mm.1 240 && decide (r = -2)) (cond (decide (0 ≤ j) && decide (j < (ω.2.2.1 : Int))) (am_nx (pc + 1) L (.inl (ω.2.2.2 j.toNat) :: S) ω) none) (cond (am_in ω r 100 j) (am_nx (pc + 1) L (.inl (am_get ω r.toNat j.toNat) :: S) ω) none)
      | _ => none) = _ at hs
    split at hs
    · rename_i j r T
      cases hr : (Nat.beq mm.1 240 && decide (r = -2)) with
      | true =>
        rw [hr] at hs
        rw [Bool.and_eq_true] at hr
        obtain rfl := of_decide_eq_true hr.2
        obtain ⟨h1, h2⟩ := cd_of (show cond (decide (0 ≤ j) && decide (j < (ω.2.2.1 : Int))) (am_nx (pc + 1) L (.inl (ω.2.2.2 j.toNat) :: T) ω) none = _ from hs)
        cases h2
        simp only [Bool.and_eq_true, decide_eq_true_eq] at h1
        exact ⟨am_Gw_rf _, fun C _ _ k => aj_scrload C hd h1.1 h1.2 k⟩
      | false =>
        rw [hr] at hs
        obtain ⟨h1, h2⟩ := cd_of (show cond (am_in ω r 100 j) (am_nx (pc + 1) L (.inl (am_get ω r.toNat j.toNat) :: T) ω) none = _ from hs)
        cases h2
        exact ⟨am_Gw_rf _, fun C _ _ k => aj_iaload C hd h1 k⟩
    · cases hs
  case laload =>
    change Nat.beq len 1 = true at hln
    obtain rfl := Nat.eq_of_beq_eq_true hln
    change (match S with
      | .inl j :: .inr (.inr r) :: S => cond (am_in ω r 101 j) (am_nx (pc + 1) L (.inr (.inl (am_get ω r.toNat j.toNat)) :: S) ω) none
      | _ => none) = _ at hs
    split at hs
    · obtain ⟨h1, h2⟩ := cd_of hs
      cases h2
      exact ⟨am_Gw_rf _, fun C _ _ k => aj_laload C hd h1 k⟩
    · cases hs
  case aaload =>
    change Nat.beq len 1 = true at hln
    obtain rfl := Nat.eq_of_beq_eq_true hln
    change (match S with
      | .inl j :: .inr (.inr r) :: S => cond (am_in ω r 102 j || (am_in ω r 103 j || am_in ω r 104 j)) (am_nx (pc + 1) L (.inr (.inr (am_get ω r.toNat j.toNat)) :: S) ω) none
      | _ => none) = _ at hs
    split at hs
    · obtain ⟨h1, h2⟩ := cd_of hs
      cases h2
      rcases Bool.or_eq_true_iff.mp h1 with h | h
      · exact ⟨am_Gw_rf _, fun C _ _ k => aj_aaload (kd := 102) (t0 := 2) (ty := .object RX4) C hd (by decide) rfl rfl h k⟩
      rcases Bool.or_eq_true_iff.mp h with h | h
      · exact ⟨am_Gw_rf _, fun C _ _ k => aj_aaload (kd := 103) (t0 := 3) (ty := .object RX2) C hd (by decide) rfl rfl h k⟩
      · exact ⟨am_Gw_rf _, fun C _ _ k => aj_aaload (kd := 104) (t0 := 4) (ty := .array .int) C hd (by decide) rfl rfl h k⟩
    · cases hs
  case iastore =>
    change Nat.beq len 1 = true at hln
    obtain rfl := Nat.eq_of_beq_eq_true hln
    change (match S with
      | .inl z :: .inl j :: .inr (.inr r) :: S => cond (am_in ω r 100 j) (am_nx (pc + 1) L S (am_put ω r.toNat j.toNat z)) none
      | _ => none) = _ at hs
    split at hs
    · obtain ⟨h1, h2⟩ := cd_of hs
      cases h2
      exact ⟨am_Gw_put _ _ _ _, fun C _ _ k => aj_iastore C hd h1 k⟩
    · cases hs
  case lastore =>
    change Nat.beq len 1 = true at hln
    obtain rfl := Nat.eq_of_beq_eq_true hln
    change (match S with
      | .inr (.inl z) :: .inl j :: .inr (.inr r) :: S => cond (am_in ω r 101 j) (am_nx (pc + 1) L S (am_put ω r.toNat j.toNat z)) none
      | _ => none) = _ at hs
    split at hs
    · obtain ⟨h1, h2⟩ := cd_of hs
      cases h2
      exact ⟨am_Gw_put _ _ _ _, fun C _ _ k => aj_lastore C hd h1 k⟩
    · cases hs
  case aastore =>
    change Nat.beq len 1 = true at hln
    obtain rfl := Nat.eq_of_beq_eq_true hln
    change (match S with
      | .inr (.inr z) :: .inl j :: .inr (.inr r) :: S => cond ((am_in ω r 102 j && am_is ω z (4, 5)) || (am_in ω r 103 j && am_is ω z (2, 3))) (am_nx (pc + 1) L S (am_put ω r.toNat j.toNat z)) none
      | _ => none) = _ at hs
    split at hs
    · obtain ⟨h1, h2⟩ := cd_of hs
      cases h2
      rcases Bool.or_eq_true_iff.mp h1 with h | h
      · rw [Bool.and_eq_true] at h
        exact ⟨am_Gw_put _ _ _ _, fun C _ _ k => aj_aastore (kd := 102) (t0 := 2) (ci := 4) C hd (by decide) (by decide) am_cls_4.1 rfl h.1 h.2 k⟩
      · rw [Bool.and_eq_true] at h
        exact ⟨am_Gw_put _ _ _ _, fun C _ _ k => aj_aastore (kd := 103) (t0 := 3) (ci := 2) C hd (by decide) (by decide) am_cls_2.1 rfl h.1 h.2 k⟩
    · cases hs
  case new idx =>
    change Nat.beq len 3 = true at hln
    obtain rfl := Nat.eq_of_beq_eq_true hln
    change (match am_lk (am_pn.get (am_own mm.1)) idx with
      | some (ci, _) => cond (decide (ci < 8)) (am_nx (pc + 3) L (.inr (.inr (ω.1.length : Int)) :: S) (am_new ω (ci, am_nf ci) (am_d0 ci))) none
      | none => none) = _ at hs
    split at hs
    · obtain ⟨h1, h2⟩ := cd_of hs
      cases h2
      refine ⟨am_Gw_new _ _ _, fun C b1 b2 k => aj_new C hd (by assumption) (of_decide_eq_true h1) ?_ k⟩
      rw [(am_new_len _ _ _).1] at b1
      rw [(am_new_len _ _ _).2] at b2
      exact ⟨b1, b2⟩
    · cases hs
  case newarray ty =>
    change Nat.beq len 2 = true at hln
    obtain rfl := Nat.eq_of_beq_eq_true hln
    change (match S with
      | .inl n :: S => cond (decide (0 ≤ n) && decide (n ≤ 100000)) (match ty with
      | .int => am_nx (pc + 2) L (.inr (.inr (ω.1.length : Int)) :: S) (am_new ω (100, n.toNat) (fun _ => 0))
      | .long => am_nx (pc + 2) L (.inr (.inr (ω.1.length : Int)) :: S) (am_new ω (101, n.toNat) (fun _ => 0))
      | _ => none) none
      | _ => none) = _ at hs
    split at hs
    · obtain ⟨h1, h2⟩ := cd_of hs
      simp only [Bool.and_eq_true, decide_eq_true_eq] at h1
      split at h2
      · cases h2
        refine ⟨am_Gw_new _ _ _, fun C b1 b2 k => aj_newarrayI C hd h1.1 h1.2 ?_ k⟩
        rw [(am_new_len _ _ _).1] at b1
        rw [(am_new_len _ _ _).2] at b2
        exact ⟨b1, b2⟩
      · cases h2
        refine ⟨am_Gw_new _ _ _, fun C b1 b2 k => aj_newarrayL C hd h1.1 h1.2 ?_ k⟩
        rw [(am_new_len _ _ _).1] at b1
        rw [(am_new_len _ _ _).2] at b2
        exact ⟨b1, b2⟩
      · cases h2
    · cases hs
  case anewarray idx =>
    change Nat.beq len 3 = true at hln
    obtain rfl := Nat.eq_of_beq_eq_true hln
    change (match am_lk (am_pn.get (am_own mm.1)) idx, S with
      | some (ci, _), .inl n :: S => cond (decide (0 ≤ n) && decide (n ≤ 100000)) (match ci with
      | 4 => am_nx (pc + 3) L (.inr (.inr (ω.1.length : Int)) :: S) (am_new ω (102, n.toNat) (fun _ => -1))
      | 2 => am_nx (pc + 3) L (.inr (.inr (ω.1.length : Int)) :: S) (am_new ω (103, n.toNat) (fun _ => -1))
      | _ => none) none
      | _, _ => none) = _ at hs
    split at hs
    · obtain ⟨h1, h2⟩ := cd_of hs
      simp only [Bool.and_eq_true, decide_eq_true_eq] at h1
      split at h2
      · cases h2
        refine ⟨am_Gw_new _ _ _, fun C b1 b2 k => aj_anewarrayV C hd (by assumption) h1.1 h1.2 ?_ k⟩
        rw [(am_new_len _ _ _).1] at b1
        rw [(am_new_len _ _ _).2] at b2
        exact ⟨b1, b2⟩
      · cases h2
        refine ⟨am_Gw_new _ _ _, fun C b1 b2 k => aj_anewarrayS C hd (by assumption) h1.1 h1.2 ?_ k⟩
        rw [(am_new_len _ _ _).1] at b1
        rw [(am_new_len _ _ _).2] at b2
        exact ⟨b1, b2⟩
      · cases h2
    · cases hs
  case multianewarray idx dims =>
    change Nat.beq len 4 = true at hln
    obtain rfl := Nat.eq_of_beq_eq_true hln
    change (match am_lk (am_pn.get (am_own mm.1)) idx, S with
      | some (104, _), .inl k :: .inl n :: S => cond (Nat.beq dims 2 && (decide (0 ≤ n) && (decide (n ≤ 1000) && (decide (0 ≤ k) && decide (k ≤ 100000))))) (am_nx (pc + 4) L (.inr (.inr (ω.1.length : Int)) :: S) (am_newg ω n.toNat k.toNat)) none
      | _, _ => none) = _ at hs
    split at hs
    · obtain ⟨h1, h2⟩ := cd_of hs
      simp only [Bool.and_eq_true, decide_eq_true_eq] at h1
      obtain ⟨g0, g1, g2, g3, g4⟩ := h1
      obtain rfl := Nat.eq_of_beq_eq_true g0
      cases h2
      refine ⟨am_Gw_newg _ _ _, fun C b1 b2 k => aj_multianewarray C hd (by assumption) g1 g2 g3 g4 ?_ k⟩
      rw [(am_newg_len _ _ _).1] at b1
      rw [(am_newg_len _ _ _).2] at b2
      exact ⟨b1, b2⟩
    · cases hs
  case invokevirtual idx =>
    change Nat.beq len 3 = true at hln
    obtain rfl := Nat.eq_of_beq_eq_true hln
    change am_inv 0 mm idx (pc + 3) L S ω = _ at hs
    unfold am_inv at hs
    split at hs
    · split at hs
      all_goals (first | (exfalso; omega) | (exfalso; exact am_call_no hs) | (exfalso; cases hs; done) | skip)
      · unfold am_slen at hs
        split at hs
        · obtain ⟨h1, h2⟩ := cd_of hs
          simp only [Bool.and_eq_true, decide_eq_true_eq] at h1
          cases h2
          exact ⟨am_Gw_rf _, fun C _ _ k => aj_slen C hd (by assumption) (Nat.le_of_ble_eq_true h1.1) h1.2.1 h1.2.2.1 h1.2.2.2 k⟩
        · cases hs
      · unfold am_schr at hs
        split at hs
        · obtain ⟨h1, h2⟩ := cd_of hs
          simp only [Bool.and_eq_true, decide_eq_true_eq] at h1
          cases h2
          exact ⟨am_Gw_rf _, fun C _ _ k => aj_schr C hd (by assumption) (Nat.le_of_ble_eq_true h1.1) h1.2.1 h1.2.2.1 h1.2.2.2.1 h1.2.2.2.2.1 h1.2.2.2.2.2 k⟩
        · cases hs
    · cases hs
  case invokestatic idx =>
    change Nat.beq len 3 = true at hln
    obtain rfl := Nat.eq_of_beq_eq_true hln
    change am_inv 1 mm idx (pc + 3) L S ω = _ at hs
    unfold am_inv at hs
    split at hs
    · split at hs
      all_goals (first | (exfalso; omega) | (exfalso; exact am_call_no hs) | (exfalso; cases hs; done) | skip)
      · unfold am_acpy at hs
        split at hs
        · obtain ⟨h1, h2⟩ := cd_of hs
          simp only [Bool.and_eq_true, decide_eq_true_eq, Bool.or_eq_true] at h1
          obtain ⟨g0, g1, g2, g3, g4, g5, g6, g7⟩ := h1
          cases h2
          rcases g2 with ⟨a1, a2⟩ | ⟨a1, a2⟩
          · exact ⟨am_Gw_cpy _ _ _ _ _ _, fun C _ _ k => aj_acpyI C hd (by assumption) (Nat.le_of_ble_eq_true g0) g1 a1 a2 g3 g4 g5 g6 g7 k⟩
          · exact ⟨am_Gw_cpy _ _ _ _ _ _, fun C _ _ k => aj_acpyL C hd (by assumption) (Nat.le_of_ble_eq_true g0) g1 a1 a2 g3 g4 g5 g6 g7 k⟩
        · cases hs
    · cases hs
  case invokespecial idx =>
    change Nat.beq len 3 = true at hln
    obtain rfl := Nat.eq_of_beq_eq_true hln
    change am_inv 2 mm idx (pc + 3) L S ω = _ at hs
    unfold am_inv at hs
    split at hs
    · split at hs
      all_goals (first | (exfalso; omega) | (exfalso; exact am_call_no hs) | (exfalso; cases hs; done) | skip)
      · split at hs
        · obtain ⟨h1, h2⟩ := cd_of hs
          simp only [Bool.and_eq_true, decide_eq_true_eq] at h1
          cases h2
          exact ⟨am_Gw_rf _, fun C _ _ k => aj_objInit C hd (by assumption) (Nat.le_of_ble_eq_true h1.1) h1.2.1 h1.2.2 k⟩
        · cases hs
    · cases hs
  case ireturn =>
    change Nat.beq len 1 = true at hln
    obtain rfl := Nat.eq_of_beq_eq_true hln
    change (match S with
      | [.inl z] => cond (am_nar (am_rt mm.1) z) (am_rv (some (.inl z)) ω) none
      | _ => none) = _ at hs
    split at hs
    · obtain ⟨h1, h2⟩ := cd_of hs
      cases h2
    · cases hs
  case lreturn =>
    change Nat.beq len 1 = true at hln
    obtain rfl := Nat.eq_of_beq_eq_true hln
    change (match S with
      | [.inr (.inl z)] => cond (Nat.beq (am_rt mm.1) 2) (am_rv (some (.inr (.inl z))) ω) none
      | _ => none) = _ at hs
    split at hs
    · obtain ⟨h1, h2⟩ := cd_of hs
      cases h2
    · cases hs
  case areturn =>
    change Nat.beq len 1 = true at hln
    obtain rfl := Nat.eq_of_beq_eq_true hln
    change (match S with
      | [.inr (.inr z)] => cond (Nat.beq (am_rt mm.1) 3 && am_is ω z (1, 15)) (am_rv (some (.inr (.inr z))) ω) none
      | _ => none) = _ at hs
    split at hs
    · obtain ⟨h1, h2⟩ := cd_of hs
      cases h2
    · cases hs
  case return_ =>
    change Nat.beq len 1 = true at hln
    obtain rfl := Nat.eq_of_beq_eq_true hln
    change (match S with
      | [] => cond (Nat.beq (am_rt mm.1) 0) (am_rv none ω) none
      | _ => none) = _ at hs
    split at hs
    · obtain ⟨h1, h2⟩ := cd_of hs
      cases h2
    · cases hs
  all_goals (cases hs)
/-- what stands at a method's end -/
noncomputable def am_rd (b pc : Nat) (v : Option am_V) : Prop := match v with
  | none => decode (am_by.get b) pc = .ok (.return_, 1) ∧ am_rt b = 0
  | some (.inl z) => decode (am_by.get b) pc = .ok (.ireturn, 1) ∧ am_nar (am_rt b) z = true
  | some (.inr (.inl _)) => decode (am_by.get b) pc = .ok (.lreturn, 1) ∧ am_rt b = 2
  | some (.inr (.inr z)) => decode (am_by.get b) pc = .ok (.areturn, 1) ∧ am_rt b = 3 ∧ 0 ≤ z
theorem am_call_nr {m : am_M} {b na rk pc2 : Nat} {rc : Bool} {x : am_R} : ¬ am_call m b na rk pc2 rc L S ω = some (.inr (.inl x)) := by
  intro h
  unfold am_call at h
  split at h
  · obtain ⟨-, h2⟩ := cd_of h
    cases h2
  · cases h
theorem am_slen_no {rk pc2 : Nat} {x : am_R ⊕ (am_M × Nat × List am_V × Nat × am_S)} : ¬ am_slen rk pc2 L S ω = some (.inr x) := by
  intro h
  unfold am_slen at h
  split at h
  · obtain ⟨-, h2⟩ := cd_of h
    cases h2
  · cases h
theorem am_schr_no {rk pc2 : Nat} {x : am_R ⊕ (am_M × Nat × List am_V × Nat × am_S)} : ¬ am_schr rk pc2 L S ω = some (.inr x) := by
  intro h
  unfold am_schr at h
  split at h
  · obtain ⟨-, h2⟩ := cd_of h
    cases h2
  · cases h
theorem am_acpy_no {rk pc2 : Nat} {x : am_R ⊕ (am_M × Nat × List am_V × Nat × am_S)} : ¬ am_acpy rk pc2 L S ω = some (.inr x) := by
  intro h
  unfold am_acpy at h
  split at h
  · obtain ⟨-, h2⟩ := cd_of h
    cases h2
  · cases h
theorem am_step_R {i : Instr} {len : Nat} {v : Option am_V} {ω' : am_W} (hmb : mm.1 ≤ 240) (hcd : am_code mm.1 pc = some (i, len)) (hs : am_st mm i pc L S ω = some (.inr (.inl (v, ω')))) : ω' = ω ∧ S = v.toList ∧ am_rd mm.1 pc v := by
  obtain ⟨hd, hln⟩ := am_dec hmb hcd
  cases i
  case iconst n =>
    change Nat.beq len 1 = true at hln
    obtain rfl := Nat.eq_of_beq_eq_true hln
    change cond (decide (-128 ≤ n) && decide (n ≤ 127)) (am_nx (pc + 1) L (.inl n :: S) ω) none = _ at hs
    obtain ⟨h1, h2⟩ := cd_of hs
    simp only [Bool.and_eq_true, decide_eq_true_eq] at h1
    cases h2
  case bipush n =>
    change Nat.beq len 2 = true at hln
    obtain rfl := Nat.eq_of_beq_eq_true hln
    change cond (decide (-128 ≤ n) && decide (n ≤ 127)) (am_nx (pc + 2) L (.inl n :: S) ω) none = _ at hs
    obtain ⟨h1, h2⟩ := cd_of hs
    simp only [Bool.and_eq_true, decide_eq_true_eq] at h1
    cases h2
  case sipush n =>
    change Nat.beq len 3 = true at hln
    obtain rfl := Nat.eq_of_beq_eq_true hln
    change cond (decide (-32768 ≤ n) && decide (n ≤ 32767)) (am_nx (pc + 3) L (.inl n :: S) ω) none = _ at hs
    obtain ⟨h1, h2⟩ := cd_of hs
    simp only [Bool.and_eq_true, decide_eq_true_eq] at h1
    cases h2
  case lconst n =>
    change Nat.beq len 1 = true at hln
    obtain rfl := Nat.eq_of_beq_eq_true hln
    change am_nx (pc + 1) L (.inr (.inl ((n : Nat) : Int)) :: S) ω = _ at hs
    cases hs
  case iload_n k =>
    change Nat.beq len 1 = true at hln
    obtain rfl := Nat.eq_of_beq_eq_true hln
    change am_ldi L k (pc + 1) S ω = _ at hs
    obtain ⟨z, h1, h2⟩ := am_ldi_of hs
    cases h2
  case iload k =>
    change Nat.beq len 2 = true at hln
    obtain rfl := Nat.eq_of_beq_eq_true hln
    change am_ldi L k (pc + 2) S ω = _ at hs
    obtain ⟨z, h1, h2⟩ := am_ldi_of hs
    cases h2
  case lload_n k =>
    change Nat.beq len 1 = true at hln
    obtain rfl := Nat.eq_of_beq_eq_true hln
    change am_ldl L k (pc + 1) S ω = _ at hs
    obtain ⟨z, h1, h2⟩ := am_ldl_of hs
    cases h2
  case lload k =>
    change Nat.beq len 2 = true at hln
    obtain rfl := Nat.eq_of_beq_eq_true hln
    change am_ldl L k (pc + 2) S ω = _ at hs
    obtain ⟨z, h1, h2⟩ := am_ldl_of hs
    cases h2
  case aload_n k =>
    change Nat.beq len 1 = true at hln
    obtain rfl := Nat.eq_of_beq_eq_true hln
    change am_lda L k (pc + 1) S ω = _ at hs
    obtain ⟨z, h1, h2⟩ := am_lda_of hs
    cases h2
  case aload k =>
    change Nat.beq len 2 = true at hln
    obtain rfl := Nat.eq_of_beq_eq_true hln
    change am_lda L k (pc + 2) S ω = _ at hs
    obtain ⟨z, h1, h2⟩ := am_lda_of hs
    cases h2
  case istore_n k =>
    change Nat.beq len 1 = true at hln
    obtain rfl := Nat.eq_of_beq_eq_true hln
    change am_sti L k (pc + 1) S ω = _ at hs
    obtain ⟨z, T, L2, rfl, h1, h2⟩ := am_sti_of hs
    cases h2
  case istore k =>
    change Nat.beq len 2 = true at hln
    obtain rfl := Nat.eq_of_beq_eq_true hln
    change am_sti L k (pc + 2) S ω = _ at hs
    obtain ⟨z, T, L2, rfl, h1, h2⟩ := am_sti_of hs
    cases h2
  case lstore_n k =>
    change Nat.beq len 1 = true at hln
    obtain rfl := Nat.eq_of_beq_eq_true hln
    change am_stj L k (pc + 1) S ω = _ at hs
    obtain ⟨z, T, L2, rfl, h1, h2⟩ := am_stj_of hs
    cases h2
  case lstore k =>
    change Nat.beq len 2 = true at hln
    obtain rfl := Nat.eq_of_beq_eq_true hln
    change am_stj L k (pc + 2) S ω = _ at hs
    obtain ⟨z, T, L2, rfl, h1, h2⟩ := am_stj_of hs
    cases h2
  case astore_n k =>
    change Nat.beq len 1 = true at hln
    obtain rfl := Nat.eq_of_beq_eq_true hln
    change am_sta L k (pc + 1) S ω = _ at hs
    obtain ⟨z, T, L2, rfl, h1, h2⟩ := am_sta_of hs
    cases h2
  case astore k =>
    change Nat.beq len 2 = true at hln
    obtain rfl := Nat.eq_of_beq_eq_true hln
    change am_sta L k (pc + 2) S ω = _ at hs
    obtain ⟨z, T, L2, rfl, h1, h2⟩ := am_sta_of hs
    cases h2
  case iinc k n =>
    change Nat.beq len 3 = true at hln
    obtain rfl := Nat.eq_of_beq_eq_true hln
    change (match L[k]? with
      | some (some (.inl z)) => am_st1 (am_sto L k (.inl (am_w (z + n)))) (pc + 3) S ω
      | _ => none) = _ at hs
    split at hs
    · rename_i z hz
      obtain ⟨L2, h1, h2⟩ := am_st1_of hs
      cases h2
    · cases hs
  case iadd =>
    change Nat.beq len 1 = true at hln
    obtain rfl := Nat.eq_of_beq_eq_true hln
    change am_b2 (fun a b => am_w (a + b)) (pc + 1) L S ω = _ at hs
    obtain ⟨x, y, T, rfl, h2⟩ := am_b2_of hs
    cases h2
  case isub =>
    change Nat.beq len 1 = true at hln
    obtain rfl := Nat.eq_of_beq_eq_true hln
    change am_b2 (fun a b => am_w (a - b)) (pc + 1) L S ω = _ at hs
    obtain ⟨x, y, T, rfl, h2⟩ := am_b2_of hs
    cases h2
  case imul =>
    change Nat.beq len 1 = true at hln
    obtain rfl := Nat.eq_of_beq_eq_true hln
    change am_b2 (fun a b => am_w (a * b)) (pc + 1) L S ω = _ at hs
    obtain ⟨x, y, T, rfl, h2⟩ := am_b2_of hs
    cases h2
  case iand =>
    change Nat.beq len 1 = true at hln
    obtain rfl := Nat.eq_of_beq_eq_true hln
    change am_b2 am_and (pc + 1) L S ω = _ at hs
    obtain ⟨x, y, T, rfl, h2⟩ := am_b2_of hs
    cases h2
  case ior =>
    change Nat.beq len 1 = true at hln
    obtain rfl := Nat.eq_of_beq_eq_true hln
    change am_b2 am_or (pc + 1) L S ω = _ at hs
    obtain ⟨x, y, T, rfl, h2⟩ := am_b2_of hs
    cases h2
  case ixor =>
    change Nat.beq len 1 = true at hln
    obtain rfl := Nat.eq_of_beq_eq_true hln
    change am_b2 am_xor (pc + 1) L S ω = _ at hs
    obtain ⟨x, y, T, rfl, h2⟩ := am_b2_of hs
    cases h2
  case ishl =>
    change Nat.beq len 1 = true at hln
    obtain rfl := Nat.eq_of_beq_eq_true hln
    change am_b2 am_shl (pc + 1) L S ω = _ at hs
    obtain ⟨x, y, T, rfl, h2⟩ := am_b2_of hs
    cases h2
  case ishr =>
    change Nat.beq len 1 = true at hln
    obtain rfl := Nat.eq_of_beq_eq_true hln
    change am_b2 am_shr (pc + 1) L S ω = _ at hs
    obtain ⟨x, y, T, rfl, h2⟩ := am_b2_of hs
    cases h2
  case iushr =>
    change Nat.beq len 1 = true at hln
    obtain rfl := Nat.eq_of_beq_eq_true hln
    change am_b2 am_ushr (pc + 1) L S ω = _ at hs
    obtain ⟨x, y, T, rfl, h2⟩ := am_b2_of hs
    cases h2
  case idiv =>
    change Nat.beq len 1 = true at hln
    obtain rfl := Nat.eq_of_beq_eq_true hln
    change (match S with
      | .inl b :: .inl a :: S => cond (decide (b = 0)) none (am_nx (pc + 1) L (.inl (am_w (a.tdiv b)) :: S) ω)
      | _ => none) = _ at hs
    split at hs
    · obtain ⟨h1, h2⟩ := cd_ofn hs
      cases h2
    · cases hs
  case irem =>
    change Nat.beq len 1 = true at hln
    obtain rfl := Nat.eq_of_beq_eq_true hln
    change (match S with
      | .inl b :: .inl a :: S => cond (decide (b = 0)) none (am_nx (pc + 1) L (.inl (a.tmod b) :: S) ω)
      | _ => none) = _ at hs
    split at hs
    · obtain ⟨h1, h2⟩ := cd_ofn hs
      cases h2
    · cases hs
  case ldiv =>
    change Nat.beq len 1 = true at hln
    obtain rfl := Nat.eq_of_beq_eq_true hln
    change (match S with
      | .inr (.inl b) :: .inr (.inl a) :: S => cond (decide (b = 0)) none (am_nx (pc + 1) L (.inr (.inl (am_wl (a.tdiv b))) :: S) ω)
      | _ => none) = _ at hs
    split at hs
    · obtain ⟨h1, h2⟩ := cd_ofn hs
      cases h2
    · cases hs
  case lrem =>
    change Nat.beq len 1 = true at hln
    obtain rfl := Nat.eq_of_beq_eq_true hln
    change (match S with
      | .inr (.inl b) :: .inr (.inl a) :: S => cond (decide (b = 0)) none (am_nx (pc + 1) L (.inr (.inl (a.tmod b)) :: S) ω)
      | _ => none) = _ at hs
    split at hs
    · obtain ⟨h1, h2⟩ := cd_ofn hs
      cases h2
    · cases hs
  case ineg =>
    change Nat.beq len 1 = true at hln
    obtain rfl := Nat.eq_of_beq_eq_true hln
    change (match S with
      | .inl a :: S => am_nx (pc + 1) L (.inl (am_w (-a)) :: S) ω
      | _ => none) = _ at hs
    split at hs
    · cases hs
    · cases hs
  case lshl =>
    change Nat.beq len 1 = true at hln
    obtain rfl := Nat.eq_of_beq_eq_true hln
    change (match S with
      | .inl b :: .inr (.inl a) :: S => am_nx (pc + 1) L (.inr (.inl (am_lshl a b)) :: S) ω
      | _ => none) = _ at hs
    split at hs
    · cases hs
    · cases hs
  case lcmp =>
    change Nat.beq len 1 = true at hln
    obtain rfl := Nat.eq_of_beq_eq_true hln
    change (match S with
      | .inr (.inl b) :: .inr (.inl a) :: S => am_nx (pc + 1) L (.inl (am_cmp a b) :: S) ω
      | _ => none) = _ at hs
    split at hs
    · cases hs
    · cases hs
  case i2l =>
    change Nat.beq len 1 = true at hln
    obtain rfl := Nat.eq_of_beq_eq_true hln
    change (match S with
      | .inl a :: S => am_nx (pc + 1) L (.inr (.inl a) :: S) ω
      | _ => none) = _ at hs
    split at hs
    · cases hs
    · cases hs
  case l2i =>
    change Nat.beq len 1 = true at hln
    obtain rfl := Nat.eq_of_beq_eq_true hln
    change (match S with
      | .inr (.inl a) :: S => am_nx (pc + 1) L (.inl (am_w a) :: S) ω
      | _ => none) = _ at hs
    split at hs
    · cases hs
    · cases hs
  case i2b =>
    change Nat.beq len 1 = true at hln
    obtain rfl := Nat.eq_of_beq_eq_true hln
    change (match S with
      | .inl a :: S => am_nx (pc + 1) L (.inl (a.bmod 256) :: S) ω
      | _ => none) = _ at hs
    split at hs
    · cases hs
    · cases hs
  case i2s =>
    change Nat.beq len 1 = true at hln
    obtain rfl := Nat.eq_of_beq_eq_true hln
    change (match S with
      | .inl a :: S => am_nx (pc + 1) L (.inl (a.bmod 65536) :: S) ω
      | _ => none) = _ at hs
    split at hs
    · cases hs
    · cases hs
  case dup_x1 =>
    change Nat.beq len 1 = true at hln
    obtain rfl := Nat.eq_of_beq_eq_true hln
    change (match S with
      | .inl z :: .inr (.inr r) :: S => am_nx (pc + 1) L (.inl z :: .inr (.inr r) :: .inl z :: S) ω
      | _ => none) = _ at hs
    split at hs
    · cases hs
    · cases hs
  case dup2 =>
    change Nat.beq len 1 = true at hln
    obtain rfl := Nat.eq_of_beq_eq_true hln
    change (match S with
      | .inl z :: .inr (.inr r) :: S => am_nx (pc + 1) L (.inl z :: .inr (.inr r) :: .inl z :: .inr (.inr r) :: S) ω
      | _ => none) = _ at hs
    split at hs
    · cases hs
    · cases hs
  case ladd =>
    change Nat.beq len 1 = true at hln
    obtain rfl := Nat.eq_of_beq_eq_true hln
    change am_j2 (fun a b => am_wl (a + b)) (pc + 1) L S ω = _ at hs
    obtain ⟨x, y, T, rfl, h2⟩ := am_j2_of hs
    cases h2
  case lmul =>
    change Nat.beq len 1 = true at hln
    obtain rfl := Nat.eq_of_beq_eq_true hln
    change am_j2 (fun a b => am_wl (a * b)) (pc + 1) L S ω = _ at hs
    obtain ⟨x, y, T, rfl, h2⟩ := am_j2_of hs
    cases h2
  case land =>
    change Nat.beq len 1 = true at hln
    obtain rfl := Nat.eq_of_beq_eq_true hln
    change am_j2 am_land (pc + 1) L S ω = _ at hs
    obtain ⟨x, y, T, rfl, h2⟩ := am_j2_of hs
    cases h2
  case lor =>
    change Nat.beq len 1 = true at hln
    obtain rfl := Nat.eq_of_beq_eq_true hln
    change am_j2 am_lor (pc + 1) L S ω = _ at hs
    obtain ⟨x, y, T, rfl, h2⟩ := am_j2_of hs
    cases h2
  case ldc idx =>
    change Nat.beq len 2 = true at hln
    obtain rfl := Nat.eq_of_beq_eq_true hln
    change (match am_lk (am_pc.get (am_own mm.1)) idx, am_lk (am_ps.get (am_own mm.1)) idx with
      | some (z, _), _ => am_nx (pc + 2) L (.inl z :: S) ω
      | none, some (k, _) => am_nx (pc + 2) L (.inr (.inr (-3 - (k : Int))) :: S) ω
      | none, none => none) = _ at hs
    split at hs
    · rename_i z w hz
      cases hs
    · rename_i k2 w hz
      cases hs
    · cases hs
  case ldc_w idx =>
    change Nat.beq len 3 = true at hln
    obtain rfl := Nat.eq_of_beq_eq_true hln
    change (match am_lk (am_pc.get (am_own mm.1)) idx with
      | some (z, _) => am_nx (pc + 3) L (.inl z :: S) ω
      | none => none) = _ at hs
    split at hs
    · cases hs
    · cases hs
  case ldc2_w idx =>
    change Nat.beq len 3 = true at hln
    obtain rfl := Nat.eq_of_beq_eq_true hln
    change (match am_lk (am_pl.get (am_own mm.1)) idx with
      | some (z, _) => am_nx (pc + 3) L (.inr (.inl z) :: S) ω
      | none => none) = _ at hs
    split at hs
    · cases hs
    · cases hs
  case dup =>
    change Nat.beq len 1 = true at hln
    obtain rfl := Nat.eq_of_beq_eq_true hln
    change (match S with
      | .inl z :: S => am_nx (pc + 1) L (.inl z :: .inl z :: S) ω
      | .inr (.inr z) :: S => am_nx (pc + 1) L (.inr (.inr z) :: .inr (.inr z) :: S) ω
      | _ => none) = _ at hs
    split at hs
    · cases hs
    · cases hs
    · cases hs
  case pop =>
    change Nat.beq len 1 = true at hln
    obtain rfl := Nat.eq_of_beq_eq_true hln
    change (match S with
      | .inl _ :: S => am_nx (pc + 1) L S ω
      | .inr (.inr _) :: S => am_nx (pc + 1) L S ω
      | _ => none) = _ at hs
    split at hs
    · cases hs
    · cases hs
    · cases hs
  case goto off =>
    change Nat.beq len 3 = true at hln
    obtain rfl := Nat.eq_of_beq_eq_true hln
    change am_jp ((pc : Int) + off) L S ω = _ at hs
    obtain ⟨h1, h2⟩ := am_jp_of hs
    cases h2
  case ifCond c off =>
    change Nat.beq len 3 = true at hln
    obtain rfl := Nat.eq_of_beq_eq_true hln
    change (match S with
      | .inl a :: S => am_br (am_cc c a 0) ((pc : Int) + off) (pc + 3) L S ω
      | _ => none) = _ at hs
    split at hs
    · obtain ⟨h1, h2⟩ := am_br_of hs
      cases h2
    · cases hs
  case if_icmp c off =>
    change Nat.beq len 3 = true at hln
    obtain rfl := Nat.eq_of_beq_eq_true hln
    change (match S with
      | .inl b :: .inl a :: S => am_br (am_cc c a b) ((pc : Int) + off) (pc + 3) L S ω
      | _ => none) = _ at hs
    split at hs
    · obtain ⟨h1, h2⟩ := am_br_of hs
      cases h2
    · cases hs
  case ifnonnull off =>
    change Nat.beq len 3 = true at hln
    obtain rfl := Nat.eq_of_beq_eq_true hln
    change (match S with
      | .inr (.inr r) :: S => am_br (decide (¬ r = -1)) ((pc : Int) + off) (pc + 3) L S ω
      | _ => none) = _ at hs
    split at hs
    · obtain ⟨h1, h2⟩ := am_br_of hs
      cases h2
    · cases hs
  case tableswitch dflt lo hi offs =>
    change (match S with
      | .inl z :: S => (match am_tsw dflt lo hi offs z with
      | some off => am_jp ((pc : Int) + off) L S ω
      | none => none)
      | _ => none) = _ at hs
    split at hs
    · split at hs
      · rename_i off ho
        obtain ⟨h1, h2⟩ := am_jp_of hs
        cases h2
      · cases hs
    · cases hs
  case getfield idx =>
    change Nat.beq len 3 = true at hln
    obtain rfl := Nat.eq_of_beq_eq_true hln
    change am_getf (am_own mm.1) idx (pc + 3) L S ω = _ at hs
    unfold am_getf at hs
    split at hs
    · obtain ⟨h1, h2⟩ := cd_of hs
      cases h2
    · cases hs
  case putfield idx =>
    change Nat.beq len 3 = true at hln
    obtain rfl := Nat.eq_of_beq_eq_true hln
    change am_putf (am_own mm.1) mm.1 idx (pc + 3) L S ω = _ at hs
    unfold am_putf at hs
    split at hs
    · obtain ⟨h1, h2⟩ := cd_of hs
      cases h2
    · obtain ⟨h1, h2⟩ := cd_of hs
      cases h2
    · cases hs
  case arraylength =>
    change Nat.beq len 1 = true at hln
    obtain rfl := Nat.eq_of_beq_eq_true hln
    change (match S with
      | .inr (.inr r) :: S => cond (Nat.beq mm.1 240 && decide (r = -2)) (am_nx (pc + 1) L (.inl (ω.2.2.1 : Int) :: S) ω) (cond (am_ar ω r 100 || am_ar ω r 101) (am_nx (pc + 1) L (.inl (am_len ω r) :: S) ω) none)
      | _ => none) = _ at hs
    split at hs
    · rename_i r T
      cases hr : (Nat.beq mm.1 240 && decide (r = -2)) with
      | true =>
        rw [hr] at hs
        rw [Bool.and_eq_true] at hr
        obtain rfl := of_decide_eq_true hr.2
        cases hs
      | false =>
        rw [hr] at hs
        obtain ⟨h1, h2⟩ := cd_of (show cond (am_ar ω r 100 || am_ar ω r 101) (am_nx (pc + 1) L (.inl (am_len ω r) :: T) ω) none = _ from hs)
        cases h2
    · cases hs
  case iaload =>
    change Nat.beq len 1 = true at hln
    obtain rfl := Nat.eq_of_beq_eq_true hln
    change (match S with
      | .inl j :: .inr (.inr r) :: S => cond (Nat.beq mm.1 240 && decide (r = -2)) (cond (decide (0 ≤ j) && decide (j < (ω.2.2.1 : Int))) (am_nx (pc + 1) L (.inl (ω.2.2.2 j.toNat) :: S) ω) none) (cond (am_in ω r 100 j) (am_nx (pc + 1) L (.inl (am_get ω r.toNat j.toNat) :: S) ω) none)
      | _ => none) = _ at hs
    split at hs
    · rename_i j r T
      cases hr : (Nat.beq mm.1 240 && decide (r = -2)) with
      | true =>
        rw [hr] at hs
        rw [Bool.and_eq_true] at hr
        obtain rfl := of_decide_eq_true hr.2
        obtain ⟨h1, h2⟩ := cd_of (show cond (decide (0 ≤ j) && decide (j < (ω.2.2.1 : Int))) (am_nx (pc + 1) L (.inl (ω.2.2.2 j.toNat) :: T) ω) none = _ from hs)
        cases h2
      | false =>
        rw [hr] at hs
        obtain ⟨h1, h2⟩ := cd_of (show cond (am_in ω r 100 j) (am_nx (pc + 1) L (.inl (am_get ω r.toNat j.toNat) :: T) ω) none = _ from hs)
        cases h2
    · cases hs
  case laload =>
    change Nat.beq len 1 = true at hln
    obtain rfl := Nat.eq_of_beq_eq_true hln
    change (match S with
      | .inl j :: .inr (.inr r) :: S => cond (am_in ω r 101 j) (am_nx (pc + 1) L (.inr (.inl (am_get ω r.toNat j.toNat)) :: S) ω) none
      | _ => none) = _ at hs
    split at hs
    · obtain ⟨h1, h2⟩ := cd_of hs
      cases h2
    · cases hs
  case aaload =>
    change Nat.beq len 1 = true at hln
    obtain rfl := Nat.eq_of_beq_eq_true hln
    change (match S with
      | .inl j :: .inr (.inr r) :: S => cond (am_in ω r 102 j || (am_in ω r 103 j || am_in ω r 104 j)) (am_nx (pc + 1) L (.inr (.inr (am_get ω r.toNat j.toNat)) :: S) ω) none
      | _ => none) = _ at hs
    split at hs
    · obtain ⟨h1, h2⟩ := cd_of hs
      cases h2
    · cases hs
  case iastore =>
    change Nat.beq len 1 = true at hln
    obtain rfl := Nat.eq_of_beq_eq_true hln
    change (match S with
      | .inl z :: .inl j :: .inr (.inr r) :: S => cond (am_in ω r 100 j) (am_nx (pc + 1) L S (am_put ω r.toNat j.toNat z)) none
      | _ => none) = _ at hs
    split at hs
    · obtain ⟨h1, h2⟩ := cd_of hs
      cases h2
    · cases hs
  case lastore =>
    change Nat.beq len 1 = true at hln
    obtain rfl := Nat.eq_of_beq_eq_true hln
    change (match S with
      | .inr (.inl z) :: .inl j :: .inr (.inr r) :: S => cond (am_in ω r 101 j) (am_nx (pc + 1) L S (am_put ω r.toNat j.toNat z)) none
      | _ => none) = _ at hs
    split at hs
    · obtain ⟨h1, h2⟩ := cd_of hs
      cases h2
    · cases hs
  case aastore =>
    change Nat.beq len 1 = true at hln
    obtain rfl := Nat.eq_of_beq_eq_true hln
    change (match S with
      | .inr (.inr z) :: .inl j :: .inr (.inr r) :: S => cond ((am_in ω r 102 j && am_is ω z (4, 5)) || (am_in ω r 103 j && am_is ω z (2, 3))) (am_nx (pc + 1) L S (am_put ω r.toNat j.toNat z)) none
      | _ => none) = _ at hs
    split at hs
    · obtain ⟨h1, h2⟩ := cd_of hs
      cases h2
    · cases hs
  case new idx =>
    change Nat.beq len 3 = true at hln
    obtain rfl := Nat.eq_of_beq_eq_true hln
    change (match am_lk (am_pn.get (am_own mm.1)) idx with
      | some (ci, _) => cond (decide (ci < 8)) (am_nx (pc + 3) L (.inr (.inr (ω.1.length : Int)) :: S) (am_new ω (ci, am_nf ci) (am_d0 ci))) none
      | none => none) = _ at hs
    split at hs
    · obtain ⟨h1, h2⟩ := cd_of hs
      cases h2
    · cases hs
  case newarray ty =>
    change Nat.beq len 2 = true at hln
    obtain rfl := Nat.eq_of_beq_eq_true hln
    change (match S with
      | .inl n :: S => cond (decide (0 ≤ n) && decide (n ≤ 100000)) (match ty with
      | .int => am_nx (pc + 2) L (.inr (.inr (ω.1.length : Int)) :: S) (am_new ω (100, n.toNat) (fun _ => 0))
      | .long => am_nx (pc + 2) L (.inr (.inr (ω.1.length : Int)) :: S) (am_new ω (101, n.toNat) (fun _ => 0))
      | _ => none) none
      | _ => none) = _ at hs
    split at hs
    · obtain ⟨h1, h2⟩ := cd_of hs
      simp only [Bool.and_eq_true, decide_eq_true_eq] at h1
      split at h2
      · cases h2
      · cases h2
      · cases h2
    · cases hs
  case anewarray idx =>
    change Nat.beq len 3 = true at hln
    obtain rfl := Nat.eq_of_beq_eq_true hln
    change (match am_lk (am_pn.get (am_own mm.1)) idx, S with
      | some (ci, _), .inl n :: S => cond (decide (0 ≤ n) && decide (n ≤ 100000)) (match ci with
      | 4 => am_nx (pc + 3) L (.inr (.inr (ω.1.length : Int)) :: S) (am_new ω (102, n.toNat) (fun _ => -1))
      | 2 => am_nx (pc + 3) L (.inr (.inr (ω.1.length : Int)) :: S) (am_new ω (103, n.toNat) (fun _ => -1))
      | _ => none) none
      | _, _ => none) = _ at hs
    split at hs
    · obtain ⟨h1, h2⟩ := cd_of hs
      simp only [Bool.and_eq_true, decide_eq_true_eq] at h1
      split at h2
      · cases h2
      · cases h2
      · cases h2
    · cases hs
  case multianewarray idx dims =>
    change Nat.beq len 4 = true at hln
    obtain rfl := Nat.eq_of_beq_eq_true hln
    change (match am_lk (am_pn.get (am_own mm.1)) idx, S with
      | some (104, _), .inl k :: .inl n :: S => cond (Nat.beq dims 2 && (decide (0 ≤ n) && (decide (n ≤ 1000) && (decide (0 ≤ k) && decide (k ≤ 100000))))) (am_nx (pc + 4) L (.inr (.inr (ω.1.length : Int)) :: S) (am_newg ω n.toNat k.toNat)) none
      | _, _ => none) = _ at hs
    split at hs
    · obtain ⟨h1, h2⟩ := cd_of hs
      simp only [Bool.and_eq_true, decide_eq_true_eq] at h1
      obtain ⟨g0, g1, g2, g3, g4⟩ := h1
      obtain rfl := Nat.eq_of_beq_eq_true g0
      cases h2
    · cases hs
  case invokevirtual idx =>
    change Nat.beq len 3 = true at hln
    obtain rfl := Nat.eq_of_beq_eq_true hln
    change am_inv 0 mm idx (pc + 3) L S ω = _ at hs
    unfold am_inv at hs
    split at hs
    · split at hs
      all_goals (first | (exfalso; omega) | (exfalso; exact am_call_nr hs) | (exfalso; exact am_slen_no hs) | (exfalso; exact am_schr_no hs) | (exfalso; exact am_acpy_no hs) | (exfalso; cases hs; done) | (split at hs; (obtain ⟨h1, h2⟩ := cd_of hs; cases h2); cases hs))
    · cases hs
  case invokestatic idx =>
    change Nat.beq len 3 = true at hln
    obtain rfl := Nat.eq_of_beq_eq_true hln
    change am_inv 1 mm idx (pc + 3) L S ω = _ at hs
    unfold am_inv at hs
    split at hs
    · split at hs
      all_goals (first | (exfalso; omega) | (exfalso; exact am_call_nr hs) | (exfalso; exact am_slen_no hs) | (exfalso; exact am_schr_no hs) | (exfalso; exact am_acpy_no hs) | (exfalso; cases hs; done) | (split at hs; (obtain ⟨h1, h2⟩ := cd_of hs; cases h2); cases hs))
    · cases hs
  case invokespecial idx =>
    change Nat.beq len 3 = true at hln
    obtain rfl := Nat.eq_of_beq_eq_true hln
    change am_inv 2 mm idx (pc + 3) L S ω = _ at hs
    unfold am_inv at hs
    split at hs
    · split at hs
      all_goals (first | (exfalso; omega) | (exfalso; exact am_call_nr hs) | (exfalso; exact am_slen_no hs) | (exfalso; exact am_schr_no hs) | (exfalso; exact am_acpy_no hs) | (exfalso; cases hs; done) | (split at hs; (obtain ⟨h1, h2⟩ := cd_of hs; cases h2); cases hs))
    · cases hs
  case ireturn =>
    change Nat.beq len 1 = true at hln
    obtain rfl := Nat.eq_of_beq_eq_true hln
    change (match S with
      | [.inl z] => cond (am_nar (am_rt mm.1) z) (am_rv (some (.inl z)) ω) none
      | _ => none) = _ at hs
    split at hs
    · obtain ⟨h1, h2⟩ := cd_of hs
      cases h2
      exact ⟨rfl, rfl, hd, h1⟩
    · cases hs
  case lreturn =>
    change Nat.beq len 1 = true at hln
    obtain rfl := Nat.eq_of_beq_eq_true hln
    change (match S with
      | [.inr (.inl z)] => cond (Nat.beq (am_rt mm.1) 2) (am_rv (some (.inr (.inl z))) ω) none
      | _ => none) = _ at hs
    split at hs
    · obtain ⟨h1, h2⟩ := cd_of hs
      cases h2
      exact ⟨rfl, rfl, hd, Nat.eq_of_beq_eq_true h1⟩
    · cases hs
  case areturn =>
    change Nat.beq len 1 = true at hln
    obtain rfl := Nat.eq_of_beq_eq_true hln
    change (match S with
      | [.inr (.inr z)] => cond (Nat.beq (am_rt mm.1) 3 && am_is ω z (1, 15)) (am_rv (some (.inr (.inr z))) ω) none
      | _ => none) = _ at hs
    split at hs
    · obtain ⟨h1, h2⟩ := cd_of hs
      cases h2
      rw [Bool.and_eq_true] at h1; exact ⟨rfl, rfl, hd, Nat.eq_of_beq_eq_true h1.1, (am_is_of h1.2).1⟩
    · cases hs
  case return_ =>
    change Nat.beq len 1 = true at hln
    obtain rfl := Nat.eq_of_beq_eq_true hln
    change (match S with
      | [] => cond (Nat.beq (am_rt mm.1) 0) (am_rv none ω) none
      | _ => none) = _ at hs
    split at hs
    · obtain ⟨h1, h2⟩ := cd_of hs
      cases h2
      exact ⟨rfl, rfl, hd, Nat.eq_of_beq_eq_true h1⟩
    · cases hs
  all_goals (cases hs)
theorem am_lv_of {m' : am_M} {b : Nat} (h : am_lv mm b = some m') : m'.1 = b := by
  unfold am_lv at h
  cases h1 : am_rec b with
  | false => rw [h1] at h; cases h; rfl
  | true =>
    rw [h1] at h
    cases h2 : am_rec mm.1 with
    | false => rw [h2] at h; cases h; rfl
    | true =>
      rw [h2] at h
      have h : (match mm.2 with | 0 => none | k + 1 => some (b, k)) = some m' := h
      split at h
      · cases h
      · cases h; rfl
theorem am_call_of {b na rk pc2 : Nat} {rc : Bool} {a : am_Act} (h : am_call mm b na rk pc2 rc L S ω = some a) : ∃ as S' m', am_args na S = some (as, S') ∧ m'.1 = b ∧ am_rk m' + 1 ≤ am_rk mm ∧ (am_spread as).length ≤ am_max b ∧ (rc = true → ∃ r as', as = .inr (.inr r) :: as' ∧ am_is ω r (am_own b, am_nf (am_own b)) = true) ∧ a = .inr (.inr (m', rk, as, pc2, L, S', ω)) := by
  unfold am_call at h
  split at h
  · rename_i as S' m' e1 e2
    obtain ⟨h1, h2⟩ := cd_of h
    simp only [Bool.and_eq_true] at h1
    refine ⟨as, S', m', e1, am_lv_of e2, Nat.le_of_ble_eq_true h1.2.1, Nat.le_of_ble_eq_true h1.2.2, fun hrc => ?_, (Option.some.inj h2).symm⟩
    subst hrc
    have h3 := h1.1
    rw [show (!true) = false from rfl, Bool.false_or] at h3
    split at h3
    · exact ⟨_, _, rfl, h3⟩
    · cases h3
  · cases h
theorem am_kd_240 {idx kd b na rk w w2 w3 w4 : Nat} {o : Nat} (ho : o < 12) (h : am_lk (am_pm.get o) idx = some (kd, b, na, rk, w, w2, w3, w4)) (hk : kd = 0 ∨ kd = 2 ∨ kd = 3 ∨ kd = 4 ∨ kd = 5) : b < 240 := by
  obtain ⟨hne, hok⟩ := am_okp_at ho h
  unfold am_okp at hok
  replace hok := (Bool.or_eq_true_iff.mp hok).resolve_left (fun q => hne (Nat.eq_of_beq_eq_true q))
  dsimp only at hok
  rcases hk with rfl | rfl | rfl | rfl | rfl <;> (simp only [Bool.and_eq_true, decide_eq_true_eq] at hok; omega)
theorem am_step_C {i : Instr} {len pc' rk : Nat} {m' : am_M} {as S' : List am_V} {L' : am_L} {ω' : am_W} (hmb : mm.1 ≤ 240) (hcd : am_code mm.1 pc = some (i, len)) (hs : am_st mm i pc L S ω = some (.inr (.inr (m', rk, as, pc', L', S', ω')))) : ω' = ω ∧ m'.1 < 240 ∧ (am_spread as).length ≤ am_max m'.1 ∧ (am_Cx G mm A p R s m args meth c sc → ∀ (v : Option am_V) (ω1 : am_W) (S1 : List am_V), (∀ AD : List Nat, AD.length = ω.1.length → am_okS ω.1.length as → am_Mt l G A AD m' as ω v ω1) → am_Gw ω ω1 → ω1.1.length ≤ c0 + R.cells → am_sl ω1.1 ≤ s0 + R.slots → am_push rk v S' = some S1 → am_J G mm A p l e R s m args below meth c Q c0 s0 sc AD0 pc' L' S1 ω1 → am_J G mm A p l e R s m args below meth c Q c0 s0 sc AD0 pc L S ω) := by
  obtain ⟨hd, hln⟩ := am_dec hmb hcd
  cases i
  case iconst n =>
    change Nat.beq len 1 = true at hln
    obtain rfl := Nat.eq_of_beq_eq_true hln
    change cond (decide (-128 ≤ n) && decide (n ≤ 127)) (am_nx (pc + 1) L (.inl n :: S) ω) none = _ at hs
    obtain ⟨h1, h2⟩ := cd_of hs
    simp only [Bool.and_eq_true, decide_eq_true_eq] at h1
    cases h2
  case bipush n =>
    change Nat.beq len 2 = true at hln
    obtain rfl := Nat.eq_of_beq_eq_true hln
    change cond (decide (-128 ≤ n) && decide (n ≤ 127)) (am_nx (pc + 2) L (.inl n :: S) ω) none = _ at hs
    obtain ⟨h1, h2⟩ := cd_of hs
    simp only [Bool.and_eq_true, decide_eq_true_eq] at h1
    cases h2
  case sipush n =>
    change Nat.beq len 3 = true at hln
    obtain rfl := Nat.eq_of_beq_eq_true hln
    change cond (decide (-32768 ≤ n) && decide (n ≤ 32767)) (am_nx (pc + 3) L (.inl n :: S) ω) none = _ at hs
    obtain ⟨h1, h2⟩ := cd_of hs
    simp only [Bool.and_eq_true, decide_eq_true_eq] at h1
    cases h2
  case lconst n =>
    change Nat.beq len 1 = true at hln
    obtain rfl := Nat.eq_of_beq_eq_true hln
    change am_nx (pc + 1) L (.inr (.inl ((n : Nat) : Int)) :: S) ω = _ at hs
    cases hs
  case iload_n k =>
    change Nat.beq len 1 = true at hln
    obtain rfl := Nat.eq_of_beq_eq_true hln
    change am_ldi L k (pc + 1) S ω = _ at hs
    obtain ⟨z, h1, h2⟩ := am_ldi_of hs
    cases h2
  case iload k =>
    change Nat.beq len 2 = true at hln
    obtain rfl := Nat.eq_of_beq_eq_true hln
    change am_ldi L k (pc + 2) S ω = _ at hs
    obtain ⟨z, h1, h2⟩ := am_ldi_of hs
    cases h2
  case lload_n k =>
    change Nat.beq len 1 = true at hln
    obtain rfl := Nat.eq_of_beq_eq_true hln
    change am_ldl L k (pc + 1) S ω = _ at hs
    obtain ⟨z, h1, h2⟩ := am_ldl_of hs
    cases h2
  case lload k =>
    change Nat.beq len 2 = true at hln
    obtain rfl := Nat.eq_of_beq_eq_true hln
    change am_ldl L k (pc + 2) S ω = _ at hs
    obtain ⟨z, h1, h2⟩ := am_ldl_of hs
    cases h2
  case aload_n k =>
    change Nat.beq len 1 = true at hln
    obtain rfl := Nat.eq_of_beq_eq_true hln
    change am_lda L k (pc + 1) S ω = _ at hs
    obtain ⟨z, h1, h2⟩ := am_lda_of hs
    cases h2
  case aload k =>
    change Nat.beq len 2 = true at hln
    obtain rfl := Nat.eq_of_beq_eq_true hln
    change am_lda L k (pc + 2) S ω = _ at hs
    obtain ⟨z, h1, h2⟩ := am_lda_of hs
    cases h2
  case istore_n k =>
    change Nat.beq len 1 = true at hln
    obtain rfl := Nat.eq_of_beq_eq_true hln
    change am_sti L k (pc + 1) S ω = _ at hs
    obtain ⟨z, T, L2, rfl, h1, h2⟩ := am_sti_of hs
    cases h2
  case istore k =>
    change Nat.beq len 2 = true at hln
    obtain rfl := Nat.eq_of_beq_eq_true hln
    change am_sti L k (pc + 2) S ω = _ at hs
    obtain ⟨z, T, L2, rfl, h1, h2⟩ := am_sti_of hs
    cases h2
  case lstore_n k =>
    change Nat.beq len 1 = true at hln
    obtain rfl := Nat.eq_of_beq_eq_true hln
    change am_stj L k (pc + 1) S ω = _ at hs
    obtain ⟨z, T, L2, rfl, h1, h2⟩ := am_stj_of hs
    cases h2
  case lstore k =>
    change Nat.beq len 2 = true at hln
    obtain rfl := Nat.eq_of_beq_eq_true hln
    change am_stj L k (pc + 2) S ω = _ at hs
    obtain ⟨z, T, L2, rfl, h1, h2⟩ := am_stj_of hs
    cases h2
  case astore_n k =>
    change Nat.beq len 1 = true at hln
    obtain rfl := Nat.eq_of_beq_eq_true hln
    change am_sta L k (pc + 1) S ω = _ at hs
    obtain ⟨z, T, L2, rfl, h1, h2⟩ := am_sta_of hs
    cases h2
  case astore k =>
    change Nat.beq len 2 = true at hln
    obtain rfl := Nat.eq_of_beq_eq_true hln
    change am_sta L k (pc + 2) S ω = _ at hs
    obtain ⟨z, T, L2, rfl, h1, h2⟩ := am_sta_of hs
    cases h2
  case iinc k n =>
    change Nat.beq len 3 = true at hln
    obtain rfl := Nat.eq_of_beq_eq_true hln
    change (match L[k]? with
      | some (some (.inl z)) => am_st1 (am_sto L k (.inl (am_w (z + n)))) (pc + 3) S ω
      | _ => none) = _ at hs
    split at hs
    · rename_i z hz
      obtain ⟨L2, h1, h2⟩ := am_st1_of hs
      cases h2
    · cases hs
  case iadd =>
    change Nat.beq len 1 = true at hln
    obtain rfl := Nat.eq_of_beq_eq_true hln
    change am_b2 (fun a b => am_w (a + b)) (pc + 1) L S ω = _ at hs
    obtain ⟨x, y, T, rfl, h2⟩ := am_b2_of hs
    cases h2
  case isub =>
    change Nat.beq len 1 = true at hln
    obtain rfl := Nat.eq_of_beq_eq_true hln
    change am_b2 (fun a b => am_w (a - b)) (pc + 1) L S ω = _ at hs
    obtain ⟨x, y, T, rfl, h2⟩ := am_b2_of hs
    cases h2
  case imul =>
    change Nat.beq len 1 = true at hln
    obtain rfl := Nat.eq_of_beq_eq_true hln
    change am_b2 (fun a b => am_w (a * b)) (pc + 1) L S ω = _ at hs
    obtain ⟨x, y, T, rfl, h2⟩ := am_b2_of hs
    cases h2
  case iand =>
    change Nat.beq len 1 = true at hln
    obtain rfl := Nat.eq_of_beq_eq_true hln
    change am_b2 am_and (pc + 1) L S ω = _ at hs
    obtain ⟨x, y, T, rfl, h2⟩ := am_b2_of hs
    cases h2
  case ior =>
    change Nat.beq len 1 = true at hln
    obtain rfl := Nat.eq_of_beq_eq_true hln
    change am_b2 am_or (pc + 1) L S ω = _ at hs
    obtain ⟨x, y, T, rfl, h2⟩ := am_b2_of hs
    cases h2
  case ixor =>
    change Nat.beq len 1 = true at hln
    obtain rfl := Nat.eq_of_beq_eq_true hln
    change am_b2 am_xor (pc + 1) L S ω = _ at hs
    obtain ⟨x, y, T, rfl, h2⟩ := am_b2_of hs
    cases h2
  case ishl =>
    change Nat.beq len 1 = true at hln
    obtain rfl := Nat.eq_of_beq_eq_true hln
    change am_b2 am_shl (pc + 1) L S ω = _ at hs
    obtain ⟨x, y, T, rfl, h2⟩ := am_b2_of hs
    cases h2
  case ishr =>
    change Nat.beq len 1 = true at hln
    obtain rfl := Nat.eq_of_beq_eq_true hln
    change am_b2 am_shr (pc + 1) L S ω = _ at hs
    obtain ⟨x, y, T, rfl, h2⟩ := am_b2_of hs
    cases h2
  case iushr =>
    change Nat.beq len 1 = true at hln
    obtain rfl := Nat.eq_of_beq_eq_true hln
    change am_b2 am_ushr (pc + 1) L S ω = _ at hs
    obtain ⟨x, y, T, rfl, h2⟩ := am_b2_of hs
    cases h2
  case idiv =>
    change Nat.beq len 1 = true at hln
    obtain rfl := Nat.eq_of_beq_eq_true hln
    change (match S with
      | .inl b :: .inl a :: S => cond (decide (b = 0)) none (am_nx (pc + 1) L (.inl (am_w (a.tdiv b)) :: S) ω)
      | _ => none) = _ at hs
    split at hs
    · obtain ⟨h1, h2⟩ := cd_ofn hs
      cases h2
    · cases hs
  case irem =>
    change Nat.beq len 1 = true at hln
    obtain rfl := Nat.eq_of_beq_eq_true hln
    change (match S with
      | .inl b :: .inl a :: S => cond (decide (b = 0)) none (am_nx (pc + 1) L (.inl (a.tmod b) :: S) ω)
      | _ => none) = _ at hs
    split at hs
    · obtain ⟨h1, h2⟩ := cd_ofn hs
      cases h2
    · cases hs
  case ldiv =>
    change Nat.beq len 1 = true at hln
    obtain rfl := Nat.eq_of_beq_eq_true hln
    change (match S with
      | .inr (.inl b) :: .inr (.inl a) :: S => cond (decide (b = 0)) none (am_nx (pc + 1) L (.inr (.inl (am_wl (a.tdiv b))) :: S) ω)
      | _ => none) = _ at hs
    split at hs
    · obtain ⟨h1, h2⟩ := cd_ofn hs
      cases h2
    · cases hs
  case lrem =>
    change Nat.beq len 1 = true at hln
    obtain rfl := Nat.eq_of_beq_eq_true hln
    change (match S with
      | .inr (.inl b) :: .inr (.inl a) :: S => cond (decide (b = 0)) none (am_nx (pc + 1) L (.inr (.inl (a.tmod b)) :: S) ω)
      | _ => none) = _ at hs
    split at hs
    · obtain ⟨h1, h2⟩ := cd_ofn hs
      cases h2
    · cases hs
  case ineg =>
    change Nat.beq len 1 = true at hln
    obtain rfl := Nat.eq_of_beq_eq_true hln
    change (match S with
      | .inl a :: S => am_nx (pc + 1) L (.inl (am_w (-a)) :: S) ω
      | _ => none) = _ at hs
    split at hs
    · cases hs
    · cases hs
  case lshl =>
    change Nat.beq len 1 = true at hln
    obtain rfl := Nat.eq_of_beq_eq_true hln
    change (match S with
      | .inl b :: .inr (.inl a) :: S => am_nx (pc + 1) L (.inr (.inl (am_lshl a b)) :: S) ω
      | _ => none) = _ at hs
    split at hs
    · cases hs
    · cases hs
  case lcmp =>
    change Nat.beq len 1 = true at hln
    obtain rfl := Nat.eq_of_beq_eq_true hln
    change (match S with
      | .inr (.inl b) :: .inr (.inl a) :: S => am_nx (pc + 1) L (.inl (am_cmp a b) :: S) ω
      | _ => none) = _ at hs
    split at hs
    · cases hs
    · cases hs
  case i2l =>
    change Nat.beq len 1 = true at hln
    obtain rfl := Nat.eq_of_beq_eq_true hln
    change (match S with
      | .inl a :: S => am_nx (pc + 1) L (.inr (.inl a) :: S) ω
      | _ => none) = _ at hs
    split at hs
    · cases hs
    · cases hs
  case l2i =>
    change Nat.beq len 1 = true at hln
    obtain rfl := Nat.eq_of_beq_eq_true hln
    change (match S with
      | .inr (.inl a) :: S => am_nx (pc + 1) L (.inl (am_w a) :: S) ω
      | _ => none) = _ at hs
    split at hs
    · cases hs
    · cases hs
  case i2b =>
    change Nat.beq len 1 = true at hln
    obtain rfl := Nat.eq_of_beq_eq_true hln
    change (match S with
      | .inl a :: S => am_nx (pc + 1) L (.inl (a.bmod 256) :: S) ω
      | _ => none) = _ at hs
    split at hs
    · cases hs
    · cases hs
  case i2s =>
    change Nat.beq len 1 = true at hln
    obtain rfl := Nat.eq_of_beq_eq_true hln
    change (match S with
      | .inl a :: S => am_nx (pc + 1) L (.inl (a.bmod 65536) :: S) ω
      | _ => none) = _ at hs
    split at hs
    · cases hs
    · cases hs
  case dup_x1 =>
    change Nat.beq len 1 = true at hln
    obtain rfl := Nat.eq_of_beq_eq_true hln
    change (match S with
      | .inl z :: .inr (.inr r) :: S => am_nx (pc + 1) L (.inl z :: .inr (.inr r) :: .inl z :: S) ω
      | _ => none) = _ at hs
    split at hs
    · cases hs
    · cases hs
  case dup2 =>
    change Nat.beq len 1 = true at hln
    obtain rfl := Nat.eq_of_beq_eq_true hln
    change (match S with
      | .inl z :: .inr (.inr r) :: S => am_nx (pc + 1) L (.inl z :: .inr (.inr r) :: .inl z :: .inr (.inr r) :: S) ω
      | _ => none) = _ at hs
    split at hs
    · cases hs
    · cases hs
  case ladd =>
    change Nat.beq len 1 = true at hln
    obtain rfl := Nat.eq_of_beq_eq_true hln
    change am_j2 (fun a b => am_wl (a + b)) (pc + 1) L S ω = _ at hs
    obtain ⟨x, y, T, rfl, h2⟩ := am_j2_of hs
    cases h2
  case lmul =>
    change Nat.beq len 1 = true at hln
    obtain rfl := Nat.eq_of_beq_eq_true hln
    change am_j2 (fun a b => am_wl (a * b)) (pc + 1) L S ω = _ at hs
    obtain ⟨x, y, T, rfl, h2⟩ := am_j2_of hs
    cases h2
  case land =>
    change Nat.beq len 1 = true at hln
    obtain rfl := Nat.eq_of_beq_eq_true hln
    change am_j2 am_land (pc + 1) L S ω = _ at hs
    obtain ⟨x, y, T, rfl, h2⟩ := am_j2_of hs
    cases h2
  case lor =>
    change Nat.beq len 1 = true at hln
    obtain rfl := Nat.eq_of_beq_eq_true hln
    change am_j2 am_lor (pc + 1) L S ω = _ at hs
    obtain ⟨x, y, T, rfl, h2⟩ := am_j2_of hs
    cases h2
  case ldc idx =>
    change Nat.beq len 2 = true at hln
    obtain rfl := Nat.eq_of_beq_eq_true hln
    change (match am_lk (am_pc.get (am_own mm.1)) idx, am_lk (am_ps.get (am_own mm.1)) idx with
      | some (z, _), _ => am_nx (pc + 2) L (.inl z :: S) ω
      | none, some (k, _) => am_nx (pc + 2) L (.inr (.inr (-3 - (k : Int))) :: S) ω
      | none, none => none) = _ at hs
    split at hs
    · rename_i z w hz
      cases hs
    · rename_i k2 w hz
      cases hs
    · cases hs
  case ldc_w idx =>
    change Nat.beq len 3 = true at hln
    obtain rfl := Nat.eq_of_beq_eq_true hln
    change (match am_lk (am_pc.get (am_own mm.1)) idx with
      | some (z, _) => am_nx (pc + 3) L (.inl z :: S) ω
      | none => none) = _ at hs
    split at hs
    · cases hs
    · cases hs
  case ldc2_w idx =>
    change Nat.beq len 3 = true at hln
    obtain rfl := Nat.eq_of_beq_eq_true hln
    change (match am_lk (am_pl.get (am_own mm.1)) idx with
      | some (z, _) => am_nx (pc + 3) L (.inr (.inl z) :: S) ω
      | none => none) = _ at hs
    split at hs
    · cases hs
    · cases hs
  case dup =>
    change Nat.beq len 1 = true at hln
    obtain rfl := Nat.eq_of_beq_eq_true hln
    change (match S with
      | .inl z :: S => am_nx (pc + 1) L (.inl z :: .inl z :: S) ω
      | .inr (.inr z) :: S => am_nx (pc + 1) L (.inr (.inr z) :: .inr (.inr z) :: S) ω
      | _ => none) = _ at hs
    split at hs
    · cases hs
    · cases hs
    · cases hs
  case pop =>
    change Nat.beq len 1 = true at hln
    obtain rfl := Nat.eq_of_beq_eq_true hln
    change (match S with
      | .inl _ :: S => am_nx (pc + 1) L S ω
      | .inr (.inr _) :: S => am_nx (pc + 1) L S ω
      | _ => none) = _ at hs
    split at hs
    · cases hs
    · cases hs
    · cases hs
  case goto off =>
    change Nat.beq len 3 = true at hln
    obtain rfl := Nat.eq_of_beq_eq_true hln
    change am_jp ((pc : Int) + off) L S ω = _ at hs
    obtain ⟨h1, h2⟩ := am_jp_of hs
    cases h2
  case ifCond c off =>
    change Nat.beq len 3 = true at hln
    obtain rfl := Nat.eq_of_beq_eq_true hln
    change (match S with
      | .inl a :: S => am_br (am_cc c a 0) ((pc : Int) + off) (pc + 3) L S ω
      | _ => none) = _ at hs
    split at hs
    · obtain ⟨h1, h2⟩ := am_br_of hs
      cases h2
    · cases hs
  case if_icmp c off =>
    change Nat.beq len 3 = true at hln
    obtain rfl := Nat.eq_of_beq_eq_true hln
    change (match S with
      | .inl b :: .inl a :: S => am_br (am_cc c a b) ((pc : Int) + off) (pc + 3) L S ω
      | _ => none) = _ at hs
    split at hs
    · obtain ⟨h1, h2⟩ := am_br_of hs
      cases h2
    · cases hs
  case ifnonnull off =>
    change Nat.beq len 3 = true at hln
    obtain rfl := Nat.eq_of_beq_eq_true hln
    change (match S with
      | .inr (.inr r) :: S => am_br (decide (¬ r = -1)) ((pc : Int) + off) (pc + 3) L S ω
      | _ => none) = _ at hs
    split at hs
    · obtain ⟨h1, h2⟩ := am_br_of hs
      cases h2
    · cases hs
  case tableswitch dflt lo hi offs =>
    change (match S with
      | .inl z :: S => (match am_tsw dflt lo hi offs z with
      | some off => am_jp ((pc : Int) + off) L S ω
      | none => none)
      | _ => none) = _ at hs
    split at hs
    · split at hs
      · rename_i off ho
        obtain ⟨h1, h2⟩ := am_jp_of hs
        cases h2
      · cases hs
    · cases hs
  case getfield idx =>
    change Nat.beq len 3 = true at hln
    obtain rfl := Nat.eq_of_beq_eq_true hln
    change am_getf (am_own mm.1) idx (pc + 3) L S ω = _ at hs
    unfold am_getf at hs
    split at hs
    · obtain ⟨h1, h2⟩ := cd_of hs
      cases h2
    · cases hs
  case putfield idx =>
    change Nat.beq len 3 = true at hln
    obtain rfl := Nat.eq_of_beq_eq_true hln
    change am_putf (am_own mm.1) mm.1 idx (pc + 3) L S ω = _ at hs
    unfold am_putf at hs
    split at hs
    · obtain ⟨h1, h2⟩ := cd_of hs
      cases h2
    · obtain ⟨h1, h2⟩ := cd_of hs
      cases h2
    · cases hs
  case arraylength =>
    change Nat.beq len 1 = true at hln
    obtain rfl := Nat.eq_of_beq_eq_true hln
    change (match S with
      | .inr (.inr r) :: S => cond (Nat.beq mm.1 240 && decide (r = -2)) (am_nx (pc + 1) L (.inl (ω.2.2.1 : Int) :: S) ω) (cond (am_ar ω r 100 || am_ar ω r 101) (am_nx (pc + 1) L (.inl (am_len ω r) :: S) ω) none)
      | _ => none) = _ at hs
    split at hs
    · rename_i r T
      cases hr : (Nat.beq mm.1 240 && decide (r = -2)) with
      | true =>
        rw [hr] at hs
        rw [Bool.and_eq_true] at hr
        obtain rfl := of_decide_eq_true hr.2
        cases hs
      | false =>
        rw [hr] at hs
        obtain ⟨h1, h2⟩ := cd_of (show cond (am_ar ω r 100 || am_ar ω r 101) (am_nx (pc + 1) L (.inl (am_len ω r) :: T) ω) none = _ from hs)
        cases h2
    · cases hs
  case iaload =>
    change Nat.beq len 1 = true at hln
    obtain rfl := Nat.eq_of_beq_eq_true hln
    change (match S with
      | .inl j :: .inr (.inr r) :: S => cond (Nat.beq mm.1 240 && decide (r = -2)) (cond (decide (0 ≤ j) && decide (j < (ω.2.2.1 : Int))) (am_nx (pc + 1) L (.inl (ω.2.2.2 j.toNat) :: S) ω) none) (cond (am_in ω r 100 j) (am_nx (pc + 1) L (.inl (am_get ω r.toNat j.toNat) :: S) ω) none)
      | _ => none) = _ at hs
    split at hs
    · rename_i j r T
      cases hr : (Nat.beq mm.1 240 && decide (r = -2)) with
      | true =>
        rw [hr] at hs
        rw [Bool.and_eq_true] at hr
        obtain rfl := of_decide_eq_true hr.2
        obtain ⟨h1, h2⟩ := cd_of (show cond (decide (0 ≤ j) && decide (j < (ω.2.2.1 : Int))) (am_nx (pc + 1) L (.inl (ω.2.2.2 j.toNat) :: T) ω) none = _ from hs)
        cases h2
      | false =>
        rw [hr] at hs
        obtain ⟨h1, h2⟩ := cd_of (show cond (am_in ω r 100 j) (am_nx (pc + 1) L (.inl (am_get ω r.toNat j.toNat) :: T) ω) none = _ from hs)
        cases h2
    · cases hs
  case laload =>
    change Nat.beq len 1 = true at hln
    obtain rfl := Nat.eq_of_beq_eq_true hln
    change (match S with
      | .inl j :: .inr (.inr r) :: S => cond (am_in ω r 101 j) (am_nx (pc + 1) L (.inr (.inl (am_get ω r.toNat j.toNat)) :: S) ω) none
      | _ => none) = _ at hs
    split at hs
    · obtain ⟨h1, h2⟩ := cd_of hs
      cases h2
    · cases hs
  case aaload =>
    change Nat.beq len 1 = true at hln
    obtain rfl := Nat.eq_of_beq_eq_true hln
    change (match S with
      | .inl j :: .inr (.inr r) :: S => cond (am_in ω r 102 j || (am_in ω r 103 j || am_in ω r 104 j)) (am_nx (pc + 1) L (.inr (.inr (am_get ω r.toNat j.toNat)) :: S) ω) none
      | _ => none) = _ at hs
    split at hs
    · obtain ⟨h1, h2⟩ := cd_of hs
      cases h2
    · cases hs
  case iastore =>
    change Nat.beq len 1 = true at hln
    obtain rfl := Nat.eq_of_beq_eq_true hln
    change (match S with
      | .inl z :: .inl j :: .inr (.inr r) :: S => cond (am_in ω r 100 j) (am_nx (pc + 1) L S (am_put ω r.toNat j.toNat z)) none
      | _ => none) = _ at hs
    split at hs
    · obtain ⟨h1, h2⟩ := cd_of hs
      cases h2
    · cases hs
  case lastore =>
    change Nat.beq len 1 = true at hln
    obtain rfl := Nat.eq_of_beq_eq_true hln
    change (match S with
      | .inr (.inl z) :: .inl j :: .inr (.inr r) :: S => cond (am_in ω r 101 j) (am_nx (pc + 1) L S (am_put ω r.toNat j.toNat z)) none
      | _ => none) = _ at hs
    split at hs
    · obtain ⟨h1, h2⟩ := cd_of hs
      cases h2
    · cases hs
  case aastore =>
    change Nat.beq len 1 = true at hln
    obtain rfl := Nat.eq_of_beq_eq_true hln
    change (match S with
      | .inr (.inr z) :: .inl j :: .inr (.inr r) :: S => cond ((am_in ω r 102 j && am_is ω z (4, 5)) || (am_in ω r 103 j && am_is ω z (2, 3))) (am_nx (pc + 1) L S (am_put ω r.toNat j.toNat z)) none
      | _ => none) = _ at hs
    split at hs
    · obtain ⟨h1, h2⟩ := cd_of hs
      cases h2
    · cases hs
  case new idx =>
    change Nat.beq len 3 = true at hln
    obtain rfl := Nat.eq_of_beq_eq_true hln
    change (match am_lk (am_pn.get (am_own mm.1)) idx with
      | some (ci, _) => cond (decide (ci < 8)) (am_nx (pc + 3) L (.inr (.inr (ω.1.length : Int)) :: S) (am_new ω (ci, am_nf ci) (am_d0 ci))) none
      | none => none) = _ at hs
    split at hs
    · obtain ⟨h1, h2⟩ := cd_of hs
      cases h2
    · cases hs
  case newarray ty =>
    change Nat.beq len 2 = true at hln
    obtain rfl := Nat.eq_of_beq_eq_true hln
    change (match S with
      | .inl n :: S => cond (decide (0 ≤ n) && decide (n ≤ 100000)) (match ty with
      | .int => am_nx (pc + 2) L (.inr (.inr (ω.1.length : Int)) :: S) (am_new ω (100, n.toNat) (fun _ => 0))
      | .long => am_nx (pc + 2) L (.inr (.inr (ω.1.length : Int)) :: S) (am_new ω (101, n.toNat) (fun _ => 0))
      | _ => none) none
      | _ => none) = _ at hs
    split at hs
    · obtain ⟨h1, h2⟩ := cd_of hs
      simp only [Bool.and_eq_true, decide_eq_true_eq] at h1
      split at h2
      · cases h2
      · cases h2
      · cases h2
    · cases hs
  case anewarray idx =>
    change Nat.beq len 3 = true at hln
    obtain rfl := Nat.eq_of_beq_eq_true hln
    change (match am_lk (am_pn.get (am_own mm.1)) idx, S with
      | some (ci, _), .inl n :: S => cond (decide (0 ≤ n) && decide (n ≤ 100000)) (match ci with
      | 4 => am_nx (pc + 3) L (.inr (.inr (ω.1.length : Int)) :: S) (am_new ω (102, n.toNat) (fun _ => -1))
      | 2 => am_nx (pc + 3) L (.inr (.inr (ω.1.length : Int)) :: S) (am_new ω (103, n.toNat) (fun _ => -1))
      | _ => none) none
      | _, _ => none) = _ at hs
    split at hs
    · obtain ⟨h1, h2⟩ := cd_of hs
      simp only [Bool.and_eq_true, decide_eq_true_eq] at h1
      split at h2
      · cases h2
      · cases h2
      · cases h2
    · cases hs
  case multianewarray idx dims =>
    change Nat.beq len 4 = true at hln
    obtain rfl := Nat.eq_of_beq_eq_true hln
    change (match am_lk (am_pn.get (am_own mm.1)) idx, S with
      | some (104, _), .inl k :: .inl n :: S => cond (Nat.beq dims 2 && (decide (0 ≤ n) && (decide (n ≤ 1000) && (decide (0 ≤ k) && decide (k ≤ 100000))))) (am_nx (pc + 4) L (.inr (.inr (ω.1.length : Int)) :: S) (am_newg ω n.toNat k.toNat)) none
      | _, _ => none) = _ at hs
    split at hs
    · obtain ⟨h1, h2⟩ := cd_of hs
      simp only [Bool.and_eq_true, decide_eq_true_eq] at h1
      obtain ⟨g0, g1, g2, g3, g4⟩ := h1
      obtain rfl := Nat.eq_of_beq_eq_true g0
      cases h2
    · cases hs
  case invokevirtual idx =>
    change Nat.beq len 3 = true at hln
    obtain rfl := Nat.eq_of_beq_eq_true hln
    change am_inv 0 mm idx (pc + 3) L S ω = _ at hs
    unfold am_inv at hs
    split at hs
    · rename_i kd b na rk2 wx hpm
      obtain ⟨w, w2, w3, w4⟩ := wx
      split at hs
      all_goals (first | (exfalso; omega) | (exfalso; exact am_slen_no hs) | (exfalso; exact am_schr_no hs) | (exfalso; exact am_acpy_no hs) | (exfalso; cases hs; done) | skip)
      · obtain ⟨as2, S2, m2, e1, e2, e3, e4, e5, e6⟩ := am_call_of hs
        cases e6
        have hb := am_kd_240 (am_own_lt mm.1) hpm (by decide)
        refine ⟨rfl, by rw [e2]; exact hb, by rw [e2]; exact e4, fun C v ω1 S1 hM hg b1 b2 hpu k => aj_callV C hd hpm e2 e1 e3 (e5 rfl) hM hg.1 hg.2.1 hg.2.2 b1 b2 hpu k⟩
    · cases hs
  case invokestatic idx =>
    change Nat.beq len 3 = true at hln
    obtain rfl := Nat.eq_of_beq_eq_true hln
    change am_inv 1 mm idx (pc + 3) L S ω = _ at hs
    unfold am_inv at hs
    split at hs
    · rename_i kd b na rk2 wx hpm
      obtain ⟨w, w2, w3, w4⟩ := wx
      split at hs
      all_goals (first | (exfalso; omega) | (exfalso; exact am_slen_no hs) | (exfalso; exact am_schr_no hs) | (exfalso; exact am_acpy_no hs) | (exfalso; cases hs; done) | skip)
      · obtain ⟨as2, S2, m2, e1, e2, e3, e4, e5, e6⟩ := am_call_of hs
        cases e6
        have hb := am_kd_240 (am_own_lt mm.1) hpm (by decide)
        refine ⟨rfl, by rw [e2]; exact hb, by rw [e2]; exact e4, fun C v ω1 S1 hM hg b1 b2 hpu k => aj_callS C hd hpm e2 e1 e3 hM hg.1 hg.2.1 hg.2.2 b1 b2 hpu k⟩
      · obtain ⟨as2, S2, m2, e1, e2, e3, e4, e5, e6⟩ := am_call_of hs
        cases e6
        have hb := am_kd_240 (am_own_lt mm.1) hpm (by decide)
        refine ⟨rfl, by rw [e2]; exact hb, by rw [e2]; exact e4, fun C v ω1 S1 hM hg b1 b2 hpu k => aj_callSN C hd hpm e2 e1 e3 hM hg.1 hg.2.1 hg.2.2 b1 b2 hpu k⟩
    · cases hs
  case invokespecial idx =>
    change Nat.beq len 3 = true at hln
    obtain rfl := Nat.eq_of_beq_eq_true hln
    change am_inv 2 mm idx (pc + 3) L S ω = _ at hs
    unfold am_inv at hs
    split at hs
    · rename_i kd b na rk2 wx hpm
      obtain ⟨w, w2, w3, w4⟩ := wx
      split at hs
      all_goals (first | (exfalso; omega) | (exfalso; exact am_slen_no hs) | (exfalso; exact am_schr_no hs) | (exfalso; exact am_acpy_no hs) | (exfalso; cases hs; done) | skip)
      · obtain ⟨as2, S2, m2, e1, e2, e3, e4, e5, e6⟩ := am_call_of hs
        cases e6
        have hb := am_kd_240 (am_own_lt mm.1) hpm (by decide)
        refine ⟨rfl, by rw [e2]; exact hb, by rw [e2]; exact e4, fun C v ω1 S1 hM hg b1 b2 hpu k => aj_callI C hd hpm e2 e1 e3 (e5 rfl) hM hg.1 hg.2.1 hg.2.2 b1 b2 hpu k⟩
      · obtain ⟨as2, S2, m2, e1, e2, e3, e4, e5, e6⟩ := am_call_of hs
        cases e6
        have hb := am_kd_240 (am_own_lt mm.1) hpm (by decide)
        refine ⟨rfl, by rw [e2]; exact hb, by rw [e2]; exact e4, fun C v ω1 S1 hM hg b1 b2 hpu k => aj_callIN C hd hpm e2 e1 e3 (e5 rfl) hM hg.1 hg.2.1 hg.2.2 b1 b2 hpu k⟩
      · split at hs
        · obtain ⟨h1, h2⟩ := cd_of hs
          cases h2
        · cases hs
    · cases hs
  case ireturn =>
    change Nat.beq len 1 = true at hln
    obtain rfl := Nat.eq_of_beq_eq_true hln
    change (match S with
      | [.inl z] => cond (am_nar (am_rt mm.1) z) (am_rv (some (.inl z)) ω) none
      | _ => none) = _ at hs
    split at hs
    · obtain ⟨h1, h2⟩ := cd_of hs
      cases h2
    · cases hs
  case lreturn =>
    change Nat.beq len 1 = true at hln
    obtain rfl := Nat.eq_of_beq_eq_true hln
    change (match S with
      | [.inr (.inl z)] => cond (Nat.beq (am_rt mm.1) 2) (am_rv (some (.inr (.inl z))) ω) none
      | _ => none) = _ at hs
    split at hs
    · obtain ⟨h1, h2⟩ := cd_of hs
      cases h2
    · cases hs
  case areturn =>
    change Nat.beq len 1 = true at hln
    obtain rfl := Nat.eq_of_beq_eq_true hln
    change (match S with
      | [.inr (.inr z)] => cond (Nat.beq (am_rt mm.1) 3 && am_is ω z (1, 15)) (am_rv (some (.inr (.inr z))) ω) none
      | _ => none) = _ at hs
    split at hs
    · obtain ⟨h1, h2⟩ := cd_of hs
      cases h2
    · cases hs
  case return_ =>
    change Nat.beq len 1 = true at hln
    obtain rfl := Nat.eq_of_beq_eq_true hln
    change (match S with
      | [] => cond (Nat.beq (am_rt mm.1) 0) (am_rv none ω) none
      | _ => none) = _ at hs
    split at hs
    · obtain ⟨h1, h2⟩ := cd_of hs
      cases h2
    · cases hs
  all_goals (cases hs)
end AS
end
section
/-! ===== a run of the abstract machine is a run of the machine ===== -/
theorem am_args_sl (G : am_G) (AD : List Nat) : ∀ as : List am_V, (lg_sl (as.map (am_mv G AD))).length = (am_spread as).length
  | [] => rfl
  | .inl z :: as => by
    have ih := am_args_sl G AD as
    show (lg_sl (.int (Int32.ofInt z) :: as.map (am_mv G AD))).length = (some (.inl z) :: am_spread as).length
    rw [List.length_cons, ← ih]
    simp [lg_sl, Value.category]
  | .inr (.inl z) :: as => by
    have ih := am_args_sl G AD as
    show (lg_sl (.long (Int64.ofInt z) :: as.map (am_mv G AD))).length = (some (.inr (.inl z)) :: none :: am_spread as).length
    rw [List.length_cons, List.length_cons, ← ih]
    simp [lg_sl, Value.category]
  | .inr (.inr z) :: as => by
    have ih := am_args_sl G AD as
    show (lg_sl (am_mr G AD z :: as.map (am_mv G AD))).length = (some (.inr (.inr z)) :: am_spread as).length
    rw [List.length_cons, ← ih]
    simp [lg_sl, am_cat]
theorem am_args_in (G : am_G) (AD : List Nat) : ∀ (as : List am_V) (i k : Nat) (v : am_V), (am_spread as)[k]? = some (some v) → (i + k, am_mv G AD v) ∈ lv_args i (as.map (am_mv G AD))
  | [], i, k, v, h => by simp [am_spread] at h
  | .inl z :: as, i, k, v, h => by
    have h : (some (.inl z) :: am_spread as)[k]? = some (some v) := h
    show _ ∈ (i, .int (Int32.ofInt z)) :: lv_args (i + 1) (as.map (am_mv G AD))
    cases k with
    | zero =>
      have e : (.inl z : am_V) = v := by simpa using h
      subst e
      exact List.mem_cons_self
    | succ k =>
      rw [List.getElem?_cons_succ] at h
      have := am_args_in G AD as (i + 1) k v h
      rw [show i + (k + 1) = i + 1 + k by omega]
      exact List.mem_cons_of_mem _ this
  | .inr (.inl z) :: as, i, k, v, h => by
    have h : (some (.inr (.inl z)) :: none :: am_spread as)[k]? = some (some v) := h
    show _ ∈ (i, .long (Int64.ofInt z)) :: lv_args (i + 2) (as.map (am_mv G AD))
    match k, h with
    | 0, h =>
      have e : (.inr (.inl z) : am_V) = v := by simpa using h
      subst e
      exact List.mem_cons_self
    | 1, h => simp at h
    | k + 2, h =>
      rw [List.getElem?_cons_succ, List.getElem?_cons_succ] at h
      have := am_args_in G AD as (i + 2) k v h
      rw [show i + (k + 2) = i + 2 + k by omega]
      exact List.mem_cons_of_mem _ this
  | .inr (.inr z) :: as, i, k, v, h => by
    have h : (some (.inr (.inr z)) :: am_spread as)[k]? = some (some v) := h
    have e0 : lv_args i ((.inr (.inr z) :: as : List am_V).map (am_mv G AD)) = (i, am_mr G AD z) :: lv_args (i + 1) (as.map (am_mv G AD)) := by
      show (i, am_mr G AD z) :: lv_args (if (am_mr G AD z).category = 2 then i + 2 else i + 1) _ = _
      rw [am_cat, if_neg (by decide)]
    rw [e0]
    cases k with
    | zero =>
      have e : (.inr (.inr z) : am_V) = v := by simpa using h
      subst e
      exact List.mem_cons_self
    | succ k =>
      rw [List.getElem?_cons_succ] at h
      have := am_args_in G AD as (i + 1) k v h
      rw [show i + (k + 1) = i + 1 + k by omega]
      exact List.mem_cons_of_mem _ this
theorem am_spread_ok {n : Nat} : ∀ {as : List am_V}, am_okS n as → ∀ (k : Nat) (v : am_V), (am_spread as)[k]? = some (some v) → am_okv n v
  | [], _, k, v, h => by simp [am_spread] at h
  | .inl z :: as, ho, k, v, h => by
    have h : (some (.inl z) :: am_spread as)[k]? = some (some v) := h
    cases k with
    | zero => have e : (.inl z : am_V) = v := by simpa using h
              subst e
              exact am_okS_h ho
    | succ k => rw [List.getElem?_cons_succ] at h; exact am_spread_ok (am_okS_t ho) k v h
  | .inr (.inl z) :: as, ho, k, v, h => by
    have h : (some (.inr (.inl z)) :: none :: am_spread as)[k]? = some (some v) := h
    match k, h with
    | 0, h => have e : (.inr (.inl z) : am_V) = v := by simpa using h
              subst e
              exact am_okS_h ho
    | 1, h => simp at h
    | k + 2, h => rw [List.getElem?_cons_succ, List.getElem?_cons_succ] at h; exact am_spread_ok (am_okS_t ho) k v h
  | .inr (.inr z) :: as, ho, k, v, h => by
    have h : (some (.inr (.inr z)) :: am_spread as)[k]? = some (some v) := h
    cases k with
    | zero => have e : (.inr (.inr z) : am_V) = v := by simpa using h
              subst e
              exact am_okS_h ho
    | succ k => rw [List.getElem?_cons_succ] at h; exact am_spread_ok (am_okS_t ho) k v h
theorem am_ent_len {b : Nat} {as : List am_V} (h : (am_spread as).length ≤ am_max b) : (am_ent b as).length = am_max b := by
  unfold am_ent
  rw [List.length_append, List.length_replicate]
  omega
theorem am_ent_at {b k : Nat} {as : List am_V} {v : am_V} (h : (am_ent b as)[k]? = some (some v)) : (am_spread as)[k]? = some (some v) := by
  unfold am_ent at h
  by_cases h1 : k < (am_spread as).length
  · rw [List.getElem?_append_left h1] at h
    exact h
  · rw [List.getElem?_append_right (by omega), List.getElem?_replicate] at h
    split at h
    · cases h
    · cases h
section AQ
variable (G : am_G) (mm : am_M) (A : Nat → Prop) (p : Program) (l : Launch) (e : Env) (R : Room) (s : State) (m : MethodId) (args : Array Value) (below : List Frame) (meth : Method) (c : Code) (Q : State → Prop) (c0 s0 : Nat) (sc : Nat × (Nat → Int)) (AD0 : List Nat)
/-- where the method ends, Q holds -/
def am_RQ (v : Option am_V) (ω1 : am_W) : Prop := ∀ (AD : List Nat) (H : Heap) (locs : List Loc) (ls : Array Slot) (pc cells slots : Nat), am_okS ω1.1.length v.toList → am_Rl G A AD ω1 H → am_VS A s.heap AD0 AD H locs → cells + c0 = ω1.1.length → slots + s0 = am_sl ω1.1 → ω1.2.2 = sc → am_rd mm.1 pc v → W p l e R s m args below meth c H locs cells slots Q (F0 m pc ls (v.toList.map (am_mv G AD)))
end AQ
theorem am_grow (G : am_G) (A : Nat → Prop) (p : Program) (l : Launch) (e : Env) (R : Room) (s : State) (m : MethodId) (args : Array Value) (below : List Frame) (meth : Method) (c : Code) (Q : State → Prop) (c0 s0 : Nat) (sc : Nat × (Nat → Int)) (AD0 : List Nat) : ∀ (n : Nat) (mm : am_M) (pc : Nat) (L : am_L) (S : List am_V) (ω : am_W) (v : Option am_V) (ω1 : am_W), mm.1 ≤ 240 → am n mm pc (L, S, ω) = some (v, ω1) → am_Gw ω ω1 := by
  intro n
  induction n with
  | zero => intro mm pc L S ω v ω1 _ h; cases h
  | succ n ih =>
    intro mm pc L S ω v ω1 hmb h
    unfold am at h
    cases hc : am_code mm.1 pc with
    | none => rw [hc] at h; cases h
    | some q =>
      obtain ⟨i, len⟩ := q
      rw [hc] at h
      dsimp only at h
      cases hs : am_st mm i pc L S ω with
      | none => rw [hs] at h; cases h
      | some a =>
        rw [hs] at h
        rcases a with ⟨pc', L', S', ω'⟩ | ⟨v', ω'⟩ | ⟨m', rk, as, pc', L', S', ω'⟩
        · exact am_Gw_tr (am_step_J (G := G) (A := A) (p := p) (l := l) (e := e) (R := R) (s := s) (m := m) (args := args) (below := below) (meth := meth) (c := c) (Q := Q) (c0 := c0) (s0 := s0) (sc := sc) (AD0 := AD0) hmb hc hs).1 (ih _ _ _ _ _ _ _ hmb h)
        · cases h
          obtain ⟨rfl, -⟩ := am_step_R hmb hc hs
          exact am_Gw_rf _
        · dsimp only at h
          obtain ⟨rfl, hb, -⟩ := am_step_C (G := G) (A := A) (p := p) (l := l) (e := e) (R := R) (s := s) (m := m) (args := args) (below := below) (meth := meth) (c := c) (Q := Q) (c0 := c0) (s0 := s0) (sc := sc) (AD0 := AD0) hmb hc hs
          cases h1 : am n m' 0 (am_ent m'.1 as, [], ω') with
          | none => rw [h1] at h; cases h
          | some q =>
            obtain ⟨v', ω2⟩ := q
            rw [h1] at h
            dsimp only at h
            cases h2 : am_push rk v' S' with
            | none => rw [h2] at h; cases h
            | some S1 =>
              rw [h2] at h
              exact am_Gw_tr (ih _ _ _ _ _ _ _ (by omega) h1) (ih _ _ _ _ _ _ _ hmb h)
/-- what is shown of runs of at most n steps -/
def am_Ok (l : Launch) (n : Nat) : Prop := ∀ (G : am_G) (mm : am_M) (A : Nat → Prop) (p : Program) (e : Env) (R : Room) (s : State) (m : MethodId) (args : Array Value) (below : List Frame) (meth : Method) (c : Code) (Q : State → Prop) (c0 s0 : Nat) (sc : Nat × (Nat → Int)) (AD0 : List Nat) (pc : Nat) (L : am_L) (S : List am_V) (ω : am_W) (v : Option am_V) (ω1 : am_W), am_Cx G mm A p R s m args meth c sc → mm.1 ≤ 240 → am n mm pc (L, S, ω) = some (v, ω1) → ω1.1.length ≤ c0 + R.cells → am_sl ω1.1 ≤ s0 + R.slots → am_RQ G mm A p l e R s m args below meth c Q c0 s0 sc AD0 v ω1 → am_J G mm A p l e R s m args below meth c Q c0 s0 sc AD0 pc L S ω
theorem am_ty_0 {b : Nat} (h : am_rt b = 0) : am_ty b = none := by unfold am_ty; rw [h]; rfl
theorem am_ty_1 {b : Nat} (h : am_rt b = 1) : am_ty b = some .int := by unfold am_ty; rw [h]; rfl
theorem am_ty_2 {b : Nat} (h : am_rt b = 2) : am_ty b = some .long := by unfold am_ty; rw [h]; rfl
theorem am_ty_3 {b : Nat} (h : am_rt b = 3) : am_ty b = some (.object "FasterToBeLater$Planner") := by unfold am_ty; rw [h]; rfl
theorem am_ty_4 {b : Nat} (h : am_rt b = 4) : am_ty b = some .boolean := by unfold am_ty; rw [h]; rfl
/-- a method's contract, out of its run -/
theorem am_met {l : Launch} {n : Nat} (ih : am_Ok l n) {G : am_G} {A : Nat → Prop} {AD : List Nat} {m' : am_M} {as : List am_V} {ω : am_W} {v : Option am_V} {ω1 : am_W} (hb : m'.1 < 240) (hsp : (am_spread as).length ≤ am_max m'.1) (h : am n m' 0 (am_ent m'.1 as, [], ω) = some (v, ω1)) (hlen : AD.length = ω.1.length) (hok : am_okS ω.1.length as) : am_Mt l G A AD m' as ω v ω1 := by
  unfold am_Mt
  obtain ⟨y1, y2, y3, y4, y5⟩ := am_mw hb
  refine va_MetF (cc := am_by.get m'.1) (maxL := am_max m'.1) (ret := am_ty m'.1) y2 rfl ?_
  intro p e s m args below meth c s₁ B hml hv
  obtain ⟨rfl, hPu⟩ := hv
  have hts := atoms_spec (ws := am_wy m'.1) B.pre
  have hown : s.vm.findClass (am_nm.get m'.1).cls = some m.cls := findClass_of_methodNamed B.named
  rw [y4] at hown
  have C : am_Cx G m' A p (headSpec (am_wy m'.1) (am_rm m' ω ω1)).room s m ((as.map (am_mv G AD)).toArray) meth c ω.2.2 := ⟨B.exec, B.bytes, hml, hown, fun w hw => hts w (List.mem_cons_of_mem _ hw), B.returns, B.notSynchronized, (fun hm => by rw [(name_of_methodNamed B.named B.method).1, ← am_get_impl]; exact am_ctor_nm _ hm), hPu.2.1, hPu.2.2.1, hPu.2.2.2.1, Nat.le_refl _, Nat.le_refl _, hPu.2.2.2.2.1, hPu.2.2.2.2.2.1, hPu.2.2.2.2.2.2⟩
  have hgr := am_grow G A p l e (headSpec (am_wy m'.1) (am_rm m' ω ω1)).room s m ((as.map (am_mv G AD)).toArray) below meth c (fun _ => True) 0 0 ω.2.2 AD n m' 0 _ _ _ _ _ (Nat.le_of_lt hb) h
  have hl := lv_entry (as.map (am_mv G AD)) (n := am_max m'.1) (by rw [am_args_sl]; exact hsp)
  rw [lg_entry_eq]
  generalize (lg_sl (as.map (am_mv G AD)) ++ List.replicate (am_max m'.1 - (lg_sl (as.map (am_mv G AD))).length) Slot.unset).toArray = ls at hl ⊢
  have hF : am_Fr G AD (am_max m'.1) (am_ent m'.1 as) ls := ⟨am_ent_len hsp, hl.1, hl.2.1, fun k w hk => hl.2.2 (k, am_mv G AD w) (by
    have := am_args_in G AD as 0 k w (am_ent_at hk)
    rw [Nat.zero_add] at this
    exact this)⟩
  have hL : am_okL ω.1.length (am_ent m'.1 as) := fun k w hk => am_spread_ok hok k w (am_ent_at hk)
  refine ih G m' A p e (headSpec (am_wy m'.1) (am_rm m' ω ω1)).room s m _ below meth c _ ω.1.length (am_sl ω.1) ω.2.2 AD 0 (am_ent m'.1 as) [] ω v ω1 C (Nat.le_of_lt hb) h (by show ω1.1.length ≤ ω.1.length + (ω1.1.length - ω.1.length); omega) (by show am_sl ω1.1 ≤ am_sl ω.1 + (am_sl ω1.1 - am_sl ω.1); omega) ?_ AD s.heap [] ls 0 0 hF hL (fun w hw => by cases hw) hPu.1 ⟨va_S.rf, List.prefix_refl _⟩ (by omega) (by omega) rfl
  intro AD' H locs ls2 pc cells slots hokv hR hV hc hs hsc hrd
  have e1 : cells = ω1.1.length - ω.1.length := by omega
  have e2 : slots = am_sl ω1.1 - am_sl ω.1 := by omega
  subst e1
  subst e2
  obtain ⟨X, hX⟩ := hV.2
  subst hX
  have hq : ∀ t : State, t.heap = H → am_Qc G A AD v ω1 ((as.map (am_mv G AD)).toArray) s (.returned (v.map (am_mv G (AD ++ X)))) t := fun t ht => ⟨⟨X, rfl, by rw [ht]; exact hR, hokv⟩, hV.1.F ht⟩
  have hret : meth.sig.returnType = am_ty m'.1 := B.returns
  have hlk : meth.locks = false := B.notSynchronized
  rcases v with _ | z | z | z
  · obtain ⟨d1, d2⟩ := hrd
    exact W.vret B.exec B.bytes (by rw [hret, am_ty_0 d2]) (fun t ht _ => hq t ht) hV.1.2.2 d1 hlk
  · obtain ⟨d1, d2⟩ := hrd
    match hrt : am_rt m'.1, d2 with
    | 0, d2 => cases d2
    | 1, d2 => exact W.zret (ty := .int) B.exec B.bytes (by rw [hret, am_ty_1 hrt]) rfl (fun t ht _ => hq t ht) hV.1.2.2 d1 hlk
    | 2, d2 => cases d2
    | 3, d2 => cases d2
    | 4, d2 =>
      have hz : z = 0 ∨ z = 1 := by simpa [am_nar] using d2
      refine W.zret (ty := .boolean) B.exec B.bytes (by rw [hret, am_ty_4 hrt]) ?_ (fun t ht _ => hq t ht) hV.1.2.2 d1 hlk
      rcases hz with rfl | rfl <;> rfl
    | k + 5, d2 => cases d2
  · obtain ⟨d1, d2⟩ := hrd
    exact W.lret B.exec B.bytes (by rw [hret, am_ty_2 d2]) (fun t ht _ => hq t ht) hV.1.2.2 d1 hlk
  · obtain ⟨d1, d2, d3⟩ := hrd
    have hq2 := hq
    have hv : am_mv G (AD ++ X) (.inr (.inr z)) = .ref ((AD ++ X).getD z.toNat 0) := am_mr_pos d3
    refine W.aret (v := am_mv G (AD ++ X) (.inr (.inr z))) B.exec B.bytes (by rw [hret, am_ty_3 d2]) (Or.inl ⟨_, rfl⟩) (Or.inr ⟨_, hv⟩) (fun t ht _ => hq t ht) hV.1.2.2 d1 hlk
theorem am_ok (l : Launch) : ∀ n, am_Ok l n := by
  intro n
  induction n with
  | zero =>
    intro G mm A p e R s m args below meth c Q c0 s0 sc AD0 pc L S ω v ω1 _ _ h
    cases h
  | succ n ih =>
    intro G mm A p e R s m args below meth c Q c0 s0 sc AD0 pc L S ω v ω1 C hmb h b1 b2 hq
    unfold am at h
    cases hc : am_code mm.1 pc with
    | none => rw [hc] at h; cases h
    | some q =>
      obtain ⟨i, len⟩ := q
      rw [hc] at h
      dsimp only at h
      cases hs : am_st mm i pc L S ω with
      | none => rw [hs] at h; cases h
      | some a =>
        rw [hs] at h
        rcases a with ⟨pc', L', S', ω'⟩ | ⟨v', ω'⟩ | ⟨m', rk, as, pc', L', S', ω'⟩
        · have hg := am_grow G A p l e R s m args below meth c Q c0 s0 sc AD0 n mm pc' L' S' ω' v ω1 hmb h
          have hj := ih G mm A p e R s m args below meth c Q c0 s0 sc AD0 pc' L' S' ω' v ω1 C hmb h b1 b2 hq
          exact (am_step_J hmb hc hs).2 C (Nat.le_trans hg.1 b1) (Nat.le_trans hg.2.1 b2) hj
        · cases h
          obtain ⟨rfl, rfl, hrd⟩ := am_step_R hmb hc hs
          intro AD H locs ls cells slots hF hL hS hR hV hcc hss hsc
          exact hq AD H locs ls pc cells slots hS hR hV hcc hss hsc hrd
        · dsimp only at h
          obtain ⟨rfl, hb, hsp, hcall⟩ := am_step_C (G := G) (A := A) (p := p) (l := l) (e := e) (R := R) (s := s) (m := m) (args := args) (below := below) (meth := meth) (c := c) (Q := Q) (c0 := c0) (s0 := s0) (sc := sc) (AD0 := AD0) hmb hc hs
          cases h1 : am n m' 0 (am_ent m'.1 as, [], ω') with
          | none => rw [h1] at h; cases h
          | some q =>
            obtain ⟨v', ω2⟩ := q
            rw [h1] at h
            dsimp only at h
            cases h2 : am_push rk v' S' with
            | none => rw [h2] at h; cases h
            | some S1 =>
              rw [h2] at h
              have hg1 := am_grow G A p l e R s m args below meth c Q c0 s0 sc AD0 n m' 0 _ _ _ _ _ (Nat.le_of_lt hb) h1
              have hg2 := am_grow G A p l e R s m args below meth c Q c0 s0 sc AD0 n mm pc' L' S1 ω2 v ω1 hmb h
              have hj := ih G mm A p e R s m args below meth c Q c0 s0 sc AD0 pc' L' S1 ω2 v ω1 C hmb h b1 b2 hq
              exact hcall C v' ω2 S1 (fun AD hlen hok => am_met ih hb hsp h1 hlen hok) hg1 (Nat.le_trans hg2.1 b1) (Nat.le_trans hg2.2.1 b2) h2 hj
end
section
/-! ===== runs, instruction by instruction ===== -/
def am_bi (x : Option am_R) (f : Int → am_W → Option am_R) : Option am_R := match x with
  | some (some (.inl z), ω) => f z ω
  | _ => none
def am_bl (x : Option am_R) (f : Int → am_W → Option am_R) : Option am_R := match x with
  | some (some (.inr (.inl z)), ω) => f z ω
  | _ => none
def am_ba (x : Option am_R) (f : Int → am_W → Option am_R) : Option am_R := match x with
  | some (some (.inr (.inr z)), ω) => f z ω
  | _ => none
def am_bv (x : Option am_R) (f : am_W → Option am_R) : Option am_R := match x with
  | some (none, ω) => f ω
  | _ => none
theorem am_bi_s {z : Int} {ω : am_W} {f : Int → am_W → Option am_R} : am_bi (some (some (.inl z), ω)) f = f z ω := rfl
theorem am_bl_s {z : Int} {ω : am_W} {f : Int → am_W → Option am_R} : am_bl (some (some (.inr (.inl z)), ω)) f = f z ω := rfl
theorem am_ba_s {z : Int} {ω : am_W} {f : Int → am_W → Option am_R} : am_ba (some (some (.inr (.inr z)), ω)) f = f z ω := rfl
theorem am_bv_s {ω : am_W} {f : am_W → Option am_R} : am_bv (some (none, ω)) f = f ω := rfl
theorem bi_cg {x : Option am_R} {f g : Int → am_W → Option am_R} (h : ∀ z ω, f z ω = g z ω) : am_bi x f = am_bi x g := by rw [show f = g from funext fun z => funext fun ω => h z ω]
theorem bl_cg {x : Option am_R} {f g : Int → am_W → Option am_R} (h : ∀ z ω, f z ω = g z ω) : am_bl x f = am_bl x g := by rw [show f = g from funext fun z => funext fun ω => h z ω]
theorem ba_cg {x : Option am_R} {f g : Int → am_W → Option am_R} (h : ∀ z ω, f z ω = g z ω) : am_ba x f = am_ba x g := by rw [show f = g from funext fun z => funext fun ω => h z ω]
theorem bv_cg {x : Option am_R} {f g : am_W → Option am_R} (h : ∀ ω, f ω = g ω) : am_bv x f = am_bv x g := by rw [show f = g from funext fun ω => h ω]
theorem bi_eq {x : Option am_R} {S : List am_V} {k : List am_V → am_W → Option am_R} : x.bind (fun q => (am_push 1 q.1 S).bind (fun S1 => k S1 q.2)) = am_bi x (fun z ω => k (.inl z :: S) ω) := by
  rcases x with _ | ⟨_ | z | z | z, ω⟩ <;> rfl
theorem bl_eq {x : Option am_R} {S : List am_V} {k : List am_V → am_W → Option am_R} : x.bind (fun q => (am_push 2 q.1 S).bind (fun S1 => k S1 q.2)) = am_bl x (fun z ω => k (.inr (.inl z) :: S) ω) := by
  rcases x with _ | ⟨_ | z | z | z, ω⟩ <;> rfl
theorem ba_eq {x : Option am_R} {S : List am_V} {k : List am_V → am_W → Option am_R} : x.bind (fun q => (am_push 3 q.1 S).bind (fun S1 => k S1 q.2)) = am_ba x (fun z ω => k (.inr (.inr z) :: S) ω) := by
  rcases x with _ | ⟨_ | z | z | z, ω⟩ <;> rfl
theorem bv_eq {x : Option am_R} {S : List am_V} {k : List am_V → am_W → Option am_R} : x.bind (fun q => (am_push 0 q.1 S).bind (fun S1 => k S1 q.2)) = am_bv x (fun ω => k S ω) := by
  rcases x with _ | ⟨_ | z | z | z, ω⟩ <;> rfl
theorem it_cg {c : Prop} [Decidable c] {x y x' y' : Option am_R} (h1 : c → x = x') (h2 : ¬ c → y = y') : (if c then x else y) = (if c then x' else y') := by
  by_cases h : c
  · rw [if_pos h, if_pos h]; exact h1 h
  · rw [if_neg h, if_neg h]; exact h2 h
/-- a thing that must hold, or the run stops -/
theorem ck_it {b : Bool} {x y y' : Option am_R} (h1 : b = true → x = y) (h2 : b = false → x = none) (h3 : b = true → y = y') : x = if b = true then y' else none := by
  cases b
  · rw [if_neg (by decide)]; exact h2 rfl
  · rw [if_pos rfl]; exact (h1 rfl).trans (h3 rfl)
section RR
variable {m : am_M} {pc : Nat} {L L' : am_L} {S S' : List am_V} {ω : am_W} {a b z r j n : Int} {t : Nat}
theorem rr_iconst (hc : am_code m.1 pc = some (.iconst n, 1)) (h : (decide (-128 ≤ n) && decide (n ≤ 127)) = true) : am_run m pc (L, S, ω) = am_run m (pc + 1) (L, .inl n :: S, ω) := am_go hc (by show cond _ _ _ = _; rw [h]; rfl)
theorem rr_bipush (hc : am_code m.1 pc = some (.bipush n, 2)) (h : (decide (-128 ≤ n) && decide (n ≤ 127)) = true) : am_run m pc (L, S, ω) = am_run m (pc + 2) (L, .inl n :: S, ω) := am_go hc (by show cond _ _ _ = _; rw [h]; rfl)
theorem rr_sipush (hc : am_code m.1 pc = some (.sipush n, 3)) (h : (decide (-32768 ≤ n) && decide (n ≤ 32767)) = true) : am_run m pc (L, S, ω) = am_run m (pc + 3) (L, .inl n :: S, ω) := am_go hc (by show cond _ _ _ = _; rw [h]; rfl)
theorem rr_lconst {k : Fin 2} (hc : am_code m.1 pc = some (.lconst k, 1)) : am_run m pc (L, S, ω) = am_run m (pc + 1) (L, .inr (.inl ((k : Nat) : Int)) :: S, ω) := am_go hc rfl
theorem rr_iadd (hc : am_code m.1 pc = some (.iadd, 1)) : am_run m pc (L, .inl b :: .inl a :: S, ω) = am_run m (pc + 1) (L, .inl (am_w (a + b)) :: S, ω) := am_go hc rfl
theorem rr_isub (hc : am_code m.1 pc = some (.isub, 1)) : am_run m pc (L, .inl b :: .inl a :: S, ω) = am_run m (pc + 1) (L, .inl (am_w (a - b)) :: S, ω) := am_go hc rfl
theorem rr_imul (hc : am_code m.1 pc = some (.imul, 1)) : am_run m pc (L, .inl b :: .inl a :: S, ω) = am_run m (pc + 1) (L, .inl (am_w (a * b)) :: S, ω) := am_go hc rfl
theorem rr_iand (hc : am_code m.1 pc = some (.iand, 1)) : am_run m pc (L, .inl b :: .inl a :: S, ω) = am_run m (pc + 1) (L, .inl (am_and a b) :: S, ω) := am_go hc rfl
theorem rr_ior (hc : am_code m.1 pc = some (.ior, 1)) : am_run m pc (L, .inl b :: .inl a :: S, ω) = am_run m (pc + 1) (L, .inl (am_or a b) :: S, ω) := am_go hc rfl
theorem rr_ixor (hc : am_code m.1 pc = some (.ixor, 1)) : am_run m pc (L, .inl b :: .inl a :: S, ω) = am_run m (pc + 1) (L, .inl (am_xor a b) :: S, ω) := am_go hc rfl
theorem rr_ishl (hc : am_code m.1 pc = some (.ishl, 1)) : am_run m pc (L, .inl b :: .inl a :: S, ω) = am_run m (pc + 1) (L, .inl (am_shl a b) :: S, ω) := am_go hc rfl
theorem rr_ishr (hc : am_code m.1 pc = some (.ishr, 1)) : am_run m pc (L, .inl b :: .inl a :: S, ω) = am_run m (pc + 1) (L, .inl (am_shr a b) :: S, ω) := am_go hc rfl
theorem rr_iushr (hc : am_code m.1 pc = some (.iushr, 1)) : am_run m pc (L, .inl b :: .inl a :: S, ω) = am_run m (pc + 1) (L, .inl (am_ushr a b) :: S, ω) := am_go hc rfl
theorem rr_ladd (hc : am_code m.1 pc = some (.ladd, 1)) : am_run m pc (L, .inr (.inl b) :: .inr (.inl a) :: S, ω) = am_run m (pc + 1) (L, .inr (.inl (am_wl (a + b))) :: S, ω) := am_go hc rfl
theorem rr_lmul (hc : am_code m.1 pc = some (.lmul, 1)) : am_run m pc (L, .inr (.inl b) :: .inr (.inl a) :: S, ω) = am_run m (pc + 1) (L, .inr (.inl (am_wl (a * b))) :: S, ω) := am_go hc rfl
theorem rr_land (hc : am_code m.1 pc = some (.land, 1)) : am_run m pc (L, .inr (.inl b) :: .inr (.inl a) :: S, ω) = am_run m (pc + 1) (L, .inr (.inl (am_land a b)) :: S, ω) := am_go hc rfl
theorem rr_lor (hc : am_code m.1 pc = some (.lor, 1)) : am_run m pc (L, .inr (.inl b) :: .inr (.inl a) :: S, ω) = am_run m (pc + 1) (L, .inr (.inl (am_lor a b)) :: S, ω) := am_go hc rfl
theorem rr_lshl (hc : am_code m.1 pc = some (.lshl, 1)) : am_run m pc (L, .inl b :: .inr (.inl a) :: S, ω) = am_run m (pc + 1) (L, .inr (.inl (am_lshl a b)) :: S, ω) := am_go hc rfl
theorem rr_lcmp (hc : am_code m.1 pc = some (.lcmp, 1)) : am_run m pc (L, .inr (.inl b) :: .inr (.inl a) :: S, ω) = am_run m (pc + 1) (L, .inl (am_cmp a b) :: S, ω) := am_go hc rfl
theorem rr_ineg (hc : am_code m.1 pc = some (.ineg, 1)) : am_run m pc (L, .inl a :: S, ω) = am_run m (pc + 1) (L, .inl (am_w (-a)) :: S, ω) := am_go hc rfl
theorem rr_i2l (hc : am_code m.1 pc = some (.i2l, 1)) : am_run m pc (L, .inl a :: S, ω) = am_run m (pc + 1) (L, .inr (.inl a) :: S, ω) := am_go hc rfl
theorem rr_l2i (hc : am_code m.1 pc = some (.l2i, 1)) : am_run m pc (L, .inr (.inl a) :: S, ω) = am_run m (pc + 1) (L, .inl (am_w a) :: S, ω) := am_go hc rfl
theorem rr_i2b (hc : am_code m.1 pc = some (.i2b, 1)) : am_run m pc (L, .inl a :: S, ω) = am_run m (pc + 1) (L, .inl (a.bmod 256) :: S, ω) := am_go hc rfl
theorem rr_i2s (hc : am_code m.1 pc = some (.i2s, 1)) : am_run m pc (L, .inl a :: S, ω) = am_run m (pc + 1) (L, .inl (a.bmod 65536) :: S, ω) := am_go hc rfl
theorem rr_dupi (hc : am_code m.1 pc = some (.dup, 1)) : am_run m pc (L, .inl a :: S, ω) = am_run m (pc + 1) (L, .inl a :: .inl a :: S, ω) := am_go hc rfl
theorem rr_dupr (hc : am_code m.1 pc = some (.dup, 1)) : am_run m pc (L, .inr (.inr r) :: S, ω) = am_run m (pc + 1) (L, .inr (.inr r) :: .inr (.inr r) :: S, ω) := am_go hc rfl
theorem rr_dup_x1 (hc : am_code m.1 pc = some (.dup_x1, 1)) : am_run m pc (L, .inl a :: .inr (.inr r) :: S, ω) = am_run m (pc + 1) (L, .inl a :: .inr (.inr r) :: .inl a :: S, ω) := am_go hc rfl
theorem rr_dup2 (hc : am_code m.1 pc = some (.dup2, 1)) : am_run m pc (L, .inl a :: .inr (.inr r) :: S, ω) = am_run m (pc + 1) (L, .inl a :: .inr (.inr r) :: .inl a :: .inr (.inr r) :: S, ω) := am_go hc rfl
theorem rr_popi (hc : am_code m.1 pc = some (.pop, 1)) : am_run m pc (L, .inl a :: S, ω) = am_run m (pc + 1) (L, S, ω) := am_go hc rfl
theorem rr_popr (hc : am_code m.1 pc = some (.pop, 1)) : am_run m pc (L, .inr (.inr r) :: S, ω) = am_run m (pc + 1) (L, S, ω) := am_go hc rfl
theorem rr_idiv (hc : am_code m.1 pc = some (.idiv, 1)) : am_run m pc (L, .inl (b) :: .inl (a) :: S, ω) = if b = 0 then none else am_run m (pc + 1) (L, .inl (am_w (a.tdiv b)) :: S, ω) := by
  by_cases h : b = 0
  · rw [if_pos h]
    exact am_stop hc (by show cond (decide (b = 0)) none _ = none; rw [decide_eq_true h]; rfl)
  · rw [if_neg h]
    exact am_go hc (by show cond (decide (b = 0)) none _ = _; rw [decide_eq_false h]; rfl)
theorem rr_irem (hc : am_code m.1 pc = some (.irem, 1)) : am_run m pc (L, .inl (b) :: .inl (a) :: S, ω) = if b = 0 then none else am_run m (pc + 1) (L, .inl (a.tmod b) :: S, ω) := by
  by_cases h : b = 0
  · rw [if_pos h]
    exact am_stop hc (by show cond (decide (b = 0)) none _ = none; rw [decide_eq_true h]; rfl)
  · rw [if_neg h]
    exact am_go hc (by show cond (decide (b = 0)) none _ = _; rw [decide_eq_false h]; rfl)
theorem rr_ldiv (hc : am_code m.1 pc = some (.ldiv, 1)) : am_run m pc (L, .inr (.inl (b)) :: .inr (.inl (a)) :: S, ω) = if b = 0 then none else am_run m (pc + 1) (L, .inr (.inl (am_wl (a.tdiv b))) :: S, ω) := by
  by_cases h : b = 0
  · rw [if_pos h]
    exact am_stop hc (by show cond (decide (b = 0)) none _ = none; rw [decide_eq_true h]; rfl)
  · rw [if_neg h]
    exact am_go hc (by show cond (decide (b = 0)) none _ = _; rw [decide_eq_false h]; rfl)
theorem rr_lrem (hc : am_code m.1 pc = some (.lrem, 1)) : am_run m pc (L, .inr (.inl (b)) :: .inr (.inl (a)) :: S, ω) = if b = 0 then none else am_run m (pc + 1) (L, .inr (.inl (a.tmod b)) :: S, ω) := by
  by_cases h : b = 0
  · rw [if_pos h]
    exact am_stop hc (by show cond (decide (b = 0)) none _ = none; rw [decide_eq_true h]; rfl)
  · rw [if_neg h]
    exact am_go hc (by show cond (decide (b = 0)) none _ = _; rw [decide_eq_false h]; rfl)
theorem rr_iload_n {k : Fin 4} (hc : am_code m.1 pc = some (.iload_n k, 1)) (hl : L[(k : Nat)]? = some (some (.inl z))) : am_run m pc (L, S, ω) = am_run m (pc + 1) (L, .inl z :: S, ω) := am_go hc (by show am_ldi L _ _ _ _ = _; unfold am_ldi; rw [hl]; rfl)
theorem rr_iload {k : Nat} (hc : am_code m.1 pc = some (.iload k, 2)) (hl : L[k]? = some (some (.inl z))) : am_run m pc (L, S, ω) = am_run m (pc + 2) (L, .inl z :: S, ω) := am_go hc (by show am_ldi L _ _ _ _ = _; unfold am_ldi; rw [hl]; rfl)
theorem rr_lload_n {k : Fin 4} (hc : am_code m.1 pc = some (.lload_n k, 1)) (hl : L[(k : Nat)]? = some (some (.inr (.inl z)))) : am_run m pc (L, S, ω) = am_run m (pc + 1) (L, .inr (.inl z) :: S, ω) := am_go hc (by show am_ldl L _ _ _ _ = _; unfold am_ldl; rw [hl]; rfl)
theorem rr_lload {k : Nat} (hc : am_code m.1 pc = some (.lload k, 2)) (hl : L[k]? = some (some (.inr (.inl z)))) : am_run m pc (L, S, ω) = am_run m (pc + 2) (L, .inr (.inl z) :: S, ω) := am_go hc (by show am_ldl L _ _ _ _ = _; unfold am_ldl; rw [hl]; rfl)
theorem rr_aload_n {k : Fin 4} (hc : am_code m.1 pc = some (.aload_n k, 1)) (hl : L[(k : Nat)]? = some (some (.inr (.inr z)))) : am_run m pc (L, S, ω) = am_run m (pc + 1) (L, .inr (.inr z) :: S, ω) := am_go hc (by show am_lda L _ _ _ _ = _; unfold am_lda; rw [hl]; rfl)
theorem rr_aload {k : Nat} (hc : am_code m.1 pc = some (.aload k, 2)) (hl : L[k]? = some (some (.inr (.inr z)))) : am_run m pc (L, S, ω) = am_run m (pc + 2) (L, .inr (.inr z) :: S, ω) := am_go hc (by show am_lda L _ _ _ _ = _; unfold am_lda; rw [hl]; rfl)
theorem rr_istore_n {k : Fin 4} (hc : am_code m.1 pc = some (.istore_n k, 1)) (hl : am_sto L (k : Nat) (.inl z) = some L') : am_run m pc (L, .inl z :: S, ω) = am_run m (pc + 1) (L', S, ω) := am_go hc (by show am_st1 (am_sto L _ _) _ _ _ = _; rw [hl]; rfl)
theorem rr_istore {k : Nat} (hc : am_code m.1 pc = some (.istore k, 2)) (hl : am_sto L k (.inl z) = some L') : am_run m pc (L, .inl z :: S, ω) = am_run m (pc + 2) (L', S, ω) := am_go hc (by show am_st1 (am_sto L _ _) _ _ _ = _; rw [hl]; rfl)
theorem rr_lstore_n {k : Fin 4} (hc : am_code m.1 pc = some (.lstore_n k, 1)) (hl : am_stl L (k : Nat) (.inr (.inl z)) = some L') : am_run m pc (L, .inr (.inl z) :: S, ω) = am_run m (pc + 1) (L', S, ω) := am_go hc (by show am_st1 (am_stl L _ _) _ _ _ = _; rw [hl]; rfl)
theorem rr_lstore {k : Nat} (hc : am_code m.1 pc = some (.lstore k, 2)) (hl : am_stl L k (.inr (.inl z)) = some L') : am_run m pc (L, .inr (.inl z) :: S, ω) = am_run m (pc + 2) (L', S, ω) := am_go hc (by show am_st1 (am_stl L _ _) _ _ _ = _; rw [hl]; rfl)
theorem rr_astore_n {k : Fin 4} (hc : am_code m.1 pc = some (.astore_n k, 1)) (hl : am_sto L (k : Nat) (.inr (.inr z)) = some L') : am_run m pc (L, .inr (.inr z) :: S, ω) = am_run m (pc + 1) (L', S, ω) := am_go hc (by show am_st1 (am_sto L _ _) _ _ _ = _; rw [hl]; rfl)
theorem rr_astore {k : Nat} (hc : am_code m.1 pc = some (.astore k, 2)) (hl : am_sto L k (.inr (.inr z)) = some L') : am_run m pc (L, .inr (.inr z) :: S, ω) = am_run m (pc + 2) (L', S, ω) := am_go hc (by show am_st1 (am_sto L _ _) _ _ _ = _; rw [hl]; rfl)
theorem rr_iinc {k : Nat} (hc : am_code m.1 pc = some (.iinc k n, 3)) (h0 : L[k]? = some (some (.inl z))) (hl : am_sto L k (.inl (am_w (z + n))) = some L') : am_run m pc (L, S, ω) = am_run m (pc + 3) (L', S, ω) := am_go hc (by
  show (match L[k]? with | some (some (.inl z)) => am_st1 (am_sto L k (.inl (am_w (z + n)))) (pc + 3) S ω | _ => none) = _
  rw [h0]
  show am_st1 (am_sto L k (.inl (am_w (z + n)))) (pc + 3) S ω = _
  rw [hl]; rfl)
theorem am_jp_eq (h : (pc : Int) + n = (t : Int)) : am_jp ((pc : Int) + n) L S ω = some (.inl (t, L, S, ω)) := by
  unfold am_jp
  rw [h, decide_eq_true (by omega), Int.toNat_natCast]
  rfl
theorem am_br_eq {cb : Bool} {pc2 : Nat} (h : (pc : Int) + n = (t : Int)) : am_br cb ((pc : Int) + n) pc2 L S ω = some (.inl (if cb = true then t else pc2, L, S, ω)) := by
  unfold am_br
  rw [h, decide_eq_true (by omega), Int.toNat_natCast]
  rfl
theorem rr_goto (hc : am_code m.1 pc = some (.goto n, 3)) (h : (pc : Int) + n = (t : Int)) : am_run m pc (L, S, ω) = am_run m t (L, S, ω) := am_go hc (am_jp_eq h)
theorem rr_ite {cb : Bool} {x y : Nat} {σ : am_S} : am_run m (if cb = true then x else y) σ = if cb = true then am_run m x σ else am_run m y σ := by
  cases cb <;> rfl
theorem rr_if_eq (hc : am_code m.1 pc = some (.ifCond .eq n, 3)) (h : (pc : Int) + n = (t : Int)) : am_run m pc (L, .inl a :: S, ω) = if a = 0 then am_run m t (L, S, ω) else am_run m (pc + 3) (L, S, ω) := by
  refine Eq.trans (am_go hc (am_br_eq (cb := am_cc .eq a 0) h)) (Eq.trans rr_ite ?_)
  by_cases q : a = 0
  · rw [if_pos q, if_pos (by simp only [am_cc]; exact decide_eq_true q)]
  · rw [if_neg q, if_neg (by simp only [am_cc]; intro w; exact q (of_decide_eq_true w))]
theorem rr_icmp_eq (hc : am_code m.1 pc = some (.if_icmp .eq n, 3)) (h : (pc : Int) + n = (t : Int)) : am_run m pc (L, .inl b :: .inl a :: S, ω) = if a = b then am_run m t (L, S, ω) else am_run m (pc + 3) (L, S, ω) := by
  refine Eq.trans (am_go hc (am_br_eq (cb := am_cc .eq a b) h)) (Eq.trans rr_ite ?_)
  by_cases q : a = b
  · rw [if_pos q, if_pos (by simp only [am_cc]; exact decide_eq_true q)]
  · rw [if_neg q, if_neg (by simp only [am_cc]; intro w; exact q (of_decide_eq_true w))]
theorem rr_if_ne (hc : am_code m.1 pc = some (.ifCond .ne n, 3)) (h : (pc : Int) + n = (t : Int)) : am_run m pc (L, .inl a :: S, ω) = if ¬ a = 0 then am_run m t (L, S, ω) else am_run m (pc + 3) (L, S, ω) := by
  refine Eq.trans (am_go hc (am_br_eq (cb := am_cc .ne a 0) h)) (Eq.trans rr_ite ?_)
  by_cases q : ¬ a = 0
  · rw [if_pos q, if_pos (by simp only [am_cc]; exact decide_eq_true q)]
  · rw [if_neg q, if_neg (by simp only [am_cc]; intro w; exact q (of_decide_eq_true w))]
theorem rr_icmp_ne (hc : am_code m.1 pc = some (.if_icmp .ne n, 3)) (h : (pc : Int) + n = (t : Int)) : am_run m pc (L, .inl b :: .inl a :: S, ω) = if ¬ a = b then am_run m t (L, S, ω) else am_run m (pc + 3) (L, S, ω) := by
  refine Eq.trans (am_go hc (am_br_eq (cb := am_cc .ne a b) h)) (Eq.trans rr_ite ?_)
  by_cases q : ¬ a = b
  · rw [if_pos q, if_pos (by simp only [am_cc]; exact decide_eq_true q)]
  · rw [if_neg q, if_neg (by simp only [am_cc]; intro w; exact q (of_decide_eq_true w))]
theorem rr_if_lt (hc : am_code m.1 pc = some (.ifCond .lt n, 3)) (h : (pc : Int) + n = (t : Int)) : am_run m pc (L, .inl a :: S, ω) = if a < 0 then am_run m t (L, S, ω) else am_run m (pc + 3) (L, S, ω) := by
  refine Eq.trans (am_go hc (am_br_eq (cb := am_cc .lt a 0) h)) (Eq.trans rr_ite ?_)
  by_cases q : a < 0
  · rw [if_pos q, if_pos (by simp only [am_cc]; exact decide_eq_true q)]
  · rw [if_neg q, if_neg (by simp only [am_cc]; intro w; exact q (of_decide_eq_true w))]
theorem rr_icmp_lt (hc : am_code m.1 pc = some (.if_icmp .lt n, 3)) (h : (pc : Int) + n = (t : Int)) : am_run m pc (L, .inl b :: .inl a :: S, ω) = if a < b then am_run m t (L, S, ω) else am_run m (pc + 3) (L, S, ω) := by
  refine Eq.trans (am_go hc (am_br_eq (cb := am_cc .lt a b) h)) (Eq.trans rr_ite ?_)
  by_cases q : a < b
  · rw [if_pos q, if_pos (by simp only [am_cc]; exact decide_eq_true q)]
  · rw [if_neg q, if_neg (by simp only [am_cc]; intro w; exact q (of_decide_eq_true w))]
theorem rr_if_ge (hc : am_code m.1 pc = some (.ifCond .ge n, 3)) (h : (pc : Int) + n = (t : Int)) : am_run m pc (L, .inl a :: S, ω) = if 0 ≤ a then am_run m t (L, S, ω) else am_run m (pc + 3) (L, S, ω) := by
  refine Eq.trans (am_go hc (am_br_eq (cb := am_cc .ge a 0) h)) (Eq.trans rr_ite ?_)
  by_cases q : 0 ≤ a
  · rw [if_pos q, if_pos (by simp only [am_cc]; exact decide_eq_true q)]
  · rw [if_neg q, if_neg (by simp only [am_cc]; intro w; exact q (of_decide_eq_true w))]
theorem rr_icmp_ge (hc : am_code m.1 pc = some (.if_icmp .ge n, 3)) (h : (pc : Int) + n = (t : Int)) : am_run m pc (L, .inl b :: .inl a :: S, ω) = if b ≤ a then am_run m t (L, S, ω) else am_run m (pc + 3) (L, S, ω) := by
  refine Eq.trans (am_go hc (am_br_eq (cb := am_cc .ge a b) h)) (Eq.trans rr_ite ?_)
  by_cases q : b ≤ a
  · rw [if_pos q, if_pos (by simp only [am_cc]; exact decide_eq_true q)]
  · rw [if_neg q, if_neg (by simp only [am_cc]; intro w; exact q (of_decide_eq_true w))]
theorem rr_if_gt (hc : am_code m.1 pc = some (.ifCond .gt n, 3)) (h : (pc : Int) + n = (t : Int)) : am_run m pc (L, .inl a :: S, ω) = if 0 < a then am_run m t (L, S, ω) else am_run m (pc + 3) (L, S, ω) := by
  refine Eq.trans (am_go hc (am_br_eq (cb := am_cc .gt a 0) h)) (Eq.trans rr_ite ?_)
  by_cases q : 0 < a
  · rw [if_pos q, if_pos (by simp only [am_cc]; exact decide_eq_true q)]
  · rw [if_neg q, if_neg (by simp only [am_cc]; intro w; exact q (of_decide_eq_true w))]
theorem rr_icmp_gt (hc : am_code m.1 pc = some (.if_icmp .gt n, 3)) (h : (pc : Int) + n = (t : Int)) : am_run m pc (L, .inl b :: .inl a :: S, ω) = if b < a then am_run m t (L, S, ω) else am_run m (pc + 3) (L, S, ω) := by
  refine Eq.trans (am_go hc (am_br_eq (cb := am_cc .gt a b) h)) (Eq.trans rr_ite ?_)
  by_cases q : b < a
  · rw [if_pos q, if_pos (by simp only [am_cc]; exact decide_eq_true q)]
  · rw [if_neg q, if_neg (by simp only [am_cc]; intro w; exact q (of_decide_eq_true w))]
theorem rr_if_le (hc : am_code m.1 pc = some (.ifCond .le n, 3)) (h : (pc : Int) + n = (t : Int)) : am_run m pc (L, .inl a :: S, ω) = if a ≤ 0 then am_run m t (L, S, ω) else am_run m (pc + 3) (L, S, ω) := by
  refine Eq.trans (am_go hc (am_br_eq (cb := am_cc .le a 0) h)) (Eq.trans rr_ite ?_)
  by_cases q : a ≤ 0
  · rw [if_pos q, if_pos (by simp only [am_cc]; exact decide_eq_true q)]
  · rw [if_neg q, if_neg (by simp only [am_cc]; intro w; exact q (of_decide_eq_true w))]
theorem rr_icmp_le (hc : am_code m.1 pc = some (.if_icmp .le n, 3)) (h : (pc : Int) + n = (t : Int)) : am_run m pc (L, .inl b :: .inl a :: S, ω) = if a ≤ b then am_run m t (L, S, ω) else am_run m (pc + 3) (L, S, ω) := by
  refine Eq.trans (am_go hc (am_br_eq (cb := am_cc .le a b) h)) (Eq.trans rr_ite ?_)
  by_cases q : a ≤ b
  · rw [if_pos q, if_pos (by simp only [am_cc]; exact decide_eq_true q)]
  · rw [if_neg q, if_neg (by simp only [am_cc]; intro w; exact q (of_decide_eq_true w))]
theorem rr_ifnonnull (hc : am_code m.1 pc = some (.ifnonnull n, 3)) (h : (pc : Int) + n = (t : Int)) : am_run m pc (L, .inr (.inr r) :: S, ω) = if r = -1 then am_run m (pc + 3) (L, S, ω) else am_run m t (L, S, ω) := by
  refine Eq.trans (am_go hc (am_br_eq (cb := decide (¬ r = -1)) h)) (Eq.trans rr_ite ?_)
  by_cases q : r = -1
  · rw [if_pos q, if_neg (by simp [q])]
  · rw [if_neg q, if_pos (by simp [q])]
theorem rr_tsw {d lo hi off : Int} {offs : Array Int} {len : Nat} (hc : am_code m.1 pc = some (.tableswitch d lo hi offs, len)) (ho : am_tsw d lo hi offs z = some off) (h : (pc : Int) + off = (t : Int)) : am_run m pc (L, .inl z :: S, ω) = am_run m t (L, S, ω) := am_go hc (by
  show (match am_tsw d lo hi offs z with | some off => am_jp ((pc : Int) + off) L S ω | none => none) = _
  rw [ho]
  exact am_jp_eq h)
theorem am_tsw_out {d lo hi : Int} {offs : Array Int} (h : z < lo ∨ hi < z) : am_tsw d lo hi offs z = some d := by
  unfold am_tsw
  rw [show (decide (z < lo) || decide (hi < z)) = true by simpa using h]
  rfl
theorem rr_getfield {i ci k w : Nat} (hc : am_code m.1 pc = some (.getfield i, 3)) (hp : am_lk (am_pf.get (am_own m.1)) i = some (ci, k, w)) (hi : am_is ω r (ci, am_nf ci) = true) : am_run m pc (L, .inr (.inr r) :: S, ω) = am_run m (pc + 3) (L, (match am_fk ci k with | 2 => .inr (.inr (am_get ω r.toNat k)) | _ => .inl (am_get ω r.toNat k)) :: S, ω) := am_go hc (by
  show am_getf _ _ _ _ _ _ = _
  unfold am_getf
  rw [hp]
  show cond (am_is ω r (ci, am_nf ci)) _ _ = _
  rw [hi]
  rfl)
theorem rr_getfield_no {i ci k w : Nat} (hc : am_code m.1 pc = some (.getfield i, 3)) (hp : am_lk (am_pf.get (am_own m.1)) i = some (ci, k, w)) (hi : am_is ω r (ci, am_nf ci) = false) : am_run m pc (L, .inr (.inr r) :: S, ω) = none := am_stop hc (by
  show am_getf _ _ _ _ _ _ = _
  unfold am_getf
  rw [hp]
  show cond (am_is ω r (ci, am_nf ci)) _ _ = _
  rw [hi]
  rfl)
theorem rr_putfieldi {i ci k w : Nat} (hc : am_code m.1 pc = some (.putfield i, 3)) (hp : am_lk (am_pf.get (am_own m.1)) i = some (ci, k, w)) (hf : (am_fin (am_own m.1) m.1 ci k && match am_fk ci k with | 0 => true | 1 => decide (z = 0) || decide (z = 1) | _ => false) = true) (hi : am_is ω r (ci, am_nf ci) = true) : am_run m pc (L, .inl z :: .inr (.inr r) :: S, ω) = am_run m (pc + 3) (L, S, am_put ω r.toNat k z) := am_go hc (by
  show am_putf _ _ _ _ _ _ _ = _
  unfold am_putf
  rw [hp]
  show cond (am_is ω r (ci, am_nf ci) && (am_fin (am_own m.1) m.1 ci k && match am_fk ci k with | 0 => true | 1 => decide (z = 0) || decide (z = 1) | _ => false)) _ _ = _
  rw [hi, hf]
  rfl)
theorem rr_putfieldi_no {i ci k w : Nat} (hc : am_code m.1 pc = some (.putfield i, 3)) (hp : am_lk (am_pf.get (am_own m.1)) i = some (ci, k, w)) (hi : am_is ω r (ci, am_nf ci) = false) : am_run m pc (L, .inl z :: .inr (.inr r) :: S, ω) = none := am_stop hc (by
  show am_putf _ _ _ _ _ _ _ = _
  unfold am_putf
  rw [hp]
  show cond (am_is ω r (ci, am_nf ci) && _) _ _ = _
  rw [hi]
  rfl)
theorem rr_putfieldr {i ci k w : Nat} (hc : am_code m.1 pc = some (.putfield i, 3)) (hp : am_lk (am_pf.get (am_own m.1)) i = some (ci, k, w)) (hf : (am_fin (am_own m.1) m.1 ci k && (Nat.beq (am_fk ci k) 2 && decide (-1 ≤ z))) = true) (hi : am_is ω r (ci, am_nf ci) = true) : am_run m pc (L, .inr (.inr z) :: .inr (.inr r) :: S, ω) = am_run m (pc + 3) (L, S, am_put ω r.toNat k z) := am_go hc (by
  show am_putf _ _ _ _ _ _ _ = _
  unfold am_putf
  rw [hp]
  show cond (am_is ω r (ci, am_nf ci) && _) _ _ = _
  rw [hi, hf]
  rfl)
theorem rr_iaload (hc : am_code m.1 pc = some (.iaload, 1)) (h0 : Nat.beq m.1 240 = false) (hi : am_in ω r 100 j = true) : am_run m pc (L, .inl j :: .inr (.inr r) :: S, ω) = am_run m (pc + 1) (L, .inl (am_get ω r.toNat j.toNat) :: S, ω) := am_go hc (by
  show cond (Nat.beq m.1 240 && decide (r = -2)) _ (cond (am_in ω r 100 j) _ _) = _
  rw [h0, hi]
  rfl)
theorem rr_iaload_no (hc : am_code m.1 pc = some (.iaload, 1)) (h0 : Nat.beq m.1 240 = false) (hi : am_in ω r 100 j = false) : am_run m pc (L, .inl j :: .inr (.inr r) :: S, ω) = none := am_stop hc (by
  show cond (Nat.beq m.1 240 && decide (r = -2)) _ (cond (am_in ω r 100 j) _ _) = _
  rw [h0, hi]
  rfl)
theorem rr_laload (hc : am_code m.1 pc = some (.laload, 1)) (hi : am_in ω r 101 j = true) : am_run m pc (L, .inl j :: .inr (.inr r) :: S, ω) = am_run m (pc + 1) (L, .inr (.inl (am_get ω r.toNat j.toNat)) :: S, ω) := am_go hc (by
  show cond (am_in ω r 101 j) _ _ = _
  rw [hi]
  rfl)
theorem rr_laload_no (hc : am_code m.1 pc = some (.laload, 1)) (hi : am_in ω r 101 j = false) : am_run m pc (L, .inl j :: .inr (.inr r) :: S, ω) = none := am_stop hc (by
  show cond (am_in ω r 101 j) _ _ = _
  rw [hi]
  rfl)
def am_ina (ω : am_W) (r j : Int) : Bool := am_in ω r 102 j || (am_in ω r 103 j || am_in ω r 104 j)
theorem rr_aaload (hc : am_code m.1 pc = some (.aaload, 1)) (hi : am_ina ω r j = true) : am_run m pc (L, .inl j :: .inr (.inr r) :: S, ω) = am_run m (pc + 1) (L, .inr (.inr (am_get ω r.toNat j.toNat)) :: S, ω) := am_go hc (by
  show cond (am_ina ω r j) _ _ = _
  rw [hi]
  rfl)
theorem rr_aaload_no (hc : am_code m.1 pc = some (.aaload, 1)) (hi : am_ina ω r j = false) : am_run m pc (L, .inl j :: .inr (.inr r) :: S, ω) = none := am_stop hc (by
  show cond (am_ina ω r j) _ _ = _
  rw [hi]
  rfl)
theorem rr_iastore (hc : am_code m.1 pc = some (.iastore, 1)) (hi : am_in ω r 100 j = true) : am_run m pc (L, .inl z :: .inl j :: .inr (.inr r) :: S, ω) = am_run m (pc + 1) (L, S, am_put ω r.toNat j.toNat z) := am_go hc (by
  show cond (am_in ω r 100 j) _ _ = _
  rw [hi]
  rfl)
theorem rr_iastore_no (hc : am_code m.1 pc = some (.iastore, 1)) (hi : am_in ω r 100 j = false) : am_run m pc (L, .inl z :: .inl j :: .inr (.inr r) :: S, ω) = none := am_stop hc (by
  show cond (am_in ω r 100 j) _ _ = _
  rw [hi]
  rfl)
theorem rr_lastore (hc : am_code m.1 pc = some (.lastore, 1)) (hi : am_in ω r 101 j = true) : am_run m pc (L, .inr (.inl z) :: .inl j :: .inr (.inr r) :: S, ω) = am_run m (pc + 1) (L, S, am_put ω r.toNat j.toNat z) := am_go hc (by
  show cond (am_in ω r 101 j) _ _ = _
  rw [hi]
  rfl)
theorem rr_lastore_no (hc : am_code m.1 pc = some (.lastore, 1)) (hi : am_in ω r 101 j = false) : am_run m pc (L, .inr (.inl z) :: .inl j :: .inr (.inr r) :: S, ω) = none := am_stop hc (by
  show cond (am_in ω r 101 j) _ _ = _
  rw [hi]
  rfl)
def am_sta2 (ω : am_W) (r j z : Int) : Bool := (am_in ω r 102 j && am_is ω z (4, 5)) || (am_in ω r 103 j && am_is ω z (2, 3))
theorem rr_aastore (hc : am_code m.1 pc = some (.aastore, 1)) (hi : am_sta2 ω r j z = true) : am_run m pc (L, .inr (.inr z) :: .inl j :: .inr (.inr r) :: S, ω) = am_run m (pc + 1) (L, S, am_put ω r.toNat j.toNat z) := am_go hc (by
  show cond (am_sta2 ω r j z) _ _ = _
  rw [hi]
  rfl)
theorem rr_aastore_no (hc : am_code m.1 pc = some (.aastore, 1)) (hi : am_sta2 ω r j z = false) : am_run m pc (L, .inr (.inr z) :: .inl j :: .inr (.inr r) :: S, ω) = none := am_stop hc (by
  show cond (am_sta2 ω r j z) _ _ = _
  rw [hi]
  rfl)
def am_arl (ω : am_W) (r : Int) : Bool := am_ar ω r 100 || am_ar ω r 101
theorem rr_arraylength (hc : am_code m.1 pc = some (.arraylength, 1)) (h0 : Nat.beq m.1 240 = false) (hi : am_arl ω r = true) : am_run m pc (L, .inr (.inr r) :: S, ω) = am_run m (pc + 1) (L, .inl (am_len ω r) :: S, ω) := am_go hc (by
  show cond (Nat.beq m.1 240 && decide (r = -2)) _ (cond (am_arl ω r) _ _) = _
  rw [h0, hi]
  rfl)
theorem rr_arraylength_no (hc : am_code m.1 pc = some (.arraylength, 1)) (h0 : Nat.beq m.1 240 = false) (hi : am_arl ω r = false) : am_run m pc (L, .inr (.inr r) :: S, ω) = none := am_stop hc (by
  show cond (Nat.beq m.1 240 && decide (r = -2)) _ (cond (am_arl ω r) _ _) = _
  rw [h0, hi]
  rfl)
theorem rr_getfi {i ci k w : Nat} (hc : am_code m.1 pc = some (.getfield i, 3)) (hp : am_lk (am_pf.get (am_own m.1)) i = some (ci, k, w)) (hk : Nat.beq (am_fk ci k) 2 = false) (hi : am_is ω r (ci, am_nf ci) = true) : am_run m pc (L, .inr (.inr r) :: S, ω) = am_run m (pc + 3) (L, .inl (am_get ω r.toNat k) :: S, ω) := by
  rw [rr_getfield hc hp hi]
  split
  · rename_i h; rw [h] at hk; cases hk
  · rfl
theorem rr_getfr {i ci k w : Nat} (hc : am_code m.1 pc = some (.getfield i, 3)) (hp : am_lk (am_pf.get (am_own m.1)) i = some (ci, k, w)) (hk : Nat.beq (am_fk ci k) 2 = true) (hi : am_is ω r (ci, am_nf ci) = true) : am_run m pc (L, .inr (.inr r) :: S, ω) = am_run m (pc + 3) (L, .inr (.inr (am_get ω r.toNat k)) :: S, ω) := by
  rw [rr_getfield hc hp hi]
  split
  · rfl
  · rename_i h; exact absurd (Nat.eq_of_beq_eq_true hk) h
theorem rr_scrlen (hc : am_code m.1 pc = some (.arraylength, 1)) (h0 : Nat.beq m.1 240 = true) : am_run m pc (L, .inr (.inr (-2)) :: S, ω) = am_run m (pc + 1) (L, .inl (ω.2.2.1 : Int) :: S, ω) := am_go hc (by
  show cond (Nat.beq m.1 240 && decide ((-2 : Int) = -2)) _ _ = _
  rw [h0]
  rfl)
theorem rr_scrload (hc : am_code m.1 pc = some (.iaload, 1)) (h0 : Nat.beq m.1 240 = true) (h : (decide (0 ≤ j) && decide (j < (ω.2.2.1 : Int))) = true) : am_run m pc (L, .inl j :: .inr (.inr (-2)) :: S, ω) = am_run m (pc + 1) (L, .inl (ω.2.2.2 j.toNat) :: S, ω) := am_go hc (by
  show cond (Nat.beq m.1 240 && decide ((-2 : Int) = -2)) (cond (decide (0 ≤ j) && decide (j < (ω.2.2.1 : Int))) _ _) _ = _
  rw [h0, h]
  rfl)
theorem rr_ldc {i w : Nat} (hc : am_code m.1 pc = some (.ldc i, 2)) (hp : am_lk (am_pc.get (am_own m.1)) i = some (z, w)) : am_run m pc (L, S, ω) = am_run m (pc + 2) (L, .inl z :: S, ω) := am_go hc (by
  show (match am_lk (am_pc.get (am_own m.1)) i, am_lk (am_ps.get (am_own m.1)) i with | some (z, _), _ => am_nx (pc + 2) L (.inl z :: S) ω | none, some (k, _) => am_nx (pc + 2) L (.inr (.inr (-3 - (k : Int))) :: S) ω | none, none => none) = _
  rw [hp]
  rfl)
theorem rr_ldcS {i k w : Nat} (hc : am_code m.1 pc = some (.ldc i, 2)) (h0 : am_lk (am_pc.get (am_own m.1)) i = none) (hp : am_lk (am_ps.get (am_own m.1)) i = some (k, w)) : am_run m pc (L, S, ω) = am_run m (pc + 2) (L, .inr (.inr (-3 - (k : Int))) :: S, ω) := am_go hc (by
  show (match am_lk (am_pc.get (am_own m.1)) i, am_lk (am_ps.get (am_own m.1)) i with | some (z, _), _ => am_nx (pc + 2) L (.inl z :: S) ω | none, some (k, _) => am_nx (pc + 2) L (.inr (.inr (-3 - (k : Int))) :: S) ω | none, none => none) = _
  rw [h0, hp]
  rfl)
theorem rr_ldc_w {i w : Nat} (hc : am_code m.1 pc = some (.ldc_w i, 3)) (hp : am_lk (am_pc.get (am_own m.1)) i = some (z, w)) : am_run m pc (L, S, ω) = am_run m (pc + 3) (L, .inl z :: S, ω) := am_go hc (by
  show (match am_lk (am_pc.get (am_own m.1)) i with | some (z, _) => am_nx (pc + 3) L (.inl z :: S) ω | none => none) = _
  rw [hp]
  rfl)
theorem rr_ldc2 {i w : Nat} (hc : am_code m.1 pc = some (.ldc2_w i, 3)) (hp : am_lk (am_pl.get (am_own m.1)) i = some (z, w)) : am_run m pc (L, S, ω) = am_run m (pc + 3) (L, .inr (.inl z) :: S, ω) := am_go hc (by
  show (match am_lk (am_pl.get (am_own m.1)) i with | some (z, _) => am_nx (pc + 3) L (.inr (.inl z) :: S) ω | none => none) = _
  rw [hp]
  rfl)
theorem rr_new {i ci w : Nat} (hc : am_code m.1 pc = some (.new i, 3)) (hp : am_lk (am_pn.get (am_own m.1)) i = some (ci, w)) (h : decide (ci < 8) = true) : am_run m pc (L, S, ω) = am_run m (pc + 3) (L, .inr (.inr (ω.1.length : Int)) :: S, am_new ω (ci, am_nf ci) (am_d0 ci)) := am_go hc (by
  show (match am_lk (am_pn.get (am_own m.1)) i with | some (ci, _) => cond (decide (ci < 8)) (am_nx (pc + 3) L (.inr (.inr (ω.1.length : Int)) :: S) (am_new ω (ci, am_nf ci) (am_d0 ci))) none | none => none) = _
  rw [hp]
  show cond (decide (ci < 8)) _ _ = _
  rw [h]
  rfl)
theorem rr_newarrayI (hc : am_code m.1 pc = some (.newarray .int, 2)) (h : (decide (0 ≤ n) && decide (n ≤ 100000)) = true) : am_run m pc (L, .inl n :: S, ω) = am_run m (pc + 2) (L, .inr (.inr (ω.1.length : Int)) :: S, am_new ω (100, n.toNat) (fun _ => 0)) := am_go hc (by
  show cond (decide (0 ≤ n) && decide (n ≤ 100000)) _ _ = _
  rw [h]
  rfl)
theorem rr_newarrayL (hc : am_code m.1 pc = some (.newarray .long, 2)) (h : (decide (0 ≤ n) && decide (n ≤ 100000)) = true) : am_run m pc (L, .inl n :: S, ω) = am_run m (pc + 2) (L, .inr (.inr (ω.1.length : Int)) :: S, am_new ω (101, n.toNat) (fun _ => 0)) := am_go hc (by
  show cond (decide (0 ≤ n) && decide (n ≤ 100000)) _ _ = _
  rw [h]
  rfl)
theorem rr_anewarrayV {i w : Nat} (hc : am_code m.1 pc = some (.anewarray i, 3)) (hp : am_lk (am_pn.get (am_own m.1)) i = some (4, w)) (h : (decide (0 ≤ n) && decide (n ≤ 100000)) = true) : am_run m pc (L, .inl n :: S, ω) = am_run m (pc + 3) (L, .inr (.inr (ω.1.length : Int)) :: S, am_new ω (102, n.toNat) (fun _ => -1)) := am_go hc (by
  show (match am_lk (am_pn.get (am_own m.1)) i, (.inl n :: S : List am_V) with | some (ci, _), .inl n :: S => cond (decide (0 ≤ n) && decide (n ≤ 100000)) (match ci with | 4 => am_nx (pc + 3) L (.inr (.inr (ω.1.length : Int)) :: S) (am_new ω (102, n.toNat) (fun _ => -1)) | 2 => am_nx (pc + 3) L (.inr (.inr (ω.1.length : Int)) :: S) (am_new ω (103, n.toNat) (fun _ => -1)) | _ => none) none | _, _ => none) = _
  rw [hp]
  show cond (decide (0 ≤ n) && decide (n ≤ 100000)) _ _ = _
  rw [h]
  rfl)
theorem rr_anewarrayS {i w : Nat} (hc : am_code m.1 pc = some (.anewarray i, 3)) (hp : am_lk (am_pn.get (am_own m.1)) i = some (2, w)) (h : (decide (0 ≤ n) && decide (n ≤ 100000)) = true) : am_run m pc (L, .inl n :: S, ω) = am_run m (pc + 3) (L, .inr (.inr (ω.1.length : Int)) :: S, am_new ω (103, n.toNat) (fun _ => -1)) := am_go hc (by
  show (match am_lk (am_pn.get (am_own m.1)) i, (.inl n :: S : List am_V) with | some (ci, _), .inl n :: S => cond (decide (0 ≤ n) && decide (n ≤ 100000)) (match ci with | 4 => am_nx (pc + 3) L (.inr (.inr (ω.1.length : Int)) :: S) (am_new ω (102, n.toNat) (fun _ => -1)) | 2 => am_nx (pc + 3) L (.inr (.inr (ω.1.length : Int)) :: S) (am_new ω (103, n.toNat) (fun _ => -1)) | _ => none) none | _, _ => none) = _
  rw [hp]
  show cond (decide (0 ≤ n) && decide (n ≤ 100000)) _ _ = _
  rw [h]
  rfl)
theorem rr_multianewarray {i w : Nat} {k : Int} (hc : am_code m.1 pc = some (.multianewarray i 2, 4)) (hp : am_lk (am_pn.get (am_own m.1)) i = some (104, w)) (h : (decide (0 ≤ n) && (decide (n ≤ 1000) && (decide (0 ≤ k) && decide (k ≤ 100000)))) = true) : am_run m pc (L, .inl k :: .inl n :: S, ω) = am_run m (pc + 4) (L, .inr (.inr (ω.1.length : Int)) :: S, am_newg ω n.toNat k.toNat) := am_go hc (by
  show (match am_lk (am_pn.get (am_own m.1)) i, (.inl k :: .inl n :: S : List am_V) with | some (104, _), .inl k :: .inl n :: S => cond (Nat.beq 2 2 && (decide (0 ≤ n) && (decide (n ≤ 1000) && (decide (0 ≤ k) && decide (k ≤ 100000))))) (am_nx (pc + 4) L (.inr (.inr (ω.1.length : Int)) :: S) (am_newg ω n.toNat k.toNat)) none | _, _ => none) = _
  rw [hp]
  show cond (Nat.beq 2 2 && (decide (0 ≤ n) && (decide (n ≤ 1000) && (decide (0 ≤ k) && decide (k ≤ 100000))))) _ _ = _
  rw [h]
  rfl)
theorem rr_ireturn (hc : am_code m.1 pc = some (.ireturn, 1)) (h : am_nar (am_rt m.1) z = true) : am_run m pc (L, [.inl z], ω) = some (some (.inl z), ω) := am_ret hc (by
  show cond (am_nar (am_rt m.1) z) _ _ = _
  rw [h]
  rfl)
theorem rr_ireturn_no (hc : am_code m.1 pc = some (.ireturn, 1)) (h : am_nar (am_rt m.1) z = false) : am_run m pc (L, [.inl z], ω) = none := am_stop hc (by
  show cond (am_nar (am_rt m.1) z) _ _ = _
  rw [h]
  rfl)
theorem rr_lreturn (hc : am_code m.1 pc = some (.lreturn, 1)) (h : Nat.beq (am_rt m.1) 2 = true) : am_run m pc (L, [.inr (.inl z)], ω) = some (some (.inr (.inl z)), ω) := am_ret hc (by
  show cond (Nat.beq (am_rt m.1) 2) _ _ = _
  rw [h]
  rfl)
theorem rr_areturn (hc : am_code m.1 pc = some (.areturn, 1)) (h : Nat.beq (am_rt m.1) 3 = true) (hi : am_is ω z (1, 15) = true) : am_run m pc (L, [.inr (.inr z)], ω) = some (some (.inr (.inr z)), ω) := am_ret hc (by
  show cond (Nat.beq (am_rt m.1) 3 && am_is ω z (1, 15)) _ _ = _
  rw [h, hi]
  rfl)
theorem rr_areturn_no (hc : am_code m.1 pc = some (.areturn, 1)) (hi : am_is ω z (1, 15) = false) : am_run m pc (L, [.inr (.inr z)], ω) = none := am_stop hc (by
  show cond (Nat.beq (am_rt m.1) 3 && am_is ω z (1, 15)) _ _ = _
  rw [hi, Bool.and_false]
  rfl)
theorem rr_return (hc : am_code m.1 pc = some (.return_, 1)) (h : Nat.beq (am_rt m.1) 0 = true) : am_run m pc (L, [], ω) = some (none, ω) := am_ret hc (by
  show cond (Nat.beq (am_rt m.1) 0) _ _ = _
  rw [h]
  rfl)
theorem rr_objInit {i b na rk : Nat} {w : Nat × Nat × Nat × Nat} (hc : am_code m.1 pc = some (.invokespecial i, 3)) (hp : am_lk (am_pm.get (am_own m.1)) i = some (6, b, na, rk, w)) (h : Nat.ble 1 (am_rk m) = true) (hr : decide (0 ≤ r) = true) (hw : decide (am_words S ≤ 8) = true) : am_run m pc (L, .inr (.inr r) :: S, ω) = am_run m (pc + 3) (L, S, ω) := am_go hc (by
  show am_inv 2 m i (pc + 3) L (.inr (.inr r) :: S) ω = _
  unfold am_inv
  rw [hp]
  show cond (Nat.ble 1 (am_rk m) && (decide (0 ≤ r) && decide (am_words S ≤ 8))) _ _ = _
  rw [h, hr, hw]
  rfl)
def am_cpok (ω : am_W) (r0 sp r1 dp n : Int) : Bool := ((am_ar ω r0 100 && am_ar ω r1 100) || (am_ar ω r0 101 && am_ar ω r1 101)) && (decide (0 ≤ sp) && (decide (0 ≤ dp) && (decide (0 ≤ n) && (decide (sp + n ≤ am_len ω r0) && decide (dp + n ≤ am_len ω r1)))))
theorem rr_acpy {i b na rk : Nat} {w : Nat × Nat × Nat × Nat} {dp sp r0 r1 : Int} (hc : am_code m.1 pc = some (.invokestatic i, 3)) (hp : am_lk (am_pm.get (am_own m.1)) i = some (7, b, na, rk, w)) (h : Nat.ble 1 (am_rk m) = true) (hw : decide (am_words S ≤ 8) = true) (hk : am_cpok ω r0 sp r1 dp n = true) : am_run m pc (L, .inl n :: .inl dp :: .inr (.inr r1) :: .inl sp :: .inr (.inr r0) :: S, ω) = am_run m (pc + 3) (L, S, am_cpy ω r0.toNat sp.toNat r1.toNat dp.toNat n.toNat) := am_go hc (by
  show am_inv 1 m i (pc + 3) L _ ω = _
  unfold am_inv
  rw [hp]
  show cond (Nat.ble 1 (am_rk m) && (decide (am_words S ≤ 8) && am_cpok ω r0 sp r1 dp n)) _ _ = _
  rw [h, hw, hk]
  rfl)
theorem rr_acpy_no {i b na rk : Nat} {w : Nat × Nat × Nat × Nat} {dp sp r0 r1 : Int} (hc : am_code m.1 pc = some (.invokestatic i, 3)) (hp : am_lk (am_pm.get (am_own m.1)) i = some (7, b, na, rk, w)) (h : Nat.ble 1 (am_rk m) = true) (hw : decide (am_words S ≤ 8) = true) (hk : am_cpok ω r0 sp r1 dp n = false) : am_run m pc (L, .inl n :: .inl dp :: .inr (.inr r1) :: .inl sp :: .inr (.inr r0) :: S, ω) = none := am_stop hc (by
  show am_inv 1 m i (pc + 3) L _ ω = _
  unfold am_inv
  rw [hp]
  show cond (Nat.ble 1 (am_rk m) && (decide (am_words S ≤ 8) && am_cpok ω r0 sp r1 dp n)) _ _ = _
  rw [h, hw, hk]
  rfl)
def am_txok (r : Int) : Bool := decide (r ≤ -3) && decide (-9 < r)
theorem rr_slen {i b na rk : Nat} {w : Nat × Nat × Nat × Nat} (hc : am_code m.1 pc = some (.invokevirtual i, 3)) (hp : am_lk (am_pm.get (am_own m.1)) i = some (8, b, na, rk, w)) (h : Nat.ble 4 (am_rk m) = true) (hw : decide (am_words S ≤ 8) = true) (hk : am_txok r = true) : am_run m pc (L, .inr (.inr r) :: S, ω) = am_run m (pc + 3) (L, .inl (((am_texts.getD (-3 - r).toNat []).length : Nat) : Int) :: S, ω) := am_go hc (by
  show am_inv 0 m i (pc + 3) L _ ω = _
  unfold am_inv
  rw [hp]
  show cond (Nat.ble 4 (am_rk m) && (decide (am_words S ≤ 8) && am_txok r)) _ _ = _
  rw [h, hw, hk]
  rfl)
theorem rr_slen_no {i b na rk : Nat} {w : Nat × Nat × Nat × Nat} (hc : am_code m.1 pc = some (.invokevirtual i, 3)) (hp : am_lk (am_pm.get (am_own m.1)) i = some (8, b, na, rk, w)) (h : Nat.ble 4 (am_rk m) = true) (hw : decide (am_words S ≤ 8) = true) (hk : am_txok r = false) : am_run m pc (L, .inr (.inr r) :: S, ω) = none := am_stop hc (by
  show am_inv 0 m i (pc + 3) L _ ω = _
  unfold am_inv
  rw [hp]
  show cond (Nat.ble 4 (am_rk m) && (decide (am_words S ≤ 8) && am_txok r)) _ _ = _
  rw [h, hw, hk]
  rfl)
def am_chok (r j : Int) : Bool := decide (r ≤ -3) && (decide (-9 < r) && (decide (0 ≤ j) && decide (j < (((am_texts.getD (-3 - r).toNat []).length : Nat) : Int))))
theorem rr_schr {i b na rk : Nat} {w : Nat × Nat × Nat × Nat} (hc : am_code m.1 pc = some (.invokevirtual i, 3)) (hp : am_lk (am_pm.get (am_own m.1)) i = some (9, b, na, rk, w)) (h : Nat.ble 4 (am_rk m) = true) (hw : decide (am_words S ≤ 8) = true) (hk : am_chok r j = true) : am_run m pc (L, .inl j :: .inr (.inr r) :: S, ω) = am_run m (pc + 3) (L, .inl ((am_texts.getD (-3 - r).toNat []).getD j.toNat 0) :: S, ω) := am_go hc (by
  show am_inv 0 m i (pc + 3) L _ ω = _
  unfold am_inv
  rw [hp]
  show cond (Nat.ble 4 (am_rk m) && (decide (am_words S ≤ 8) && am_chok r j)) _ _ = _
  rw [h, hw, hk]
  rfl)
theorem rr_schr_no {i b na rk : Nat} {w : Nat × Nat × Nat × Nat} (hc : am_code m.1 pc = some (.invokevirtual i, 3)) (hp : am_lk (am_pm.get (am_own m.1)) i = some (9, b, na, rk, w)) (h : Nat.ble 4 (am_rk m) = true) (hw : decide (am_words S ≤ 8) = true) (hk : am_chok r j = false) : am_run m pc (L, .inl j :: .inr (.inr r) :: S, ω) = none := am_stop hc (by
  show am_inv 0 m i (pc + 3) L _ ω = _
  unfold am_inv
  rw [hp]
  show cond (Nat.ble 4 (am_rk m) && (decide (am_words S ≤ 8) && am_chok r j)) _ _ = _
  rw [h, hw, hk]
  rfl)
theorem rr_invV0 {i b na rk : Nat} {w : Nat × Nat × Nat × Nat} {as : List am_V} {m' : am_M} (hc : am_code m.1 pc = some (.invokevirtual i, 3)) (hp : am_lk (am_pm.get (am_own m.1)) i = some (0, b, na, rk, w)) (ha : am_args na S = some (.inr (.inr r) :: as, S')) (hl : am_lv m b = some m') (hk : (Nat.ble (am_rk m' + 1) (am_rk m) && Nat.ble (am_spread (.inr (.inr r) :: as)).length (am_max b)) = true) (he : am_ent m'.1 (.inr (.inr r) :: as) = L') (hi : am_is ω r (am_own b, am_nf (am_own b)) = true) : am_run m pc (L, S, ω) = (am_run m' 0 (L', [], ω)).bind (fun q => (am_push rk q.1 S').bind (fun S1 => am_run m (pc + 3) (L, S1, q.2))) := by
  subst he
  refine am_goc hc ?_
  show am_inv 0 m i (pc + 3) L S ω = _
  unfold am_inv
  rw [hp]
  show am_call m b na rk (pc + 3) true L S ω = _
  unfold am_call
  rw [ha, hl]
  show cond ((!true || am_is ω r (am_own b, am_nf (am_own b))) && (Nat.ble (am_rk m' + 1) (am_rk m) && Nat.ble (am_spread (.inr (.inr r) :: as)).length (am_max b))) _ _ = _
  rw [hk, hi]
  rfl
theorem rr_invV0_no {i b na rk : Nat} {w : Nat × Nat × Nat × Nat} {as : List am_V} {m' : am_M} (hc : am_code m.1 pc = some (.invokevirtual i, 3)) (hp : am_lk (am_pm.get (am_own m.1)) i = some (0, b, na, rk, w)) (ha : am_args na S = some (.inr (.inr r) :: as, S')) (hl : am_lv m b = some m') (hk : (Nat.ble (am_rk m' + 1) (am_rk m) && Nat.ble (am_spread (.inr (.inr r) :: as)).length (am_max b)) = true) (he : am_ent m'.1 (.inr (.inr r) :: as) = L') (hi : am_is ω r (am_own b, am_nf (am_own b)) = false) : am_run m pc (L, S, ω) = none := by
  subst he
  refine am_stop hc ?_
  show am_inv 0 m i (pc + 3) L S ω = _
  unfold am_inv
  rw [hp]
  show am_call m b na rk (pc + 3) true L S ω = _
  unfold am_call
  rw [ha, hl]
  show cond ((!true || am_is ω r (am_own b, am_nf (am_own b))) && (Nat.ble (am_rk m' + 1) (am_rk m) && Nat.ble (am_spread (.inr (.inr r) :: as)).length (am_max b))) _ _ = _
  rw [hk, hi]
  rfl
theorem rr_invS2 {i b na rk : Nat} {w : Nat × Nat × Nat × Nat} {as : List am_V} {m' : am_M} (hc : am_code m.1 pc = some (.invokestatic i, 3)) (hp : am_lk (am_pm.get (am_own m.1)) i = some (2, b, na, rk, w)) (ha : am_args na S = some (as, S')) (hl : am_lv m b = some m') (hk : (Nat.ble (am_rk m' + 1) (am_rk m) && Nat.ble (am_spread (as)).length (am_max b)) = true) (he : am_ent m'.1 (as) = L') : am_run m pc (L, S, ω) = (am_run m' 0 (L', [], ω)).bind (fun q => (am_push rk q.1 S').bind (fun S1 => am_run m (pc + 3) (L, S1, q.2))) := by
  subst he
  refine am_goc hc ?_
  show am_inv 1 m i (pc + 3) L S ω = _
  unfold am_inv
  rw [hp]
  show am_call m b na rk (pc + 3) false L S ω = _
  unfold am_call
  rw [ha, hl]
  show cond ((!false || _) && (Nat.ble (am_rk m' + 1) (am_rk m) && Nat.ble (am_spread (as)).length (am_max b))) _ _ = _
  rw [hk]
  rfl
theorem rr_invS3 {i b na rk : Nat} {w : Nat × Nat × Nat × Nat} {as : List am_V} {m' : am_M} (hc : am_code m.1 pc = some (.invokestatic i, 3)) (hp : am_lk (am_pm.get (am_own m.1)) i = some (3, b, na, rk, w)) (ha : am_args na S = some (as, S')) (hl : am_lv m b = some m') (hk : (Nat.ble (am_rk m' + 1) (am_rk m) && Nat.ble (am_spread (as)).length (am_max b)) = true) (he : am_ent m'.1 (as) = L') : am_run m pc (L, S, ω) = (am_run m' 0 (L', [], ω)).bind (fun q => (am_push rk q.1 S').bind (fun S1 => am_run m (pc + 3) (L, S1, q.2))) := by
  subst he
  refine am_goc hc ?_
  show am_inv 1 m i (pc + 3) L S ω = _
  unfold am_inv
  rw [hp]
  show am_call m b na rk (pc + 3) false L S ω = _
  unfold am_call
  rw [ha, hl]
  show cond ((!false || _) && (Nat.ble (am_rk m' + 1) (am_rk m) && Nat.ble (am_spread (as)).length (am_max b))) _ _ = _
  rw [hk]
  rfl
theorem rr_invI4 {i b na rk : Nat} {w : Nat × Nat × Nat × Nat} {as : List am_V} {m' : am_M} (hc : am_code m.1 pc = some (.invokespecial i, 3)) (hp : am_lk (am_pm.get (am_own m.1)) i = some (4, b, na, rk, w)) (ha : am_args na S = some (.inr (.inr r) :: as, S')) (hl : am_lv m b = some m') (hk : (Nat.ble (am_rk m' + 1) (am_rk m) && Nat.ble (am_spread (.inr (.inr r) :: as)).length (am_max b)) = true) (he : am_ent m'.1 (.inr (.inr r) :: as) = L') (hi : am_is ω r (am_own b, am_nf (am_own b)) = true) : am_run m pc (L, S, ω) = (am_run m' 0 (L', [], ω)).bind (fun q => (am_push rk q.1 S').bind (fun S1 => am_run m (pc + 3) (L, S1, q.2))) := by
  subst he
  refine am_goc hc ?_
  show am_inv 2 m i (pc + 3) L S ω = _
  unfold am_inv
  rw [hp]
  show am_call m b na rk (pc + 3) true L S ω = _
  unfold am_call
  rw [ha, hl]
  show cond ((!true || am_is ω r (am_own b, am_nf (am_own b))) && (Nat.ble (am_rk m' + 1) (am_rk m) && Nat.ble (am_spread (.inr (.inr r) :: as)).length (am_max b))) _ _ = _
  rw [hk, hi]
  rfl
theorem rr_invI4_no {i b na rk : Nat} {w : Nat × Nat × Nat × Nat} {as : List am_V} {m' : am_M} (hc : am_code m.1 pc = some (.invokespecial i, 3)) (hp : am_lk (am_pm.get (am_own m.1)) i = some (4, b, na, rk, w)) (ha : am_args na S = some (.inr (.inr r) :: as, S')) (hl : am_lv m b = some m') (hk : (Nat.ble (am_rk m' + 1) (am_rk m) && Nat.ble (am_spread (.inr (.inr r) :: as)).length (am_max b)) = true) (he : am_ent m'.1 (.inr (.inr r) :: as) = L') (hi : am_is ω r (am_own b, am_nf (am_own b)) = false) : am_run m pc (L, S, ω) = none := by
  subst he
  refine am_stop hc ?_
  show am_inv 2 m i (pc + 3) L S ω = _
  unfold am_inv
  rw [hp]
  show am_call m b na rk (pc + 3) true L S ω = _
  unfold am_call
  rw [ha, hl]
  show cond ((!true || am_is ω r (am_own b, am_nf (am_own b))) && (Nat.ble (am_rk m' + 1) (am_rk m) && Nat.ble (am_spread (.inr (.inr r) :: as)).length (am_max b))) _ _ = _
  rw [hk, hi]
  rfl
theorem rr_invI5 {i b na rk : Nat} {w : Nat × Nat × Nat × Nat} {as : List am_V} {m' : am_M} (hc : am_code m.1 pc = some (.invokespecial i, 3)) (hp : am_lk (am_pm.get (am_own m.1)) i = some (5, b, na, rk, w)) (ha : am_args na S = some (.inr (.inr r) :: as, S')) (hl : am_lv m b = some m') (hk : (Nat.ble (am_rk m' + 1) (am_rk m) && Nat.ble (am_spread (.inr (.inr r) :: as)).length (am_max b)) = true) (he : am_ent m'.1 (.inr (.inr r) :: as) = L') (hi : am_is ω r (am_own b, am_nf (am_own b)) = true) : am_run m pc (L, S, ω) = (am_run m' 0 (L', [], ω)).bind (fun q => (am_push rk q.1 S').bind (fun S1 => am_run m (pc + 3) (L, S1, q.2))) := by
  subst he
  refine am_goc hc ?_
  show am_inv 2 m i (pc + 3) L S ω = _
  unfold am_inv
  rw [hp]
  show am_call m b na rk (pc + 3) true L S ω = _
  unfold am_call
  rw [ha, hl]
  show cond ((!true || am_is ω r (am_own b, am_nf (am_own b))) && (Nat.ble (am_rk m' + 1) (am_rk m) && Nat.ble (am_spread (.inr (.inr r) :: as)).length (am_max b))) _ _ = _
  rw [hk, hi]
  rfl
theorem rr_invI5_no {i b na rk : Nat} {w : Nat × Nat × Nat × Nat} {as : List am_V} {m' : am_M} (hc : am_code m.1 pc = some (.invokespecial i, 3)) (hp : am_lk (am_pm.get (am_own m.1)) i = some (5, b, na, rk, w)) (ha : am_args na S = some (.inr (.inr r) :: as, S')) (hl : am_lv m b = some m') (hk : (Nat.ble (am_rk m' + 1) (am_rk m) && Nat.ble (am_spread (.inr (.inr r) :: as)).length (am_max b)) = true) (he : am_ent m'.1 (.inr (.inr r) :: as) = L') (hi : am_is ω r (am_own b, am_nf (am_own b)) = false) : am_run m pc (L, S, ω) = none := by
  subst he
  refine am_stop hc ?_
  show am_inv 2 m i (pc + 3) L S ω = _
  unfold am_inv
  rw [hp]
  show am_call m b na rk (pc + 3) true L S ω = _
  unfold am_call
  rw [ha, hl]
  show cond ((!true || am_is ω r (am_own b, am_nf (am_own b))) && (Nat.ble (am_rk m' + 1) (am_rk m) && Nat.ble (am_spread (.inr (.inr r) :: as)).length (am_max b))) _ _ = _
  rw [hk, hi]
  rfl
end RR
end
