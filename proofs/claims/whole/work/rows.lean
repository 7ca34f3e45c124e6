section
-- ===== PART A: goes FIRST, ahead of the names: the tables' words, and 'selects' of the private methods out of them =====
/-- a private method of a class that the tables say can be made, by its rows of tables_1 -/
def lw_okq (q : MethodName × Nat) : Prop := (q.1.cls ≠ "java/lang/invoke/MethodHandle" ∧ q.1.cls ≠ "java/lang/invoke/VarHandle") ∧ Cond.instantiable q.1.cls q.2 ∈ tables_1 ∧ Cond.privateMethod q.1 ∈ tables_1 ∧ Cond.instanceMethod q.1 ∈ tables_1
theorem lw_p0 : lw_okq (⟨"RepeaterWires$Timing", "weigh", "(LRepeaterWires$Net;I)V"⟩, 7) := ⟨⟨by decide +kernel, by decide +kernel⟩, List.mem_of_getElem? (i := 121) (by decide +kernel), List.mem_of_getElem? (i := 308) (by decide +kernel), List.mem_of_getElem? (i := 309) (by decide +kernel)⟩
theorem lw_p1 : lw_okq (⟨"RepeaterWires$Timing", "run", "(LRepeaterWires$Net;)V"⟩, 7) := ⟨⟨by decide +kernel, by decide +kernel⟩, List.mem_of_getElem? (i := 121) (by decide +kernel), List.mem_of_getElem? (i := 312) (by decide +kernel), List.mem_of_getElem? (i := 313) (by decide +kernel)⟩
theorem lw_p2 : lw_okq (⟨"RepeaterWires$Timing", "judge", "(LRepeaterWires$Net;I)V"⟩, 7) := ⟨⟨by decide +kernel, by decide +kernel⟩, List.mem_of_getElem? (i := 121) (by decide +kernel), List.mem_of_getElem? (i := 320) (by decide +kernel), List.mem_of_getElem? (i := 321) (by decide +kernel)⟩
theorem lw_p3 : lw_okq (⟨"RepeaterWires$Choices", "gather", "(LRepeaterWires$Net;IIZLRepeaterWires$Front;)V"⟩, 6) := ⟨⟨by decide +kernel, by decide +kernel⟩, List.mem_of_getElem? (i := 157) (by decide +kernel), List.mem_of_getElem? (i := 330) (by decide +kernel), List.mem_of_getElem? (i := 331) (by decide +kernel)⟩
theorem lw_p4 : lw_okq (⟨"RepeaterWires$Front", "standsAhead", "(III)Z"⟩, 4) := ⟨⟨by decide +kernel, by decide +kernel⟩, List.mem_of_getElem? (i := 164) (by decide +kernel), List.mem_of_getElem? (i := 342) (by decide +kernel), List.mem_of_getElem? (i := 343) (by decide +kernel)⟩
theorem lw_p5 : lw_okq (⟨"RepeaterWires$Front", "dropBeaten", "(III)V"⟩, 4) := ⟨⟨by decide +kernel, by decide +kernel⟩, List.mem_of_getElem? (i := 164) (by decide +kernel), List.mem_of_getElem? (i := 346) (by decide +kernel), List.mem_of_getElem? (i := 347) (by decide +kernel)⟩
theorem lw_p6 : lw_okq (⟨"RepeaterWires$Front", "widen", "()Z"⟩, 4) := ⟨⟨by decide +kernel, by decide +kernel⟩, List.mem_of_getElem? (i := 164) (by decide +kernel), List.mem_of_getElem? (i := 350) (by decide +kernel), List.mem_of_getElem? (i := 351) (by decide +kernel)⟩
theorem lw_p7 : lw_okq (⟨"RepeaterWires$Front", "insert", "(IIII)V"⟩, 4) := ⟨⟨by decide +kernel, by decide +kernel⟩, List.mem_of_getElem? (i := 164) (by decide +kernel), List.mem_of_getElem? (i := 370) (by decide +kernel), List.mem_of_getElem? (i := 371) (by decide +kernel)⟩
theorem lw_p8 : lw_okq (⟨"RepeaterWires$Choices", "join", "(LRepeaterWires$Net;ILRepeaterWires$Front;LRepeaterWires$Front;)V"⟩, 6) := ⟨⟨by decide +kernel, by decide +kernel⟩, List.mem_of_getElem? (i := 157) (by decide +kernel), List.mem_of_getElem? (i := 380) (by decide +kernel), List.mem_of_getElem? (i := 381) (by decide +kernel)⟩
theorem lw_p9 : lw_okq (⟨"RepeaterWires$Choices", "equip", "(LRepeaterWires$Net;II)V"⟩, 6) := ⟨⟨by decide +kernel, by decide +kernel⟩, List.mem_of_getElem? (i := 157) (by decide +kernel), List.mem_of_getElem? (i := 390) (by decide +kernel), List.mem_of_getElem? (i := 391) (by decide +kernel)⟩
theorem lw_p10 : lw_okq (⟨"RepeaterWires$Choices", "driveAll", "(LRepeaterWires$Net;ILRepeaterWires$Front;LRepeaterWires$Front;)V"⟩, 6) := ⟨⟨by decide +kernel, by decide +kernel⟩, List.mem_of_getElem? (i := 157) (by decide +kernel), List.mem_of_getElem? (i := 398) (by decide +kernel), List.mem_of_getElem? (i := 399) (by decide +kernel)⟩
theorem lw_p11 : lw_okq (⟨"RepeaterWires$Choices", "pickPoints", "(LRepeaterWires$Net;)V"⟩, 6) := ⟨⟨by decide +kernel, by decide +kernel⟩, List.mem_of_getElem? (i := 157) (by decide +kernel), List.mem_of_getElem? (i := 402) (by decide +kernel), List.mem_of_getElem? (i := 403) (by decide +kernel)⟩
theorem lw_p12 : lw_okq (⟨"RepeaterWires", "widest", "()I"⟩, 10) := ⟨⟨by decide +kernel, by decide +kernel⟩, List.mem_of_getElem? (i := 15) (by decide +kernel), List.mem_of_getElem? (i := 406) (by decide +kernel), List.mem_of_getElem? (i := 407) (by decide +kernel)⟩
theorem lw_p13 : lw_okq (⟨"RepeaterWires", "findChange", "()I"⟩, 10) := ⟨⟨by decide +kernel, by decide +kernel⟩, List.mem_of_getElem? (i := 15) (by decide +kernel), List.mem_of_getElem? (i := 418) (by decide +kernel), List.mem_of_getElem? (i := 419) (by decide +kernel)⟩
theorem lw_p14 : lw_okq (⟨"RepeaterWires", "ofWire", "(II)I"⟩, 10) := ⟨⟨by decide +kernel, by decide +kernel⟩, List.mem_of_getElem? (i := 15) (by decide +kernel), List.mem_of_getElem? (i := 444) (by decide +kernel), List.mem_of_getElem? (i := 445) (by decide +kernel)⟩
theorem lw_p15 : lw_okq (⟨"RepeaterWires", "ofEnd", "(II)I"⟩, 10) := ⟨⟨by decide +kernel, by decide +kernel⟩, List.mem_of_getElem? (i := 15) (by decide +kernel), List.mem_of_getElem? (i := 453) (by decide +kernel), List.mem_of_getElem? (i := 454) (by decide +kernel)⟩
def lw_privs_1 : List (MethodName × Nat) := [(⟨"RepeaterWires$Timing", "weigh", "(LRepeaterWires$Net;I)V"⟩, 7), (⟨"RepeaterWires$Timing", "run", "(LRepeaterWires$Net;)V"⟩, 7), (⟨"RepeaterWires$Timing", "judge", "(LRepeaterWires$Net;I)V"⟩, 7), (⟨"RepeaterWires$Choices", "gather", "(LRepeaterWires$Net;IIZLRepeaterWires$Front;)V"⟩, 6), (⟨"RepeaterWires$Front", "standsAhead", "(III)Z"⟩, 4), (⟨"RepeaterWires$Front", "dropBeaten", "(III)V"⟩, 4), (⟨"RepeaterWires$Front", "widen", "()Z"⟩, 4), (⟨"RepeaterWires$Front", "insert", "(IIII)V"⟩, 4), (⟨"RepeaterWires$Choices", "join", "(LRepeaterWires$Net;ILRepeaterWires$Front;LRepeaterWires$Front;)V"⟩, 6), (⟨"RepeaterWires$Choices", "equip", "(LRepeaterWires$Net;II)V"⟩, 6), (⟨"RepeaterWires$Choices", "driveAll", "(LRepeaterWires$Net;ILRepeaterWires$Front;LRepeaterWires$Front;)V"⟩, 6), (⟨"RepeaterWires$Choices", "pickPoints", "(LRepeaterWires$Net;)V"⟩, 6), (⟨"RepeaterWires", "widest", "()I"⟩, 10), (⟨"RepeaterWires", "findChange", "()I"⟩, 10), (⟨"RepeaterWires", "ofWire", "(II)I"⟩, 10), (⟨"RepeaterWires", "ofEnd", "(II)I"⟩, 10)]
theorem lw_r1 : ∀ q ∈ lw_privs_1, lw_okq q := List.forall_mem_cons.mpr ⟨lw_p0, List.forall_mem_cons.mpr ⟨lw_p1, List.forall_mem_cons.mpr ⟨lw_p2, List.forall_mem_cons.mpr ⟨lw_p3, List.forall_mem_cons.mpr ⟨lw_p4, List.forall_mem_cons.mpr ⟨lw_p5, List.forall_mem_cons.mpr ⟨lw_p6, List.forall_mem_cons.mpr ⟨lw_p7, List.forall_mem_cons.mpr ⟨lw_p8, List.forall_mem_cons.mpr ⟨lw_p9, List.forall_mem_cons.mpr ⟨lw_p10, List.forall_mem_cons.mpr ⟨lw_p11, List.forall_mem_cons.mpr ⟨lw_p12, List.forall_mem_cons.mpr ⟨lw_p13, List.forall_mem_cons.mpr ⟨lw_p14, List.forall_mem_cons.mpr ⟨lw_p15, fun _ h => absurd h List.not_mem_nil⟩⟩⟩⟩⟩⟩⟩⟩⟩⟩⟩⟩⟩⟩⟩⟩
theorem lw_p16 : lw_okq (⟨"RepeaterWires", "ofTiming", "(II)I"⟩, 10) := ⟨⟨by decide +kernel, by decide +kernel⟩, List.mem_of_getElem? (i := 15) (by decide +kernel), List.mem_of_getElem? (i := 457) (by decide +kernel), List.mem_of_getElem? (i := 458) (by decide +kernel)⟩
theorem lw_p17 : lw_okq (⟨"RepeaterWires", "deedComes", "()V"⟩, 10) := ⟨⟨by decide +kernel, by decide +kernel⟩, List.mem_of_getElem? (i := 15) (by decide +kernel), List.mem_of_getElem? (i := 501) (by decide +kernel), List.mem_of_getElem? (i := 502) (by decide +kernel)⟩
theorem lw_p18 : lw_okq (⟨"RepeaterWires", "growByDraws", "()V"⟩, 10) := ⟨⟨by decide +kernel, by decide +kernel⟩, List.mem_of_getElem? (i := 15) (by decide +kernel), List.mem_of_getElem? (i := 570) (by decide +kernel), List.mem_of_getElem? (i := 571) (by decide +kernel)⟩
theorem lw_p19 : lw_okq (⟨"RepeaterWiresModel", "ends", "()I"⟩, 20) := ⟨⟨by decide +kernel, by decide +kernel⟩, List.mem_of_getElem? (i := 614) (by decide +kernel), List.mem_of_getElem? (i := 685) (by decide +kernel), List.mem_of_getElem? (i := 686) (by decide +kernel)⟩
theorem lw_p20 : lw_okq (⟨"RepeaterWiresModel", "isEnd", "(I)Z"⟩, 20) := ⟨⟨by decide +kernel, by decide +kernel⟩, List.mem_of_getElem? (i := 614) (by decide +kernel), List.mem_of_getElem? (i := 689) (by decide +kernel), List.mem_of_getElem? (i := 690) (by decide +kernel)⟩
theorem lw_p21 : lw_okq (⟨"RepeaterWiresModel", "of", "(II)I"⟩, 20) := ⟨⟨by decide +kernel, by decide +kernel⟩, List.mem_of_getElem? (i := 614) (by decide +kernel), List.mem_of_getElem? (i := 693) (by decide +kernel), List.mem_of_getElem? (i := 694) (by decide +kernel)⟩
theorem lw_p22 : lw_okq (⟨"RepeaterWiresModel", "kindsThere", "()I"⟩, 20) := ⟨⟨by decide +kernel, by decide +kernel⟩, List.mem_of_getElem? (i := 614) (by decide +kernel), List.mem_of_getElem? (i := 697) (by decide +kernel), List.mem_of_getElem? (i := 698) (by decide +kernel)⟩
theorem lw_p23 : lw_okq (⟨"RepeaterWiresModel", "isKind", "(I)Z"⟩, 20) := ⟨⟨by decide +kernel, by decide +kernel⟩, List.mem_of_getElem? (i := 614) (by decide +kernel), List.mem_of_getElem? (i := 701) (by decide +kernel), List.mem_of_getElem? (i := 702) (by decide +kernel)⟩
theorem lw_p24 : lw_okq (⟨"RepeaterWiresModel", "ofKind", "(II)I"⟩, 20) := ⟨⟨by decide +kernel, by decide +kernel⟩, List.mem_of_getElem? (i := 614) (by decide +kernel), List.mem_of_getElem? (i := 708) (by decide +kernel), List.mem_of_getElem? (i := 709) (by decide +kernel)⟩
theorem lw_p25 : lw_okq (⟨"RepeaterWiresModel", "asPlaced", "()V"⟩, 20) := ⟨⟨by decide +kernel, by decide +kernel⟩, List.mem_of_getElem? (i := 614) (by decide +kernel), List.mem_of_getElem? (i := 712) (by decide +kernel), List.mem_of_getElem? (i := 713) (by decide +kernel)⟩
theorem lw_p26 : lw_okq (⟨"RepeaterWiresModel", "cost", "(I)I"⟩, 20) := ⟨⟨by decide +kernel, by decide +kernel⟩, List.mem_of_getElem? (i := 614) (by decide +kernel), List.mem_of_getElem? (i := 716) (by decide +kernel), List.mem_of_getElem? (i := 717) (by decide +kernel)⟩
theorem lw_p27 : lw_okq (⟨"RepeaterWiresModel", "isBelow", "(II)Z"⟩, 20) := ⟨⟨by decide +kernel, by decide +kernel⟩, List.mem_of_getElem? (i := 614) (by decide +kernel), List.mem_of_getElem? (i := 720) (by decide +kernel), List.mem_of_getElem? (i := 721) (by decide +kernel)⟩
theorem lw_p28 : lw_okq (⟨"RepeaterWiresModel", "slackNow", "()I"⟩, 20) := ⟨⟨by decide +kernel, by decide +kernel⟩, List.mem_of_getElem? (i := 614) (by decide +kernel), List.mem_of_getElem? (i := 724) (by decide +kernel), List.mem_of_getElem? (i := 725) (by decide +kernel)⟩
theorem lw_p29 : lw_okq (⟨"RepeaterWiresModel", "runsAll", "()V"⟩, 20) := ⟨⟨by decide +kernel, by decide +kernel⟩, List.mem_of_getElem? (i := 614) (by decide +kernel), List.mem_of_getElem? (i := 728) (by decide +kernel), List.mem_of_getElem? (i := 729) (by decide +kernel)⟩
theorem lw_p30 : lw_okq (⟨"RepeaterWiresModel", "weighs", "()V"⟩, 20) := ⟨⟨by decide +kernel, by decide +kernel⟩, List.mem_of_getElem? (i := 614) (by decide +kernel), List.mem_of_getElem? (i := 732) (by decide +kernel), List.mem_of_getElem? (i := 733) (by decide +kernel)⟩
theorem lw_p31 : lw_okq (⟨"RepeaterWiresModel", "runs", "(III)V"⟩, 20) := ⟨⟨by decide +kernel, by decide +kernel⟩, List.mem_of_getElem? (i := 614) (by decide +kernel), List.mem_of_getElem? (i := 736) (by decide +kernel), List.mem_of_getElem? (i := 737) (by decide +kernel)⟩
def lw_privs_2 : List (MethodName × Nat) := [(⟨"RepeaterWires", "ofTiming", "(II)I"⟩, 10), (⟨"RepeaterWires", "deedComes", "()V"⟩, 10), (⟨"RepeaterWires", "growByDraws", "()V"⟩, 10), (⟨"RepeaterWiresModel", "ends", "()I"⟩, 20), (⟨"RepeaterWiresModel", "isEnd", "(I)Z"⟩, 20), (⟨"RepeaterWiresModel", "of", "(II)I"⟩, 20), (⟨"RepeaterWiresModel", "kindsThere", "()I"⟩, 20), (⟨"RepeaterWiresModel", "isKind", "(I)Z"⟩, 20), (⟨"RepeaterWiresModel", "ofKind", "(II)I"⟩, 20), (⟨"RepeaterWiresModel", "asPlaced", "()V"⟩, 20), (⟨"RepeaterWiresModel", "cost", "(I)I"⟩, 20), (⟨"RepeaterWiresModel", "isBelow", "(II)Z"⟩, 20), (⟨"RepeaterWiresModel", "slackNow", "()I"⟩, 20), (⟨"RepeaterWiresModel", "runsAll", "()V"⟩, 20), (⟨"RepeaterWiresModel", "weighs", "()V"⟩, 20), (⟨"RepeaterWiresModel", "runs", "(III)V"⟩, 20)]
theorem lw_r2 : ∀ q ∈ lw_privs_2, lw_okq q := List.forall_mem_cons.mpr ⟨lw_p16, List.forall_mem_cons.mpr ⟨lw_p17, List.forall_mem_cons.mpr ⟨lw_p18, List.forall_mem_cons.mpr ⟨lw_p19, List.forall_mem_cons.mpr ⟨lw_p20, List.forall_mem_cons.mpr ⟨lw_p21, List.forall_mem_cons.mpr ⟨lw_p22, List.forall_mem_cons.mpr ⟨lw_p23, List.forall_mem_cons.mpr ⟨lw_p24, List.forall_mem_cons.mpr ⟨lw_p25, List.forall_mem_cons.mpr ⟨lw_p26, List.forall_mem_cons.mpr ⟨lw_p27, List.forall_mem_cons.mpr ⟨lw_p28, List.forall_mem_cons.mpr ⟨lw_p29, List.forall_mem_cons.mpr ⟨lw_p30, List.forall_mem_cons.mpr ⟨lw_p31, fun _ h => absurd h List.not_mem_nil⟩⟩⟩⟩⟩⟩⟩⟩⟩⟩⟩⟩⟩⟩⟩⟩
theorem lw_p32 : lw_okq (⟨"RepeaterWiresModel", "adds", "(I)I"⟩, 20) := ⟨⟨by decide +kernel, by decide +kernel⟩, List.mem_of_getElem? (i := 614) (by decide +kernel), List.mem_of_getElem? (i := 740) (by decide +kernel), List.mem_of_getElem? (i := 741) (by decide +kernel)⟩
theorem lw_p33 : lw_okq (⟨"RepeaterWiresModel", "slack", "(I)I"⟩, 20) := ⟨⟨by decide +kernel, by decide +kernel⟩, List.mem_of_getElem? (i := 614) (by decide +kernel), List.mem_of_getElem? (i := 744) (by decide +kernel), List.mem_of_getElem? (i := 745) (by decide +kernel)⟩
theorem lw_p34 : lw_okq (⟨"RepeaterWiresModel", "worst", "()I"⟩, 20) := ⟨⟨by decide +kernel, by decide +kernel⟩, List.mem_of_getElem? (i := 614) (by decide +kernel), List.mem_of_getElem? (i := 750) (by decide +kernel), List.mem_of_getElem? (i := 751) (by decide +kernel)⟩
theorem lw_p35 : lw_okq (⟨"RepeaterWiresModel", "wrong", "(I)I"⟩, 20) := ⟨⟨by decide +kernel, by decide +kernel⟩, List.mem_of_getElem? (i := 614) (by decide +kernel), List.mem_of_getElem? (i := 754) (by decide +kernel), List.mem_of_getElem? (i := 755) (by decide +kernel)⟩
theorem lw_p36 : lw_okq (⟨"RepeaterWiresModel", "seeksPoints", "()V"⟩, 20) := ⟨⟨by decide +kernel, by decide +kernel⟩, List.mem_of_getElem? (i := 614) (by decide +kernel), List.mem_of_getElem? (i := 758) (by decide +kernel), List.mem_of_getElem? (i := 759) (by decide +kernel)⟩
theorem lw_p37 : lw_okq (⟨"RepeaterWiresModel", "meets", "(III)V"⟩, 20) := ⟨⟨by decide +kernel, by decide +kernel⟩, List.mem_of_getElem? (i := 614) (by decide +kernel), List.mem_of_getElem? (i := 762) (by decide +kernel), List.mem_of_getElem? (i := 763) (by decide +kernel)⟩
theorem lw_p38 : lw_okq (⟨"RepeaterWiresModel", "isNext", "(I)Z"⟩, 20) := ⟨⟨by decide +kernel, by decide +kernel⟩, List.mem_of_getElem? (i := 614) (by decide +kernel), List.mem_of_getElem? (i := 769) (by decide +kernel), List.mem_of_getElem? (i := 770) (by decide +kernel)⟩
theorem lw_p39 : lw_okq (⟨"RepeaterWiresModel", "widest", "()I"⟩, 20) := ⟨⟨by decide +kernel, by decide +kernel⟩, List.mem_of_getElem? (i := 614) (by decide +kernel), List.mem_of_getElem? (i := 773) (by decide +kernel), List.mem_of_getElem? (i := 774) (by decide +kernel)⟩
theorem lw_p40 : lw_okq (⟨"RepeaterWiresModel", "toldMore", "(I)I"⟩, 20) := ⟨⟨by decide +kernel, by decide +kernel⟩, List.mem_of_getElem? (i := 614) (by decide +kernel), List.mem_of_getElem? (i := 777) (by decide +kernel), List.mem_of_getElem? (i := 778) (by decide +kernel)⟩
theorem lw_p41 : lw_okq (⟨"RepeaterWiresModel", "changeNow", "()I"⟩, 20) := ⟨⟨by decide +kernel, by decide +kernel⟩, List.mem_of_getElem? (i := 614) (by decide +kernel), List.mem_of_getElem? (i := 781) (by decide +kernel), List.mem_of_getElem? (i := 782) (by decide +kernel)⟩
theorem lw_p42 : lw_okq (⟨"RepeaterWiresModel", "wrongEntry", "()I"⟩, 20) := ⟨⟨by decide +kernel, by decide +kernel⟩, List.mem_of_getElem? (i := 614) (by decide +kernel), List.mem_of_getElem? (i := 785) (by decide +kernel), List.mem_of_getElem? (i := 786) (by decide +kernel)⟩
theorem lw_p43 : lw_okq (⟨"RepeaterWiresModel", "isNode", "(I)Z"⟩, 20) := ⟨⟨by decide +kernel, by decide +kernel⟩, List.mem_of_getElem? (i := 614) (by decide +kernel), List.mem_of_getElem? (i := 789) (by decide +kernel), List.mem_of_getElem? (i := 790) (by decide +kernel)⟩
theorem lw_p44 : lw_okq (⟨"RepeaterWiresModel", "seeks", "(II)V"⟩, 20) := ⟨⟨by decide +kernel, by decide +kernel⟩, List.mem_of_getElem? (i := 614) (by decide +kernel), List.mem_of_getElem? (i := 807) (by decide +kernel), List.mem_of_getElem? (i := 808) (by decide +kernel)⟩
theorem lw_p45 : lw_okq (⟨"RepeaterWiresModel", "isPlaceable", "(II)Z"⟩, 20) := ⟨⟨by decide +kernel, by decide +kernel⟩, List.mem_of_getElem? (i := 614) (by decide +kernel), List.mem_of_getElem? (i := 831) (by decide +kernel), List.mem_of_getElem? (i := 832) (by decide +kernel)⟩
theorem lw_p46 : lw_okq (⟨"RepeaterWiresModel", "deed", "()V"⟩, 20) := ⟨⟨by decide +kernel, by decide +kernel⟩, List.mem_of_getElem? (i := 614) (by decide +kernel), List.mem_of_getElem? (i := 841) (by decide +kernel), List.mem_of_getElem? (i := 842) (by decide +kernel)⟩
theorem lw_p47 : lw_okq (⟨"RepeaterWiresModel", "comes", "(III)I"⟩, 20) := ⟨⟨by decide +kernel, by decide +kernel⟩, List.mem_of_getElem? (i := 614) (by decide +kernel), List.mem_of_getElem? (i := 845) (by decide +kernel), List.mem_of_getElem? (i := 846) (by decide +kernel)⟩
def lw_privs_3 : List (MethodName × Nat) := [(⟨"RepeaterWiresModel", "adds", "(I)I"⟩, 20), (⟨"RepeaterWiresModel", "slack", "(I)I"⟩, 20), (⟨"RepeaterWiresModel", "worst", "()I"⟩, 20), (⟨"RepeaterWiresModel", "wrong", "(I)I"⟩, 20), (⟨"RepeaterWiresModel", "seeksPoints", "()V"⟩, 20), (⟨"RepeaterWiresModel", "meets", "(III)V"⟩, 20), (⟨"RepeaterWiresModel", "isNext", "(I)Z"⟩, 20), (⟨"RepeaterWiresModel", "widest", "()I"⟩, 20), (⟨"RepeaterWiresModel", "toldMore", "(I)I"⟩, 20), (⟨"RepeaterWiresModel", "changeNow", "()I"⟩, 20), (⟨"RepeaterWiresModel", "wrongEntry", "()I"⟩, 20), (⟨"RepeaterWiresModel", "isNode", "(I)Z"⟩, 20), (⟨"RepeaterWiresModel", "seeks", "(II)V"⟩, 20), (⟨"RepeaterWiresModel", "isPlaceable", "(II)Z"⟩, 20), (⟨"RepeaterWiresModel", "deed", "()V"⟩, 20), (⟨"RepeaterWiresModel", "comes", "(III)I"⟩, 20)]
theorem lw_r3 : ∀ q ∈ lw_privs_3, lw_okq q := List.forall_mem_cons.mpr ⟨lw_p32, List.forall_mem_cons.mpr ⟨lw_p33, List.forall_mem_cons.mpr ⟨lw_p34, List.forall_mem_cons.mpr ⟨lw_p35, List.forall_mem_cons.mpr ⟨lw_p36, List.forall_mem_cons.mpr ⟨lw_p37, List.forall_mem_cons.mpr ⟨lw_p38, List.forall_mem_cons.mpr ⟨lw_p39, List.forall_mem_cons.mpr ⟨lw_p40, List.forall_mem_cons.mpr ⟨lw_p41, List.forall_mem_cons.mpr ⟨lw_p42, List.forall_mem_cons.mpr ⟨lw_p43, List.forall_mem_cons.mpr ⟨lw_p44, List.forall_mem_cons.mpr ⟨lw_p45, List.forall_mem_cons.mpr ⟨lw_p46, List.forall_mem_cons.mpr ⟨lw_p47, fun _ h => absurd h List.not_mem_nil⟩⟩⟩⟩⟩⟩⟩⟩⟩⟩⟩⟩⟩⟩⟩⟩
theorem lw_p48 : lw_okq (⟨"RepeaterWiresModel", "sets", "(III)V"⟩, 20) := ⟨⟨by decide +kernel, by decide +kernel⟩, List.mem_of_getElem? (i := 614) (by decide +kernel), List.mem_of_getElem? (i := 849) (by decide +kernel), List.mem_of_getElem? (i := 850) (by decide +kernel)⟩
theorem lw_p49 : lw_okq (⟨"RepeaterWiresModel", "draws", "(I)I"⟩, 20) := ⟨⟨by decide +kernel, by decide +kernel⟩, List.mem_of_getElem? (i := 614) (by decide +kernel), List.mem_of_getElem? (i := 889) (by decide +kernel), List.mem_of_getElem? (i := 890) (by decide +kernel)⟩
def lw_privs_4 : List (MethodName × Nat) := [(⟨"RepeaterWiresModel", "sets", "(III)V"⟩, 20), (⟨"RepeaterWiresModel", "draws", "(I)I"⟩, 20)]
theorem lw_r4 : ∀ q ∈ lw_privs_4, lw_okq q := List.forall_mem_cons.mpr ⟨lw_p48, List.forall_mem_cons.mpr ⟨lw_p49, fun _ h => absurd h List.not_mem_nil⟩⟩
def lw_privs : List (MethodName × Nat) := lw_privs_1 ++ (lw_privs_2 ++ (lw_privs_3 ++ (lw_privs_4)))
def lw_tbl : List Cond := k2_sels lw_privs ++ tables_1
theorem lw_privs_ok : ∀ q ∈ lw_privs, lw_okq q := by
  show ∀ q ∈ lw_privs_1 ++ (lw_privs_2 ++ (lw_privs_3 ++ (lw_privs_4))), lw_okq q
  exact List.forall_mem_append.mpr ⟨lw_r1, List.forall_mem_append.mpr ⟨lw_r2, List.forall_mem_append.mpr ⟨lw_r3, lw_r4⟩⟩⟩
end
section
/-! names: the objects' types, the methods, the links, each by its place in lw_tbl; printed by wip/whole/gen.py -/
def RN : Nat → String := fun n => match n with
  | 0 => "RepeaterWires$Book"
  | 1 => "RepeaterWires$Choices"
  | 2 => "RepeaterWires$Draws"
  | 3 => "RepeaterWires$Front"
  | 4 => "RepeaterWires$Net"
  | 5 => "RepeaterWires$Past"
  | 6 => "RepeaterWires$Timing"
  | 7 => "RepeaterWires"
  | 8 => "RepeaterWiresModel"
  | 9 => "RepeaterWiresLaw"
  | 10 => "java/util/Arrays"
  | 11 => "java/lang/Math"
  | _ => "java/lang/Integer"
def TF_0 : u_T := fun k => match k with
  | 0 => ("RepeaterWires$Book", "nodes", "[I", true)
  | 1 => ("RepeaterWires$Book", "times", "[I", true)
  | _ => ("RepeaterWires$Book", "size", "I", false)
def tF_0 : Nat → FieldType := fun k => match k with
  | 0 => .array .int
  | 1 => .array .int
  | _ => .int
def TF_1 : u_T := fun k => match k with
  | 0 => ("RepeaterWires$Choices", "rows", "[LRepeaterWires$Front;", true)
  | 1 => ("RepeaterWires$Choices", "points", "LRepeaterWires$Front;", true)
  | 2 => ("RepeaterWires$Choices", "plainBelow", "LRepeaterWires$Front;", true)
  | 3 => ("RepeaterWires$Choices", "turnedBelow", "LRepeaterWires$Front;", true)
  | 4 => ("RepeaterWires$Choices", "joined", "LRepeaterWires$Front;", true)
  | _ => ("RepeaterWires$Choices", "fresh", "Z", false)
def tF_1 : Nat → FieldType := fun k => match k with
  | 0 => .array (.object "RepeaterWires$Front")
  | 1 => .object "RepeaterWires$Front"
  | 2 => .object "RepeaterWires$Front"
  | 3 => .object "RepeaterWires$Front"
  | 4 => .object "RepeaterWires$Front"
  | _ => .boolean
def TF_2 : u_T := fun k => match k with
  | _ => ("RepeaterWires$Draws", "seed", "I", false)
def tF_2 : Nat → FieldType := fun k => match k with
  | _ => .int
def TF_3 : u_T := fun k => match k with
  | 0 => ("RepeaterWires$Front", "size", "I", false)
  | 1 => ("RepeaterWires$Front", "shows", "[I", false)
  | 2 => ("RepeaterWires$Front", "slack", "[I", false)
  | _ => ("RepeaterWires$Front", "cost", "[I", false)
def tF_3 : Nat → FieldType := fun k => match k with
  | 0 => .int
  | 1 => .array .int
  | 2 => .array .int
  | _ => .array .int
def TF_4 : u_T := fun k => match k with
  | 0 => ("RepeaterWires$Net", "size", "I", false)
  | 1 => ("RepeaterWires$Net", "sourcePull", "I", false)
  | 2 => ("RepeaterWires$Net", "kinds", "I", false)
  | 3 => ("RepeaterWires$Net", "above", "[I", true)
  | 4 => ("RepeaterWires$Net", "wireR", "[I", true)
  | 5 => ("RepeaterWires$Net", "wireC", "[I", true)
  | 6 => ("RepeaterWires$Net", "width", "[I", true)
  | 7 => ("RepeaterWires$Net", "load", "[I", true)
  | 8 => ("RepeaterWires$Net", "need", "[I", true)
  | 9 => ("RepeaterWires$Net", "wants", "[I", true)
  | 10 => ("RepeaterWires$Net", "placed", "[I", true)
  | 11 => ("RepeaterWires$Net", "kindIn", "[I", true)
  | 12 => ("RepeaterWires$Net", "kindPull", "[I", true)
  | 13 => ("RepeaterWires$Net", "kindOwn", "[I", true)
  | 14 => ("RepeaterWires$Net", "kindCost", "[I", true)
  | _ => ("RepeaterWires$Net", "kindTurns", "[I", true)
def tF_4 : Nat → FieldType := fun k => match k with
  | 0 => .int
  | 1 => .int
  | 2 => .int
  | 3 => .array .int
  | 4 => .array .int
  | 5 => .array .int
  | 6 => .array .int
  | 7 => .array .int
  | 8 => .array .int
  | 9 => .array .int
  | 10 => .array .int
  | 11 => .array .int
  | 12 => .array .int
  | 13 => .array .int
  | 14 => .array .int
  | _ => .array .int
def TF_5 : u_T := fun k => match k with
  | 0 => ("RepeaterWires$Past", "ring", "[LRepeaterWires$Net;", true)
  | 1 => ("RepeaterWires$Past", "next", "I", false)
  | _ => ("RepeaterWires$Past", "size", "I", false)
def tF_5 : Nat → FieldType := fun k => match k with
  | 0 => .array (.object "RepeaterWires$Net")
  | 1 => .int
  | _ => .int
def TF_6 : u_T := fun k => match k with
  | 0 => ("RepeaterWires$Timing", "bears", "[I", true)
  | 1 => ("RepeaterWires$Timing", "shows", "[I", true)
  | 2 => ("RepeaterWires$Timing", "time", "[I", true)
  | 3 => ("RepeaterWires$Timing", "turned", "[I", true)
  | 4 => ("RepeaterWires$Timing", "slack", "I", false)
  | 5 => ("RepeaterWires$Timing", "worst", "I", false)
  | _ => ("RepeaterWires$Timing", "wrongEnds", "I", false)
def tF_6 : Nat → FieldType := fun k => match k with
  | 0 => .array .int
  | 1 => .array .int
  | 2 => .array .int
  | 3 => .array .int
  | 4 => .int
  | 5 => .int
  | _ => .int
def TF_7 : u_T := fun k => match k with
  | 0 => ("RepeaterWires", "net", "LRepeaterWires$Net;", true)
  | 1 => ("RepeaterWires", "trial", "LRepeaterWires$Net;", true)
  | 2 => ("RepeaterWires", "timing", "LRepeaterWires$Timing;", true)
  | 3 => ("RepeaterWires", "choices", "LRepeaterWires$Choices;", true)
  | 4 => ("RepeaterWires", "past", "LRepeaterWires$Past;", true)
  | 5 => ("RepeaterWires", "book", "LRepeaterWires$Book;", true)
  | 6 => ("RepeaterWires", "draws", "LRepeaterWires$Draws;", true)
  | 7 => ("RepeaterWires", "images", "[LRepeaterWires$Net;", true)
  | 8 => ("RepeaterWires", "imageSeeds", "[I", true)
  | _ => ("RepeaterWires", "imageKept", "[Z", true)
def tF_7 : Nat → FieldType := fun k => match k with
  | 0 => .object "RepeaterWires$Net"
  | 1 => .object "RepeaterWires$Net"
  | 2 => .object "RepeaterWires$Timing"
  | 3 => .object "RepeaterWires$Choices"
  | 4 => .object "RepeaterWires$Past"
  | 5 => .object "RepeaterWires$Book"
  | 6 => .object "RepeaterWires$Draws"
  | 7 => .array (.object "RepeaterWires$Net")
  | 8 => .array .int
  | _ => .array .boolean
def TF_8 : u_T := fun k => match k with
  | 0 => ("RepeaterWiresModel", "s", "[I", true)
  | 1 => ("RepeaterWiresModel", "seed", "I", false)
  | 2 => ("RepeaterWiresModel", "past", "[I", true)
  | 3 => ("RepeaterWiresModel", "known", "I", false)
  | 4 => ("RepeaterWiresModel", "images", "[I", true)
  | 5 => ("RepeaterWiresModel", "isKept", "[Z", true)
  | 6 => ("RepeaterWiresModel", "bookNode", "[I", true)
  | 7 => ("RepeaterWiresModel", "bookTime", "[I", true)
  | 8 => ("RepeaterWiresModel", "written", "I", false)
  | 9 => ("RepeaterWiresModel", "by", "[I", true)
  | 10 => ("RepeaterWiresModel", "wide", "[I", true)
  | 11 => ("RepeaterWiresModel", "bears", "[I", true)
  | 12 => ("RepeaterWiresModel", "shows", "[I", true)
  | 13 => ("RepeaterWiresModel", "time", "[I", true)
  | 14 => ("RepeaterWiresModel", "turned", "[I", true)
  | 15 => ("RepeaterWiresModel", "foundShows", "[I", true)
  | 16 => ("RepeaterWiresModel", "foundSlack", "[I", true)
  | 17 => ("RepeaterWiresModel", "foundCost", "[I", true)
  | 18 => ("RepeaterWiresModel", "found", "I", false)
  | _ => ("RepeaterWiresModel", "changeSlack", "I", false)
def tF_8 : Nat → FieldType := fun k => match k with
  | 0 => .array .int
  | 1 => .int
  | 2 => .array .int
  | 3 => .int
  | 4 => .array .int
  | 5 => .array .boolean
  | 6 => .array .int
  | 7 => .array .int
  | 8 => .int
  | 9 => .array .int
  | 10 => .array .int
  | 11 => .array .int
  | 12 => .array .int
  | 13 => .array .int
  | 14 => .array .int
  | 15 => .array .int
  | 16 => .array .int
  | 17 => .array .int
  | 18 => .int
  | _ => .int
def TF : Nat → u_T := fun n => match n with
  | 0 => TF_0
  | 1 => TF_1
  | 2 => TF_2
  | 3 => TF_3
  | 4 => TF_4
  | 5 => TF_5
  | 6 => TF_6
  | 7 => TF_7
  | _ => TF_8
def tF : Nat → Nat → FieldType := fun n => match n with
  | 0 => tF_0
  | 1 => tF_1
  | 2 => tF_2
  | 3 => tF_3
  | 4 => tF_4
  | 5 => tF_5
  | 6 => tF_6
  | 7 => tF_7
  | _ => tF_8
def NF : Nat → Nat := fun n => match n with
  | 0 => 3
  | 1 => 6
  | 2 => 1
  | 3 => 4
  | 4 => 16
  | 5 => 3
  | 6 => 7
  | 7 => 10
  | _ => 20
def PLF : List (List Nat) := [[290, 292, 294], [247, 249, 251, 253, 255, 257], [305], [231, 233, 235, 237], [136, 138, 140, 142, 144, 146, 148, 150, 152, 154, 156, 158, 160, 162, 164, 166], [273, 275, 277], [191, 193, 195, 197, 199, 201, 203], [318, 320, 322, 324, 326, 328, 330, 332, 334, 336], [689, 691, 693, 695, 697, 699, 701, 703, 705, 707, 709, 711, 713, 715, 717, 719, 721, 723, 725, 727]]
theorem lay_pl : ∀ c, c < 9 → ∀ k, k < NF c → lw_tbl[(PLF.getD c []).getD k 0]? = some (u_lay (RN c) (TF c) k) := by decide +kernel
theorem ty_ok : ∀ c, c < 9 → ∀ k, k < NF c → parseFieldDescriptor (TF c k).2.2.1 = some (tF c k) := by decide +kernel
theorem nm_ok : ∀ c, c < 9 → ∀ a, a < NF c → ∀ b, b < NF c → a ≠ b → (TF c a).2.1 ≠ (TF c b).2.1 := by decide +kernel
theorem own_ok : ∀ c, c < 9 → ∀ k, k < NF c → (TF c k).1 = RN c := by decide +kernel
def INL : List Nat := [281, 207, 298, 214, 73, 261, 171, 65, 664]
theorem in_pl : ∀ c, c < 9 → lw_tbl[INL.getD c 0]? = some (.instantiable (RN c) (NF c)) := by decide +kernel
def IZL : List Nat := [57, 54, 58, 55, 52, 56, 53, 51, 59, 50, 60, 61, 63]
theorem iz_pl : ∀ c, c < 13 → lw_tbl[IZL.getD c 0]? = some (.initialized (RN c)) := by decide +kernel
abbrev mtT : Type := MethodName × ByteArray × Nat × Option FieldType × Nat × Nat × Nat
def MTL : List mtT := [
  (⟨"RepeaterWires$Book", "<init>", "()V"⟩, prog_2_method_1_code, 1, none, 0, 0, 1),
  (⟨"RepeaterWires$Book", "add", "(II)V"⟩, prog_2_method_2_code, 3, none, 0, 2, 1),
  (⟨"RepeaterWires$Book", "wrongEntry", "(I[I)I"⟩, prog_2_method_3_code, 5, some (.int), 0, 2, 1),
  (⟨"RepeaterWires$Choices", "<init>", "()V"⟩, prog_3_method_1_code, 2, none, 1, 0, 1),
  (⟨"RepeaterWires$Choices", "forget", "()V"⟩, prog_3_method_2_code, 1, none, 1, 0, 1),
  (⟨"RepeaterWires$Choices", "row", "(II)LRepeaterWires$Front;"⟩, prog_3_method_3_code, 3, some ((.object "RepeaterWires$Front")), 1, 2, 1),
  (⟨"RepeaterWires$Choices", "of", "(LRepeaterWires$Net;)LRepeaterWires$Choices;"⟩, prog_3_method_4_code, 5, some ((.object "RepeaterWires$Choices")), 1, 1, 1),
  (⟨"RepeaterWires$Choices", "gather", "(LRepeaterWires$Net;IIZLRepeaterWires$Front;)V"⟩, prog_3_method_5_code, 7, none, 1, 5, 1),
  (⟨"RepeaterWires$Choices", "join", "(LRepeaterWires$Net;ILRepeaterWires$Front;LRepeaterWires$Front;)V"⟩, prog_3_method_6_code, 10, none, 1, 4, 1),
  (⟨"RepeaterWires$Choices", "equip", "(LRepeaterWires$Net;II)V"⟩, prog_3_method_7_code, 8, none, 1, 3, 1),
  (⟨"RepeaterWires$Choices", "driveAll", "(LRepeaterWires$Net;ILRepeaterWires$Front;LRepeaterWires$Front;)V"⟩, prog_3_method_8_code, 7, none, 1, 4, 1),
  (⟨"RepeaterWires$Choices", "pickPoints", "(LRepeaterWires$Net;)V"⟩, prog_3_method_9_code, 4, none, 1, 1, 1),
  (⟨"RepeaterWires$Draws", "<init>", "()V"⟩, prog_4_method_1_code, 1, none, 2, 0, 1),
  (⟨"RepeaterWires$Draws", "next", "(I)I"⟩, prog_4_method_2_code, 2, some (.int), 2, 1, 1),
  (⟨"RepeaterWires$Front", "<init>", "()V"⟩, prog_5_method_1_code, 1, none, 3, 0, 1),
  (⟨"RepeaterWires$Front", "clear", "()V"⟩, prog_5_method_2_code, 1, none, 3, 0, 1),
  (⟨"RepeaterWires$Front", "offer", "(III)V"⟩, prog_5_method_3_code, 5, none, 3, 3, 1),
  (⟨"RepeaterWires$Front", "swapWith", "(LRepeaterWires$Front;)V"⟩, prog_5_method_4_code, 6, none, 3, 1, 1),
  (⟨"RepeaterWires$Front", "standsAhead", "(III)Z"⟩, prog_5_method_5_code, 4, some (.boolean), 3, 3, 1),
  (⟨"RepeaterWires$Front", "dropBeaten", "(III)V"⟩, prog_5_method_6_code, 6, none, 3, 3, 1),
  (⟨"RepeaterWires$Front", "insert", "(IIII)V"⟩, prog_5_method_7_code, 5, none, 3, 4, 1),
  (⟨"RepeaterWires$Front", "widen", "()Z"⟩, prog_5_method_8_code, 2, some (.boolean), 3, 0, 1),
  (⟨"RepeaterWires$Net", "<init>", "()V"⟩, prog_6_method_1_code, 1, none, 4, 0, 1),
  (⟨"RepeaterWires$Net", "copyFrom", "(LRepeaterWires$Net;)V"⟩, prog_6_method_2_code, 2, none, 4, 1, 1),
  (⟨"RepeaterWires$Net", "hasNode", "(I)Z"⟩, prog_6_method_3_code, 2, some (.boolean), 4, 1, 1),
  (⟨"RepeaterWires$Net", "hasKind", "(I)Z"⟩, prog_6_method_4_code, 2, some (.boolean), 4, 1, 1),
  (⟨"RepeaterWires$Net", "canBePlaced", "(I)Z"⟩, prog_6_method_5_code, 2, some (.boolean), 4, 1, 1),
  (⟨"RepeaterWires$Net", "hasRoom", "()Z"⟩, prog_6_method_6_code, 1, some (.boolean), 4, 0, 1),
  (⟨"RepeaterWires$Net", "ends", "()I"⟩, prog_6_method_7_code, 4, some (.int), 4, 0, 1),
  (⟨"RepeaterWires$Net", "isEnd", "(I)Z"⟩, prog_6_method_8_code, 2, some (.boolean), 4, 1, 1),
  (⟨"RepeaterWires$Net", "isPlaced", "(I)Z"⟩, prog_6_method_9_code, 3, some (.boolean), 4, 1, 1),
  (⟨"RepeaterWires$Net", "costOfAll", "()I"⟩, prog_6_method_10_code, 3, some (.int), 4, 0, 1),
  (⟨"RepeaterWires$Net", "grow", "(III)I"⟩, prog_6_method_11_code, 5, some (.int), 4, 3, 1),
  (⟨"RepeaterWires$Net", "tellEnd", "(IIII)V"⟩, prog_6_method_12_code, 5, none, 4, 4, 1),
  (⟨"RepeaterWires$Net", "wireTime", "(II)I"⟩, prog_6_method_13_code, 4, some (.int), 4, 2, 1),
  (⟨"RepeaterWires$Past", "<init>", "()V"⟩, prog_7_method_1_code, 2, none, 5, 0, 1),
  (⟨"RepeaterWires$Past", "push", "(LRepeaterWires$Net;)V"⟩, prog_7_method_2_code, 2, none, 5, 1, 1),
  (⟨"RepeaterWires$Past", "goBackBy", "(ILRepeaterWires$Net;)V"⟩, prog_7_method_3_code, 3, none, 5, 2, 1),
  (⟨"RepeaterWires$Timing", "<init>", "()V"⟩, prog_8_method_1_code, 1, none, 6, 0, 1),
  (⟨"RepeaterWires$Timing", "of", "(LRepeaterWires$Net;)LRepeaterWires$Timing;"⟩, prog_8_method_2_code, 3, some ((.object "RepeaterWires$Timing")), 6, 1, 1),
  (⟨"RepeaterWires$Timing", "weigh", "(LRepeaterWires$Net;I)V"⟩, prog_8_method_3_code, 5, none, 6, 2, 1),
  (⟨"RepeaterWires$Timing", "run", "(LRepeaterWires$Net;)V"⟩, prog_8_method_4_code, 5, none, 6, 1, 1),
  (⟨"RepeaterWires$Timing", "judge", "(LRepeaterWires$Net;I)V"⟩, prog_8_method_5_code, 4, none, 6, 2, 1),
  (⟨"RepeaterWires", "<init>", "()V"⟩, prog_1_method_1_code, 2, none, 7, 0, 1),
  (⟨"RepeaterWires", "told", "(I)I"⟩, prog_1_method_2_code, 2, some (.int), 7, 1, 1),
  (⟨"RepeaterWires", "at", "(II)I"⟩, prog_1_method_3_code, 3, some (.int), 7, 2, 1),
  (⟨"RepeaterWires", "kindAt", "(II)I"⟩, prog_1_method_4_code, 3, some (.int), 7, 2, 1),
  (⟨"RepeaterWires", "candidates", "(II)I"⟩, prog_1_method_5_code, 3, some (.int), 7, 2, 1),
  (⟨"RepeaterWires", "candidate", "(IIII)I"⟩, prog_1_method_6_code, 6, some (.int), 7, 4, 1),
  (⟨"RepeaterWires", "point", "(II)I"⟩, prog_1_method_7_code, 4, some (.int), 7, 2, 1),
  (⟨"RepeaterWires", "best", "(I)I"⟩, prog_1_method_8_code, 5, some (.int), 7, 1, 1),
  (⟨"RepeaterWires", "least", "(I)I"⟩, prog_1_method_9_code, 4, some (.int), 7, 1, 1),
  (⟨"RepeaterWires", "would", "(II)I"⟩, prog_1_method_10_code, 3, some (.int), 7, 2, 1),
  (⟨"RepeaterWires", "node", "(III)I"⟩, prog_1_method_11_code, 4, some (.int), 7, 3, 1),
  (⟨"RepeaterWires", "end", "(IIII)I"⟩, prog_1_method_12_code, 5, some (.int), 7, 4, 1),
  (⟨"RepeaterWires", "wire", "(IIII)I"⟩, prog_1_method_13_code, 5, some (.int), 7, 4, 1),
  (⟨"RepeaterWires", "pull", "(I)I"⟩, prog_1_method_14_code, 3, some (.int), 7, 1, 1),
  (⟨"RepeaterWires", "kind", "(IIIIII)I"⟩, prog_1_method_15_code, 8, some (.int), 7, 6, 1),
  (⟨"RepeaterWires", "drop", "(I)I"⟩, prog_1_method_16_code, 2, some (.int), 7, 1, 1),
  (⟨"RepeaterWires", "place", "(II)I"⟩, prog_1_method_17_code, 4, some (.int), 7, 2, 1),
  (⟨"RepeaterWires", "take", "()I"⟩, prog_1_method_18_code, 1, some (.int), 7, 0, 1),
  (⟨"RepeaterWires", "change", "()I"⟩, prog_1_method_19_code, 2, some (.int), 7, 0, 1),
  (⟨"RepeaterWires", "drift", "(I)I"⟩, prog_1_method_20_code, 3, some (.int), 7, 1, 1),
  (⟨"RepeaterWires", "undo", "(I)I"⟩, prog_1_method_21_code, 2, some (.int), 7, 1, 1),
  (⟨"RepeaterWires", "write", "(II)I"⟩, prog_1_method_22_code, 3, some (.int), 7, 2, 1),
  (⟨"RepeaterWires", "tear", "()I"⟩, prog_1_method_23_code, 2, some (.int), 7, 0, 1),
  (⟨"RepeaterWires", "seed", "(I)I"⟩, prog_1_method_24_code, 3, some (.int), 7, 1, 1),
  (⟨"RepeaterWires", "keep", "(I)I"⟩, prog_1_method_25_code, 2, some (.int), 7, 1, 1),
  (⟨"RepeaterWires", "goBack", "(I)I"⟩, prog_1_method_26_code, 2, some (.int), 7, 1, 1),
  (⟨"RepeaterWires", "within", "(III)Z"⟩, prog_1_method_27_code, 3, some (.boolean), 7, 3, 0),
  (⟨"RepeaterWires", "deedComes", "()V"⟩, prog_1_method_28_code, 1, none, 7, 0, 1),
  (⟨"RepeaterWires", "growByDraws", "()V"⟩, prog_1_method_29_code, 8, none, 7, 0, 1),
  (⟨"RepeaterWires", "ofWire", "(II)I"⟩, prog_1_method_30_code, 3, some (.int), 7, 2, 1),
  (⟨"RepeaterWires", "ofEnd", "(II)I"⟩, prog_1_method_31_code, 3, some (.int), 7, 2, 1),
  (⟨"RepeaterWires", "ofTiming", "(II)I"⟩, prog_1_method_32_code, 3, some (.int), 7, 2, 1),
  (⟨"RepeaterWires", "widest", "()I"⟩, prog_1_method_33_code, 4, some (.int), 7, 0, 1),
  (⟨"RepeaterWires", "findChange", "()I"⟩, prog_1_method_34_code, 9, some (.int), 7, 0, 1),
  (⟨"RepeaterWiresModel", "<init>", "()V"⟩, prog_10_method_1_code, 1, none, 8, 0, 1),
  (⟨"RepeaterWiresModel", "in", "(III)Z"⟩, prog_10_method_2_code, 3, some (.boolean), 8, 3, 0),
  (⟨"RepeaterWiresModel", "of", "(II)I"⟩, prog_10_method_3_code, 3, some (.int), 8, 2, 1),
  (⟨"RepeaterWiresModel", "ofKind", "(II)I"⟩, prog_10_method_4_code, 3, some (.int), 8, 2, 1),
  (⟨"RepeaterWiresModel", "isNode", "(I)Z"⟩, prog_10_method_5_code, 2, some (.boolean), 8, 1, 1),
  (⟨"RepeaterWiresModel", "isKind", "(I)Z"⟩, prog_10_method_6_code, 2, some (.boolean), 8, 1, 1),
  (⟨"RepeaterWiresModel", "isEnd", "(I)Z"⟩, prog_10_method_7_code, 4, some (.boolean), 8, 1, 1),
  (⟨"RepeaterWiresModel", "isBelow", "(II)Z"⟩, prog_10_method_8_code, 4, some (.boolean), 8, 2, 1),
  (⟨"RepeaterWiresModel", "asPlaced", "()V"⟩, prog_10_method_9_code, 2, none, 8, 0, 1),
  (⟨"RepeaterWiresModel", "weighs", "()V"⟩, prog_10_method_10_code, 4, none, 8, 0, 1),
  (⟨"RepeaterWiresModel", "adds", "(I)I"⟩, prog_10_method_11_code, 2, some (.int), 8, 1, 1),
  (⟨"RepeaterWiresModel", "runs", "(III)V"⟩, prog_10_method_12_code, 8, none, 8, 3, 1),
  (⟨"RepeaterWiresModel", "runsAll", "()V"⟩, prog_10_method_13_code, 1, none, 8, 0, 1),
  (⟨"RepeaterWiresModel", "slack", "(I)I"⟩, prog_10_method_14_code, 5, some (.int), 8, 1, 1),
  (⟨"RepeaterWiresModel", "wrong", "(I)I"⟩, prog_10_method_15_code, 4, some (.int), 8, 1, 1),
  (⟨"RepeaterWiresModel", "cost", "(I)I"⟩, prog_10_method_16_code, 4, some (.int), 8, 1, 1),
  (⟨"RepeaterWiresModel", "slackNow", "()I"⟩, prog_10_method_17_code, 1, some (.int), 8, 0, 1),
  (⟨"RepeaterWiresModel", "isNext", "(I)Z"⟩, prog_10_method_18_code, 3, some (.boolean), 8, 1, 1),
  (⟨"RepeaterWiresModel", "isBeaten", "(IIIIII)Z"⟩, prog_10_method_19_code, 6, some (.boolean), 8, 6, 0),
  (⟨"RepeaterWiresModel", "meets", "(III)V"⟩, prog_10_method_20_code, 6, none, 8, 3, 1),
  (⟨"RepeaterWiresModel", "seeks", "(II)V"⟩, prog_10_method_21_code, 4, none, 8, 2, 1),
  (⟨"RepeaterWiresModel", "seeksPoints", "()V"⟩, prog_10_method_22_code, 2, none, 8, 0, 1),
  (⟨"RepeaterWiresModel", "widest", "()I"⟩, prog_10_method_23_code, 4, some (.int), 8, 0, 1),
  (⟨"RepeaterWiresModel", "changeNow", "()I"⟩, prog_10_method_24_code, 8, some (.int), 8, 0, 1),
  (⟨"RepeaterWiresModel", "wrongEntry", "()I"⟩, prog_10_method_25_code, 3, some (.int), 8, 0, 1),
  (⟨"RepeaterWiresModel", "ends", "()I"⟩, prog_10_method_26_code, 3, some (.int), 8, 0, 1),
  (⟨"RepeaterWiresModel", "worst", "()I"⟩, prog_10_method_27_code, 3, some (.int), 8, 0, 1),
  (⟨"RepeaterWiresModel", "kindsThere", "()I"⟩, prog_10_method_28_code, 3, some (.int), 8, 0, 1),
  (⟨"RepeaterWiresModel", "told", "(I)I"⟩, prog_10_method_29_code, 2, some (.int), 8, 1, 1),
  (⟨"RepeaterWiresModel", "toldMore", "(I)I"⟩, prog_10_method_30_code, 2, some (.int), 8, 1, 1),
  (⟨"RepeaterWiresModel", "at", "(II)I"⟩, prog_10_method_31_code, 3, some (.int), 8, 2, 1),
  (⟨"RepeaterWiresModel", "kindAt", "(II)I"⟩, prog_10_method_32_code, 3, some (.int), 8, 2, 1),
  (⟨"RepeaterWiresModel", "candidates", "(II)I"⟩, prog_10_method_33_code, 3, some (.int), 8, 2, 1),
  (⟨"RepeaterWiresModel", "candidate", "(IIII)I"⟩, prog_10_method_34_code, 5, some (.int), 8, 4, 1),
  (⟨"RepeaterWiresModel", "point", "(II)I"⟩, prog_10_method_35_code, 3, some (.int), 8, 2, 1),
  (⟨"RepeaterWiresModel", "best", "(I)I"⟩, prog_10_method_36_code, 5, some (.int), 8, 1, 1),
  (⟨"RepeaterWiresModel", "least", "(I)I"⟩, prog_10_method_37_code, 4, some (.int), 8, 1, 1),
  (⟨"RepeaterWiresModel", "isPlaceable", "(II)Z"⟩, prog_10_method_38_code, 3, some (.boolean), 8, 2, 1),
  (⟨"RepeaterWiresModel", "would", "(II)I"⟩, prog_10_method_39_code, 3, some (.int), 8, 2, 1),
  (⟨"RepeaterWiresModel", "deed", "()V"⟩, prog_10_method_40_code, 2, none, 8, 0, 1),
  (⟨"RepeaterWiresModel", "sets", "(III)V"⟩, prog_10_method_41_code, 4, none, 8, 3, 1),
  (⟨"RepeaterWiresModel", "comes", "(III)I"⟩, prog_10_method_42_code, 5, some (.int), 8, 3, 1),
  (⟨"RepeaterWiresModel", "node", "(III)I"⟩, prog_10_method_43_code, 4, some (.int), 8, 3, 1),
  (⟨"RepeaterWiresModel", "end", "(IIII)I"⟩, prog_10_method_44_code, 5, some (.int), 8, 4, 1),
  (⟨"RepeaterWiresModel", "wire", "(IIII)I"⟩, prog_10_method_45_code, 5, some (.int), 8, 4, 1),
  (⟨"RepeaterWiresModel", "pull", "(I)I"⟩, prog_10_method_46_code, 3, some (.int), 8, 1, 1),
  (⟨"RepeaterWiresModel", "kind", "(IIIIII)I"⟩, prog_10_method_47_code, 9, some (.int), 8, 6, 1),
  (⟨"RepeaterWiresModel", "drop", "(I)I"⟩, prog_10_method_48_code, 3, some (.int), 8, 1, 1),
  (⟨"RepeaterWiresModel", "place", "(II)I"⟩, prog_10_method_49_code, 4, some (.int), 8, 2, 1),
  (⟨"RepeaterWiresModel", "take", "()I"⟩, prog_10_method_50_code, 1, some (.int), 8, 0, 1),
  (⟨"RepeaterWiresModel", "change", "()I"⟩, prog_10_method_51_code, 2, some (.int), 8, 0, 1),
  (⟨"RepeaterWiresModel", "draws", "(I)I"⟩, prog_10_method_52_code, 2, some (.int), 8, 1, 1),
  (⟨"RepeaterWiresModel", "drift", "(I)I"⟩, prog_10_method_53_code, 7, some (.int), 8, 1, 1),
  (⟨"RepeaterWiresModel", "undo", "(I)I"⟩, prog_10_method_54_code, 3, some (.int), 8, 1, 1),
  (⟨"RepeaterWiresModel", "write", "(II)I"⟩, prog_10_method_55_code, 3, some (.int), 8, 2, 1),
  (⟨"RepeaterWiresModel", "tear", "()I"⟩, prog_10_method_56_code, 2, some (.int), 8, 0, 1),
  (⟨"RepeaterWiresModel", "seed", "(I)I"⟩, prog_10_method_57_code, 3, some (.int), 8, 1, 1),
  (⟨"RepeaterWiresModel", "keep", "(I)I"⟩, prog_10_method_58_code, 3, some (.int), 8, 1, 1),
  (⟨"RepeaterWiresModel", "goBack", "(I)I"⟩, prog_10_method_59_code, 3, some (.int), 8, 1, 1),
  (⟨"java/lang/Integer", "bitCount", "(I)I"⟩, prog_12_method_49_code, 1, some (.int), 12, 1, 0),
  (⟨"java/lang/Math", "max", "(II)I"⟩, prog_13_method_65_code, 2, some (.int), 11, 2, 0),
  (⟨"java/lang/Math", "min", "(II)I"⟩, prog_13_method_69_code, 2, some (.int), 11, 2, 0),
  (⟨"java/util/Arrays", "copyOf", "([II)[I"⟩, prog_15_method_123_code, 3, some ((.array .int)), 10, 2, 0),
  (⟨"RepeaterWiresLaw", "law", "([I)Z"⟩, code, 4, some .boolean, 9, 1, 0)]
def MTD : mtT := (⟨"", "", ""⟩, ⟨#[]⟩, 0, none, 0, 0, 0)
def mT (q : Nat) : mtT := MTL.getD q MTD
def mY (q : Nat) : MethodName := (mT q).1
def mB (q : Nat) : ByteArray := (mT q).2.1
def mL (q : Nat) : Nat := (mT q).2.2.1
def mR (q : Nat) : Option FieldType := (mT q).2.2.2.1
def mO (q : Nat) : Nat := (mT q).2.2.2.2.1
def mN (q : Nat) : Nat := (mT q).2.2.2.2.2.1
def mS (q : Nat) : Nat := (mT q).2.2.2.2.2.2
def MPL : List (Nat × Nat × Nat) := [(284, 283, 0), (646, 644, 645), (479, 477, 478), (210, 209, 0), (563, 561, 562), (428, 426, 427), (377, 375, 376), (382, 381, 3), (432, 431, 8), (442, 441, 9), (450, 449, 10), (454, 453, 11), (301, 300, 0), (626, 624, 625), (217, 216, 0), (386, 384, 385), (390, 388, 389), (438, 436, 437), (394, 393, 4), (398, 397, 5), (422, 421, 7), (402, 401, 6), (76, 75, 0), (462, 460, 461), (488, 486, 487), (446, 444, 445), (474, 472, 473), (548, 546, 547), (347, 345, 346), (500, 498, 499), (596, 594, 595), (351, 349, 350), (567, 565, 566), (571, 569, 570), (368, 366, 367), (264, 263, 0), (557, 555, 556), (638, 636, 637), (174, 173, 0), (355, 353, 354), (360, 359, 0), (364, 363, 1), (372, 371, 2), (68, 67, 0), (343, 341, 342), (484, 482, 483), (513, 511, 512), (518, 516, 517), (523, 521, 522), (527, 525, 526), (531, 529, 530), (535, 533, 534), (539, 537, 538), (544, 542, 543), (575, 573, 574), (580, 578, 579), (584, 582, 583), (588, 586, 587), (592, 590, 591), (606, 604, 605), (610, 608, 609), (614, 612, 613), (618, 616, 617), (634, 632, 633), (642, 640, 641), (650, 648, 649), (654, 652, 653), (658, 656, 657), (662, 660, 661), (492, 491, 0), (553, 552, 17), (622, 621, 18), (496, 495, 14), (505, 504, 15), (509, 508, 16), (458, 457, 12), (470, 469, 13), (667, 666, 0), (756, 755, 0), (745, 744, 21), (760, 759, 24), (841, 840, 43), (753, 752, 23), (741, 740, 20), (772, 771, 27), (764, 763, 25), (784, 783, 30), (792, 791, 32), (788, 787, 31), (780, 779, 29), (796, 795, 33), (806, 805, 35), (768, 767, 26), (776, 775, 28), (821, 820, 38), (817, 816, 0), (814, 813, 37), (859, 858, 44), (810, 809, 36), (825, 824, 39), (833, 832, 41), (837, 836, 42), (737, 736, 19), (802, 801, 34), (749, 748, 22), (733, 731, 732), (829, 828, 40), (846, 844, 845), (851, 849, 850), (855, 853, 854), (863, 861, 862), (867, 865, 866), (871, 869, 870), (875, 873, 874), (883, 882, 45), (879, 877, 878), (893, 892, 46), (901, 900, 48), (897, 896, 47), (888, 886, 887), (905, 903, 904), (909, 907, 908), (913, 911, 912), (917, 915, 916), (921, 919, 920), (925, 923, 924), (929, 927, 928), (933, 931, 932), (941, 940, 49), (937, 935, 936), (949, 947, 948), (953, 951, 952), (957, 955, 956), (961, 959, 960), (965, 963, 964), (969, 967, 968), (599, 598, 0), (466, 465, 0), (415, 414, 0), (405, 404, 0), (0, 0, 0)]
def mP (q : Nat) : Nat × Nat × Nat := MPL.getD q (0, 0, 0)
def qLaw : Nat := 140
theorem mi_pl : ∀ q, q < 140 → lw_tbl[(mP q).2.1]? = some (if mS q = 0 then .static (mY q) else .instanceMethod (mY q)) := by decide +kernel
theorem ms_pl : ∀ q, q < 140 → mS q = 1 → (mY q).name ≠ "<init>" → lw_tbl[(mP q).2.2]? = some (.selects (mY q).cls (mY q) (mY q)) := by decide +kernel
theorem mo_ok : ∀ q, q < 140 → (mY q).cls = RN (mO q) ∧ mO q < 13 ∧ mL q ≤ 16 := by decide +kernel
theorem mh_ok : ∀ c, c < 13 → RN c ≠ "java/lang/invoke/MethodHandle" ∧ RN c ≠ "java/lang/invoke/VarHandle" := by decide +kernel
theorem mq_ok : ∀ q, q < 140 → plainFor (mY q) = true := by decide +kernel
theorem md_ok : ∀ q, q < 140 → (parseMethodDescriptor (mY q).desc).map (fun d => d.parameters.length) = some (mN q) := by decide +kernel
def FLK : List (Nat × Nat × Nat × Nat × Nat) := [(0, 9, 0, 0, 286), (0, 15, 0, 1, 287), (0, 18, 0, 2, 288), (1, 11, 1, 0, 240), (1, 18, 1, 1, 241), (1, 22, 1, 2, 243), (1, 25, 1, 3, 244), (1, 28, 1, 4, 245), (1, 31, 1, 5, 246), (1, 41, 4, 0, 81), (1, 68, 4, 9, 111), (1, 72, 4, 7, 104), (1, 75, 4, 8, 107), (1, 83, 4, 3, 90), (1, 90, 4, 5, 96), (1, 93, 4, 6, 100), (1, 96, 3, 0, 221), (1, 97, 3, 1, 223), (1, 100, 3, 2, 226), (1, 112, 3, 3, 229), (1, 119, 4, 15, 135), (1, 125, 4, 13, 128), (1, 128, 4, 12, 124), (1, 131, 4, 11, 120), (1, 134, 4, 14, 131), (1, 137, 4, 1, 85), (2, 7, 2, 0, 303), (3, 9, 3, 0, 219), (3, 15, 3, 1, 222), (3, 19, 3, 2, 225), (3, 22, 3, 3, 228), (4, 9, 4, 0, 78), (4, 15, 4, 1, 82), (4, 18, 4, 2, 86), (4, 21, 4, 3, 88), (4, 25, 4, 4, 92), (4, 28, 4, 5, 94), (4, 31, 4, 6, 98), (4, 34, 4, 7, 102), (4, 37, 4, 8, 106), (4, 40, 4, 9, 110), (4, 43, 4, 10, 114), (4, 46, 4, 11, 117), (4, 49, 4, 12, 121), (4, 52, 4, 13, 125), (4, 55, 4, 14, 129), (4, 58, 4, 15, 132), (5, 11, 5, 0, 269), (5, 17, 5, 1, 270), (5, 21, 5, 2, 271), (6, 9, 6, 0, 177), (6, 15, 6, 1, 179), (6, 18, 6, 2, 181), (6, 21, 6, 3, 183), (6, 25, 6, 4, 185), (6, 29, 6, 5, 187), (6, 32, 6, 6, 189), (6, 52, 4, 0, 80), (6, 55, 4, 7, 103), (6, 58, 4, 10, 115), (6, 61, 4, 11, 118), (6, 64, 4, 3, 89), (6, 67, 4, 5, 95), (6, 70, 4, 6, 99), (6, 73, 4, 1, 84), (6, 80, 4, 13, 127), (6, 83, 4, 12, 123), (6, 86, 4, 15, 134), (6, 89, 4, 8, 108), (6, 92, 4, 9, 112), (7, 10, 7, 0, 308), (7, 16, 7, 1, 309), (7, 22, 7, 2, 310), (7, 29, 7, 3, 311), (7, 36, 7, 4, 312), (7, 43, 7, 5, 313), (7, 50, 7, 6, 314), (7, 54, 7, 7, 315), (7, 58, 7, 8, 316), (7, 62, 7, 9, 317), (7, 66, 4, 0, 79), (7, 74, 4, 1, 83), (7, 77, 4, 2, 87), (7, 87, 6, 4, 186), (7, 91, 6, 5, 188), (7, 94, 6, 6, 190), (7, 100, 1, 1, 242), (7, 104, 3, 0, 220), (7, 113, 0, 2, 289), (7, 114, 6, 2, 182), (7, 121, 5, 2, 272), (7, 122, 2, 0, 304), (7, 145, 4, 10, 116), (7, 154, 4, 11, 119), (7, 157, 4, 12, 122), (7, 160, 4, 13, 126), (7, 163, 4, 14, 130), (7, 166, 4, 15, 133), (7, 173, 3, 1, 224), (7, 176, 3, 2, 227), (7, 178, 3, 3, 230), (7, 205, 4, 4, 93), (7, 208, 4, 5, 97), (7, 211, 4, 6, 101), (7, 243, 4, 3, 91), (7, 246, 4, 7, 105), (7, 249, 4, 8, 109), (7, 252, 4, 9, 113), (7, 255, 6, 0, 178), (7, 258, 6, 1, 180), (7, 259, 6, 3, 184), (8, 7, 8, 0, 669), (8, 13, 8, 2, 671), (8, 16, 8, 4, 673), (8, 19, 8, 5, 674), (8, 23, 8, 6, 675), (8, 26, 8, 7, 676), (8, 29, 8, 9, 678), (8, 32, 8, 10, 679), (8, 35, 8, 11, 680), (8, 38, 8, 12, 681), (8, 41, 8, 13, 682), (8, 44, 8, 14, 683), (8, 47, 8, 15, 684), (8, 50, 8, 16, 685), (8, 53, 8, 17, 686), (8, 99, 8, 18, 687), (8, 119, 8, 19, 688), (8, 126, 8, 8, 677), (8, 157, 8, 3, 672), (8, 160, 8, 1, 670)]
theorem FLK_pl : ∀ x ∈ FLK, lw_tbl[x.2.2.2.2]? = some (.fieldLink (RN x.1) x.2.1 (TF x.2.2.1 x.2.2.2.1).1 (TF x.2.2.1 x.2.2.2.1).2.1 (TF x.2.2.1 x.2.2.2.1).2.2.1) := by decide +kernel
theorem FLK_ok : ∀ x ∈ FLK, x.2.2.1 < 9 ∧ x.2.2.2.1 < NF x.2.2.1 := by decide +kernel
def MLK : List (Nat × Nat × Nat × Nat) := [(1, 35, 28, 378), (1, 45, 7, 379), (1, 49, 5, 425), (1, 53, 17, 435), (1, 57, 9, 439), (1, 61, 11, 451), (1, 65, 15, 383), (1, 78, 16, 387), (1, 86, 8, 429), (1, 103, 34, 433), (1, 107, 138, 434), (1, 115, 25, 443), (1, 122, 10, 447), (3, 25, 18, 391), (3, 29, 19, 395), (3, 33, 21, 399), (3, 37, 20, 419), (3, 47, 139, 403), (4, 67, 25, 475), (4, 71, 28, 501), (4, 75, 33, 568), (5, 25, 23, 558), (5, 29, 138, 559), (6, 35, 28, 356), (6, 41, 40, 357), (6, 45, 41, 361), (6, 49, 42, 369), (6, 76, 34, 365), (7, 28, 3, 208), (7, 35, 35, 262), (7, 70, 28, 344), (7, 80, 31, 348), (7, 83, 39, 352), (7, 97, 6, 374), (7, 107, 75, 455), (7, 110, 76, 467), (7, 117, 2, 476), (7, 126, 24, 485), (7, 131, 69, 490), (7, 135, 72, 493), (7, 139, 29, 497), (7, 142, 73, 502), (7, 148, 74, 506), (7, 151, 25, 514), (7, 169, 5, 519), (7, 181, 26, 471), (7, 185, 23, 459), (7, 189, 27, 545), (7, 194, 70, 550), (7, 197, 32, 564), (7, 201, 33, 576), (7, 214, 30, 593), (7, 217, 136, 597), (7, 223, 71, 619), (7, 226, 37, 635), (7, 230, 4, 560), (7, 233, 1, 643), (7, 237, 36, 554), (7, 240, 13, 623), (7, 262, 137, 464), (8, 56, 78, 754), (8, 60, 80, 757), (8, 64, 79, 742), (8, 67, 83, 738), (8, 71, 86, 781), (8, 74, 84, 769), (8, 78, 87, 789), (8, 82, 88, 785), (8, 87, 85, 761), (8, 90, 89, 777), (8, 93, 90, 793), (8, 96, 82, 750), (8, 103, 95, 815), (8, 107, 91, 803), (8, 110, 92, 765), (8, 113, 96, 811), (8, 116, 94, 818), (8, 122, 93, 773), (8, 129, 81, 838), (8, 132, 102, 734), (8, 135, 104, 746), (8, 139, 103, 799), (8, 142, 98, 807), (8, 145, 99, 822), (8, 148, 106, 826), (8, 151, 100, 830), (8, 154, 101, 834), (8, 165, 97, 856), (8, 169, 114, 880), (8, 173, 117, 898), (8, 177, 116, 890), (8, 180, 118, 894), (8, 191, 128, 938), (9, 9, 43, 66), (9, 12, 77, 665), (9, 13, 44, 340), (9, 17, 105, 730), (9, 18, 45, 481), (9, 22, 107, 843), (9, 23, 46, 510), (9, 26, 108, 848), (9, 27, 47, 515), (9, 30, 109, 852), (9, 31, 48, 520), (9, 35, 110, 860), (9, 36, 49, 524), (9, 39, 111, 864), (9, 40, 50, 528), (9, 43, 112, 868), (9, 44, 51, 532), (9, 47, 113, 872), (9, 48, 52, 536), (9, 51, 115, 876), (9, 52, 53, 541), (9, 56, 119, 885), (9, 57, 54, 572), (9, 60, 120, 902), (9, 61, 55, 577), (9, 64, 121, 906), (9, 65, 56, 581), (9, 68, 122, 910), (9, 69, 57, 585), (9, 73, 123, 914), (9, 74, 58, 589), (9, 77, 124, 918), (9, 78, 59, 603), (9, 81, 125, 922), (9, 82, 60, 607), (9, 86, 126, 926), (9, 87, 61, 611), (9, 90, 127, 930), (9, 91, 62, 615), (9, 94, 129, 934), (9, 95, 63, 631), (9, 98, 130, 946), (9, 99, 64, 639), (9, 102, 131, 950), (9, 103, 65, 647), (9, 106, 132, 954), (9, 107, 66, 651), (9, 110, 133, 958), (9, 111, 67, 655), (9, 114, 134, 962), (9, 115, 68, 659), (9, 118, 135, 966), (10, 304, 138, 413)]
theorem MLK_pl : ∀ x ∈ MLK, lw_tbl[x.2.2.2]? = some (.methodLink (RN x.1) x.2.1 (mY x.2.2.1)) := by decide +kernel
def NLK : List (Nat × Nat × Nat × Nat) := [(1, 17, 14, 215), (5, 24, 22, 268), (7, 9, 22, 74), (7, 21, 38, 172), (7, 42, 0, 282), (7, 49, 12, 299)]
theorem NLK_pl : ∀ x ∈ NLK, lw_tbl[x.2.2.2]? = some (.methodLinkNest (RN x.1) x.2.1 (mY x.2.2.1) "RepeaterWires") := by decide +kernel
def CLK : List (Nat × Nat × Nat × Nat) := [(1, 9, 3, 212), (5, 9, 4, 266), (7, 7, 4, 72), (7, 19, 6, 170), (7, 26, 1, 206), (7, 33, 5, 260), (7, 40, 0, 280), (7, 47, 2, 297), (9, 7, 7, 64), (9, 10, 8, 663)]
theorem CLK_pl : ∀ x ∈ CLK, lw_tbl[x.2.2.2]? = some (.classLink (RN x.1) x.2.1 (RN x.2.2.1)) := by decide +kernel
def CST : List (Nat × Nat × Int × Nat) := [(1, 82, 900000, 424), (2, 19, 65536, 630), (6, 24, 900000, 176), (7, 90, 1000000, 373), (7, 125, -1000000002, 480), (7, 130, -1000000001, 489), (7, 184, -1000000003, 540), (7, 193, -1000000004, 549), (8, 86, 900000, 797), (8, 138, 1000000, 798), (8, 163, -1000000002, 842), (8, 164, -1000000001, 847), (8, 172, -1000000003, 884), (8, 176, -1000000004, 889), (8, 190, 65536, 945), (12, 265, 1431655765, 600), (12, 266, 858993459, 601), (12, 267, 252645135, 602)]
theorem CST_pl : ∀ x ∈ CST, lw_tbl[x.2.2.2]? = some (.constant (RN x.1) x.2.1 (Int32.ofInt x.2.2.1)) := by decide +kernel
def CSL : List (Nat × Nat × Int × Nat) := [(2, 13, 1103515245, 627), (2, 15, 12345, 628), (2, 17, 2147483647, 629), (8, 184, 1103515245, 942), (8, 186, 12345, 943), (8, 188, 2147483648, 944)]
theorem CSL_pl : ∀ x ∈ CSL, lw_tbl[x.2.2.2]? = some (.constantLong (RN x.1) x.2.1 (Int64.ofInt x.2.2.1)) := by decide +kernel
def OIL : List (Nat × Nat × Nat) := [(0, 3, 285), (1, 3, 211), (2, 1, 302), (3, 3, 218), (4, 3, 77), (5, 3, 265), (6, 3, 175), (7, 1, 69), (8, 1, 668)]
theorem OIL_pl : ∀ x ∈ OIL, lw_tbl[x.2.2]? = some (.methodLink (RN x.1) x.2.1 objectInit) := by decide +kernel
def ACL : List (Nat × Nat × Nat) := [(3, 41, 423), (4, 61, 463), (10, 150, 416)]
theorem ACL_pl : ∀ x ∈ ACL, lw_tbl[x.2.2]? = some (.methodLink (RN x.1) x.2.1 arraycopyName) := by decide +kernel
theorem obj_pl : lw_tbl[70]? = some (.instanceMethod objectInit) ∧ lw_tbl[71]? = some (.code objectInit ⟨#[0xb1]⟩ 1 none) := by decide +kernel
theorem acp_pl : lw_tbl[418]? = some (.native arraycopyName) ∧ lw_tbl[417]? = some (.static arraycopyName) ∧ lw_tbl[62]? = some (.initialized "java/lang/System") := by decide +kernel
theorem arr_pl : lw_tbl[169]? = some (.arrayClass .int) ∧ lw_tbl[339]? = some (.arrayClass .boolean) ∧ lw_tbl[213]? = some (.arrayOver (.object (RN 3))) ∧ lw_tbl[267]? = some (.arrayOver (.object (RN 4))) := by decide +kernel
end
section
/-! each method's bytes, by their place in lw_tbl; printed by wip/whole/gen.py -/
set_option maxRecDepth 100000 in
theorem mc_0 : lw_tbl[284]? = some (.code (mY 0) (mB 0) (mL 0) (mR 0)) := rfl
set_option maxRecDepth 100000 in
theorem mc_1 : lw_tbl[646]? = some (.code (mY 1) (mB 1) (mL 1) (mR 1)) := rfl
set_option maxRecDepth 100000 in
theorem mc_2 : lw_tbl[479]? = some (.code (mY 2) (mB 2) (mL 2) (mR 2)) := rfl
set_option maxRecDepth 100000 in
theorem mc_3 : lw_tbl[210]? = some (.code (mY 3) (mB 3) (mL 3) (mR 3)) := rfl
set_option maxRecDepth 100000 in
theorem mc_4 : lw_tbl[563]? = some (.code (mY 4) (mB 4) (mL 4) (mR 4)) := rfl
set_option maxRecDepth 100000 in
theorem mc_5 : lw_tbl[428]? = some (.code (mY 5) (mB 5) (mL 5) (mR 5)) := rfl
set_option maxRecDepth 100000 in
theorem mc_6 : lw_tbl[377]? = some (.code (mY 6) (mB 6) (mL 6) (mR 6)) := rfl
set_option maxRecDepth 100000 in
theorem mc_7 : lw_tbl[382]? = some (.code (mY 7) (mB 7) (mL 7) (mR 7)) := rfl
set_option maxRecDepth 100000 in
theorem mc_8 : lw_tbl[432]? = some (.code (mY 8) (mB 8) (mL 8) (mR 8)) := rfl
set_option maxRecDepth 100000 in
theorem mc_9 : lw_tbl[442]? = some (.code (mY 9) (mB 9) (mL 9) (mR 9)) := rfl
set_option maxRecDepth 100000 in
theorem mc_10 : lw_tbl[450]? = some (.code (mY 10) (mB 10) (mL 10) (mR 10)) := rfl
set_option maxRecDepth 100000 in
theorem mc_11 : lw_tbl[454]? = some (.code (mY 11) (mB 11) (mL 11) (mR 11)) := rfl
set_option maxRecDepth 100000 in
theorem mc_12 : lw_tbl[301]? = some (.code (mY 12) (mB 12) (mL 12) (mR 12)) := rfl
set_option maxRecDepth 100000 in
theorem mc_13 : lw_tbl[626]? = some (.code (mY 13) (mB 13) (mL 13) (mR 13)) := rfl
set_option maxRecDepth 100000 in
theorem mc_14 : lw_tbl[217]? = some (.code (mY 14) (mB 14) (mL 14) (mR 14)) := rfl
set_option maxRecDepth 100000 in
theorem mc_15 : lw_tbl[386]? = some (.code (mY 15) (mB 15) (mL 15) (mR 15)) := rfl
set_option maxRecDepth 100000 in
theorem mc_16 : lw_tbl[390]? = some (.code (mY 16) (mB 16) (mL 16) (mR 16)) := rfl
set_option maxRecDepth 100000 in
theorem mc_17 : lw_tbl[438]? = some (.code (mY 17) (mB 17) (mL 17) (mR 17)) := rfl
set_option maxRecDepth 100000 in
theorem mc_18 : lw_tbl[394]? = some (.code (mY 18) (mB 18) (mL 18) (mR 18)) := rfl
set_option maxRecDepth 100000 in
theorem mc_19 : lw_tbl[398]? = some (.code (mY 19) (mB 19) (mL 19) (mR 19)) := rfl
set_option maxRecDepth 100000 in
theorem mc_20 : lw_tbl[422]? = some (.code (mY 20) (mB 20) (mL 20) (mR 20)) := rfl
set_option maxRecDepth 100000 in
theorem mc_21 : lw_tbl[402]? = some (.code (mY 21) (mB 21) (mL 21) (mR 21)) := rfl
set_option maxRecDepth 100000 in
theorem mc_22 : lw_tbl[76]? = some (.code (mY 22) (mB 22) (mL 22) (mR 22)) := rfl
set_option maxRecDepth 100000 in
theorem mc_23 : lw_tbl[462]? = some (.code (mY 23) (mB 23) (mL 23) (mR 23)) := rfl
set_option maxRecDepth 100000 in
theorem mc_24 : lw_tbl[488]? = some (.code (mY 24) (mB 24) (mL 24) (mR 24)) := rfl
set_option maxRecDepth 100000 in
theorem mc_25 : lw_tbl[446]? = some (.code (mY 25) (mB 25) (mL 25) (mR 25)) := rfl
set_option maxRecDepth 100000 in
theorem mc_26 : lw_tbl[474]? = some (.code (mY 26) (mB 26) (mL 26) (mR 26)) := rfl
set_option maxRecDepth 100000 in
theorem mc_27 : lw_tbl[548]? = some (.code (mY 27) (mB 27) (mL 27) (mR 27)) := rfl
set_option maxRecDepth 100000 in
theorem mc_28 : lw_tbl[347]? = some (.code (mY 28) (mB 28) (mL 28) (mR 28)) := rfl
set_option maxRecDepth 100000 in
theorem mc_29 : lw_tbl[500]? = some (.code (mY 29) (mB 29) (mL 29) (mR 29)) := rfl
set_option maxRecDepth 100000 in
theorem mc_30 : lw_tbl[596]? = some (.code (mY 30) (mB 30) (mL 30) (mR 30)) := rfl
set_option maxRecDepth 100000 in
theorem mc_31 : lw_tbl[351]? = some (.code (mY 31) (mB 31) (mL 31) (mR 31)) := rfl
set_option maxRecDepth 100000 in
theorem mc_32 : lw_tbl[567]? = some (.code (mY 32) (mB 32) (mL 32) (mR 32)) := rfl
set_option maxRecDepth 100000 in
theorem mc_33 : lw_tbl[571]? = some (.code (mY 33) (mB 33) (mL 33) (mR 33)) := rfl
set_option maxRecDepth 100000 in
theorem mc_34 : lw_tbl[368]? = some (.code (mY 34) (mB 34) (mL 34) (mR 34)) := rfl
set_option maxRecDepth 100000 in
theorem mc_35 : lw_tbl[264]? = some (.code (mY 35) (mB 35) (mL 35) (mR 35)) := rfl
set_option maxRecDepth 100000 in
theorem mc_36 : lw_tbl[557]? = some (.code (mY 36) (mB 36) (mL 36) (mR 36)) := rfl
set_option maxRecDepth 100000 in
theorem mc_37 : lw_tbl[638]? = some (.code (mY 37) (mB 37) (mL 37) (mR 37)) := rfl
set_option maxRecDepth 100000 in
theorem mc_38 : lw_tbl[174]? = some (.code (mY 38) (mB 38) (mL 38) (mR 38)) := rfl
set_option maxRecDepth 100000 in
theorem mc_39 : lw_tbl[355]? = some (.code (mY 39) (mB 39) (mL 39) (mR 39)) := rfl
set_option maxRecDepth 100000 in
theorem mc_40 : lw_tbl[360]? = some (.code (mY 40) (mB 40) (mL 40) (mR 40)) := rfl
set_option maxRecDepth 100000 in
theorem mc_41 : lw_tbl[364]? = some (.code (mY 41) (mB 41) (mL 41) (mR 41)) := rfl
set_option maxRecDepth 100000 in
theorem mc_42 : lw_tbl[372]? = some (.code (mY 42) (mB 42) (mL 42) (mR 42)) := rfl
set_option maxRecDepth 100000 in
theorem mc_43 : lw_tbl[68]? = some (.code (mY 43) (mB 43) (mL 43) (mR 43)) := rfl
set_option maxRecDepth 100000 in
theorem mc_44 : lw_tbl[343]? = some (.code (mY 44) (mB 44) (mL 44) (mR 44)) := rfl
set_option maxRecDepth 100000 in
theorem mc_45 : lw_tbl[484]? = some (.code (mY 45) (mB 45) (mL 45) (mR 45)) := rfl
set_option maxRecDepth 100000 in
theorem mc_46 : lw_tbl[513]? = some (.code (mY 46) (mB 46) (mL 46) (mR 46)) := rfl
set_option maxRecDepth 100000 in
theorem mc_47 : lw_tbl[518]? = some (.code (mY 47) (mB 47) (mL 47) (mR 47)) := rfl
set_option maxRecDepth 100000 in
theorem mc_48 : lw_tbl[523]? = some (.code (mY 48) (mB 48) (mL 48) (mR 48)) := rfl
set_option maxRecDepth 100000 in
theorem mc_49 : lw_tbl[527]? = some (.code (mY 49) (mB 49) (mL 49) (mR 49)) := rfl
set_option maxRecDepth 100000 in
theorem mc_50 : lw_tbl[531]? = some (.code (mY 50) (mB 50) (mL 50) (mR 50)) := rfl
set_option maxRecDepth 100000 in
theorem mc_51 : lw_tbl[535]? = some (.code (mY 51) (mB 51) (mL 51) (mR 51)) := rfl
set_option maxRecDepth 100000 in
theorem mc_52 : lw_tbl[539]? = some (.code (mY 52) (mB 52) (mL 52) (mR 52)) := rfl
set_option maxRecDepth 100000 in
theorem mc_53 : lw_tbl[544]? = some (.code (mY 53) (mB 53) (mL 53) (mR 53)) := rfl
set_option maxRecDepth 100000 in
theorem mc_54 : lw_tbl[575]? = some (.code (mY 54) (mB 54) (mL 54) (mR 54)) := rfl
set_option maxRecDepth 100000 in
theorem mc_55 : lw_tbl[580]? = some (.code (mY 55) (mB 55) (mL 55) (mR 55)) := rfl
set_option maxRecDepth 100000 in
theorem mc_56 : lw_tbl[584]? = some (.code (mY 56) (mB 56) (mL 56) (mR 56)) := rfl
set_option maxRecDepth 100000 in
theorem mc_57 : lw_tbl[588]? = some (.code (mY 57) (mB 57) (mL 57) (mR 57)) := rfl
set_option maxRecDepth 100000 in
theorem mc_58 : lw_tbl[592]? = some (.code (mY 58) (mB 58) (mL 58) (mR 58)) := rfl
set_option maxRecDepth 100000 in
theorem mc_59 : lw_tbl[606]? = some (.code (mY 59) (mB 59) (mL 59) (mR 59)) := rfl
set_option maxRecDepth 100000 in
theorem mc_60 : lw_tbl[610]? = some (.code (mY 60) (mB 60) (mL 60) (mR 60)) := rfl
set_option maxRecDepth 100000 in
theorem mc_61 : lw_tbl[614]? = some (.code (mY 61) (mB 61) (mL 61) (mR 61)) := rfl
set_option maxRecDepth 100000 in
theorem mc_62 : lw_tbl[618]? = some (.code (mY 62) (mB 62) (mL 62) (mR 62)) := rfl
set_option maxRecDepth 100000 in
theorem mc_63 : lw_tbl[634]? = some (.code (mY 63) (mB 63) (mL 63) (mR 63)) := rfl
set_option maxRecDepth 100000 in
theorem mc_64 : lw_tbl[642]? = some (.code (mY 64) (mB 64) (mL 64) (mR 64)) := rfl
set_option maxRecDepth 100000 in
theorem mc_65 : lw_tbl[650]? = some (.code (mY 65) (mB 65) (mL 65) (mR 65)) := rfl
set_option maxRecDepth 100000 in
theorem mc_66 : lw_tbl[654]? = some (.code (mY 66) (mB 66) (mL 66) (mR 66)) := rfl
set_option maxRecDepth 100000 in
theorem mc_67 : lw_tbl[658]? = some (.code (mY 67) (mB 67) (mL 67) (mR 67)) := rfl
set_option maxRecDepth 100000 in
theorem mc_68 : lw_tbl[662]? = some (.code (mY 68) (mB 68) (mL 68) (mR 68)) := rfl
set_option maxRecDepth 100000 in
theorem mc_69 : lw_tbl[492]? = some (.code (mY 69) (mB 69) (mL 69) (mR 69)) := rfl
set_option maxRecDepth 100000 in
theorem mc_70 : lw_tbl[553]? = some (.code (mY 70) (mB 70) (mL 70) (mR 70)) := rfl
set_option maxRecDepth 100000 in
theorem mc_71 : lw_tbl[622]? = some (.code (mY 71) (mB 71) (mL 71) (mR 71)) := rfl
set_option maxRecDepth 100000 in
theorem mc_72 : lw_tbl[496]? = some (.code (mY 72) (mB 72) (mL 72) (mR 72)) := rfl
set_option maxRecDepth 100000 in
theorem mc_73 : lw_tbl[505]? = some (.code (mY 73) (mB 73) (mL 73) (mR 73)) := rfl
set_option maxRecDepth 100000 in
theorem mc_74 : lw_tbl[509]? = some (.code (mY 74) (mB 74) (mL 74) (mR 74)) := rfl
set_option maxRecDepth 100000 in
theorem mc_75 : lw_tbl[458]? = some (.code (mY 75) (mB 75) (mL 75) (mR 75)) := rfl
set_option maxRecDepth 100000 in
theorem mc_76 : lw_tbl[470]? = some (.code (mY 76) (mB 76) (mL 76) (mR 76)) := rfl
set_option maxRecDepth 100000 in
theorem mc_77 : lw_tbl[667]? = some (.code (mY 77) (mB 77) (mL 77) (mR 77)) := rfl
set_option maxRecDepth 100000 in
theorem mc_78 : lw_tbl[756]? = some (.code (mY 78) (mB 78) (mL 78) (mR 78)) := rfl
set_option maxRecDepth 100000 in
theorem mc_79 : lw_tbl[745]? = some (.code (mY 79) (mB 79) (mL 79) (mR 79)) := rfl
set_option maxRecDepth 100000 in
theorem mc_80 : lw_tbl[760]? = some (.code (mY 80) (mB 80) (mL 80) (mR 80)) := rfl
set_option maxRecDepth 100000 in
theorem mc_81 : lw_tbl[841]? = some (.code (mY 81) (mB 81) (mL 81) (mR 81)) := rfl
set_option maxRecDepth 100000 in
theorem mc_82 : lw_tbl[753]? = some (.code (mY 82) (mB 82) (mL 82) (mR 82)) := rfl
set_option maxRecDepth 100000 in
theorem mc_83 : lw_tbl[741]? = some (.code (mY 83) (mB 83) (mL 83) (mR 83)) := rfl
set_option maxRecDepth 100000 in
theorem mc_84 : lw_tbl[772]? = some (.code (mY 84) (mB 84) (mL 84) (mR 84)) := rfl
set_option maxRecDepth 100000 in
theorem mc_85 : lw_tbl[764]? = some (.code (mY 85) (mB 85) (mL 85) (mR 85)) := rfl
set_option maxRecDepth 100000 in
theorem mc_86 : lw_tbl[784]? = some (.code (mY 86) (mB 86) (mL 86) (mR 86)) := rfl
set_option maxRecDepth 100000 in
theorem mc_87 : lw_tbl[792]? = some (.code (mY 87) (mB 87) (mL 87) (mR 87)) := rfl
set_option maxRecDepth 100000 in
theorem mc_88 : lw_tbl[788]? = some (.code (mY 88) (mB 88) (mL 88) (mR 88)) := rfl
set_option maxRecDepth 100000 in
theorem mc_89 : lw_tbl[780]? = some (.code (mY 89) (mB 89) (mL 89) (mR 89)) := rfl
set_option maxRecDepth 100000 in
theorem mc_90 : lw_tbl[796]? = some (.code (mY 90) (mB 90) (mL 90) (mR 90)) := rfl
set_option maxRecDepth 100000 in
theorem mc_91 : lw_tbl[806]? = some (.code (mY 91) (mB 91) (mL 91) (mR 91)) := rfl
set_option maxRecDepth 100000 in
theorem mc_92 : lw_tbl[768]? = some (.code (mY 92) (mB 92) (mL 92) (mR 92)) := rfl
set_option maxRecDepth 100000 in
theorem mc_93 : lw_tbl[776]? = some (.code (mY 93) (mB 93) (mL 93) (mR 93)) := rfl
set_option maxRecDepth 100000 in
theorem mc_94 : lw_tbl[821]? = some (.code (mY 94) (mB 94) (mL 94) (mR 94)) := rfl
set_option maxRecDepth 100000 in
theorem mc_95 : lw_tbl[817]? = some (.code (mY 95) (mB 95) (mL 95) (mR 95)) := rfl
set_option maxRecDepth 100000 in
theorem mc_96 : lw_tbl[814]? = some (.code (mY 96) (mB 96) (mL 96) (mR 96)) := rfl
set_option maxRecDepth 100000 in
theorem mc_97 : lw_tbl[859]? = some (.code (mY 97) (mB 97) (mL 97) (mR 97)) := rfl
set_option maxRecDepth 100000 in
theorem mc_98 : lw_tbl[810]? = some (.code (mY 98) (mB 98) (mL 98) (mR 98)) := rfl
set_option maxRecDepth 100000 in
theorem mc_99 : lw_tbl[825]? = some (.code (mY 99) (mB 99) (mL 99) (mR 99)) := rfl
set_option maxRecDepth 100000 in
theorem mc_100 : lw_tbl[833]? = some (.code (mY 100) (mB 100) (mL 100) (mR 100)) := rfl
set_option maxRecDepth 100000 in
theorem mc_101 : lw_tbl[837]? = some (.code (mY 101) (mB 101) (mL 101) (mR 101)) := rfl
set_option maxRecDepth 100000 in
theorem mc_102 : lw_tbl[737]? = some (.code (mY 102) (mB 102) (mL 102) (mR 102)) := rfl
set_option maxRecDepth 100000 in
theorem mc_103 : lw_tbl[802]? = some (.code (mY 103) (mB 103) (mL 103) (mR 103)) := rfl
set_option maxRecDepth 100000 in
theorem mc_104 : lw_tbl[749]? = some (.code (mY 104) (mB 104) (mL 104) (mR 104)) := rfl
set_option maxRecDepth 100000 in
theorem mc_105 : lw_tbl[733]? = some (.code (mY 105) (mB 105) (mL 105) (mR 105)) := rfl
set_option maxRecDepth 100000 in
theorem mc_106 : lw_tbl[829]? = some (.code (mY 106) (mB 106) (mL 106) (mR 106)) := rfl
set_option maxRecDepth 100000 in
theorem mc_107 : lw_tbl[846]? = some (.code (mY 107) (mB 107) (mL 107) (mR 107)) := rfl
set_option maxRecDepth 100000 in
theorem mc_108 : lw_tbl[851]? = some (.code (mY 108) (mB 108) (mL 108) (mR 108)) := rfl
set_option maxRecDepth 100000 in
theorem mc_109 : lw_tbl[855]? = some (.code (mY 109) (mB 109) (mL 109) (mR 109)) := rfl
set_option maxRecDepth 100000 in
theorem mc_110 : lw_tbl[863]? = some (.code (mY 110) (mB 110) (mL 110) (mR 110)) := rfl
set_option maxRecDepth 100000 in
theorem mc_111 : lw_tbl[867]? = some (.code (mY 111) (mB 111) (mL 111) (mR 111)) := rfl
set_option maxRecDepth 100000 in
theorem mc_112 : lw_tbl[871]? = some (.code (mY 112) (mB 112) (mL 112) (mR 112)) := rfl
set_option maxRecDepth 100000 in
theorem mc_113 : lw_tbl[875]? = some (.code (mY 113) (mB 113) (mL 113) (mR 113)) := rfl
set_option maxRecDepth 100000 in
theorem mc_114 : lw_tbl[883]? = some (.code (mY 114) (mB 114) (mL 114) (mR 114)) := rfl
set_option maxRecDepth 100000 in
theorem mc_115 : lw_tbl[879]? = some (.code (mY 115) (mB 115) (mL 115) (mR 115)) := rfl
set_option maxRecDepth 100000 in
theorem mc_116 : lw_tbl[893]? = some (.code (mY 116) (mB 116) (mL 116) (mR 116)) := rfl
set_option maxRecDepth 100000 in
theorem mc_117 : lw_tbl[901]? = some (.code (mY 117) (mB 117) (mL 117) (mR 117)) := rfl
set_option maxRecDepth 100000 in
theorem mc_118 : lw_tbl[897]? = some (.code (mY 118) (mB 118) (mL 118) (mR 118)) := rfl
set_option maxRecDepth 100000 in
theorem mc_119 : lw_tbl[888]? = some (.code (mY 119) (mB 119) (mL 119) (mR 119)) := rfl
set_option maxRecDepth 100000 in
theorem mc_120 : lw_tbl[905]? = some (.code (mY 120) (mB 120) (mL 120) (mR 120)) := rfl
set_option maxRecDepth 100000 in
theorem mc_121 : lw_tbl[909]? = some (.code (mY 121) (mB 121) (mL 121) (mR 121)) := rfl
set_option maxRecDepth 100000 in
theorem mc_122 : lw_tbl[913]? = some (.code (mY 122) (mB 122) (mL 122) (mR 122)) := rfl
set_option maxRecDepth 100000 in
theorem mc_123 : lw_tbl[917]? = some (.code (mY 123) (mB 123) (mL 123) (mR 123)) := rfl
set_option maxRecDepth 100000 in
theorem mc_124 : lw_tbl[921]? = some (.code (mY 124) (mB 124) (mL 124) (mR 124)) := rfl
set_option maxRecDepth 100000 in
theorem mc_125 : lw_tbl[925]? = some (.code (mY 125) (mB 125) (mL 125) (mR 125)) := rfl
set_option maxRecDepth 100000 in
theorem mc_126 : lw_tbl[929]? = some (.code (mY 126) (mB 126) (mL 126) (mR 126)) := rfl
set_option maxRecDepth 100000 in
theorem mc_127 : lw_tbl[933]? = some (.code (mY 127) (mB 127) (mL 127) (mR 127)) := rfl
set_option maxRecDepth 100000 in
theorem mc_128 : lw_tbl[941]? = some (.code (mY 128) (mB 128) (mL 128) (mR 128)) := rfl
set_option maxRecDepth 100000 in
theorem mc_129 : lw_tbl[937]? = some (.code (mY 129) (mB 129) (mL 129) (mR 129)) := rfl
set_option maxRecDepth 100000 in
theorem mc_130 : lw_tbl[949]? = some (.code (mY 130) (mB 130) (mL 130) (mR 130)) := rfl
set_option maxRecDepth 100000 in
theorem mc_131 : lw_tbl[953]? = some (.code (mY 131) (mB 131) (mL 131) (mR 131)) := rfl
set_option maxRecDepth 100000 in
theorem mc_132 : lw_tbl[957]? = some (.code (mY 132) (mB 132) (mL 132) (mR 132)) := rfl
set_option maxRecDepth 100000 in
theorem mc_133 : lw_tbl[961]? = some (.code (mY 133) (mB 133) (mL 133) (mR 133)) := rfl
set_option maxRecDepth 100000 in
theorem mc_134 : lw_tbl[965]? = some (.code (mY 134) (mB 134) (mL 134) (mR 134)) := rfl
set_option maxRecDepth 100000 in
theorem mc_135 : lw_tbl[969]? = some (.code (mY 135) (mB 135) (mL 135) (mR 135)) := rfl
set_option maxRecDepth 100000 in
theorem mc_136 : lw_tbl[599]? = some (.code (mY 136) (mB 136) (mL 136) (mR 136)) := rfl
set_option maxRecDepth 100000 in
theorem mc_137 : lw_tbl[466]? = some (.code (mY 137) (mB 137) (mL 137) (mR 137)) := rfl
set_option maxRecDepth 100000 in
theorem mc_138 : lw_tbl[415]? = some (.code (mY 138) (mB 138) (mL 138) (mR 138)) := rfl
set_option maxRecDepth 100000 in
theorem mc_139 : lw_tbl[405]? = some (.code (mY 139) (mB 139) (mL 139) (mR 139)) := rfl
theorem mc_pl (q : Nat) (hq : q < 140) : lw_tbl[(mP q).1]? = some (.code (mY q) (mB q) (mL q) (mR q)) := by
  match q, hq with
  | 0, _ => exact mc_0
  | 1, _ => exact mc_1
  | 2, _ => exact mc_2
  | 3, _ => exact mc_3
  | 4, _ => exact mc_4
  | 5, _ => exact mc_5
  | 6, _ => exact mc_6
  | 7, _ => exact mc_7
  | 8, _ => exact mc_8
  | 9, _ => exact mc_9
  | 10, _ => exact mc_10
  | 11, _ => exact mc_11
  | 12, _ => exact mc_12
  | 13, _ => exact mc_13
  | 14, _ => exact mc_14
  | 15, _ => exact mc_15
  | 16, _ => exact mc_16
  | 17, _ => exact mc_17
  | 18, _ => exact mc_18
  | 19, _ => exact mc_19
  | 20, _ => exact mc_20
  | 21, _ => exact mc_21
  | 22, _ => exact mc_22
  | 23, _ => exact mc_23
  | 24, _ => exact mc_24
  | 25, _ => exact mc_25
  | 26, _ => exact mc_26
  | 27, _ => exact mc_27
  | 28, _ => exact mc_28
  | 29, _ => exact mc_29
  | 30, _ => exact mc_30
  | 31, _ => exact mc_31
  | 32, _ => exact mc_32
  | 33, _ => exact mc_33
  | 34, _ => exact mc_34
  | 35, _ => exact mc_35
  | 36, _ => exact mc_36
  | 37, _ => exact mc_37
  | 38, _ => exact mc_38
  | 39, _ => exact mc_39
  | 40, _ => exact mc_40
  | 41, _ => exact mc_41
  | 42, _ => exact mc_42
  | 43, _ => exact mc_43
  | 44, _ => exact mc_44
  | 45, _ => exact mc_45
  | 46, _ => exact mc_46
  | 47, _ => exact mc_47
  | 48, _ => exact mc_48
  | 49, _ => exact mc_49
  | 50, _ => exact mc_50
  | 51, _ => exact mc_51
  | 52, _ => exact mc_52
  | 53, _ => exact mc_53
  | 54, _ => exact mc_54
  | 55, _ => exact mc_55
  | 56, _ => exact mc_56
  | 57, _ => exact mc_57
  | 58, _ => exact mc_58
  | 59, _ => exact mc_59
  | 60, _ => exact mc_60
  | 61, _ => exact mc_61
  | 62, _ => exact mc_62
  | 63, _ => exact mc_63
  | 64, _ => exact mc_64
  | 65, _ => exact mc_65
  | 66, _ => exact mc_66
  | 67, _ => exact mc_67
  | 68, _ => exact mc_68
  | 69, _ => exact mc_69
  | 70, _ => exact mc_70
  | 71, _ => exact mc_71
  | 72, _ => exact mc_72
  | 73, _ => exact mc_73
  | 74, _ => exact mc_74
  | 75, _ => exact mc_75
  | 76, _ => exact mc_76
  | 77, _ => exact mc_77
  | 78, _ => exact mc_78
  | 79, _ => exact mc_79
  | 80, _ => exact mc_80
  | 81, _ => exact mc_81
  | 82, _ => exact mc_82
  | 83, _ => exact mc_83
  | 84, _ => exact mc_84
  | 85, _ => exact mc_85
  | 86, _ => exact mc_86
  | 87, _ => exact mc_87
  | 88, _ => exact mc_88
  | 89, _ => exact mc_89
  | 90, _ => exact mc_90
  | 91, _ => exact mc_91
  | 92, _ => exact mc_92
  | 93, _ => exact mc_93
  | 94, _ => exact mc_94
  | 95, _ => exact mc_95
  | 96, _ => exact mc_96
  | 97, _ => exact mc_97
  | 98, _ => exact mc_98
  | 99, _ => exact mc_99
  | 100, _ => exact mc_100
  | 101, _ => exact mc_101
  | 102, _ => exact mc_102
  | 103, _ => exact mc_103
  | 104, _ => exact mc_104
  | 105, _ => exact mc_105
  | 106, _ => exact mc_106
  | 107, _ => exact mc_107
  | 108, _ => exact mc_108
  | 109, _ => exact mc_109
  | 110, _ => exact mc_110
  | 111, _ => exact mc_111
  | 112, _ => exact mc_112
  | 113, _ => exact mc_113
  | 114, _ => exact mc_114
  | 115, _ => exact mc_115
  | 116, _ => exact mc_116
  | 117, _ => exact mc_117
  | 118, _ => exact mc_118
  | 119, _ => exact mc_119
  | 120, _ => exact mc_120
  | 121, _ => exact mc_121
  | 122, _ => exact mc_122
  | 123, _ => exact mc_123
  | 124, _ => exact mc_124
  | 125, _ => exact mc_125
  | 126, _ => exact mc_126
  | 127, _ => exact mc_127
  | 128, _ => exact mc_128
  | 129, _ => exact mc_129
  | 130, _ => exact mc_130
  | 131, _ => exact mc_131
  | 132, _ => exact mc_132
  | 133, _ => exact mc_133
  | 134, _ => exact mc_134
  | 135, _ => exact mc_135
  | 136, _ => exact mc_136
  | 137, _ => exact mc_137
  | 138, _ => exact mc_138
  | 139, _ => exact mc_139
  | n + 140, h => exact absurd h (by omega)
end
section
/-! A SMALL MACHINE over whole numbers, cells by their order of making; what it does is tied to the real one in the next part -/
abbrev aV : Type := Int ⊕ (Option Nat ⊕ (Int ⊕ Bool))
abbrev aI : Type := Nat → Int → Int
abbrev aR : Type := Nat → Int → Option Nat
abbrev aS : Type := List (Nat × Nat)
abbrev aE : Type := Nat × Nat × Nat × Int × Nat × List (Int × Nat)
abbrev aG : Type := Nat → List aV → List aV → aI → aR → aS → Prop
abbrev aK : Type := Option aV → aI → aR → aS → Prop
abbrev aC : Type := Nat → List aV → aI → aR → aS → aK → Prop
abbrev vi (z : Int) : aV := .inl z
abbrev vr (a : Nat) : aV := .inr (.inl (some a))
abbrev vu : aV := .inr (.inr (.inr false))
abbrev vx : aV := .inr (.inr (.inr true))
def cv (bs b : Nat) : aV → Value
  | .inl z => .int (Int32.ofInt z)
  | .inr (.inl none) => .null
  | .inr (.inl (some a)) => .ref (bs + a)
  | .inr (.inr (.inl z)) => .long (Int64.ofInt z)
  | .inr (.inr (.inr _)) => .ref b
/-- a value of one word -/
def c1 : aV → Bool
  | .inl _ => true
  | .inr (.inl _) => true
  | .inr (.inr (.inl _)) => false
  | .inr (.inr (.inr x)) => x
def uI (I : aI) (a : Nat) (j z : Int) : aI := fun x k => if x = a ∧ k = j then z else I x k
def uR (R : aR) (a : Nat) (j : Int) (z : Option Nat) : aR := fun x k => if x = a ∧ k = j then z else R x k
def zI (I : aI) (a : Nat) : aI := fun x k => if x = a then 0 else I x k
def zR (R : aR) (a : Nat) : aR := fun x k => if x = a then none else R x k
/-- a stretch of an array copied -/
def cI (I : aI) (a : Nat) (sp : Int) (t : Nat) (dp n : Int) : aI := fun x k => if x = t ∧ dp ≤ k ∧ k < dp + n then I a (sp + (k - dp)) else I x k
def bAnd (x y : Int) : Int := (Int32.ofInt x &&& Int32.ofInt y).toInt
def bOr (x y : Int) : Int := (Int32.ofInt x ||| Int32.ofInt y).toInt
def bXor (x y : Int) : Int := (Int32.ofInt x ^^^ Int32.ofInt y).toInt
def bShl (x y : Int) : Int := (Int32.ofInt x <<< (Int32.ofInt y &&& 31)).toInt
def bShr (x y : Int) : Int := (Int32.ofInt x >>> (Int32.ofInt y &&& 31)).toInt
def bUshr (x y : Int) : Int := ((Int32.ofInt x).toUInt32 >>> ((Int32.ofInt y).toUInt32 &&& Int32.toUInt32 31)).toInt32.toInt
def bLand (x y : Int) : Int := (Int64.ofInt x &&& Int64.ofInt y).toInt
def isRf (ci k : Nat) : Bool := match tF ci k with
  | .int => false
  | .boolean => false
  | _ => true
def isZf (ci k : Nat) : Bool := match tF ci k with
  | .boolean => true
  | _ => false
def nth : List aV → Nat → aV
  | [], _ => vu
  | v :: _, 0 => v
  | _ :: l, n + 1 => nth l n
def setn : List aV → Nat → aV → List aV
  | [], _, _ => []
  | _ :: l, 0, w => w :: l
  | v :: l, n + 1, w => v :: setn l n w
/-- the n topmost, the lowest of them first, and the rest -/
def popn : Nat → List aV → List aV → Option (List aV × List aV)
  | 0, acc, st => some (acc, st)
  | _ + 1, _, [] => none
  | n + 1, acc, v :: st => popn n (v :: acc) st
def okst : List aV → Nat → Bool
  | [], _ => true
  | _ :: _, 0 => false
  | v :: l, n + 1 => match c1 v with
    | true => okst l n
    | false => false
def allc1 : List aV → Bool
  | [] => true
  | v :: l => match c1 v with
    | true => allc1 l
    | false => false
def tsw (x : Int) (g : Nat → Prop) : Int → List (Int × Nat) → Prop
  | _, [] => True
  | lo, q :: l => (x = lo → g q.2) ∧ tsw x g (lo + 1) l
def lswD (x : Int) (g : Prop) : List (Int × Nat) → Prop
  | [] => g
  | q :: l => ¬ x = q.1 → lswD x g l
def lsw (x : Int) (g : Nat → Prop) : List (Int × Nat) → Prop
  | [] => True
  | q :: l => (x = q.1 → g q.2) ∧ lsw x g l
def iR (x : Int) : Prop := -2147483648 ≤ x ∧ x < 2147483648
/-- one instruction -/
def stp (q L : Nat) (X : Nat → Int) (G : aG) (C : aC) (K : aK) (o a : Nat) (b : Int) (nx : Nat) (xs : List (Int × Nat)) (ls st : List aV) (I : aI) (R : aR) (S : aS) : Prop :=
  match o with
  | 1 => match nth ls a with
    | .inl z => G nx ls (.inl z :: st) I R S
    | _ => False
  | 2 => match nth ls a with
    | .inr (.inl (some x)) => G nx ls (vr x :: st) I R S
    | .inr (.inr (.inr true)) => G nx ls (vx :: st) I R S
    | _ => False
  | 3 => match st with
    | .inl z :: st => G nx (setn ls a (.inl z)) st I R S
    | _ => False
  | 4 => match st with
    | .inr (.inl (some x)) :: st => G nx (setn ls a (vr x)) st I R S
    | _ => False
  | 5 => G nx ls (.inl b :: st) I R S
  | 6 => G nx ls (.inl b :: st) I R S
  | 7 => G nx ls (.inl b :: st) I R S
  | 8 => G nx ls (.inl b :: st) I R S
  | 9 => G nx ls (.inl b :: st) I R S
  | 10 => G nx ls (.inr (.inr (.inl b)) :: st) I R S
  | 11 => match st with
    | .inl y :: .inl x :: st => G nx ls (.inl (x + y) :: st) I R S
    | _ => False
  | 12 => match st with
    | .inl y :: .inl x :: st => G nx ls (.inl (x - y) :: st) I R S
    | _ => False
  | 13 => match st with
    | .inl y :: .inl x :: st => G nx ls (.inl (x * y) :: st) I R S
    | _ => False
  | 14 => match st with
    | .inl y :: .inl x :: st => ∃ _ : 0 ≤ x ∧ x < 2147483648 ∧ 0 < y ∧ y < 2147483648, G nx ls (.inl (x / y) :: st) I R S
    | _ => False
  | 15 => match st with
    | .inl y :: .inl x :: st => ∃ _ : 0 ≤ x ∧ x < 2147483648 ∧ 0 < y ∧ y < 2147483648, G nx ls (.inl (x % y) :: st) I R S
    | _ => False
  | 16 => match st with
    | .inl y :: .inl x :: st => G nx ls (.inl (bAnd x y) :: st) I R S
    | _ => False
  | 17 => match st with
    | .inl y :: .inl x :: st => G nx ls (.inl (bOr x y) :: st) I R S
    | _ => False
  | 18 => match st with
    | .inl y :: .inl x :: st => G nx ls (.inl (bXor x y) :: st) I R S
    | _ => False
  | 19 => match st with
    | .inl y :: .inl x :: st => G nx ls (.inl (bShl x y) :: st) I R S
    | _ => False
  | 20 => match st with
    | .inl y :: .inl x :: st => G nx ls (.inl (bShr x y) :: st) I R S
    | _ => False
  | 21 => match st with
    | .inl y :: .inl x :: st => G nx ls (.inl (bUshr x y) :: st) I R S
    | _ => False
  | 22 => match st with
    | .inl x :: st => ∃ _ : iR x, G nx ls (.inr (.inr (.inl x)) :: st) I R S
    | _ => False
  | 23 => match st with
    | .inr (.inr (.inl x)) :: st => G nx ls (.inl x :: st) I R S
    | _ => False
  | 24 => match st with
    | .inr (.inr (.inl y)) :: .inr (.inr (.inl x)) :: st => G nx ls (.inr (.inr (.inl (x * y))) :: st) I R S
    | _ => False
  | 25 => match st with
    | .inr (.inr (.inl y)) :: .inr (.inr (.inl x)) :: st => G nx ls (.inr (.inr (.inl (x + y))) :: st) I R S
    | _ => False
  | 26 => match st with
    | .inr (.inr (.inl y)) :: .inr (.inr (.inl x)) :: st => G nx ls (.inr (.inr (.inl (bLand x y))) :: st) I R S
    | _ => False
  | 27 => match st with
    | .inr (.inr (.inl y)) :: .inr (.inr (.inl x)) :: st => ∃ _ : 0 ≤ x ∧ x < 9223372036854775808 ∧ 0 < y ∧ y < 9223372036854775808, G nx ls (.inr (.inr (.inl (x % y))) :: st) I R S
    | _ => False
  | 28 => match nth ls a with
    | .inl z => G nx (setn ls a (.inl (z + b))) st I R S
    | _ => False
  | 29 => G a ls st I R S
  | 30 => match st with
    | .inl x :: st => ∃ _ : iR x, (x = 0 → G a ls st I R S) ∧ (¬ x = 0 → G nx ls st I R S)
    | _ => False
  | 31 => match st with
    | .inl x :: st => ∃ _ : iR x, (¬ x = 0 → G a ls st I R S) ∧ (x = 0 → G nx ls st I R S)
    | _ => False
  | 32 => match st with
    | .inl x :: st => ∃ _ : iR x, (x < 0 → G a ls st I R S) ∧ (¬ x < 0 → G nx ls st I R S)
    | _ => False
  | 33 => match st with
    | .inl x :: st => ∃ _ : iR x, (0 ≤ x → G a ls st I R S) ∧ (¬ 0 ≤ x → G nx ls st I R S)
    | _ => False
  | 34 => match st with
    | .inl x :: st => ∃ _ : iR x, (0 < x → G a ls st I R S) ∧ (¬ 0 < x → G nx ls st I R S)
    | _ => False
  | 35 => match st with
    | .inl x :: st => ∃ _ : iR x, (x ≤ 0 → G a ls st I R S) ∧ (¬ x ≤ 0 → G nx ls st I R S)
    | _ => False
  | 36 => match st with
    | .inl y :: .inl x :: st => ∃ _ : iR x ∧ iR y, (x = y → G a ls st I R S) ∧ (¬ x = y → G nx ls st I R S)
    | _ => False
  | 37 => match st with
    | .inl y :: .inl x :: st => ∃ _ : iR x ∧ iR y, (¬ x = y → G a ls st I R S) ∧ (x = y → G nx ls st I R S)
    | _ => False
  | 38 => match st with
    | .inl y :: .inl x :: st => ∃ _ : iR x ∧ iR y, (x < y → G a ls st I R S) ∧ (¬ x < y → G nx ls st I R S)
    | _ => False
  | 39 => match st with
    | .inl y :: .inl x :: st => ∃ _ : iR x ∧ iR y, (y ≤ x → G a ls st I R S) ∧ (¬ y ≤ x → G nx ls st I R S)
    | _ => False
  | 40 => match st with
    | .inl y :: .inl x :: st => ∃ _ : iR x ∧ iR y, (y < x → G a ls st I R S) ∧ (¬ y < x → G nx ls st I R S)
    | _ => False
  | 41 => match st with
    | .inl y :: .inl x :: st => ∃ _ : iR x ∧ iR y, (x ≤ y → G a ls st I R S) ∧ (¬ x ≤ y → G nx ls st I R S)
    | _ => False
  | 42 => match st with
    | .inl x :: st => ∃ _ : iR x, ((x < b ∨ b + (xs.length : Int) ≤ x) → G a ls st I R S) ∧ tsw x (fun t => G t ls st I R S) b xs
    | _ => False
  | 43 => match st with
    | .inl x :: st => ∃ _ : iR x, lswD x (G a ls st I R S) xs ∧ lsw x (fun t => G t ls st I R S) xs
    | _ => False
  | 44 => match xs, st with
    | [(ci, k)], .inr (.inl (some x)) :: st => ∃ n, ∃ _ : S[x]? = some (ci.toNat, n), match isRf ci.toNat k with
      | true => ∃ y, ∃ _ : R x k = some y, G nx ls (vr y :: st) I R S
      | false => G nx ls (.inl (I x k) :: st) I R S
    | _, _ => False
  | 45 => match xs, st with
    | [(ci, k)], .inl z :: .inr (.inl (some x)) :: st => match isRf ci.toNat k with
      | true => False
      | false => ∃ n, ∃ _ : S[x]? = some (ci.toNat, n), match isZf ci.toNat k with
        | true => ∃ _ : z = 0 ∨ z = 1, G nx ls st (uI I x k z) R S
        | false => G nx ls st (uI I x k z) R S
    | [(ci, k)], .inr (.inl (some y)) :: .inr (.inl (some x)) :: st => match isRf ci.toNat k with
      | true => ∃ n, ∃ _ : S[x]? = some (ci.toNat, n), G nx ls st I (uR R x k (some y)) S
      | false => False
    | _, _ => False
  | 46 => match xs, st with
    | [(ci, k)], .inr (.inl (some y)) :: .inr (.inl (some x)) :: st => match isRf ci.toNat k with
      | true => ∃ n, ∃ _ : S[x]? = some (ci.toNat, n), G nx ls st I (uR R x k (some y)) S
      | false => False
    | _, _ => False
  | 47 => match st with
    | .inl j :: .inr (.inl (some x)) :: st => ∃ n, ∃ _ : S[x]? = some (9, n), ∃ _ : 0 ≤ j ∧ j < n ∧ n ≤ 1000000, G nx ls (.inl (I x j) :: st) I R S
    | .inl j :: .inr (.inr (.inr true)) :: st => ∃ _ : 0 ≤ j ∧ j < L ∧ L ≤ 1000000, G nx ls (.inl (X j.toNat) :: st) I R S
    | _ => False
  | 48 => match st with
    | .inl z :: .inl j :: .inr (.inl (some x)) :: st => ∃ n, ∃ _ : S[x]? = some (9, n), ∃ _ : 0 ≤ j ∧ j < n ∧ n ≤ 1000000, G nx ls st (uI I x j z) R S
    | _ => False
  | 49 => match st with
    | .inl j :: .inr (.inl (some x)) :: st => ∃ k n, ∃ _ : S[x]? = some (k, n), ∃ _ : (k = 11 ∨ k = 12) ∧ 0 ≤ j ∧ j < n ∧ n ≤ 1000000, ∃ y, ∃ _ : R x j = some y, G nx ls (vr y :: st) I R S
    | _ => False
  | 50 => match st with
    | .inr (.inl (some y)) :: .inl j :: .inr (.inl (some x)) :: st => ∃ k n, ∃ _ : S[x]? = some (k, n), ∃ _ : (k = 11 ∨ k = 12) ∧ 0 ≤ j ∧ j < n ∧ n ≤ 1000000, ∃ m, ∃ _ : S[y]? = some (k - 8, m), G nx ls st I (uR R x j (some y)) S
    | _ => False
  | 51 => match st with
    | .inl j :: .inr (.inl (some x)) :: st => ∃ n, ∃ _ : S[x]? = some (10, n), ∃ _ : 0 ≤ j ∧ j < n ∧ n ≤ 1000000, G nx ls (.inl (I x j) :: st) I R S
    | _ => False
  | 52 => match st with
    | .inl z :: .inl j :: .inr (.inl (some x)) :: st => ∃ n, ∃ _ : S[x]? = some (10, n), ∃ _ : (z = 0 ∨ z = 1) ∧ 0 ≤ j ∧ j < n ∧ n ≤ 1000000, G nx ls st (uI I x j z) R S
    | _ => False
  | 53 => match st with
    | .inr (.inl (some x)) :: st => ∃ k n, ∃ _ : S[x]? = some (k, n), ∃ _ : 9 ≤ k ∧ k ≤ 12, G nx ls (.inl n :: st) I R S
    | .inr (.inr (.inr true)) :: st => G nx ls (.inl L :: st) I R S
    | _ => False
  | 54 => match st with
    | .inl z :: st => ∃ _ : 0 ≤ z ∧ z ≤ 1000000, G nx ls (vr S.length :: st) (zI I S.length) (zR R S.length) (S ++ [(b.toNat, z.toNat)])
    | _ => False
  | 55 => match st with
    | .inl z :: st => ∃ _ : 0 ≤ z ∧ z ≤ 1000000, G nx ls (vr S.length :: st) (zI I S.length) (zR R S.length) (S ++ [(b.toNat, z.toNat)])
    | _ => False
  | 56 => G nx ls (vr S.length :: st) (zI I S.length) (zR R S.length) (S ++ [(b.toNat, NF b.toNat)])
  | 57 => match st with
    | v :: st => match c1 v with
      | true => G nx ls (v :: v :: st) I R S
      | false => False
    | _ => False
  | 58 => match st with
    | v :: w :: st => match c1 v && c1 w with
      | true => G nx ls (v :: w :: v :: w :: st) I R S
      | false => False
    | _ => False
  | 59 => match st with
    | v :: st => match c1 v with
      | true => G nx ls st I R S
      | false => False
    | _ => False
  | 60 => match xs with
    | [(ci, n)] => match popn n [] st with
      | some (as, .inr (.inl (some x)) :: st) => match allc1 as && okst st 8 with
        | true => ∃ m, ∃ _ : S[x]? = some (ci.toNat, m), C b.toNat (vr x :: as) I R S (fun r I R S => G nx ls (r.toList ++ st) I R S)
        | false => False
      | _ => False
    | _ => False
  | 61 => match xs with
    | [(_, n)] => match popn n [] st with
      | some (as, .inr (.inl (some x)) :: st) => match allc1 as && okst st 8 with
        | true => C b.toNat (vr x :: as) I R S (fun r I R S => G nx ls (r.toList ++ st) I R S)
        | false => False
      | _ => False
    | _ => False
  | 62 => match xs with
    | [(_, n)] => match popn n [] st with
      | some (as, .inr (.inl (some x)) :: st) => match allc1 as && okst st 8 with
        | true => C b.toNat (vr x :: as) I R S (fun r I R S => G nx ls (r.toList ++ st) I R S)
        | false => False
      | _ => False
    | _ => False
  | 63 => match xs with
    | [(_, n)] => match popn n [] st with
      | some (as, st) => match allc1 as && okst st 8 with
        | true => C b.toNat as I R S (fun r I R S => G nx ls (r.toList ++ st) I R S)
        | false => False
      | _ => False
    | _ => False
  | 64 => match st with
    | .inr (.inl (some _)) :: st => match okst st 8 with
      | true => G nx ls st I R S
      | false => False
    | _ => False
  | 65 => match st with
    | .inl n :: .inl dp :: .inr (.inl (some t)) :: .inl sp :: .inr (.inl (some x)) :: st => match okst st 8 with
      | true => ∃ n0 n1, ∃ _ : S[x]? = some (9, n0), ∃ _ : S[t]? = some (9, n1), ∃ _ : 0 ≤ sp ∧ 0 ≤ dp ∧ 0 ≤ n ∧ sp + n ≤ n0 ∧ dp + n ≤ n1 ∧ n0 ≤ 1000000 ∧ n1 ≤ 1000000, G nx ls st (cI I x sp t dp n) R S
      | false => False
    | _ => False
  | 66 => match st with
    | [.inl z] => match mR q with
      | some .int => K (some (.inl z)) I R S
      | some .boolean => ∃ _ : z = 0 ∨ z = 1, K (some (.inl z)) I R S
      | _ => False
    | _ => False
  | 67 => match st with
    | [.inr (.inl (some x))] => match mR q with
      | some (.object _) => K (some (vr x)) I R S
      | some (.array _) => K (some (vr x)) I R S
      | _ => False
    | _ => False
  | 68 => match st with
    | [] => match mR q with
      | none => K none I R S
      | _ => False
    | _ => False
  | _ => False
/-- the instruction that an entry stands for, and its length -/
def eI (pc o a : Nat) (b : Int) (nx : Nat) (xs : List (Int × Nat)) : Instr × Nat := match o with
  | 1 => match Nat.beq nx (pc + 1) with
    | true => (.iload_n (Fin.ofNat 4 a), 1)
    | false => (.iload a, 2)
  | 2 => match Nat.beq nx (pc + 1) with
    | true => (.aload_n (Fin.ofNat 4 a), 1)
    | false => (.aload a, 2)
  | 3 => match Nat.beq nx (pc + 1) with
    | true => (.istore_n (Fin.ofNat 4 a), 1)
    | false => (.istore a, 2)
  | 4 => match Nat.beq nx (pc + 1) with
    | true => (.astore_n (Fin.ofNat 4 a), 1)
    | false => (.astore a, 2)
  | 5 => (.iconst b, 1)
  | 6 => (.bipush b, 2)
  | 7 => (.sipush b, 3)
  | 8 => (.ldc a, 2)
  | 9 => (.ldc_w a, 3)
  | 10 => (.ldc2_w a, 3)
  | 11 => (.iadd, 1)
  | 12 => (.isub, 1)
  | 13 => (.imul, 1)
  | 14 => (.idiv, 1)
  | 15 => (.irem, 1)
  | 16 => (.iand, 1)
  | 17 => (.ior, 1)
  | 18 => (.ixor, 1)
  | 19 => (.ishl, 1)
  | 20 => (.ishr, 1)
  | 21 => (.iushr, 1)
  | 22 => (.i2l, 1)
  | 23 => (.l2i, 1)
  | 24 => (.lmul, 1)
  | 25 => (.ladd, 1)
  | 26 => (.land, 1)
  | 27 => (.lrem, 1)
  | 28 => (.iinc a b, 3)
  | 29 => (.goto ((a : Int) - pc), 3)
  | 30 => (.ifCond .eq ((a : Int) - pc), 3)
  | 31 => (.ifCond .ne ((a : Int) - pc), 3)
  | 32 => (.ifCond .lt ((a : Int) - pc), 3)
  | 33 => (.ifCond .ge ((a : Int) - pc), 3)
  | 34 => (.ifCond .gt ((a : Int) - pc), 3)
  | 35 => (.ifCond .le ((a : Int) - pc), 3)
  | 36 => (.if_icmp .eq ((a : Int) - pc), 3)
  | 37 => (.if_icmp .ne ((a : Int) - pc), 3)
  | 38 => (.if_icmp .lt ((a : Int) - pc), 3)
  | 39 => (.if_icmp .ge ((a : Int) - pc), 3)
  | 40 => (.if_icmp .gt ((a : Int) - pc), 3)
  | 41 => (.if_icmp .le ((a : Int) - pc), 3)
  | 42 => (.tableswitch ((a : Int) - pc) b (b + (xs.length : Int) - 1) (xs.map (fun q => (q.2 : Int) - pc)).toArray, nx - pc)
  | 43 => (.lookupswitch ((a : Int) - pc) (xs.map (fun q => (q.1, (q.2 : Int) - pc))).toArray, nx - pc)
  | 44 => (.getfield a, 3)
  | 45 => (.putfield a, 3)
  | 46 => (.putfield a, 3)
  | 47 => (.iaload, 1)
  | 48 => (.iastore, 1)
  | 49 => (.aaload, 1)
  | 50 => (.aastore, 1)
  | 51 => (.baload, 1)
  | 52 => (.bastore, 1)
  | 53 => (.arraylength, 1)
  | 54 => (.newarray (if b = 9 then .int else .boolean), 2)
  | 55 => (.anewarray a, 3)
  | 56 => (.new a, 3)
  | 57 => (.dup, 1)
  | 58 => (.dup2, 1)
  | 59 => (.pop, 1)
  | 60 => (.invokevirtual a, 3)
  | 61 => (.invokespecial a, 3)
  | 62 => (.invokespecial a, 3)
  | 63 => (.invokestatic a, 3)
  | 64 => (.invokespecial a, 3)
  | 65 => (.invokestatic a, 3)
  | 66 => (.ireturn, 1)
  | 67 => (.areturn, 1)
  | 68 => (.return_, 1)
  | _ => (.nop, 1)
/-- what else is asked of an entry: links, places of locals, bounds of constants -/
def eX (q pc o a : Nat) (b : Int) (nx : Nat) (xs : List (Int × Nat)) : Bool := match o with
  | 1 => (Nat.beq nx (pc + 2)) || (Nat.beq nx (pc + 1) && Nat.blt a 4)
  | 2 => (Nat.beq nx (pc + 2)) || (Nat.beq nx (pc + 1) && Nat.blt a 4)
  | 3 => ((Nat.beq nx (pc + 2)) || (Nat.beq nx (pc + 1) && Nat.blt a 4)) && Nat.blt a (mL q)
  | 4 => ((Nat.beq nx (pc + 2)) || (Nat.beq nx (pc + 1) && Nat.blt a 4)) && Nat.blt a (mL q)
  | 6 => Nat.beq nx (pc + 2) && decide (-128 ≤ b ∧ b < 128)
  | 7 => Nat.beq nx (pc + 3) && decide (-32768 ≤ b ∧ b < 32768)
  | 8 => Nat.beq nx (pc + 2) && CST.any (fun x => Nat.beq x.1 (mO q) && Nat.beq x.2.1 a && decide (x.2.2.1 = b))
  | 9 => Nat.beq nx (pc + 3) && CST.any (fun x => Nat.beq x.1 (mO q) && Nat.beq x.2.1 a && decide (x.2.2.1 = b))
  | 10 => Nat.beq nx (pc + 3) && CSL.any (fun x => Nat.beq x.1 (mO q) && Nat.beq x.2.1 a && decide (x.2.2.1 = b))
  | 28 => Nat.beq nx (pc + 3) && Nat.blt a (mL q)
  | 43 => ((xs.map (fun q => (q.1, (q.2 : Int) - pc))).zip ((xs.map (fun q => (q.1, (q.2 : Int) - pc))).drop 1)).all (fun (a, next) => a.1 < next.1)
  | 44 => Nat.beq nx (pc + 3) && (match xs with
    | [(ci, k)] => FLK.any (fun x => Nat.beq x.1 (mO q) && Nat.beq x.2.1 a && Nat.beq x.2.2.1 ci.toNat && Nat.beq x.2.2.2.1 k)
    | _ => false)
  | 45 => Nat.beq nx (pc + 3) && (match xs with
    | [(ci, k)] => FLK.any (fun x => Nat.beq x.1 (mO q) && Nat.beq x.2.1 a && Nat.beq x.2.2.1 ci.toNat && Nat.beq x.2.2.2.1 k) && !(TF ci.toNat k).2.2.2
    | _ => false)
  | 46 => Nat.beq nx (pc + 3) && (match xs with
    | [(ci, k)] => FLK.any (fun x => Nat.beq x.1 (mO q) && Nat.beq x.2.1 a && Nat.beq x.2.2.1 ci.toNat && Nat.beq x.2.2.2.1 k) && (TF ci.toNat k).2.2.2 && Nat.beq ci.toNat (mO q) && decide ((mY q).name = "<init>")
    | _ => false)
  | 54 => Nat.beq nx (pc + 2) && (decide (b = 9) || decide (b = 10))
  | 55 => Nat.beq nx (pc + 3) && (decide (b = 11) || decide (b = 12)) && CLK.any (fun x => Nat.beq x.1 (mO q) && Nat.beq x.2.1 a && Nat.beq x.2.2.1 (b.toNat - 8))
  | 56 => Nat.beq nx (pc + 3) && Nat.blt b.toNat 9 && CLK.any (fun x => Nat.beq x.1 (mO q) && Nat.beq x.2.1 a && Nat.beq x.2.2.1 b.toNat)
  | 60 => Nat.beq nx (pc + 3) && Nat.blt b.toNat qLaw && Nat.beq (mS b.toNat) 1 && !decide ((mY b.toNat).name = "<init>") && MLK.any (fun x => Nat.beq x.1 (mO q) && Nat.beq x.2.1 a && Nat.beq x.2.2.1 b.toNat) && (match xs with
    | [(ci, n)] => Nat.beq n (mN b.toNat) && Nat.beq ci.toNat (mO b.toNat) && Nat.blt ci.toNat 9
    | _ => false)
  | 61 => Nat.beq nx (pc + 3) && Nat.blt b.toNat qLaw && Nat.beq (mS b.toNat) 1 && decide ((mY b.toNat).name = "<init>") && decide (mR b.toNat = none) && MLK.any (fun x => Nat.beq x.1 (mO q) && Nat.beq x.2.1 a && Nat.beq x.2.2.1 b.toNat) && (match xs with
    | [(_, n)] => Nat.beq n (mN b.toNat)
    | _ => false)
  | 62 => Nat.beq nx (pc + 3) && Nat.blt b.toNat qLaw && Nat.beq (mS b.toNat) 1 && decide ((mY b.toNat).name = "<init>") && decide (mR b.toNat = none) && NLK.any (fun x => Nat.beq x.1 (mO q) && Nat.beq x.2.1 a && Nat.beq x.2.2.1 b.toNat) && (match xs with
    | [(_, n)] => Nat.beq n (mN b.toNat)
    | _ => false)
  | 63 => Nat.beq nx (pc + 3) && Nat.blt b.toNat qLaw && Nat.beq (mS b.toNat) 0 && MLK.any (fun x => Nat.beq x.1 (mO q) && Nat.beq x.2.1 a && Nat.beq x.2.2.1 b.toNat) && (match xs with
    | [(_, n)] => Nat.beq n (mN b.toNat)
    | _ => false)
  | 64 => Nat.beq nx (pc + 3) && OIL.any (fun x => Nat.beq x.1 (mO q) && Nat.beq x.2.1 a)
  | 65 => Nat.beq nx (pc + 3) && ACL.any (fun x => Nat.beq x.1 (mO q) && Nat.beq x.2.1 a)
  | _ => true
def eChk (q : Nat) (e : aE) : Bool := decide (decode (mB q) e.1 = .ok (eI e.1 e.2.1 e.2.2.1 e.2.2.2.1 e.2.2.2.2.1 e.2.2.2.2.2)) && Nat.beq e.2.2.2.2.1 (e.1 + (eI e.1 e.2.1 e.2.2.1 e.2.2.2.1 e.2.2.2.2.1 e.2.2.2.2.2).2) && eX q e.1 e.2.1 e.2.2.1 e.2.2.2.1 e.2.2.2.2.1 e.2.2.2.2.2
def lk : List aE → Nat → Option aE
  | [], _ => none
  | e :: l, pc => match Nat.beq e.1 pc with
    | true => some e
    | false => lk l pc
def mem : Nat → List Nat → Bool
  | _, [] => false
  | a, b :: l => match Nat.beq a b with
    | true => true
    | false => mem a l
/-- a walk of at most n instructions; it stops, and leaves what is to be shown, at the places named -/
def wpn (q L : Nat) (X : Nat → Int) (E : List aE) (stops : List Nat) (G : aG) (C : aC) (K : aK) : Nat → aG
  | 0, pc, ls, st, I, R, S => G pc ls st I R S
  | n + 1, pc, ls, st, I, R, S => match lk E pc with
    | some (_, o, a, b, nx, xs) => stp q L X (fun pc ls st I R S => match mem pc stops with
        | true => G pc ls st I R S
        | false => wpn q L X E stops G C K n pc ls st I R S) C K o a b nx xs ls st I R S
    | none => False
end
