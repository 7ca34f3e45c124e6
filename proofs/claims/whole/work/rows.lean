section
-- ===== PART A: goes FIRST, ahead of the names: the tables' words, and 'selects' of the private methods out of them =====
/-- a private method of a class that the tables say can be made, by its rows of tables_1 -/
def lw_okq (q : MethodName × Nat) : Prop := (q.1.cls ≠ "java/lang/invoke/MethodHandle" ∧ q.1.cls ≠ "java/lang/invoke/VarHandle") ∧ Cond.instantiable q.1.cls q.2 ∈ tables_1 ∧ Cond.privateMethod q.1 ∈ tables_1 ∧ Cond.instanceMethod q.1 ∈ tables_1
theorem lw_p0 : lw_okq (⟨"RepeaterWires$Timing", "weigh", "(LRepeaterWires$Net;I)V"⟩, 7) := ⟨⟨by decide +kernel, by decide +kernel⟩, List.mem_of_getElem? (i := 121) (by decide +kernel), List.mem_of_getElem? (i := 308) (by decide +kernel), List.mem_of_getElem? (i := 309) (by decide +kernel)⟩
theorem lw_p1 : lw_okq (⟨"RepeaterWires$Timing", "run", "(LRepeaterWires$Net;)V"⟩, 7) := ⟨⟨by decide +kernel, by decide +kernel⟩, List.mem_of_getElem? (i := 121) (by decide +kernel), List.mem_of_getElem? (i := 312) (by decide +kernel), List.mem_of_getElem? (i := 313) (by decide +kernel)⟩
theorem lw_p2 : lw_okq (⟨"RepeaterWires$Timing", "judge", "(LRepeaterWires$Net;I)V"⟩, 7) := ⟨⟨by decide +kernel, by decide +kernel⟩, List.mem_of_getElem? (i := 121) (by decide +kernel), List.mem_of_getElem? (i := 320) (by decide +kernel), List.mem_of_getElem? (i := 321) (by decide +kernel)⟩
theorem lw_p3 : lw_okq (⟨"RepeaterWires$Choices", "gather", "(LRepeaterWires$Net;IIZLRepeaterWires$Front;)V"⟩, 6) := ⟨⟨by decide +kernel, by decide +kernel⟩, List.mem_of_getElem? (i := 157) (by decide +kernel), List.mem_of_getElem? (i := 330) (by decide +kernel), List.mem_of_getElem? (i := 331) (by decide +kernel)⟩
theorem lw_p4 : lw_okq (⟨"RepeaterWires$Front", "standsAhead", "(III)Z"⟩, 4) := ⟨⟨by decide +kernel, by decide +kernel⟩, List.mem_of_getElem? (i := 164) (by decide +kernel), List.mem_of_getElem? (i := 342) (by decide +kernel), List.mem_of_getElem? (i := 343) (by decide +kernel)⟩
theorem lw_p5 : lw_okq (⟨"RepeaterWires$Front", "dropBeaten", "(III)V"⟩, 4) := ⟨⟨by decide +kernel, by decide +kernel⟩, List.mem_of_getElem? (i := 164) (by decide +kernel), List.mem_of_getElem? (i := 346) (by decide +kernel), List.mem_of_getElem? (i := 347) (by decide +kernel)⟩
theorem lw_p6 : lw_okq (⟨"RepeaterWires$Front", "widen", "()Z"⟩, 4) := ⟨⟨by decide +kernel, by decide +kernel⟩, List.mem_of_getElem? (i := 164) (by decide +kernel), List.mem_of_getElem? (i := 350) (by decide +kernel), List.mem_of_getElem? (i := 351) (by decide +kernel)⟩
theorem lw_p7 : lw_okq (⟨"RepeaterWires$Front", "insert", "(IIII)V"⟩, 4) := ⟨⟨by decide +kernel, by decide +kernel⟩, List.mem_of_getElem? (i := 164) (by decide +kernel), List.mem_of_getElem? (i := 370) (by decide +kernel), List.mem_of_getElem? (i := 371) (by decide +kernel)⟩
theorem lw_p8 : lw_okq (⟨"RepeaterWires$Choices", "join", "(LRepeaterWires$Net;ILRepeaterWires$Front;LRepeaterWires$Front;)V"⟩, 6) := ⟨⟨by decide +kernel, by decide +kernel⟩, List.mem_of_getElem? (i := 157) (by decide +kernel), List.mem_of_getElem? (i := 380) (by decide +kernel), List.mem_of_getElem? (i := 381) (by decide +kernel)⟩
theorem lw_p9 : lw_okq (⟨"RepeaterWires$Choices", "equip", "(LRepeaterWires$Net;II)V"⟩, 6) := ⟨⟨by decide +kernel, by decide +kernel⟩, List.mem_of_getElem? (i := 157) (by decide +kernel), List.mem_of_getElem? (i := 390) (by decide +kernel), List.mem_of_getElem? (i := 391) (by decide +kernel)⟩
theorem lw_p10 : lw_okq (⟨"RepeaterWires$Choices", "driveAll", "(LRepeaterWires$Net;ILRepeaterWires$Front;LRepeaterWires$Front;)V"⟩, 6) := ⟨⟨by decide +kernel, by decide +kernel⟩, List.mem_of_getElem? (i := 157) (by decide +kernel), List.mem_of_getElem? (i := 398) (by decide +kernel), List.mem_of_getElem? (i := 399) (by decide +kernel)⟩
theorem lw_p11 : lw_okq (⟨"RepeaterWires$Choices", "pickPoints", "(LRepeaterWires$Net;)V"⟩, 6) := ⟨⟨by decide +kernel, by decide +kernel⟩, List.mem_of_getElem? (i := 157) (by decide +kernel), List.mem_of_getElem? (i := 402) (by decide +kernel), List.mem_of_getElem? (i := 403) (by decide +kernel)⟩
theorem lw_p12 : lw_okq (⟨"RepeaterWires", "widest", "()I"⟩, 10) := ⟨⟨by decide +kernel, by decide +kernel⟩, List.mem_of_getElem? (i := 15) (by decide +kernel), List.mem_of_getElem? (i := 406) (by decide +kernel), List.mem_of_getElem? (i := 407) (by decide +kernel)⟩
theorem lw_p13 : lw_okq (⟨"RepeaterWires", "findChange", "()I"⟩, 10) := ⟨⟨by decide +kernel, by decide +kernel⟩, List.mem_of_getElem? (i := 15) (by decide +kernel), List.mem_of_getElem? (i := 418) (by decide +kernel), List.mem_of_getElem? (i := 419) (by decide +kernel)⟩
theorem lw_p14 : lw_okq (⟨"RepeaterWires", "ofWire", "(II)I"⟩, 10) := ⟨⟨by decide +kernel, by decide +kernel⟩, List.mem_of_getElem? (i := 15) (by decide +kernel), List.mem_of_getElem? (i := 444) (by decide +kernel), List.mem_of_getElem? (i := 445) (by decide +kernel)⟩
theorem lw_p15 : lw_okq (⟨"RepeaterWires", "ofEnd", "(II)I"⟩, 10) := ⟨⟨by decide +kernel, by decide +kernel⟩, List.mem_of_getElem? (i := 15) (by decide +kernel), List.mem_of_getElem? (i := 453) (by decide +kernel), List.mem_of_getElem? (i := 454) (by decide +kernel)⟩
def lw_privs_1 : List (MethodName × Nat) := [(⟨"RepeaterWires$Timing", "weigh", "(LRepeaterWires$Net;I)V"⟩, 7), (⟨"RepeaterWires$Timing", "run", "(LRepeaterWires$Net;)V"⟩, 7), (⟨"RepeaterWires$Timing", "judge", "(LRepeaterWires$Net;I)V"⟩, 7), (⟨"RepeaterWires$Choices", "gather", "(LRepeaterWires$Net;IIZLRepeaterWires$Front;)V"⟩, 6), (⟨"RepeaterWires$Front", "standsAhead", "(III)Z"⟩, 4), (⟨"RepeaterWires$Front", "dropBeaten", "(III)V"⟩, 4), (⟨"RepeaterWires$Front", "widen", "()Z"⟩, 4), (⟨"RepeaterWires$Front", "insert", "(IIII)V"⟩, 4), (⟨"RepeaterWires$Choices", "join", "(LRepeaterWires$Net;ILRepeaterWires$Front;LRepeaterWires$Front;)V"⟩, 6), (⟨"RepeaterWires$Choices", "equip", "(LRepeaterWires$Net;II)V"⟩, 6), (⟨"RepeaterWires$Choices", "driveAll", "(LRepeaterWires$Net;ILRepeaterWires$Front;LRepeaterWires$Front;)V"⟩, 6), (⟨"RepeaterWires$Choices", "pickPoints", "(LRepeaterWires$Net;)V"⟩, 6), (⟨"RepeaterWires", "widest", "()I"⟩, 10), (⟨"RepeaterWires", "findChange", "()I"⟩, 10), (⟨"RepeaterWires", "ofWire", "(II)I"⟩, 10), (⟨"RepeaterWires", "ofEnd", "(II)I"⟩, 10)]
theorem lw_r1 : ∀ q ∈ lw_privs_1, lw_okq q := List.forall_mem_cons.mpr ⟨lw_p0, List.forall_mem_cons.mpr ⟨lw_p1, List.forall_mem_cons.mpr ⟨lw_p2, List.forall_mem_cons.mpr ⟨lw_p3, List.forall_mem_cons.mpr ⟨lw_p4, List.forall_mem_cons.mpr ⟨lw_p5, List.forall_mem_cons.mpr ⟨lw_p6, List.forall_mem_cons.mpr ⟨lw_p7, List.forall_mem_cons.mpr ⟨lw_p8, List.forall_mem_cons.mpr ⟨lw_p9, List.forall_mem_cons.mpr ⟨lw_p10, List.forall_mem_cons.mpr ⟨lw_p11, List.forall_mem_cons.mpr ⟨lw_p12, List.forall_mem_cons.mpr ⟨lw_p13, List.forall_mem_cons.mpr ⟨lw_p14, List.forall_mem_cons.mpr ⟨lw_p15, fun _ h => absurd h List.not_mem_nil⟩⟩⟩⟩⟩⟩⟩⟩⟩⟩⟩⟩⟩⟩⟩⟩
theorem lw_p16 : lw_okq (⟨"RepeaterWires", "ofTiming", "(II)I"⟩, 10) := ⟨⟨by decide +kernel, by decide +kernel⟩, List.mem_of_getElem? (i := 15) (by decide +kernel), List.mem_of_getElem? (i := 457) (by decide +kernel), List.mem_of_getElem? (i := 458) (by decide +kernel)⟩
theorem lw_p17 : lw_okq (⟨"RepeaterWires", "deedComes", "()V"⟩, 10) := ⟨⟨by decide +kernel, by decide +kernel⟩, List.mem_of_getElem? (i := 15) (by decide +kernel), List.mem_of_getElem? (i := 501) (by decide +kernel), List.mem_of_getElem? (i := 502) (by decide +kernel)⟩
theorem lw_p18 : lw_okq (⟨"RepeaterWires", "growByDraws", "()V"⟩, 10) := ⟨⟨by decide +kernel, by decide +kernel⟩, List.mem_of_getElem? (i := 15) (by decide +kernel), List.mem_of_getElem? (i := 570) (by decide +kernel), List.mem_of_getElem? (i := 571) (by decide +kernel)⟩
theorem lw_p19 : lw_okq (⟨"RepeaterWiresModel", "ends", "()I"⟩, 20) := ⟨⟨by decide +kernel, by decide +kernel⟩, List.mem_of_getElem? (i := 614) (by decide +kernel), List.mem_of_getElem? (i := 685) (by decide +kernel), List.mem_of_getElem? (i := 686) (by decide +kernel)⟩
theorem lw_p20 : lw_okq (⟨"RepeaterWiresModel", "isEnd", "(I)Z"⟩, 20) := ⟨⟨by decide +kernel, by decide +kernel⟩, List.mem_of_getElem? (i := 614) (by decide +kernel), List.mem_of_getElem? (i := 689) (by decide +kernel), List.mem_of_getElem? (i := 690) (by decide +kernel)⟩
theorem lw_p21 : lw_okq (⟨"RepeaterWiresModel", "of", "(II)I"⟩, 20) := ⟨⟨by decide +kernel, by decide +kernel⟩, List.mem_of_getElem? (i := 614) (by decide +kernel), List.mem_of_getElem? (i := 693) (by decide +kernel), List.mem_of_getElem? (i := 694) (by decide +kernel)⟩
theorem lw_p22 : lw_okq (⟨"RepeaterWiresModel", "kindsThere", "()I"⟩, 20) := ⟨⟨by decide +kernel, by decide +kernel⟩, List.mem_of_getElem? (i := 614) (by decide +kernel), List.mem_of_getElem? (i := 697) (by decide +kernel), List.mem_of_getElem? (i := 698) (by decide +kernel)⟩
theorem lw_p23 : lw_okq (⟨"RepeaterWiresModel", "isKind", "(I)Z"⟩, 20) := ⟨⟨by decide +kernel, by decide +kernel⟩, List.mem_of_getElem? (i := 614) (by decide +kernel), List.mem_of_getElem? (i := 701) (by decide +kernel), List.mem_of_getElem? (i := 702) (by decide +kernel)⟩
theorem lw_p24 : lw_okq (⟨"RepeaterWiresModel", "ofKind", "(II)I"⟩, 20) := ⟨⟨by decide +kernel, by decide +kernel⟩, List.mem_of_getElem? (i := 614) (by decide +kernel), List.mem_of_getElem? (i := 708) (by decide +kernel), List.mem_of_getElem? (i := 709) (by decide +kernel)⟩
theorem lw_p25 : lw_okq (⟨"RepeaterWiresModel", "asPlaced", "()V"⟩, 20) := ⟨⟨by decide +kernel, by decide +kernel⟩, List.mem_of_getElem? (i := 614) (by decide +kernel), List.mem_of_getElem? (i := 712) (by decide +kernel), List.mem_of_getElem? (i := 713) (by decide +kernel)⟩
theorem lw_p26 : lw_okq (⟨"RepeaterWiresModel", "cost", "(I)I"⟩, 20) := ⟨⟨by decide +kernel, by decide +kernel⟩, List.mem_of_getElem? (i := 614) (by decide +kernel), List.mem_of_getElem? (i := 716) (by decide +kernel), List.mem_of_getElem? (i := 717) (by decide +kernel)⟩
theorem lw_p27 : lw_okq (⟨"RepeaterWiresModel", "isBelow", "(II)Z"⟩, 20) := ⟨⟨by decide +kernel, by decide +kernel⟩, List.mem_of_getElem? (i := 614) (by decide +kernel), List.mem_of_getElem? (i := 720) (by decide +kernel), List.mem_of_getElem? (i := 721) (by decide +kernel)⟩
theorem lw_p28 : lw_okq (⟨"RepeaterWiresModel", "slackNow", "()I"⟩, 20) := ⟨⟨by decide +kernel, by decide +kernel⟩, List.mem_of_getElem? (i := 614) (by decide +kernel), List.mem_of_getElem? (i := 724) (by decide +kernel), List.mem_of_getElem? (i := 725) (by decide +kernel)⟩
theorem lw_p29 : lw_okq (⟨"RepeaterWiresModel", "runsAll", "()V"⟩, 20) := ⟨⟨by decide +kernel, by decide +kernel⟩, List.mem_of_getElem? (i := 614) (by decide +kernel), List.mem_of_getElem? (i := 728) (by decide +kernel), List.mem_of_getElem? (i := 729) (by decide +kernel)⟩
theorem lw_p30 : lw_okq (⟨"RepeaterWiresModel", "weighs", "()V"⟩, 20) := ⟨⟨by decide +kernel, by decide +kernel⟩, List.mem_of_getElem? (i := 614) (by decide +kernel), List.mem_of_getElem? (i := 732) (by decide +kernel), List.mem_of_getElem? (i := 733) (by decide +kernel)⟩
theorem lw_p31 : lw_okq (⟨"RepeaterWiresModel", "runs", "(III)V"⟩, 20) := ⟨⟨by decide +kernel, by decide +kernel⟩, List.mem_of_getElem? (i := 614) (by decide +kernel), List.mem_of_getElem? (i := 736) (by decide +kernel), List.mem_of_getElem? (i := 737) (by decide +kernel)⟩
def lw_privs_2 : List (MethodName × Nat) := [(⟨"RepeaterWires", "ofTiming", "(II)I"⟩, 10), (⟨"RepeaterWires", "deedComes", "()V"⟩, 10), (⟨"RepeaterWires", "growByDraws", "()V"⟩, 10), (⟨"RepeaterWiresModel", "ends", "()I"⟩, 20), (⟨"RepeaterWiresModel", "isEnd", "(I)Z"⟩, 20), (⟨"RepeaterWiresModel", "of", "(II)I"⟩, 20), (⟨"RepeaterWiresModel", "kindsThere", "()I"⟩, 20), (⟨"RepeaterWiresModel", "isKind", "(I)Z"⟩, 20), (⟨"RepeaterWiresModel", "ofKind", "(II)I"⟩, 20), (⟨"RepeaterWiresModel", "asPlaced", "()V"⟩, 20), (⟨"RepeaterWiresModel", "cost", "(I)I"⟩, 20), (⟨"RepeaterWiresModel", "isBelow", "(II)Z"⟩, 20), (⟨"RepeaterWiresModel", "slackNow", "()I"⟩, 20), (⟨"RepeaterWiresModel", "runsAll", "()V"⟩, 20), (⟨"RepeaterWiresModel", "weighs", "()V"⟩, 20), (⟨"RepeaterWiresModel", "runs", "(III)V"⟩, 20)]
theorem lw_r2 : ∀ q ∈ lw_privs_2, lw_okq q := List.forall_mem_cons.mpr ⟨lw_p16, List.forall_mem_cons.mpr ⟨lw_p17, List.forall_mem_cons.mpr ⟨lw_p18, List.forall_mem_cons.mpr ⟨lw_p19, List.forall_mem_cons.mpr ⟨lw_p20, List.forall_mem_cons.mpr ⟨lw_p21, List.forall_mem_cons.mpr ⟨lw_p22, List.forall_mem_cons.mpr ⟨lw_p23, List.forall_mem_cons.mpr ⟨lw_p24, List.forall_mem_cons.mpr ⟨lw_p25, List.forall_mem_cons.mpr ⟨lw_p26, List.forall_mem_cons.mpr ⟨lw_p27, List.forall_mem_cons.mpr ⟨lw_p28, List.forall_mem_cons.mpr ⟨lw_p29, List.forall_mem_cons.mpr ⟨lw_p30, List.forall_mem_cons.mpr ⟨lw_p31, fun _ h => absurd h List.not_mem_nil⟩⟩⟩⟩⟩⟩⟩⟩⟩⟩⟩⟩⟩⟩⟩⟩
theorem lw_p32 : lw_okq (⟨"RepeaterWiresModel", "adds", "(I)I"⟩, 20) := ⟨⟨by decide +kernel, by decide +kernel⟩, List.mem_of_getElem? (i := 614) (by decide +kernel), List.mem_of_getElem? (i := 740) (by decide +kernel), List.mem_of_getElem? (i := 741) (by decide +kernel)⟩
theorem lw_p33 : lw_okq (⟨"RepeaterWiresModel", "slack", "(I)I"⟩, 20) := ⟨⟨by decide +kernel, by decide +kernel⟩, List.mem_of_getElem? (i := 614) (by decide +kernel), List.mem_of_getElem? (i := 744) (by decide +kernel), List.mem_of_getElem? (i := 745) (by decide +kernel)⟩
theorem lw_p34 : lw_okq (⟨"RepeaterWiresModel", "worst", "()I"⟩, 20) := ⟨⟨by decide +kernel, by decide +kernel⟩, List.mem_of_getElem? (i := 614) (by decide +kernel), List.mem_of_getElem? (i := 750) (by decide +kernel), List.mem_of_getElem? (i := 751) (by decide +kernel)⟩
theorem lw_p35 : lw_okq (⟨"RepeaterWiresModel", "wrong", "(I)I"⟩, 20) := ⟨⟨by decide +kernel, by decide +kernel⟩, List.mem_of_getElem? (i := 614) (by decide +kernel), List.mem_of_getElem? (i := 754) (by decide +kernel), List.mem_of_getElem? (i := 755) (by decide +kernel)⟩
theorem lw_p36 : lw_okq (⟨"RepeaterWiresModel", "seeksPoints", "()V"⟩, 20) := ⟨⟨by decide +kernel, by decide +kernel⟩, List.mem_of_getElem? (i := 614) (by decide +kernel), List.mem_of_getElem? (i := 758) (by decide +kernel), List.mem_of_getElem? (i := 759) (by decide +kernel)⟩
theorem lw_p37 : lw_okq (⟨"RepeaterWiresModel", "meets", "(III)V"⟩, 20) := ⟨⟨by decide +kernel, by decide +kernel⟩, List.mem_of_getElem? (i := 614) (by decide +kernel), List.mem_of_getElem? (i := 762) (by decide +kernel), List.mem_of_getElem? (i := 763) (by decide +kernel)⟩
theorem lw_p38 : lw_okq (⟨"RepeaterWiresModel", "isNext", "(I)Z"⟩, 20) := ⟨⟨by decide +kernel, by decide +kernel⟩, List.mem_of_getElem? (i := 614) (by decide +kernel), List.mem_of_getElem? (i := 769) (by decide +kernel), List.mem_of_getElem? (i := 770) (by decide +kernel)⟩
theorem lw_p39 : lw_okq (⟨"RepeaterWiresModel", "widest", "()I"⟩, 20) := ⟨⟨by decide +kernel, by decide +kernel⟩, List.mem_of_getElem? (i := 614) (by decide +kernel), List.mem_of_getElem? (i := 773) (by decide +kernel), List.mem_of_getElem? (i := 774) (by decide +kernel)⟩
theorem lw_p40 : lw_okq (⟨"RepeaterWiresModel", "toldMore", "(I)I"⟩, 20) := ⟨⟨by decide +kernel, by decide +kernel⟩, List.mem_of_getElem? (i := 614) (by decide +kernel), List.mem_of_getElem? (i := 777) (by decide +kernel), List.mem_of_getElem? (i := 778) (by decide +kernel)⟩
theorem lw_p41 : lw_okq (⟨"RepeaterWiresModel", "changeNow", "()I"⟩, 20) := ⟨⟨by decide +kernel, by decide +kernel⟩, List.mem_of_getElem? (i := 614) (by decide +kernel), List.mem_of_getElem? (i := 781) (by decide +kernel), List.mem_of_getElem? (i := 782) (by decide +kernel)⟩
theorem lw_p42 : lw_okq (⟨"RepeaterWiresModel", "wrongEntry", "()I"⟩, 20) := ⟨⟨by decide +kernel, by decide +kernel⟩, List.mem_of_getElem? (i := 614) (by decide +kernel), List.mem_of_getElem? (i := 785) (by decide +kernel), List.mem_of_getElem? (i := 786) (by decide +kernel)⟩
theorem lw_p43 : lw_okq (⟨"RepeaterWiresModel", "isNode", "(I)Z"⟩, 20) := ⟨⟨by decide +kernel, by decide +kernel⟩, List.mem_of_getElem? (i := 614) (by decide +kernel), List.mem_of_getElem? (i := 789) (by decide +kernel), List.mem_of_getElem? (i := 790) (by decide +kernel)⟩
theorem lw_p44 : lw_okq (⟨"RepeaterWiresModel", "seeks", "(II)V"⟩, 20) := ⟨⟨by decide +kernel, by decide +kernel⟩, List.mem_of_getElem? (i := 614) (by decide +kernel), List.mem_of_getElem? (i := 807) (by decide +kernel), List.mem_of_getElem? (i := 808) (by decide +kernel)⟩
theorem lw_p45 : lw_okq (⟨"RepeaterWiresModel", "isPlaceable", "(II)Z"⟩, 20) := ⟨⟨by decide +kernel, by decide +kernel⟩, List.mem_of_getElem? (i := 614) (by decide +kernel), List.mem_of_getElem? (i := 831) (by decide +kernel), List.mem_of_getElem? (i := 832) (by decide +kernel)⟩
theorem lw_p46 : lw_okq (⟨"RepeaterWiresModel", "deed", "()V"⟩, 20) := ⟨⟨by decide +kernel, by decide +kernel⟩, List.mem_of_getElem? (i := 614) (by decide +kernel), List.mem_of_getElem? (i := 841) (by decide +kernel), List.mem_of_getElem? (i := 842) (by decide +kernel)⟩
theorem lw_p47 : lw_okq (⟨"RepeaterWiresModel", "comes", "(III)I"⟩, 20) := ⟨⟨by decide +kernel, by decide +kernel⟩, List.mem_of_getElem? (i := 614) (by decide +kernel), List.mem_of_getElem? (i := 845) (by decide +kernel), List.mem_of_getElem? (i := 846) (by decide +kernel)⟩
def lw_privs_3 : List (MethodName × Nat) := [(⟨"RepeaterWiresModel", "adds", "(I)I"⟩, 20), (⟨"RepeaterWiresModel", "slack", "(I)I"⟩, 20), (⟨"RepeaterWiresModel", "worst", "()I"⟩, 20), (⟨"RepeaterWiresModel", "wrong", "(I)I"⟩, 20), (⟨"RepeaterWiresModel", "seeksPoints", "()V"⟩, 20), (⟨"RepeaterWiresModel", "meets", "(III)V"⟩, 20), (⟨"RepeaterWiresModel", "isNext", "(I)Z"⟩, 20), (⟨"RepeaterWiresModel", "widest", "()I"⟩, 20), (⟨"RepeaterWiresModel", "toldMore", "(I)I"⟩, 20), (⟨"RepeaterWiresModel", "changeNow", "()I"⟩, 20), (⟨"RepeaterWiresModel", "wrongEntry", "()I"⟩, 20), (⟨"RepeaterWiresModel", "isNode", "(I)Z"⟩, 20), (⟨"RepeaterWiresModel", "seeks", "(II)V"⟩, 20), (⟨"RepeaterWiresModel", "isPlaceable", "(II)Z"⟩, 20), (⟨"RepeaterWiresModel", "deed", "()V"⟩, 20), (⟨"RepeaterWiresModel", "comes", "(III)I"⟩, 20)]
theorem lw_r3 : ∀ q ∈ lw_privs_3, lw_okq q := List.forall_mem_cons.mpr ⟨lw_p32, List.forall_mem_cons.mpr ⟨lw_p33, List.forall_mem_cons.mpr ⟨lw_p34, List.forall_mem_cons.mpr ⟨lw_p35, List.forall_mem_cons.mpr ⟨lw_p36, List.forall_mem_cons.mpr ⟨lw_p37, List.forall_mem_cons.mpr ⟨lw_p38, List.forall_mem_cons.mpr ⟨lw_p39, List.forall_mem_cons.mpr ⟨lw_p40, List.forall_mem_cons.mpr ⟨lw_p41, List.forall_mem_cons.mpr ⟨lw_p42, List.forall_mem_cons.mpr ⟨lw_p43, List.forall_mem_cons.mpr ⟨lw_p44, List.forall_mem_cons.mpr ⟨lw_p45, List.forall_mem_cons.mpr ⟨lw_p46, List.forall_mem_cons.mpr ⟨lw_p47, fun _ h => absurd h List.not_mem_nil⟩⟩⟩⟩⟩⟩⟩⟩⟩⟩⟩⟩⟩⟩⟩⟩
theorem lw_p48 : lw_okq (⟨"RepeaterWiresModel", "sets", "(III)V"⟩, 20) := ⟨⟨by decide +kernel, by decide +kernel⟩, List.mem_of_getElem? (i := 614) (by decide +kernel), List.mem_of_getElem? (i := 849) (by decide +kernel), List.mem_of_getElem? (i := 850) (by decide +kernel)⟩
theorem lw_p49 : lw_okq (⟨"RepeaterWiresModel", "draws", "(I)I"⟩, 20) := ⟨⟨by decide +kernel, by decide +kernel⟩, List.mem_of_getElem? (i := 614) (by decide +kernel), List.mem_of_getElem? (i := 889) (by decide +kernel), List.mem_of_getElem? (i := 890) (by decide +kernel)⟩
def lw_privs_4 : List (MethodName × Nat) := [(⟨"RepeaterWiresModel", "sets", "(III)V"⟩, 20), (⟨"RepeaterWiresModel", "draws", "(I)I"⟩, 20)]
theorem lw_r4 : ∀ q ∈ lw_privs_4, lw_okq q := List.forall_mem_cons.mpr ⟨lw_p48, List.forall_mem_cons.mpr ⟨lw_p49, fun _ h => absurd h List.not_mem_nil⟩⟩
def lw_privs : List (MethodName × Nat) := lw_privs_1 ++ (lw_privs_2 ++ (lw_privs_3 ++ (lw_privs_4)))
def lw_tbl : List Cond := k2_sels lw_privs ++ tables_1
theorem lw_privs_ok : ∀ q ∈ lw_privs, lw_okq q := by
  show ∀ q ∈ lw_privs_1 ++ (lw_privs_2 ++ (lw_privs_3 ++ (lw_privs_4))), lw_okq q
  exact List.forall_mem_append.mpr ⟨lw_r1, List.forall_mem_append.mpr ⟨lw_r2, List.forall_mem_append.mpr ⟨lw_r3, lw_r4⟩⟩⟩
end
section
/-! names: the objects' types, the methods, the links, each by its place in lw_tbl; printed by wip/whole/gen.py -/
def RN : Nat → String := fun n => match n with
  | 0 => "RepeaterWires$Book"
  | 1 => "RepeaterWires$Choices"
  | 2 => "RepeaterWires$Draws"
  | 3 => "RepeaterWires$Front"
  | 4 => "RepeaterWires$Net"
  | 5 => "RepeaterWires$Past"
  | 6 => "RepeaterWires$Timing"
  | 7 => "RepeaterWires"
  | 8 => "RepeaterWiresModel"
  | 9 => "RepeaterWiresLaw"
  | 10 => "java/util/Arrays"
  | 11 => "java/lang/Math"
  | _ => "java/lang/Integer"
def TF_0 : u_T := fun k => match k with
  | 0 => ("RepeaterWires$Book", "nodes", "[I", true)
  | 1 => ("RepeaterWires$Book", "times", "[I", true)
  | _ => ("RepeaterWires$Book", "size", "I", false)
def tF_0 : Nat → FieldType := fun k => match k with
  | 0 => .array .int
  | 1 => .array .int
  | _ => .int
def TF_1 : u_T := fun k => match k with
  | 0 => ("RepeaterWires$Choices", "rows", "[LRepeaterWires$Front;", true)
  | 1 => ("RepeaterWires$Choices", "points", "LRepeaterWires$Front;", true)
  | 2 => ("RepeaterWires$Choices", "plainBelow", "LRepeaterWires$Front;", true)
  | 3 => ("RepeaterWires$Choices", "turnedBelow", "LRepeaterWires$Front;", true)
  | 4 => ("RepeaterWires$Choices", "joined", "LRepeaterWires$Front;", true)
  | _ => ("RepeaterWires$Choices", "fresh", "Z", false)
def tF_1 : Nat → FieldType := fun k => match k with
  | 0 => .array (.object "RepeaterWires$Front")
  | 1 => .object "RepeaterWires$Front"
  | 2 => .object "RepeaterWires$Front"
  | 3 => .object "RepeaterWires$Front"
  | 4 => .object "RepeaterWires$Front"
  | _ => .boolean
def TF_2 : u_T := fun k => match k with
  | _ => ("RepeaterWires$Draws", "seed", "I", false)
def tF_2 : Nat → FieldType := fun k => match k with
  | _ => .int
def TF_3 : u_T := fun k => match k with
  | 0 => ("RepeaterWires$Front", "size", "I", false)
  | 1 => ("RepeaterWires$Front", "shows", "[I", false)
  | 2 => ("RepeaterWires$Front", "slack", "[I", false)
  | _ => ("RepeaterWires$Front", "cost", "[I", false)
def tF_3 : Nat → FieldType := fun k => match k with
  | 0 => .int
  | 1 => .array .int
  | 2 => .array .int
  | _ => .array .int
def TF_4 : u_T := fun k => match k with
  | 0 => ("RepeaterWires$Net", "size", "I", false)
  | 1 => ("RepeaterWires$Net", "sourcePull", "I", false)
  | 2 => ("RepeaterWires$Net", "kinds", "I", false)
  | 3 => ("RepeaterWires$Net", "above", "[I", true)
  | 4 => ("RepeaterWires$Net", "wireR", "[I", true)
  | 5 => ("RepeaterWires$Net", "wireC", "[I", true)
  | 6 => ("RepeaterWires$Net", "width", "[I", true)
  | 7 => ("RepeaterWires$Net", "load", "[I", true)
  | 8 => ("RepeaterWires$Net", "need", "[I", true)
  | 9 => ("RepeaterWires$Net", "wants", "[I", true)
  | 10 => ("RepeaterWires$Net", "placed", "[I", true)
  | 11 => ("RepeaterWires$Net", "kindIn", "[I", true)
  | 12 => ("RepeaterWires$Net", "kindPull", "[I", true)
  | 13 => ("RepeaterWires$Net", "kindOwn", "[I", true)
  | 14 => ("RepeaterWires$Net", "kindCost", "[I", true)
  | _ => ("RepeaterWires$Net", "kindTurns", "[I", true)
def tF_4 : Nat → FieldType := fun k => match k with
  | 0 => .int
  | 1 => .int
  | 2 => .int
  | 3 => .array .int
  | 4 => .array .int
  | 5 => .array .int
  | 6 => .array .int
  | 7 => .array .int
  | 8 => .array .int
  | 9 => .array .int
  | 10 => .array .int
  | 11 => .array .int
  | 12 => .array .int
  | 13 => .array .int
  | 14 => .array .int
  | _ => .array .int
def TF_5 : u_T := fun k => match k with
  | 0 => ("RepeaterWires$Past", "ring", "[LRepeaterWires$Net;", true)
  | 1 => ("RepeaterWires$Past", "next", "I", false)
  | _ => ("RepeaterWires$Past", "size", "I", false)
def tF_5 : Nat → FieldType := fun k => match k with
  | 0 => .array (.object "RepeaterWires$Net")
  | 1 => .int
  | _ => .int
def TF_6 : u_T := fun k => match k with
  | 0 => ("RepeaterWires$Timing", "bears", "[I", true)
  | 1 => ("RepeaterWires$Timing", "shows", "[I", true)
  | 2 => ("RepeaterWires$Timing", "time", "[I", true)
  | 3 => ("RepeaterWires$Timing", "turned", "[I", true)
  | 4 => ("RepeaterWires$Timing", "slack", "I", false)
  | 5 => ("RepeaterWires$Timing", "worst", "I", false)
  | _ => ("RepeaterWires$Timing", "wrongEnds", "I", false)
def tF_6 : Nat → FieldType := fun k => match k with
  | 0 => .array .int
  | 1 => .array .int
  | 2 => .array .int
  | 3 => .array .int
  | 4 => .int
  | 5 => .int
  | _ => .int
def TF_7 : u_T := fun k => match k with
  | 0 => ("RepeaterWires", "net", "LRepeaterWires$Net;", true)
  | 1 => ("RepeaterWires", "trial", "LRepeaterWires$Net;", true)
  | 2 => ("RepeaterWires", "timing", "LRepeaterWires$Timing;", true)
  | 3 => ("RepeaterWires", "choices", "LRepeaterWires$Choices;", true)
  | 4 => ("RepeaterWires", "past", "LRepeaterWires$Past;", true)
  | 5 => ("RepeaterWires", "book", "LRepeaterWires$Book;", true)
  | 6 => ("RepeaterWires", "draws", "LRepeaterWires$Draws;", true)
  | 7 => ("RepeaterWires", "images", "[LRepeaterWires$Net;", true)
  | 8 => ("RepeaterWires", "imageSeeds", "[I", true)
  | _ => ("RepeaterWires", "imageKept", "[Z", true)
def tF_7 : Nat → FieldType := fun k => match k with
  | 0 => .object "RepeaterWires$Net"
  | 1 => .object "RepeaterWires$Net"
  | 2 => .object "RepeaterWires$Timing"
  | 3 => .object "RepeaterWires$Choices"
  | 4 => .object "RepeaterWires$Past"
  | 5 => .object "RepeaterWires$Book"
  | 6 => .object "RepeaterWires$Draws"
  | 7 => .array (.object "RepeaterWires$Net")
  | 8 => .array .int
  | _ => .array .boolean
def TF_8 : u_T := fun k => match k with
  | 0 => ("RepeaterWiresModel", "s", "[I", true)
  | 1 => ("RepeaterWiresModel", "seed", "I", false)
  | 2 => ("RepeaterWiresModel", "past", "[I", true)
  | 3 => ("RepeaterWiresModel", "known", "I", false)
  | 4 => ("RepeaterWiresModel", "images", "[I", true)
  | 5 => ("RepeaterWiresModel", "isKept", "[Z", true)
  | 6 => ("RepeaterWiresModel", "bookNode", "[I", true)
  | 7 => ("RepeaterWiresModel", "bookTime", "[I", true)
  | 8 => ("RepeaterWiresModel", "written", "I", false)
  | 9 => ("RepeaterWiresModel", "by", "[I", true)
  | 10 => ("RepeaterWiresModel", "wide", "[I", true)
  | 11 => ("RepeaterWiresModel", "bears", "[I", true)
  | 12 => ("RepeaterWiresModel", "shows", "[I", true)
  | 13 => ("RepeaterWiresModel", "time", "[I", true)
  | 14 => ("RepeaterWiresModel", "turned", "[I", true)
  | 15 => ("RepeaterWiresModel", "foundShows", "[I", true)
  | 16 => ("RepeaterWiresModel", "foundSlack", "[I", true)
  | 17 => ("RepeaterWiresModel", "foundCost", "[I", true)
  | 18 => ("RepeaterWiresModel", "found", "I", false)
  | _ => ("RepeaterWiresModel", "changeSlack", "I", false)
def tF_8 : Nat → FieldType := fun k => match k with
  | 0 => .array .int
  | 1 => .int
  | 2 => .array .int
  | 3 => .int
  | 4 => .array .int
  | 5 => .array .boolean
  | 6 => .array .int
  | 7 => .array .int
  | 8 => .int
  | 9 => .array .int
  | 10 => .array .int
  | 11 => .array .int
  | 12 => .array .int
  | 13 => .array .int
  | 14 => .array .int
  | 15 => .array .int
  | 16 => .array .int
  | 17 => .array .int
  | 18 => .int
  | _ => .int
def TF : Nat → u_T := fun n => match n with
  | 0 => TF_0
  | 1 => TF_1
  | 2 => TF_2
  | 3 => TF_3
  | 4 => TF_4
  | 5 => TF_5
  | 6 => TF_6
  | 7 => TF_7
  | _ => TF_8
def tF : Nat → Nat → FieldType := fun n => match n with
  | 0 => tF_0
  | 1 => tF_1
  | 2 => tF_2
  | 3 => tF_3
  | 4 => tF_4
  | 5 => tF_5
  | 6 => tF_6
  | 7 => tF_7
  | _ => tF_8
def NF : Nat → Nat := fun n => match n with
  | 0 => 3
  | 1 => 6
  | 2 => 1
  | 3 => 4
  | 4 => 16
  | 5 => 3
  | 6 => 7
  | 7 => 10
  | _ => 20
def PLF : List (List Nat) := [[290, 292, 294], [247, 249, 251, 253, 255, 257], [305], [231, 233, 235, 237], [136, 138, 140, 142, 144, 146, 148, 150, 152, 154, 156, 158, 160, 162, 164, 166], [273, 275, 277], [191, 193, 195, 197, 199, 201, 203], [318, 320, 322, 324, 326, 328, 330, 332, 334, 336], [689, 691, 693, 695, 697, 699, 701, 703, 705, 707, 709, 711, 713, 715, 717, 719, 721, 723, 725, 727]]
theorem lay_pl : ∀ c, c < 9 → ∀ k, k < NF c → lw_tbl[(PLF.getD c []).getD k 0]? = some (u_lay (RN c) (TF c) k) := by decide +kernel
theorem ty_ok : ∀ c, c < 9 → ∀ k, k < NF c → parseFieldDescriptor (TF c k).2.2.1 = some (tF c k) := by decide +kernel
theorem nm_ok : ∀ c, c < 9 → ∀ a, a < NF c → ∀ b, b < NF c → a ≠ b → (TF c a).2.1 ≠ (TF c b).2.1 := by decide +kernel
theorem own_ok : ∀ c, c < 9 → ∀ k, k < NF c → (TF c k).1 = RN c := by decide +kernel
def INL : List Nat := [281, 207, 298, 214, 73, 261, 171, 65, 664]
theorem in_pl : ∀ c, c < 9 → lw_tbl[INL.getD c 0]? = some (.instantiable (RN c) (NF c)) := by decide +kernel
def IZL : List Nat := [57, 54, 58, 55, 52, 56, 53, 51, 59, 50, 60, 61, 63]
theorem iz_pl : ∀ c, c < 13 → lw_tbl[IZL.getD c 0]? = some (.initialized (RN c)) := by decide +kernel
abbrev mtT : Type := MethodName × ByteArray × Nat × Option FieldType × Nat × Nat × Nat
def MTL : List mtT := [
  (⟨"RepeaterWires$Book", "<init>", "()V"⟩, prog_2_method_1_code, 1, none, 0, 0, 1),
  (⟨"RepeaterWires$Book", "add", "(II)V"⟩, prog_2_method_2_code, 3, none, 0, 2, 1),
  (⟨"RepeaterWires$Book", "wrongEntry", "(I[I)I"⟩, prog_2_method_3_code, 5, some (.int), 0, 2, 1),
  (⟨"RepeaterWires$Choices", "<init>", "()V"⟩, prog_3_method_1_code, 2, none, 1, 0, 1),
  (⟨"RepeaterWires$Choices", "forget", "()V"⟩, prog_3_method_2_code, 1, none, 1, 0, 1),
  (⟨"RepeaterWires$Choices", "row", "(II)LRepeaterWires$Front;"⟩, prog_3_method_3_code, 3, some ((.object "RepeaterWires$Front")), 1, 2, 1),
  (⟨"RepeaterWires$Choices", "of", "(LRepeaterWires$Net;)LRepeaterWires$Choices;"⟩, prog_3_method_4_code, 5, some ((.object "RepeaterWires$Choices")), 1, 1, 1),
  (⟨"RepeaterWires$Choices", "gather", "(LRepeaterWires$Net;IIZLRepeaterWires$Front;)V"⟩, prog_3_method_5_code, 7, none, 1, 5, 1),
  (⟨"RepeaterWires$Choices", "join", "(LRepeaterWires$Net;ILRepeaterWires$Front;LRepeaterWires$Front;)V"⟩, prog_3_method_6_code, 10, none, 1, 4, 1),
  (⟨"RepeaterWires$Choices", "equip", "(LRepeaterWires$Net;II)V"⟩, prog_3_method_7_code, 8, none, 1, 3, 1),
  (⟨"RepeaterWires$Choices", "driveAll", "(LRepeaterWires$Net;ILRepeaterWires$Front;LRepeaterWires$Front;)V"⟩, prog_3_method_8_code, 7, none, 1, 4, 1),
  (⟨"RepeaterWires$Choices", "pickPoints", "(LRepeaterWires$Net;)V"⟩, prog_3_method_9_code, 4, none, 1, 1, 1),
  (⟨"RepeaterWires$Draws", "<init>", "()V"⟩, prog_4_method_1_code, 1, none, 2, 0, 1),
  (⟨"RepeaterWires$Draws", "next", "(I)I"⟩, prog_4_method_2_code, 2, some (.int), 2, 1, 1),
  (⟨"RepeaterWires$Front", "<init>", "()V"⟩, prog_5_method_1_code, 1, none, 3, 0, 1),
  (⟨"RepeaterWires$Front", "clear", "()V"⟩, prog_5_method_2_code, 1, none, 3, 0, 1),
  (⟨"RepeaterWires$Front", "offer", "(III)V"⟩, prog_5_method_3_code, 5, none, 3, 3, 1),
  (⟨"RepeaterWires$Front", "swapWith", "(LRepeaterWires$Front;)V"⟩, prog_5_method_4_code, 6, none, 3, 1, 1),
  (⟨"RepeaterWires$Front", "standsAhead", "(III)Z"⟩, prog_5_method_5_code, 4, some (.boolean), 3, 3, 1),
  (⟨"RepeaterWires$Front", "dropBeaten", "(III)V"⟩, prog_5_method_6_code, 6, none, 3, 3, 1),
  (⟨"RepeaterWires$Front", "insert", "(IIII)V"⟩, prog_5_method_7_code, 5, none, 3, 4, 1),
  (⟨"RepeaterWires$Front", "widen", "()Z"⟩, prog_5_method_8_code, 2, some (.boolean), 3, 0, 1),
  (⟨"RepeaterWires$Net", "<init>", "()V"⟩, prog_6_method_1_code, 1, none, 4, 0, 1),
  (⟨"RepeaterWires$Net", "copyFrom", "(LRepeaterWires$Net;)V"⟩, prog_6_method_2_code, 2, none, 4, 1, 1),
  (⟨"RepeaterWires$Net", "hasNode", "(I)Z"⟩, prog_6_method_3_code, 2, some (.boolean), 4, 1, 1),
  (⟨"RepeaterWires$Net", "hasKind", "(I)Z"⟩, prog_6_method_4_code, 2, some (.boolean), 4, 1, 1),
  (⟨"RepeaterWires$Net", "canBePlaced", "(I)Z"⟩, prog_6_method_5_code, 2, some (.boolean), 4, 1, 1),
  (⟨"RepeaterWires$Net", "hasRoom", "()Z"⟩, prog_6_method_6_code, 1, some (.boolean), 4, 0, 1),
  (⟨"RepeaterWires$Net", "ends", "()I"⟩, prog_6_method_7_code, 4, some (.int), 4, 0, 1),
  (⟨"RepeaterWires$Net", "isEnd", "(I)Z"⟩, prog_6_method_8_code, 2, some (.boolean), 4, 1, 1),
  (⟨"RepeaterWires$Net", "isPlaced", "(I)Z"⟩, prog_6_method_9_code, 3, some (.boolean), 4, 1, 1),
  (⟨"RepeaterWires$Net", "costOfAll", "()I"⟩, prog_6_method_10_code, 3, some (.int), 4, 0, 1),
  (⟨"RepeaterWires$Net", "grow", "(III)I"⟩, prog_6_method_11_code, 5, some (.int), 4, 3, 1),
  (⟨"RepeaterWires$Net", "tellEnd", "(IIII)V"⟩, prog_6_method_12_code, 5, none, 4, 4, 1),
  (⟨"RepeaterWires$Net", "wireTime", "(II)I"⟩, prog_6_method_13_code, 4, some (.int), 4, 2, 1),
  (⟨"RepeaterWires$Past", "<init>", "()V"⟩, prog_7_method_1_code, 2, none, 5, 0, 1),
  (⟨"RepeaterWires$Past", "push", "(LRepeaterWires$Net;)V"⟩, prog_7_method_2_code, 2, none, 5, 1, 1),
  (⟨"RepeaterWires$Past", "goBackBy", "(ILRepeaterWires$Net;)V"⟩, prog_7_method_3_code, 3, none, 5, 2, 1),
  (⟨"RepeaterWires$Timing", "<init>", "()V"⟩, prog_8_method_1_code, 1, none, 6, 0, 1),
  (⟨"RepeaterWires$Timing", "of", "(LRepeaterWires$Net;)LRepeaterWires$Timing;"⟩, prog_8_method_2_code, 3, some ((.object "RepeaterWires$Timing")), 6, 1, 1),
  (⟨"RepeaterWires$Timing", "weigh", "(LRepeaterWires$Net;I)V"⟩, prog_8_method_3_code, 5, none, 6, 2, 1),
  (⟨"RepeaterWires$Timing", "run", "(LRepeaterWires$Net;)V"⟩, prog_8_method_4_code, 5, none, 6, 1, 1),
  (⟨"RepeaterWires$Timing", "judge", "(LRepeaterWires$Net;I)V"⟩, prog_8_method_5_code, 4, none, 6, 2, 1),
  (⟨"RepeaterWires", "<init>", "()V"⟩, prog_1_method_1_code, 2, none, 7, 0, 1),
  (⟨"RepeaterWires", "told", "(I)I"⟩, prog_1_method_2_code, 2, some (.int), 7, 1, 1),
  (⟨"RepeaterWires", "at", "(II)I"⟩, prog_1_method_3_code, 3, some (.int), 7, 2, 1),
  (⟨"RepeaterWires", "kindAt", "(II)I"⟩, prog_1_method_4_code, 3, some (.int), 7, 2, 1),
  (⟨"RepeaterWires", "candidates", "(II)I"⟩, prog_1_method_5_code, 3, some (.int), 7, 2, 1),
  (⟨"RepeaterWires", "candidate", "(IIII)I"⟩, prog_1_method_6_code, 6, some (.int), 7, 4, 1),
  (⟨"RepeaterWires", "point", "(II)I"⟩, prog_1_method_7_code, 4, some (.int), 7, 2, 1),
  (⟨"RepeaterWires", "best", "(I)I"⟩, prog_1_method_8_code, 5, some (.int), 7, 1, 1),
  (⟨"RepeaterWires", "least", "(I)I"⟩, prog_1_method_9_code, 4, some (.int), 7, 1, 1),
  (⟨"RepeaterWires", "would", "(II)I"⟩, prog_1_method_10_code, 3, some (.int), 7, 2, 1),
  (⟨"RepeaterWires", "node", "(III)I"⟩, prog_1_method_11_code, 4, some (.int), 7, 3, 1),
  (⟨"RepeaterWires", "end", "(IIII)I"⟩, prog_1_method_12_code, 5, some (.int), 7, 4, 1),
  (⟨"RepeaterWires", "wire", "(IIII)I"⟩, prog_1_method_13_code, 5, some (.int), 7, 4, 1),
  (⟨"RepeaterWires", "pull", "(I)I"⟩, prog_1_method_14_code, 3, some (.int), 7, 1, 1),
  (⟨"RepeaterWires", "kind", "(IIIIII)I"⟩, prog_1_method_15_code, 8, some (.int), 7, 6, 1),
  (⟨"RepeaterWires", "drop", "(I)I"⟩, prog_1_method_16_code, 2, some (.int), 7, 1, 1),
  (⟨"RepeaterWires", "place", "(II)I"⟩, prog_1_method_17_code, 4, some (.int), 7, 2, 1),
  (⟨"RepeaterWires", "take", "()I"⟩, prog_1_method_18_code, 1, some (.int), 7, 0, 1),
  (⟨"RepeaterWires", "change", "()I"⟩, prog_1_method_19_code, 2, some (.int), 7, 0, 1),
  (⟨"RepeaterWires", "drift", "(I)I"⟩, prog_1_method_20_code, 3, some (.int), 7, 1, 1),
  (⟨"RepeaterWires", "undo", "(I)I"⟩, prog_1_method_21_code, 2, some (.int), 7, 1, 1),
  (⟨"RepeaterWires", "write", "(II)I"⟩, prog_1_method_22_code, 3, some (.int), 7, 2, 1),
  (⟨"RepeaterWires", "tear", "()I"⟩, prog_1_method_23_code, 2, some (.int), 7, 0, 1),
  (⟨"RepeaterWires", "seed", "(I)I"⟩, prog_1_method_24_code, 3, some (.int), 7, 1, 1),
  (⟨"RepeaterWires", "keep", "(I)I"⟩, prog_1_method_25_code, 2, some (.int), 7, 1, 1),
  (⟨"RepeaterWires", "goBack", "(I)I"⟩, prog_1_method_26_code, 2, some (.int), 7, 1, 1),
  (⟨"RepeaterWires", "within", "(III)Z"⟩, prog_1_method_27_code, 3, some (.boolean), 7, 3, 0),
  (⟨"RepeaterWires", "deedComes", "()V"⟩, prog_1_method_28_code, 1, none, 7, 0, 1),
  (⟨"RepeaterWires", "growByDraws", "()V"⟩, prog_1_method_29_code, 8, none, 7, 0, 1),
  (⟨"RepeaterWires", "ofWire", "(II)I"⟩, prog_1_method_30_code, 3, some (.int), 7, 2, 1),
  (⟨"RepeaterWires", "ofEnd", "(II)I"⟩, prog_1_method_31_code, 3, some (.int), 7, 2, 1),
  (⟨"RepeaterWires", "ofTiming", "(II)I"⟩, prog_1_method_32_code, 3, some (.int), 7, 2, 1),
  (⟨"RepeaterWires", "widest", "()I"⟩, prog_1_method_33_code, 4, some (.int), 7, 0, 1),
  (⟨"RepeaterWires", "findChange", "()I"⟩, prog_1_method_34_code, 9, some (.int), 7, 0, 1),
  (⟨"RepeaterWiresModel", "<init>", "()V"⟩, prog_10_method_1_code, 1, none, 8, 0, 1),
  (⟨"RepeaterWiresModel", "in", "(III)Z"⟩, prog_10_method_2_code, 3, some (.boolean), 8, 3, 0),
  (⟨"RepeaterWiresModel", "of", "(II)I"⟩, prog_10_method_3_code, 3, some (.int), 8, 2, 1),
  (⟨"RepeaterWiresModel", "ofKind", "(II)I"⟩, prog_10_method_4_code, 3, some (.int), 8, 2, 1),
  (⟨"RepeaterWiresModel", "isNode", "(I)Z"⟩, prog_10_method_5_code, 2, some (.boolean), 8, 1, 1),
  (⟨"RepeaterWiresModel", "isKind", "(I)Z"⟩, prog_10_method_6_code, 2, some (.boolean), 8, 1, 1),
  (⟨"RepeaterWiresModel", "isEnd", "(I)Z"⟩, prog_10_method_7_code, 4, some (.boolean), 8, 1, 1),
  (⟨"RepeaterWiresModel", "isBelow", "(II)Z"⟩, prog_10_method_8_code, 4, some (.boolean), 8, 2, 1),
  (⟨"RepeaterWiresModel", "asPlaced", "()V"⟩, prog_10_method_9_code, 2, none, 8, 0, 1),
  (⟨"RepeaterWiresModel", "weighs", "()V"⟩, prog_10_method_10_code, 4, none, 8, 0, 1),
  (⟨"RepeaterWiresModel", "adds", "(I)I"⟩, prog_10_method_11_code, 2, some (.int), 8, 1, 1),
  (⟨"RepeaterWiresModel", "runs", "(III)V"⟩, prog_10_method_12_code, 8, none, 8, 3, 1),
  (⟨"RepeaterWiresModel", "runsAll", "()V"⟩, prog_10_method_13_code, 1, none, 8, 0, 1),
  (⟨"RepeaterWiresModel", "slack", "(I)I"⟩, prog_10_method_14_code, 5, some (.int), 8, 1, 1),
  (⟨"RepeaterWiresModel", "wrong", "(I)I"⟩, prog_10_method_15_code, 4, some (.int), 8, 1, 1),
  (⟨"RepeaterWiresModel", "cost", "(I)I"⟩, prog_10_method_16_code, 4, some (.int), 8, 1, 1),
  (⟨"RepeaterWiresModel", "slackNow", "()I"⟩, prog_10_method_17_code, 1, some (.int), 8, 0, 1),
  (⟨"RepeaterWiresModel", "isNext", "(I)Z"⟩, prog_10_method_18_code, 3, some (.boolean), 8, 1, 1),
  (⟨"RepeaterWiresModel", "isBeaten", "(IIIIII)Z"⟩, prog_10_method_19_code, 6, some (.boolean), 8, 6, 0),
  (⟨"RepeaterWiresModel", "meets", "(III)V"⟩, prog_10_method_20_code, 6, none, 8, 3, 1),
  (⟨"RepeaterWiresModel", "seeks", "(II)V"⟩, prog_10_method_21_code, 4, none, 8, 2, 1),
  (⟨"RepeaterWiresModel", "seeksPoints", "()V"⟩, prog_10_method_22_code, 2, none, 8, 0, 1),
  (⟨"RepeaterWiresModel", "widest", "()I"⟩, prog_10_method_23_code, 4, some (.int), 8, 0, 1),
  (⟨"RepeaterWiresModel", "changeNow", "()I"⟩, prog_10_method_24_code, 8, some (.int), 8, 0, 1),
  (⟨"RepeaterWiresModel", "wrongEntry", "()I"⟩, prog_10_method_25_code, 3, some (.int), 8, 0, 1),
  (⟨"RepeaterWiresModel", "ends", "()I"⟩, prog_10_method_26_code, 3, some (.int), 8, 0, 1),
  (⟨"RepeaterWiresModel", "worst", "()I"⟩, prog_10_method_27_code, 3, some (.int), 8, 0, 1),
  (⟨"RepeaterWiresModel", "kindsThere", "()I"⟩, prog_10_method_28_code, 3, some (.int), 8, 0, 1),
  (⟨"RepeaterWiresModel", "told", "(I)I"⟩, prog_10_method_29_code, 2, some (.int), 8, 1, 1),
  (⟨"RepeaterWiresModel", "toldMore", "(I)I"⟩, prog_10_method_30_code, 2, some (.int), 8, 1, 1),
  (⟨"RepeaterWiresModel", "at", "(II)I"⟩, prog_10_method_31_code, 3, some (.int), 8, 2, 1),
  (⟨"RepeaterWiresModel", "kindAt", "(II)I"⟩, prog_10_method_32_code, 3, some (.int), 8, 2, 1),
  (⟨"RepeaterWiresModel", "candidates", "(II)I"⟩, prog_10_method_33_code, 3, some (.int), 8, 2, 1),
  (⟨"RepeaterWiresModel", "candidate", "(IIII)I"⟩, prog_10_method_34_code, 5, some (.int), 8, 4, 1),
  (⟨"RepeaterWiresModel", "point", "(II)I"⟩, prog_10_method_35_code, 3, some (.int), 8, 2, 1),
  (⟨"RepeaterWiresModel", "best", "(I)I"⟩, prog_10_method_36_code, 5, some (.int), 8, 1, 1),
  (⟨"RepeaterWiresModel", "least", "(I)I"⟩, prog_10_method_37_code, 4, some (.int), 8, 1, 1),
  (⟨"RepeaterWiresModel", "isPlaceable", "(II)Z"⟩, prog_10_method_38_code, 3, some (.boolean), 8, 2, 1),
  (⟨"RepeaterWiresModel", "would", "(II)I"⟩, prog_10_method_39_code, 3, some (.int), 8, 2, 1),
  (⟨"RepeaterWiresModel", "deed", "()V"⟩, prog_10_method_40_code, 2, none, 8, 0, 1),
  (⟨"RepeaterWiresModel", "sets", "(III)V"⟩, prog_10_method_41_code, 4, none, 8, 3, 1),
  (⟨"RepeaterWiresModel", "comes", "(III)I"⟩, prog_10_method_42_code, 5, some (.int), 8, 3, 1),
  (⟨"RepeaterWiresModel", "node", "(III)I"⟩, prog_10_method_43_code, 4, some (.int), 8, 3, 1),
  (⟨"RepeaterWiresModel", "end", "(IIII)I"⟩, prog_10_method_44_code, 5, some (.int), 8, 4, 1),
  (⟨"RepeaterWiresModel", "wire", "(IIII)I"⟩, prog_10_method_45_code, 5, some (.int), 8, 4, 1),
  (⟨"RepeaterWiresModel", "pull", "(I)I"⟩, prog_10_method_46_code, 3, some (.int), 8, 1, 1),
  (⟨"RepeaterWiresModel", "kind", "(IIIIII)I"⟩, prog_10_method_47_code, 9, some (.int), 8, 6, 1),
  (⟨"RepeaterWiresModel", "drop", "(I)I"⟩, prog_10_method_48_code, 3, some (.int), 8, 1, 1),
  (⟨"RepeaterWiresModel", "place", "(II)I"⟩, prog_10_method_49_code, 4, some (.int), 8, 2, 1),
  (⟨"RepeaterWiresModel", "take", "()I"⟩, prog_10_method_50_code, 1, some (.int), 8, 0, 1),
  (⟨"RepeaterWiresModel", "change", "()I"⟩, prog_10_method_51_code, 2, some (.int), 8, 0, 1),
  (⟨"RepeaterWiresModel", "draws", "(I)I"⟩, prog_10_method_52_code, 2, some (.int), 8, 1, 1),
  (⟨"RepeaterWiresModel", "drift", "(I)I"⟩, prog_10_method_53_code, 7, some (.int), 8, 1, 1),
  (⟨"RepeaterWiresModel", "undo", "(I)I"⟩, prog_10_method_54_code, 3, some (.int), 8, 1, 1),
  (⟨"RepeaterWiresModel", "write", "(II)I"⟩, prog_10_method_55_code, 3, some (.int), 8, 2, 1),
  (⟨"RepeaterWiresModel", "tear", "()I"⟩, prog_10_method_56_code, 2, some (.int), 8, 0, 1),
  (⟨"RepeaterWiresModel", "seed", "(I)I"⟩, prog_10_method_57_code, 3, some (.int), 8, 1, 1),
  (⟨"RepeaterWiresModel", "keep", "(I)I"⟩, prog_10_method_58_code, 3, some (.int), 8, 1, 1),
  (⟨"RepeaterWiresModel", "goBack", "(I)I"⟩, prog_10_method_59_code, 3, some (.int), 8, 1, 1),
  (⟨"java/lang/Integer", "bitCount", "(I)I"⟩, prog_12_method_49_code, 1, some (.int), 12, 1, 0),
  (⟨"java/lang/Math", "max", "(II)I"⟩, prog_13_method_65_code, 2, some (.int), 11, 2, 0),
  (⟨"java/lang/Math", "min", "(II)I"⟩, prog_13_method_69_code, 2, some (.int), 11, 2, 0),
  (⟨"java/util/Arrays", "copyOf", "([II)[I"⟩, prog_15_method_123_code, 3, some ((.array .int)), 10, 2, 0),
  (⟨"RepeaterWiresLaw", "law", "([I)Z"⟩, code, 4, some .boolean, 9, 1, 0)]
def MTD : mtT := (⟨"", "", ""⟩, ⟨#[]⟩, 0, none, 0, 0, 0)
def mT (q : Nat) : mtT := MTL.getD q MTD
def mY (q : Nat) : MethodName := (mT q).1
def mB (q : Nat) : ByteArray := (mT q).2.1
def mL (q : Nat) : Nat := (mT q).2.2.1
def mR (q : Nat) : Option FieldType := (mT q).2.2.2.1
def mO (q : Nat) : Nat := (mT q).2.2.2.2.1
def mN (q : Nat) : Nat := (mT q).2.2.2.2.2.1
def mS (q : Nat) : Nat := (mT q).2.2.2.2.2.2
def MPL : List (Nat × Nat × Nat) := [(284, 283, 0), (646, 644, 645), (479, 477, 478), (210, 209, 0), (563, 561, 562), (428, 426, 427), (377, 375, 376), (382, 381, 3), (432, 431, 8), (442, 441, 9), (450, 449, 10), (454, 453, 11), (301, 300, 0), (626, 624, 625), (217, 216, 0), (386, 384, 385), (390, 388, 389), (438, 436, 437), (394, 393, 4), (398, 397, 5), (422, 421, 7), (402, 401, 6), (76, 75, 0), (462, 460, 461), (488, 486, 487), (446, 444, 445), (474, 472, 473), (548, 546, 547), (347, 345, 346), (500, 498, 499), (596, 594, 595), (351, 349, 350), (567, 565, 566), (571, 569, 570), (368, 366, 367), (264, 263, 0), (557, 555, 556), (638, 636, 637), (174, 173, 0), (355, 353, 354), (360, 359, 0), (364, 363, 1), (372, 371, 2), (68, 67, 0), (343, 341, 342), (484, 482, 483), (513, 511, 512), (518, 516, 517), (523, 521, 522), (527, 525, 526), (531, 529, 530), (535, 533, 534), (539, 537, 538), (544, 542, 543), (575, 573, 574), (580, 578, 579), (584, 582, 583), (588, 586, 587), (592, 590, 591), (606, 604, 605), (610, 608, 609), (614, 612, 613), (618, 616, 617), (634, 632, 633), (642, 640, 641), (650, 648, 649), (654, 652, 653), (658, 656, 657), (662, 660, 661), (492, 491, 0), (553, 552, 17), (622, 621, 18), (496, 495, 14), (505, 504, 15), (509, 508, 16), (458, 457, 12), (470, 469, 13), (667, 666, 0), (756, 755, 0), (745, 744, 21), (760, 759, 24), (841, 840, 43), (753, 752, 23), (741, 740, 20), (772, 771, 27), (764, 763, 25), (784, 783, 30), (792, 791, 32), (788, 787, 31), (780, 779, 29), (796, 795, 33), (806, 805, 35), (768, 767, 26), (776, 775, 28), (821, 820, 38), (817, 816, 0), (814, 813, 37), (859, 858, 44), (810, 809, 36), (825, 824, 39), (833, 832, 41), (837, 836, 42), (737, 736, 19), (802, 801, 34), (749, 748, 22), (733, 731, 732), (829, 828, 40), (846, 844, 845), (851, 849, 850), (855, 853, 854), (863, 861, 862), (867, 865, 866), (871, 869, 870), (875, 873, 874), (883, 882, 45), (879, 877, 878), (893, 892, 46), (901, 900, 48), (897, 896, 47), (888, 886, 887), (905, 903, 904), (909, 907, 908), (913, 911, 912), (917, 915, 916), (921, 919, 920), (925, 923, 924), (929, 927, 928), (933, 931, 932), (941, 940, 49), (937, 935, 936), (949, 947, 948), (953, 951, 952), (957, 955, 956), (961, 959, 960), (965, 963, 964), (969, 967, 968), (599, 598, 0), (466, 465, 0), (415, 414, 0), (405, 404, 0), (0, 0, 0)]
def mP (q : Nat) : Nat × Nat × Nat := MPL.getD q (0, 0, 0)
def qLaw : Nat := 140
theorem mi_pl : ∀ q, q < 140 → lw_tbl[(mP q).2.1]? = some (if mS q = 0 then .static (mY q) else .instanceMethod (mY q)) := by decide +kernel
theorem ms_pl : ∀ q, q < 140 → mS q = 1 → (mY q).name ≠ "<init>" → lw_tbl[(mP q).2.2]? = some (.selects (mY q).cls (mY q) (mY q)) := by decide +kernel
theorem mo_ok : ∀ q, q < 140 → (mY q).cls = RN (mO q) ∧ mO q < 13 ∧ mL q ≤ 16 := by decide +kernel
theorem mh_ok : ∀ c, c < 13 → RN c ≠ "java/lang/invoke/MethodHandle" ∧ RN c ≠ "java/lang/invoke/VarHandle" := by decide +kernel
theorem mq_ok : ∀ q, q < 140 → plainFor (mY q) = true := by decide +kernel
theorem md_ok : ∀ q, q < 140 → (parseMethodDescriptor (mY q).desc).map (fun d => d.parameters.length) = some (mN q) := by decide +kernel
def FLK : List (Nat × Nat × Nat × Nat × Nat) := [(0, 9, 0, 0, 286), (0, 15, 0, 1, 287), (0, 18, 0, 2, 288), (1, 11, 1, 0, 240), (1, 18, 1, 1, 241), (1, 22, 1, 2, 243), (1, 25, 1, 3, 244), (1, 28, 1, 4, 245), (1, 31, 1, 5, 246), (1, 41, 4, 0, 81), (1, 68, 4, 9, 111), (1, 72, 4, 7, 104), (1, 75, 4, 8, 107), (1, 83, 4, 3, 90), (1, 90, 4, 5, 96), (1, 93, 4, 6, 100), (1, 96, 3, 0, 221), (1, 97, 3, 1, 223), (1, 100, 3, 2, 226), (1, 112, 3, 3, 229), (1, 119, 4, 15, 135), (1, 125, 4, 13, 128), (1, 128, 4, 12, 124), (1, 131, 4, 11, 120), (1, 134, 4, 14, 131), (1, 137, 4, 1, 85), (2, 7, 2, 0, 303), (3, 9, 3, 0, 219), (3, 15, 3, 1, 222), (3, 19, 3, 2, 225), (3, 22, 3, 3, 228), (4, 9, 4, 0, 78), (4, 15, 4, 1, 82), (4, 18, 4, 2, 86), (4, 21, 4, 3, 88), (4, 25, 4, 4, 92), (4, 28, 4, 5, 94), (4, 31, 4, 6, 98), (4, 34, 4, 7, 102), (4, 37, 4, 8, 106), (4, 40, 4, 9, 110), (4, 43, 4, 10, 114), (4, 46, 4, 11, 117), (4, 49, 4, 12, 121), (4, 52, 4, 13, 125), (4, 55, 4, 14, 129), (4, 58, 4, 15, 132), (5, 11, 5, 0, 269), (5, 17, 5, 1, 270), (5, 21, 5, 2, 271), (6, 9, 6, 0, 177), (6, 15, 6, 1, 179), (6, 18, 6, 2, 181), (6, 21, 6, 3, 183), (6, 25, 6, 4, 185), (6, 29, 6, 5, 187), (6, 32, 6, 6, 189), (6, 52, 4, 0, 80), (6, 55, 4, 7, 103), (6, 58, 4, 10, 115), (6, 61, 4, 11, 118), (6, 64, 4, 3, 89), (6, 67, 4, 5, 95), (6, 70, 4, 6, 99), (6, 73, 4, 1, 84), (6, 80, 4, 13, 127), (6, 83, 4, 12, 123), (6, 86, 4, 15, 134), (6, 89, 4, 8, 108), (6, 92, 4, 9, 112), (7, 10, 7, 0, 308), (7, 16, 7, 1, 309), (7, 22, 7, 2, 310), (7, 29, 7, 3, 311), (7, 36, 7, 4, 312), (7, 43, 7, 5, 313), (7, 50, 7, 6, 314), (7, 54, 7, 7, 315), (7, 58, 7, 8, 316), (7, 62, 7, 9, 317), (7, 66, 4, 0, 79), (7, 74, 4, 1, 83), (7, 77, 4, 2, 87), (7, 87, 6, 4, 186), (7, 91, 6, 5, 188), (7, 94, 6, 6, 190), (7, 100, 1, 1, 242), (7, 104, 3, 0, 220), (7, 113, 0, 2, 289), (7, 114, 6, 2, 182), (7, 121, 5, 2, 272), (7, 122, 2, 0, 304), (7, 145, 4, 10, 116), (7, 154, 4, 11, 119), (7, 157, 4, 12, 122), (7, 160, 4, 13, 126), (7, 163, 4, 14, 130), (7, 166, 4, 15, 133), (7, 173, 3, 1, 224), (7, 176, 3, 2, 227), (7, 178, 3, 3, 230), (7, 205, 4, 4, 93), (7, 208, 4, 5, 97), (7, 211, 4, 6, 101), (7, 243, 4, 3, 91), (7, 246, 4, 7, 105), (7, 249, 4, 8, 109), (7, 252, 4, 9, 113), (7, 255, 6, 0, 178), (7, 258, 6, 1, 180), (7, 259, 6, 3, 184), (8, 7, 8, 0, 669), (8, 13, 8, 2, 671), (8, 16, 8, 4, 673), (8, 19, 8, 5, 674), (8, 23, 8, 6, 675), (8, 26, 8, 7, 676), (8, 29, 8, 9, 678), (8, 32, 8, 10, 679), (8, 35, 8, 11, 680), (8, 38, 8, 12, 681), (8, 41, 8, 13, 682), (8, 44, 8, 14, 683), (8, 47, 8, 15, 684), (8, 50, 8, 16, 685), (8, 53, 8, 17, 686), (8, 99, 8, 18, 687), (8, 119, 8, 19, 688), (8, 126, 8, 8, 677), (8, 157, 8, 3, 672), (8, 160, 8, 1, 670)]
theorem FLK_pl : ∀ x ∈ FLK, lw_tbl[x.2.2.2.2]? = some (.fieldLink (RN x.1) x.2.1 (TF x.2.2.1 x.2.2.2.1).1 (TF x.2.2.1 x.2.2.2.1).2.1 (TF x.2.2.1 x.2.2.2.1).2.2.1) := by decide +kernel
theorem FLK_ok : ∀ x ∈ FLK, x.2.2.1 < 9 ∧ x.2.2.2.1 < NF x.2.2.1 := by decide +kernel
def MLK : List (Nat × Nat × Nat × Nat) := [(1, 35, 28, 378), (1, 45, 7, 379), (1, 49, 5, 425), (1, 53, 17, 435), (1, 57, 9, 439), (1, 61, 11, 451), (1, 65, 15, 383), (1, 78, 16, 387), (1, 86, 8, 429), (1, 103, 34, 433), (1, 107, 138, 434), (1, 115, 25, 443), (1, 122, 10, 447), (3, 25, 18, 391), (3, 29, 19, 395), (3, 33, 21, 399), (3, 37, 20, 419), (3, 47, 139, 403), (4, 67, 25, 475), (4, 71, 28, 501), (4, 75, 33, 568), (5, 25, 23, 558), (5, 29, 138, 559), (6, 35, 28, 356), (6, 41, 40, 357), (6, 45, 41, 361), (6, 49, 42, 369), (6, 76, 34, 365), (7, 28, 3, 208), (7, 35, 35, 262), (7, 70, 28, 344), (7, 80, 31, 348), (7, 83, 39, 352), (7, 97, 6, 374), (7, 107, 75, 455), (7, 110, 76, 467), (7, 117, 2, 476), (7, 126, 24, 485), (7, 131, 69, 490), (7, 135, 72, 493), (7, 139, 29, 497), (7, 142, 73, 502), (7, 148, 74, 506), (7, 151, 25, 514), (7, 169, 5, 519), (7, 181, 26, 471), (7, 185, 23, 459), (7, 189, 27, 545), (7, 194, 70, 550), (7, 197, 32, 564), (7, 201, 33, 576), (7, 214, 30, 593), (7, 217, 136, 597), (7, 223, 71, 619), (7, 226, 37, 635), (7, 230, 4, 560), (7, 233, 1, 643), (7, 237, 36, 554), (7, 240, 13, 623), (7, 262, 137, 464), (8, 56, 78, 754), (8, 60, 80, 757), (8, 64, 79, 742), (8, 67, 83, 738), (8, 71, 86, 781), (8, 74, 84, 769), (8, 78, 87, 789), (8, 82, 88, 785), (8, 87, 85, 761), (8, 90, 89, 777), (8, 93, 90, 793), (8, 96, 82, 750), (8, 103, 95, 815), (8, 107, 91, 803), (8, 110, 92, 765), (8, 113, 96, 811), (8, 116, 94, 818), (8, 122, 93, 773), (8, 129, 81, 838), (8, 132, 102, 734), (8, 135, 104, 746), (8, 139, 103, 799), (8, 142, 98, 807), (8, 145, 99, 822), (8, 148, 106, 826), (8, 151, 100, 830), (8, 154, 101, 834), (8, 165, 97, 856), (8, 169, 114, 880), (8, 173, 117, 898), (8, 177, 116, 890), (8, 180, 118, 894), (8, 191, 128, 938), (9, 9, 43, 66), (9, 12, 77, 665), (9, 13, 44, 340), (9, 17, 105, 730), (9, 18, 45, 481), (9, 22, 107, 843), (9, 23, 46, 510), (9, 26, 108, 848), (9, 27, 47, 515), (9, 30, 109, 852), (9, 31, 48, 520), (9, 35, 110, 860), (9, 36, 49, 524), (9, 39, 111, 864), (9, 40, 50, 528), (9, 43, 112, 868), (9, 44, 51, 532), (9, 47, 113, 872), (9, 48, 52, 536), (9, 51, 115, 876), (9, 52, 53, 541), (9, 56, 119, 885), (9, 57, 54, 572), (9, 60, 120, 902), (9, 61, 55, 577), (9, 64, 121, 906), (9, 65, 56, 581), (9, 68, 122, 910), (9, 69, 57, 585), (9, 73, 123, 914), (9, 74, 58, 589), (9, 77, 124, 918), (9, 78, 59, 603), (9, 81, 125, 922), (9, 82, 60, 607), (9, 86, 126, 926), (9, 87, 61, 611), (9, 90, 127, 930), (9, 91, 62, 615), (9, 94, 129, 934), (9, 95, 63, 631), (9, 98, 130, 946), (9, 99, 64, 639), (9, 102, 131, 950), (9, 103, 65, 647), (9, 106, 132, 954), (9, 107, 66, 651), (9, 110, 133, 958), (9, 111, 67, 655), (9, 114, 134, 962), (9, 115, 68, 659), (9, 118, 135, 966), (10, 304, 138, 413)]
theorem MLK_pl : ∀ x ∈ MLK, lw_tbl[x.2.2.2]? = some (.methodLink (RN x.1) x.2.1 (mY x.2.2.1)) := by decide +kernel
def NLK : List (Nat × Nat × Nat × Nat) := [(1, 17, 14, 215), (5, 24, 22, 268), (7, 9, 22, 74), (7, 21, 38, 172), (7, 42, 0, 282), (7, 49, 12, 299)]
theorem NLK_pl : ∀ x ∈ NLK, lw_tbl[x.2.2.2]? = some (.methodLinkNest (RN x.1) x.2.1 (mY x.2.2.1) "RepeaterWires") := by decide +kernel
def CLK : List (Nat × Nat × Nat × Nat) := [(1, 9, 3, 212), (5, 9, 4, 266), (7, 7, 4, 72), (7, 19, 6, 170), (7, 26, 1, 206), (7, 33, 5, 260), (7, 40, 0, 280), (7, 47, 2, 297), (9, 7, 7, 64), (9, 10, 8, 663)]
theorem CLK_pl : ∀ x ∈ CLK, lw_tbl[x.2.2.2]? = some (.classLink (RN x.1) x.2.1 (RN x.2.2.1)) := by decide +kernel
def CST : List (Nat × Nat × Int × Nat) := [(1, 82, 900000, 424), (2, 19, 65536, 630), (6, 24, 900000, 176), (7, 90, 1000000, 373), (7, 125, -1000000002, 480), (7, 130, -1000000001, 489), (7, 184, -1000000003, 540), (7, 193, -1000000004, 549), (8, 86, 900000, 797), (8, 138, 1000000, 798), (8, 163, -1000000002, 842), (8, 164, -1000000001, 847), (8, 172, -1000000003, 884), (8, 176, -1000000004, 889), (8, 190, 65536, 945), (12, 265, 1431655765, 600), (12, 266, 858993459, 601), (12, 267, 252645135, 602)]
theorem CST_pl : ∀ x ∈ CST, lw_tbl[x.2.2.2]? = some (.constant (RN x.1) x.2.1 (Int32.ofInt x.2.2.1)) := by decide +kernel
def CSL : List (Nat × Nat × Int × Nat) := [(2, 13, 1103515245, 627), (2, 15, 12345, 628), (2, 17, 2147483647, 629), (8, 184, 1103515245, 942), (8, 186, 12345, 943), (8, 188, 2147483648, 944)]
theorem CSL_pl : ∀ x ∈ CSL, lw_tbl[x.2.2.2]? = some (.constantLong (RN x.1) x.2.1 (Int64.ofInt x.2.2.1)) := by decide +kernel
def OIL : List (Nat × Nat × Nat) := [(0, 3, 285), (1, 3, 211), (2, 1, 302), (3, 3, 218), (4, 3, 77), (5, 3, 265), (6, 3, 175), (7, 1, 69), (8, 1, 668)]
theorem OIL_pl : ∀ x ∈ OIL, lw_tbl[x.2.2]? = some (.methodLink (RN x.1) x.2.1 objectInit) := by decide +kernel
def ACL : List (Nat × Nat × Nat) := [(3, 41, 423), (4, 61, 463), (10, 150, 416)]
theorem ACL_pl : ∀ x ∈ ACL, lw_tbl[x.2.2]? = some (.methodLink (RN x.1) x.2.1 arraycopyName) := by decide +kernel
theorem obj_pl : lw_tbl[70]? = some (.instanceMethod objectInit) ∧ lw_tbl[71]? = some (.code objectInit ⟨#[0xb1]⟩ 1 none) := by decide +kernel
theorem acp_pl : lw_tbl[418]? = some (.native arraycopyName) ∧ lw_tbl[417]? = some (.static arraycopyName) ∧ lw_tbl[62]? = some (.initialized "java/lang/System") := by decide +kernel
theorem arr_pl : lw_tbl[169]? = some (.arrayClass .int) ∧ lw_tbl[339]? = some (.arrayClass .boolean) ∧ lw_tbl[213]? = some (.arrayOver (.object (RN 3))) ∧ lw_tbl[267]? = some (.arrayOver (.object (RN 4))) := by decide +kernel
end
section
/-! each method's bytes, by their place in lw_tbl; printed by wip/whole/gen.py -/
set_option maxRecDepth 100000 in
theorem mc_0 : lw_tbl[284]? = some (.code (mY 0) (mB 0) (mL 0) (mR 0)) := rfl
set_option maxRecDepth 100000 in
theorem mc_1 : lw_tbl[646]? = some (.code (mY 1) (mB 1) (mL 1) (mR 1)) := rfl
set_option maxRecDepth 100000 in
theorem mc_2 : lw_tbl[479]? = some (.code (mY 2) (mB 2) (mL 2) (mR 2)) := rfl
set_option maxRecDepth 100000 in
theorem mc_3 : lw_tbl[210]? = some (.code (mY 3) (mB 3) (mL 3) (mR 3)) := rfl
set_option maxRecDepth 100000 in
theorem mc_4 : lw_tbl[563]? = some (.code (mY 4) (mB 4) (mL 4) (mR 4)) := rfl
set_option maxRecDepth 100000 in
theorem mc_5 : lw_tbl[428]? = some (.code (mY 5) (mB 5) (mL 5) (mR 5)) := rfl
set_option maxRecDepth 100000 in
theorem mc_6 : lw_tbl[377]? = some (.code (mY 6) (mB 6) (mL 6) (mR 6)) := rfl
set_option maxRecDepth 100000 in
theorem mc_7 : lw_tbl[382]? = some (.code (mY 7) (mB 7) (mL 7) (mR 7)) := rfl
set_option maxRecDepth 100000 in
theorem mc_8 : lw_tbl[432]? = some (.code (mY 8) (mB 8) (mL 8) (mR 8)) := rfl
set_option maxRecDepth 100000 in
theorem mc_9 : lw_tbl[442]? = some (.code (mY 9) (mB 9) (mL 9) (mR 9)) := rfl
set_option maxRecDepth 100000 in
theorem mc_10 : lw_tbl[450]? = some (.code (mY 10) (mB 10) (mL 10) (mR 10)) := rfl
set_option maxRecDepth 100000 in
theorem mc_11 : lw_tbl[454]? = some (.code (mY 11) (mB 11) (mL 11) (mR 11)) := rfl
set_option maxRecDepth 100000 in
theorem mc_12 : lw_tbl[301]? = some (.code (mY 12) (mB 12) (mL 12) (mR 12)) := rfl
set_option maxRecDepth 100000 in
theorem mc_13 : lw_tbl[626]? = some (.code (mY 13) (mB 13) (mL 13) (mR 13)) := rfl
set_option maxRecDepth 100000 in
theorem mc_14 : lw_tbl[217]? = some (.code (mY 14) (mB 14) (mL 14) (mR 14)) := rfl
set_option maxRecDepth 100000 in
theorem mc_15 : lw_tbl[386]? = some (.code (mY 15) (mB 15) (mL 15) (mR 15)) := rfl
set_option maxRecDepth 100000 in
theorem mc_16 : lw_tbl[390]? = some (.code (mY 16) (mB 16) (mL 16) (mR 16)) := rfl
set_option maxRecDepth 100000 in
theorem mc_17 : lw_tbl[438]? = some (.code (mY 17) (mB 17) (mL 17) (mR 17)) := rfl
set_option maxRecDepth 100000 in
theorem mc_18 : lw_tbl[394]? = some (.code (mY 18) (mB 18) (mL 18) (mR 18)) := rfl
set_option maxRecDepth 100000 in
theorem mc_19 : lw_tbl[398]? = some (.code (mY 19) (mB 19) (mL 19) (mR 19)) := rfl
set_option maxRecDepth 100000 in
theorem mc_20 : lw_tbl[422]? = some (.code (mY 20) (mB 20) (mL 20) (mR 20)) := rfl
set_option maxRecDepth 100000 in
theorem mc_21 : lw_tbl[402]? = some (.code (mY 21) (mB 21) (mL 21) (mR 21)) := rfl
set_option maxRecDepth 100000 in
theorem mc_22 : lw_tbl[76]? = some (.code (mY 22) (mB 22) (mL 22) (mR 22)) := rfl
set_option maxRecDepth 100000 in
theorem mc_23 : lw_tbl[462]? = some (.code (mY 23) (mB 23) (mL 23) (mR 23)) := rfl
set_option maxRecDepth 100000 in
theorem mc_24 : lw_tbl[488]? = some (.code (mY 24) (mB 24) (mL 24) (mR 24)) := rfl
set_option maxRecDepth 100000 in
theorem mc_25 : lw_tbl[446]? = some (.code (mY 25) (mB 25) (mL 25) (mR 25)) := rfl
set_option maxRecDepth 100000 in
theorem mc_26 : lw_tbl[474]? = some (.code (mY 26) (mB 26) (mL 26) (mR 26)) := rfl
set_option maxRecDepth 100000 in
theorem mc_27 : lw_tbl[548]? = some (.code (mY 27) (mB 27) (mL 27) (mR 27)) := rfl
set_option maxRecDepth 100000 in
theorem mc_28 : lw_tbl[347]? = some (.code (mY 28) (mB 28) (mL 28) (mR 28)) := rfl
set_option maxRecDepth 100000 in
theorem mc_29 : lw_tbl[500]? = some (.code (mY 29) (mB 29) (mL 29) (mR 29)) := rfl
set_option maxRecDepth 100000 in
theorem mc_30 : lw_tbl[596]? = some (.code (mY 30) (mB 30) (mL 30) (mR 30)) := rfl
set_option maxRecDepth 100000 in
theorem mc_31 : lw_tbl[351]? = some (.code (mY 31) (mB 31) (mL 31) (mR 31)) := rfl
set_option maxRecDepth 100000 in
theorem mc_32 : lw_tbl[567]? = some (.code (mY 32) (mB 32) (mL 32) (mR 32)) := rfl
set_option maxRecDepth 100000 in
theorem mc_33 : lw_tbl[571]? = some (.code (mY 33) (mB 33) (mL 33) (mR 33)) := rfl
set_option maxRecDepth 100000 in
theorem mc_34 : lw_tbl[368]? = some (.code (mY 34) (mB 34) (mL 34) (mR 34)) := rfl
set_option maxRecDepth 100000 in
theorem mc_35 : lw_tbl[264]? = some (.code (mY 35) (mB 35) (mL 35) (mR 35)) := rfl
set_option maxRecDepth 100000 in
theorem mc_36 : lw_tbl[557]? = some (.code (mY 36) (mB 36) (mL 36) (mR 36)) := rfl
set_option maxRecDepth 100000 in
theorem mc_37 : lw_tbl[638]? = some (.code (mY 37) (mB 37) (mL 37) (mR 37)) := rfl
set_option maxRecDepth 100000 in
theorem mc_38 : lw_tbl[174]? = some (.code (mY 38) (mB 38) (mL 38) (mR 38)) := rfl
set_option maxRecDepth 100000 in
theorem mc_39 : lw_tbl[355]? = some (.code (mY 39) (mB 39) (mL 39) (mR 39)) := rfl
set_option maxRecDepth 100000 in
theorem mc_40 : lw_tbl[360]? = some (.code (mY 40) (mB 40) (mL 40) (mR 40)) := rfl
set_option maxRecDepth 100000 in
theorem mc_41 : lw_tbl[364]? = some (.code (mY 41) (mB 41) (mL 41) (mR 41)) := rfl
set_option maxRecDepth 100000 in
theorem mc_42 : lw_tbl[372]? = some (.code (mY 42) (mB 42) (mL 42) (mR 42)) := rfl
set_option maxRecDepth 100000 in
theorem mc_43 : lw_tbl[68]? = some (.code (mY 43) (mB 43) (mL 43) (mR 43)) := rfl
set_option maxRecDepth 100000 in
theorem mc_44 : lw_tbl[343]? = some (.code (mY 44) (mB 44) (mL 44) (mR 44)) := rfl
set_option maxRecDepth 100000 in
theorem mc_45 : lw_tbl[484]? = some (.code (mY 45) (mB 45) (mL 45) (mR 45)) := rfl
set_option maxRecDepth 100000 in
theorem mc_46 : lw_tbl[513]? = some (.code (mY 46) (mB 46) (mL 46) (mR 46)) := rfl
set_option maxRecDepth 100000 in
theorem mc_47 : lw_tbl[518]? = some (.code (mY 47) (mB 47) (mL 47) (mR 47)) := rfl
set_option maxRecDepth 100000 in
theorem mc_48 : lw_tbl[523]? = some (.code (mY 48) (mB 48) (mL 48) (mR 48)) := rfl
set_option maxRecDepth 100000 in
theorem mc_49 : lw_tbl[527]? = some (.code (mY 49) (mB 49) (mL 49) (mR 49)) := rfl
set_option maxRecDepth 100000 in
theorem mc_50 : lw_tbl[531]? = some (.code (mY 50) (mB 50) (mL 50) (mR 50)) := rfl
set_option maxRecDepth 100000 in
theorem mc_51 : lw_tbl[535]? = some (.code (mY 51) (mB 51) (mL 51) (mR 51)) := rfl
set_option maxRecDepth 100000 in
theorem mc_52 : lw_tbl[539]? = some (.code (mY 52) (mB 52) (mL 52) (mR 52)) := rfl
set_option maxRecDepth 100000 in
theorem mc_53 : lw_tbl[544]? = some (.code (mY 53) (mB 53) (mL 53) (mR 53)) := rfl
set_option maxRecDepth 100000 in
theorem mc_54 : lw_tbl[575]? = some (.code (mY 54) (mB 54) (mL 54) (mR 54)) := rfl
set_option maxRecDepth 100000 in
theorem mc_55 : lw_tbl[580]? = some (.code (mY 55) (mB 55) (mL 55) (mR 55)) := rfl
set_option maxRecDepth 100000 in
theorem mc_56 : lw_tbl[584]? = some (.code (mY 56) (mB 56) (mL 56) (mR 56)) := rfl
set_option maxRecDepth 100000 in
theorem mc_57 : lw_tbl[588]? = some (.code (mY 57) (mB 57) (mL 57) (mR 57)) := rfl
set_option maxRecDepth 100000 in
theorem mc_58 : lw_tbl[592]? = some (.code (mY 58) (mB 58) (mL 58) (mR 58)) := rfl
set_option maxRecDepth 100000 in
theorem mc_59 : lw_tbl[606]? = some (.code (mY 59) (mB 59) (mL 59) (mR 59)) := rfl
set_option maxRecDepth 100000 in
theorem mc_60 : lw_tbl[610]? = some (.code (mY 60) (mB 60) (mL 60) (mR 60)) := rfl
set_option maxRecDepth 100000 in
theorem mc_61 : lw_tbl[614]? = some (.code (mY 61) (mB 61) (mL 61) (mR 61)) := rfl
set_option maxRecDepth 100000 in
theorem mc_62 : lw_tbl[618]? = some (.code (mY 62) (mB 62) (mL 62) (mR 62)) := rfl
set_option maxRecDepth 100000 in
theorem mc_63 : lw_tbl[634]? = some (.code (mY 63) (mB 63) (mL 63) (mR 63)) := rfl
set_option maxRecDepth 100000 in
theorem mc_64 : lw_tbl[642]? = some (.code (mY 64) (mB 64) (mL 64) (mR 64)) := rfl
set_option maxRecDepth 100000 in
theorem mc_65 : lw_tbl[650]? = some (.code (mY 65) (mB 65) (mL 65) (mR 65)) := rfl
set_option maxRecDepth 100000 in
theorem mc_66 : lw_tbl[654]? = some (.code (mY 66) (mB 66) (mL 66) (mR 66)) := rfl
set_option maxRecDepth 100000 in
theorem mc_67 : lw_tbl[658]? = some (.code (mY 67) (mB 67) (mL 67) (mR 67)) := rfl
set_option maxRecDepth 100000 in
theorem mc_68 : lw_tbl[662]? = some (.code (mY 68) (mB 68) (mL 68) (mR 68)) := rfl
set_option maxRecDepth 100000 in
theorem mc_69 : lw_tbl[492]? = some (.code (mY 69) (mB 69) (mL 69) (mR 69)) := rfl
set_option maxRecDepth 100000 in
theorem mc_70 : lw_tbl[553]? = some (.code (mY 70) (mB 70) (mL 70) (mR 70)) := rfl
set_option maxRecDepth 100000 in
theorem mc_71 : lw_tbl[622]? = some (.code (mY 71) (mB 71) (mL 71) (mR 71)) := rfl
set_option maxRecDepth 100000 in
theorem mc_72 : lw_tbl[496]? = some (.code (mY 72) (mB 72) (mL 72) (mR 72)) := rfl
set_option maxRecDepth 100000 in
theorem mc_73 : lw_tbl[505]? = some (.code (mY 73) (mB 73) (mL 73) (mR 73)) := rfl
set_option maxRecDepth 100000 in
theorem mc_74 : lw_tbl[509]? = some (.code (mY 74) (mB 74) (mL 74) (mR 74)) := rfl
set_option maxRecDepth 100000 in
theorem mc_75 : lw_tbl[458]? = some (.code (mY 75) (mB 75) (mL 75) (mR 75)) := rfl
set_option maxRecDepth 100000 in
theorem mc_76 : lw_tbl[470]? = some (.code (mY 76) (mB 76) (mL 76) (mR 76)) := rfl
set_option maxRecDepth 100000 in
theorem mc_77 : lw_tbl[667]? = some (.code (mY 77) (mB 77) (mL 77) (mR 77)) := rfl
set_option maxRecDepth 100000 in
theorem mc_78 : lw_tbl[756]? = some (.code (mY 78) (mB 78) (mL 78) (mR 78)) := rfl
set_option maxRecDepth 100000 in
theorem mc_79 : lw_tbl[745]? = some (.code (mY 79) (mB 79) (mL 79) (mR 79)) := rfl
set_option maxRecDepth 100000 in
theorem mc_80 : lw_tbl[760]? = some (.code (mY 80) (mB 80) (mL 80) (mR 80)) := rfl
set_option maxRecDepth 100000 in
theorem mc_81 : lw_tbl[841]? = some (.code (mY 81) (mB 81) (mL 81) (mR 81)) := rfl
set_option maxRecDepth 100000 in
theorem mc_82 : lw_tbl[753]? = some (.code (mY 82) (mB 82) (mL 82) (mR 82)) := rfl
set_option maxRecDepth 100000 in
theorem mc_83 : lw_tbl[741]? = some (.code (mY 83) (mB 83) (mL 83) (mR 83)) := rfl
set_option maxRecDepth 100000 in
theorem mc_84 : lw_tbl[772]? = some (.code (mY 84) (mB 84) (mL 84) (mR 84)) := rfl
set_option maxRecDepth 100000 in
theorem mc_85 : lw_tbl[764]? = some (.code (mY 85) (mB 85) (mL 85) (mR 85)) := rfl
set_option maxRecDepth 100000 in
theorem mc_86 : lw_tbl[784]? = some (.code (mY 86) (mB 86) (mL 86) (mR 86)) := rfl
set_option maxRecDepth 100000 in
theorem mc_87 : lw_tbl[792]? = some (.code (mY 87) (mB 87) (mL 87) (mR 87)) := rfl
set_option maxRecDepth 100000 in
theorem mc_88 : lw_tbl[788]? = some (.code (mY 88) (mB 88) (mL 88) (mR 88)) := rfl
set_option maxRecDepth 100000 in
theorem mc_89 : lw_tbl[780]? = some (.code (mY 89) (mB 89) (mL 89) (mR 89)) := rfl
set_option maxRecDepth 100000 in
theorem mc_90 : lw_tbl[796]? = some (.code (mY 90) (mB 90) (mL 90) (mR 90)) := rfl
set_option maxRecDepth 100000 in
theorem mc_91 : lw_tbl[806]? = some (.code (mY 91) (mB 91) (mL 91) (mR 91)) := rfl
set_option maxRecDepth 100000 in
theorem mc_92 : lw_tbl[768]? = some (.code (mY 92) (mB 92) (mL 92) (mR 92)) := rfl
set_option maxRecDepth 100000 in
theorem mc_93 : lw_tbl[776]? = some (.code (mY 93) (mB 93) (mL 93) (mR 93)) := rfl
set_option maxRecDepth 100000 in
theorem mc_94 : lw_tbl[821]? = some (.code (mY 94) (mB 94) (mL 94) (mR 94)) := rfl
set_option maxRecDepth 100000 in
theorem mc_95 : lw_tbl[817]? = some (.code (mY 95) (mB 95) (mL 95) (mR 95)) := rfl
set_option maxRecDepth 100000 in
theorem mc_96 : lw_tbl[814]? = some (.code (mY 96) (mB 96) (mL 96) (mR 96)) := rfl
set_option maxRecDepth 100000 in
theorem mc_97 : lw_tbl[859]? = some (.code (mY 97) (mB 97) (mL 97) (mR 97)) := rfl
set_option maxRecDepth 100000 in
theorem mc_98 : lw_tbl[810]? = some (.code (mY 98) (mB 98) (mL 98) (mR 98)) := rfl
set_option maxRecDepth 100000 in
theorem mc_99 : lw_tbl[825]? = some (.code (mY 99) (mB 99) (mL 99) (mR 99)) := rfl
set_option maxRecDepth 100000 in
theorem mc_100 : lw_tbl[833]? = some (.code (mY 100) (mB 100) (mL 100) (mR 100)) := rfl
set_option maxRecDepth 100000 in
theorem mc_101 : lw_tbl[837]? = some (.code (mY 101) (mB 101) (mL 101) (mR 101)) := rfl
set_option maxRecDepth 100000 in
theorem mc_102 : lw_tbl[737]? = some (.code (mY 102) (mB 102) (mL 102) (mR 102)) := rfl
set_option maxRecDepth 100000 in
theorem mc_103 : lw_tbl[802]? = some (.code (mY 103) (mB 103) (mL 103) (mR 103)) := rfl
set_option maxRecDepth 100000 in
theorem mc_104 : lw_tbl[749]? = some (.code (mY 104) (mB 104) (mL 104) (mR 104)) := rfl
set_option maxRecDepth 100000 in
theorem mc_105 : lw_tbl[733]? = some (.code (mY 105) (mB 105) (mL 105) (mR 105)) := rfl
set_option maxRecDepth 100000 in
theorem mc_106 : lw_tbl[829]? = some (.code (mY 106) (mB 106) (mL 106) (mR 106)) := rfl
set_option maxRecDepth 100000 in
theorem mc_107 : lw_tbl[846]? = some (.code (mY 107) (mB 107) (mL 107) (mR 107)) := rfl
set_option maxRecDepth 100000 in
theorem mc_108 : lw_tbl[851]? = some (.code (mY 108) (mB 108) (mL 108) (mR 108)) := rfl
set_option maxRecDepth 100000 in
theorem mc_109 : lw_tbl[855]? = some (.code (mY 109) (mB 109) (mL 109) (mR 109)) := rfl
set_option maxRecDepth 100000 in
theorem mc_110 : lw_tbl[863]? = some (.code (mY 110) (mB 110) (mL 110) (mR 110)) := rfl
set_option maxRecDepth 100000 in
theorem mc_111 : lw_tbl[867]? = some (.code (mY 111) (mB 111) (mL 111) (mR 111)) := rfl
set_option maxRecDepth 100000 in
theorem mc_112 : lw_tbl[871]? = some (.code (mY 112) (mB 112) (mL 112) (mR 112)) := rfl
set_option maxRecDepth 100000 in
theorem mc_113 : lw_tbl[875]? = some (.code (mY 113) (mB 113) (mL 113) (mR 113)) := rfl
set_option maxRecDepth 100000 in
theorem mc_114 : lw_tbl[883]? = some (.code (mY 114) (mB 114) (mL 114) (mR 114)) := rfl
set_option maxRecDepth 100000 in
theorem mc_115 : lw_tbl[879]? = some (.code (mY 115) (mB 115) (mL 115) (mR 115)) := rfl
set_option maxRecDepth 100000 in
theorem mc_116 : lw_tbl[893]? = some (.code (mY 116) (mB 116) (mL 116) (mR 116)) := rfl
set_option maxRecDepth 100000 in
theorem mc_117 : lw_tbl[901]? = some (.code (mY 117) (mB 117) (mL 117) (mR 117)) := rfl
set_option maxRecDepth 100000 in
theorem mc_118 : lw_tbl[897]? = some (.code (mY 118) (mB 118) (mL 118) (mR 118)) := rfl
set_option maxRecDepth 100000 in
theorem mc_119 : lw_tbl[888]? = some (.code (mY 119) (mB 119) (mL 119) (mR 119)) := rfl
set_option maxRecDepth 100000 in
theorem mc_120 : lw_tbl[905]? = some (.code (mY 120) (mB 120) (mL 120) (mR 120)) := rfl
set_option maxRecDepth 100000 in
theorem mc_121 : lw_tbl[909]? = some (.code (mY 121) (mB 121) (mL 121) (mR 121)) := rfl
set_option maxRecDepth 100000 in
theorem mc_122 : lw_tbl[913]? = some (.code (mY 122) (mB 122) (mL 122) (mR 122)) := rfl
set_option maxRecDepth 100000 in
theorem mc_123 : lw_tbl[917]? = some (.code (mY 123) (mB 123) (mL 123) (mR 123)) := rfl
set_option maxRecDepth 100000 in
theorem mc_124 : lw_tbl[921]? = some (.code (mY 124) (mB 124) (mL 124) (mR 124)) := rfl
set_option maxRecDepth 100000 in
theorem mc_125 : lw_tbl[925]? = some (.code (mY 125) (mB 125) (mL 125) (mR 125)) := rfl
set_option maxRecDepth 100000 in
theorem mc_126 : lw_tbl[929]? = some (.code (mY 126) (mB 126) (mL 126) (mR 126)) := rfl
set_option maxRecDepth 100000 in
theorem mc_127 : lw_tbl[933]? = some (.code (mY 127) (mB 127) (mL 127) (mR 127)) := rfl
set_option maxRecDepth 100000 in
theorem mc_128 : lw_tbl[941]? = some (.code (mY 128) (mB 128) (mL 128) (mR 128)) := rfl
set_option maxRecDepth 100000 in
theorem mc_129 : lw_tbl[937]? = some (.code (mY 129) (mB 129) (mL 129) (mR 129)) := rfl
set_option maxRecDepth 100000 in
theorem mc_130 : lw_tbl[949]? = some (.code (mY 130) (mB 130) (mL 130) (mR 130)) := rfl
set_option maxRecDepth 100000 in
theorem mc_131 : lw_tbl[953]? = some (.code (mY 131) (mB 131) (mL 131) (mR 131)) := rfl
set_option maxRecDepth 100000 in
theorem mc_132 : lw_tbl[957]? = some (.code (mY 132) (mB 132) (mL 132) (mR 132)) := rfl
set_option maxRecDepth 100000 in
theorem mc_133 : lw_tbl[961]? = some (.code (mY 133) (mB 133) (mL 133) (mR 133)) := rfl
set_option maxRecDepth 100000 in
theorem mc_134 : lw_tbl[965]? = some (.code (mY 134) (mB 134) (mL 134) (mR 134)) := rfl
set_option maxRecDepth 100000 in
theorem mc_135 : lw_tbl[969]? = some (.code (mY 135) (mB 135) (mL 135) (mR 135)) := rfl
set_option maxRecDepth 100000 in
theorem mc_136 : lw_tbl[599]? = some (.code (mY 136) (mB 136) (mL 136) (mR 136)) := rfl
set_option maxRecDepth 100000 in
theorem mc_137 : lw_tbl[466]? = some (.code (mY 137) (mB 137) (mL 137) (mR 137)) := rfl
set_option maxRecDepth 100000 in
theorem mc_138 : lw_tbl[415]? = some (.code (mY 138) (mB 138) (mL 138) (mR 138)) := rfl
set_option maxRecDepth 100000 in
theorem mc_139 : lw_tbl[405]? = some (.code (mY 139) (mB 139) (mL 139) (mR 139)) := rfl
theorem mc_pl (q : Nat) (hq : q < 140) : lw_tbl[(mP q).1]? = some (.code (mY q) (mB q) (mL q) (mR q)) := by
  match q, hq with
  | 0, _ => exact mc_0
  | 1, _ => exact mc_1
  | 2, _ => exact mc_2
  | 3, _ => exact mc_3
  | 4, _ => exact mc_4
  | 5, _ => exact mc_5
  | 6, _ => exact mc_6
  | 7, _ => exact mc_7
  | 8, _ => exact mc_8
  | 9, _ => exact mc_9
  | 10, _ => exact mc_10
  | 11, _ => exact mc_11
  | 12, _ => exact mc_12
  | 13, _ => exact mc_13
  | 14, _ => exact mc_14
  | 15, _ => exact mc_15
  | 16, _ => exact mc_16
  | 17, _ => exact mc_17
  | 18, _ => exact mc_18
  | 19, _ => exact mc_19
  | 20, _ => exact mc_20
  | 21, _ => exact mc_21
  | 22, _ => exact mc_22
  | 23, _ => exact mc_23
  | 24, _ => exact mc_24
  | 25, _ => exact mc_25
  | 26, _ => exact mc_26
  | 27, _ => exact mc_27
  | 28, _ => exact mc_28
  | 29, _ => exact mc_29
  | 30, _ => exact mc_30
  | 31, _ => exact mc_31
  | 32, _ => exact mc_32
  | 33, _ => exact mc_33
  | 34, _ => exact mc_34
  | 35, _ => exact mc_35
  | 36, _ => exact mc_36
  | 37, _ => exact mc_37
  | 38, _ => exact mc_38
  | 39, _ => exact mc_39
  | 40, _ => exact mc_40
  | 41, _ => exact mc_41
  | 42, _ => exact mc_42
  | 43, _ => exact mc_43
  | 44, _ => exact mc_44
  | 45, _ => exact mc_45
  | 46, _ => exact mc_46
  | 47, _ => exact mc_47
  | 48, _ => exact mc_48
  | 49, _ => exact mc_49
  | 50, _ => exact mc_50
  | 51, _ => exact mc_51
  | 52, _ => exact mc_52
  | 53, _ => exact mc_53
  | 54, _ => exact mc_54
  | 55, _ => exact mc_55
  | 56, _ => exact mc_56
  | 57, _ => exact mc_57
  | 58, _ => exact mc_58
  | 59, _ => exact mc_59
  | 60, _ => exact mc_60
  | 61, _ => exact mc_61
  | 62, _ => exact mc_62
  | 63, _ => exact mc_63
  | 64, _ => exact mc_64
  | 65, _ => exact mc_65
  | 66, _ => exact mc_66
  | 67, _ => exact mc_67
  | 68, _ => exact mc_68
  | 69, _ => exact mc_69
  | 70, _ => exact mc_70
  | 71, _ => exact mc_71
  | 72, _ => exact mc_72
  | 73, _ => exact mc_73
  | 74, _ => exact mc_74
  | 75, _ => exact mc_75
  | 76, _ => exact mc_76
  | 77, _ => exact mc_77
  | 78, _ => exact mc_78
  | 79, _ => exact mc_79
  | 80, _ => exact mc_80
  | 81, _ => exact mc_81
  | 82, _ => exact mc_82
  | 83, _ => exact mc_83
  | 84, _ => exact mc_84
  | 85, _ => exact mc_85
  | 86, _ => exact mc_86
  | 87, _ => exact mc_87
  | 88, _ => exact mc_88
  | 89, _ => exact mc_89
  | 90, _ => exact mc_90
  | 91, _ => exact mc_91
  | 92, _ => exact mc_92
  | 93, _ => exact mc_93
  | 94, _ => exact mc_94
  | 95, _ => exact mc_95
  | 96, _ => exact mc_96
  | 97, _ => exact mc_97
  | 98, _ => exact mc_98
  | 99, _ => exact mc_99
  | 100, _ => exact mc_100
  | 101, _ => exact mc_101
  | 102, _ => exact mc_102
  | 103, _ => exact mc_103
  | 104, _ => exact mc_104
  | 105, _ => exact mc_105
  | 106, _ => exact mc_106
  | 107, _ => exact mc_107
  | 108, _ => exact mc_108
  | 109, _ => exact mc_109
  | 110, _ => exact mc_110
  | 111, _ => exact mc_111
  | 112, _ => exact mc_112
  | 113, _ => exact mc_113
  | 114, _ => exact mc_114
  | 115, _ => exact mc_115
  | 116, _ => exact mc_116
  | 117, _ => exact mc_117
  | 118, _ => exact mc_118
  | 119, _ => exact mc_119
  | 120, _ => exact mc_120
  | 121, _ => exact mc_121
  | 122, _ => exact mc_122
  | 123, _ => exact mc_123
  | 124, _ => exact mc_124
  | 125, _ => exact mc_125
  | 126, _ => exact mc_126
  | 127, _ => exact mc_127
  | 128, _ => exact mc_128
  | 129, _ => exact mc_129
  | 130, _ => exact mc_130
  | 131, _ => exact mc_131
  | 132, _ => exact mc_132
  | 133, _ => exact mc_133
  | 134, _ => exact mc_134
  | 135, _ => exact mc_135
  | 136, _ => exact mc_136
  | 137, _ => exact mc_137
  | 138, _ => exact mc_138
  | 139, _ => exact mc_139
  | n + 140, h => exact absurd h (by omega)
end
section
/-! A SMALL MACHINE over whole numbers, cells by their order of making; what it does is tied to the real one in the next part -/
abbrev aV : Type := Int ⊕ (Option Nat ⊕ (Int ⊕ Bool))
abbrev aI : Type := Nat → Int → Int
abbrev aR : Type := Nat → Int → Option Nat
abbrev aS : Type := List (Nat × Nat)
abbrev aE : Type := Nat × Nat × Nat × Int × Nat × List (Int × Nat)
abbrev aG : Type := Nat → List aV → List aV → aI → aR → aS → Prop
abbrev aK : Type := Option aV → aI → aR → aS → Prop
abbrev aC : Type := Nat → List aV → aI → aR → aS → aK → Prop
abbrev vi (z : Int) : aV := .inl z
abbrev vr (a : Nat) : aV := .inr (.inl (some a))
abbrev vu : aV := .inr (.inr (.inr false))
abbrev vx : aV := .inr (.inr (.inr true))
def cv (bs b : Nat) : aV → Value
  | .inl z => .int (Int32.ofInt z)
  | .inr (.inl none) => .null
  | .inr (.inl (some a)) => .ref (bs + a)
  | .inr (.inr (.inl z)) => .long (Int64.ofInt z)
  | .inr (.inr (.inr _)) => .ref b
/-- a value of one word -/
def c1 : aV → Bool
  | .inl _ => true
  | .inr (.inl _) => true
  | .inr (.inr (.inl _)) => false
  | .inr (.inr (.inr x)) => x
def uI (I : aI) (a : Nat) (j z : Int) : aI := fun x k => if x = a ∧ k = j then z else I x k
def uR (R : aR) (a : Nat) (j : Int) (z : Option Nat) : aR := fun x k => if x = a ∧ k = j then z else R x k
def zI (I : aI) (a : Nat) : aI := fun x k => if x = a then 0 else I x k
def zR (R : aR) (a : Nat) : aR := fun x k => if x = a then none else R x k
/-- a stretch of an array copied -/
def cI (I : aI) (a : Nat) (sp : Int) (t : Nat) (dp n : Int) : aI := fun x k => if x = t ∧ dp ≤ k ∧ k < dp + n then I a (sp + (k - dp)) else I x k
def bAnd (x y : Int) : Int := (Int32.ofInt x &&& Int32.ofInt y).toInt
def bOr (x y : Int) : Int := (Int32.ofInt x ||| Int32.ofInt y).toInt
def bXor (x y : Int) : Int := (Int32.ofInt x ^^^ Int32.ofInt y).toInt
def bShl (x y : Int) : Int := (Int32.ofInt x <<< (Int32.ofInt y &&& 31)).toInt
def bShr (x y : Int) : Int := (Int32.ofInt x >>> (Int32.ofInt y &&& 31)).toInt
def bUshr (x y : Int) : Int := ((Int32.ofInt x).toUInt32 >>> ((Int32.ofInt y).toUInt32 &&& Int32.toUInt32 31)).toInt32.toInt
def bLand (x y : Int) : Int := (Int64.ofInt x &&& Int64.ofInt y).toInt
def isRf (ci k : Nat) : Bool := match tF ci k with
  | .int => false
  | .boolean => false
  | _ => true
def isZf (ci k : Nat) : Bool := match tF ci k with
  | .boolean => true
  | _ => false
def nth : List aV → Nat → aV
  | [], _ => vu
  | v :: _, 0 => v
  | _ :: l, n + 1 => nth l n
def setn : List aV → Nat → aV → List aV
  | [], _, _ => []
  | _ :: l, 0, w => w :: l
  | v :: l, n + 1, w => v :: setn l n w
/-- the n topmost, the lowest of them first, and the rest -/
def popn : Nat → List aV → List aV → Option (List aV × List aV)
  | 0, acc, st => some (acc, st)
  | _ + 1, _, [] => none
  | n + 1, acc, v :: st => popn n (v :: acc) st
def okst : List aV → Nat → Bool
  | [], _ => true
  | _ :: _, 0 => false
  | v :: l, n + 1 => match c1 v with
    | true => okst l n
    | false => false
def allc1 : List aV → Bool
  | [] => true
  | v :: l => match c1 v with
    | true => allc1 l
    | false => false
def tsw (x : Int) (g : Nat → Prop) : Int → List (Int × Nat) → Prop
  | _, [] => True
  | lo, q :: l => (x = lo → g q.2) ∧ tsw x g (lo + 1) l
def lswD (x : Int) (g : Prop) : List (Int × Nat) → Prop
  | [] => g
  | q :: l => ¬ x = q.1 → lswD x g l
def lsw (x : Int) (g : Nat → Prop) : List (Int × Nat) → Prop
  | [] => True
  | q :: l => (x = q.1 → g q.2) ∧ lsw x g l
abbrev iR (x : Int) : Prop := -2147483648 ≤ x ∧ x < 2147483648
/-- one instruction -/
def stp (q L : Nat) (X : Nat → Int) (G : aG) (C : aC) (K : aK) (o a : Nat) (b : Int) (nx : Nat) (xs : List (Int × Nat)) (ls st : List aV) (I : aI) (R : aR) (S : aS) : Prop :=
  match o with
  | 1 => match nth ls a with
    | .inl z => G nx ls (.inl z :: st) I R S
    | _ => False
  | 2 => match nth ls a with
    | .inr (.inl (some x)) => G nx ls (vr x :: st) I R S
    | .inr (.inr (.inr true)) => G nx ls (vx :: st) I R S
    | _ => False
  | 3 => match st with
    | .inl z :: st => G nx (setn ls a (.inl z)) st I R S
    | _ => False
  | 4 => match st with
    | .inr (.inl (some x)) :: st => G nx (setn ls a (vr x)) st I R S
    | _ => False
  | 5 => G nx ls (.inl b :: st) I R S
  | 6 => G nx ls (.inl b :: st) I R S
  | 7 => G nx ls (.inl b :: st) I R S
  | 8 => G nx ls (.inl b :: st) I R S
  | 9 => G nx ls (.inl b :: st) I R S
  | 10 => G nx ls (.inr (.inr (.inl b)) :: st) I R S
  | 11 => match st with
    | .inl y :: .inl x :: st => G nx ls (.inl (x + y) :: st) I R S
    | _ => False
  | 12 => match st with
    | .inl y :: .inl x :: st => G nx ls (.inl (x - y) :: st) I R S
    | _ => False
  | 13 => match st with
    | .inl y :: .inl x :: st => G nx ls (.inl (x * y) :: st) I R S
    | _ => False
  | 14 => match st with
    | .inl y :: .inl x :: st => ∃ _ : 0 ≤ x ∧ x < 2147483648 ∧ 0 < y ∧ y < 2147483648, G nx ls (.inl (x / y) :: st) I R S
    | _ => False
  | 15 => match st with
    | .inl y :: .inl x :: st => ∃ _ : 0 ≤ x ∧ x < 2147483648 ∧ 0 < y ∧ y < 2147483648, G nx ls (.inl (x % y) :: st) I R S
    | _ => False
  | 16 => match st with
    | .inl y :: .inl x :: st => G nx ls (.inl (bAnd x y) :: st) I R S
    | _ => False
  | 17 => match st with
    | .inl y :: .inl x :: st => G nx ls (.inl (bOr x y) :: st) I R S
    | _ => False
  | 18 => match st with
    | .inl y :: .inl x :: st => G nx ls (.inl (bXor x y) :: st) I R S
    | _ => False
  | 19 => match st with
    | .inl y :: .inl x :: st => G nx ls (.inl (bShl x y) :: st) I R S
    | _ => False
  | 20 => match st with
    | .inl y :: .inl x :: st => G nx ls (.inl (bShr x y) :: st) I R S
    | _ => False
  | 21 => match st with
    | .inl y :: .inl x :: st => G nx ls (.inl (bUshr x y) :: st) I R S
    | _ => False
  | 22 => match st with
    | .inl x :: st => ∃ _ : iR x, G nx ls (.inr (.inr (.inl x)) :: st) I R S
    | _ => False
  | 23 => match st with
    | .inr (.inr (.inl x)) :: st => G nx ls (.inl x :: st) I R S
    | _ => False
  | 24 => match st with
    | .inr (.inr (.inl y)) :: .inr (.inr (.inl x)) :: st => G nx ls (.inr (.inr (.inl (x * y))) :: st) I R S
    | _ => False
  | 25 => match st with
    | .inr (.inr (.inl y)) :: .inr (.inr (.inl x)) :: st => G nx ls (.inr (.inr (.inl (x + y))) :: st) I R S
    | _ => False
  | 26 => match st with
    | .inr (.inr (.inl y)) :: .inr (.inr (.inl x)) :: st => G nx ls (.inr (.inr (.inl (bLand x y))) :: st) I R S
    | _ => False
  | 27 => match st with
    | .inr (.inr (.inl y)) :: .inr (.inr (.inl x)) :: st => ∃ _ : 0 ≤ x ∧ x < 9223372036854775808 ∧ 0 < y ∧ y < 9223372036854775808, G nx ls (.inr (.inr (.inl (x % y))) :: st) I R S
    | _ => False
  | 28 => match nth ls a with
    | .inl z => G nx (setn ls a (.inl (z + b))) st I R S
    | _ => False
  | 29 => G a ls st I R S
  | 30 => match st with
    | .inl x :: st => ∃ _ : iR x, (x = 0 → G a ls st I R S) ∧ (¬ x = 0 → G nx ls st I R S)
    | _ => False
  | 31 => match st with
    | .inl x :: st => ∃ _ : iR x, (¬ x = 0 → G a ls st I R S) ∧ (x = 0 → G nx ls st I R S)
    | _ => False
  | 32 => match st with
    | .inl x :: st => ∃ _ : iR x, (x < 0 → G a ls st I R S) ∧ (¬ x < 0 → G nx ls st I R S)
    | _ => False
  | 33 => match st with
    | .inl x :: st => ∃ _ : iR x, (0 ≤ x → G a ls st I R S) ∧ (¬ 0 ≤ x → G nx ls st I R S)
    | _ => False
  | 34 => match st with
    | .inl x :: st => ∃ _ : iR x, (0 < x → G a ls st I R S) ∧ (¬ 0 < x → G nx ls st I R S)
    | _ => False
  | 35 => match st with
    | .inl x :: st => ∃ _ : iR x, (x ≤ 0 → G a ls st I R S) ∧ (¬ x ≤ 0 → G nx ls st I R S)
    | _ => False
  | 36 => match st with
    | .inl y :: .inl x :: st => ∃ _ : iR x ∧ iR y, (x = y → G a ls st I R S) ∧ (¬ x = y → G nx ls st I R S)
    | _ => False
  | 37 => match st with
    | .inl y :: .inl x :: st => ∃ _ : iR x ∧ iR y, (¬ x = y → G a ls st I R S) ∧ (x = y → G nx ls st I R S)
    | _ => False
  | 38 => match st with
    | .inl y :: .inl x :: st => ∃ _ : iR x ∧ iR y, (x < y → G a ls st I R S) ∧ (¬ x < y → G nx ls st I R S)
    | _ => False
  | 39 => match st with
    | .inl y :: .inl x :: st => ∃ _ : iR x ∧ iR y, (y ≤ x → G a ls st I R S) ∧ (¬ y ≤ x → G nx ls st I R S)
    | _ => False
  | 40 => match st with
    | .inl y :: .inl x :: st => ∃ _ : iR x ∧ iR y, (y < x → G a ls st I R S) ∧ (¬ y < x → G nx ls st I R S)
    | _ => False
  | 41 => match st with
    | .inl y :: .inl x :: st => ∃ _ : iR x ∧ iR y, (x ≤ y → G a ls st I R S) ∧ (¬ x ≤ y → G nx ls st I R S)
    | _ => False
  | 42 => match st with
    | .inl x :: st => ∃ _ : iR x, ((x < b ∨ b + (xs.length : Int) ≤ x) → G a ls st I R S) ∧ tsw x (fun t => G t ls st I R S) b xs
    | _ => False
  | 43 => match st with
    | .inl x :: st => ∃ _ : iR x, lswD x (G a ls st I R S) xs ∧ lsw x (fun t => G t ls st I R S) xs
    | _ => False
  | 44 => match xs, st with
    | [(ci, k)], .inr (.inl (some x)) :: st => ∃ n, ∃ _ : S[x]? = some (ci.toNat, n), match isRf ci.toNat k with
      | true => ∃ y, ∃ _ : R x k = some y, G nx ls (vr y :: st) I R S
      | false => G nx ls (.inl (I x k) :: st) I R S
    | _, _ => False
  | 45 => match xs, st with
    | [(ci, k)], .inl z :: .inr (.inl (some x)) :: st => match isRf ci.toNat k with
      | true => False
      | false => ∃ n, ∃ _ : S[x]? = some (ci.toNat, n), match isZf ci.toNat k with
        | true => ∃ _ : z = 0 ∨ z = 1, G nx ls st (uI I x k z) R S
        | false => G nx ls st (uI I x k z) R S
    | [(ci, k)], .inr (.inl (some y)) :: .inr (.inl (some x)) :: st => match isRf ci.toNat k with
      | true => ∃ n, ∃ _ : S[x]? = some (ci.toNat, n), G nx ls st I (uR R x k (some y)) S
      | false => False
    | _, _ => False
  | 46 => match xs, st with
    | [(ci, k)], .inr (.inl (some y)) :: .inr (.inl (some x)) :: st => match isRf ci.toNat k with
      | true => ∃ n, ∃ _ : S[x]? = some (ci.toNat, n), G nx ls st I (uR R x k (some y)) S
      | false => False
    | _, _ => False
  | 47 => match st with
    | .inl j :: .inr (.inl (some x)) :: st => ∃ n, ∃ _ : S[x]? = some (9, n), ∃ _ : 0 ≤ j ∧ j < n ∧ n ≤ 1000000, G nx ls (.inl (I x j) :: st) I R S
    | .inl j :: .inr (.inr (.inr true)) :: st => ∃ _ : 0 ≤ j ∧ j < L ∧ L ≤ 1000000, G nx ls (.inl (X j.toNat) :: st) I R S
    | _ => False
  | 48 => match st with
    | .inl z :: .inl j :: .inr (.inl (some x)) :: st => ∃ n, ∃ _ : S[x]? = some (9, n), ∃ _ : 0 ≤ j ∧ j < n ∧ n ≤ 1000000, G nx ls st (uI I x j z) R S
    | _ => False
  | 49 => match st with
    | .inl j :: .inr (.inl (some x)) :: st => ∃ k n, ∃ _ : S[x]? = some (k, n), ∃ _ : (k = 11 ∨ k = 12) ∧ 0 ≤ j ∧ j < n ∧ n ≤ 1000000, ∃ y, ∃ _ : R x j = some y, G nx ls (vr y :: st) I R S
    | _ => False
  | 50 => match st with
    | .inr (.inl (some y)) :: .inl j :: .inr (.inl (some x)) :: st => ∃ k n, ∃ _ : S[x]? = some (k, n), ∃ _ : (k = 11 ∨ k = 12) ∧ 0 ≤ j ∧ j < n ∧ n ≤ 1000000, ∃ m, ∃ _ : S[y]? = some (k - 8, m), G nx ls st I (uR R x j (some y)) S
    | _ => False
  | 51 => match st with
    | .inl j :: .inr (.inl (some x)) :: st => ∃ n, ∃ _ : S[x]? = some (10, n), ∃ _ : 0 ≤ j ∧ j < n ∧ n ≤ 1000000, G nx ls (.inl (I x j) :: st) I R S
    | _ => False
  | 52 => match st with
    | .inl z :: .inl j :: .inr (.inl (some x)) :: st => ∃ n, ∃ _ : S[x]? = some (10, n), ∃ _ : (z = 0 ∨ z = 1) ∧ 0 ≤ j ∧ j < n ∧ n ≤ 1000000, G nx ls st (uI I x j z) R S
    | _ => False
  | 53 => match st with
    | .inr (.inl (some x)) :: st => ∃ k n, ∃ _ : S[x]? = some (k, n), ∃ _ : 9 ≤ k ∧ k ≤ 12, G nx ls (.inl n :: st) I R S
    | .inr (.inr (.inr true)) :: st => G nx ls (.inl L :: st) I R S
    | _ => False
  | 54 => match st with
    | .inl z :: st => ∃ _ : 0 ≤ z ∧ z ≤ 1000000, G nx ls (vr S.length :: st) (zI I S.length) (zR R S.length) (S ++ [(b.toNat, z.toNat)])
    | _ => False
  | 55 => match st with
    | .inl z :: st => ∃ _ : 0 ≤ z ∧ z ≤ 1000000, G nx ls (vr S.length :: st) (zI I S.length) (zR R S.length) (S ++ [(b.toNat, z.toNat)])
    | _ => False
  | 56 => G nx ls (vr S.length :: st) (zI I S.length) (zR R S.length) (S ++ [(b.toNat, NF b.toNat)])
  | 57 => match st with
    | v :: st => match c1 v with
      | true => G nx ls (v :: v :: st) I R S
      | false => False
    | _ => False
  | 58 => match st with
    | v :: w :: st => match c1 v && c1 w with
      | true => G nx ls (v :: w :: v :: w :: st) I R S
      | false => False
    | _ => False
  | 59 => match st with
    | v :: st => match c1 v with
      | true => G nx ls st I R S
      | false => False
    | _ => False
  | 60 => match xs with
    | [(ci, n)] => match popn n [] st with
      | some (as, .inr (.inl (some x)) :: st) => match allc1 as && okst st 8 with
        | true => ∃ m, ∃ _ : S[x]? = some (ci.toNat, m), C b.toNat (vr x :: as) I R S (fun r I R S => G nx ls (r.toList ++ st) I R S)
        | false => False
      | _ => False
    | _ => False
  | 61 => match xs with
    | [(_, n)] => match popn n [] st with
      | some (as, .inr (.inl (some x)) :: st) => match allc1 as && okst st 8 with
        | true => C b.toNat (vr x :: as) I R S (fun r I R S => G nx ls (r.toList ++ st) I R S)
        | false => False
      | _ => False
    | _ => False
  | 62 => match xs with
    | [(_, n)] => match popn n [] st with
      | some (as, .inr (.inl (some x)) :: st) => match allc1 as && okst st 8 with
        | true => C b.toNat (vr x :: as) I R S (fun r I R S => G nx ls (r.toList ++ st) I R S)
        | false => False
      | _ => False
    | _ => False
  | 63 => match xs with
    | [(_, n)] => match popn n [] st with
      | some (as, st) => match allc1 as && okst st 8 with
        | true => C b.toNat as I R S (fun r I R S => G nx ls (r.toList ++ st) I R S)
        | false => False
      | _ => False
    | _ => False
  | 64 => match st with
    | .inr (.inl (some _)) :: st => match okst st 8 with
      | true => G nx ls st I R S
      | false => False
    | _ => False
  | 65 => match st with
    | .inl n :: .inl dp :: .inr (.inl (some t)) :: .inl sp :: .inr (.inl (some x)) :: st => match okst st 8 with
      | true => ∃ n0 n1, ∃ _ : S[x]? = some (9, n0), ∃ _ : S[t]? = some (9, n1), ∃ _ : 0 ≤ sp ∧ 0 ≤ dp ∧ 0 ≤ n ∧ sp + n ≤ n0 ∧ dp + n ≤ n1 ∧ n0 ≤ 1000000 ∧ n1 ≤ 1000000, G nx ls st (cI I x sp t dp n) R S
      | false => False
    | _ => False
  | 66 => match st with
    | [.inl z] => match mR q with
      | some .int => K (some (.inl z)) I R S
      | some .boolean => ∃ _ : z = 0 ∨ z = 1, K (some (.inl z)) I R S
      | _ => False
    | _ => False
  | 67 => match st with
    | [.inr (.inl (some x))] => match mR q with
      | some (.object _) => K (some (vr x)) I R S
      | some (.array _) => K (some (vr x)) I R S
      | _ => False
    | _ => False
  | 68 => match st with
    | [] => match mR q with
      | none => K none I R S
      | _ => False
    | _ => False
  | _ => False
/-- the instruction that an entry stands for, and its length -/
def eI (pc o a : Nat) (b : Int) (nx : Nat) (xs : List (Int × Nat)) : Instr × Nat := match o with
  | 1 => match Nat.beq nx (pc + 1) with
    | true => (.iload_n (Fin.ofNat 4 a), 1)
    | false => (.iload a, 2)
  | 2 => match Nat.beq nx (pc + 1) with
    | true => (.aload_n (Fin.ofNat 4 a), 1)
    | false => (.aload a, 2)
  | 3 => match Nat.beq nx (pc + 1) with
    | true => (.istore_n (Fin.ofNat 4 a), 1)
    | false => (.istore a, 2)
  | 4 => match Nat.beq nx (pc + 1) with
    | true => (.astore_n (Fin.ofNat 4 a), 1)
    | false => (.astore a, 2)
  | 5 => (.iconst b, 1)
  | 6 => (.bipush b, 2)
  | 7 => (.sipush b, 3)
  | 8 => (.ldc a, 2)
  | 9 => (.ldc_w a, 3)
  | 10 => (.ldc2_w a, 3)
  | 11 => (.iadd, 1)
  | 12 => (.isub, 1)
  | 13 => (.imul, 1)
  | 14 => (.idiv, 1)
  | 15 => (.irem, 1)
  | 16 => (.iand, 1)
  | 17 => (.ior, 1)
  | 18 => (.ixor, 1)
  | 19 => (.ishl, 1)
  | 20 => (.ishr, 1)
  | 21 => (.iushr, 1)
  | 22 => (.i2l, 1)
  | 23 => (.l2i, 1)
  | 24 => (.lmul, 1)
  | 25 => (.ladd, 1)
  | 26 => (.land, 1)
  | 27 => (.lrem, 1)
  | 28 => (.iinc a b, 3)
  | 29 => (.goto ((a : Int) - pc), 3)
  | 30 => (.ifCond .eq ((a : Int) - pc), 3)
  | 31 => (.ifCond .ne ((a : Int) - pc), 3)
  | 32 => (.ifCond .lt ((a : Int) - pc), 3)
  | 33 => (.ifCond .ge ((a : Int) - pc), 3)
  | 34 => (.ifCond .gt ((a : Int) - pc), 3)
  | 35 => (.ifCond .le ((a : Int) - pc), 3)
  | 36 => (.if_icmp .eq ((a : Int) - pc), 3)
  | 37 => (.if_icmp .ne ((a : Int) - pc), 3)
  | 38 => (.if_icmp .lt ((a : Int) - pc), 3)
  | 39 => (.if_icmp .ge ((a : Int) - pc), 3)
  | 40 => (.if_icmp .gt ((a : Int) - pc), 3)
  | 41 => (.if_icmp .le ((a : Int) - pc), 3)
  | 42 => (.tableswitch ((a : Int) - pc) b (b + (xs.length : Int) - 1) (xs.map (fun q => (q.2 : Int) - pc)).toArray, nx - pc)
  | 43 => (.lookupswitch ((a : Int) - pc) (xs.map (fun q => (q.1, (q.2 : Int) - pc))).toArray, nx - pc)
  | 44 => (.getfield a, 3)
  | 45 => (.putfield a, 3)
  | 46 => (.putfield a, 3)
  | 47 => (.iaload, 1)
  | 48 => (.iastore, 1)
  | 49 => (.aaload, 1)
  | 50 => (.aastore, 1)
  | 51 => (.baload, 1)
  | 52 => (.bastore, 1)
  | 53 => (.arraylength, 1)
  | 54 => (.newarray (if b = 9 then .int else .boolean), 2)
  | 55 => (.anewarray a, 3)
  | 56 => (.new a, 3)
  | 57 => (.dup, 1)
  | 58 => (.dup2, 1)
  | 59 => (.pop, 1)
  | 60 => (.invokevirtual a, 3)
  | 61 => (.invokespecial a, 3)
  | 62 => (.invokespecial a, 3)
  | 63 => (.invokestatic a, 3)
  | 64 => (.invokespecial a, 3)
  | 65 => (.invokestatic a, 3)
  | 66 => (.ireturn, 1)
  | 67 => (.areturn, 1)
  | 68 => (.return_, 1)
  | _ => (.nop, 1)
/-- what else is asked of an entry: links, places of locals, bounds of constants -/
def eX (q pc o a : Nat) (b : Int) (nx : Nat) (xs : List (Int × Nat)) : Bool := match o with
  | 1 => (Nat.beq nx (pc + 2)) || (Nat.beq nx (pc + 1) && Nat.blt a 4)
  | 2 => (Nat.beq nx (pc + 2)) || (Nat.beq nx (pc + 1) && Nat.blt a 4)
  | 3 => ((Nat.beq nx (pc + 2)) || (Nat.beq nx (pc + 1) && Nat.blt a 4)) && Nat.blt a (mL q)
  | 4 => ((Nat.beq nx (pc + 2)) || (Nat.beq nx (pc + 1) && Nat.blt a 4)) && Nat.blt a (mL q)
  | 6 => Nat.beq nx (pc + 2) && decide (-128 ≤ b ∧ b < 128)
  | 7 => Nat.beq nx (pc + 3) && decide (-32768 ≤ b ∧ b < 32768)
  | 8 => Nat.beq nx (pc + 2) && CST.any (fun x => Nat.beq x.1 (mO q) && Nat.beq x.2.1 a && decide (x.2.2.1 = b))
  | 9 => Nat.beq nx (pc + 3) && CST.any (fun x => Nat.beq x.1 (mO q) && Nat.beq x.2.1 a && decide (x.2.2.1 = b))
  | 10 => Nat.beq nx (pc + 3) && CSL.any (fun x => Nat.beq x.1 (mO q) && Nat.beq x.2.1 a && decide (x.2.2.1 = b))
  | 28 => Nat.beq nx (pc + 3) && Nat.blt a (mL q)
  | 43 => ((xs.map (fun q => (q.1, (q.2 : Int) - pc))).zip ((xs.map (fun q => (q.1, (q.2 : Int) - pc))).drop 1)).all (fun (a, next) => a.1 < next.1)
  | 44 => Nat.beq nx (pc + 3) && (match xs with
    | [(ci, k)] => FLK.any (fun x => Nat.beq x.1 (mO q) && Nat.beq x.2.1 a && Nat.beq x.2.2.1 ci.toNat && Nat.beq x.2.2.2.1 k)
    | _ => false)
  | 45 => Nat.beq nx (pc + 3) && (match xs with
    | [(ci, k)] => FLK.any (fun x => Nat.beq x.1 (mO q) && Nat.beq x.2.1 a && Nat.beq x.2.2.1 ci.toNat && Nat.beq x.2.2.2.1 k) && !(TF ci.toNat k).2.2.2
    | _ => false)
  | 46 => Nat.beq nx (pc + 3) && (match xs with
    | [(ci, k)] => FLK.any (fun x => Nat.beq x.1 (mO q) && Nat.beq x.2.1 a && Nat.beq x.2.2.1 ci.toNat && Nat.beq x.2.2.2.1 k) && (TF ci.toNat k).2.2.2 && Nat.beq ci.toNat (mO q) && decide ((mY q).name = "<init>")
    | _ => false)
  | 54 => Nat.beq nx (pc + 2) && (decide (b = 9) || decide (b = 10))
  | 55 => Nat.beq nx (pc + 3) && (decide (b = 11) || decide (b = 12)) && CLK.any (fun x => Nat.beq x.1 (mO q) && Nat.beq x.2.1 a && Nat.beq x.2.2.1 (b.toNat - 8))
  | 56 => Nat.beq nx (pc + 3) && Nat.blt b.toNat 9 && CLK.any (fun x => Nat.beq x.1 (mO q) && Nat.beq x.2.1 a && Nat.beq x.2.2.1 b.toNat)
  | 60 => Nat.beq nx (pc + 3) && Nat.blt b.toNat qLaw && Nat.beq (mS b.toNat) 1 && !decide ((mY b.toNat).name = "<init>") && MLK.any (fun x => Nat.beq x.1 (mO q) && Nat.beq x.2.1 a && Nat.beq x.2.2.1 b.toNat) && (match xs with
    | [(ci, n)] => Nat.beq n (mN b.toNat) && Nat.beq ci.toNat (mO b.toNat) && Nat.blt ci.toNat 9
    | _ => false)
  | 61 => Nat.beq nx (pc + 3) && Nat.blt b.toNat qLaw && Nat.beq (mS b.toNat) 1 && decide ((mY b.toNat).name = "<init>") && decide (mR b.toNat = none) && MLK.any (fun x => Nat.beq x.1 (mO q) && Nat.beq x.2.1 a && Nat.beq x.2.2.1 b.toNat) && (match xs with
    | [(_, n)] => Nat.beq n (mN b.toNat)
    | _ => false)
  | 62 => Nat.beq nx (pc + 3) && Nat.blt b.toNat qLaw && Nat.beq (mS b.toNat) 1 && decide ((mY b.toNat).name = "<init>") && decide (mR b.toNat = none) && NLK.any (fun x => Nat.beq x.1 (mO q) && Nat.beq x.2.1 a && Nat.beq x.2.2.1 b.toNat) && (match xs with
    | [(_, n)] => Nat.beq n (mN b.toNat)
    | _ => false)
  | 63 => Nat.beq nx (pc + 3) && Nat.blt b.toNat qLaw && Nat.beq (mS b.toNat) 0 && MLK.any (fun x => Nat.beq x.1 (mO q) && Nat.beq x.2.1 a && Nat.beq x.2.2.1 b.toNat) && (match xs with
    | [(_, n)] => Nat.beq n (mN b.toNat)
    | _ => false)
  | 64 => Nat.beq nx (pc + 3) && OIL.any (fun x => Nat.beq x.1 (mO q) && Nat.beq x.2.1 a)
  | 65 => Nat.beq nx (pc + 3) && ACL.any (fun x => Nat.beq x.1 (mO q) && Nat.beq x.2.1 a)
  | _ => true
def eChk (q : Nat) (e : aE) : Bool := decide (decode (mB q) e.1 = .ok (eI e.1 e.2.1 e.2.2.1 e.2.2.2.1 e.2.2.2.2.1 e.2.2.2.2.2)) && Nat.beq e.2.2.2.2.1 (e.1 + (eI e.1 e.2.1 e.2.2.1 e.2.2.2.1 e.2.2.2.2.1 e.2.2.2.2.2).2) && eX q e.1 e.2.1 e.2.2.1 e.2.2.2.1 e.2.2.2.2.1 e.2.2.2.2.2
def lk : List aE → Nat → Option aE
  | [], _ => none
  | e :: l, pc => match Nat.beq e.1 pc with
    | true => some e
    | false => lk l pc
def mem : Nat → List Nat → Bool
  | _, [] => false
  | a, b :: l => match Nat.beq a b with
    | true => true
    | false => mem a l
/-- a walk of at most n instructions; it stops, and leaves what is to be shown, at the places named -/
def wpn (q L : Nat) (X : Nat → Int) (E : List aE) (stops : List Nat) (G : aG) (C : aC) (K : aK) : Nat → aG
  | 0, pc, ls, st, I, R, S => G pc ls st I R S
  | n + 1, pc, ls, st, I, R, S => match lk E pc with
    | some (_, o, a, b, nx, xs) => stp q L X (fun pc ls st I R S => match mem pc stops with
        | true => G pc ls st I R S
        | false => wpn q L X E stops G C K n pc ls st I R S) C K o a b nx xs ls st I R S
    | none => False
end
section
/-! the code of each method, an entry an instruction; printed by wip/whole/gen.py -/
/-- Book.<init>()V -/
def E0 : List aE := [(0, 2, 0, 0, 1, []), (1, 64, 3, 0, 4, []), (4, 2, 0, 0, 5, []), (5, 6, 0, 20, 7, []), (7, 54, 0, 9, 9, []), (9, 46, 9, 0, 12, [(0, 0)]), (12, 2, 0, 0, 13, []), (13, 6, 0, 20, 15, []), (15, 54, 0, 9, 17, []), (17, 46, 15, 0, 20, [(0, 1)]), (20, 2, 0, 0, 21, []), (21, 5, 0, 0, 22, []), (22, 45, 18, 0, 25, [(0, 2)]), (25, 68, 0, 0, 26, [])]
theorem E0_ok : ∀ e ∈ E0, eChk 0 e = true := by decide +kernel
/-- Book.add(II)V -/
def E1 : List aE := [(0, 2, 0, 0, 1, []), (1, 44, 9, 0, 4, [(0, 0)]), (4, 2, 0, 0, 5, []), (5, 44, 18, 0, 8, [(0, 2)]), (8, 1, 1, 0, 9, []), (9, 48, 0, 0, 10, []), (10, 2, 0, 0, 11, []), (11, 44, 15, 0, 14, [(0, 1)]), (14, 2, 0, 0, 15, []), (15, 44, 18, 0, 18, [(0, 2)]), (18, 1, 2, 0, 19, []), (19, 48, 0, 0, 20, []), (20, 2, 0, 0, 21, []), (21, 57, 0, 0, 22, []), (22, 44, 18, 0, 25, [(0, 2)]), (25, 5, 0, 1, 26, []), (26, 11, 0, 0, 27, []), (27, 45, 18, 0, 30, [(0, 2)]), (30, 68, 0, 0, 31, [])]
theorem E1_ok : ∀ e ∈ E1, eChk 1 e = true := by decide +kernel
/-- Book.wrongEntry(I[I)I -/
def E2 : List aE := [(0, 5, 0, 0, 1, []), (1, 3, 3, 0, 2, []), (2, 1, 3, 0, 3, []), (3, 2, 0, 0, 4, []), (4, 44, 18, 0, 7, [(0, 2)]), (7, 39, 45, 0, 10, []), (10, 2, 0, 0, 11, []), (11, 44, 9, 0, 14, [(0, 0)]), (14, 1, 3, 0, 15, []), (15, 47, 0, 0, 16, []), (16, 3, 4, 0, 18, []), (18, 1, 4, 0, 20, []), (20, 1, 1, 0, 21, []), (21, 39, 37, 0, 24, []), (24, 2, 2, 0, 25, []), (25, 1, 4, 0, 27, []), (27, 47, 0, 0, 28, []), (28, 2, 0, 0, 29, []), (29, 44, 15, 0, 32, [(0, 1)]), (32, 1, 3, 0, 33, []), (33, 47, 0, 0, 34, []), (34, 36, 39, 0, 37, []), (37, 1, 3, 0, 38, []), (38, 66, 0, 0, 39, []), (39, 28, 3, 1, 42, []), (42, 29, 2, 0, 45, []), (45, 5, 0, -1, 46, []), (46, 66, 0, 0, 47, [])]
theorem E2_ok : ∀ e ∈ E2, eChk 2 e = true := by decide +kernel
/-- Choices.<init>()V -/
def E3 : List aE := [(0, 2, 0, 0, 1, []), (1, 64, 3, 0, 4, []), (4, 2, 0, 0, 5, []), (5, 6, 0, 12, 7, []), (7, 55, 9, 11, 10, []), (10, 46, 11, 0, 13, [(1, 0)]), (13, 2, 0, 0, 14, []), (14, 56, 9, 3, 17, []), (17, 57, 0, 0, 18, []), (18, 62, 17, 14, 21, [(3, 0)]), (21, 46, 18, 0, 24, [(1, 1)]), (24, 2, 0, 0, 25, []), (25, 56, 9, 3, 28, []), (28, 57, 0, 0, 29, []), (29, 62, 17, 14, 32, [(3, 0)]), (32, 46, 22, 0, 35, [(1, 2)]), (35, 2, 0, 0, 36, []), (36, 56, 9, 3, 39, []), (39, 57, 0, 0, 40, []), (40, 62, 17, 14, 43, [(3, 0)]), (43, 46, 25, 0, 46, [(1, 3)]), (46, 2, 0, 0, 47, []), (47, 56, 9, 3, 50, []), (50, 57, 0, 0, 51, []), (51, 62, 17, 14, 54, [(3, 0)]), (54, 46, 28, 0, 57, [(1, 4)]), (57, 2, 0, 0, 58, []), (58, 5, 0, 0, 59, []), (59, 45, 31, 0, 62, [(1, 5)]), (62, 5, 0, 0, 63, []), (63, 3, 1, 0, 64, []), (64, 1, 1, 0, 65, []), (65, 2, 0, 0, 66, []), (66, 44, 11, 0, 69, [(1, 0)]), (69, 53, 0, 0, 70, []), (70, 39, 92, 0, 73, []), (73, 2, 0, 0, 74, []), (74, 44, 11, 0, 77, [(1, 0)]), (77, 1, 1, 0, 78, []), (78, 56, 9, 3, 81, []), (81, 57, 0, 0, 82, []), (82, 62, 17, 14, 85, [(3, 0)]), (85, 50, 0, 0, 86, []), (86, 28, 1, 1, 89, []), (89, 29, 64, 0, 92, []), (92, 68, 0, 0, 93, [])]
theorem E3_ok : ∀ e ∈ E3, eChk 3 e = true := by decide +kernel
/-- Choices.forget()V -/
def E4 : List aE := [(0, 2, 0, 0, 1, []), (1, 5, 0, 0, 2, []), (2, 45, 31, 0, 5, [(1, 5)]), (5, 68, 0, 0, 6, [])]
theorem E4_ok : ∀ e ∈ E4, eChk 4 e = true := by decide +kernel
/-- Choices.row(II)LRepeaterWires$Front; -/
def E5 : List aE := [(0, 2, 0, 0, 1, []), (1, 44, 11, 0, 4, [(1, 0)]), (4, 5, 0, 2, 5, []), (5, 1, 1, 0, 6, []), (6, 13, 0, 0, 7, []), (7, 1, 2, 0, 8, []), (8, 11, 0, 0, 9, []), (9, 49, 0, 0, 10, []), (10, 67, 0, 0, 11, [])]
theorem E5_ok : ∀ e ∈ E5, eChk 5 e = true := by decide +kernel
/-- Choices.of(LRepeaterWires$Net;)LRepeaterWires$Choices; -/
def E6 : List aE := [(0, 2, 0, 0, 1, []), (1, 44, 31, 0, 4, [(1, 5)]), (4, 30, 9, 0, 7, []), (7, 2, 0, 0, 8, []), (8, 67, 0, 0, 9, []), (9, 2, 1, 0, 10, []), (10, 60, 35, 28, 13, [(4, 0)]), (13, 3, 2, 0, 14, []), (14, 2, 1, 0, 15, []), (15, 44, 41, 0, 18, [(4, 0)]), (18, 5, 0, 1, 19, []), (19, 12, 0, 0, 20, []), (20, 3, 3, 0, 21, []), (21, 1, 3, 0, 22, []), (22, 32, 120, 0, 25, []), (25, 1, 2, 0, 26, []), (26, 1, 3, 0, 27, []), (27, 20, 0, 0, 28, []), (28, 5, 0, 1, 29, []), (29, 16, 0, 0, 30, []), (30, 5, 0, 1, 31, []), (31, 37, 38, 0, 34, []), (34, 5, 0, 1, 35, []), (35, 29, 39, 0, 38, []), (38, 5, 0, 0, 39, []), (39, 3, 4, 0, 41, []), (41, 2, 0, 0, 42, []), (42, 2, 1, 0, 43, []), (43, 1, 3, 0, 44, []), (44, 5, 0, 0, 45, []), (45, 1, 4, 0, 47, []), (47, 2, 0, 0, 48, []), (48, 44, 22, 0, 51, [(1, 2)]), (51, 60, 45, 7, 54, [(1, 5)]), (54, 2, 0, 0, 55, []), (55, 2, 1, 0, 56, []), (56, 1, 3, 0, 57, []), (57, 5, 0, 1, 58, []), (58, 1, 4, 0, 60, []), (60, 2, 0, 0, 61, []), (61, 44, 25, 0, 64, [(1, 3)]), (64, 60, 45, 7, 67, [(1, 5)]), (67, 1, 3, 0, 68, []), (68, 31, 100, 0, 71, []), (71, 2, 0, 0, 72, []), (72, 5, 0, 0, 73, []), (73, 5, 0, 0, 74, []), (74, 60, 49, 5, 77, [(1, 2)]), (77, 2, 0, 0, 78, []), (78, 44, 22, 0, 81, [(1, 2)]), (81, 60, 53, 17, 84, [(3, 1)]), (84, 2, 0, 0, 85, []), (85, 5, 0, 0, 86, []), (86, 5, 0, 1, 87, []), (87, 60, 49, 5, 90, [(1, 2)]), (90, 2, 0, 0, 91, []), (91, 44, 25, 0, 94, [(1, 3)]), (94, 60, 53, 17, 97, [(3, 1)]), (97, 29, 114, 0, 100, []), (100, 2, 0, 0, 101, []), (101, 2, 1, 0, 102, []), (102, 1, 3, 0, 103, []), (103, 5, 0, 0, 104, []), (104, 60, 57, 9, 107, [(1, 3)]), (107, 2, 0, 0, 108, []), (108, 2, 1, 0, 109, []), (109, 1, 3, 0, 110, []), (110, 5, 0, 1, 111, []), (111, 60, 57, 9, 114, [(1, 3)]), (114, 28, 3, -1, 117, []), (117, 29, 21, 0, 120, []), (120, 2, 0, 0, 121, []), (121, 2, 1, 0, 122, []), (122, 60, 61, 11, 125, [(1, 1)]), (125, 2, 0, 0, 126, []), (126, 5, 0, 1, 127, []), (127, 45, 31, 0, 130, [(1, 5)]), (130, 2, 0, 0, 131, []), (131, 67, 0, 0, 132, [])]
theorem E6_ok : ∀ e ∈ E6, eChk 6 e = true := by decide +kernel
/-- Choices.gather(LRepeaterWires$Net;IIZLRepeaterWires$Front;)V -/
def E7 : List aE := [(0, 2, 5, 0, 2, []), (2, 60, 65, 15, 5, [(3, 0)]), (5, 1, 4, 0, 7, []), (7, 30, 39, 0, 10, []), (10, 2, 1, 0, 11, []), (11, 44, 68, 0, 14, [(4, 9)]), (14, 1, 2, 0, 15, []), (15, 47, 0, 0, 16, []), (16, 1, 3, 0, 17, []), (17, 37, 38, 0, 20, []), (20, 2, 5, 0, 22, []), (22, 2, 1, 0, 23, []), (23, 44, 72, 0, 26, [(4, 7)]), (26, 1, 2, 0, 27, []), (27, 47, 0, 0, 28, []), (28, 2, 1, 0, 29, []), (29, 44, 75, 0, 32, [(4, 8)]), (32, 1, 2, 0, 33, []), (33, 47, 0, 0, 34, []), (34, 5, 0, 0, 35, []), (35, 60, 78, 16, 38, [(3, 3)]), (38, 68, 0, 0, 39, []), (39, 2, 5, 0, 41, []), (41, 5, 0, 0, 42, []), (42, 8, 82, 900000, 44, []), (44, 5, 0, 0, 45, []), (45, 60, 78, 16, 48, [(3, 3)]), (48, 1, 2, 0, 49, []), (49, 5, 0, 1, 50, []), (50, 11, 0, 0, 51, []), (51, 3, 6, 0, 53, []), (53, 1, 6, 0, 55, []), (55, 2, 1, 0, 56, []), (56, 44, 41, 0, 59, [(4, 0)]), (59, 39, 95, 0, 62, []), (62, 2, 1, 0, 63, []), (63, 44, 83, 0, 66, [(4, 3)]), (66, 1, 6, 0, 68, []), (68, 47, 0, 0, 69, []), (69, 1, 2, 0, 70, []), (70, 37, 89, 0, 73, []), (73, 2, 0, 0, 74, []), (74, 2, 1, 0, 75, []), (75, 1, 6, 0, 77, []), (77, 2, 5, 0, 79, []), (79, 2, 0, 0, 80, []), (80, 1, 6, 0, 82, []), (82, 1, 3, 0, 83, []), (83, 60, 49, 5, 86, [(1, 2)]), (86, 60, 86, 8, 89, [(1, 4)]), (89, 28, 6, 1, 92, []), (92, 29, 53, 0, 95, []), (95, 68, 0, 0, 96, [])]
theorem E7_ok : ∀ e ∈ E7, eChk 7 e = true := by decide +kernel
/-- Choices.join(LRepeaterWires$Net;ILRepeaterWires$Front;LRepeaterWires$Front;)V -/
def E8 : List aE := [(0, 2, 0, 0, 1, []), (1, 44, 28, 0, 4, [(1, 4)]), (4, 60, 65, 15, 7, [(3, 0)]), (7, 2, 1, 0, 8, []), (8, 44, 90, 0, 11, [(4, 5)]), (11, 1, 2, 0, 12, []), (12, 47, 0, 0, 13, []), (13, 2, 1, 0, 14, []), (14, 44, 93, 0, 17, [(4, 6)]), (17, 1, 2, 0, 18, []), (18, 47, 0, 0, 19, []), (19, 13, 0, 0, 20, []), (20, 3, 5, 0, 22, []), (22, 5, 0, 0, 23, []), (23, 3, 6, 0, 25, []), (25, 1, 6, 0, 27, []), (27, 2, 4, 0, 29, []), (29, 44, 96, 0, 32, [(3, 0)]), (32, 39, 141, 0, 35, []), (35, 1, 5, 0, 37, []), (37, 2, 4, 0, 39, []), (39, 44, 97, 0, 42, [(3, 1)]), (42, 1, 6, 0, 44, []), (44, 47, 0, 0, 45, []), (45, 11, 0, 0, 46, []), (46, 3, 7, 0, 48, []), (48, 2, 4, 0, 50, []), (50, 44, 100, 0, 53, [(3, 2)]), (53, 1, 6, 0, 55, []), (55, 47, 0, 0, 56, []), (56, 2, 1, 0, 57, []), (57, 1, 2, 0, 58, []), (58, 2, 4, 0, 60, []), (60, 44, 97, 0, 63, [(3, 1)]), (63, 1, 6, 0, 65, []), (65, 47, 0, 0, 66, []), (66, 60, 103, 34, 69, [(4, 2)]), (69, 12, 0, 0, 70, []), (70, 3, 8, 0, 72, []), (72, 5, 0, 0, 73, []), (73, 3, 9, 0, 75, []), (75, 1, 9, 0, 77, []), (77, 2, 3, 0, 78, []), (78, 44, 96, 0, 81, [(3, 0)]), (81, 39, 135, 0, 84, []), (84, 2, 0, 0, 85, []), (85, 44, 28, 0, 88, [(1, 4)]), (88, 2, 3, 0, 89, []), (89, 44, 97, 0, 92, [(3, 1)]), (92, 1, 9, 0, 94, []), (94, 47, 0, 0, 95, []), (95, 1, 7, 0, 97, []), (97, 11, 0, 0, 98, []), (98, 2, 3, 0, 99, []), (99, 44, 100, 0, 102, [(3, 2)]), (102, 1, 9, 0, 104, []), (104, 47, 0, 0, 105, []), (105, 1, 8, 0, 107, []), (107, 63, 107, 138, 110, [(11, 2)]), (110, 2, 3, 0, 111, []), (111, 44, 112, 0, 114, [(3, 3)]), (114, 1, 9, 0, 116, []), (116, 47, 0, 0, 117, []), (117, 2, 4, 0, 119, []), (119, 44, 112, 0, 122, [(3, 3)]), (122, 1, 6, 0, 124, []), (124, 47, 0, 0, 125, []), (125, 11, 0, 0, 126, []), (126, 60, 78, 16, 129, [(3, 3)]), (129, 28, 9, 1, 132, []), (132, 29, 75, 0, 135, []), (135, 28, 6, 1, 138, []), (138, 29, 25, 0, 141, []), (141, 2, 3, 0, 142, []), (142, 2, 0, 0, 143, []), (143, 44, 28, 0, 146, [(1, 4)]), (146, 60, 53, 17, 149, [(3, 1)]), (149, 68, 0, 0, 150, [])]
theorem E8_ok : ∀ e ∈ E8, eChk 8 e = true := by decide +kernel
/-- Choices.equip(LRepeaterWires$Net;II)V -/
def E9 : List aE := [(0, 2, 0, 0, 1, []), (1, 1, 2, 0, 2, []), (2, 1, 3, 0, 3, []), (3, 60, 49, 5, 6, [(1, 2)]), (6, 4, 4, 0, 8, []), (8, 2, 4, 0, 10, []), (10, 60, 65, 15, 13, [(3, 0)]), (13, 1, 3, 0, 14, []), (14, 31, 24, 0, 17, []), (17, 2, 0, 0, 18, []), (18, 44, 22, 0, 21, [(1, 2)]), (21, 29, 28, 0, 24, []), (24, 2, 0, 0, 25, []), (25, 44, 25, 0, 28, [(1, 3)]), (28, 4, 5, 0, 30, []), (30, 5, 0, 0, 31, []), (31, 3, 6, 0, 33, []), (33, 1, 6, 0, 35, []), (35, 2, 5, 0, 37, []), (37, 44, 96, 0, 40, [(3, 0)]), (40, 39, 78, 0, 43, []), (43, 2, 4, 0, 45, []), (45, 2, 5, 0, 47, []), (47, 44, 97, 0, 50, [(3, 1)]), (50, 1, 6, 0, 52, []), (52, 47, 0, 0, 53, []), (53, 2, 5, 0, 55, []), (55, 44, 100, 0, 58, [(3, 2)]), (58, 1, 6, 0, 60, []), (60, 47, 0, 0, 61, []), (61, 2, 5, 0, 63, []), (63, 44, 112, 0, 66, [(3, 3)]), (66, 1, 6, 0, 68, []), (68, 47, 0, 0, 69, []), (69, 60, 78, 16, 72, [(3, 3)]), (72, 28, 6, 1, 75, []), (75, 29, 33, 0, 78, []), (78, 5, 0, 1, 79, []), (79, 3, 6, 0, 81, []), (81, 1, 6, 0, 83, []), (83, 5, 0, 3, 84, []), (84, 40, 138, 0, 87, []), (87, 2, 1, 0, 88, []), (88, 1, 6, 0, 90, []), (90, 60, 115, 25, 93, [(4, 1)]), (93, 30, 132, 0, 96, []), (96, 1, 3, 0, 97, []), (97, 2, 1, 0, 98, []), (98, 44, 119, 0, 101, [(4, 15)]), (101, 1, 6, 0, 103, []), (103, 47, 0, 0, 104, []), (104, 18, 0, 0, 105, []), (105, 31, 115, 0, 108, []), (108, 2, 0, 0, 109, []), (109, 44, 22, 0, 112, [(1, 2)]), (112, 29, 119, 0, 115, []), (115, 2, 0, 0, 116, []), (116, 44, 25, 0, 119, [(1, 3)]), (119, 4, 7, 0, 121, []), (121, 2, 0, 0, 122, []), (122, 2, 1, 0, 123, []), (123, 1, 6, 0, 125, []), (125, 2, 7, 0, 127, []), (127, 2, 4, 0, 129, []), (129, 60, 122, 10, 132, [(1, 4)]), (132, 28, 6, 1, 135, []), (135, 29, 81, 0, 138, []), (138, 68, 0, 0, 139, [])]
theorem E9_ok : ∀ e ∈ E9, eChk 9 e = true := by decide +kernel
/-- Choices.driveAll(LRepeaterWires$Net;ILRepeaterWires$Front;LRepeaterWires$Front;)V -/
def E10 : List aE := [(0, 5, 0, 0, 1, []), (1, 3, 5, 0, 3, []), (3, 1, 5, 0, 5, []), (5, 2, 3, 0, 6, []), (6, 44, 96, 0, 9, [(3, 0)]), (9, 39, 78, 0, 12, []), (12, 2, 3, 0, 13, []), (13, 44, 100, 0, 16, [(3, 2)]), (16, 1, 5, 0, 18, []), (18, 47, 0, 0, 19, []), (19, 2, 1, 0, 20, []), (20, 44, 125, 0, 23, [(4, 13)]), (23, 1, 2, 0, 24, []), (24, 47, 0, 0, 25, []), (25, 12, 0, 0, 26, []), (26, 5, 0, 2, 27, []), (27, 2, 1, 0, 28, []), (28, 44, 128, 0, 31, [(4, 12)]), (31, 1, 2, 0, 32, []), (32, 47, 0, 0, 33, []), (33, 13, 0, 0, 34, []), (34, 2, 3, 0, 35, []), (35, 44, 97, 0, 38, [(3, 1)]), (38, 1, 5, 0, 40, []), (40, 47, 0, 0, 41, []), (41, 13, 0, 0, 42, []), (42, 12, 0, 0, 43, []), (43, 3, 6, 0, 45, []), (45, 2, 4, 0, 47, []), (47, 2, 1, 0, 48, []), (48, 44, 131, 0, 51, [(4, 11)]), (51, 1, 2, 0, 52, []), (52, 47, 0, 0, 53, []), (53, 1, 6, 0, 55, []), (55, 2, 3, 0, 56, []), (56, 44, 112, 0, 59, [(3, 3)]), (59, 1, 5, 0, 61, []), (61, 47, 0, 0, 62, []), (62, 2, 1, 0, 63, []), (63, 44, 134, 0, 66, [(4, 14)]), (66, 1, 2, 0, 67, []), (67, 47, 0, 0, 68, []), (68, 11, 0, 0, 69, []), (69, 60, 78, 16, 72, [(3, 3)]), (72, 28, 5, 1, 75, []), (75, 29, 3, 0, 78, []), (78, 68, 0, 0, 79, [])]
theorem E10_ok : ∀ e ∈ E10, eChk 10 e = true := by decide +kernel
/-- Choices.pickPoints(LRepeaterWires$Net;)V -/
def E11 : List aE := [(0, 2, 0, 0, 1, []), (1, 5, 0, 0, 2, []), (2, 5, 0, 0, 3, []), (3, 60, 49, 5, 6, [(1, 2)]), (6, 4, 2, 0, 7, []), (7, 2, 0, 0, 8, []), (8, 44, 18, 0, 11, [(1, 1)]), (11, 60, 65, 15, 14, [(3, 0)]), (14, 5, 0, 0, 15, []), (15, 3, 3, 0, 16, []), (16, 1, 3, 0, 17, []), (17, 2, 2, 0, 18, []), (18, 44, 96, 0, 21, [(3, 0)]), (21, 39, 64, 0, 24, []), (24, 2, 0, 0, 25, []), (25, 44, 18, 0, 28, [(1, 1)]), (28, 5, 0, 0, 29, []), (29, 2, 2, 0, 30, []), (30, 44, 100, 0, 33, [(3, 2)]), (33, 1, 3, 0, 34, []), (34, 47, 0, 0, 35, []), (35, 5, 0, 2, 36, []), (36, 2, 1, 0, 37, []), (37, 44, 137, 0, 40, [(4, 1)]), (40, 13, 0, 0, 41, []), (41, 2, 2, 0, 42, []), (42, 44, 97, 0, 45, [(3, 1)]), (45, 1, 3, 0, 46, []), (46, 47, 0, 0, 47, []), (47, 13, 0, 0, 48, []), (48, 12, 0, 0, 49, []), (49, 2, 2, 0, 50, []), (50, 44, 112, 0, 53, [(3, 3)]), (53, 1, 3, 0, 54, []), (54, 47, 0, 0, 55, []), (55, 60, 78, 16, 58, [(3, 3)]), (58, 28, 3, 1, 61, []), (61, 29, 16, 0, 64, []), (64, 68, 0, 0, 65, [])]
theorem E11_ok : ∀ e ∈ E11, eChk 11 e = true := by decide +kernel
/-- Draws.<init>()V -/
def E12 : List aE := [(0, 2, 0, 0, 1, []), (1, 64, 1, 0, 4, []), (4, 2, 0, 0, 5, []), (5, 5, 0, 0, 6, []), (6, 45, 7, 0, 9, [(2, 0)]), (9, 68, 0, 0, 10, [])]
theorem E12_ok : ∀ e ∈ E12, eChk 12 e = true := by decide +kernel
/-- Draws.next(I)I -/
def E13 : List aE := [(0, 2, 0, 0, 1, []), (1, 2, 0, 0, 2, []), (2, 44, 7, 0, 5, [(2, 0)]), (5, 22, 0, 0, 6, []), (6, 10, 13, 1103515245, 9, []), (9, 24, 0, 0, 10, []), (10, 10, 15, 12345, 13, []), (13, 25, 0, 0, 14, []), (14, 10, 17, 2147483647, 17, []), (17, 26, 0, 0, 18, []), (18, 23, 0, 0, 19, []), (19, 45, 7, 0, 22, [(2, 0)]), (22, 1, 1, 0, 23, []), (23, 5, 0, 1, 24, []), (24, 39, 31, 0, 27, []), (27, 5, 0, 0, 28, []), (28, 29, 40, 0, 31, []), (31, 2, 0, 0, 32, []), (32, 44, 7, 0, 35, [(2, 0)]), (35, 8, 19, 65536, 37, []), (37, 14, 0, 0, 38, []), (38, 1, 1, 0, 39, []), (39, 15, 0, 0, 40, []), (40, 66, 0, 0, 41, [])]
theorem E13_ok : ∀ e ∈ E13, eChk 13 e = true := by decide +kernel
/-- Front.<init>()V -/
def E14 : List aE := [(0, 2, 0, 0, 1, []), (1, 64, 3, 0, 4, []), (4, 2, 0, 0, 5, []), (5, 5, 0, 0, 6, []), (6, 45, 9, 0, 9, [(3, 0)]), (9, 2, 0, 0, 10, []), (10, 6, 0, 16, 12, []), (12, 54, 0, 9, 14, []), (14, 45, 15, 0, 17, [(3, 1)]), (17, 2, 0, 0, 18, []), (18, 6, 0, 16, 20, []), (20, 54, 0, 9, 22, []), (22, 45, 19, 0, 25, [(3, 2)]), (25, 2, 0, 0, 26, []), (26, 6, 0, 16, 28, []), (28, 54, 0, 9, 30, []), (30, 45, 22, 0, 33, [(3, 3)]), (33, 68, 0, 0, 34, [])]
theorem E14_ok : ∀ e ∈ E14, eChk 14 e = true := by decide +kernel
/-- Front.clear()V -/
def E15 : List aE := [(0, 2, 0, 0, 1, []), (1, 5, 0, 0, 2, []), (2, 45, 9, 0, 5, [(3, 0)]), (5, 68, 0, 0, 6, [])]
theorem E15_ok : ∀ e ∈ E15, eChk 15 e = true := by decide +kernel
/-- Front.offer(III)V -/
def E16 : List aE := [(0, 5, 0, 0, 1, []), (1, 3, 4, 0, 3, []), (3, 1, 4, 0, 5, []), (5, 2, 0, 0, 6, []), (6, 44, 9, 0, 9, [(3, 0)]), (9, 39, 52, 0, 12, []), (12, 2, 0, 0, 13, []), (13, 1, 4, 0, 15, []), (15, 1, 1, 0, 16, []), (16, 1, 3, 0, 17, []), (17, 60, 25, 18, 20, [(3, 3)]), (20, 30, 52, 0, 23, []), (23, 2, 0, 0, 24, []), (24, 44, 22, 0, 27, [(3, 3)]), (27, 1, 4, 0, 29, []), (29, 47, 0, 0, 30, []), (30, 1, 3, 0, 31, []), (31, 40, 46, 0, 34, []), (34, 2, 0, 0, 35, []), (35, 44, 19, 0, 38, [(3, 2)]), (38, 1, 4, 0, 40, []), (40, 47, 0, 0, 41, []), (41, 1, 2, 0, 42, []), (42, 38, 46, 0, 45, []), (45, 68, 0, 0, 46, []), (46, 28, 4, 1, 49, []), (49, 29, 3, 0, 52, []), (52, 1, 4, 0, 54, []), (54, 2, 0, 0, 55, []), (55, 44, 9, 0, 58, [(3, 0)]), (58, 39, 95, 0, 61, []), (61, 2, 0, 0, 62, []), (62, 44, 15, 0, 65, [(3, 1)]), (65, 1, 4, 0, 67, []), (67, 47, 0, 0, 68, []), (68, 1, 1, 0, 69, []), (69, 37, 95, 0, 72, []), (72, 2, 0, 0, 73, []), (73, 44, 22, 0, 76, [(3, 3)]), (76, 1, 4, 0, 78, []), (78, 47, 0, 0, 79, []), (79, 1, 3, 0, 80, []), (80, 37, 95, 0, 83, []), (83, 2, 0, 0, 84, []), (84, 44, 19, 0, 87, [(3, 2)]), (87, 1, 4, 0, 89, []), (89, 47, 0, 0, 90, []), (90, 1, 2, 0, 91, []), (91, 38, 95, 0, 94, []), (94, 68, 0, 0, 95, []), (95, 2, 0, 0, 96, []), (96, 1, 4, 0, 98, []), (98, 1, 2, 0, 99, []), (99, 1, 3, 0, 100, []), (100, 60, 29, 19, 103, [(3, 3)]), (103, 2, 0, 0, 104, []), (104, 44, 9, 0, 107, [(3, 0)]), (107, 2, 0, 0, 108, []), (108, 44, 15, 0, 111, [(3, 1)]), (111, 53, 0, 0, 112, []), (112, 38, 122, 0, 115, []), (115, 2, 0, 0, 116, []), (116, 60, 33, 21, 119, [(3, 0)]), (119, 30, 131, 0, 122, []), (122, 2, 0, 0, 123, []), (123, 1, 4, 0, 125, []), (125, 1, 1, 0, 126, []), (126, 1, 2, 0, 127, []), (127, 1, 3, 0, 128, []), (128, 60, 37, 20, 131, [(3, 4)]), (131, 68, 0, 0, 132, [])]
theorem E16_ok : ∀ e ∈ E16, eChk 16 e = true := by decide +kernel
/-- Front.swapWith(LRepeaterWires$Front;)V -/
def E17 : List aE := [(0, 2, 1, 0, 1, []), (1, 44, 9, 0, 4, [(3, 0)]), (4, 3, 2, 0, 5, []), (5, 2, 1, 0, 6, []), (6, 44, 15, 0, 9, [(3, 1)]), (9, 4, 3, 0, 10, []), (10, 2, 1, 0, 11, []), (11, 44, 19, 0, 14, [(3, 2)]), (14, 4, 4, 0, 16, []), (16, 2, 1, 0, 17, []), (17, 44, 22, 0, 20, [(3, 3)]), (20, 4, 5, 0, 22, []), (22, 2, 1, 0, 23, []), (23, 2, 0, 0, 24, []), (24, 44, 9, 0, 27, [(3, 0)]), (27, 45, 9, 0, 30, [(3, 0)]), (30, 2, 1, 0, 31, []), (31, 2, 0, 0, 32, []), (32, 44, 15, 0, 35, [(3, 1)]), (35, 45, 15, 0, 38, [(3, 1)]), (38, 2, 1, 0, 39, []), (39, 2, 0, 0, 40, []), (40, 44, 19, 0, 43, [(3, 2)]), (43, 45, 19, 0, 46, [(3, 2)]), (46, 2, 1, 0, 47, []), (47, 2, 0, 0, 48, []), (48, 44, 22, 0, 51, [(3, 3)]), (51, 45, 22, 0, 54, [(3, 3)]), (54, 2, 0, 0, 55, []), (55, 1, 2, 0, 56, []), (56, 45, 9, 0, 59, [(3, 0)]), (59, 2, 0, 0, 60, []), (60, 2, 3, 0, 61, []), (61, 45, 15, 0, 64, [(3, 1)]), (64, 2, 0, 0, 65, []), (65, 2, 4, 0, 67, []), (67, 45, 19, 0, 70, [(3, 2)]), (70, 2, 0, 0, 71, []), (71, 2, 5, 0, 73, []), (73, 45, 22, 0, 76, [(3, 3)]), (76, 68, 0, 0, 77, [])]
theorem E17_ok : ∀ e ∈ E17, eChk 17 e = true := by decide +kernel
/-- Front.standsAhead(III)Z -/
def E18 : List aE := [(0, 2, 0, 0, 1, []), (1, 44, 15, 0, 4, [(3, 1)]), (4, 1, 1, 0, 5, []), (5, 47, 0, 0, 6, []), (6, 1, 2, 0, 7, []), (7, 38, 30, 0, 10, []), (10, 2, 0, 0, 11, []), (11, 44, 15, 0, 14, [(3, 1)]), (14, 1, 1, 0, 15, []), (15, 47, 0, 0, 16, []), (16, 1, 2, 0, 17, []), (17, 37, 34, 0, 20, []), (20, 2, 0, 0, 21, []), (21, 44, 22, 0, 24, [(3, 3)]), (24, 1, 1, 0, 25, []), (25, 47, 0, 0, 26, []), (26, 1, 3, 0, 27, []), (27, 39, 34, 0, 30, []), (30, 5, 0, 1, 31, []), (31, 29, 35, 0, 34, []), (34, 5, 0, 0, 35, []), (35, 66, 0, 0, 36, [])]
theorem E18_ok : ∀ e ∈ E18, eChk 18 e = true := by decide +kernel
/-- Front.dropBeaten(III)V -/
def E19 : List aE := [(0, 1, 1, 0, 1, []), (1, 3, 4, 0, 3, []), (3, 1, 1, 0, 4, []), (4, 3, 5, 0, 6, []), (6, 1, 5, 0, 8, []), (8, 2, 0, 0, 9, []), (9, 44, 9, 0, 12, [(3, 0)]), (12, 39, 88, 0, 15, []), (15, 2, 0, 0, 16, []), (16, 44, 22, 0, 19, [(3, 3)]), (19, 1, 5, 0, 21, []), (21, 47, 0, 0, 22, []), (22, 1, 3, 0, 23, []), (23, 38, 37, 0, 26, []), (26, 2, 0, 0, 27, []), (27, 44, 19, 0, 30, [(3, 2)]), (30, 1, 5, 0, 32, []), (32, 47, 0, 0, 33, []), (33, 1, 2, 0, 34, []), (34, 41, 82, 0, 37, []), (37, 2, 0, 0, 38, []), (38, 44, 15, 0, 41, [(3, 1)]), (41, 1, 4, 0, 43, []), (43, 2, 0, 0, 44, []), (44, 44, 15, 0, 47, [(3, 1)]), (47, 1, 5, 0, 49, []), (49, 47, 0, 0, 50, []), (50, 48, 0, 0, 51, []), (51, 2, 0, 0, 52, []), (52, 44, 19, 0, 55, [(3, 2)]), (55, 1, 4, 0, 57, []), (57, 2, 0, 0, 58, []), (58, 44, 19, 0, 61, [(3, 2)]), (61, 1, 5, 0, 63, []), (63, 47, 0, 0, 64, []), (64, 48, 0, 0, 65, []), (65, 2, 0, 0, 66, []), (66, 44, 22, 0, 69, [(3, 3)]), (69, 1, 4, 0, 71, []), (71, 2, 0, 0, 72, []), (72, 44, 22, 0, 75, [(3, 3)]), (75, 1, 5, 0, 77, []), (77, 47, 0, 0, 78, []), (78, 48, 0, 0, 79, []), (79, 28, 4, 1, 82, []), (82, 28, 5, 1, 85, []), (85, 29, 6, 0, 88, []), (88, 2, 0, 0, 89, []), (89, 1, 4, 0, 91, []), (91, 45, 9, 0, 94, [(3, 0)]), (94, 68, 0, 0, 95, [])]
theorem E19_ok : ∀ e ∈ E19, eChk 19 e = true := by decide +kernel
/-- Front.insert(IIII)V -/
def E20 : List aE := [(0, 2, 0, 0, 1, []), (1, 44, 15, 0, 4, [(3, 1)]), (4, 1, 1, 0, 5, []), (5, 2, 0, 0, 6, []), (6, 44, 15, 0, 9, [(3, 1)]), (9, 1, 1, 0, 10, []), (10, 5, 0, 1, 11, []), (11, 11, 0, 0, 12, []), (12, 2, 0, 0, 13, []), (13, 44, 9, 0, 16, [(3, 0)]), (16, 1, 1, 0, 17, []), (17, 12, 0, 0, 18, []), (18, 65, 41, 0, 21, []), (21, 2, 0, 0, 22, []), (22, 44, 19, 0, 25, [(3, 2)]), (25, 1, 1, 0, 26, []), (26, 2, 0, 0, 27, []), (27, 44, 19, 0, 30, [(3, 2)]), (30, 1, 1, 0, 31, []), (31, 5, 0, 1, 32, []), (32, 11, 0, 0, 33, []), (33, 2, 0, 0, 34, []), (34, 44, 9, 0, 37, [(3, 0)]), (37, 1, 1, 0, 38, []), (38, 12, 0, 0, 39, []), (39, 65, 41, 0, 42, []), (42, 2, 0, 0, 43, []), (43, 44, 22, 0, 46, [(3, 3)]), (46, 1, 1, 0, 47, []), (47, 2, 0, 0, 48, []), (48, 44, 22, 0, 51, [(3, 3)]), (51, 1, 1, 0, 52, []), (52, 5, 0, 1, 53, []), (53, 11, 0, 0, 54, []), (54, 2, 0, 0, 55, []), (55, 44, 9, 0, 58, [(3, 0)]), (58, 1, 1, 0, 59, []), (59, 12, 0, 0, 60, []), (60, 65, 41, 0, 63, []), (63, 2, 0, 0, 64, []), (64, 44, 15, 0, 67, [(3, 1)]), (67, 1, 1, 0, 68, []), (68, 1, 2, 0, 69, []), (69, 48, 0, 0, 70, []), (70, 2, 0, 0, 71, []), (71, 44, 19, 0, 74, [(3, 2)]), (74, 1, 1, 0, 75, []), (75, 1, 3, 0, 76, []), (76, 48, 0, 0, 77, []), (77, 2, 0, 0, 78, []), (78, 44, 22, 0, 81, [(3, 3)]), (81, 1, 1, 0, 82, []), (82, 1, 4, 0, 84, []), (84, 48, 0, 0, 85, []), (85, 2, 0, 0, 86, []), (86, 57, 0, 0, 87, []), (87, 44, 9, 0, 90, [(3, 0)]), (90, 5, 0, 1, 91, []), (91, 11, 0, 0, 92, []), (92, 45, 9, 0, 95, [(3, 0)]), (95, 68, 0, 0, 96, [])]
theorem E20_ok : ∀ e ∈ E20, eChk 20 e = true := by decide +kernel
/-- Front.widen()Z -/
def E21 : List aE := [(0, 5, 0, 2, 1, []), (1, 2, 0, 0, 2, []), (2, 44, 15, 0, 5, [(3, 1)]), (5, 53, 0, 0, 6, []), (6, 13, 0, 0, 7, []), (7, 3, 1, 0, 8, []), (8, 1, 1, 0, 9, []), (9, 7, 0, 1024, 12, []), (12, 41, 17, 0, 15, []), (15, 5, 0, 0, 16, []), (16, 66, 0, 0, 17, []), (17, 2, 0, 0, 18, []), (18, 2, 0, 0, 19, []), (19, 44, 15, 0, 22, [(3, 1)]), (22, 1, 1, 0, 23, []), (23, 63, 47, 139, 26, [(10, 2)]), (26, 45, 15, 0, 29, [(3, 1)]), (29, 2, 0, 0, 30, []), (30, 2, 0, 0, 31, []), (31, 44, 19, 0, 34, [(3, 2)]), (34, 1, 1, 0, 35, []), (35, 63, 47, 139, 38, [(10, 2)]), (38, 45, 19, 0, 41, [(3, 2)]), (41, 2, 0, 0, 42, []), (42, 2, 0, 0, 43, []), (43, 44, 22, 0, 46, [(3, 3)]), (46, 1, 1, 0, 47, []), (47, 63, 47, 139, 50, [(10, 2)]), (50, 45, 22, 0, 53, [(3, 3)]), (53, 5, 0, 1, 54, []), (54, 66, 0, 0, 55, [])]
theorem E21_ok : ∀ e ∈ E21, eChk 21 e = true := by decide +kernel
/-- Net.<init>()V -/
def E22 : List aE := [(0, 2, 0, 0, 1, []), (1, 64, 3, 0, 4, []), (4, 2, 0, 0, 5, []), (5, 5, 0, 1, 6, []), (6, 45, 9, 0, 9, [(4, 0)]), (9, 2, 0, 0, 10, []), (10, 5, 0, 1, 11, []), (11, 45, 15, 0, 14, [(4, 1)]), (14, 2, 0, 0, 15, []), (15, 5, 0, 0, 16, []), (16, 45, 18, 0, 19, [(4, 2)]), (19, 2, 0, 0, 20, []), (20, 6, 0, 6, 22, []), (22, 54, 0, 9, 24, []), (24, 46, 21, 0, 27, [(4, 3)]), (27, 2, 0, 0, 28, []), (28, 6, 0, 6, 30, []), (30, 54, 0, 9, 32, []), (32, 46, 25, 0, 35, [(4, 4)]), (35, 2, 0, 0, 36, []), (36, 6, 0, 6, 38, []), (38, 54, 0, 9, 40, []), (40, 46, 28, 0, 43, [(4, 5)]), (43, 2, 0, 0, 44, []), (44, 6, 0, 6, 46, []), (46, 54, 0, 9, 48, []), (48, 46, 31, 0, 51, [(4, 6)]), (51, 2, 0, 0, 52, []), (52, 6, 0, 6, 54, []), (54, 54, 0, 9, 56, []), (56, 46, 34, 0, 59, [(4, 7)]), (59, 2, 0, 0, 60, []), (60, 6, 0, 6, 62, []), (62, 54, 0, 9, 64, []), (64, 46, 37, 0, 67, [(4, 8)]), (67, 2, 0, 0, 68, []), (68, 6, 0, 6, 70, []), (70, 54, 0, 9, 72, []), (72, 46, 40, 0, 75, [(4, 9)]), (75, 2, 0, 0, 76, []), (76, 6, 0, 6, 78, []), (78, 54, 0, 9, 80, []), (80, 46, 43, 0, 83, [(4, 10)]), (83, 2, 0, 0, 84, []), (84, 5, 0, 4, 85, []), (85, 54, 0, 9, 87, []), (87, 46, 46, 0, 90, [(4, 11)]), (90, 2, 0, 0, 91, []), (91, 5, 0, 4, 92, []), (92, 54, 0, 9, 94, []), (94, 46, 49, 0, 97, [(4, 12)]), (97, 2, 0, 0, 98, []), (98, 5, 0, 4, 99, []), (99, 54, 0, 9, 101, []), (101, 46, 52, 0, 104, [(4, 13)]), (104, 2, 0, 0, 105, []), (105, 5, 0, 4, 106, []), (106, 54, 0, 9, 108, []), (108, 46, 55, 0, 111, [(4, 14)]), (111, 2, 0, 0, 112, []), (112, 5, 0, 4, 113, []), (113, 54, 0, 9, 115, []), (115, 46, 58, 0, 118, [(4, 15)]), (118, 68, 0, 0, 119, [])]
theorem E22_ok : ∀ e ∈ E22, eChk 22 e = true := by decide +kernel
/-- Net.copyFrom(LRepeaterWires$Net;)V -/
def E23 : List aE := [(0, 2, 0, 0, 1, []), (1, 2, 1, 0, 2, []), (2, 44, 9, 0, 5, [(4, 0)]), (5, 45, 9, 0, 8, [(4, 0)]), (8, 2, 0, 0, 9, []), (9, 2, 1, 0, 10, []), (10, 44, 15, 0, 13, [(4, 1)]), (13, 45, 15, 0, 16, [(4, 1)]), (16, 2, 0, 0, 17, []), (17, 2, 1, 0, 18, []), (18, 44, 18, 0, 21, [(4, 2)]), (21, 45, 18, 0, 24, [(4, 2)]), (24, 2, 1, 0, 25, []), (25, 44, 21, 0, 28, [(4, 3)]), (28, 5, 0, 0, 29, []), (29, 2, 0, 0, 30, []), (30, 44, 21, 0, 33, [(4, 3)]), (33, 5, 0, 0, 34, []), (34, 6, 0, 6, 36, []), (36, 65, 61, 0, 39, []), (39, 2, 1, 0, 40, []), (40, 44, 25, 0, 43, [(4, 4)]), (43, 5, 0, 0, 44, []), (44, 2, 0, 0, 45, []), (45, 44, 25, 0, 48, [(4, 4)]), (48, 5, 0, 0, 49, []), (49, 6, 0, 6, 51, []), (51, 65, 61, 0, 54, []), (54, 2, 1, 0, 55, []), (55, 44, 28, 0, 58, [(4, 5)]), (58, 5, 0, 0, 59, []), (59, 2, 0, 0, 60, []), (60, 44, 28, 0, 63, [(4, 5)]), (63, 5, 0, 0, 64, []), (64, 6, 0, 6, 66, []), (66, 65, 61, 0, 69, []), (69, 2, 1, 0, 70, []), (70, 44, 31, 0, 73, [(4, 6)]), (73, 5, 0, 0, 74, []), (74, 2, 0, 0, 75, []), (75, 44, 31, 0, 78, [(4, 6)]), (78, 5, 0, 0, 79, []), (79, 6, 0, 6, 81, []), (81, 65, 61, 0, 84, []), (84, 2, 1, 0, 85, []), (85, 44, 34, 0, 88, [(4, 7)]), (88, 5, 0, 0, 89, []), (89, 2, 0, 0, 90, []), (90, 44, 34, 0, 93, [(4, 7)]), (93, 5, 0, 0, 94, []), (94, 6, 0, 6, 96, []), (96, 65, 61, 0, 99, []), (99, 2, 1, 0, 100, []), (100, 44, 37, 0, 103, [(4, 8)]), (103, 5, 0, 0, 104, []), (104, 2, 0, 0, 105, []), (105, 44, 37, 0, 108, [(4, 8)]), (108, 5, 0, 0, 109, []), (109, 6, 0, 6, 111, []), (111, 65, 61, 0, 114, []), (114, 2, 1, 0, 115, []), (115, 44, 40, 0, 118, [(4, 9)]), (118, 5, 0, 0, 119, []), (119, 2, 0, 0, 120, []), (120, 44, 40, 0, 123, [(4, 9)]), (123, 5, 0, 0, 124, []), (124, 6, 0, 6, 126, []), (126, 65, 61, 0, 129, []), (129, 2, 1, 0, 130, []), (130, 44, 43, 0, 133, [(4, 10)]), (133, 5, 0, 0, 134, []), (134, 2, 0, 0, 135, []), (135, 44, 43, 0, 138, [(4, 10)]), (138, 5, 0, 0, 139, []), (139, 6, 0, 6, 141, []), (141, 65, 61, 0, 144, []), (144, 2, 1, 0, 145, []), (145, 44, 46, 0, 148, [(4, 11)]), (148, 5, 0, 0, 149, []), (149, 2, 0, 0, 150, []), (150, 44, 46, 0, 153, [(4, 11)]), (153, 5, 0, 0, 154, []), (154, 5, 0, 4, 155, []), (155, 65, 61, 0, 158, []), (158, 2, 1, 0, 159, []), (159, 44, 49, 0, 162, [(4, 12)]), (162, 5, 0, 0, 163, []), (163, 2, 0, 0, 164, []), (164, 44, 49, 0, 167, [(4, 12)]), (167, 5, 0, 0, 168, []), (168, 5, 0, 4, 169, []), (169, 65, 61, 0, 172, []), (172, 2, 1, 0, 173, []), (173, 44, 52, 0, 176, [(4, 13)]), (176, 5, 0, 0, 177, []), (177, 2, 0, 0, 178, []), (178, 44, 52, 0, 181, [(4, 13)]), (181, 5, 0, 0, 182, []), (182, 5, 0, 4, 183, []), (183, 65, 61, 0, 186, []), (186, 2, 1, 0, 187, []), (187, 44, 55, 0, 190, [(4, 14)]), (190, 5, 0, 0, 191, []), (191, 2, 0, 0, 192, []), (192, 44, 55, 0, 195, [(4, 14)]), (195, 5, 0, 0, 196, []), (196, 5, 0, 4, 197, []), (197, 65, 61, 0, 200, []), (200, 2, 1, 0, 201, []), (201, 44, 58, 0, 204, [(4, 15)]), (204, 5, 0, 0, 205, []), (205, 2, 0, 0, 206, []), (206, 44, 58, 0, 209, [(4, 15)]), (209, 5, 0, 0, 210, []), (210, 5, 0, 4, 211, []), (211, 65, 61, 0, 214, []), (214, 68, 0, 0, 215, [])]
theorem E23_ok : ∀ e ∈ E23, eChk 23 e = true := by decide +kernel
/-- Net.hasNode(I)Z -/
def E24 : List aE := [(0, 1, 1, 0, 1, []), (1, 32, 16, 0, 4, []), (4, 1, 1, 0, 5, []), (5, 2, 0, 0, 6, []), (6, 44, 9, 0, 9, [(4, 0)]), (9, 39, 16, 0, 12, []), (12, 5, 0, 1, 13, []), (13, 29, 17, 0, 16, []), (16, 5, 0, 0, 17, []), (17, 66, 0, 0, 18, [])]
theorem E24_ok : ∀ e ∈ E24, eChk 24 e = true := by decide +kernel
/-- Net.hasKind(I)Z -/
def E25 : List aE := [(0, 1, 1, 0, 1, []), (1, 5, 0, 1, 2, []), (2, 38, 26, 0, 5, []), (5, 1, 1, 0, 6, []), (6, 5, 0, 3, 7, []), (7, 40, 26, 0, 10, []), (10, 2, 0, 0, 11, []), (11, 44, 18, 0, 14, [(4, 2)]), (14, 1, 1, 0, 15, []), (15, 20, 0, 0, 16, []), (16, 5, 0, 1, 17, []), (17, 16, 0, 0, 18, []), (18, 5, 0, 1, 19, []), (19, 37, 26, 0, 22, []), (22, 5, 0, 1, 23, []), (23, 29, 27, 0, 26, []), (26, 5, 0, 0, 27, []), (27, 66, 0, 0, 28, [])]
theorem E25_ok : ∀ e ∈ E25, eChk 25 e = true := by decide +kernel
/-- Net.canBePlaced(I)Z -/
def E26 : List aE := [(0, 1, 1, 0, 1, []), (1, 30, 12, 0, 4, []), (4, 2, 0, 0, 5, []), (5, 1, 1, 0, 6, []), (6, 60, 67, 25, 9, [(4, 1)]), (9, 30, 16, 0, 12, []), (12, 5, 0, 1, 13, []), (13, 29, 17, 0, 16, []), (16, 5, 0, 0, 17, []), (17, 66, 0, 0, 18, [])]
theorem E26_ok : ∀ e ∈ E26, eChk 26 e = true := by decide +kernel
/-- Net.hasRoom()Z -/
def E27 : List aE := [(0, 2, 0, 0, 1, []), (1, 44, 9, 0, 4, [(4, 0)]), (4, 6, 0, 6, 6, []), (6, 39, 13, 0, 9, []), (9, 5, 0, 1, 10, []), (10, 29, 14, 0, 13, []), (13, 5, 0, 0, 14, []), (14, 66, 0, 0, 15, [])]
theorem E27_ok : ∀ e ∈ E27, eChk 27 e = true := by decide +kernel
/-- Net.ends()I -/
def E28 : List aE := [(0, 5, 0, 0, 1, []), (1, 3, 1, 0, 2, []), (2, 5, 0, 0, 3, []), (3, 3, 2, 0, 4, []), (4, 5, 0, 1, 5, []), (5, 3, 3, 0, 6, []), (6, 1, 3, 0, 7, []), (7, 2, 0, 0, 8, []), (8, 44, 9, 0, 11, [(4, 0)]), (11, 39, 37, 0, 14, []), (14, 1, 1, 0, 15, []), (15, 5, 0, 1, 16, []), (16, 1, 3, 0, 17, []), (17, 19, 0, 0, 18, []), (18, 17, 0, 0, 19, []), (19, 3, 1, 0, 20, []), (20, 1, 2, 0, 21, []), (21, 5, 0, 1, 22, []), (22, 2, 0, 0, 23, []), (23, 44, 21, 0, 26, [(4, 3)]), (26, 1, 3, 0, 27, []), (27, 47, 0, 0, 28, []), (28, 19, 0, 0, 29, []), (29, 17, 0, 0, 30, []), (30, 3, 2, 0, 31, []), (31, 28, 3, 1, 34, []), (34, 29, 6, 0, 37, []), (37, 1, 1, 0, 38, []), (38, 1, 2, 0, 39, []), (39, 5, 0, -1, 40, []), (40, 18, 0, 0, 41, []), (41, 16, 0, 0, 42, []), (42, 66, 0, 0, 43, [])]
theorem E28_ok : ∀ e ∈ E28, eChk 28 e = true := by decide +kernel
/-- Net.isEnd(I)Z -/
def E29 : List aE := [(0, 2, 0, 0, 1, []), (1, 60, 71, 28, 4, [(4, 0)]), (4, 1, 1, 0, 5, []), (5, 20, 0, 0, 6, []), (6, 5, 0, 1, 7, []), (7, 16, 0, 0, 8, []), (8, 5, 0, 1, 9, []), (9, 37, 16, 0, 12, []), (12, 5, 0, 1, 13, []), (13, 29, 17, 0, 16, []), (16, 5, 0, 0, 17, []), (17, 66, 0, 0, 18, [])]
theorem E29_ok : ∀ e ∈ E29, eChk 29 e = true := by decide +kernel
/-- Net.isPlaced(I)Z -/
def E30 : List aE := [(0, 5, 0, 1, 1, []), (1, 3, 2, 0, 2, []), (2, 1, 2, 0, 3, []), (3, 2, 0, 0, 4, []), (4, 44, 9, 0, 7, [(4, 0)]), (7, 39, 28, 0, 10, []), (10, 2, 0, 0, 11, []), (11, 44, 43, 0, 14, [(4, 10)]), (14, 1, 2, 0, 15, []), (15, 47, 0, 0, 16, []), (16, 1, 1, 0, 17, []), (17, 37, 22, 0, 20, []), (20, 5, 0, 1, 21, []), (21, 66, 0, 0, 22, []), (22, 28, 2, 1, 25, []), (25, 29, 2, 0, 28, []), (28, 5, 0, 0, 29, []), (29, 66, 0, 0, 30, [])]
theorem E30_ok : ∀ e ∈ E30, eChk 30 e = true := by decide +kernel
/-- Net.costOfAll()I -/
def E31 : List aE := [(0, 5, 0, 0, 1, []), (1, 3, 1, 0, 2, []), (2, 5, 0, 1, 3, []), (3, 3, 2, 0, 4, []), (4, 1, 2, 0, 5, []), (5, 2, 0, 0, 6, []), (6, 44, 9, 0, 9, [(4, 0)]), (9, 39, 32, 0, 12, []), (12, 1, 1, 0, 13, []), (13, 2, 0, 0, 14, []), (14, 44, 55, 0, 17, [(4, 14)]), (17, 2, 0, 0, 18, []), (18, 44, 43, 0, 21, [(4, 10)]), (21, 1, 2, 0, 22, []), (22, 47, 0, 0, 23, []), (23, 47, 0, 0, 24, []), (24, 11, 0, 0, 25, []), (25, 3, 1, 0, 26, []), (26, 28, 2, 1, 29, []), (29, 29, 4, 0, 32, []), (32, 1, 1, 0, 33, []), (33, 66, 0, 0, 34, [])]
theorem E31_ok : ∀ e ∈ E31, eChk 31 e = true := by decide +kernel
/-- Net.grow(III)I -/
def E32 : List aE := [(0, 2, 0, 0, 1, []), (1, 44, 9, 0, 4, [(4, 0)]), (4, 3, 4, 0, 6, []), (6, 2, 0, 0, 7, []), (7, 57, 0, 0, 8, []), (8, 44, 9, 0, 11, [(4, 0)]), (11, 5, 0, 1, 12, []), (12, 11, 0, 0, 13, []), (13, 45, 9, 0, 16, [(4, 0)]), (16, 2, 0, 0, 17, []), (17, 44, 21, 0, 20, [(4, 3)]), (20, 1, 4, 0, 22, []), (22, 1, 1, 0, 23, []), (23, 48, 0, 0, 24, []), (24, 2, 0, 0, 25, []), (25, 44, 25, 0, 28, [(4, 4)]), (28, 1, 4, 0, 30, []), (30, 1, 2, 0, 31, []), (31, 48, 0, 0, 32, []), (32, 2, 0, 0, 33, []), (33, 44, 28, 0, 36, [(4, 5)]), (36, 1, 4, 0, 38, []), (38, 1, 3, 0, 39, []), (39, 48, 0, 0, 40, []), (40, 2, 0, 0, 41, []), (41, 44, 31, 0, 44, [(4, 6)]), (44, 1, 4, 0, 46, []), (46, 5, 0, 1, 47, []), (47, 48, 0, 0, 48, []), (48, 2, 0, 0, 49, []), (49, 44, 43, 0, 52, [(4, 10)]), (52, 1, 4, 0, 54, []), (54, 5, 0, 0, 55, []), (55, 48, 0, 0, 56, []), (56, 2, 0, 0, 57, []), (57, 1, 4, 0, 59, []), (59, 5, 0, 1, 60, []), (60, 6, 0, 100, 62, []), (62, 5, 0, 0, 63, []), (63, 60, 75, 33, 66, [(4, 4)]), (66, 1, 4, 0, 68, []), (68, 66, 0, 0, 69, [])]
theorem E32_ok : ∀ e ∈ E32, eChk 32 e = true := by decide +kernel
/-- Net.tellEnd(IIII)V -/
def E33 : List aE := [(0, 2, 0, 0, 1, []), (1, 44, 34, 0, 4, [(4, 7)]), (4, 1, 1, 0, 5, []), (5, 1, 2, 0, 6, []), (6, 48, 0, 0, 7, []), (7, 2, 0, 0, 8, []), (8, 44, 37, 0, 11, [(4, 8)]), (11, 1, 1, 0, 12, []), (12, 1, 3, 0, 13, []), (13, 48, 0, 0, 14, []), (14, 2, 0, 0, 15, []), (15, 44, 40, 0, 18, [(4, 9)]), (18, 1, 1, 0, 19, []), (19, 1, 4, 0, 21, []), (21, 48, 0, 0, 22, []), (22, 68, 0, 0, 23, [])]
theorem E33_ok : ∀ e ∈ E33, eChk 33 e = true := by decide +kernel
/-- Net.wireTime(II)I -/
def E34 : List aE := [(0, 2, 0, 0, 1, []), (1, 44, 25, 0, 4, [(4, 4)]), (4, 1, 1, 0, 5, []), (5, 47, 0, 0, 6, []), (6, 3, 3, 0, 7, []), (7, 1, 3, 0, 8, []), (8, 2, 0, 0, 9, []), (9, 44, 28, 0, 12, [(4, 5)]), (12, 1, 1, 0, 13, []), (13, 47, 0, 0, 14, []), (14, 13, 0, 0, 15, []), (15, 2, 0, 0, 16, []), (16, 44, 31, 0, 19, [(4, 6)]), (19, 1, 1, 0, 20, []), (20, 47, 0, 0, 21, []), (21, 5, 0, 1, 22, []), (22, 37, 29, 0, 25, []), (25, 5, 0, 2, 26, []), (26, 29, 30, 0, 29, []), (29, 5, 0, 1, 30, []), (30, 1, 3, 0, 31, []), (31, 13, 0, 0, 32, []), (32, 1, 2, 0, 33, []), (33, 13, 0, 0, 34, []), (34, 11, 0, 0, 35, []), (35, 66, 0, 0, 36, [])]
theorem E34_ok : ∀ e ∈ E34, eChk 34 e = true := by decide +kernel
/-- Past.<init>()V -/
def E35 : List aE := [(0, 2, 0, 0, 1, []), (1, 64, 3, 0, 4, []), (4, 2, 0, 0, 5, []), (5, 6, 0, 16, 7, []), (7, 55, 9, 12, 10, []), (10, 46, 11, 0, 13, [(5, 0)]), (13, 2, 0, 0, 14, []), (14, 5, 0, 0, 15, []), (15, 45, 17, 0, 18, [(5, 1)]), (18, 2, 0, 0, 19, []), (19, 5, 0, 0, 20, []), (20, 45, 21, 0, 23, [(5, 2)]), (23, 5, 0, 0, 24, []), (24, 3, 1, 0, 25, []), (25, 1, 1, 0, 26, []), (26, 6, 0, 16, 28, []), (28, 39, 50, 0, 31, []), (31, 2, 0, 0, 32, []), (32, 44, 11, 0, 35, [(5, 0)]), (35, 1, 1, 0, 36, []), (36, 56, 9, 4, 39, []), (39, 57, 0, 0, 40, []), (40, 62, 24, 22, 43, [(4, 0)]), (43, 50, 0, 0, 44, []), (44, 28, 1, 1, 47, []), (47, 29, 25, 0, 50, []), (50, 68, 0, 0, 51, [])]
theorem E35_ok : ∀ e ∈ E35, eChk 35 e = true := by decide +kernel
/-- Past.push(LRepeaterWires$Net;)V -/
def E36 : List aE := [(0, 2, 0, 0, 1, []), (1, 44, 11, 0, 4, [(5, 0)]), (4, 2, 0, 0, 5, []), (5, 44, 17, 0, 8, [(5, 1)]), (8, 49, 0, 0, 9, []), (9, 2, 1, 0, 10, []), (10, 60, 25, 23, 13, [(4, 1)]), (13, 2, 0, 0, 14, []), (14, 2, 0, 0, 15, []), (15, 44, 17, 0, 18, [(5, 1)]), (18, 5, 0, 1, 19, []), (19, 11, 0, 0, 20, []), (20, 6, 0, 16, 22, []), (22, 15, 0, 0, 23, []), (23, 45, 17, 0, 26, [(5, 1)]), (26, 2, 0, 0, 27, []), (27, 2, 0, 0, 28, []), (28, 44, 21, 0, 31, [(5, 2)]), (31, 5, 0, 1, 32, []), (32, 11, 0, 0, 33, []), (33, 6, 0, 16, 35, []), (35, 63, 29, 138, 38, [(11, 2)]), (38, 45, 21, 0, 41, [(5, 2)]), (41, 68, 0, 0, 42, [])]
theorem E36_ok : ∀ e ∈ E36, eChk 36 e = true := by decide +kernel
/-- Past.goBackBy(ILRepeaterWires$Net;)V -/
def E37 : List aE := [(0, 2, 0, 0, 1, []), (1, 2, 0, 0, 2, []), (2, 44, 17, 0, 5, [(5, 1)]), (5, 6, 0, 16, 7, []), (7, 11, 0, 0, 8, []), (8, 1, 1, 0, 9, []), (9, 12, 0, 0, 10, []), (10, 6, 0, 16, 12, []), (12, 15, 0, 0, 13, []), (13, 45, 17, 0, 16, [(5, 1)]), (16, 2, 0, 0, 17, []), (17, 57, 0, 0, 18, []), (18, 44, 21, 0, 21, [(5, 2)]), (21, 1, 1, 0, 22, []), (22, 12, 0, 0, 23, []), (23, 45, 21, 0, 26, [(5, 2)]), (26, 2, 2, 0, 27, []), (27, 2, 0, 0, 28, []), (28, 44, 11, 0, 31, [(5, 0)]), (31, 2, 0, 0, 32, []), (32, 44, 17, 0, 35, [(5, 1)]), (35, 49, 0, 0, 36, []), (36, 60, 25, 23, 39, [(4, 1)]), (39, 68, 0, 0, 40, [])]
theorem E37_ok : ∀ e ∈ E37, eChk 37 e = true := by decide +kernel
/-- Timing.<init>()V -/
def E38 : List aE := [(0, 2, 0, 0, 1, []), (1, 64, 3, 0, 4, []), (4, 2, 0, 0, 5, []), (5, 6, 0, 6, 7, []), (7, 54, 0, 9, 9, []), (9, 46, 9, 0, 12, [(6, 0)]), (12, 2, 0, 0, 13, []), (13, 6, 0, 6, 15, []), (15, 54, 0, 9, 17, []), (17, 46, 15, 0, 20, [(6, 1)]), (20, 2, 0, 0, 21, []), (21, 6, 0, 6, 23, []), (23, 54, 0, 9, 25, []), (25, 46, 18, 0, 28, [(6, 2)]), (28, 2, 0, 0, 29, []), (29, 6, 0, 6, 31, []), (31, 54, 0, 9, 33, []), (33, 46, 21, 0, 36, [(6, 3)]), (36, 2, 0, 0, 37, []), (37, 8, 24, 900000, 39, []), (39, 45, 25, 0, 42, [(6, 4)]), (42, 2, 0, 0, 43, []), (43, 5, 0, -1, 44, []), (44, 45, 29, 0, 47, [(6, 5)]), (47, 2, 0, 0, 48, []), (48, 5, 0, 0, 49, []), (49, 45, 32, 0, 52, [(6, 6)]), (52, 68, 0, 0, 53, [])]
theorem E38_ok : ∀ e ∈ E38, eChk 38 e = true := by decide +kernel
/-- Timing.of(LRepeaterWires$Net;)LRepeaterWires$Timing; -/
def E39 : List aE := [(0, 2, 1, 0, 1, []), (1, 60, 35, 28, 4, [(4, 0)]), (4, 3, 2, 0, 5, []), (5, 2, 0, 0, 6, []), (6, 2, 1, 0, 7, []), (7, 1, 2, 0, 8, []), (8, 60, 41, 40, 11, [(6, 2)]), (11, 2, 0, 0, 12, []), (12, 2, 1, 0, 13, []), (13, 60, 45, 41, 16, [(6, 1)]), (16, 2, 0, 0, 17, []), (17, 2, 1, 0, 18, []), (18, 1, 2, 0, 19, []), (19, 60, 49, 42, 22, [(6, 2)]), (22, 2, 0, 0, 23, []), (23, 67, 0, 0, 24, [])]
theorem E39_ok : ∀ e ∈ E39, eChk 39 e = true := by decide +kernel
/-- Timing.weigh(LRepeaterWires$Net;I)V -/
def E40 : List aE := [(0, 5, 0, 0, 1, []), (1, 3, 3, 0, 2, []), (2, 1, 3, 0, 3, []), (3, 2, 1, 0, 4, []), (4, 44, 52, 0, 7, [(4, 0)]), (7, 39, 41, 0, 10, []), (10, 2, 0, 0, 11, []), (11, 44, 9, 0, 14, [(6, 0)]), (14, 1, 3, 0, 15, []), (15, 1, 2, 0, 16, []), (16, 1, 3, 0, 17, []), (17, 20, 0, 0, 18, []), (18, 5, 0, 1, 19, []), (19, 16, 0, 0, 20, []), (20, 5, 0, 1, 21, []), (21, 37, 33, 0, 24, []), (24, 2, 1, 0, 25, []), (25, 44, 55, 0, 28, [(4, 7)]), (28, 1, 3, 0, 29, []), (29, 47, 0, 0, 30, []), (30, 29, 34, 0, 33, []), (33, 5, 0, 0, 34, []), (34, 48, 0, 0, 35, []), (35, 28, 3, 1, 38, []), (38, 29, 2, 0, 41, []), (41, 2, 1, 0, 42, []), (42, 44, 52, 0, 45, [(4, 0)]), (45, 5, 0, 1, 46, []), (46, 12, 0, 0, 47, []), (47, 3, 3, 0, 48, []), (48, 1, 3, 0, 49, []), (49, 5, 0, 1, 50, []), (50, 38, 128, 0, 53, []), (53, 2, 1, 0, 54, []), (54, 44, 58, 0, 57, [(4, 10)]), (57, 1, 3, 0, 58, []), (58, 47, 0, 0, 59, []), (59, 3, 4, 0, 61, []), (61, 2, 0, 0, 62, []), (62, 44, 15, 0, 65, [(6, 1)]), (65, 1, 3, 0, 66, []), (66, 1, 4, 0, 68, []), (68, 31, 80, 0, 71, []), (71, 2, 0, 0, 72, []), (72, 44, 9, 0, 75, [(6, 0)]), (75, 1, 3, 0, 76, []), (76, 47, 0, 0, 77, []), (77, 29, 87, 0, 80, []), (80, 2, 1, 0, 81, []), (81, 44, 61, 0, 84, [(4, 11)]), (84, 1, 4, 0, 86, []), (86, 47, 0, 0, 87, []), (87, 48, 0, 0, 88, []), (88, 2, 0, 0, 89, []), (89, 44, 9, 0, 92, [(6, 0)]), (92, 2, 1, 0, 93, []), (93, 44, 64, 0, 96, [(4, 3)]), (96, 1, 3, 0, 97, []), (97, 47, 0, 0, 98, []), (98, 58, 0, 0, 99, []), (99, 47, 0, 0, 100, []), (100, 2, 1, 0, 101, []), (101, 44, 67, 0, 104, [(4, 5)]), (104, 1, 3, 0, 105, []), (105, 47, 0, 0, 106, []), (106, 2, 1, 0, 107, []), (107, 44, 70, 0, 110, [(4, 6)]), (110, 1, 3, 0, 111, []), (111, 47, 0, 0, 112, []), (112, 13, 0, 0, 113, []), (113, 2, 0, 0, 114, []), (114, 44, 15, 0, 117, [(6, 1)]), (117, 1, 3, 0, 118, []), (118, 47, 0, 0, 119, []), (119, 11, 0, 0, 120, []), (120, 11, 0, 0, 121, []), (121, 48, 0, 0, 122, []), (122, 28, 3, -1, 125, []), (125, 29, 48, 0, 128, []), (128, 2, 0, 0, 129, []), (129, 44, 15, 0, 132, [(6, 1)]), (132, 5, 0, 0, 133, []), (133, 2, 0, 0, 134, []), (134, 44, 9, 0, 137, [(6, 0)]), (137, 5, 0, 0, 138, []), (138, 47, 0, 0, 139, []), (139, 48, 0, 0, 140, []), (140, 68, 0, 0, 141, [])]
theorem E40_ok : ∀ e ∈ E40, eChk 40 e = true := by decide +kernel
/-- Timing.run(LRepeaterWires$Net;)V -/
def E41 : List aE := [(0, 2, 0, 0, 1, []), (1, 44, 18, 0, 4, [(6, 2)]), (4, 5, 0, 0, 5, []), (5, 5, 0, 2, 6, []), (6, 2, 1, 0, 7, []), (7, 44, 73, 0, 10, [(4, 1)]), (10, 13, 0, 0, 11, []), (11, 2, 0, 0, 12, []), (12, 44, 9, 0, 15, [(6, 0)]), (15, 5, 0, 0, 16, []), (16, 47, 0, 0, 17, []), (17, 13, 0, 0, 18, []), (18, 48, 0, 0, 19, []), (19, 2, 0, 0, 20, []), (20, 44, 21, 0, 23, [(6, 3)]), (23, 5, 0, 0, 24, []), (24, 5, 0, 0, 25, []), (25, 48, 0, 0, 26, []), (26, 5, 0, 1, 27, []), (27, 3, 2, 0, 28, []), (28, 1, 2, 0, 29, []), (29, 2, 1, 0, 30, []), (30, 44, 52, 0, 33, [(4, 0)]), (33, 39, 125, 0, 36, []), (36, 2, 1, 0, 37, []), (37, 44, 58, 0, 40, [(4, 10)]), (40, 1, 2, 0, 41, []), (41, 47, 0, 0, 42, []), (42, 3, 3, 0, 43, []), (43, 2, 1, 0, 44, []), (44, 44, 64, 0, 47, [(4, 3)]), (47, 1, 2, 0, 48, []), (48, 47, 0, 0, 49, []), (49, 3, 4, 0, 51, []), (51, 2, 0, 0, 52, []), (52, 44, 18, 0, 55, [(6, 2)]), (55, 1, 2, 0, 56, []), (56, 2, 0, 0, 57, []), (57, 44, 18, 0, 60, [(6, 2)]), (60, 1, 4, 0, 62, []), (62, 47, 0, 0, 63, []), (63, 2, 1, 0, 64, []), (64, 1, 2, 0, 65, []), (65, 2, 0, 0, 66, []), (66, 44, 15, 0, 69, [(6, 1)]), (69, 1, 2, 0, 70, []), (70, 47, 0, 0, 71, []), (71, 60, 76, 34, 74, [(4, 2)]), (74, 11, 0, 0, 75, []), (75, 2, 1, 0, 76, []), (76, 44, 80, 0, 79, [(4, 13)]), (79, 1, 3, 0, 80, []), (80, 47, 0, 0, 81, []), (81, 11, 0, 0, 82, []), (82, 5, 0, 2, 83, []), (83, 2, 1, 0, 84, []), (84, 44, 83, 0, 87, [(4, 12)]), (87, 1, 3, 0, 88, []), (88, 47, 0, 0, 89, []), (89, 13, 0, 0, 90, []), (90, 2, 0, 0, 91, []), (91, 44, 9, 0, 94, [(6, 0)]), (94, 1, 2, 0, 95, []), (95, 47, 0, 0, 96, []), (96, 13, 0, 0, 97, []), (97, 11, 0, 0, 98, []), (98, 48, 0, 0, 99, []), (99, 2, 0, 0, 100, []), (100, 44, 21, 0, 103, [(6, 3)]), (103, 1, 2, 0, 104, []), (104, 2, 0, 0, 105, []), (105, 44, 21, 0, 108, [(6, 3)]), (108, 1, 4, 0, 110, []), (110, 47, 0, 0, 111, []), (111, 2, 1, 0, 112, []), (112, 44, 86, 0, 115, [(4, 15)]), (115, 1, 3, 0, 116, []), (116, 47, 0, 0, 117, []), (117, 18, 0, 0, 118, []), (118, 48, 0, 0, 119, []), (119, 28, 2, 1, 122, []), (122, 29, 28, 0, 125, []), (125, 68, 0, 0, 126, [])]
theorem E41_ok : ∀ e ∈ E41, eChk 41 e = true := by decide +kernel
/-- Timing.judge(LRepeaterWires$Net;I)V -/
def E42 : List aE := [(0, 2, 0, 0, 1, []), (1, 8, 24, 900000, 3, []), (3, 45, 25, 0, 6, [(6, 4)]), (6, 2, 0, 0, 7, []), (7, 5, 0, -1, 8, []), (8, 45, 29, 0, 11, [(6, 5)]), (11, 2, 0, 0, 12, []), (12, 5, 0, 0, 13, []), (13, 45, 32, 0, 16, [(6, 6)]), (16, 5, 0, 1, 17, []), (17, 3, 3, 0, 18, []), (18, 1, 3, 0, 19, []), (19, 2, 1, 0, 20, []), (20, 44, 52, 0, 23, [(4, 0)]), (23, 39, 112, 0, 26, []), (26, 1, 2, 0, 27, []), (27, 1, 3, 0, 28, []), (28, 20, 0, 0, 29, []), (29, 5, 0, 1, 30, []), (30, 16, 0, 0, 31, []), (31, 31, 37, 0, 34, []), (34, 29, 106, 0, 37, []), (37, 2, 1, 0, 38, []), (38, 44, 89, 0, 41, [(4, 8)]), (41, 1, 3, 0, 42, []), (42, 47, 0, 0, 43, []), (43, 2, 0, 0, 44, []), (44, 44, 18, 0, 47, [(6, 2)]), (47, 1, 3, 0, 48, []), (48, 47, 0, 0, 49, []), (49, 12, 0, 0, 50, []), (50, 2, 0, 0, 51, []), (51, 44, 25, 0, 54, [(6, 4)]), (54, 39, 79, 0, 57, []), (57, 2, 0, 0, 58, []), (58, 2, 1, 0, 59, []), (59, 44, 89, 0, 62, [(4, 8)]), (62, 1, 3, 0, 63, []), (63, 47, 0, 0, 64, []), (64, 2, 0, 0, 65, []), (65, 44, 18, 0, 68, [(6, 2)]), (68, 1, 3, 0, 69, []), (69, 47, 0, 0, 70, []), (70, 12, 0, 0, 71, []), (71, 45, 25, 0, 74, [(6, 4)]), (74, 2, 0, 0, 75, []), (75, 1, 3, 0, 76, []), (76, 45, 29, 0, 79, [(6, 5)]), (79, 2, 1, 0, 80, []), (80, 44, 92, 0, 83, [(4, 9)]), (83, 1, 3, 0, 84, []), (84, 47, 0, 0, 85, []), (85, 2, 0, 0, 86, []), (86, 44, 21, 0, 89, [(6, 3)]), (89, 1, 3, 0, 90, []), (90, 47, 0, 0, 91, []), (91, 36, 106, 0, 94, []), (94, 2, 0, 0, 95, []), (95, 57, 0, 0, 96, []), (96, 44, 32, 0, 99, [(6, 6)]), (99, 5, 0, 1, 100, []), (100, 1, 3, 0, 101, []), (101, 19, 0, 0, 102, []), (102, 17, 0, 0, 103, []), (103, 45, 32, 0, 106, [(6, 6)]), (106, 28, 3, 1, 109, []), (109, 29, 18, 0, 112, []), (112, 68, 0, 0, 113, [])]
theorem E42_ok : ∀ e ∈ E42, eChk 42 e = true := by decide +kernel
/-- RepeaterWires.<init>()V -/
def E43 : List aE := [(0, 2, 0, 0, 1, []), (1, 64, 1, 0, 4, []), (4, 2, 0, 0, 5, []), (5, 56, 7, 4, 8, []), (8, 57, 0, 0, 9, []), (9, 62, 9, 22, 12, [(4, 0)]), (12, 46, 10, 0, 15, [(7, 0)]), (15, 2, 0, 0, 16, []), (16, 56, 7, 4, 19, []), (19, 57, 0, 0, 20, []), (20, 62, 9, 22, 23, [(4, 0)]), (23, 46, 16, 0, 26, [(7, 1)]), (26, 2, 0, 0, 27, []), (27, 56, 19, 6, 30, []), (30, 57, 0, 0, 31, []), (31, 62, 21, 38, 34, [(6, 0)]), (34, 46, 22, 0, 37, [(7, 2)]), (37, 2, 0, 0, 38, []), (38, 56, 26, 1, 41, []), (41, 57, 0, 0, 42, []), (42, 61, 28, 3, 45, [(1, 0)]), (45, 46, 29, 0, 48, [(7, 3)]), (48, 2, 0, 0, 49, []), (49, 56, 33, 5, 52, []), (52, 57, 0, 0, 53, []), (53, 61, 35, 35, 56, [(5, 0)]), (56, 46, 36, 0, 59, [(7, 4)]), (59, 2, 0, 0, 60, []), (60, 56, 40, 0, 63, []), (63, 57, 0, 0, 64, []), (64, 62, 42, 0, 67, [(0, 0)]), (67, 46, 43, 0, 70, [(7, 5)]), (70, 2, 0, 0, 71, []), (71, 56, 47, 2, 74, []), (74, 57, 0, 0, 75, []), (75, 62, 49, 12, 78, [(2, 0)]), (78, 46, 50, 0, 81, [(7, 6)]), (81, 2, 0, 0, 82, []), (82, 5, 0, 2, 83, []), (83, 55, 7, 12, 86, []), (86, 46, 54, 0, 89, [(7, 7)]), (89, 2, 0, 0, 90, []), (90, 5, 0, 2, 91, []), (91, 54, 0, 9, 93, []), (93, 46, 58, 0, 96, [(7, 8)]), (96, 2, 0, 0, 97, []), (97, 5, 0, 2, 98, []), (98, 54, 0, 10, 100, []), (100, 46, 62, 0, 103, [(7, 9)]), (103, 5, 0, 0, 104, []), (104, 3, 1, 0, 105, []), (105, 1, 1, 0, 106, []), (106, 5, 0, 2, 107, []), (107, 39, 129, 0, 110, []), (110, 2, 0, 0, 111, []), (111, 44, 54, 0, 114, [(7, 7)]), (114, 1, 1, 0, 115, []), (115, 56, 7, 4, 118, []), (118, 57, 0, 0, 119, []), (119, 62, 9, 22, 122, [(4, 0)]), (122, 50, 0, 0, 123, []), (123, 28, 1, 1, 126, []), (126, 29, 105, 0, 129, []), (129, 68, 0, 0, 130, [])]
theorem E43_ok : ∀ e ∈ E43, eChk 43 e = true := by decide +kernel
/-- RepeaterWires.told(I)I -/
def E44 : List aE := [(0, 1, 1, 0, 1, []), (1, 42, 248, 0, 76, [(0, 76), (0, 84), (0, 92), (0, 100), (0, 108), (0, 116), (0, 134), (0, 149), (0, 164), (0, 182), (0, 190), (0, 195), (0, 203), (0, 232), (0, 240)]), (76, 2, 0, 0, 77, []), (77, 44, 10, 0, 80, [(7, 0)]), (80, 44, 66, 0, 83, [(4, 0)]), (83, 66, 0, 0, 84, []), (84, 2, 0, 0, 85, []), (85, 44, 10, 0, 88, [(7, 0)]), (88, 60, 70, 28, 91, [(4, 0)]), (91, 66, 0, 0, 92, []), (92, 2, 0, 0, 93, []), (93, 44, 10, 0, 96, [(7, 0)]), (96, 44, 74, 0, 99, [(4, 1)]), (99, 66, 0, 0, 100, []), (100, 2, 0, 0, 101, []), (101, 44, 10, 0, 104, [(7, 0)]), (104, 44, 77, 0, 107, [(4, 2)]), (107, 66, 0, 0, 108, []), (108, 2, 0, 0, 109, []), (109, 44, 10, 0, 112, [(7, 0)]), (112, 60, 80, 31, 115, [(4, 0)]), (115, 66, 0, 0, 116, []), (116, 2, 0, 0, 117, []), (117, 44, 22, 0, 120, [(7, 2)]), (120, 2, 0, 0, 121, []), (121, 44, 10, 0, 124, [(7, 0)]), (124, 60, 83, 39, 127, [(6, 1)]), (127, 44, 87, 0, 130, [(6, 4)]), (130, 8, 90, 1000000, 132, []), (132, 11, 0, 0, 133, []), (133, 66, 0, 0, 134, []), (134, 2, 0, 0, 135, []), (135, 44, 22, 0, 138, [(7, 2)]), (138, 2, 0, 0, 139, []), (139, 44, 10, 0, 142, [(7, 0)]), (142, 60, 83, 39, 145, [(6, 1)]), (145, 44, 91, 0, 148, [(6, 5)]), (148, 66, 0, 0, 149, []), (149, 2, 0, 0, 150, []), (150, 44, 22, 0, 153, [(7, 2)]), (153, 2, 0, 0, 154, []), (154, 44, 10, 0, 157, [(7, 0)]), (157, 60, 83, 39, 160, [(6, 1)]), (160, 44, 94, 0, 163, [(6, 6)]), (163, 66, 0, 0, 164, []), (164, 2, 0, 0, 165, []), (165, 44, 29, 0, 168, [(7, 3)]), (168, 2, 0, 0, 169, []), (169, 44, 10, 0, 172, [(7, 0)]), (172, 60, 97, 6, 175, [(1, 1)]), (175, 44, 100, 0, 178, [(1, 1)]), (178, 44, 104, 0, 181, [(3, 0)]), (181, 66, 0, 0, 182, []), (182, 2, 0, 0, 183, []), (183, 60, 107, 75, 186, [(7, 0)]), (186, 8, 90, 1000000, 188, []), (188, 11, 0, 0, 189, []), (189, 66, 0, 0, 190, []), (190, 2, 0, 0, 191, []), (191, 60, 110, 76, 194, [(7, 0)]), (194, 66, 0, 0, 195, []), (195, 2, 0, 0, 196, []), (196, 44, 43, 0, 199, [(7, 5)]), (199, 44, 113, 0, 202, [(0, 2)]), (202, 66, 0, 0, 203, []), (203, 2, 0, 0, 204, []), (204, 44, 43, 0, 207, [(7, 5)]), (207, 2, 0, 0, 208, []), (208, 44, 10, 0, 211, [(7, 0)]), (211, 44, 66, 0, 214, [(4, 0)]), (214, 2, 0, 0, 215, []), (215, 44, 22, 0, 218, [(7, 2)]), (218, 2, 0, 0, 219, []), (219, 44, 10, 0, 222, [(7, 0)]), (222, 60, 83, 39, 225, [(6, 1)]), (225, 44, 114, 0, 228, [(6, 2)]), (228, 60, 117, 2, 231, [(0, 2)]), (231, 66, 0, 0, 232, []), (232, 2, 0, 0, 233, []), (233, 44, 36, 0, 236, [(7, 4)]), (236, 44, 121, 0, 239, [(5, 2)]), (239, 66, 0, 0, 240, []), (240, 2, 0, 0, 241, []), (241, 44, 50, 0, 244, [(7, 6)]), (244, 44, 122, 0, 247, [(2, 0)]), (247, 66, 0, 0, 248, []), (248, 8, 125, -1000000002, 250, []), (250, 66, 0, 0, 251, [])]
theorem E44_ok : ∀ e ∈ E44, eChk 44 e = true := by decide +kernel
/-- RepeaterWires.at(II)I -/
def E45 : List aE := [(0, 2, 0, 0, 1, []), (1, 44, 10, 0, 4, [(7, 0)]), (4, 1, 1, 0, 5, []), (5, 60, 126, 24, 8, [(4, 1)]), (8, 31, 14, 0, 11, []), (11, 8, 130, -1000000001, 13, []), (13, 66, 0, 0, 14, []), (14, 1, 2, 0, 15, []), (15, 5, 0, 0, 16, []), (16, 6, 0, 12, 18, []), (18, 63, 131, 69, 21, [(7, 3)]), (21, 31, 27, 0, 24, []), (24, 8, 125, -1000000002, 26, []), (26, 66, 0, 0, 27, []), (27, 1, 2, 0, 28, []), (28, 5, 0, 3, 29, []), (29, 40, 47, 0, 32, []), (32, 1, 1, 0, 33, []), (33, 31, 40, 0, 36, []), (36, 5, 0, -1, 37, []), (37, 29, 46, 0, 40, []), (40, 2, 0, 0, 41, []), (41, 1, 1, 0, 42, []), (42, 1, 2, 0, 43, []), (43, 60, 135, 72, 46, [(7, 2)]), (46, 66, 0, 0, 47, []), (47, 1, 2, 0, 48, []), (48, 6, 0, 6, 50, []), (50, 40, 75, 0, 53, []), (53, 2, 0, 0, 54, []), (54, 44, 10, 0, 57, [(7, 0)]), (57, 1, 1, 0, 58, []), (58, 60, 139, 29, 61, [(4, 1)]), (61, 30, 73, 0, 64, []), (64, 2, 0, 0, 65, []), (65, 1, 1, 0, 66, []), (66, 1, 2, 0, 67, []), (67, 60, 142, 73, 70, [(7, 2)]), (70, 29, 74, 0, 73, []), (73, 5, 0, -1, 74, []), (74, 66, 0, 0, 75, []), (75, 1, 2, 0, 76, []), (76, 6, 0, 7, 78, []), (78, 37, 91, 0, 81, []), (81, 2, 0, 0, 82, []), (82, 44, 10, 0, 85, [(7, 0)]), (85, 44, 145, 0, 88, [(4, 10)]), (88, 1, 1, 0, 89, []), (89, 47, 0, 0, 90, []), (90, 66, 0, 0, 91, []), (91, 2, 0, 0, 92, []), (92, 1, 1, 0, 93, []), (93, 1, 2, 0, 94, []), (94, 60, 148, 74, 97, [(7, 2)]), (97, 66, 0, 0, 98, [])]
theorem E45_ok : ∀ e ∈ E45, eChk 45 e = true := by decide +kernel
/-- RepeaterWires.kindAt(II)I -/
def E46 : List aE := [(0, 2, 0, 0, 1, []), (1, 44, 10, 0, 4, [(7, 0)]), (4, 1, 1, 0, 5, []), (5, 60, 151, 25, 8, [(4, 1)]), (8, 31, 14, 0, 11, []), (11, 8, 130, -1000000001, 13, []), (13, 66, 0, 0, 14, []), (14, 1, 2, 0, 15, []), (15, 42, 98, 0, 48, [(0, 48), (0, 58), (0, 68), (0, 78), (0, 88)]), (48, 2, 0, 0, 49, []), (49, 44, 10, 0, 52, [(7, 0)]), (52, 44, 154, 0, 55, [(4, 11)]), (55, 1, 1, 0, 56, []), (56, 47, 0, 0, 57, []), (57, 66, 0, 0, 58, []), (58, 2, 0, 0, 59, []), (59, 44, 10, 0, 62, [(7, 0)]), (62, 44, 157, 0, 65, [(4, 12)]), (65, 1, 1, 0, 66, []), (66, 47, 0, 0, 67, []), (67, 66, 0, 0, 68, []), (68, 2, 0, 0, 69, []), (69, 44, 10, 0, 72, [(7, 0)]), (72, 44, 160, 0, 75, [(4, 13)]), (75, 1, 1, 0, 76, []), (76, 47, 0, 0, 77, []), (77, 66, 0, 0, 78, []), (78, 2, 0, 0, 79, []), (79, 44, 10, 0, 82, [(7, 0)]), (82, 44, 163, 0, 85, [(4, 14)]), (85, 1, 1, 0, 86, []), (86, 47, 0, 0, 87, []), (87, 66, 0, 0, 88, []), (88, 2, 0, 0, 89, []), (89, 44, 10, 0, 92, [(7, 0)]), (92, 44, 166, 0, 95, [(4, 15)]), (95, 1, 1, 0, 96, []), (96, 47, 0, 0, 97, []), (97, 66, 0, 0, 98, []), (98, 8, 125, -1000000002, 100, []), (100, 66, 0, 0, 101, [])]
theorem E46_ok : ∀ e ∈ E46, eChk 46 e = true := by decide +kernel
/-- RepeaterWires.candidates(II)I -/
def E47 : List aE := [(0, 2, 0, 0, 1, []), (1, 44, 10, 0, 4, [(7, 0)]), (4, 1, 1, 0, 5, []), (5, 60, 126, 24, 8, [(4, 1)]), (8, 31, 14, 0, 11, []), (11, 8, 130, -1000000001, 13, []), (13, 66, 0, 0, 14, []), (14, 1, 2, 0, 15, []), (15, 5, 0, 0, 16, []), (16, 5, 0, 1, 17, []), (17, 63, 131, 69, 20, [(7, 3)]), (20, 31, 26, 0, 23, []), (23, 8, 125, -1000000002, 25, []), (25, 66, 0, 0, 26, []), (26, 2, 0, 0, 27, []), (27, 44, 29, 0, 30, [(7, 3)]), (30, 2, 0, 0, 31, []), (31, 44, 10, 0, 34, [(7, 0)]), (34, 60, 97, 6, 37, [(1, 1)]), (37, 1, 1, 0, 38, []), (38, 1, 2, 0, 39, []), (39, 60, 169, 5, 42, [(1, 2)]), (42, 44, 104, 0, 45, [(3, 0)]), (45, 66, 0, 0, 46, [])]
theorem E47_ok : ∀ e ∈ E47, eChk 47 e = true := by decide +kernel
/-- RepeaterWires.candidate(IIII)I -/
def E48 : List aE := [(0, 2, 0, 0, 1, []), (1, 44, 10, 0, 4, [(7, 0)]), (4, 1, 1, 0, 5, []), (5, 60, 126, 24, 8, [(4, 1)]), (8, 31, 14, 0, 11, []), (11, 8, 130, -1000000001, 13, []), (13, 66, 0, 0, 14, []), (14, 1, 2, 0, 15, []), (15, 5, 0, 0, 16, []), (16, 5, 0, 1, 17, []), (17, 63, 131, 69, 20, [(7, 3)]), (20, 31, 26, 0, 23, []), (23, 8, 125, -1000000002, 25, []), (25, 66, 0, 0, 26, []), (26, 2, 0, 0, 27, []), (27, 44, 29, 0, 30, [(7, 3)]), (30, 2, 0, 0, 31, []), (31, 44, 10, 0, 34, [(7, 0)]), (34, 60, 97, 6, 37, [(1, 1)]), (37, 1, 1, 0, 38, []), (38, 1, 2, 0, 39, []), (39, 60, 169, 5, 42, [(1, 2)]), (42, 4, 5, 0, 44, []), (44, 1, 3, 0, 45, []), (45, 5, 0, 0, 46, []), (46, 2, 5, 0, 48, []), (48, 44, 104, 0, 51, [(3, 0)]), (51, 5, 0, 1, 52, []), (52, 12, 0, 0, 53, []), (53, 63, 131, 69, 56, [(7, 3)]), (56, 31, 62, 0, 59, []), (59, 8, 130, -1000000001, 61, []), (61, 66, 0, 0, 62, []), (62, 1, 4, 0, 64, []), (64, 42, 119, 0, 92, [(0, 92), (0, 100), (0, 111)]), (92, 2, 5, 0, 94, []), (94, 44, 173, 0, 97, [(3, 1)]), (97, 1, 3, 0, 98, []), (98, 47, 0, 0, 99, []), (99, 66, 0, 0, 100, []), (100, 2, 5, 0, 102, []), (102, 44, 176, 0, 105, [(3, 2)]), (105, 1, 3, 0, 106, []), (106, 47, 0, 0, 107, []), (107, 8, 90, 1000000, 109, []), (109, 11, 0, 0, 110, []), (110, 66, 0, 0, 111, []), (111, 2, 5, 0, 113, []), (113, 44, 178, 0, 116, [(3, 3)]), (116, 1, 3, 0, 117, []), (117, 47, 0, 0, 118, []), (118, 66, 0, 0, 119, []), (119, 8, 125, -1000000002, 121, []), (121, 66, 0, 0, 122, [])]
theorem E48_ok : ∀ e ∈ E48, eChk 48 e = true := by decide +kernel
/-- RepeaterWires.point(II)I -/
def E49 : List aE := [(0, 2, 0, 0, 1, []), (1, 44, 29, 0, 4, [(7, 3)]), (4, 2, 0, 0, 5, []), (5, 44, 10, 0, 8, [(7, 0)]), (8, 60, 97, 6, 11, [(1, 1)]), (11, 44, 100, 0, 14, [(1, 1)]), (14, 4, 3, 0, 15, []), (15, 1, 1, 0, 16, []), (16, 5, 0, 0, 17, []), (17, 2, 3, 0, 18, []), (18, 44, 104, 0, 21, [(3, 0)]), (21, 5, 0, 1, 22, []), (22, 12, 0, 0, 23, []), (23, 63, 131, 69, 26, [(7, 3)]), (26, 31, 32, 0, 29, []), (29, 8, 130, -1000000001, 31, []), (31, 66, 0, 0, 32, []), (32, 1, 2, 0, 33, []), (33, 43, 77, 0, 60, [(0, 60), (1, 67)]), (60, 2, 3, 0, 61, []), (61, 44, 178, 0, 64, [(3, 3)]), (64, 1, 1, 0, 65, []), (65, 47, 0, 0, 66, []), (66, 66, 0, 0, 67, []), (67, 2, 3, 0, 68, []), (68, 44, 176, 0, 71, [(3, 2)]), (71, 1, 1, 0, 72, []), (72, 47, 0, 0, 73, []), (73, 8, 90, 1000000, 75, []), (75, 11, 0, 0, 76, []), (76, 66, 0, 0, 77, []), (77, 8, 125, -1000000002, 79, []), (79, 66, 0, 0, 80, [])]
theorem E49_ok : ∀ e ∈ E49, eChk 49 e = true := by decide +kernel
/-- RepeaterWires.best(I)I -/
def E50 : List aE := [(0, 1, 1, 0, 1, []), (1, 33, 7, 0, 4, []), (4, 8, 125, -1000000002, 6, []), (6, 66, 0, 0, 7, []), (7, 2, 0, 0, 8, []), (8, 44, 29, 0, 11, [(7, 3)]), (11, 2, 0, 0, 12, []), (12, 44, 10, 0, 15, [(7, 0)]), (15, 60, 97, 6, 18, [(1, 1)]), (18, 44, 100, 0, 21, [(1, 1)]), (21, 4, 2, 0, 22, []), (22, 5, 0, -1, 23, []), (23, 3, 3, 0, 24, []), (24, 5, 0, 0, 25, []), (25, 3, 4, 0, 27, []), (27, 1, 4, 0, 29, []), (29, 2, 2, 0, 30, []), (30, 44, 104, 0, 33, [(3, 0)]), (33, 39, 64, 0, 36, []), (36, 2, 2, 0, 37, []), (37, 44, 178, 0, 40, [(3, 3)]), (40, 1, 4, 0, 42, []), (42, 47, 0, 0, 43, []), (43, 1, 1, 0, 44, []), (44, 40, 64, 0, 47, []), (47, 2, 2, 0, 48, []), (48, 44, 176, 0, 51, [(3, 2)]), (51, 1, 4, 0, 53, []), (53, 47, 0, 0, 54, []), (54, 8, 90, 1000000, 56, []), (56, 11, 0, 0, 57, []), (57, 3, 3, 0, 58, []), (58, 28, 4, 1, 61, []), (61, 29, 27, 0, 64, []), (64, 1, 3, 0, 65, []), (65, 66, 0, 0, 66, [])]
theorem E50_ok : ∀ e ∈ E50, eChk 50 e = true := by decide +kernel
/-- RepeaterWires.least(I)I -/
def E51 : List aE := [(0, 2, 0, 0, 1, []), (1, 44, 29, 0, 4, [(7, 3)]), (4, 2, 0, 0, 5, []), (5, 44, 10, 0, 8, [(7, 0)]), (8, 60, 97, 6, 11, [(1, 1)]), (11, 44, 100, 0, 14, [(1, 1)]), (14, 4, 2, 0, 15, []), (15, 5, 0, 0, 16, []), (16, 3, 3, 0, 17, []), (17, 1, 3, 0, 18, []), (18, 2, 2, 0, 19, []), (19, 44, 104, 0, 22, [(3, 0)]), (22, 39, 48, 0, 25, []), (25, 2, 2, 0, 26, []), (26, 44, 176, 0, 29, [(3, 2)]), (29, 1, 3, 0, 30, []), (30, 47, 0, 0, 31, []), (31, 1, 1, 0, 32, []), (32, 38, 42, 0, 35, []), (35, 2, 2, 0, 36, []), (36, 44, 178, 0, 39, [(3, 3)]), (39, 1, 3, 0, 40, []), (40, 47, 0, 0, 41, []), (41, 66, 0, 0, 42, []), (42, 28, 3, 1, 45, []), (45, 29, 17, 0, 48, []), (48, 5, 0, -1, 49, []), (49, 66, 0, 0, 50, [])]
theorem E51_ok : ∀ e ∈ E51, eChk 51 e = true := by decide +kernel
/-- RepeaterWires.would(II)I -/
def E52 : List aE := [(0, 2, 0, 0, 1, []), (1, 44, 10, 0, 4, [(7, 0)]), (4, 1, 1, 0, 5, []), (5, 60, 126, 24, 8, [(4, 1)]), (8, 30, 22, 0, 11, []), (11, 2, 0, 0, 12, []), (12, 44, 10, 0, 15, [(7, 0)]), (15, 1, 2, 0, 16, []), (16, 60, 181, 26, 19, [(4, 1)]), (19, 31, 25, 0, 22, []), (22, 8, 130, -1000000001, 24, []), (24, 66, 0, 0, 25, []), (25, 1, 1, 0, 26, []), (26, 31, 32, 0, 29, []), (29, 8, 184, -1000000003, 31, []), (31, 66, 0, 0, 32, []), (32, 2, 0, 0, 33, []), (33, 44, 16, 0, 36, [(7, 1)]), (36, 2, 0, 0, 37, []), (37, 44, 10, 0, 40, [(7, 0)]), (40, 60, 185, 23, 43, [(4, 1)]), (43, 2, 0, 0, 44, []), (44, 44, 16, 0, 47, [(7, 1)]), (47, 44, 145, 0, 50, [(4, 10)]), (50, 1, 1, 0, 51, []), (51, 1, 2, 0, 52, []), (52, 48, 0, 0, 53, []), (53, 2, 0, 0, 54, []), (54, 44, 22, 0, 57, [(7, 2)]), (57, 2, 0, 0, 58, []), (58, 44, 16, 0, 61, [(7, 1)]), (61, 60, 83, 39, 64, [(6, 1)]), (64, 44, 87, 0, 67, [(6, 4)]), (67, 8, 90, 1000000, 69, []), (69, 11, 0, 0, 70, []), (70, 66, 0, 0, 71, [])]
theorem E52_ok : ∀ e ∈ E52, eChk 52 e = true := by decide +kernel
/-- RepeaterWires.node(III)I -/
def E53 : List aE := [(0, 2, 0, 0, 1, []), (1, 44, 10, 0, 4, [(7, 0)]), (4, 1, 1, 0, 5, []), (5, 60, 126, 24, 8, [(4, 1)]), (8, 31, 14, 0, 11, []), (11, 8, 130, -1000000001, 13, []), (13, 66, 0, 0, 14, []), (14, 1, 2, 0, 15, []), (15, 5, 0, 0, 16, []), (16, 6, 0, 9, 18, []), (18, 63, 131, 69, 21, [(7, 3)]), (21, 30, 34, 0, 24, []), (24, 1, 3, 0, 25, []), (25, 5, 0, 0, 26, []), (26, 6, 0, 9, 28, []), (28, 63, 131, 69, 31, [(7, 3)]), (31, 31, 37, 0, 34, []), (34, 8, 125, -1000000002, 36, []), (36, 66, 0, 0, 37, []), (37, 2, 0, 0, 38, []), (38, 44, 10, 0, 41, [(7, 0)]), (41, 60, 189, 27, 44, [(4, 0)]), (44, 31, 50, 0, 47, []), (47, 8, 193, -1000000004, 49, []), (49, 66, 0, 0, 50, []), (50, 2, 0, 0, 51, []), (51, 60, 194, 70, 54, [(7, 0)]), (54, 2, 0, 0, 55, []), (55, 44, 10, 0, 58, [(7, 0)]), (58, 1, 1, 0, 59, []), (59, 1, 2, 0, 60, []), (60, 1, 3, 0, 61, []), (61, 60, 197, 32, 64, [(4, 3)]), (64, 66, 0, 0, 65, [])]
theorem E53_ok : ∀ e ∈ E53, eChk 53 e = true := by decide +kernel
/-- RepeaterWires.end(IIII)I -/
def E54 : List aE := [(0, 2, 0, 0, 1, []), (1, 44, 10, 0, 4, [(7, 0)]), (4, 1, 1, 0, 5, []), (5, 60, 126, 24, 8, [(4, 1)]), (8, 31, 14, 0, 11, []), (11, 8, 130, -1000000001, 13, []), (13, 66, 0, 0, 14, []), (14, 1, 2, 0, 15, []), (15, 5, 0, 1, 16, []), (16, 6, 0, 9, 18, []), (18, 63, 131, 69, 21, [(7, 3)]), (21, 30, 45, 0, 24, []), (24, 1, 3, 0, 25, []), (25, 5, 0, 0, 26, []), (26, 7, 0, 9999, 29, []), (29, 63, 131, 69, 32, [(7, 3)]), (32, 30, 45, 0, 35, []), (35, 1, 4, 0, 37, []), (37, 5, 0, 0, 38, []), (38, 5, 0, 1, 39, []), (39, 63, 131, 69, 42, [(7, 3)]), (42, 31, 48, 0, 45, []), (45, 8, 125, -1000000002, 47, []), (47, 66, 0, 0, 48, []), (48, 1, 1, 0, 49, []), (49, 31, 55, 0, 52, []), (52, 8, 184, -1000000003, 54, []), (54, 66, 0, 0, 55, []), (55, 2, 0, 0, 56, []), (56, 60, 194, 70, 59, [(7, 0)]), (59, 2, 0, 0, 60, []), (60, 44, 10, 0, 63, [(7, 0)]), (63, 1, 1, 0, 64, []), (64, 1, 2, 0, 65, []), (65, 1, 3, 0, 66, []), (66, 1, 4, 0, 68, []), (68, 60, 201, 33, 71, [(4, 4)]), (71, 2, 0, 0, 72, []), (72, 44, 10, 0, 75, [(7, 0)]), (75, 1, 1, 0, 76, []), (76, 60, 139, 29, 79, [(4, 1)]), (79, 30, 86, 0, 82, []), (82, 5, 0, 1, 83, []), (83, 29, 87, 0, 86, []), (86, 5, 0, 0, 87, []), (87, 66, 0, 0, 88, [])]
theorem E54_ok : ∀ e ∈ E54, eChk 54 e = true := by decide +kernel
/-- RepeaterWires.wire(IIII)I -/
def E55 : List aE := [(0, 2, 0, 0, 1, []), (1, 44, 10, 0, 4, [(7, 0)]), (4, 1, 1, 0, 5, []), (5, 60, 126, 24, 8, [(4, 1)]), (8, 31, 14, 0, 11, []), (11, 8, 130, -1000000001, 13, []), (13, 66, 0, 0, 14, []), (14, 1, 2, 0, 15, []), (15, 5, 0, 0, 16, []), (16, 6, 0, 9, 18, []), (18, 63, 131, 69, 21, [(7, 3)]), (21, 30, 44, 0, 24, []), (24, 1, 3, 0, 25, []), (25, 5, 0, 0, 26, []), (26, 6, 0, 9, 28, []), (28, 63, 131, 69, 31, [(7, 3)]), (31, 30, 44, 0, 34, []), (34, 1, 4, 0, 36, []), (36, 5, 0, 1, 37, []), (37, 5, 0, 2, 38, []), (38, 63, 131, 69, 41, [(7, 3)]), (41, 31, 47, 0, 44, []), (44, 8, 125, -1000000002, 46, []), (46, 66, 0, 0, 47, []), (47, 1, 1, 0, 48, []), (48, 31, 54, 0, 51, []), (51, 8, 184, -1000000003, 53, []), (53, 66, 0, 0, 54, []), (54, 2, 0, 0, 55, []), (55, 60, 194, 70, 58, [(7, 0)]), (58, 2, 0, 0, 59, []), (59, 44, 10, 0, 62, [(7, 0)]), (62, 44, 205, 0, 65, [(4, 4)]), (65, 1, 1, 0, 66, []), (66, 1, 2, 0, 67, []), (67, 48, 0, 0, 68, []), (68, 2, 0, 0, 69, []), (69, 44, 10, 0, 72, [(7, 0)]), (72, 44, 208, 0, 75, [(4, 5)]), (75, 1, 1, 0, 76, []), (76, 1, 3, 0, 77, []), (77, 48, 0, 0, 78, []), (78, 2, 0, 0, 79, []), (79, 44, 10, 0, 82, [(7, 0)]), (82, 44, 211, 0, 85, [(4, 6)]), (85, 1, 1, 0, 86, []), (86, 1, 4, 0, 88, []), (88, 48, 0, 0, 89, []), (89, 2, 0, 0, 90, []), (90, 44, 22, 0, 93, [(7, 2)]), (93, 2, 0, 0, 94, []), (94, 44, 10, 0, 97, [(7, 0)]), (97, 60, 83, 39, 100, [(6, 1)]), (100, 44, 114, 0, 103, [(6, 2)]), (103, 1, 1, 0, 104, []), (104, 47, 0, 0, 105, []), (105, 66, 0, 0, 106, [])]
theorem E55_ok : ∀ e ∈ E55, eChk 55 e = true := by decide +kernel
/-- RepeaterWires.pull(I)I -/
def E56 : List aE := [(0, 1, 1, 0, 1, []), (1, 5, 0, 0, 2, []), (2, 6, 0, 9, 4, []), (4, 63, 131, 69, 7, [(7, 3)]), (7, 31, 13, 0, 10, []), (10, 8, 125, -1000000002, 12, []), (12, 66, 0, 0, 13, []), (13, 2, 0, 0, 14, []), (14, 60, 194, 70, 17, [(7, 0)]), (17, 2, 0, 0, 18, []), (18, 44, 10, 0, 21, [(7, 0)]), (21, 44, 74, 0, 24, [(4, 1)]), (24, 3, 2, 0, 25, []), (25, 2, 0, 0, 26, []), (26, 44, 10, 0, 29, [(7, 0)]), (29, 1, 1, 0, 30, []), (30, 45, 74, 0, 33, [(4, 1)]), (33, 1, 2, 0, 34, []), (34, 66, 0, 0, 35, [])]
theorem E56_ok : ∀ e ∈ E56, eChk 56 e = true := by decide +kernel
/-- RepeaterWires.kind(IIIIII)I -/
def E57 : List aE := [(0, 1, 1, 0, 1, []), (1, 5, 0, 1, 2, []), (2, 5, 0, 3, 3, []), (3, 63, 131, 69, 6, [(7, 3)]), (6, 31, 12, 0, 9, []), (9, 8, 130, -1000000001, 11, []), (11, 66, 0, 0, 12, []), (12, 1, 2, 0, 13, []), (13, 5, 0, 1, 14, []), (14, 6, 0, 9, 16, []), (16, 63, 131, 69, 19, [(7, 3)]), (19, 30, 64, 0, 22, []), (22, 1, 3, 0, 23, []), (23, 5, 0, 0, 24, []), (24, 6, 0, 9, 26, []), (26, 63, 131, 69, 29, [(7, 3)]), (29, 30, 64, 0, 32, []), (32, 1, 4, 0, 34, []), (34, 5, 0, 0, 35, []), (35, 6, 0, 99, 37, []), (37, 63, 131, 69, 40, [(7, 3)]), (40, 30, 64, 0, 43, []), (43, 1, 5, 0, 45, []), (45, 5, 0, 0, 46, []), (46, 6, 0, 99, 48, []), (48, 63, 131, 69, 51, [(7, 3)]), (51, 30, 64, 0, 54, []), (54, 1, 6, 0, 56, []), (56, 5, 0, 0, 57, []), (57, 5, 0, 1, 58, []), (58, 63, 131, 69, 61, [(7, 3)]), (61, 31, 67, 0, 64, []), (64, 8, 125, -1000000002, 66, []), (66, 66, 0, 0, 67, []), (67, 2, 0, 0, 68, []), (68, 60, 194, 70, 71, [(7, 0)]), (71, 2, 0, 0, 72, []), (72, 44, 10, 0, 75, [(7, 0)]), (75, 1, 1, 0, 76, []), (76, 60, 151, 25, 79, [(4, 1)]), (79, 30, 86, 0, 82, []), (82, 5, 0, 1, 83, []), (83, 29, 87, 0, 86, []), (86, 5, 0, 0, 87, []), (87, 3, 7, 0, 89, []), (89, 2, 0, 0, 90, []), (90, 44, 10, 0, 93, [(7, 0)]), (93, 57, 0, 0, 94, []), (94, 44, 77, 0, 97, [(4, 2)]), (97, 5, 0, 1, 98, []), (98, 1, 1, 0, 99, []), (99, 19, 0, 0, 100, []), (100, 17, 0, 0, 101, []), (101, 45, 77, 0, 104, [(4, 2)]), (104, 2, 0, 0, 105, []), (105, 44, 10, 0, 108, [(7, 0)]), (108, 44, 154, 0, 111, [(4, 11)]), (111, 1, 1, 0, 112, []), (112, 1, 2, 0, 113, []), (113, 48, 0, 0, 114, []), (114, 2, 0, 0, 115, []), (115, 44, 10, 0, 118, [(7, 0)]), (118, 44, 157, 0, 121, [(4, 12)]), (121, 1, 1, 0, 122, []), (122, 1, 3, 0, 123, []), (123, 48, 0, 0, 124, []), (124, 2, 0, 0, 125, []), (125, 44, 10, 0, 128, [(7, 0)]), (128, 44, 160, 0, 131, [(4, 13)]), (131, 1, 1, 0, 132, []), (132, 1, 4, 0, 134, []), (134, 48, 0, 0, 135, []), (135, 2, 0, 0, 136, []), (136, 44, 10, 0, 139, [(7, 0)]), (139, 44, 163, 0, 142, [(4, 14)]), (142, 1, 1, 0, 143, []), (143, 1, 5, 0, 145, []), (145, 48, 0, 0, 146, []), (146, 2, 0, 0, 147, []), (147, 44, 10, 0, 150, [(7, 0)]), (150, 44, 166, 0, 153, [(4, 15)]), (153, 1, 1, 0, 154, []), (154, 1, 6, 0, 156, []), (156, 48, 0, 0, 157, []), (157, 1, 7, 0, 159, []), (159, 66, 0, 0, 160, [])]
theorem E57_ok : ∀ e ∈ E57, eChk 57 e = true := by decide +kernel
/-- RepeaterWires.drop(I)I -/
def E58 : List aE := [(0, 2, 0, 0, 1, []), (1, 44, 10, 0, 4, [(7, 0)]), (4, 1, 1, 0, 5, []), (5, 60, 151, 25, 8, [(4, 1)]), (8, 31, 14, 0, 11, []), (11, 8, 130, -1000000001, 13, []), (13, 66, 0, 0, 14, []), (14, 2, 0, 0, 15, []), (15, 44, 10, 0, 18, [(7, 0)]), (18, 1, 1, 0, 19, []), (19, 60, 214, 30, 22, [(4, 1)]), (22, 30, 28, 0, 25, []), (25, 8, 184, -1000000003, 27, []), (27, 66, 0, 0, 28, []), (28, 2, 0, 0, 29, []), (29, 60, 194, 70, 32, [(7, 0)]), (32, 2, 0, 0, 33, []), (33, 44, 10, 0, 36, [(7, 0)]), (36, 57, 0, 0, 37, []), (37, 44, 77, 0, 40, [(4, 2)]), (40, 5, 0, 1, 41, []), (41, 1, 1, 0, 42, []), (42, 19, 0, 0, 43, []), (43, 5, 0, -1, 44, []), (44, 18, 0, 0, 45, []), (45, 16, 0, 0, 46, []), (46, 45, 77, 0, 49, [(4, 2)]), (49, 2, 0, 0, 50, []), (50, 44, 10, 0, 53, [(7, 0)]), (53, 44, 77, 0, 56, [(4, 2)]), (56, 63, 217, 136, 59, [(12, 1)]), (59, 66, 0, 0, 60, [])]
theorem E58_ok : ∀ e ∈ E58, eChk 58 e = true := by decide +kernel
/-- RepeaterWires.place(II)I -/
def E59 : List aE := [(0, 2, 0, 0, 1, []), (1, 44, 10, 0, 4, [(7, 0)]), (4, 1, 1, 0, 5, []), (5, 60, 126, 24, 8, [(4, 1)]), (8, 30, 22, 0, 11, []), (11, 2, 0, 0, 12, []), (12, 44, 10, 0, 15, [(7, 0)]), (15, 1, 2, 0, 16, []), (16, 60, 181, 26, 19, [(4, 1)]), (19, 31, 25, 0, 22, []), (22, 8, 130, -1000000001, 24, []), (24, 66, 0, 0, 25, []), (25, 1, 1, 0, 26, []), (26, 31, 32, 0, 29, []), (29, 8, 184, -1000000003, 31, []), (31, 66, 0, 0, 32, []), (32, 2, 0, 0, 33, []), (33, 60, 194, 70, 36, [(7, 0)]), (36, 2, 0, 0, 37, []), (37, 44, 10, 0, 40, [(7, 0)]), (40, 44, 145, 0, 43, [(4, 10)]), (43, 1, 1, 0, 44, []), (44, 47, 0, 0, 45, []), (45, 3, 3, 0, 46, []), (46, 2, 0, 0, 47, []), (47, 44, 10, 0, 50, [(7, 0)]), (50, 44, 145, 0, 53, [(4, 10)]), (53, 1, 1, 0, 54, []), (54, 1, 2, 0, 55, []), (55, 48, 0, 0, 56, []), (56, 1, 3, 0, 57, []), (57, 66, 0, 0, 58, [])]
theorem E59_ok : ∀ e ∈ E59, eChk 59 e = true := by decide +kernel
/-- RepeaterWires.take()I -/
def E60 : List aE := [(0, 2, 0, 0, 1, []), (1, 44, 10, 0, 4, [(7, 0)]), (4, 44, 66, 0, 7, [(4, 0)]), (7, 5, 0, 1, 8, []), (8, 40, 14, 0, 11, []), (11, 8, 184, -1000000003, 13, []), (13, 66, 0, 0, 14, []), (14, 2, 0, 0, 15, []), (15, 60, 194, 70, 18, [(7, 0)]), (18, 2, 0, 0, 19, []), (19, 44, 10, 0, 22, [(7, 0)]), (22, 57, 0, 0, 23, []), (23, 44, 66, 0, 26, [(4, 0)]), (26, 5, 0, 1, 27, []), (27, 12, 0, 0, 28, []), (28, 45, 66, 0, 31, [(4, 0)]), (31, 2, 0, 0, 32, []), (32, 44, 10, 0, 35, [(7, 0)]), (35, 44, 66, 0, 38, [(4, 0)]), (38, 66, 0, 0, 39, [])]
theorem E60_ok : ∀ e ∈ E60, eChk 60 e = true := by decide +kernel
/-- RepeaterWires.change()I -/
def E61 : List aE := [(0, 2, 0, 0, 1, []), (1, 60, 110, 76, 4, [(7, 0)]), (4, 3, 1, 0, 5, []), (5, 1, 1, 0, 6, []), (6, 5, 0, -1, 7, []), (7, 37, 13, 0, 10, []), (10, 8, 184, -1000000003, 12, []), (12, 66, 0, 0, 13, []), (13, 2, 0, 0, 14, []), (14, 60, 194, 70, 17, [(7, 0)]), (17, 2, 0, 0, 18, []), (18, 44, 10, 0, 21, [(7, 0)]), (21, 44, 145, 0, 24, [(4, 10)]), (24, 1, 1, 0, 25, []), (25, 6, 0, 10, 27, []), (27, 14, 0, 0, 28, []), (28, 1, 1, 0, 29, []), (29, 6, 0, 10, 31, []), (31, 15, 0, 0, 32, []), (32, 48, 0, 0, 33, []), (33, 2, 0, 0, 34, []), (34, 44, 22, 0, 37, [(7, 2)]), (37, 2, 0, 0, 38, []), (38, 44, 10, 0, 41, [(7, 0)]), (41, 60, 83, 39, 44, [(6, 1)]), (44, 44, 87, 0, 47, [(6, 4)]), (47, 8, 90, 1000000, 49, []), (49, 11, 0, 0, 50, []), (50, 66, 0, 0, 51, [])]
theorem E61_ok : ∀ e ∈ E61, eChk 61 e = true := by decide +kernel
/-- RepeaterWires.drift(I)I -/
def E62 : List aE := [(0, 1, 1, 0, 1, []), (1, 5, 0, 1, 2, []), (2, 6, 0, 6, 4, []), (4, 63, 131, 69, 7, [(7, 3)]), (7, 31, 13, 0, 10, []), (10, 8, 125, -1000000002, 12, []), (12, 66, 0, 0, 13, []), (13, 5, 0, 0, 14, []), (14, 3, 2, 0, 15, []), (15, 1, 2, 0, 16, []), (16, 1, 1, 0, 17, []), (17, 39, 44, 0, 20, []), (20, 2, 0, 0, 21, []), (21, 44, 10, 0, 24, [(7, 0)]), (24, 60, 189, 27, 27, [(4, 0)]), (27, 30, 44, 0, 30, []), (30, 2, 0, 0, 31, []), (31, 60, 194, 70, 34, [(7, 0)]), (34, 2, 0, 0, 35, []), (35, 60, 223, 71, 38, [(7, 0)]), (38, 28, 2, 1, 41, []), (41, 29, 15, 0, 44, []), (44, 2, 0, 0, 45, []), (45, 44, 10, 0, 48, [(7, 0)]), (48, 44, 66, 0, 51, [(4, 0)]), (51, 66, 0, 0, 52, [])]
theorem E62_ok : ∀ e ∈ E62, eChk 62 e = true := by decide +kernel
/-- RepeaterWires.undo(I)I -/
def E63 : List aE := [(0, 1, 1, 0, 1, []), (1, 5, 0, 1, 2, []), (2, 6, 0, 16, 4, []), (4, 63, 131, 69, 7, [(7, 3)]), (7, 31, 13, 0, 10, []), (10, 8, 125, -1000000002, 12, []), (12, 66, 0, 0, 13, []), (13, 1, 1, 0, 14, []), (14, 2, 0, 0, 15, []), (15, 44, 36, 0, 18, [(7, 4)]), (18, 44, 121, 0, 21, [(5, 2)]), (21, 41, 27, 0, 24, []), (24, 8, 184, -1000000003, 26, []), (26, 66, 0, 0, 27, []), (27, 2, 0, 0, 28, []), (28, 44, 36, 0, 31, [(7, 4)]), (31, 1, 1, 0, 32, []), (32, 2, 0, 0, 33, []), (33, 44, 10, 0, 36, [(7, 0)]), (36, 60, 226, 37, 39, [(5, 2)]), (39, 2, 0, 0, 40, []), (40, 44, 29, 0, 43, [(7, 3)]), (43, 60, 230, 4, 46, [(1, 0)]), (46, 2, 0, 0, 47, []), (47, 44, 36, 0, 50, [(7, 4)]), (50, 44, 121, 0, 53, [(5, 2)]), (53, 66, 0, 0, 54, [])]
theorem E63_ok : ∀ e ∈ E63, eChk 63 e = true := by decide +kernel
/-- RepeaterWires.write(II)I -/
def E64 : List aE := [(0, 2, 0, 0, 1, []), (1, 44, 10, 0, 4, [(7, 0)]), (4, 1, 1, 0, 5, []), (5, 60, 126, 24, 8, [(4, 1)]), (8, 31, 14, 0, 11, []), (11, 8, 130, -1000000001, 13, []), (13, 66, 0, 0, 14, []), (14, 2, 0, 0, 15, []), (15, 44, 43, 0, 18, [(7, 5)]), (18, 44, 113, 0, 21, [(0, 2)]), (21, 6, 0, 20, 23, []), (23, 38, 29, 0, 26, []), (26, 8, 193, -1000000004, 28, []), (28, 66, 0, 0, 29, []), (29, 2, 0, 0, 30, []), (30, 44, 43, 0, 33, [(7, 5)]), (33, 1, 1, 0, 34, []), (34, 1, 2, 0, 35, []), (35, 60, 233, 1, 38, [(0, 2)]), (38, 2, 0, 0, 39, []), (39, 44, 43, 0, 42, [(7, 5)]), (42, 44, 113, 0, 45, [(0, 2)]), (45, 66, 0, 0, 46, [])]
theorem E64_ok : ∀ e ∈ E64, eChk 64 e = true := by decide +kernel
/-- RepeaterWires.tear()I -/
def E65 : List aE := [(0, 2, 0, 0, 1, []), (1, 44, 43, 0, 4, [(7, 5)]), (4, 44, 113, 0, 7, [(0, 2)]), (7, 3, 1, 0, 8, []), (8, 2, 0, 0, 9, []), (9, 44, 43, 0, 12, [(7, 5)]), (12, 5, 0, 0, 13, []), (13, 45, 113, 0, 16, [(0, 2)]), (16, 1, 1, 0, 17, []), (17, 66, 0, 0, 18, [])]
theorem E65_ok : ∀ e ∈ E65, eChk 65 e = true := by decide +kernel
/-- RepeaterWires.seed(I)I -/
def E66 : List aE := [(0, 1, 1, 0, 1, []), (1, 33, 7, 0, 4, []), (4, 8, 125, -1000000002, 6, []), (6, 66, 0, 0, 7, []), (7, 2, 0, 0, 8, []), (8, 44, 50, 0, 11, [(7, 6)]), (11, 44, 122, 0, 14, [(2, 0)]), (14, 3, 2, 0, 15, []), (15, 2, 0, 0, 16, []), (16, 44, 50, 0, 19, [(7, 6)]), (19, 1, 1, 0, 20, []), (20, 45, 122, 0, 23, [(2, 0)]), (23, 1, 2, 0, 24, []), (24, 66, 0, 0, 25, [])]
theorem E66_ok : ∀ e ∈ E66, eChk 66 e = true := by decide +kernel
/-- RepeaterWires.keep(I)I -/
def E67 : List aE := [(0, 1, 1, 0, 1, []), (1, 5, 0, 0, 2, []), (2, 5, 0, 1, 3, []), (3, 63, 131, 69, 6, [(7, 3)]), (6, 31, 12, 0, 9, []), (9, 8, 130, -1000000001, 11, []), (11, 66, 0, 0, 12, []), (12, 2, 0, 0, 13, []), (13, 44, 54, 0, 16, [(7, 7)]), (16, 1, 1, 0, 17, []), (17, 49, 0, 0, 18, []), (18, 2, 0, 0, 19, []), (19, 44, 10, 0, 22, [(7, 0)]), (22, 60, 185, 23, 25, [(4, 1)]), (25, 2, 0, 0, 26, []), (26, 44, 58, 0, 29, [(7, 8)]), (29, 1, 1, 0, 30, []), (30, 2, 0, 0, 31, []), (31, 44, 50, 0, 34, [(7, 6)]), (34, 44, 122, 0, 37, [(2, 0)]), (37, 48, 0, 0, 38, []), (38, 2, 0, 0, 39, []), (39, 44, 62, 0, 42, [(7, 9)]), (42, 1, 1, 0, 43, []), (43, 5, 0, 1, 44, []), (44, 52, 0, 0, 45, []), (45, 2, 0, 0, 46, []), (46, 44, 36, 0, 49, [(7, 4)]), (49, 5, 0, 0, 50, []), (50, 45, 121, 0, 53, [(5, 2)]), (53, 5, 0, 1, 54, []), (54, 66, 0, 0, 55, [])]
theorem E67_ok : ∀ e ∈ E67, eChk 67 e = true := by decide +kernel
/-- RepeaterWires.goBack(I)I -/
def E68 : List aE := [(0, 1, 1, 0, 1, []), (1, 5, 0, 0, 2, []), (2, 5, 0, 1, 3, []), (3, 63, 131, 69, 6, [(7, 3)]), (6, 31, 12, 0, 9, []), (9, 8, 130, -1000000001, 11, []), (11, 66, 0, 0, 12, []), (12, 2, 0, 0, 13, []), (13, 44, 62, 0, 16, [(7, 9)]), (16, 1, 1, 0, 17, []), (17, 51, 0, 0, 18, []), (18, 31, 24, 0, 21, []), (21, 8, 184, -1000000003, 23, []), (23, 66, 0, 0, 24, []), (24, 2, 0, 0, 25, []), (25, 44, 10, 0, 28, [(7, 0)]), (28, 2, 0, 0, 29, []), (29, 44, 54, 0, 32, [(7, 7)]), (32, 1, 1, 0, 33, []), (33, 49, 0, 0, 34, []), (34, 60, 185, 23, 37, [(4, 1)]), (37, 2, 0, 0, 38, []), (38, 44, 50, 0, 41, [(7, 6)]), (41, 2, 0, 0, 42, []), (42, 44, 58, 0, 45, [(7, 8)]), (45, 1, 1, 0, 46, []), (46, 47, 0, 0, 47, []), (47, 45, 122, 0, 50, [(2, 0)]), (50, 2, 0, 0, 51, []), (51, 44, 36, 0, 54, [(7, 4)]), (54, 5, 0, 0, 55, []), (55, 45, 121, 0, 58, [(5, 2)]), (58, 2, 0, 0, 59, []), (59, 44, 29, 0, 62, [(7, 3)]), (62, 60, 230, 4, 65, [(1, 0)]), (65, 5, 0, 1, 66, []), (66, 66, 0, 0, 67, [])]
theorem E68_ok : ∀ e ∈ E68, eChk 68 e = true := by decide +kernel
/-- RepeaterWires.within(III)Z -/
def E69 : List aE := [(0, 1, 0, 0, 1, []), (1, 1, 1, 0, 2, []), (2, 38, 14, 0, 5, []), (5, 1, 0, 0, 6, []), (6, 1, 2, 0, 7, []), (7, 40, 14, 0, 10, []), (10, 5, 0, 1, 11, []), (11, 29, 15, 0, 14, []), (14, 5, 0, 0, 15, []), (15, 66, 0, 0, 16, [])]
theorem E69_ok : ∀ e ∈ E69, eChk 69 e = true := by decide +kernel
/-- RepeaterWires.deedComes()V -/
def E70 : List aE := [(0, 2, 0, 0, 1, []), (1, 44, 36, 0, 4, [(7, 4)]), (4, 2, 0, 0, 5, []), (5, 44, 10, 0, 8, [(7, 0)]), (8, 60, 237, 36, 11, [(5, 1)]), (11, 2, 0, 0, 12, []), (12, 44, 29, 0, 15, [(7, 3)]), (15, 60, 230, 4, 18, [(1, 0)]), (18, 68, 0, 0, 19, [])]
theorem E70_ok : ∀ e ∈ E70, eChk 70 e = true := by decide +kernel
/-- RepeaterWires.growByDraws()V -/
def E71 : List aE := [(0, 2, 0, 0, 1, []), (1, 44, 50, 0, 4, [(7, 6)]), (4, 2, 0, 0, 5, []), (5, 44, 10, 0, 8, [(7, 0)]), (8, 44, 66, 0, 11, [(4, 0)]), (11, 60, 240, 13, 14, [(2, 1)]), (14, 3, 1, 0, 15, []), (15, 2, 0, 0, 16, []), (16, 44, 50, 0, 19, [(7, 6)]), (19, 6, 0, 10, 21, []), (21, 60, 240, 13, 24, [(2, 1)]), (24, 3, 2, 0, 25, []), (25, 2, 0, 0, 26, []), (26, 44, 50, 0, 29, [(7, 6)]), (29, 6, 0, 10, 31, []), (31, 60, 240, 13, 34, [(2, 1)]), (34, 3, 3, 0, 35, []), (35, 2, 0, 0, 36, []), (36, 44, 50, 0, 39, [(7, 6)]), (39, 6, 0, 9, 41, []), (41, 60, 240, 13, 44, [(2, 1)]), (44, 5, 0, 1, 45, []), (45, 11, 0, 0, 46, []), (46, 3, 4, 0, 48, []), (48, 2, 0, 0, 49, []), (49, 44, 50, 0, 52, [(7, 6)]), (52, 7, 0, 300, 55, []), (55, 60, 240, 13, 58, [(2, 1)]), (58, 3, 5, 0, 60, []), (60, 2, 0, 0, 61, []), (61, 44, 50, 0, 64, [(7, 6)]), (64, 5, 0, 2, 65, []), (65, 60, 240, 13, 68, [(2, 1)]), (68, 3, 6, 0, 70, []), (70, 2, 0, 0, 71, []), (71, 44, 10, 0, 74, [(7, 0)]), (74, 1, 1, 0, 75, []), (75, 1, 2, 0, 76, []), (76, 1, 3, 0, 77, []), (77, 60, 197, 32, 80, [(4, 3)]), (80, 3, 7, 0, 82, []), (82, 2, 0, 0, 83, []), (83, 44, 10, 0, 86, [(7, 0)]), (86, 1, 7, 0, 88, []), (88, 1, 4, 0, 90, []), (90, 1, 5, 0, 92, []), (92, 1, 6, 0, 94, []), (94, 60, 201, 33, 97, [(4, 4)]), (97, 68, 0, 0, 98, [])]
theorem E71_ok : ∀ e ∈ E71, eChk 71 e = true := by decide +kernel
/-- RepeaterWires.ofWire(II)I -/
def E72 : List aE := [(0, 1, 2, 0, 1, []), (1, 42, 58, 0, 28, [(0, 28), (0, 38), (0, 48)]), (28, 2, 0, 0, 29, []), (29, 44, 10, 0, 32, [(7, 0)]), (32, 44, 243, 0, 35, [(4, 3)]), (35, 1, 1, 0, 36, []), (36, 47, 0, 0, 37, []), (37, 66, 0, 0, 38, []), (38, 2, 0, 0, 39, []), (39, 44, 10, 0, 42, [(7, 0)]), (42, 44, 205, 0, 45, [(4, 4)]), (45, 1, 1, 0, 46, []), (46, 47, 0, 0, 47, []), (47, 66, 0, 0, 48, []), (48, 2, 0, 0, 49, []), (49, 44, 10, 0, 52, [(7, 0)]), (52, 44, 208, 0, 55, [(4, 5)]), (55, 1, 1, 0, 56, []), (56, 47, 0, 0, 57, []), (57, 66, 0, 0, 58, []), (58, 2, 0, 0, 59, []), (59, 44, 10, 0, 62, [(7, 0)]), (62, 44, 211, 0, 65, [(4, 6)]), (65, 1, 1, 0, 66, []), (66, 47, 0, 0, 67, []), (67, 66, 0, 0, 68, [])]
theorem E72_ok : ∀ e ∈ E72, eChk 72 e = true := by decide +kernel
/-- RepeaterWires.ofEnd(II)I -/
def E73 : List aE := [(0, 1, 2, 0, 1, []), (1, 43, 48, 0, 28, [(4, 28), (5, 38)]), (28, 2, 0, 0, 29, []), (29, 44, 10, 0, 32, [(7, 0)]), (32, 44, 246, 0, 35, [(4, 7)]), (35, 1, 1, 0, 36, []), (36, 47, 0, 0, 37, []), (37, 66, 0, 0, 38, []), (38, 2, 0, 0, 39, []), (39, 44, 10, 0, 42, [(7, 0)]), (42, 44, 249, 0, 45, [(4, 8)]), (45, 1, 1, 0, 46, []), (46, 47, 0, 0, 47, []), (47, 66, 0, 0, 48, []), (48, 2, 0, 0, 49, []), (49, 44, 10, 0, 52, [(7, 0)]), (52, 44, 252, 0, 55, [(4, 9)]), (55, 1, 1, 0, 56, []), (56, 47, 0, 0, 57, []), (57, 66, 0, 0, 58, [])]
theorem E73_ok : ∀ e ∈ E73, eChk 73 e = true := by decide +kernel
/-- RepeaterWires.ofTiming(II)I -/
def E74 : List aE := [(0, 2, 0, 0, 1, []), (1, 44, 22, 0, 4, [(7, 2)]), (4, 2, 0, 0, 5, []), (5, 44, 10, 0, 8, [(7, 0)]), (8, 60, 83, 39, 11, [(6, 1)]), (11, 59, 0, 0, 12, []), (12, 1, 2, 0, 13, []), (13, 42, 112, 8, 44, [(0, 44), (0, 54), (0, 64), (0, 74)]), (44, 2, 0, 0, 45, []), (45, 44, 22, 0, 48, [(7, 2)]), (48, 44, 255, 0, 51, [(6, 0)]), (51, 1, 1, 0, 52, []), (52, 47, 0, 0, 53, []), (53, 66, 0, 0, 54, []), (54, 2, 0, 0, 55, []), (55, 44, 22, 0, 58, [(7, 2)]), (58, 44, 258, 0, 61, [(6, 1)]), (61, 1, 1, 0, 62, []), (62, 47, 0, 0, 63, []), (63, 66, 0, 0, 64, []), (64, 2, 0, 0, 65, []), (65, 44, 22, 0, 68, [(7, 2)]), (68, 44, 114, 0, 71, [(6, 2)]), (71, 1, 1, 0, 72, []), (72, 47, 0, 0, 73, []), (73, 66, 0, 0, 74, []), (74, 2, 0, 0, 75, []), (75, 44, 10, 0, 78, [(7, 0)]), (78, 1, 1, 0, 79, []), (79, 60, 139, 29, 82, [(4, 1)]), (82, 30, 110, 0, 85, []), (85, 2, 0, 0, 86, []), (86, 44, 10, 0, 89, [(7, 0)]), (89, 44, 249, 0, 92, [(4, 8)]), (92, 1, 1, 0, 93, []), (93, 47, 0, 0, 94, []), (94, 2, 0, 0, 95, []), (95, 44, 22, 0, 98, [(7, 2)]), (98, 44, 114, 0, 101, [(6, 2)]), (101, 1, 1, 0, 102, []), (102, 47, 0, 0, 103, []), (103, 12, 0, 0, 104, []), (104, 8, 90, 1000000, 106, []), (106, 11, 0, 0, 107, []), (107, 29, 111, 0, 110, []), (110, 5, 0, -1, 111, []), (111, 66, 0, 0, 112, []), (112, 2, 0, 0, 113, []), (113, 44, 22, 0, 116, [(7, 2)]), (116, 44, 259, 0, 119, [(6, 3)]), (119, 1, 1, 0, 120, []), (120, 47, 0, 0, 121, []), (121, 66, 0, 0, 122, [])]
theorem E74_ok : ∀ e ∈ E74, eChk 74 e = true := by decide +kernel
/-- RepeaterWires.widest()I -/
def E75 : List aE := [(0, 2, 0, 0, 1, []), (1, 44, 16, 0, 4, [(7, 1)]), (4, 2, 0, 0, 5, []), (5, 44, 10, 0, 8, [(7, 0)]), (8, 60, 185, 23, 11, [(4, 1)]), (11, 2, 0, 0, 12, []), (12, 44, 22, 0, 15, [(7, 2)]), (15, 2, 0, 0, 16, []), (16, 44, 16, 0, 19, [(7, 1)]), (19, 60, 83, 39, 22, [(6, 1)]), (22, 44, 87, 0, 25, [(6, 4)]), (25, 3, 1, 0, 26, []), (26, 5, 0, 0, 27, []), (27, 3, 2, 0, 28, []), (28, 1, 2, 0, 29, []), (29, 5, 0, 1, 30, []), (30, 2, 0, 0, 31, []), (31, 44, 10, 0, 34, [(7, 0)]), (34, 44, 66, 0, 37, [(4, 0)]), (37, 5, 0, 1, 38, []), (38, 12, 0, 0, 39, []), (39, 19, 0, 0, 40, []), (40, 39, 105, 0, 43, []), (43, 5, 0, 1, 44, []), (44, 3, 3, 0, 45, []), (45, 1, 3, 0, 46, []), (46, 2, 0, 0, 47, []), (47, 44, 10, 0, 50, [(7, 0)]), (50, 44, 66, 0, 53, [(4, 0)]), (53, 39, 80, 0, 56, []), (56, 2, 0, 0, 57, []), (57, 44, 16, 0, 60, [(7, 1)]), (60, 44, 211, 0, 63, [(4, 6)]), (63, 1, 3, 0, 64, []), (64, 5, 0, 1, 65, []), (65, 1, 2, 0, 66, []), (66, 1, 3, 0, 67, []), (67, 5, 0, 1, 68, []), (68, 12, 0, 0, 69, []), (69, 20, 0, 0, 70, []), (70, 5, 0, 1, 71, []), (71, 16, 0, 0, 72, []), (72, 11, 0, 0, 73, []), (73, 48, 0, 0, 74, []), (74, 28, 3, 1, 77, []), (77, 29, 45, 0, 80, []), (80, 1, 1, 0, 81, []), (81, 2, 0, 0, 82, []), (82, 44, 22, 0, 85, [(7, 2)]), (85, 2, 0, 0, 86, []), (86, 44, 16, 0, 89, [(7, 1)]), (89, 60, 83, 39, 92, [(6, 1)]), (92, 44, 87, 0, 95, [(6, 4)]), (95, 63, 262, 137, 98, [(11, 2)]), (98, 3, 1, 0, 99, []), (99, 28, 2, 1, 102, []), (102, 29, 28, 0, 105, []), (105, 1, 1, 0, 106, []), (106, 66, 0, 0, 107, [])]
theorem E75_ok : ∀ e ∈ E75, eChk 75 e = true := by decide +kernel
/-- RepeaterWires.findChange()I -/
def E76 : List aE := [(0, 2, 0, 0, 1, []), (1, 44, 22, 0, 4, [(7, 2)]), (4, 2, 0, 0, 5, []), (5, 44, 10, 0, 8, [(7, 0)]), (8, 60, 83, 39, 11, [(6, 1)]), (11, 44, 94, 0, 14, [(6, 6)]), (14, 3, 1, 0, 15, []), (15, 5, 0, -1, 16, []), (16, 3, 2, 0, 17, []), (17, 5, 0, 0, 18, []), (18, 3, 3, 0, 19, []), (19, 5, 0, 0, 20, []), (20, 3, 4, 0, 22, []), (22, 2, 0, 0, 23, []), (23, 44, 16, 0, 26, [(7, 1)]), (26, 2, 0, 0, 27, []), (27, 44, 10, 0, 30, [(7, 0)]), (30, 60, 185, 23, 33, [(4, 1)]), (33, 5, 0, 1, 34, []), (34, 3, 5, 0, 36, []), (36, 1, 5, 0, 38, []), (38, 2, 0, 0, 39, []), (39, 44, 10, 0, 42, [(7, 0)]), (42, 44, 66, 0, 45, [(4, 0)]), (45, 39, 233, 0, 48, []), (48, 5, 0, 0, 49, []), (49, 3, 6, 0, 51, []), (51, 1, 6, 0, 53, []), (53, 5, 0, 3, 54, []), (54, 40, 207, 0, 57, []), (57, 1, 6, 0, 59, []), (59, 2, 0, 0, 60, []), (60, 44, 10, 0, 63, [(7, 0)]), (63, 44, 145, 0, 66, [(4, 10)]), (66, 1, 5, 0, 68, []), (68, 47, 0, 0, 69, []), (69, 36, 201, 0, 72, []), (72, 2, 0, 0, 73, []), (73, 44, 10, 0, 76, [(7, 0)]), (76, 1, 6, 0, 78, []), (78, 60, 181, 26, 81, [(4, 1)]), (81, 31, 87, 0, 84, []), (84, 29, 201, 0, 87, []), (87, 2, 0, 0, 88, []), (88, 44, 16, 0, 91, [(7, 1)]), (91, 44, 145, 0, 94, [(4, 10)]), (94, 1, 5, 0, 96, []), (96, 1, 6, 0, 98, []), (98, 48, 0, 0, 99, []), (99, 2, 0, 0, 100, []), (100, 44, 22, 0, 103, [(7, 2)]), (103, 2, 0, 0, 104, []), (104, 44, 16, 0, 107, [(7, 1)]), (107, 60, 83, 39, 110, [(6, 1)]), (110, 59, 0, 0, 111, []), (111, 2, 0, 0, 112, []), (112, 44, 16, 0, 115, [(7, 1)]), (115, 60, 80, 31, 118, [(4, 0)]), (118, 3, 7, 0, 120, []), (120, 1, 2, 0, 121, []), (121, 5, 0, -1, 122, []), (122, 36, 154, 0, 125, []), (125, 2, 0, 0, 126, []), (126, 44, 22, 0, 129, [(7, 2)]), (129, 44, 87, 0, 132, [(6, 4)]), (132, 1, 3, 0, 133, []), (133, 40, 154, 0, 136, []), (136, 2, 0, 0, 137, []), (137, 44, 22, 0, 140, [(7, 2)]), (140, 44, 87, 0, 143, [(6, 4)]), (143, 1, 3, 0, 144, []), (144, 37, 158, 0, 147, []), (147, 1, 7, 0, 149, []), (149, 1, 4, 0, 151, []), (151, 39, 158, 0, 154, []), (154, 5, 0, 1, 155, []), (155, 29, 159, 0, 158, []), (158, 5, 0, 0, 159, []), (159, 3, 8, 0, 161, []), (161, 2, 0, 0, 162, []), (162, 44, 22, 0, 165, [(7, 2)]), (165, 44, 94, 0, 168, [(6, 6)]), (168, 1, 1, 0, 169, []), (169, 5, 0, -1, 170, []), (170, 18, 0, 0, 171, []), (171, 16, 0, 0, 172, []), (172, 31, 201, 0, 175, []), (175, 1, 8, 0, 177, []), (177, 30, 201, 0, 180, []), (180, 6, 0, 10, 182, []), (182, 1, 5, 0, 184, []), (184, 13, 0, 0, 185, []), (185, 1, 6, 0, 187, []), (187, 11, 0, 0, 188, []), (188, 3, 2, 0, 189, []), (189, 2, 0, 0, 190, []), (190, 44, 22, 0, 193, [(7, 2)]), (193, 44, 87, 0, 196, [(6, 4)]), (196, 3, 3, 0, 197, []), (197, 1, 7, 0, 199, []), (199, 3, 4, 0, 201, []), (201, 28, 6, 1, 204, []), (204, 29, 51, 0, 207, []), (207, 2, 0, 0, 208, []), (208, 44, 16, 0, 211, [(7, 1)]), (211, 44, 145, 0, 214, [(4, 10)]), (214, 1, 5, 0, 216, []), (216, 2, 0, 0, 217, []), (217, 44, 10, 0, 220, [(7, 0)]), (220, 44, 145, 0, 223, [(4, 10)]), (223, 1, 5, 0, 225, []), (225, 47, 0, 0, 226, []), (226, 48, 0, 0, 227, []), (227, 28, 5, 1, 230, []), (230, 29, 36, 0, 233, []), (233, 1, 2, 0, 234, []), (234, 66, 0, 0, 235, [])]
theorem E76_ok : ∀ e ∈ E76, eChk 76 e = true := by decide +kernel
/-- RepeaterWiresModel.<init>()V -/
def E77 : List aE := [(0, 2, 0, 0, 1, []), (1, 64, 1, 0, 4, []), (4, 2, 0, 0, 5, []), (5, 6, 0, 68, 7, []), (7, 54, 0, 9, 9, []), (9, 46, 7, 0, 12, [(8, 0)]), (12, 2, 0, 0, 13, []), (13, 7, 0, 1088, 16, []), (16, 54, 0, 9, 18, []), (18, 46, 13, 0, 21, [(8, 2)]), (21, 2, 0, 0, 22, []), (22, 7, 0, 138, 25, []), (25, 54, 0, 9, 27, []), (27, 46, 16, 0, 30, [(8, 4)]), (30, 2, 0, 0, 31, []), (31, 5, 0, 2, 32, []), (32, 54, 0, 10, 34, []), (34, 46, 19, 0, 37, [(8, 5)]), (37, 2, 0, 0, 38, []), (38, 6, 0, 20, 40, []), (40, 54, 0, 9, 42, []), (42, 46, 23, 0, 45, [(8, 6)]), (45, 2, 0, 0, 46, []), (46, 6, 0, 20, 48, []), (48, 54, 0, 9, 50, []), (50, 46, 26, 0, 53, [(8, 7)]), (53, 2, 0, 0, 54, []), (54, 6, 0, 6, 56, []), (56, 54, 0, 9, 58, []), (58, 46, 29, 0, 61, [(8, 9)]), (61, 2, 0, 0, 62, []), (62, 6, 0, 6, 64, []), (64, 54, 0, 9, 66, []), (66, 46, 32, 0, 69, [(8, 10)]), (69, 2, 0, 0, 70, []), (70, 6, 0, 6, 72, []), (72, 54, 0, 9, 74, []), (74, 46, 35, 0, 77, [(8, 11)]), (77, 2, 0, 0, 78, []), (78, 6, 0, 6, 80, []), (80, 54, 0, 9, 82, []), (82, 46, 38, 0, 85, [(8, 12)]), (85, 2, 0, 0, 86, []), (86, 6, 0, 6, 88, []), (88, 54, 0, 9, 90, []), (90, 46, 41, 0, 93, [(8, 13)]), (93, 2, 0, 0, 94, []), (94, 6, 0, 6, 96, []), (96, 54, 0, 9, 98, []), (98, 46, 44, 0, 101, [(8, 14)]), (101, 2, 0, 0, 102, []), (102, 7, 0, 1100, 105, []), (105, 54, 0, 9, 107, []), (107, 46, 47, 0, 110, [(8, 15)]), (110, 2, 0, 0, 111, []), (111, 7, 0, 1100, 114, []), (114, 54, 0, 9, 116, []), (116, 46, 50, 0, 119, [(8, 16)]), (119, 2, 0, 0, 120, []), (120, 7, 0, 1100, 123, []), (123, 54, 0, 9, 125, []), (125, 46, 53, 0, 128, [(8, 17)]), (128, 2, 0, 0, 129, []), (129, 44, 7, 0, 132, [(8, 0)]), (132, 5, 0, 0, 133, []), (133, 5, 0, 1, 134, []), (134, 48, 0, 0, 135, []), (135, 2, 0, 0, 136, []), (136, 44, 7, 0, 139, [(8, 0)]), (139, 5, 0, 1, 140, []), (140, 5, 0, 1, 141, []), (141, 48, 0, 0, 142, []), (142, 68, 0, 0, 143, [])]
theorem E77_ok : ∀ e ∈ E77, eChk 77 e = true := by decide +kernel
/-- RepeaterWiresModel.in(III)Z -/
def E78 : List aE := [(0, 1, 0, 0, 1, []), (1, 1, 1, 0, 2, []), (2, 38, 14, 0, 5, []), (5, 1, 0, 0, 6, []), (6, 1, 2, 0, 7, []), (7, 40, 14, 0, 10, []), (10, 5, 0, 1, 11, []), (11, 29, 15, 0, 14, []), (14, 5, 0, 0, 15, []), (15, 66, 0, 0, 16, [])]
theorem E78_ok : ∀ e ∈ E78, eChk 78 e = true := by decide +kernel
/-- RepeaterWiresModel.of(II)I -/
def E79 : List aE := [(0, 2, 0, 0, 1, []), (1, 44, 7, 0, 4, [(8, 0)]), (4, 6, 0, 20, 6, []), (6, 6, 0, 8, 8, []), (8, 1, 1, 0, 9, []), (9, 13, 0, 0, 10, []), (10, 11, 0, 0, 11, []), (11, 1, 2, 0, 12, []), (12, 11, 0, 0, 13, []), (13, 47, 0, 0, 14, []), (14, 66, 0, 0, 15, [])]
theorem E79_ok : ∀ e ∈ E79, eChk 79 e = true := by decide +kernel
/-- RepeaterWiresModel.ofKind(II)I -/
def E80 : List aE := [(0, 2, 0, 0, 1, []), (1, 44, 7, 0, 4, [(8, 0)]), (4, 5, 0, 2, 5, []), (5, 6, 0, 6, 7, []), (7, 1, 1, 0, 8, []), (8, 5, 0, 1, 9, []), (9, 12, 0, 0, 10, []), (10, 13, 0, 0, 11, []), (11, 11, 0, 0, 12, []), (12, 1, 2, 0, 13, []), (13, 11, 0, 0, 14, []), (14, 47, 0, 0, 15, []), (15, 66, 0, 0, 16, [])]
theorem E80_ok : ∀ e ∈ E80, eChk 80 e = true := by decide +kernel
/-- RepeaterWiresModel.isNode(I)Z -/
def E81 : List aE := [(0, 1, 1, 0, 1, []), (1, 5, 0, 0, 2, []), (2, 2, 0, 0, 3, []), (3, 44, 7, 0, 6, [(8, 0)]), (6, 5, 0, 0, 7, []), (7, 47, 0, 0, 8, []), (8, 5, 0, 1, 9, []), (9, 12, 0, 0, 10, []), (10, 63, 56, 78, 13, [(8, 3)]), (13, 66, 0, 0, 14, [])]
theorem E81_ok : ∀ e ∈ E81, eChk 81 e = true := by decide +kernel
/-- RepeaterWiresModel.isKind(I)Z -/
def E82 : List aE := [(0, 1, 1, 0, 1, []), (1, 5, 0, 1, 2, []), (2, 5, 0, 3, 3, []), (3, 63, 56, 78, 6, [(8, 3)]), (6, 30, 23, 0, 9, []), (9, 2, 0, 0, 10, []), (10, 1, 1, 0, 11, []), (11, 5, 0, 0, 12, []), (12, 60, 60, 80, 15, [(8, 2)]), (15, 5, 0, 1, 16, []), (16, 37, 23, 0, 19, []), (19, 5, 0, 1, 20, []), (20, 29, 24, 0, 23, []), (23, 5, 0, 0, 24, []), (24, 66, 0, 0, 25, [])]
theorem E82_ok : ∀ e ∈ E82, eChk 82 e = true := by decide +kernel
/-- RepeaterWiresModel.isEnd(I)Z -/
def E83 : List aE := [(0, 1, 1, 0, 1, []), (1, 35, 8, 0, 4, []), (4, 5, 0, 1, 5, []), (5, 29, 9, 0, 8, []), (8, 5, 0, 0, 9, []), (9, 3, 2, 0, 10, []), (10, 5, 0, 1, 11, []), (11, 3, 3, 0, 12, []), (12, 1, 3, 0, 13, []), (13, 2, 0, 0, 14, []), (14, 44, 7, 0, 17, [(8, 0)]), (17, 5, 0, 0, 18, []), (18, 47, 0, 0, 19, []), (19, 39, 48, 0, 22, []), (22, 1, 2, 0, 23, []), (23, 30, 40, 0, 26, []), (26, 2, 0, 0, 27, []), (27, 1, 3, 0, 28, []), (28, 5, 0, 0, 29, []), (29, 60, 64, 79, 32, [(8, 2)]), (32, 1, 1, 0, 33, []), (33, 36, 40, 0, 36, []), (36, 5, 0, 1, 37, []), (37, 29, 41, 0, 40, []), (40, 5, 0, 0, 41, []), (41, 3, 2, 0, 42, []), (42, 28, 3, 1, 45, []), (45, 29, 12, 0, 48, []), (48, 1, 2, 0, 49, []), (49, 66, 0, 0, 50, [])]
theorem E83_ok : ∀ e ∈ E83, eChk 83 e = true := by decide +kernel
/-- RepeaterWiresModel.isBelow(II)Z -/
def E84 : List aE := [(0, 1, 1, 0, 1, []), (1, 3, 3, 0, 2, []), (2, 1, 3, 0, 3, []), (3, 1, 2, 0, 4, []), (4, 41, 17, 0, 7, []), (7, 2, 0, 0, 8, []), (8, 1, 3, 0, 9, []), (9, 5, 0, 0, 10, []), (10, 60, 64, 79, 13, [(8, 2)]), (13, 3, 3, 0, 14, []), (14, 29, 2, 0, 17, []), (17, 1, 3, 0, 18, []), (18, 1, 2, 0, 19, []), (19, 37, 26, 0, 22, []), (22, 5, 0, 1, 23, []), (23, 29, 27, 0, 26, []), (26, 5, 0, 0, 27, []), (27, 66, 0, 0, 28, [])]
theorem E84_ok : ∀ e ∈ E84, eChk 84 e = true := by decide +kernel
/-- RepeaterWiresModel.asPlaced()V -/
def E85 : List aE := [(0, 5, 0, 0, 1, []), (1, 3, 1, 0, 2, []), (2, 1, 1, 0, 3, []), (3, 2, 0, 0, 4, []), (4, 44, 7, 0, 7, [(8, 0)]), (7, 5, 0, 0, 8, []), (8, 47, 0, 0, 9, []), (9, 39, 43, 0, 12, []), (12, 2, 0, 0, 13, []), (13, 44, 29, 0, 16, [(8, 9)]), (16, 1, 1, 0, 17, []), (17, 2, 0, 0, 18, []), (18, 1, 1, 0, 19, []), (19, 6, 0, 7, 21, []), (21, 60, 64, 79, 24, [(8, 2)]), (24, 48, 0, 0, 25, []), (25, 2, 0, 0, 26, []), (26, 44, 32, 0, 29, [(8, 10)]), (29, 1, 1, 0, 30, []), (30, 2, 0, 0, 31, []), (31, 1, 1, 0, 32, []), (32, 5, 0, 3, 33, []), (33, 60, 64, 79, 36, [(8, 2)]), (36, 48, 0, 0, 37, []), (37, 28, 1, 1, 40, []), (40, 29, 2, 0, 43, []), (43, 68, 0, 0, 44, [])]
theorem E85_ok : ∀ e ∈ E85, eChk 85 e = true := by decide +kernel
/-- RepeaterWiresModel.weighs()V -/
def E86 : List aE := [(0, 2, 0, 0, 1, []), (1, 44, 7, 0, 4, [(8, 0)]), (4, 5, 0, 0, 5, []), (5, 47, 0, 0, 6, []), (6, 5, 0, 1, 7, []), (7, 12, 0, 0, 8, []), (8, 3, 1, 0, 9, []), (9, 1, 1, 0, 10, []), (10, 32, 132, 0, 13, []), (13, 2, 0, 0, 14, []), (14, 1, 1, 0, 15, []), (15, 60, 67, 83, 18, [(8, 1)]), (18, 30, 30, 0, 21, []), (21, 2, 0, 0, 22, []), (22, 1, 1, 0, 23, []), (23, 5, 0, 4, 24, []), (24, 60, 64, 79, 27, [(8, 2)]), (27, 29, 31, 0, 30, []), (30, 5, 0, 0, 31, []), (31, 3, 2, 0, 32, []), (32, 1, 1, 0, 33, []), (33, 5, 0, 1, 34, []), (34, 11, 0, 0, 35, []), (35, 3, 3, 0, 36, []), (36, 1, 3, 0, 37, []), (37, 2, 0, 0, 38, []), (38, 44, 7, 0, 41, [(8, 0)]), (41, 5, 0, 0, 42, []), (42, 47, 0, 0, 43, []), (43, 39, 89, 0, 46, []), (46, 1, 2, 0, 47, []), (47, 2, 0, 0, 48, []), (48, 1, 3, 0, 49, []), (49, 5, 0, 0, 50, []), (50, 60, 64, 79, 53, [(8, 2)]), (53, 1, 1, 0, 54, []), (54, 37, 80, 0, 57, []), (57, 2, 0, 0, 58, []), (58, 1, 3, 0, 59, []), (59, 5, 0, 2, 60, []), (60, 60, 64, 79, 63, [(8, 2)]), (63, 2, 0, 0, 64, []), (64, 44, 32, 0, 67, [(8, 10)]), (67, 1, 3, 0, 68, []), (68, 47, 0, 0, 69, []), (69, 13, 0, 0, 70, []), (70, 2, 0, 0, 71, []), (71, 44, 38, 0, 74, [(8, 12)]), (74, 1, 3, 0, 75, []), (75, 47, 0, 0, 76, []), (76, 11, 0, 0, 77, []), (77, 29, 81, 0, 80, []), (80, 5, 0, 0, 81, []), (81, 11, 0, 0, 82, []), (82, 3, 2, 0, 83, []), (83, 28, 3, 1, 86, []), (86, 29, 36, 0, 89, []), (89, 2, 0, 0, 90, []), (90, 44, 35, 0, 93, [(8, 11)]), (93, 1, 1, 0, 94, []), (94, 1, 2, 0, 95, []), (95, 48, 0, 0, 96, []), (96, 2, 0, 0, 97, []), (97, 44, 38, 0, 100, [(8, 12)]), (100, 1, 1, 0, 101, []), (101, 2, 0, 0, 102, []), (102, 44, 29, 0, 105, [(8, 9)]), (105, 1, 1, 0, 106, []), (106, 47, 0, 0, 107, []), (107, 35, 124, 0, 110, []), (110, 2, 0, 0, 111, []), (111, 2, 0, 0, 112, []), (112, 44, 29, 0, 115, [(8, 9)]), (115, 1, 1, 0, 116, []), (116, 47, 0, 0, 117, []), (117, 5, 0, 1, 118, []), (118, 60, 60, 80, 121, [(8, 2)]), (121, 29, 125, 0, 124, []), (124, 1, 2, 0, 125, []), (125, 48, 0, 0, 126, []), (126, 28, 1, -1, 129, []), (129, 29, 9, 0, 132, []), (132, 68, 0, 0, 133, [])]
theorem E86_ok : ∀ e ∈ E86, eChk 86 e = true := by decide +kernel
/-- RepeaterWiresModel.adds(I)I -/
def E87 : List aE := [(0, 2, 0, 0, 1, []), (1, 44, 29, 0, 4, [(8, 9)]), (4, 1, 1, 0, 5, []), (5, 47, 0, 0, 6, []), (6, 35, 44, 0, 9, []), (9, 2, 0, 0, 10, []), (10, 2, 0, 0, 11, []), (11, 44, 29, 0, 14, [(8, 9)]), (14, 1, 1, 0, 15, []), (15, 47, 0, 0, 16, []), (16, 5, 0, 3, 17, []), (17, 60, 60, 80, 20, [(8, 2)]), (20, 5, 0, 2, 21, []), (21, 2, 0, 0, 22, []), (22, 2, 0, 0, 23, []), (23, 44, 29, 0, 26, [(8, 9)]), (26, 1, 1, 0, 27, []), (27, 47, 0, 0, 28, []), (28, 5, 0, 2, 29, []), (29, 60, 60, 80, 32, [(8, 2)]), (32, 13, 0, 0, 33, []), (33, 2, 0, 0, 34, []), (34, 44, 35, 0, 37, [(8, 11)]), (37, 1, 1, 0, 38, []), (38, 47, 0, 0, 39, []), (39, 13, 0, 0, 40, []), (40, 11, 0, 0, 41, []), (41, 29, 45, 0, 44, []), (44, 5, 0, 0, 45, []), (45, 66, 0, 0, 46, [])]
theorem E87_ok : ∀ e ∈ E87, eChk 87 e = true := by decide +kernel
/-- RepeaterWiresModel.runs(III)V -/
def E88 : List aE := [(0, 2, 0, 0, 1, []), (1, 60, 71, 86, 4, [(8, 0)]), (4, 1, 1, 0, 5, []), (5, 3, 4, 0, 7, []), (7, 1, 4, 0, 9, []), (9, 2, 0, 0, 10, []), (10, 44, 7, 0, 13, [(8, 0)]), (13, 5, 0, 0, 14, []), (14, 47, 0, 0, 15, []), (15, 39, 177, 0, 18, []), (18, 2, 0, 0, 19, []), (19, 1, 4, 0, 21, []), (21, 1, 1, 0, 22, []), (22, 60, 74, 84, 25, [(8, 2)]), (25, 30, 171, 0, 28, []), (28, 2, 0, 0, 29, []), (29, 1, 4, 0, 31, []), (31, 5, 0, 0, 32, []), (32, 60, 64, 79, 35, [(8, 2)]), (35, 3, 5, 0, 37, []), (37, 1, 4, 0, 39, []), (39, 1, 1, 0, 40, []), (40, 37, 47, 0, 43, []), (43, 1, 2, 0, 44, []), (44, 29, 96, 0, 47, []), (47, 2, 0, 0, 48, []), (48, 44, 41, 0, 51, [(8, 13)]), (51, 1, 5, 0, 53, []), (53, 47, 0, 0, 54, []), (54, 2, 0, 0, 55, []), (55, 1, 4, 0, 57, []), (57, 5, 0, 1, 58, []), (58, 60, 64, 79, 61, [(8, 2)]), (61, 2, 0, 0, 62, []), (62, 1, 4, 0, 64, []), (64, 5, 0, 2, 65, []), (65, 60, 64, 79, 68, [(8, 2)]), (68, 13, 0, 0, 69, []), (69, 11, 0, 0, 70, []), (70, 5, 0, 2, 71, []), (71, 2, 0, 0, 72, []), (72, 44, 32, 0, 75, [(8, 10)]), (75, 1, 4, 0, 77, []), (77, 47, 0, 0, 78, []), (78, 14, 0, 0, 79, []), (79, 2, 0, 0, 80, []), (80, 1, 4, 0, 82, []), (82, 5, 0, 1, 83, []), (83, 60, 64, 79, 86, [(8, 2)]), (86, 13, 0, 0, 87, []), (87, 2, 0, 0, 88, []), (88, 44, 38, 0, 91, [(8, 12)]), (91, 1, 4, 0, 93, []), (93, 47, 0, 0, 94, []), (94, 13, 0, 0, 95, []), (95, 11, 0, 0, 96, []), (96, 3, 6, 0, 98, []), (98, 2, 0, 0, 99, []), (99, 44, 41, 0, 102, [(8, 13)]), (102, 1, 4, 0, 104, []), (104, 1, 6, 0, 106, []), (106, 2, 0, 0, 107, []), (107, 1, 4, 0, 109, []), (109, 60, 78, 87, 112, [(8, 1)]), (112, 11, 0, 0, 113, []), (113, 48, 0, 0, 114, []), (114, 2, 0, 0, 115, []), (115, 44, 29, 0, 118, [(8, 9)]), (118, 1, 4, 0, 120, []), (120, 47, 0, 0, 121, []), (121, 35, 139, 0, 124, []), (124, 2, 0, 0, 125, []), (125, 2, 0, 0, 126, []), (126, 44, 29, 0, 129, [(8, 9)]), (129, 1, 4, 0, 131, []), (131, 47, 0, 0, 132, []), (132, 5, 0, 5, 133, []), (133, 60, 60, 80, 136, [(8, 2)]), (136, 29, 140, 0, 139, []), (139, 5, 0, 0, 140, []), (140, 3, 7, 0, 142, []), (142, 2, 0, 0, 143, []), (143, 44, 44, 0, 146, [(8, 14)]), (146, 1, 4, 0, 148, []), (148, 1, 4, 0, 150, []), (150, 1, 1, 0, 151, []), (151, 37, 158, 0, 154, []), (154, 1, 3, 0, 155, []), (155, 29, 165, 0, 158, []), (158, 2, 0, 0, 159, []), (159, 44, 44, 0, 162, [(8, 14)]), (162, 1, 5, 0, 164, []), (164, 47, 0, 0, 165, []), (165, 1, 7, 0, 167, []), (167, 11, 0, 0, 168, []), (168, 5, 0, 2, 169, []), (169, 15, 0, 0, 170, []), (170, 48, 0, 0, 171, []), (171, 28, 4, 1, 174, []), (174, 29, 7, 0, 177, []), (177, 68, 0, 0, 178, [])]
theorem E88_ok : ∀ e ∈ E88, eChk 88 e = true := by decide +kernel
/-- RepeaterWiresModel.runsAll()V -/
def E89 : List aE := [(0, 2, 0, 0, 1, []), (1, 60, 71, 86, 4, [(8, 0)]), (4, 2, 0, 0, 5, []), (5, 5, 0, 0, 6, []), (6, 5, 0, 2, 7, []), (7, 2, 0, 0, 8, []), (8, 44, 7, 0, 11, [(8, 0)]), (11, 5, 0, 1, 12, []), (12, 47, 0, 0, 13, []), (13, 13, 0, 0, 14, []), (14, 2, 0, 0, 15, []), (15, 44, 35, 0, 18, [(8, 11)]), (18, 5, 0, 0, 19, []), (19, 47, 0, 0, 20, []), (20, 13, 0, 0, 21, []), (21, 5, 0, 0, 22, []), (22, 60, 82, 88, 25, [(8, 3)]), (25, 68, 0, 0, 26, [])]
theorem E89_ok : ∀ e ∈ E89, eChk 89 e = true := by decide +kernel
/-- RepeaterWiresModel.slack(I)I -/
def E90 : List aE := [(0, 8, 86, 900000, 2, []), (2, 3, 2, 0, 3, []), (3, 5, 0, 1, 4, []), (4, 3, 3, 0, 5, []), (5, 1, 3, 0, 6, []), (6, 2, 0, 0, 7, []), (7, 44, 7, 0, 10, [(8, 0)]), (10, 5, 0, 0, 11, []), (11, 47, 0, 0, 12, []), (12, 39, 66, 0, 15, []), (15, 2, 0, 0, 16, []), (16, 1, 3, 0, 17, []), (17, 5, 0, 5, 18, []), (18, 60, 64, 79, 21, [(8, 2)]), (21, 2, 0, 0, 22, []), (22, 44, 41, 0, 25, [(8, 13)]), (25, 1, 3, 0, 26, []), (26, 47, 0, 0, 27, []), (27, 12, 0, 0, 28, []), (28, 3, 4, 0, 30, []), (30, 2, 0, 0, 31, []), (31, 1, 3, 0, 32, []), (32, 1, 1, 0, 33, []), (33, 60, 74, 84, 36, [(8, 2)]), (36, 30, 58, 0, 39, []), (39, 2, 0, 0, 40, []), (40, 1, 3, 0, 41, []), (41, 60, 67, 83, 44, [(8, 1)]), (44, 30, 58, 0, 47, []), (47, 1, 4, 0, 49, []), (49, 1, 2, 0, 50, []), (50, 39, 58, 0, 53, []), (53, 1, 4, 0, 55, []), (55, 29, 59, 0, 58, []), (58, 1, 2, 0, 59, []), (59, 3, 2, 0, 60, []), (60, 28, 3, 1, 63, []), (63, 29, 5, 0, 66, []), (66, 1, 2, 0, 67, []), (67, 66, 0, 0, 68, [])]
theorem E90_ok : ∀ e ∈ E90, eChk 90 e = true := by decide +kernel
/-- RepeaterWiresModel.wrong(I)I -/
def E91 : List aE := [(0, 5, 0, 0, 1, []), (1, 3, 2, 0, 2, []), (2, 5, 0, 1, 3, []), (3, 3, 3, 0, 4, []), (4, 1, 3, 0, 5, []), (5, 2, 0, 0, 6, []), (6, 44, 7, 0, 9, [(8, 0)]), (9, 5, 0, 0, 10, []), (10, 47, 0, 0, 11, []), (11, 39, 63, 0, 14, []), (14, 1, 2, 0, 15, []), (15, 2, 0, 0, 16, []), (16, 1, 3, 0, 17, []), (17, 1, 1, 0, 18, []), (18, 60, 74, 84, 21, [(8, 2)]), (21, 30, 54, 0, 24, []), (24, 2, 0, 0, 25, []), (25, 1, 3, 0, 26, []), (26, 60, 67, 83, 29, [(8, 1)]), (29, 30, 54, 0, 32, []), (32, 2, 0, 0, 33, []), (33, 1, 3, 0, 34, []), (34, 6, 0, 6, 36, []), (36, 60, 64, 79, 39, [(8, 2)]), (39, 2, 0, 0, 40, []), (40, 44, 44, 0, 43, [(8, 14)]), (43, 1, 3, 0, 44, []), (44, 47, 0, 0, 45, []), (45, 36, 54, 0, 48, []), (48, 5, 0, 1, 49, []), (49, 1, 3, 0, 50, []), (50, 19, 0, 0, 51, []), (51, 29, 55, 0, 54, []), (54, 5, 0, 0, 55, []), (55, 17, 0, 0, 56, []), (56, 3, 2, 0, 57, []), (57, 28, 3, 1, 60, []), (60, 29, 4, 0, 63, []), (63, 1, 2, 0, 64, []), (64, 66, 0, 0, 65, [])]
theorem E91_ok : ∀ e ∈ E91, eChk 91 e = true := by decide +kernel
/-- RepeaterWiresModel.cost(I)I -/
def E92 : List aE := [(0, 5, 0, 0, 1, []), (1, 3, 2, 0, 2, []), (2, 5, 0, 1, 3, []), (3, 3, 3, 0, 4, []), (4, 1, 3, 0, 5, []), (5, 2, 0, 0, 6, []), (6, 44, 7, 0, 9, [(8, 0)]), (9, 5, 0, 0, 10, []), (10, 47, 0, 0, 11, []), (11, 39, 56, 0, 14, []), (14, 1, 2, 0, 15, []), (15, 2, 0, 0, 16, []), (16, 1, 3, 0, 17, []), (17, 1, 1, 0, 18, []), (18, 60, 74, 84, 21, [(8, 2)]), (21, 30, 47, 0, 24, []), (24, 2, 0, 0, 25, []), (25, 44, 29, 0, 28, [(8, 9)]), (28, 1, 3, 0, 29, []), (29, 47, 0, 0, 30, []), (30, 35, 47, 0, 33, []), (33, 2, 0, 0, 34, []), (34, 2, 0, 0, 35, []), (35, 44, 29, 0, 38, [(8, 9)]), (38, 1, 3, 0, 39, []), (39, 47, 0, 0, 40, []), (40, 5, 0, 4, 41, []), (41, 60, 60, 80, 44, [(8, 2)]), (44, 29, 48, 0, 47, []), (47, 5, 0, 0, 48, []), (48, 11, 0, 0, 49, []), (49, 3, 2, 0, 50, []), (50, 28, 3, 1, 53, []), (53, 29, 4, 0, 56, []), (56, 1, 2, 0, 57, []), (57, 66, 0, 0, 58, [])]
theorem E92_ok : ∀ e ∈ E92, eChk 92 e = true := by decide +kernel
/-- RepeaterWiresModel.slackNow()I -/
def E93 : List aE := [(0, 2, 0, 0, 1, []), (1, 60, 87, 85, 4, [(8, 0)]), (4, 2, 0, 0, 5, []), (5, 60, 90, 89, 8, [(8, 0)]), (8, 2, 0, 0, 9, []), (9, 5, 0, 0, 10, []), (10, 60, 93, 90, 13, [(8, 1)]), (13, 66, 0, 0, 14, [])]
theorem E93_ok : ∀ e ∈ E93, eChk 93 e = true := by decide +kernel
/-- RepeaterWiresModel.isNext(I)Z -/
def E94 : List aE := [(0, 5, 0, 1, 1, []), (1, 3, 2, 0, 2, []), (2, 1, 2, 0, 3, []), (3, 2, 0, 0, 4, []), (4, 44, 7, 0, 7, [(8, 0)]), (7, 5, 0, 0, 8, []), (8, 47, 0, 0, 9, []), (9, 39, 92, 0, 12, []), (12, 2, 0, 0, 13, []), (13, 1, 2, 0, 14, []), (14, 1, 1, 0, 15, []), (15, 60, 74, 84, 18, [(8, 2)]), (18, 30, 86, 0, 21, []), (21, 2, 0, 0, 22, []), (22, 44, 29, 0, 25, [(8, 9)]), (25, 1, 2, 0, 26, []), (26, 58, 0, 0, 27, []), (27, 47, 0, 0, 28, []), (28, 5, 0, 1, 29, []), (29, 11, 0, 0, 30, []), (30, 48, 0, 0, 31, []), (31, 2, 0, 0, 32, []), (32, 44, 29, 0, 35, [(8, 9)]), (35, 1, 2, 0, 36, []), (36, 47, 0, 0, 37, []), (37, 5, 0, 4, 38, []), (38, 39, 67, 0, 41, []), (41, 2, 0, 0, 42, []), (42, 2, 0, 0, 43, []), (43, 44, 29, 0, 46, [(8, 9)]), (46, 1, 2, 0, 47, []), (47, 47, 0, 0, 48, []), (48, 60, 96, 82, 51, [(8, 1)]), (51, 31, 67, 0, 54, []), (54, 2, 0, 0, 55, []), (55, 44, 29, 0, 58, [(8, 9)]), (58, 1, 2, 0, 59, []), (59, 58, 0, 0, 60, []), (60, 47, 0, 0, 61, []), (61, 5, 0, 1, 62, []), (62, 11, 0, 0, 63, []), (63, 48, 0, 0, 64, []), (64, 29, 31, 0, 67, []), (67, 2, 0, 0, 68, []), (68, 44, 29, 0, 71, [(8, 9)]), (71, 1, 2, 0, 72, []), (72, 47, 0, 0, 73, []), (73, 5, 0, 4, 74, []), (74, 39, 79, 0, 77, []), (77, 5, 0, 1, 78, []), (78, 66, 0, 0, 79, []), (79, 2, 0, 0, 80, []), (80, 44, 29, 0, 83, [(8, 9)]), (83, 1, 2, 0, 84, []), (84, 5, 0, 0, 85, []), (85, 48, 0, 0, 86, []), (86, 28, 2, 1, 89, []), (89, 29, 2, 0, 92, []), (92, 5, 0, 0, 93, []), (93, 66, 0, 0, 94, [])]
theorem E94_ok : ∀ e ∈ E94, eChk 94 e = true := by decide +kernel
/-- RepeaterWiresModel.isBeaten(IIIIII)Z -/
def E95 : List aE := [(0, 1, 3, 0, 1, []), (1, 1, 0, 0, 2, []), (2, 40, 21, 0, 5, []), (5, 1, 4, 0, 7, []), (7, 1, 1, 0, 8, []), (8, 38, 21, 0, 11, []), (11, 1, 5, 0, 13, []), (13, 1, 2, 0, 14, []), (14, 40, 21, 0, 17, []), (17, 5, 0, 1, 18, []), (18, 29, 22, 0, 21, []), (21, 5, 0, 0, 22, []), (22, 66, 0, 0, 23, [])]
theorem E95_ok : ∀ e ∈ E95, eChk 95 e = true := by decide +kernel
/-- RepeaterWiresModel.meets(III)V -/
def E96 : List aE := [(0, 5, 0, 0, 1, []), (1, 3, 4, 0, 3, []), (3, 5, 0, 0, 4, []), (4, 3, 5, 0, 6, []), (6, 1, 5, 0, 8, []), (8, 2, 0, 0, 9, []), (9, 44, 99, 0, 12, [(8, 18)]), (12, 39, 52, 0, 15, []), (15, 1, 1, 0, 16, []), (16, 1, 2, 0, 17, []), (17, 1, 3, 0, 18, []), (18, 2, 0, 0, 19, []), (19, 44, 47, 0, 22, [(8, 15)]), (22, 1, 5, 0, 24, []), (24, 47, 0, 0, 25, []), (25, 2, 0, 0, 26, []), (26, 44, 50, 0, 29, [(8, 16)]), (29, 1, 5, 0, 31, []), (31, 47, 0, 0, 32, []), (32, 2, 0, 0, 33, []), (33, 44, 53, 0, 36, [(8, 17)]), (36, 1, 5, 0, 38, []), (38, 47, 0, 0, 39, []), (39, 63, 103, 95, 42, [(8, 6)]), (42, 30, 46, 0, 45, []), (45, 68, 0, 0, 46, []), (46, 28, 5, 1, 49, []), (49, 29, 6, 0, 52, []), (52, 5, 0, 0, 53, []), (53, 3, 5, 0, 55, []), (55, 1, 5, 0, 57, []), (57, 2, 0, 0, 58, []), (58, 44, 99, 0, 61, [(8, 18)]), (61, 39, 145, 0, 64, []), (64, 2, 0, 0, 65, []), (65, 44, 47, 0, 68, [(8, 15)]), (68, 1, 5, 0, 70, []), (70, 47, 0, 0, 71, []), (71, 2, 0, 0, 72, []), (72, 44, 50, 0, 75, [(8, 16)]), (75, 1, 5, 0, 77, []), (77, 47, 0, 0, 78, []), (78, 2, 0, 0, 79, []), (79, 44, 53, 0, 82, [(8, 17)]), (82, 1, 5, 0, 84, []), (84, 47, 0, 0, 85, []), (85, 1, 1, 0, 86, []), (86, 1, 2, 0, 87, []), (87, 1, 3, 0, 88, []), (88, 63, 103, 95, 91, [(8, 6)]), (91, 31, 139, 0, 94, []), (94, 2, 0, 0, 95, []), (95, 44, 47, 0, 98, [(8, 15)]), (98, 1, 4, 0, 100, []), (100, 2, 0, 0, 101, []), (101, 44, 47, 0, 104, [(8, 15)]), (104, 1, 5, 0, 106, []), (106, 47, 0, 0, 107, []), (107, 48, 0, 0, 108, []), (108, 2, 0, 0, 109, []), (109, 44, 50, 0, 112, [(8, 16)]), (112, 1, 4, 0, 114, []), (114, 2, 0, 0, 115, []), (115, 44, 50, 0, 118, [(8, 16)]), (118, 1, 5, 0, 120, []), (120, 47, 0, 0, 121, []), (121, 48, 0, 0, 122, []), (122, 2, 0, 0, 123, []), (123, 44, 53, 0, 126, [(8, 17)]), (126, 1, 4, 0, 128, []), (128, 2, 0, 0, 129, []), (129, 44, 53, 0, 132, [(8, 17)]), (132, 1, 5, 0, 134, []), (134, 47, 0, 0, 135, []), (135, 48, 0, 0, 136, []), (136, 28, 4, 1, 139, []), (139, 28, 5, 1, 142, []), (142, 29, 55, 0, 145, []), (145, 1, 4, 0, 147, []), (147, 3, 5, 0, 149, []), (149, 1, 5, 0, 151, []), (151, 35, 247, 0, 154, []), (154, 2, 0, 0, 155, []), (155, 44, 47, 0, 158, [(8, 15)]), (158, 1, 5, 0, 160, []), (160, 5, 0, 1, 161, []), (161, 12, 0, 0, 162, []), (162, 47, 0, 0, 163, []), (163, 1, 1, 0, 164, []), (164, 40, 193, 0, 167, []), (167, 2, 0, 0, 168, []), (168, 44, 47, 0, 171, [(8, 15)]), (171, 1, 5, 0, 173, []), (173, 5, 0, 1, 174, []), (174, 12, 0, 0, 175, []), (175, 47, 0, 0, 176, []), (176, 1, 1, 0, 177, []), (177, 37, 247, 0, 180, []), (180, 2, 0, 0, 181, []), (181, 44, 53, 0, 184, [(8, 17)]), (184, 1, 5, 0, 186, []), (186, 5, 0, 1, 187, []), (187, 12, 0, 0, 188, []), (188, 47, 0, 0, 189, []), (189, 1, 3, 0, 190, []), (190, 41, 247, 0, 193, []), (193, 2, 0, 0, 194, []), (194, 44, 47, 0, 197, [(8, 15)]), (197, 1, 5, 0, 199, []), (199, 2, 0, 0, 200, []), (200, 44, 47, 0, 203, [(8, 15)]), (203, 1, 5, 0, 205, []), (205, 5, 0, 1, 206, []), (206, 12, 0, 0, 207, []), (207, 47, 0, 0, 208, []), (208, 48, 0, 0, 209, []), (209, 2, 0, 0, 210, []), (210, 44, 50, 0, 213, [(8, 16)]), (213, 1, 5, 0, 215, []), (215, 2, 0, 0, 216, []), (216, 44, 50, 0, 219, [(8, 16)]), (219, 1, 5, 0, 221, []), (221, 5, 0, 1, 222, []), (222, 12, 0, 0, 223, []), (223, 47, 0, 0, 224, []), (224, 48, 0, 0, 225, []), (225, 2, 0, 0, 226, []), (226, 44, 53, 0, 229, [(8, 17)]), (229, 1, 5, 0, 231, []), (231, 2, 0, 0, 232, []), (232, 44, 53, 0, 235, [(8, 17)]), (235, 1, 5, 0, 237, []), (237, 5, 0, 1, 238, []), (238, 12, 0, 0, 239, []), (239, 47, 0, 0, 240, []), (240, 48, 0, 0, 241, []), (241, 28, 5, -1, 244, []), (244, 29, 149, 0, 247, []), (247, 2, 0, 0, 248, []), (248, 44, 47, 0, 251, [(8, 15)]), (251, 1, 5, 0, 253, []), (253, 1, 1, 0, 254, []), (254, 48, 0, 0, 255, []), (255, 2, 0, 0, 256, []), (256, 44, 50, 0, 259, [(8, 16)]), (259, 1, 5, 0, 261, []), (261, 1, 2, 0, 262, []), (262, 48, 0, 0, 263, []), (263, 2, 0, 0, 264, []), (264, 44, 53, 0, 267, [(8, 17)]), (267, 1, 5, 0, 269, []), (269, 1, 3, 0, 270, []), (270, 48, 0, 0, 271, []), (271, 2, 0, 0, 272, []), (272, 1, 4, 0, 274, []), (274, 5, 0, 1, 275, []), (275, 11, 0, 0, 276, []), (276, 45, 99, 0, 279, [(8, 18)]), (279, 68, 0, 0, 280, [])]
theorem E96_ok : ∀ e ∈ E96, eChk 96 e = true := by decide +kernel
/-- RepeaterWiresModel.seeks(II)V -/
def E97 : List aE := [(0, 2, 0, 0, 1, []), (1, 60, 87, 85, 4, [(8, 0)]), (4, 2, 0, 0, 5, []), (5, 5, 0, 0, 6, []), (6, 45, 99, 0, 9, [(8, 18)]), (9, 5, 0, 0, 10, []), (10, 3, 3, 0, 11, []), (11, 1, 3, 0, 12, []), (12, 2, 0, 0, 13, []), (13, 44, 7, 0, 16, [(8, 0)]), (16, 5, 0, 0, 17, []), (17, 47, 0, 0, 18, []), (18, 39, 34, 0, 21, []), (21, 2, 0, 0, 22, []), (22, 44, 29, 0, 25, [(8, 9)]), (25, 1, 3, 0, 26, []), (26, 5, 0, 0, 27, []), (27, 48, 0, 0, 28, []), (28, 28, 3, 1, 31, []), (31, 29, 11, 0, 34, []), (34, 5, 0, 1, 35, []), (35, 3, 3, 0, 36, []), (36, 1, 3, 0, 37, []), (37, 30, 84, 0, 40, []), (40, 2, 0, 0, 41, []), (41, 1, 1, 0, 42, []), (42, 5, 0, 0, 43, []), (43, 1, 2, 0, 44, []), (44, 60, 82, 88, 47, [(8, 3)]), (47, 2, 0, 0, 48, []), (48, 1, 1, 0, 49, []), (49, 60, 107, 91, 52, [(8, 1)]), (52, 31, 75, 0, 55, []), (55, 2, 0, 0, 56, []), (56, 2, 0, 0, 57, []), (57, 44, 38, 0, 60, [(8, 12)]), (60, 1, 1, 0, 61, []), (61, 47, 0, 0, 62, []), (62, 2, 0, 0, 63, []), (63, 1, 1, 0, 64, []), (64, 60, 93, 90, 67, [(8, 1)]), (67, 2, 0, 0, 68, []), (68, 1, 1, 0, 69, []), (69, 60, 110, 92, 72, [(8, 1)]), (72, 60, 113, 96, 75, [(8, 3)]), (75, 2, 0, 0, 76, []), (76, 1, 1, 0, 77, []), (77, 60, 116, 94, 80, [(8, 1)]), (80, 3, 3, 0, 81, []), (81, 29, 36, 0, 84, []), (84, 68, 0, 0, 85, [])]
theorem E97_ok : ∀ e ∈ E97, eChk 97 e = true := by decide +kernel
/-- RepeaterWiresModel.seeksPoints()V -/
def E98 : List aE := [(0, 2, 0, 0, 1, []), (1, 60, 87, 85, 4, [(8, 0)]), (4, 2, 0, 0, 5, []), (5, 5, 0, 0, 6, []), (6, 45, 99, 0, 9, [(8, 18)]), (9, 5, 0, 0, 10, []), (10, 3, 1, 0, 11, []), (11, 1, 1, 0, 12, []), (12, 2, 0, 0, 13, []), (13, 44, 7, 0, 16, [(8, 0)]), (16, 5, 0, 0, 17, []), (17, 47, 0, 0, 18, []), (18, 39, 34, 0, 21, []), (21, 2, 0, 0, 22, []), (22, 44, 29, 0, 25, [(8, 9)]), (25, 1, 1, 0, 26, []), (26, 5, 0, 0, 27, []), (27, 48, 0, 0, 28, []), (28, 28, 1, 1, 31, []), (31, 29, 11, 0, 34, []), (34, 5, 0, 1, 35, []), (35, 3, 1, 0, 36, []), (36, 1, 1, 0, 37, []), (37, 30, 76, 0, 40, []), (40, 2, 0, 0, 41, []), (41, 60, 90, 89, 44, [(8, 0)]), (44, 2, 0, 0, 45, []), (45, 5, 0, 0, 46, []), (46, 60, 107, 91, 49, [(8, 1)]), (49, 31, 67, 0, 52, []), (52, 2, 0, 0, 53, []), (53, 5, 0, 0, 54, []), (54, 2, 0, 0, 55, []), (55, 5, 0, 0, 56, []), (56, 60, 93, 90, 59, [(8, 1)]), (59, 2, 0, 0, 60, []), (60, 5, 0, 0, 61, []), (61, 60, 110, 92, 64, [(8, 1)]), (64, 60, 113, 96, 67, [(8, 3)]), (67, 2, 0, 0, 68, []), (68, 5, 0, 0, 69, []), (69, 60, 116, 94, 72, [(8, 1)]), (72, 3, 1, 0, 73, []), (73, 29, 36, 0, 76, []), (76, 68, 0, 0, 77, [])]
theorem E98_ok : ∀ e ∈ E98, eChk 98 e = true := by decide +kernel
/-- RepeaterWiresModel.widest()I -/
def E99 : List aE := [(0, 2, 0, 0, 1, []), (1, 60, 87, 85, 4, [(8, 0)]), (4, 5, 0, 0, 5, []), (5, 3, 1, 0, 6, []), (6, 5, 0, 0, 7, []), (7, 3, 2, 0, 8, []), (8, 1, 2, 0, 9, []), (9, 5, 0, 1, 10, []), (10, 2, 0, 0, 11, []), (11, 44, 7, 0, 14, [(8, 0)]), (14, 5, 0, 0, 15, []), (15, 47, 0, 0, 16, []), (16, 5, 0, 1, 17, []), (17, 12, 0, 0, 18, []), (18, 19, 0, 0, 19, []), (19, 39, 86, 0, 22, []), (22, 5, 0, 1, 23, []), (23, 3, 3, 0, 24, []), (24, 1, 3, 0, 25, []), (25, 2, 0, 0, 26, []), (26, 44, 7, 0, 29, [(8, 0)]), (29, 5, 0, 0, 30, []), (30, 47, 0, 0, 31, []), (31, 39, 55, 0, 34, []), (34, 2, 0, 0, 35, []), (35, 44, 32, 0, 38, [(8, 10)]), (38, 1, 3, 0, 39, []), (39, 5, 0, 1, 40, []), (40, 1, 2, 0, 41, []), (41, 1, 3, 0, 42, []), (42, 5, 0, 1, 43, []), (43, 12, 0, 0, 44, []), (44, 20, 0, 0, 45, []), (45, 5, 0, 1, 46, []), (46, 16, 0, 0, 47, []), (47, 11, 0, 0, 48, []), (48, 48, 0, 0, 49, []), (49, 28, 3, 1, 52, []), (52, 29, 24, 0, 55, []), (55, 2, 0, 0, 56, []), (56, 60, 90, 89, 59, [(8, 0)]), (59, 2, 0, 0, 60, []), (60, 5, 0, 0, 61, []), (61, 60, 93, 90, 64, [(8, 1)]), (64, 3, 3, 0, 65, []), (65, 1, 2, 0, 66, []), (66, 30, 74, 0, 69, []), (69, 1, 3, 0, 70, []), (70, 1, 1, 0, 71, []), (71, 41, 78, 0, 74, []), (74, 1, 3, 0, 75, []), (75, 29, 79, 0, 78, []), (78, 1, 1, 0, 79, []), (79, 3, 1, 0, 80, []), (80, 28, 2, 1, 83, []), (83, 29, 8, 0, 86, []), (86, 1, 1, 0, 87, []), (87, 66, 0, 0, 88, [])]
theorem E99_ok : ∀ e ∈ E99, eChk 99 e = true := by decide +kernel
/-- RepeaterWiresModel.changeNow()I -/
def E100 : List aE := [(0, 2, 0, 0, 1, []), (1, 60, 87, 85, 4, [(8, 0)]), (4, 2, 0, 0, 5, []), (5, 60, 90, 89, 8, [(8, 0)]), (8, 2, 0, 0, 9, []), (9, 5, 0, 0, 10, []), (10, 60, 107, 91, 13, [(8, 1)]), (13, 3, 1, 0, 14, []), (14, 5, 0, -1, 15, []), (15, 3, 2, 0, 16, []), (16, 5, 0, 0, 17, []), (17, 3, 3, 0, 18, []), (18, 5, 0, 1, 19, []), (19, 3, 4, 0, 21, []), (21, 1, 4, 0, 23, []), (23, 2, 0, 0, 24, []), (24, 44, 7, 0, 27, [(8, 0)]), (27, 5, 0, 0, 28, []), (28, 47, 0, 0, 29, []), (29, 39, 181, 0, 32, []), (32, 5, 0, 0, 33, []), (33, 3, 5, 0, 35, []), (35, 1, 5, 0, 37, []), (37, 5, 0, 4, 38, []), (38, 39, 175, 0, 41, []), (41, 1, 5, 0, 43, []), (43, 2, 0, 0, 44, []), (44, 1, 4, 0, 46, []), (46, 6, 0, 7, 48, []), (48, 60, 64, 79, 51, [(8, 2)]), (51, 36, 169, 0, 54, []), (54, 1, 5, 0, 56, []), (56, 30, 68, 0, 59, []), (59, 2, 0, 0, 60, []), (60, 1, 5, 0, 62, []), (62, 60, 96, 82, 65, [(8, 1)]), (65, 30, 169, 0, 68, []), (68, 2, 0, 0, 69, []), (69, 60, 87, 85, 72, [(8, 0)]), (72, 2, 0, 0, 73, []), (73, 44, 29, 0, 76, [(8, 9)]), (76, 1, 4, 0, 78, []), (78, 1, 5, 0, 80, []), (80, 48, 0, 0, 81, []), (81, 2, 0, 0, 82, []), (82, 60, 90, 89, 85, [(8, 0)]), (85, 2, 0, 0, 86, []), (86, 5, 0, 0, 87, []), (87, 60, 93, 90, 90, [(8, 1)]), (90, 3, 6, 0, 92, []), (92, 2, 0, 0, 93, []), (93, 5, 0, 0, 94, []), (94, 60, 107, 91, 97, [(8, 1)]), (97, 1, 1, 0, 98, []), (98, 5, 0, -1, 99, []), (99, 18, 0, 0, 100, []), (100, 16, 0, 0, 101, []), (101, 31, 108, 0, 104, []), (104, 5, 0, 1, 105, []), (105, 29, 109, 0, 108, []), (108, 5, 0, 0, 109, []), (109, 3, 7, 0, 111, []), (111, 1, 7, 0, 113, []), (113, 30, 169, 0, 116, []), (116, 1, 2, 0, 117, []), (117, 5, 0, -1, 118, []), (118, 36, 148, 0, 121, []), (121, 1, 6, 0, 123, []), (123, 2, 0, 0, 124, []), (124, 44, 119, 0, 127, [(8, 19)]), (127, 40, 148, 0, 130, []), (130, 1, 6, 0, 132, []), (132, 2, 0, 0, 133, []), (133, 44, 119, 0, 136, [(8, 19)]), (136, 37, 169, 0, 139, []), (139, 2, 0, 0, 140, []), (140, 5, 0, 0, 141, []), (141, 60, 110, 92, 144, [(8, 1)]), (144, 1, 3, 0, 145, []), (145, 39, 169, 0, 148, []), (148, 6, 0, 10, 150, []), (150, 1, 4, 0, 152, []), (152, 13, 0, 0, 153, []), (153, 1, 5, 0, 155, []), (155, 11, 0, 0, 156, []), (156, 3, 2, 0, 157, []), (157, 2, 0, 0, 158, []), (158, 5, 0, 0, 159, []), (159, 60, 110, 92, 162, [(8, 1)]), (162, 3, 3, 0, 163, []), (163, 2, 0, 0, 164, []), (164, 1, 6, 0, 166, []), (166, 45, 119, 0, 169, [(8, 19)]), (169, 28, 5, 1, 172, []), (172, 29, 35, 0, 175, []), (175, 28, 4, 1, 178, []), (178, 29, 21, 0, 181, []), (181, 1, 2, 0, 182, []), (182, 66, 0, 0, 183, [])]
theorem E100_ok : ∀ e ∈ E100, eChk 100 e = true := by decide +kernel
/-- RepeaterWiresModel.wrongEntry()I -/
def E101 : List aE := [(0, 2, 0, 0, 1, []), (1, 60, 122, 93, 4, [(8, 0)]), (4, 59, 0, 0, 5, []), (5, 5, 0, -1, 6, []), (6, 3, 1, 0, 7, []), (7, 2, 0, 0, 8, []), (8, 44, 126, 0, 11, [(8, 8)]), (11, 5, 0, 1, 12, []), (12, 12, 0, 0, 13, []), (13, 3, 2, 0, 14, []), (14, 1, 2, 0, 15, []), (15, 32, 63, 0, 18, []), (18, 2, 0, 0, 19, []), (19, 2, 0, 0, 20, []), (20, 44, 23, 0, 23, [(8, 6)]), (23, 1, 2, 0, 24, []), (24, 47, 0, 0, 25, []), (25, 60, 129, 81, 28, [(8, 1)]), (28, 30, 51, 0, 31, []), (31, 2, 0, 0, 32, []), (32, 44, 41, 0, 35, [(8, 13)]), (35, 2, 0, 0, 36, []), (36, 44, 23, 0, 39, [(8, 6)]), (39, 1, 2, 0, 40, []), (40, 47, 0, 0, 41, []), (41, 47, 0, 0, 42, []), (42, 2, 0, 0, 43, []), (43, 44, 26, 0, 46, [(8, 7)]), (46, 1, 2, 0, 47, []), (47, 47, 0, 0, 48, []), (48, 36, 55, 0, 51, []), (51, 1, 2, 0, 52, []), (52, 29, 56, 0, 55, []), (55, 1, 1, 0, 56, []), (56, 3, 1, 0, 57, []), (57, 28, 2, -1, 60, []), (60, 29, 14, 0, 63, []), (63, 1, 1, 0, 64, []), (64, 66, 0, 0, 65, [])]
theorem E101_ok : ∀ e ∈ E101, eChk 101 e = true := by decide +kernel
/-- RepeaterWiresModel.ends()I -/
def E102 : List aE := [(0, 5, 0, 0, 1, []), (1, 3, 1, 0, 2, []), (2, 5, 0, 1, 3, []), (3, 3, 2, 0, 4, []), (4, 1, 2, 0, 5, []), (5, 2, 0, 0, 6, []), (6, 44, 7, 0, 9, [(8, 0)]), (9, 5, 0, 0, 10, []), (10, 47, 0, 0, 11, []), (11, 39, 38, 0, 14, []), (14, 1, 1, 0, 15, []), (15, 2, 0, 0, 16, []), (16, 1, 2, 0, 17, []), (17, 60, 67, 83, 20, [(8, 1)]), (20, 30, 29, 0, 23, []), (23, 5, 0, 1, 24, []), (24, 1, 2, 0, 25, []), (25, 19, 0, 0, 26, []), (26, 29, 30, 0, 29, []), (29, 5, 0, 0, 30, []), (30, 17, 0, 0, 31, []), (31, 3, 1, 0, 32, []), (32, 28, 2, 1, 35, []), (35, 29, 4, 0, 38, []), (38, 1, 1, 0, 39, []), (39, 66, 0, 0, 40, [])]
theorem E102_ok : ∀ e ∈ E102, eChk 102 e = true := by decide +kernel
/-- RepeaterWiresModel.worst()I -/
def E103 : List aE := [(0, 2, 0, 0, 1, []), (1, 60, 122, 93, 4, [(8, 0)]), (4, 3, 1, 0, 5, []), (5, 5, 0, 1, 6, []), (6, 3, 2, 0, 7, []), (7, 1, 2, 0, 8, []), (8, 2, 0, 0, 9, []), (9, 44, 7, 0, 12, [(8, 0)]), (12, 5, 0, 0, 13, []), (13, 47, 0, 0, 14, []), (14, 39, 50, 0, 17, []), (17, 2, 0, 0, 18, []), (18, 1, 2, 0, 19, []), (19, 60, 67, 83, 22, [(8, 1)]), (22, 30, 44, 0, 25, []), (25, 2, 0, 0, 26, []), (26, 1, 2, 0, 27, []), (27, 5, 0, 5, 28, []), (28, 60, 64, 79, 31, [(8, 2)]), (31, 2, 0, 0, 32, []), (32, 44, 41, 0, 35, [(8, 13)]), (35, 1, 2, 0, 36, []), (36, 47, 0, 0, 37, []), (37, 12, 0, 0, 38, []), (38, 1, 1, 0, 39, []), (39, 37, 44, 0, 42, []), (42, 1, 2, 0, 43, []), (43, 66, 0, 0, 44, []), (44, 28, 2, 1, 47, []), (47, 29, 7, 0, 50, []), (50, 5, 0, -1, 51, []), (51, 66, 0, 0, 52, [])]
theorem E103_ok : ∀ e ∈ E103, eChk 103 e = true := by decide +kernel
/-- RepeaterWiresModel.kindsThere()I -/
def E104 : List aE := [(0, 5, 0, 0, 1, []), (1, 3, 1, 0, 2, []), (2, 5, 0, 1, 3, []), (3, 3, 2, 0, 4, []), (4, 1, 2, 0, 5, []), (5, 5, 0, 4, 6, []), (6, 39, 33, 0, 9, []), (9, 1, 1, 0, 10, []), (10, 2, 0, 0, 11, []), (11, 1, 2, 0, 12, []), (12, 60, 96, 82, 15, [(8, 1)]), (15, 30, 24, 0, 18, []), (18, 5, 0, 1, 19, []), (19, 1, 2, 0, 20, []), (20, 19, 0, 0, 21, []), (21, 29, 25, 0, 24, []), (24, 5, 0, 0, 25, []), (25, 17, 0, 0, 26, []), (26, 3, 1, 0, 27, []), (27, 28, 2, 1, 30, []), (30, 29, 4, 0, 33, []), (33, 1, 1, 0, 34, []), (34, 66, 0, 0, 35, [])]
theorem E104_ok : ∀ e ∈ E104, eChk 104 e = true := by decide +kernel
/-- RepeaterWiresModel.told(I)I -/
def E105 : List aE := [(0, 1, 1, 0, 1, []), (1, 42, 131, 0, 56, [(0, 56), (0, 63), (0, 68), (0, 75), (0, 80), (0, 90), (0, 98), (0, 103), (0, 114), (0, 123)]), (56, 2, 0, 0, 57, []), (57, 44, 7, 0, 60, [(8, 0)]), (60, 5, 0, 0, 61, []), (61, 47, 0, 0, 62, []), (62, 66, 0, 0, 63, []), (63, 2, 0, 0, 64, []), (64, 60, 132, 102, 67, [(8, 0)]), (67, 66, 0, 0, 68, []), (68, 2, 0, 0, 69, []), (69, 44, 7, 0, 72, [(8, 0)]), (72, 5, 0, 1, 73, []), (73, 47, 0, 0, 74, []), (74, 66, 0, 0, 75, []), (75, 2, 0, 0, 76, []), (76, 60, 135, 104, 79, [(8, 0)]), (79, 66, 0, 0, 80, []), (80, 2, 0, 0, 81, []), (81, 60, 87, 85, 84, [(8, 0)]), (84, 2, 0, 0, 85, []), (85, 5, 0, 0, 86, []), (86, 60, 110, 92, 89, [(8, 1)]), (89, 66, 0, 0, 90, []), (90, 2, 0, 0, 91, []), (91, 60, 122, 93, 94, [(8, 0)]), (94, 8, 138, 1000000, 96, []), (96, 11, 0, 0, 97, []), (97, 66, 0, 0, 98, []), (98, 2, 0, 0, 99, []), (99, 60, 139, 103, 102, [(8, 0)]), (102, 66, 0, 0, 103, []), (103, 2, 0, 0, 104, []), (104, 60, 122, 93, 107, [(8, 0)]), (107, 59, 0, 0, 108, []), (108, 2, 0, 0, 109, []), (109, 5, 0, 0, 110, []), (110, 60, 107, 91, 113, [(8, 1)]), (113, 66, 0, 0, 114, []), (114, 2, 0, 0, 115, []), (115, 60, 142, 98, 118, [(8, 0)]), (118, 2, 0, 0, 119, []), (119, 44, 99, 0, 122, [(8, 18)]), (122, 66, 0, 0, 123, []), (123, 2, 0, 0, 124, []), (124, 60, 145, 99, 127, [(8, 0)]), (127, 8, 138, 1000000, 129, []), (129, 11, 0, 0, 130, []), (130, 66, 0, 0, 131, []), (131, 2, 0, 0, 132, []), (132, 1, 1, 0, 133, []), (133, 60, 148, 106, 136, [(8, 1)]), (136, 66, 0, 0, 137, [])]
theorem E105_ok : ∀ e ∈ E105, eChk 105 e = true := by decide +kernel
/-- RepeaterWiresModel.toldMore(I)I -/
def E106 : List aE := [(0, 1, 1, 0, 1, []), (1, 42, 61, 10, 36, [(0, 36), (0, 41), (0, 46), (0, 51), (0, 56)]), (36, 2, 0, 0, 37, []), (37, 60, 151, 100, 40, [(8, 0)]), (40, 66, 0, 0, 41, []), (41, 2, 0, 0, 42, []), (42, 44, 126, 0, 45, [(8, 8)]), (45, 66, 0, 0, 46, []), (46, 2, 0, 0, 47, []), (47, 60, 154, 101, 50, [(8, 0)]), (50, 66, 0, 0, 51, []), (51, 2, 0, 0, 52, []), (52, 44, 157, 0, 55, [(8, 3)]), (55, 66, 0, 0, 56, []), (56, 2, 0, 0, 57, []), (57, 44, 160, 0, 60, [(8, 1)]), (60, 66, 0, 0, 61, []), (61, 8, 163, -1000000002, 63, []), (63, 66, 0, 0, 64, [])]
theorem E106_ok : ∀ e ∈ E106, eChk 106 e = true := by decide +kernel
/-- RepeaterWiresModel.at(II)I -/
def E107 : List aE := [(0, 2, 0, 0, 1, []), (1, 1, 1, 0, 2, []), (2, 60, 129, 81, 5, [(8, 1)]), (5, 31, 11, 0, 8, []), (8, 8, 164, -1000000001, 10, []), (10, 66, 0, 0, 11, []), (11, 1, 2, 0, 12, []), (12, 5, 0, 0, 13, []), (13, 6, 0, 12, 15, []), (15, 63, 56, 78, 18, [(8, 3)]), (18, 31, 24, 0, 21, []), (21, 8, 163, -1000000002, 23, []), (23, 66, 0, 0, 24, []), (24, 1, 2, 0, 25, []), (25, 5, 0, 4, 26, []), (26, 39, 44, 0, 29, []), (29, 1, 1, 0, 30, []), (30, 31, 37, 0, 33, []), (33, 5, 0, -1, 34, []), (34, 29, 43, 0, 37, []), (37, 2, 0, 0, 38, []), (38, 1, 1, 0, 39, []), (39, 1, 2, 0, 40, []), (40, 60, 64, 79, 43, [(8, 2)]), (43, 66, 0, 0, 44, []), (44, 1, 2, 0, 45, []), (45, 6, 0, 7, 47, []), (47, 39, 69, 0, 50, []), (50, 2, 0, 0, 51, []), (51, 1, 1, 0, 52, []), (52, 60, 67, 83, 55, [(8, 1)]), (55, 30, 67, 0, 58, []), (58, 2, 0, 0, 59, []), (59, 1, 1, 0, 60, []), (60, 1, 2, 0, 61, []), (61, 60, 64, 79, 64, [(8, 2)]), (64, 29, 68, 0, 67, []), (67, 5, 0, -1, 68, []), (68, 66, 0, 0, 69, []), (69, 2, 0, 0, 70, []), (70, 60, 122, 93, 73, [(8, 0)]), (73, 59, 0, 0, 74, []), (74, 1, 2, 0, 75, []), (75, 42, 166, 7, 108, [(0, 108), (0, 116), (0, 123), (0, 130), (0, 137)]), (108, 2, 0, 0, 109, []), (109, 1, 1, 0, 110, []), (110, 6, 0, 7, 112, []), (112, 60, 64, 79, 115, [(8, 2)]), (115, 66, 0, 0, 116, []), (116, 2, 0, 0, 117, []), (117, 44, 35, 0, 120, [(8, 11)]), (120, 1, 1, 0, 121, []), (121, 47, 0, 0, 122, []), (122, 66, 0, 0, 123, []), (123, 2, 0, 0, 124, []), (124, 44, 38, 0, 127, [(8, 12)]), (127, 1, 1, 0, 128, []), (128, 47, 0, 0, 129, []), (129, 66, 0, 0, 130, []), (130, 2, 0, 0, 131, []), (131, 44, 41, 0, 134, [(8, 13)]), (134, 1, 1, 0, 135, []), (135, 47, 0, 0, 136, []), (136, 66, 0, 0, 137, []), (137, 2, 0, 0, 138, []), (138, 1, 1, 0, 139, []), (139, 60, 67, 83, 142, [(8, 1)]), (142, 30, 164, 0, 145, []), (145, 2, 0, 0, 146, []), (146, 1, 1, 0, 147, []), (147, 5, 0, 5, 148, []), (148, 60, 64, 79, 151, [(8, 2)]), (151, 2, 0, 0, 152, []), (152, 44, 41, 0, 155, [(8, 13)]), (155, 1, 1, 0, 156, []), (156, 47, 0, 0, 157, []), (157, 12, 0, 0, 158, []), (158, 8, 138, 1000000, 160, []), (160, 11, 0, 0, 161, []), (161, 29, 165, 0, 164, []), (164, 5, 0, -1, 165, []), (165, 66, 0, 0, 166, []), (166, 2, 0, 0, 167, []), (167, 44, 44, 0, 170, [(8, 14)]), (170, 1, 1, 0, 171, []), (171, 47, 0, 0, 172, []), (172, 66, 0, 0, 173, [])]
theorem E107_ok : ∀ e ∈ E107, eChk 107 e = true := by decide +kernel
/-- RepeaterWiresModel.kindAt(II)I -/
def E108 : List aE := [(0, 2, 0, 0, 1, []), (1, 1, 1, 0, 2, []), (2, 60, 96, 82, 5, [(8, 1)]), (5, 31, 13, 0, 8, []), (8, 8, 164, -1000000001, 10, []), (10, 29, 35, 0, 13, []), (13, 1, 2, 0, 14, []), (14, 5, 0, 0, 15, []), (15, 5, 0, 4, 16, []), (16, 63, 56, 78, 19, [(8, 3)]), (19, 30, 33, 0, 22, []), (22, 2, 0, 0, 23, []), (23, 1, 1, 0, 24, []), (24, 5, 0, 1, 25, []), (25, 1, 2, 0, 26, []), (26, 11, 0, 0, 27, []), (27, 60, 60, 80, 30, [(8, 2)]), (30, 29, 35, 0, 33, []), (33, 8, 163, -1000000002, 35, []), (35, 66, 0, 0, 36, [])]
theorem E108_ok : ∀ e ∈ E108, eChk 108 e = true := by decide +kernel
/-- RepeaterWiresModel.candidates(II)I -/
def E109 : List aE := [(0, 2, 0, 0, 1, []), (1, 1, 1, 0, 2, []), (2, 60, 129, 81, 5, [(8, 1)]), (5, 31, 11, 0, 8, []), (8, 8, 164, -1000000001, 10, []), (10, 66, 0, 0, 11, []), (11, 1, 2, 0, 12, []), (12, 5, 0, 0, 13, []), (13, 5, 0, 1, 14, []), (14, 63, 56, 78, 17, [(8, 3)]), (17, 31, 23, 0, 20, []), (20, 8, 163, -1000000002, 22, []), (22, 66, 0, 0, 23, []), (23, 2, 0, 0, 24, []), (24, 1, 1, 0, 25, []), (25, 1, 2, 0, 26, []), (26, 60, 165, 97, 29, [(8, 2)]), (29, 2, 0, 0, 30, []), (30, 44, 99, 0, 33, [(8, 18)]), (33, 66, 0, 0, 34, [])]
theorem E109_ok : ∀ e ∈ E109, eChk 109 e = true := by decide +kernel
/-- RepeaterWiresModel.candidate(IIII)I -/
def E110 : List aE := [(0, 2, 0, 0, 1, []), (1, 1, 1, 0, 2, []), (2, 60, 129, 81, 5, [(8, 1)]), (5, 31, 11, 0, 8, []), (8, 8, 164, -1000000001, 10, []), (10, 66, 0, 0, 11, []), (11, 1, 2, 0, 12, []), (12, 5, 0, 0, 13, []), (13, 5, 0, 1, 14, []), (14, 63, 56, 78, 17, [(8, 3)]), (17, 30, 43, 0, 20, []), (20, 2, 0, 0, 21, []), (21, 1, 1, 0, 22, []), (22, 1, 2, 0, 23, []), (23, 60, 165, 97, 26, [(8, 2)]), (26, 1, 3, 0, 27, []), (27, 5, 0, 0, 28, []), (28, 2, 0, 0, 29, []), (29, 44, 99, 0, 32, [(8, 18)]), (32, 5, 0, 1, 33, []), (33, 12, 0, 0, 34, []), (34, 63, 56, 78, 37, [(8, 3)]), (37, 31, 43, 0, 40, []), (40, 8, 164, -1000000001, 42, []), (42, 66, 0, 0, 43, []), (43, 1, 2, 0, 44, []), (44, 5, 0, 0, 45, []), (45, 5, 0, 1, 46, []), (46, 63, 56, 78, 49, [(8, 3)]), (49, 30, 62, 0, 52, []), (52, 1, 4, 0, 54, []), (54, 5, 0, 0, 55, []), (55, 5, 0, 2, 56, []), (56, 63, 56, 78, 59, [(8, 3)]), (59, 31, 65, 0, 62, []), (62, 8, 163, -1000000002, 64, []), (64, 66, 0, 0, 65, []), (65, 1, 4, 0, 67, []), (67, 31, 79, 0, 70, []), (70, 2, 0, 0, 71, []), (71, 44, 47, 0, 74, [(8, 15)]), (74, 1, 3, 0, 75, []), (75, 47, 0, 0, 76, []), (76, 29, 103, 0, 79, []), (79, 1, 4, 0, 81, []), (81, 5, 0, 1, 82, []), (82, 37, 97, 0, 85, []), (85, 2, 0, 0, 86, []), (86, 44, 50, 0, 89, [(8, 16)]), (89, 1, 3, 0, 90, []), (90, 47, 0, 0, 91, []), (91, 8, 138, 1000000, 93, []), (93, 11, 0, 0, 94, []), (94, 29, 103, 0, 97, []), (97, 2, 0, 0, 98, []), (98, 44, 53, 0, 101, [(8, 17)]), (101, 1, 3, 0, 102, []), (102, 47, 0, 0, 103, []), (103, 66, 0, 0, 104, [])]
theorem E110_ok : ∀ e ∈ E110, eChk 110 e = true := by decide +kernel
/-- RepeaterWiresModel.point(II)I -/
def E111 : List aE := [(0, 2, 0, 0, 1, []), (1, 60, 142, 98, 4, [(8, 0)]), (4, 1, 1, 0, 5, []), (5, 5, 0, 0, 6, []), (6, 2, 0, 0, 7, []), (7, 44, 99, 0, 10, [(8, 18)]), (10, 5, 0, 1, 11, []), (11, 12, 0, 0, 12, []), (12, 63, 56, 78, 15, [(8, 3)]), (15, 31, 21, 0, 18, []), (18, 8, 164, -1000000001, 20, []), (20, 66, 0, 0, 21, []), (21, 1, 2, 0, 22, []), (22, 31, 34, 0, 25, []), (25, 2, 0, 0, 26, []), (26, 44, 53, 0, 29, [(8, 17)]), (29, 1, 1, 0, 30, []), (30, 47, 0, 0, 31, []), (31, 29, 53, 0, 34, []), (34, 1, 2, 0, 35, []), (35, 5, 0, 1, 36, []), (36, 37, 51, 0, 39, []), (39, 2, 0, 0, 40, []), (40, 44, 50, 0, 43, [(8, 16)]), (43, 1, 1, 0, 44, []), (44, 47, 0, 0, 45, []), (45, 8, 138, 1000000, 47, []), (47, 11, 0, 0, 48, []), (48, 29, 53, 0, 51, []), (51, 8, 163, -1000000002, 53, []), (53, 66, 0, 0, 54, [])]
theorem E111_ok : ∀ e ∈ E111, eChk 111 e = true := by decide +kernel
/-- RepeaterWiresModel.best(I)I -/
def E112 : List aE := [(0, 1, 1, 0, 1, []), (1, 33, 7, 0, 4, []), (4, 8, 163, -1000000002, 6, []), (6, 66, 0, 0, 7, []), (7, 2, 0, 0, 8, []), (8, 60, 142, 98, 11, [(8, 0)]), (11, 5, 0, -1, 12, []), (12, 3, 2, 0, 13, []), (13, 5, 0, 0, 14, []), (14, 3, 3, 0, 15, []), (15, 1, 3, 0, 16, []), (16, 2, 0, 0, 17, []), (17, 44, 99, 0, 20, [(8, 18)]), (20, 39, 63, 0, 23, []), (23, 2, 0, 0, 24, []), (24, 44, 50, 0, 27, [(8, 16)]), (27, 1, 3, 0, 28, []), (28, 47, 0, 0, 29, []), (29, 8, 138, 1000000, 31, []), (31, 11, 0, 0, 32, []), (32, 3, 4, 0, 34, []), (34, 2, 0, 0, 35, []), (35, 44, 53, 0, 38, [(8, 17)]), (38, 1, 3, 0, 39, []), (39, 47, 0, 0, 40, []), (40, 1, 1, 0, 41, []), (41, 40, 55, 0, 44, []), (44, 1, 4, 0, 46, []), (46, 1, 2, 0, 47, []), (47, 41, 55, 0, 50, []), (50, 1, 4, 0, 52, []), (52, 29, 56, 0, 55, []), (55, 1, 2, 0, 56, []), (56, 3, 2, 0, 57, []), (57, 28, 3, 1, 60, []), (60, 29, 15, 0, 63, []), (63, 1, 2, 0, 64, []), (64, 66, 0, 0, 65, [])]
theorem E112_ok : ∀ e ∈ E112, eChk 112 e = true := by decide +kernel
/-- RepeaterWiresModel.least(I)I -/
def E113 : List aE := [(0, 2, 0, 0, 1, []), (1, 60, 142, 98, 4, [(8, 0)]), (4, 5, 0, -1, 5, []), (5, 3, 2, 0, 6, []), (6, 2, 0, 0, 7, []), (7, 44, 99, 0, 10, [(8, 18)]), (10, 5, 0, 1, 11, []), (11, 12, 0, 0, 12, []), (12, 3, 3, 0, 13, []), (13, 1, 3, 0, 14, []), (14, 32, 44, 0, 17, []), (17, 2, 0, 0, 18, []), (18, 44, 50, 0, 21, [(8, 16)]), (21, 1, 3, 0, 22, []), (22, 47, 0, 0, 23, []), (23, 1, 1, 0, 24, []), (24, 38, 36, 0, 27, []), (27, 2, 0, 0, 28, []), (28, 44, 53, 0, 31, [(8, 17)]), (31, 1, 3, 0, 32, []), (32, 47, 0, 0, 33, []), (33, 29, 37, 0, 36, []), (36, 1, 2, 0, 37, []), (37, 3, 2, 0, 38, []), (38, 28, 3, -1, 41, []), (41, 29, 13, 0, 44, []), (44, 1, 2, 0, 45, []), (45, 66, 0, 0, 46, [])]
theorem E113_ok : ∀ e ∈ E113, eChk 113 e = true := by decide +kernel
/-- RepeaterWiresModel.isPlaceable(II)Z -/
def E114 : List aE := [(0, 2, 0, 0, 1, []), (1, 1, 1, 0, 2, []), (2, 60, 129, 81, 5, [(8, 1)]), (5, 30, 24, 0, 8, []), (8, 1, 2, 0, 9, []), (9, 30, 20, 0, 12, []), (12, 2, 0, 0, 13, []), (13, 1, 2, 0, 14, []), (14, 60, 96, 82, 17, [(8, 1)]), (17, 30, 24, 0, 20, []), (20, 5, 0, 1, 21, []), (21, 29, 25, 0, 24, []), (24, 5, 0, 0, 25, []), (25, 66, 0, 0, 26, [])]
theorem E114_ok : ∀ e ∈ E114, eChk 114 e = true := by decide +kernel
/-- RepeaterWiresModel.would(II)I -/
def E115 : List aE := [(0, 2, 0, 0, 1, []), (1, 1, 1, 0, 2, []), (2, 1, 2, 0, 3, []), (3, 60, 169, 114, 6, [(8, 2)]), (6, 31, 12, 0, 9, []), (9, 8, 164, -1000000001, 11, []), (11, 66, 0, 0, 12, []), (12, 1, 1, 0, 13, []), (13, 31, 19, 0, 16, []), (16, 8, 172, -1000000003, 18, []), (18, 66, 0, 0, 19, []), (19, 2, 0, 0, 20, []), (20, 60, 87, 85, 23, [(8, 0)]), (23, 2, 0, 0, 24, []), (24, 44, 29, 0, 27, [(8, 9)]), (27, 1, 1, 0, 28, []), (28, 1, 2, 0, 29, []), (29, 48, 0, 0, 30, []), (30, 2, 0, 0, 31, []), (31, 60, 90, 89, 34, [(8, 0)]), (34, 2, 0, 0, 35, []), (35, 5, 0, 0, 36, []), (36, 60, 93, 90, 39, [(8, 1)]), (39, 8, 138, 1000000, 41, []), (41, 11, 0, 0, 42, []), (42, 66, 0, 0, 43, [])]
theorem E115_ok : ∀ e ∈ E115, eChk 115 e = true := by decide +kernel
/-- RepeaterWiresModel.deed()V -/
def E116 : List aE := [(0, 2, 0, 0, 1, []), (1, 44, 157, 0, 4, [(8, 3)]), (4, 6, 0, 16, 6, []), (6, 37, 49, 0, 9, []), (9, 5, 0, 0, 10, []), (10, 3, 1, 0, 11, []), (11, 1, 1, 0, 12, []), (12, 7, 0, 1020, 15, []), (15, 39, 39, 0, 18, []), (18, 2, 0, 0, 19, []), (19, 44, 13, 0, 22, [(8, 2)]), (22, 1, 1, 0, 23, []), (23, 2, 0, 0, 24, []), (24, 44, 13, 0, 27, [(8, 2)]), (27, 1, 1, 0, 28, []), (28, 6, 0, 68, 30, []), (30, 11, 0, 0, 31, []), (31, 47, 0, 0, 32, []), (32, 48, 0, 0, 33, []), (33, 28, 1, 1, 36, []), (36, 29, 11, 0, 39, []), (39, 2, 0, 0, 40, []), (40, 57, 0, 0, 41, []), (41, 44, 157, 0, 44, [(8, 3)]), (44, 5, 0, 1, 45, []), (45, 12, 0, 0, 46, []), (46, 45, 157, 0, 49, [(8, 3)]), (49, 5, 0, 0, 50, []), (50, 3, 1, 0, 51, []), (51, 1, 1, 0, 52, []), (52, 6, 0, 68, 54, []), (54, 39, 83, 0, 57, []), (57, 2, 0, 0, 58, []), (58, 44, 13, 0, 61, [(8, 2)]), (61, 6, 0, 68, 63, []), (63, 2, 0, 0, 64, []), (64, 44, 157, 0, 67, [(8, 3)]), (67, 13, 0, 0, 68, []), (68, 1, 1, 0, 69, []), (69, 11, 0, 0, 70, []), (70, 2, 0, 0, 71, []), (71, 44, 7, 0, 74, [(8, 0)]), (74, 1, 1, 0, 75, []), (75, 47, 0, 0, 76, []), (76, 48, 0, 0, 77, []), (77, 28, 1, 1, 80, []), (80, 29, 51, 0, 83, []), (83, 2, 0, 0, 84, []), (84, 57, 0, 0, 85, []), (85, 44, 157, 0, 88, [(8, 3)]), (88, 5, 0, 1, 89, []), (89, 11, 0, 0, 90, []), (90, 45, 157, 0, 93, [(8, 3)]), (93, 68, 0, 0, 94, [])]
theorem E116_ok : ∀ e ∈ E116, eChk 116 e = true := by decide +kernel
/-- RepeaterWiresModel.sets(III)V -/
def E117 : List aE := [(0, 2, 0, 0, 1, []), (1, 44, 7, 0, 4, [(8, 0)]), (4, 6, 0, 20, 6, []), (6, 6, 0, 8, 8, []), (8, 1, 1, 0, 9, []), (9, 13, 0, 0, 10, []), (10, 11, 0, 0, 11, []), (11, 1, 2, 0, 12, []), (12, 11, 0, 0, 13, []), (13, 1, 3, 0, 14, []), (14, 48, 0, 0, 15, []), (15, 68, 0, 0, 16, [])]
theorem E117_ok : ∀ e ∈ E117, eChk 117 e = true := by decide +kernel
/-- RepeaterWiresModel.comes(III)I -/
def E118 : List aE := [(0, 2, 0, 0, 1, []), (1, 44, 7, 0, 4, [(8, 0)]), (4, 5, 0, 0, 5, []), (5, 47, 0, 0, 6, []), (6, 3, 4, 0, 8, []), (8, 2, 0, 0, 9, []), (9, 1, 4, 0, 11, []), (11, 5, 0, 0, 12, []), (12, 1, 1, 0, 13, []), (13, 60, 173, 117, 16, [(8, 3)]), (16, 2, 0, 0, 17, []), (17, 1, 4, 0, 19, []), (19, 5, 0, 1, 20, []), (20, 1, 2, 0, 21, []), (21, 60, 173, 117, 24, [(8, 3)]), (24, 2, 0, 0, 25, []), (25, 1, 4, 0, 27, []), (27, 5, 0, 2, 28, []), (28, 1, 3, 0, 29, []), (29, 60, 173, 117, 32, [(8, 3)]), (32, 2, 0, 0, 33, []), (33, 1, 4, 0, 35, []), (35, 5, 0, 3, 36, []), (36, 5, 0, 1, 37, []), (37, 60, 173, 117, 40, [(8, 3)]), (40, 2, 0, 0, 41, []), (41, 1, 4, 0, 43, []), (43, 5, 0, 4, 44, []), (44, 5, 0, 1, 45, []), (45, 60, 173, 117, 48, [(8, 3)]), (48, 2, 0, 0, 49, []), (49, 1, 4, 0, 51, []), (51, 5, 0, 5, 52, []), (52, 6, 0, 100, 54, []), (54, 60, 173, 117, 57, [(8, 3)]), (57, 2, 0, 0, 58, []), (58, 1, 4, 0, 60, []), (60, 6, 0, 6, 62, []), (62, 5, 0, 0, 63, []), (63, 60, 173, 117, 66, [(8, 3)]), (66, 2, 0, 0, 67, []), (67, 1, 4, 0, 69, []), (69, 6, 0, 7, 71, []), (71, 5, 0, 0, 72, []), (72, 60, 173, 117, 75, [(8, 3)]), (75, 2, 0, 0, 76, []), (76, 44, 7, 0, 79, [(8, 0)]), (79, 5, 0, 0, 80, []), (80, 58, 0, 0, 81, []), (81, 47, 0, 0, 82, []), (82, 5, 0, 1, 83, []), (83, 11, 0, 0, 84, []), (84, 48, 0, 0, 85, []), (85, 1, 4, 0, 87, []), (87, 66, 0, 0, 88, [])]
theorem E118_ok : ∀ e ∈ E118, eChk 118 e = true := by decide +kernel
/-- RepeaterWiresModel.node(III)I -/
def E119 : List aE := [(0, 2, 0, 0, 1, []), (1, 1, 1, 0, 2, []), (2, 60, 129, 81, 5, [(8, 1)]), (5, 31, 11, 0, 8, []), (8, 8, 164, -1000000001, 10, []), (10, 66, 0, 0, 11, []), (11, 1, 2, 0, 12, []), (12, 5, 0, 0, 13, []), (13, 6, 0, 9, 15, []), (15, 63, 56, 78, 18, [(8, 3)]), (18, 30, 31, 0, 21, []), (21, 1, 3, 0, 22, []), (22, 5, 0, 0, 23, []), (23, 6, 0, 9, 25, []), (25, 63, 56, 78, 28, [(8, 3)]), (28, 31, 34, 0, 31, []), (31, 8, 163, -1000000002, 33, []), (33, 66, 0, 0, 34, []), (34, 2, 0, 0, 35, []), (35, 44, 7, 0, 38, [(8, 0)]), (38, 5, 0, 0, 39, []), (39, 47, 0, 0, 40, []), (40, 6, 0, 6, 42, []), (42, 37, 48, 0, 45, []), (45, 8, 176, -1000000004, 47, []), (47, 66, 0, 0, 48, []), (48, 2, 0, 0, 49, []), (49, 60, 177, 116, 52, [(8, 0)]), (52, 2, 0, 0, 53, []), (53, 1, 1, 0, 54, []), (54, 1, 2, 0, 55, []), (55, 1, 3, 0, 56, []), (56, 60, 180, 118, 59, [(8, 3)]), (59, 66, 0, 0, 60, [])]
theorem E119_ok : ∀ e ∈ E119, eChk 119 e = true := by decide +kernel
/-- RepeaterWiresModel.end(IIII)I -/
def E120 : List aE := [(0, 2, 0, 0, 1, []), (1, 1, 1, 0, 2, []), (2, 60, 129, 81, 5, [(8, 1)]), (5, 31, 11, 0, 8, []), (8, 8, 164, -1000000001, 10, []), (10, 66, 0, 0, 11, []), (11, 1, 2, 0, 12, []), (12, 5, 0, 1, 13, []), (13, 6, 0, 9, 15, []), (15, 63, 56, 78, 18, [(8, 3)]), (18, 30, 42, 0, 21, []), (21, 1, 3, 0, 22, []), (22, 5, 0, 0, 23, []), (23, 7, 0, 9999, 26, []), (26, 63, 56, 78, 29, [(8, 3)]), (29, 30, 42, 0, 32, []), (32, 1, 4, 0, 34, []), (34, 5, 0, 0, 35, []), (35, 5, 0, 1, 36, []), (36, 63, 56, 78, 39, [(8, 3)]), (39, 31, 45, 0, 42, []), (42, 8, 163, -1000000002, 44, []), (44, 66, 0, 0, 45, []), (45, 1, 1, 0, 46, []), (46, 31, 52, 0, 49, []), (49, 8, 172, -1000000003, 51, []), (51, 66, 0, 0, 52, []), (52, 2, 0, 0, 53, []), (53, 60, 177, 116, 56, [(8, 0)]), (56, 2, 0, 0, 57, []), (57, 1, 1, 0, 58, []), (58, 5, 0, 4, 59, []), (59, 1, 2, 0, 60, []), (60, 60, 173, 117, 63, [(8, 3)]), (63, 2, 0, 0, 64, []), (64, 1, 1, 0, 65, []), (65, 5, 0, 5, 66, []), (66, 1, 3, 0, 67, []), (67, 60, 173, 117, 70, [(8, 3)]), (70, 2, 0, 0, 71, []), (71, 1, 1, 0, 72, []), (72, 6, 0, 6, 74, []), (74, 1, 4, 0, 76, []), (76, 60, 173, 117, 79, [(8, 3)]), (79, 2, 0, 0, 80, []), (80, 1, 1, 0, 81, []), (81, 60, 67, 83, 84, [(8, 1)]), (84, 30, 91, 0, 87, []), (87, 5, 0, 1, 88, []), (88, 29, 92, 0, 91, []), (91, 5, 0, 0, 92, []), (92, 66, 0, 0, 93, [])]
theorem E120_ok : ∀ e ∈ E120, eChk 120 e = true := by decide +kernel
/-- RepeaterWiresModel.wire(IIII)I -/
def E121 : List aE := [(0, 2, 0, 0, 1, []), (1, 1, 1, 0, 2, []), (2, 60, 129, 81, 5, [(8, 1)]), (5, 31, 11, 0, 8, []), (8, 8, 164, -1000000001, 10, []), (10, 66, 0, 0, 11, []), (11, 1, 2, 0, 12, []), (12, 5, 0, 0, 13, []), (13, 6, 0, 9, 15, []), (15, 63, 56, 78, 18, [(8, 3)]), (18, 30, 41, 0, 21, []), (21, 1, 3, 0, 22, []), (22, 5, 0, 0, 23, []), (23, 6, 0, 9, 25, []), (25, 63, 56, 78, 28, [(8, 3)]), (28, 30, 41, 0, 31, []), (31, 1, 4, 0, 33, []), (33, 5, 0, 1, 34, []), (34, 5, 0, 2, 35, []), (35, 63, 56, 78, 38, [(8, 3)]), (38, 31, 44, 0, 41, []), (41, 8, 163, -1000000002, 43, []), (43, 66, 0, 0, 44, []), (44, 1, 1, 0, 45, []), (45, 31, 51, 0, 48, []), (48, 8, 172, -1000000003, 50, []), (50, 66, 0, 0, 51, []), (51, 2, 0, 0, 52, []), (52, 60, 177, 116, 55, [(8, 0)]), (55, 2, 0, 0, 56, []), (56, 1, 1, 0, 57, []), (57, 5, 0, 1, 58, []), (58, 1, 2, 0, 59, []), (59, 60, 173, 117, 62, [(8, 3)]), (62, 2, 0, 0, 63, []), (63, 1, 1, 0, 64, []), (64, 5, 0, 2, 65, []), (65, 1, 3, 0, 66, []), (66, 60, 173, 117, 69, [(8, 3)]), (69, 2, 0, 0, 70, []), (70, 1, 1, 0, 71, []), (71, 5, 0, 3, 72, []), (72, 1, 4, 0, 74, []), (74, 60, 173, 117, 77, [(8, 3)]), (77, 2, 0, 0, 78, []), (78, 60, 122, 93, 81, [(8, 0)]), (81, 59, 0, 0, 82, []), (82, 2, 0, 0, 83, []), (83, 44, 41, 0, 86, [(8, 13)]), (86, 1, 1, 0, 87, []), (87, 47, 0, 0, 88, []), (88, 66, 0, 0, 89, [])]
theorem E121_ok : ∀ e ∈ E121, eChk 121 e = true := by decide +kernel
/-- RepeaterWiresModel.pull(I)I -/
def E122 : List aE := [(0, 1, 1, 0, 1, []), (1, 5, 0, 0, 2, []), (2, 6, 0, 9, 4, []), (4, 63, 56, 78, 7, [(8, 3)]), (7, 31, 13, 0, 10, []), (10, 8, 163, -1000000002, 12, []), (12, 66, 0, 0, 13, []), (13, 2, 0, 0, 14, []), (14, 60, 177, 116, 17, [(8, 0)]), (17, 2, 0, 0, 18, []), (18, 44, 7, 0, 21, [(8, 0)]), (21, 5, 0, 1, 22, []), (22, 47, 0, 0, 23, []), (23, 3, 2, 0, 24, []), (24, 2, 0, 0, 25, []), (25, 44, 7, 0, 28, [(8, 0)]), (28, 5, 0, 1, 29, []), (29, 1, 1, 0, 30, []), (30, 48, 0, 0, 31, []), (31, 1, 2, 0, 32, []), (32, 66, 0, 0, 33, [])]
theorem E122_ok : ∀ e ∈ E122, eChk 122 e = true := by decide +kernel
/-- RepeaterWiresModel.kind(IIIIII)I -/
def E123 : List aE := [(0, 1, 1, 0, 1, []), (1, 5, 0, 1, 2, []), (2, 5, 0, 3, 3, []), (3, 63, 56, 78, 6, [(8, 3)]), (6, 31, 12, 0, 9, []), (9, 8, 164, -1000000001, 11, []), (11, 66, 0, 0, 12, []), (12, 1, 2, 0, 13, []), (13, 5, 0, 1, 14, []), (14, 6, 0, 9, 16, []), (16, 63, 56, 78, 19, [(8, 3)]), (19, 30, 64, 0, 22, []), (22, 1, 3, 0, 23, []), (23, 5, 0, 0, 24, []), (24, 6, 0, 9, 26, []), (26, 63, 56, 78, 29, [(8, 3)]), (29, 30, 64, 0, 32, []), (32, 1, 4, 0, 34, []), (34, 5, 0, 0, 35, []), (35, 6, 0, 99, 37, []), (37, 63, 56, 78, 40, [(8, 3)]), (40, 30, 64, 0, 43, []), (43, 1, 5, 0, 45, []), (45, 5, 0, 0, 46, []), (46, 6, 0, 99, 48, []), (48, 63, 56, 78, 51, [(8, 3)]), (51, 30, 64, 0, 54, []), (54, 1, 6, 0, 56, []), (56, 5, 0, 0, 57, []), (57, 5, 0, 1, 58, []), (58, 63, 56, 78, 61, [(8, 3)]), (61, 31, 67, 0, 64, []), (64, 8, 163, -1000000002, 66, []), (66, 66, 0, 0, 67, []), (67, 2, 0, 0, 68, []), (68, 60, 177, 116, 71, [(8, 0)]), (71, 5, 0, 2, 72, []), (72, 6, 0, 6, 74, []), (74, 1, 1, 0, 75, []), (75, 5, 0, 1, 76, []), (76, 12, 0, 0, 77, []), (77, 13, 0, 0, 78, []), (78, 11, 0, 0, 79, []), (79, 3, 7, 0, 81, []), (81, 2, 0, 0, 82, []), (82, 44, 7, 0, 85, [(8, 0)]), (85, 1, 7, 0, 87, []), (87, 5, 0, 0, 88, []), (88, 11, 0, 0, 89, []), (89, 47, 0, 0, 90, []), (90, 3, 8, 0, 92, []), (92, 2, 0, 0, 93, []), (93, 44, 7, 0, 96, [(8, 0)]), (96, 1, 7, 0, 98, []), (98, 5, 0, 0, 99, []), (99, 11, 0, 0, 100, []), (100, 5, 0, 1, 101, []), (101, 48, 0, 0, 102, []), (102, 2, 0, 0, 103, []), (103, 44, 7, 0, 106, [(8, 0)]), (106, 1, 7, 0, 108, []), (108, 5, 0, 1, 109, []), (109, 11, 0, 0, 110, []), (110, 1, 2, 0, 111, []), (111, 48, 0, 0, 112, []), (112, 2, 0, 0, 113, []), (113, 44, 7, 0, 116, [(8, 0)]), (116, 1, 7, 0, 118, []), (118, 5, 0, 2, 119, []), (119, 11, 0, 0, 120, []), (120, 1, 3, 0, 121, []), (121, 48, 0, 0, 122, []), (122, 2, 0, 0, 123, []), (123, 44, 7, 0, 126, [(8, 0)]), (126, 1, 7, 0, 128, []), (128, 5, 0, 3, 129, []), (129, 11, 0, 0, 130, []), (130, 1, 4, 0, 132, []), (132, 48, 0, 0, 133, []), (133, 2, 0, 0, 134, []), (134, 44, 7, 0, 137, [(8, 0)]), (137, 1, 7, 0, 139, []), (139, 5, 0, 4, 140, []), (140, 11, 0, 0, 141, []), (141, 1, 5, 0, 143, []), (143, 48, 0, 0, 144, []), (144, 2, 0, 0, 145, []), (145, 44, 7, 0, 148, [(8, 0)]), (148, 1, 7, 0, 150, []), (150, 5, 0, 5, 151, []), (151, 11, 0, 0, 152, []), (152, 1, 6, 0, 154, []), (154, 48, 0, 0, 155, []), (155, 1, 8, 0, 157, []), (157, 66, 0, 0, 158, [])]
theorem E123_ok : ∀ e ∈ E123, eChk 123 e = true := by decide +kernel
/-- RepeaterWiresModel.drop(I)I -/
def E124 : List aE := [(0, 2, 0, 0, 1, []), (1, 1, 1, 0, 2, []), (2, 60, 96, 82, 5, [(8, 1)]), (5, 31, 11, 0, 8, []), (8, 8, 164, -1000000001, 10, []), (10, 66, 0, 0, 11, []), (11, 5, 0, 1, 12, []), (12, 3, 2, 0, 13, []), (13, 1, 2, 0, 14, []), (14, 2, 0, 0, 15, []), (15, 44, 7, 0, 18, [(8, 0)]), (18, 5, 0, 0, 19, []), (19, 47, 0, 0, 20, []), (20, 39, 43, 0, 23, []), (23, 2, 0, 0, 24, []), (24, 1, 2, 0, 25, []), (25, 6, 0, 7, 27, []), (27, 60, 64, 79, 30, [(8, 2)]), (30, 1, 1, 0, 31, []), (31, 37, 37, 0, 34, []), (34, 8, 172, -1000000003, 36, []), (36, 66, 0, 0, 37, []), (37, 28, 2, 1, 40, []), (40, 29, 13, 0, 43, []), (43, 2, 0, 0, 44, []), (44, 60, 177, 116, 47, [(8, 0)]), (47, 2, 0, 0, 48, []), (48, 44, 7, 0, 51, [(8, 0)]), (51, 5, 0, 2, 52, []), (52, 6, 0, 6, 54, []), (54, 1, 1, 0, 55, []), (55, 5, 0, 1, 56, []), (56, 12, 0, 0, 57, []), (57, 13, 0, 0, 58, []), (58, 11, 0, 0, 59, []), (59, 5, 0, 0, 60, []), (60, 11, 0, 0, 61, []), (61, 5, 0, 0, 62, []), (62, 48, 0, 0, 63, []), (63, 2, 0, 0, 64, []), (64, 5, 0, 1, 65, []), (65, 5, 0, 0, 66, []), (66, 60, 60, 80, 69, [(8, 2)]), (69, 2, 0, 0, 70, []), (70, 5, 0, 2, 71, []), (71, 5, 0, 0, 72, []), (72, 60, 60, 80, 75, [(8, 2)]), (75, 11, 0, 0, 76, []), (76, 2, 0, 0, 77, []), (77, 5, 0, 3, 78, []), (78, 5, 0, 0, 79, []), (79, 60, 60, 80, 82, [(8, 2)]), (82, 11, 0, 0, 83, []), (83, 66, 0, 0, 84, [])]
theorem E124_ok : ∀ e ∈ E124, eChk 124 e = true := by decide +kernel
/-- RepeaterWiresModel.place(II)I -/
def E125 : List aE := [(0, 2, 0, 0, 1, []), (1, 1, 1, 0, 2, []), (2, 1, 2, 0, 3, []), (3, 60, 169, 114, 6, [(8, 2)]), (6, 31, 12, 0, 9, []), (9, 8, 164, -1000000001, 11, []), (11, 66, 0, 0, 12, []), (12, 1, 1, 0, 13, []), (13, 31, 19, 0, 16, []), (16, 8, 172, -1000000003, 18, []), (18, 66, 0, 0, 19, []), (19, 2, 0, 0, 20, []), (20, 60, 177, 116, 23, [(8, 0)]), (23, 2, 0, 0, 24, []), (24, 1, 1, 0, 25, []), (25, 6, 0, 7, 27, []), (27, 60, 64, 79, 30, [(8, 2)]), (30, 3, 3, 0, 31, []), (31, 2, 0, 0, 32, []), (32, 1, 1, 0, 33, []), (33, 6, 0, 7, 35, []), (35, 1, 2, 0, 36, []), (36, 60, 173, 117, 39, [(8, 3)]), (39, 1, 3, 0, 40, []), (40, 66, 0, 0, 41, [])]
theorem E125_ok : ∀ e ∈ E125, eChk 125 e = true := by decide +kernel
/-- RepeaterWiresModel.take()I -/
def E126 : List aE := [(0, 2, 0, 0, 1, []), (1, 44, 7, 0, 4, [(8, 0)]), (4, 5, 0, 0, 5, []), (5, 47, 0, 0, 6, []), (6, 5, 0, 1, 7, []), (7, 37, 13, 0, 10, []), (10, 8, 172, -1000000003, 12, []), (12, 66, 0, 0, 13, []), (13, 2, 0, 0, 14, []), (14, 60, 177, 116, 17, [(8, 0)]), (17, 2, 0, 0, 18, []), (18, 44, 7, 0, 21, [(8, 0)]), (21, 5, 0, 0, 22, []), (22, 58, 0, 0, 23, []), (23, 47, 0, 0, 24, []), (24, 5, 0, 1, 25, []), (25, 12, 0, 0, 26, []), (26, 48, 0, 0, 27, []), (27, 2, 0, 0, 28, []), (28, 44, 7, 0, 31, [(8, 0)]), (31, 5, 0, 0, 32, []), (32, 47, 0, 0, 33, []), (33, 66, 0, 0, 34, [])]
theorem E126_ok : ∀ e ∈ E126, eChk 126 e = true := by decide +kernel
/-- RepeaterWiresModel.change()I -/
def E127 : List aE := [(0, 2, 0, 0, 1, []), (1, 60, 151, 100, 4, [(8, 0)]), (4, 3, 1, 0, 5, []), (5, 1, 1, 0, 6, []), (6, 5, 0, -1, 7, []), (7, 37, 13, 0, 10, []), (10, 8, 172, -1000000003, 12, []), (12, 66, 0, 0, 13, []), (13, 2, 0, 0, 14, []), (14, 60, 177, 116, 17, [(8, 0)]), (17, 2, 0, 0, 18, []), (18, 1, 1, 0, 19, []), (19, 6, 0, 10, 21, []), (21, 14, 0, 0, 22, []), (22, 6, 0, 7, 24, []), (24, 1, 1, 0, 25, []), (25, 6, 0, 10, 27, []), (27, 15, 0, 0, 28, []), (28, 60, 173, 117, 31, [(8, 3)]), (31, 2, 0, 0, 32, []), (32, 60, 122, 93, 35, [(8, 0)]), (35, 8, 138, 1000000, 37, []), (37, 11, 0, 0, 38, []), (38, 66, 0, 0, 39, [])]
theorem E127_ok : ∀ e ∈ E127, eChk 127 e = true := by decide +kernel
/-- RepeaterWiresModel.draws(I)I -/
def E128 : List aE := [(0, 2, 0, 0, 1, []), (1, 2, 0, 0, 2, []), (2, 44, 160, 0, 5, [(8, 1)]), (5, 22, 0, 0, 6, []), (6, 10, 184, 1103515245, 9, []), (9, 24, 0, 0, 10, []), (10, 10, 186, 12345, 13, []), (13, 25, 0, 0, 14, []), (14, 10, 188, 2147483648, 17, []), (17, 27, 0, 0, 18, []), (18, 23, 0, 0, 19, []), (19, 45, 160, 0, 22, [(8, 1)]), (22, 2, 0, 0, 23, []), (23, 44, 160, 0, 26, [(8, 1)]), (26, 8, 190, 65536, 28, []), (28, 14, 0, 0, 29, []), (29, 1, 1, 0, 30, []), (30, 15, 0, 0, 31, []), (31, 66, 0, 0, 32, [])]
theorem E128_ok : ∀ e ∈ E128, eChk 128 e = true := by decide +kernel
/-- RepeaterWiresModel.drift(I)I -/
def E129 : List aE := [(0, 1, 1, 0, 1, []), (1, 5, 0, 1, 2, []), (2, 6, 0, 6, 4, []), (4, 63, 56, 78, 7, [(8, 3)]), (7, 31, 13, 0, 10, []), (10, 8, 163, -1000000002, 12, []), (12, 66, 0, 0, 13, []), (13, 5, 0, 0, 14, []), (14, 3, 2, 0, 15, []), (15, 1, 2, 0, 16, []), (16, 1, 1, 0, 17, []), (17, 39, 121, 0, 20, []), (20, 2, 0, 0, 21, []), (21, 44, 7, 0, 24, [(8, 0)]), (24, 5, 0, 0, 25, []), (25, 47, 0, 0, 26, []), (26, 6, 0, 6, 28, []), (28, 39, 121, 0, 31, []), (31, 2, 0, 0, 32, []), (32, 60, 177, 116, 35, [(8, 0)]), (35, 2, 0, 0, 36, []), (36, 2, 0, 0, 37, []), (37, 44, 7, 0, 40, [(8, 0)]), (40, 5, 0, 0, 41, []), (41, 47, 0, 0, 42, []), (42, 60, 191, 128, 45, [(8, 1)]), (45, 3, 3, 0, 46, []), (46, 2, 0, 0, 47, []), (47, 6, 0, 10, 49, []), (49, 60, 191, 128, 52, [(8, 1)]), (52, 3, 4, 0, 54, []), (54, 2, 0, 0, 55, []), (55, 6, 0, 10, 57, []), (57, 60, 191, 128, 60, [(8, 1)]), (60, 3, 5, 0, 62, []), (62, 2, 0, 0, 63, []), (63, 1, 3, 0, 64, []), (64, 1, 4, 0, 66, []), (66, 1, 5, 0, 68, []), (68, 60, 180, 118, 71, [(8, 3)]), (71, 3, 6, 0, 73, []), (73, 2, 0, 0, 74, []), (74, 1, 6, 0, 76, []), (76, 5, 0, 4, 77, []), (77, 5, 0, 1, 78, []), (78, 2, 0, 0, 79, []), (79, 6, 0, 9, 81, []), (81, 60, 191, 128, 84, [(8, 1)]), (84, 11, 0, 0, 85, []), (85, 60, 173, 117, 88, [(8, 3)]), (88, 2, 0, 0, 89, []), (89, 1, 6, 0, 91, []), (91, 5, 0, 5, 92, []), (92, 2, 0, 0, 93, []), (93, 7, 0, 300, 96, []), (96, 60, 191, 128, 99, [(8, 1)]), (99, 60, 173, 117, 102, [(8, 3)]), (102, 2, 0, 0, 103, []), (103, 1, 6, 0, 105, []), (105, 6, 0, 6, 107, []), (107, 2, 0, 0, 108, []), (108, 5, 0, 2, 109, []), (109, 60, 191, 128, 112, [(8, 1)]), (112, 60, 173, 117, 115, [(8, 3)]), (115, 28, 2, 1, 118, []), (118, 29, 15, 0, 121, []), (121, 2, 0, 0, 122, []), (122, 44, 7, 0, 125, [(8, 0)]), (125, 5, 0, 0, 126, []), (126, 47, 0, 0, 127, []), (127, 66, 0, 0, 128, [])]
theorem E129_ok : ∀ e ∈ E129, eChk 129 e = true := by decide +kernel
/-- RepeaterWiresModel.undo(I)I -/
def E130 : List aE := [(0, 1, 1, 0, 1, []), (1, 5, 0, 1, 2, []), (2, 6, 0, 16, 4, []), (4, 63, 56, 78, 7, [(8, 3)]), (7, 31, 13, 0, 10, []), (10, 8, 163, -1000000002, 12, []), (12, 66, 0, 0, 13, []), (13, 1, 1, 0, 14, []), (14, 2, 0, 0, 15, []), (15, 44, 157, 0, 18, [(8, 3)]), (18, 41, 24, 0, 21, []), (21, 8, 172, -1000000003, 23, []), (23, 66, 0, 0, 24, []), (24, 2, 0, 0, 25, []), (25, 57, 0, 0, 26, []), (26, 44, 157, 0, 29, [(8, 3)]), (29, 1, 1, 0, 30, []), (30, 12, 0, 0, 31, []), (31, 45, 157, 0, 34, [(8, 3)]), (34, 5, 0, 0, 35, []), (35, 3, 2, 0, 36, []), (36, 1, 2, 0, 37, []), (37, 6, 0, 68, 39, []), (39, 39, 68, 0, 42, []), (42, 2, 0, 0, 43, []), (43, 44, 7, 0, 46, [(8, 0)]), (46, 1, 2, 0, 47, []), (47, 2, 0, 0, 48, []), (48, 44, 13, 0, 51, [(8, 2)]), (51, 6, 0, 68, 53, []), (53, 2, 0, 0, 54, []), (54, 44, 157, 0, 57, [(8, 3)]), (57, 13, 0, 0, 58, []), (58, 1, 2, 0, 59, []), (59, 11, 0, 0, 60, []), (60, 47, 0, 0, 61, []), (61, 48, 0, 0, 62, []), (62, 28, 2, 1, 65, []), (65, 29, 36, 0, 68, []), (68, 2, 0, 0, 69, []), (69, 44, 157, 0, 72, [(8, 3)]), (72, 66, 0, 0, 73, [])]
theorem E130_ok : ∀ e ∈ E130, eChk 130 e = true := by decide +kernel
/-- RepeaterWiresModel.write(II)I -/
def E131 : List aE := [(0, 2, 0, 0, 1, []), (1, 1, 1, 0, 2, []), (2, 60, 129, 81, 5, [(8, 1)]), (5, 31, 11, 0, 8, []), (8, 8, 164, -1000000001, 10, []), (10, 66, 0, 0, 11, []), (11, 2, 0, 0, 12, []), (12, 44, 126, 0, 15, [(8, 8)]), (15, 6, 0, 20, 17, []), (17, 37, 23, 0, 20, []), (20, 8, 176, -1000000004, 22, []), (22, 66, 0, 0, 23, []), (23, 2, 0, 0, 24, []), (24, 44, 23, 0, 27, [(8, 6)]), (27, 2, 0, 0, 28, []), (28, 44, 126, 0, 31, [(8, 8)]), (31, 1, 1, 0, 32, []), (32, 48, 0, 0, 33, []), (33, 2, 0, 0, 34, []), (34, 44, 26, 0, 37, [(8, 7)]), (37, 2, 0, 0, 38, []), (38, 44, 126, 0, 41, [(8, 8)]), (41, 1, 2, 0, 42, []), (42, 48, 0, 0, 43, []), (43, 2, 0, 0, 44, []), (44, 57, 0, 0, 45, []), (45, 44, 126, 0, 48, [(8, 8)]), (48, 5, 0, 1, 49, []), (49, 11, 0, 0, 50, []), (50, 45, 126, 0, 53, [(8, 8)]), (53, 2, 0, 0, 54, []), (54, 44, 126, 0, 57, [(8, 8)]), (57, 66, 0, 0, 58, [])]
theorem E131_ok : ∀ e ∈ E131, eChk 131 e = true := by decide +kernel
/-- RepeaterWiresModel.tear()I -/
def E132 : List aE := [(0, 2, 0, 0, 1, []), (1, 44, 126, 0, 4, [(8, 8)]), (4, 3, 1, 0, 5, []), (5, 2, 0, 0, 6, []), (6, 5, 0, 0, 7, []), (7, 45, 126, 0, 10, [(8, 8)]), (10, 1, 1, 0, 11, []), (11, 66, 0, 0, 12, [])]
theorem E132_ok : ∀ e ∈ E132, eChk 132 e = true := by decide +kernel
/-- RepeaterWiresModel.seed(I)I -/
def E133 : List aE := [(0, 1, 1, 0, 1, []), (1, 33, 7, 0, 4, []), (4, 8, 163, -1000000002, 6, []), (6, 66, 0, 0, 7, []), (7, 2, 0, 0, 8, []), (8, 44, 160, 0, 11, [(8, 1)]), (11, 3, 2, 0, 12, []), (12, 2, 0, 0, 13, []), (13, 1, 1, 0, 14, []), (14, 45, 160, 0, 17, [(8, 1)]), (17, 1, 2, 0, 18, []), (18, 66, 0, 0, 19, [])]
theorem E133_ok : ∀ e ∈ E133, eChk 133 e = true := by decide +kernel
/-- RepeaterWiresModel.keep(I)I -/
def E134 : List aE := [(0, 1, 1, 0, 1, []), (1, 5, 0, 0, 2, []), (2, 5, 0, 1, 3, []), (3, 63, 56, 78, 6, [(8, 3)]), (6, 31, 12, 0, 9, []), (9, 8, 164, -1000000001, 11, []), (11, 66, 0, 0, 12, []), (12, 5, 0, 0, 13, []), (13, 3, 2, 0, 14, []), (14, 1, 2, 0, 15, []), (15, 6, 0, 68, 17, []), (17, 39, 43, 0, 20, []), (20, 2, 0, 0, 21, []), (21, 44, 16, 0, 24, [(8, 4)]), (24, 6, 0, 69, 26, []), (26, 1, 1, 0, 27, []), (27, 13, 0, 0, 28, []), (28, 1, 2, 0, 29, []), (29, 11, 0, 0, 30, []), (30, 2, 0, 0, 31, []), (31, 44, 7, 0, 34, [(8, 0)]), (34, 1, 2, 0, 35, []), (35, 47, 0, 0, 36, []), (36, 48, 0, 0, 37, []), (37, 28, 2, 1, 40, []), (40, 29, 14, 0, 43, []), (43, 2, 0, 0, 44, []), (44, 44, 16, 0, 47, [(8, 4)]), (47, 6, 0, 69, 49, []), (49, 1, 1, 0, 50, []), (50, 13, 0, 0, 51, []), (51, 6, 0, 68, 53, []), (53, 11, 0, 0, 54, []), (54, 2, 0, 0, 55, []), (55, 44, 160, 0, 58, [(8, 1)]), (58, 48, 0, 0, 59, []), (59, 2, 0, 0, 60, []), (60, 44, 19, 0, 63, [(8, 5)]), (63, 1, 1, 0, 64, []), (64, 5, 0, 1, 65, []), (65, 52, 0, 0, 66, []), (66, 2, 0, 0, 67, []), (67, 5, 0, 0, 68, []), (68, 45, 157, 0, 71, [(8, 3)]), (71, 5, 0, 1, 72, []), (72, 66, 0, 0, 73, [])]
theorem E134_ok : ∀ e ∈ E134, eChk 134 e = true := by decide +kernel
/-- RepeaterWiresModel.goBack(I)I -/
def E135 : List aE := [(0, 1, 1, 0, 1, []), (1, 5, 0, 0, 2, []), (2, 5, 0, 1, 3, []), (3, 63, 56, 78, 6, [(8, 3)]), (6, 31, 12, 0, 9, []), (9, 8, 164, -1000000001, 11, []), (11, 66, 0, 0, 12, []), (12, 2, 0, 0, 13, []), (13, 44, 19, 0, 16, [(8, 5)]), (16, 1, 1, 0, 17, []), (17, 51, 0, 0, 18, []), (18, 31, 24, 0, 21, []), (21, 8, 172, -1000000003, 23, []), (23, 66, 0, 0, 24, []), (24, 5, 0, 0, 25, []), (25, 3, 2, 0, 26, []), (26, 1, 2, 0, 27, []), (27, 6, 0, 68, 29, []), (29, 39, 55, 0, 32, []), (32, 2, 0, 0, 33, []), (33, 44, 7, 0, 36, [(8, 0)]), (36, 1, 2, 0, 37, []), (37, 2, 0, 0, 38, []), (38, 44, 16, 0, 41, [(8, 4)]), (41, 6, 0, 69, 43, []), (43, 1, 1, 0, 44, []), (44, 13, 0, 0, 45, []), (45, 1, 2, 0, 46, []), (46, 11, 0, 0, 47, []), (47, 47, 0, 0, 48, []), (48, 48, 0, 0, 49, []), (49, 28, 2, 1, 52, []), (52, 29, 26, 0, 55, []), (55, 2, 0, 0, 56, []), (56, 2, 0, 0, 57, []), (57, 44, 16, 0, 60, [(8, 4)]), (60, 6, 0, 69, 62, []), (62, 1, 1, 0, 63, []), (63, 13, 0, 0, 64, []), (64, 6, 0, 68, 66, []), (66, 11, 0, 0, 67, []), (67, 47, 0, 0, 68, []), (68, 45, 160, 0, 71, [(8, 1)]), (71, 2, 0, 0, 72, []), (72, 5, 0, 0, 73, []), (73, 45, 157, 0, 76, [(8, 3)]), (76, 5, 0, 1, 77, []), (77, 66, 0, 0, 78, [])]
theorem E135_ok : ∀ e ∈ E135, eChk 135 e = true := by decide +kernel
/-- java/lang/Integer.bitCount(I)I -/
def E136 : List aE := [(0, 1, 0, 0, 1, []), (1, 1, 0, 0, 2, []), (2, 5, 0, 1, 3, []), (3, 21, 0, 0, 4, []), (4, 9, 265, 1431655765, 7, []), (7, 16, 0, 0, 8, []), (8, 12, 0, 0, 9, []), (9, 3, 0, 0, 10, []), (10, 1, 0, 0, 11, []), (11, 9, 266, 858993459, 14, []), (14, 16, 0, 0, 15, []), (15, 1, 0, 0, 16, []), (16, 5, 0, 2, 17, []), (17, 21, 0, 0, 18, []), (18, 9, 266, 858993459, 21, []), (21, 16, 0, 0, 22, []), (22, 11, 0, 0, 23, []), (23, 3, 0, 0, 24, []), (24, 1, 0, 0, 25, []), (25, 1, 0, 0, 26, []), (26, 5, 0, 4, 27, []), (27, 21, 0, 0, 28, []), (28, 11, 0, 0, 29, []), (29, 9, 267, 252645135, 32, []), (32, 16, 0, 0, 33, []), (33, 3, 0, 0, 34, []), (34, 1, 0, 0, 35, []), (35, 1, 0, 0, 36, []), (36, 6, 0, 8, 38, []), (38, 21, 0, 0, 39, []), (39, 11, 0, 0, 40, []), (40, 3, 0, 0, 41, []), (41, 1, 0, 0, 42, []), (42, 1, 0, 0, 43, []), (43, 6, 0, 16, 45, []), (45, 21, 0, 0, 46, []), (46, 11, 0, 0, 47, []), (47, 3, 0, 0, 48, []), (48, 1, 0, 0, 49, []), (49, 6, 0, 63, 51, []), (51, 16, 0, 0, 52, []), (52, 66, 0, 0, 53, [])]
theorem E136_ok : ∀ e ∈ E136, eChk 136 e = true := by decide +kernel
/-- java/lang/Math.max(II)I -/
def E137 : List aE := [(0, 1, 0, 0, 1, []), (1, 1, 1, 0, 2, []), (2, 38, 9, 0, 5, []), (5, 1, 0, 0, 6, []), (6, 29, 10, 0, 9, []), (9, 1, 1, 0, 10, []), (10, 66, 0, 0, 11, [])]
theorem E137_ok : ∀ e ∈ E137, eChk 137 e = true := by decide +kernel
/-- java/lang/Math.min(II)I -/
def E138 : List aE := [(0, 1, 0, 0, 1, []), (1, 1, 1, 0, 2, []), (2, 40, 9, 0, 5, []), (5, 1, 0, 0, 6, []), (6, 29, 10, 0, 9, []), (9, 1, 1, 0, 10, []), (10, 66, 0, 0, 11, [])]
theorem E138_ok : ∀ e ∈ E138, eChk 138 e = true := by decide +kernel
/-- java/util/Arrays.copyOf([II)[I -/
def E139 : List aE := [(0, 1, 1, 0, 1, []), (1, 2, 0, 0, 2, []), (2, 53, 0, 0, 3, []), (3, 37, 14, 0, 6, []), (6, 2, 0, 0, 7, []), (13, 67, 0, 0, 14, []), (14, 1, 1, 0, 15, []), (15, 54, 0, 9, 17, []), (17, 4, 2, 0, 18, []), (18, 2, 0, 0, 19, []), (19, 5, 0, 0, 20, []), (20, 2, 2, 0, 21, []), (21, 5, 0, 0, 22, []), (22, 2, 0, 0, 23, []), (23, 53, 0, 0, 24, []), (24, 1, 1, 0, 25, []), (25, 63, 304, 138, 28, [(11, 2)]), (28, 65, 150, 0, 31, []), (31, 2, 2, 0, 32, []), (32, 67, 0, 0, 33, [])]
theorem E139_ok : ∀ e ∈ E139, eChk 139 e = true := by decide +kernel
end
section
/-! the code of the law; printed by wip/whole/gen.py -/
def E140_0 : List aE := [(0, 56, 7, 7, 3, []), (3, 57, 0, 0, 4, []), (4, 61, 9, 43, 7, [(7, 0)]), (7, 4, 1, 0, 8, []), (8, 56, 10, 8, 11, []), (11, 57, 0, 0, 12, []), (12, 61, 12, 77, 15, [(8, 0)]), (15, 4, 2, 0, 16, []), (16, 5, 0, 0, 17, []), (17, 3, 3, 0, 18, []), (18, 1, 3, 0, 19, []), (19, 2, 0, 0, 20, []), (20, 53, 0, 0, 21, []), (21, 6, 0, 7, 23, []), (23, 12, 0, 0, 24, []), (24, 40, 931, 0, 27, []), (27, 2, 0, 0, 28, []), (28, 1, 3, 0, 29, []), (29, 47, 0, 0, 30, []), (30, 6, 0, 31, 32, []), (32, 16, 0, 0, 33, []), (33, 42, 925, 0, 148, [(0, 148), (0, 171), (0, 204), (0, 237), (0, 270), (0, 323), (0, 356), (0, 379), (0, 402), (0, 435), (0, 478), (0, 531), (0, 584), (0, 607), (0, 682), (0, 705), (0, 738), (0, 751), (0, 764), (0, 787), (0, 810), (0, 843), (0, 856), (0, 879), (0, 902)]), (148, 2, 1, 0, 149, []), (149, 2, 0, 0, 150, []), (150, 1, 3, 0, 151, []), (151, 5, 0, 1, 152, []), (152, 11, 0, 0, 153, []), (153, 47, 0, 0, 154, []), (154, 60, 13, 44, 157, [(7, 1)]), (157, 2, 2, 0, 158, []), (158, 2, 0, 0, 159, []), (159, 1, 3, 0, 160, []), (160, 5, 0, 1, 161, []), (161, 11, 0, 0, 162, []), (162, 47, 0, 0, 163, []), (163, 60, 17, 105, 166, [(8, 1)]), (166, 36, 925, 0, 169, []), (169, 5, 0, 0, 170, []), (170, 66, 0, 0, 171, []), (171, 2, 1, 0, 172, [])]
theorem E140_0_ok : ∀ e ∈ E140_0, eChk 140 e = true := by decide +kernel
def E140_1 : List aE := [(172, 2, 0, 0, 173, []), (173, 1, 3, 0, 174, []), (174, 5, 0, 1, 175, []), (175, 11, 0, 0, 176, []), (176, 47, 0, 0, 177, []), (177, 2, 0, 0, 178, []), (178, 1, 3, 0, 179, []), (179, 5, 0, 2, 180, []), (180, 11, 0, 0, 181, []), (181, 47, 0, 0, 182, []), (182, 60, 18, 45, 185, [(7, 2)]), (185, 2, 2, 0, 186, []), (186, 2, 0, 0, 187, []), (187, 1, 3, 0, 188, []), (188, 5, 0, 1, 189, []), (189, 11, 0, 0, 190, []), (190, 47, 0, 0, 191, []), (191, 2, 0, 0, 192, []), (192, 1, 3, 0, 193, []), (193, 5, 0, 2, 194, []), (194, 11, 0, 0, 195, []), (195, 47, 0, 0, 196, []), (196, 60, 22, 107, 199, [(8, 2)]), (199, 36, 925, 0, 202, []), (202, 5, 0, 0, 203, []), (203, 66, 0, 0, 204, []), (204, 2, 1, 0, 205, []), (205, 2, 0, 0, 206, []), (206, 1, 3, 0, 207, []), (207, 5, 0, 1, 208, []), (208, 11, 0, 0, 209, []), (209, 47, 0, 0, 210, []), (210, 2, 0, 0, 211, []), (211, 1, 3, 0, 212, []), (212, 5, 0, 2, 213, []), (213, 11, 0, 0, 214, []), (214, 47, 0, 0, 215, []), (215, 60, 23, 46, 218, [(7, 2)]), (218, 2, 2, 0, 219, []), (219, 2, 0, 0, 220, [])]
theorem E140_1_ok : ∀ e ∈ E140_1, eChk 140 e = true := by decide +kernel
def E140_2 : List aE := [(220, 1, 3, 0, 221, []), (221, 5, 0, 1, 222, []), (222, 11, 0, 0, 223, []), (223, 47, 0, 0, 224, []), (224, 2, 0, 0, 225, []), (225, 1, 3, 0, 226, []), (226, 5, 0, 2, 227, []), (227, 11, 0, 0, 228, []), (228, 47, 0, 0, 229, []), (229, 60, 26, 108, 232, [(8, 2)]), (232, 36, 925, 0, 235, []), (235, 5, 0, 0, 236, []), (236, 66, 0, 0, 237, []), (237, 2, 1, 0, 238, []), (238, 2, 0, 0, 239, []), (239, 1, 3, 0, 240, []), (240, 5, 0, 1, 241, []), (241, 11, 0, 0, 242, []), (242, 47, 0, 0, 243, []), (243, 2, 0, 0, 244, []), (244, 1, 3, 0, 245, []), (245, 5, 0, 2, 246, []), (246, 11, 0, 0, 247, []), (247, 47, 0, 0, 248, []), (248, 60, 27, 47, 251, [(7, 2)]), (251, 2, 2, 0, 252, []), (252, 2, 0, 0, 253, []), (253, 1, 3, 0, 254, []), (254, 5, 0, 1, 255, []), (255, 11, 0, 0, 256, []), (256, 47, 0, 0, 257, []), (257, 2, 0, 0, 258, []), (258, 1, 3, 0, 259, []), (259, 5, 0, 2, 260, []), (260, 11, 0, 0, 261, []), (261, 47, 0, 0, 262, []), (262, 60, 30, 109, 265, [(8, 2)]), (265, 36, 925, 0, 268, []), (268, 5, 0, 0, 269, []), (269, 66, 0, 0, 270, [])]
theorem E140_2_ok : ∀ e ∈ E140_2, eChk 140 e = true := by decide +kernel
def E140_3 : List aE := [(270, 2, 1, 0, 271, []), (271, 2, 0, 0, 272, []), (272, 1, 3, 0, 273, []), (273, 5, 0, 1, 274, []), (274, 11, 0, 0, 275, []), (275, 47, 0, 0, 276, []), (276, 2, 0, 0, 277, []), (277, 1, 3, 0, 278, []), (278, 5, 0, 2, 279, []), (279, 11, 0, 0, 280, []), (280, 47, 0, 0, 281, []), (281, 2, 0, 0, 282, []), (282, 1, 3, 0, 283, []), (283, 5, 0, 3, 284, []), (284, 11, 0, 0, 285, []), (285, 47, 0, 0, 286, []), (286, 2, 0, 0, 287, []), (287, 1, 3, 0, 288, []), (288, 5, 0, 4, 289, []), (289, 11, 0, 0, 290, []), (290, 47, 0, 0, 291, []), (291, 60, 31, 48, 294, [(7, 4)]), (294, 2, 2, 0, 295, []), (295, 2, 0, 0, 296, []), (296, 1, 3, 0, 297, []), (297, 5, 0, 1, 298, []), (298, 11, 0, 0, 299, []), (299, 47, 0, 0, 300, []), (300, 2, 0, 0, 301, []), (301, 1, 3, 0, 302, []), (302, 5, 0, 2, 303, []), (303, 11, 0, 0, 304, []), (304, 47, 0, 0, 305, []), (305, 2, 0, 0, 306, []), (306, 1, 3, 0, 307, []), (307, 5, 0, 3, 308, []), (308, 11, 0, 0, 309, []), (309, 47, 0, 0, 310, []), (310, 2, 0, 0, 311, []), (311, 1, 3, 0, 312, [])]
theorem E140_3_ok : ∀ e ∈ E140_3, eChk 140 e = true := by decide +kernel
def E140_4 : List aE := [(312, 5, 0, 4, 313, []), (313, 11, 0, 0, 314, []), (314, 47, 0, 0, 315, []), (315, 60, 35, 110, 318, [(8, 4)]), (318, 36, 925, 0, 321, []), (321, 5, 0, 0, 322, []), (322, 66, 0, 0, 323, []), (323, 2, 1, 0, 324, []), (324, 2, 0, 0, 325, []), (325, 1, 3, 0, 326, []), (326, 5, 0, 1, 327, []), (327, 11, 0, 0, 328, []), (328, 47, 0, 0, 329, []), (329, 2, 0, 0, 330, []), (330, 1, 3, 0, 331, []), (331, 5, 0, 2, 332, []), (332, 11, 0, 0, 333, []), (333, 47, 0, 0, 334, []), (334, 60, 36, 49, 337, [(7, 2)]), (337, 2, 2, 0, 338, []), (338, 2, 0, 0, 339, []), (339, 1, 3, 0, 340, []), (340, 5, 0, 1, 341, []), (341, 11, 0, 0, 342, []), (342, 47, 0, 0, 343, []), (343, 2, 0, 0, 344, []), (344, 1, 3, 0, 345, []), (345, 5, 0, 2, 346, []), (346, 11, 0, 0, 347, []), (347, 47, 0, 0, 348, []), (348, 60, 39, 111, 351, [(8, 2)]), (351, 36, 925, 0, 354, []), (354, 5, 0, 0, 355, []), (355, 66, 0, 0, 356, []), (356, 2, 1, 0, 357, []), (357, 2, 0, 0, 358, []), (358, 1, 3, 0, 359, []), (359, 5, 0, 1, 360, []), (360, 11, 0, 0, 361, []), (361, 47, 0, 0, 362, [])]
theorem E140_4_ok : ∀ e ∈ E140_4, eChk 140 e = true := by decide +kernel
def E140_5 : List aE := [(362, 60, 40, 50, 365, [(7, 1)]), (365, 2, 2, 0, 366, []), (366, 2, 0, 0, 367, []), (367, 1, 3, 0, 368, []), (368, 5, 0, 1, 369, []), (369, 11, 0, 0, 370, []), (370, 47, 0, 0, 371, []), (371, 60, 43, 112, 374, [(8, 1)]), (374, 36, 925, 0, 377, []), (377, 5, 0, 0, 378, []), (378, 66, 0, 0, 379, []), (379, 2, 1, 0, 380, []), (380, 2, 0, 0, 381, []), (381, 1, 3, 0, 382, []), (382, 5, 0, 1, 383, []), (383, 11, 0, 0, 384, []), (384, 47, 0, 0, 385, []), (385, 60, 44, 51, 388, [(7, 1)]), (388, 2, 2, 0, 389, []), (389, 2, 0, 0, 390, []), (390, 1, 3, 0, 391, []), (391, 5, 0, 1, 392, []), (392, 11, 0, 0, 393, []), (393, 47, 0, 0, 394, []), (394, 60, 47, 113, 397, [(8, 1)]), (397, 36, 925, 0, 400, []), (400, 5, 0, 0, 401, []), (401, 66, 0, 0, 402, []), (402, 2, 1, 0, 403, []), (403, 2, 0, 0, 404, []), (404, 1, 3, 0, 405, []), (405, 5, 0, 1, 406, []), (406, 11, 0, 0, 407, []), (407, 47, 0, 0, 408, []), (408, 2, 0, 0, 409, []), (409, 1, 3, 0, 410, []), (410, 5, 0, 2, 411, []), (411, 11, 0, 0, 412, []), (412, 47, 0, 0, 413, []), (413, 60, 48, 52, 416, [(7, 2)])]
theorem E140_5_ok : ∀ e ∈ E140_5, eChk 140 e = true := by decide +kernel
def E140_6 : List aE := [(416, 2, 2, 0, 417, []), (417, 2, 0, 0, 418, []), (418, 1, 3, 0, 419, []), (419, 5, 0, 1, 420, []), (420, 11, 0, 0, 421, []), (421, 47, 0, 0, 422, []), (422, 2, 0, 0, 423, []), (423, 1, 3, 0, 424, []), (424, 5, 0, 2, 425, []), (425, 11, 0, 0, 426, []), (426, 47, 0, 0, 427, []), (427, 60, 51, 115, 430, [(8, 2)]), (430, 36, 925, 0, 433, []), (433, 5, 0, 0, 434, []), (434, 66, 0, 0, 435, []), (435, 2, 1, 0, 436, []), (436, 2, 0, 0, 437, []), (437, 1, 3, 0, 438, []), (438, 5, 0, 1, 439, []), (439, 11, 0, 0, 440, []), (440, 47, 0, 0, 441, []), (441, 2, 0, 0, 442, []), (442, 1, 3, 0, 443, []), (443, 5, 0, 2, 444, []), (444, 11, 0, 0, 445, []), (445, 47, 0, 0, 446, []), (446, 2, 0, 0, 447, []), (447, 1, 3, 0, 448, []), (448, 5, 0, 3, 449, []), (449, 11, 0, 0, 450, []), (450, 47, 0, 0, 451, []), (451, 60, 52, 53, 454, [(7, 3)]), (454, 2, 2, 0, 455, []), (455, 2, 0, 0, 456, []), (456, 1, 3, 0, 457, []), (457, 5, 0, 1, 458, []), (458, 11, 0, 0, 459, []), (459, 47, 0, 0, 460, []), (460, 2, 0, 0, 461, []), (461, 1, 3, 0, 462, [])]
theorem E140_6_ok : ∀ e ∈ E140_6, eChk 140 e = true := by decide +kernel
def E140_7 : List aE := [(462, 5, 0, 2, 463, []), (463, 11, 0, 0, 464, []), (464, 47, 0, 0, 465, []), (465, 2, 0, 0, 466, []), (466, 1, 3, 0, 467, []), (467, 5, 0, 3, 468, []), (468, 11, 0, 0, 469, []), (469, 47, 0, 0, 470, []), (470, 60, 56, 119, 473, [(8, 3)]), (473, 36, 925, 0, 476, []), (476, 5, 0, 0, 477, []), (477, 66, 0, 0, 478, []), (478, 2, 1, 0, 479, []), (479, 2, 0, 0, 480, []), (480, 1, 3, 0, 481, []), (481, 5, 0, 1, 482, []), (482, 11, 0, 0, 483, []), (483, 47, 0, 0, 484, []), (484, 2, 0, 0, 485, []), (485, 1, 3, 0, 486, []), (486, 5, 0, 2, 487, []), (487, 11, 0, 0, 488, []), (488, 47, 0, 0, 489, []), (489, 2, 0, 0, 490, []), (490, 1, 3, 0, 491, []), (491, 5, 0, 3, 492, []), (492, 11, 0, 0, 493, []), (493, 47, 0, 0, 494, []), (494, 2, 0, 0, 495, []), (495, 1, 3, 0, 496, []), (496, 5, 0, 4, 497, []), (497, 11, 0, 0, 498, []), (498, 47, 0, 0, 499, []), (499, 60, 57, 54, 502, [(7, 4)]), (502, 2, 2, 0, 503, []), (503, 2, 0, 0, 504, []), (504, 1, 3, 0, 505, []), (505, 5, 0, 1, 506, []), (506, 11, 0, 0, 507, []), (507, 47, 0, 0, 508, [])]
theorem E140_7_ok : ∀ e ∈ E140_7, eChk 140 e = true := by decide +kernel
def E140_8 : List aE := [(508, 2, 0, 0, 509, []), (509, 1, 3, 0, 510, []), (510, 5, 0, 2, 511, []), (511, 11, 0, 0, 512, []), (512, 47, 0, 0, 513, []), (513, 2, 0, 0, 514, []), (514, 1, 3, 0, 515, []), (515, 5, 0, 3, 516, []), (516, 11, 0, 0, 517, []), (517, 47, 0, 0, 518, []), (518, 2, 0, 0, 519, []), (519, 1, 3, 0, 520, []), (520, 5, 0, 4, 521, []), (521, 11, 0, 0, 522, []), (522, 47, 0, 0, 523, []), (523, 60, 60, 120, 526, [(8, 4)]), (526, 36, 925, 0, 529, []), (529, 5, 0, 0, 530, []), (530, 66, 0, 0, 531, []), (531, 2, 1, 0, 532, []), (532, 2, 0, 0, 533, []), (533, 1, 3, 0, 534, []), (534, 5, 0, 1, 535, []), (535, 11, 0, 0, 536, []), (536, 47, 0, 0, 537, []), (537, 2, 0, 0, 538, []), (538, 1, 3, 0, 539, []), (539, 5, 0, 2, 540, []), (540, 11, 0, 0, 541, []), (541, 47, 0, 0, 542, []), (542, 2, 0, 0, 543, []), (543, 1, 3, 0, 544, []), (544, 5, 0, 3, 545, []), (545, 11, 0, 0, 546, []), (546, 47, 0, 0, 547, []), (547, 2, 0, 0, 548, []), (548, 1, 3, 0, 549, []), (549, 5, 0, 4, 550, []), (550, 11, 0, 0, 551, []), (551, 47, 0, 0, 552, [])]
theorem E140_8_ok : ∀ e ∈ E140_8, eChk 140 e = true := by decide +kernel
def E140_9 : List aE := [(552, 60, 61, 55, 555, [(7, 4)]), (555, 2, 2, 0, 556, []), (556, 2, 0, 0, 557, []), (557, 1, 3, 0, 558, []), (558, 5, 0, 1, 559, []), (559, 11, 0, 0, 560, []), (560, 47, 0, 0, 561, []), (561, 2, 0, 0, 562, []), (562, 1, 3, 0, 563, []), (563, 5, 0, 2, 564, []), (564, 11, 0, 0, 565, []), (565, 47, 0, 0, 566, []), (566, 2, 0, 0, 567, []), (567, 1, 3, 0, 568, []), (568, 5, 0, 3, 569, []), (569, 11, 0, 0, 570, []), (570, 47, 0, 0, 571, []), (571, 2, 0, 0, 572, []), (572, 1, 3, 0, 573, []), (573, 5, 0, 4, 574, []), (574, 11, 0, 0, 575, []), (575, 47, 0, 0, 576, []), (576, 60, 64, 121, 579, [(8, 4)]), (579, 36, 925, 0, 582, []), (582, 5, 0, 0, 583, []), (583, 66, 0, 0, 584, []), (584, 2, 1, 0, 585, []), (585, 2, 0, 0, 586, []), (586, 1, 3, 0, 587, []), (587, 5, 0, 1, 588, []), (588, 11, 0, 0, 589, []), (589, 47, 0, 0, 590, []), (590, 60, 65, 56, 593, [(7, 1)]), (593, 2, 2, 0, 594, []), (594, 2, 0, 0, 595, []), (595, 1, 3, 0, 596, []), (596, 5, 0, 1, 597, []), (597, 11, 0, 0, 598, []), (598, 47, 0, 0, 599, []), (599, 60, 68, 122, 602, [(8, 1)])]
theorem E140_9_ok : ∀ e ∈ E140_9, eChk 140 e = true := by decide +kernel
def E140_10 : List aE := [(602, 36, 925, 0, 605, []), (605, 5, 0, 0, 606, []), (606, 66, 0, 0, 607, []), (607, 2, 1, 0, 608, []), (608, 2, 0, 0, 609, []), (609, 1, 3, 0, 610, []), (610, 5, 0, 1, 611, []), (611, 11, 0, 0, 612, []), (612, 47, 0, 0, 613, []), (613, 2, 0, 0, 614, []), (614, 1, 3, 0, 615, []), (615, 5, 0, 2, 616, []), (616, 11, 0, 0, 617, []), (617, 47, 0, 0, 618, []), (618, 2, 0, 0, 619, []), (619, 1, 3, 0, 620, []), (620, 5, 0, 3, 621, []), (621, 11, 0, 0, 622, []), (622, 47, 0, 0, 623, []), (623, 2, 0, 0, 624, []), (624, 1, 3, 0, 625, []), (625, 5, 0, 4, 626, []), (626, 11, 0, 0, 627, []), (627, 47, 0, 0, 628, []), (628, 2, 0, 0, 629, []), (629, 1, 3, 0, 630, []), (630, 5, 0, 5, 631, []), (631, 11, 0, 0, 632, []), (632, 47, 0, 0, 633, []), (633, 2, 0, 0, 634, []), (634, 1, 3, 0, 635, []), (635, 6, 0, 6, 637, []), (637, 11, 0, 0, 638, []), (638, 47, 0, 0, 639, []), (639, 60, 69, 57, 642, [(7, 6)]), (642, 2, 2, 0, 643, []), (643, 2, 0, 0, 644, []), (644, 1, 3, 0, 645, []), (645, 5, 0, 1, 646, []), (646, 11, 0, 0, 647, [])]
theorem E140_10_ok : ∀ e ∈ E140_10, eChk 140 e = true := by decide +kernel
def E140_11 : List aE := [(647, 47, 0, 0, 648, []), (648, 2, 0, 0, 649, []), (649, 1, 3, 0, 650, []), (650, 5, 0, 2, 651, []), (651, 11, 0, 0, 652, []), (652, 47, 0, 0, 653, []), (653, 2, 0, 0, 654, []), (654, 1, 3, 0, 655, []), (655, 5, 0, 3, 656, []), (656, 11, 0, 0, 657, []), (657, 47, 0, 0, 658, []), (658, 2, 0, 0, 659, []), (659, 1, 3, 0, 660, []), (660, 5, 0, 4, 661, []), (661, 11, 0, 0, 662, []), (662, 47, 0, 0, 663, []), (663, 2, 0, 0, 664, []), (664, 1, 3, 0, 665, []), (665, 5, 0, 5, 666, []), (666, 11, 0, 0, 667, []), (667, 47, 0, 0, 668, []), (668, 2, 0, 0, 669, []), (669, 1, 3, 0, 670, []), (670, 6, 0, 6, 672, []), (672, 11, 0, 0, 673, []), (673, 47, 0, 0, 674, []), (674, 60, 73, 123, 677, [(8, 6)]), (677, 36, 925, 0, 680, []), (680, 5, 0, 0, 681, []), (681, 66, 0, 0, 682, []), (682, 2, 1, 0, 683, []), (683, 2, 0, 0, 684, []), (684, 1, 3, 0, 685, []), (685, 5, 0, 1, 686, []), (686, 11, 0, 0, 687, []), (687, 47, 0, 0, 688, []), (688, 60, 74, 58, 691, [(7, 1)]), (691, 2, 2, 0, 692, []), (692, 2, 0, 0, 693, []), (693, 1, 3, 0, 694, [])]
theorem E140_11_ok : ∀ e ∈ E140_11, eChk 140 e = true := by decide +kernel
def E140_12 : List aE := [(694, 5, 0, 1, 695, []), (695, 11, 0, 0, 696, []), (696, 47, 0, 0, 697, []), (697, 60, 77, 124, 700, [(8, 1)]), (700, 36, 925, 0, 703, []), (703, 5, 0, 0, 704, []), (704, 66, 0, 0, 705, []), (705, 2, 1, 0, 706, []), (706, 2, 0, 0, 707, []), (707, 1, 3, 0, 708, []), (708, 5, 0, 1, 709, []), (709, 11, 0, 0, 710, []), (710, 47, 0, 0, 711, []), (711, 2, 0, 0, 712, []), (712, 1, 3, 0, 713, []), (713, 5, 0, 2, 714, []), (714, 11, 0, 0, 715, []), (715, 47, 0, 0, 716, []), (716, 60, 78, 59, 719, [(7, 2)]), (719, 2, 2, 0, 720, []), (720, 2, 0, 0, 721, []), (721, 1, 3, 0, 722, []), (722, 5, 0, 1, 723, []), (723, 11, 0, 0, 724, []), (724, 47, 0, 0, 725, []), (725, 2, 0, 0, 726, []), (726, 1, 3, 0, 727, []), (727, 5, 0, 2, 728, []), (728, 11, 0, 0, 729, []), (729, 47, 0, 0, 730, []), (730, 60, 81, 125, 733, [(8, 2)]), (733, 36, 925, 0, 736, []), (736, 5, 0, 0, 737, []), (737, 66, 0, 0, 738, []), (738, 2, 1, 0, 739, []), (739, 60, 82, 60, 742, [(7, 0)]), (742, 2, 2, 0, 743, []), (743, 60, 86, 126, 746, [(8, 0)]), (746, 36, 925, 0, 749, []), (749, 5, 0, 0, 750, [])]
theorem E140_12_ok : ∀ e ∈ E140_12, eChk 140 e = true := by decide +kernel
def E140_13 : List aE := [(750, 66, 0, 0, 751, []), (751, 2, 1, 0, 752, []), (752, 60, 87, 61, 755, [(7, 0)]), (755, 2, 2, 0, 756, []), (756, 60, 90, 127, 759, [(8, 0)]), (759, 36, 925, 0, 762, []), (762, 5, 0, 0, 763, []), (763, 66, 0, 0, 764, []), (764, 2, 1, 0, 765, []), (765, 2, 0, 0, 766, []), (766, 1, 3, 0, 767, []), (767, 5, 0, 1, 768, []), (768, 11, 0, 0, 769, []), (769, 47, 0, 0, 770, []), (770, 60, 91, 62, 773, [(7, 1)]), (773, 2, 2, 0, 774, []), (774, 2, 0, 0, 775, []), (775, 1, 3, 0, 776, []), (776, 5, 0, 1, 777, []), (777, 11, 0, 0, 778, []), (778, 47, 0, 0, 779, []), (779, 60, 94, 129, 782, [(8, 1)]), (782, 36, 925, 0, 785, []), (785, 5, 0, 0, 786, []), (786, 66, 0, 0, 787, []), (787, 2, 1, 0, 788, []), (788, 2, 0, 0, 789, []), (789, 1, 3, 0, 790, []), (790, 5, 0, 1, 791, []), (791, 11, 0, 0, 792, []), (792, 47, 0, 0, 793, []), (793, 60, 95, 63, 796, [(7, 1)]), (796, 2, 2, 0, 797, []), (797, 2, 0, 0, 798, []), (798, 1, 3, 0, 799, []), (799, 5, 0, 1, 800, []), (800, 11, 0, 0, 801, []), (801, 47, 0, 0, 802, []), (802, 60, 98, 130, 805, [(8, 1)]), (805, 36, 925, 0, 808, [])]
theorem E140_13_ok : ∀ e ∈ E140_13, eChk 140 e = true := by decide +kernel
def E140_14 : List aE := [(808, 5, 0, 0, 809, []), (809, 66, 0, 0, 810, []), (810, 2, 1, 0, 811, []), (811, 2, 0, 0, 812, []), (812, 1, 3, 0, 813, []), (813, 5, 0, 1, 814, []), (814, 11, 0, 0, 815, []), (815, 47, 0, 0, 816, []), (816, 2, 0, 0, 817, []), (817, 1, 3, 0, 818, []), (818, 5, 0, 2, 819, []), (819, 11, 0, 0, 820, []), (820, 47, 0, 0, 821, []), (821, 60, 99, 64, 824, [(7, 2)]), (824, 2, 2, 0, 825, []), (825, 2, 0, 0, 826, []), (826, 1, 3, 0, 827, []), (827, 5, 0, 1, 828, []), (828, 11, 0, 0, 829, []), (829, 47, 0, 0, 830, []), (830, 2, 0, 0, 831, []), (831, 1, 3, 0, 832, []), (832, 5, 0, 2, 833, []), (833, 11, 0, 0, 834, []), (834, 47, 0, 0, 835, []), (835, 60, 102, 131, 838, [(8, 2)]), (838, 36, 925, 0, 841, []), (841, 5, 0, 0, 842, []), (842, 66, 0, 0, 843, []), (843, 2, 1, 0, 844, []), (844, 60, 103, 65, 847, [(7, 0)]), (847, 2, 2, 0, 848, []), (848, 60, 106, 132, 851, [(8, 0)]), (851, 36, 925, 0, 854, []), (854, 5, 0, 0, 855, []), (855, 66, 0, 0, 856, []), (856, 2, 1, 0, 857, []), (857, 2, 0, 0, 858, []), (858, 1, 3, 0, 859, []), (859, 5, 0, 1, 860, [])]
theorem E140_14_ok : ∀ e ∈ E140_14, eChk 140 e = true := by decide +kernel
def E140_15 : List aE := [(860, 11, 0, 0, 861, []), (861, 47, 0, 0, 862, []), (862, 60, 107, 66, 865, [(7, 1)]), (865, 2, 2, 0, 866, []), (866, 2, 0, 0, 867, []), (867, 1, 3, 0, 868, []), (868, 5, 0, 1, 869, []), (869, 11, 0, 0, 870, []), (870, 47, 0, 0, 871, []), (871, 60, 110, 133, 874, [(8, 1)]), (874, 36, 925, 0, 877, []), (877, 5, 0, 0, 878, []), (878, 66, 0, 0, 879, []), (879, 2, 1, 0, 880, []), (880, 2, 0, 0, 881, []), (881, 1, 3, 0, 882, []), (882, 5, 0, 1, 883, []), (883, 11, 0, 0, 884, []), (884, 47, 0, 0, 885, []), (885, 60, 111, 67, 888, [(7, 1)]), (888, 2, 2, 0, 889, []), (889, 2, 0, 0, 890, []), (890, 1, 3, 0, 891, []), (891, 5, 0, 1, 892, []), (892, 11, 0, 0, 893, []), (893, 47, 0, 0, 894, []), (894, 60, 114, 134, 897, [(8, 1)]), (897, 36, 925, 0, 900, []), (900, 5, 0, 0, 901, []), (901, 66, 0, 0, 902, []), (902, 2, 1, 0, 903, []), (903, 2, 0, 0, 904, []), (904, 1, 3, 0, 905, []), (905, 5, 0, 1, 906, []), (906, 11, 0, 0, 907, []), (907, 47, 0, 0, 908, []), (908, 60, 115, 68, 911, [(7, 1)]), (911, 2, 2, 0, 912, []), (912, 2, 0, 0, 913, []), (913, 1, 3, 0, 914, [])]
theorem E140_15_ok : ∀ e ∈ E140_15, eChk 140 e = true := by decide +kernel
def E140_16 : List aE := [(914, 5, 0, 1, 915, []), (915, 11, 0, 0, 916, []), (916, 47, 0, 0, 917, []), (917, 60, 118, 135, 920, [(8, 1)]), (920, 36, 925, 0, 923, []), (923, 5, 0, 0, 924, []), (924, 66, 0, 0, 925, []), (925, 28, 3, 7, 928, []), (928, 29, 18, 0, 931, []), (931, 5, 0, 1, 932, []), (932, 66, 0, 0, 933, [])]
theorem E140_16_ok : ∀ e ∈ E140_16, eChk 140 e = true := by decide +kernel
def E140 : List aE := E140_0 ++ (E140_1 ++ (E140_2 ++ (E140_3 ++ (E140_4 ++ (E140_5 ++ (E140_6 ++ (E140_7 ++ (E140_8 ++ (E140_9 ++ (E140_10 ++ (E140_11 ++ (E140_12 ++ (E140_13 ++ (E140_14 ++ (E140_15 ++ (E140_16))))))))))))))))
theorem E140_ok : ∀ e ∈ E140, eChk 140 e = true := List.forall_mem_append.mpr ⟨E140_0_ok, List.forall_mem_append.mpr ⟨E140_1_ok, List.forall_mem_append.mpr ⟨E140_2_ok, List.forall_mem_append.mpr ⟨E140_3_ok, List.forall_mem_append.mpr ⟨E140_4_ok, List.forall_mem_append.mpr ⟨E140_5_ok, List.forall_mem_append.mpr ⟨E140_6_ok, List.forall_mem_append.mpr ⟨E140_7_ok, List.forall_mem_append.mpr ⟨E140_8_ok, List.forall_mem_append.mpr ⟨E140_9_ok, List.forall_mem_append.mpr ⟨E140_10_ok, List.forall_mem_append.mpr ⟨E140_11_ok, List.forall_mem_append.mpr ⟨E140_12_ok, List.forall_mem_append.mpr ⟨E140_13_ok, List.forall_mem_append.mpr ⟨E140_14_ok, List.forall_mem_append.mpr ⟨E140_15_ok, E140_16_ok⟩⟩⟩⟩⟩⟩⟩⟩⟩⟩⟩⟩⟩⟩⟩⟩
end
section
/-! The small machine against the real one -/
def gw : List Cond := lw_tbl.filter goodWord
theorem gw_at {i : Nat} {w : Cond} (h : lw_tbl[i]? = some w) (hg : goodWord w = true) : w ∈ gw := List.mem_filter.mpr ⟨List.mem_of_getElem? h, hg⟩
abbrev clL : List vw_C := (List.range 9).map (fun c => (RN c, TF c, NF c))
theorem cl_at {ci : Nat} (h : ci < 9) : clL[ci]? = some (RN ci, TF ci, NF ci) := by
  rw [List.getElem?_map, List.getElem?_range h]; rfl
theorem in_gw {ci : Nat} (h : ci < 9) : ∀ w ∈ u_ws (RN ci) (TF ci) (NF ci), w ∈ gw := by
  intro w hw
  obtain ⟨k, hk, rfl⟩ := List.mem_map.mp hw
  refine gw_at (lay_pl ci h k (List.mem_range.mp hk)) ?_
  unfold u_lay
  split <;> rfl
abbrev tyL (cy : Nat → ClassId) : List (ClassId × FieldType) := [(cy 9, .int), (cy 10, .boolean), (cy 11, .object (RN 3)), (cy 12, .object (RN 4))]
def fv (bs : Nat) (I : aI) (R : aR) (a ci k : Nat) : Value := if isRf ci k = true then va_rf ((R a k).map (fun y => bs + y)) else .int (Int32.ofInt (I a k))
def ce (cy : Nat → ClassId) (bs : Nat) (I : aI) (R : aR) (a : Nat) (kn : Nat × Nat) : va_E :=
  if kn.1 < 9 then .inr (kn.1, (List.range (NF kn.1)).map (fv bs I R a kn.1))
  else if kn.1 < 11 then .inl (cy kn.1, kn.2, .inl (fun i => Int32.ofInt (I a i)))
  else .inl (cy kn.1, kn.2, .inr (.inr (.inr (.inr (fun i => (R a i).map (fun y => bs + y))))))
def wH (cy : Nat → ClassId) (bs : Nat) (I : aI) (R : aR) (S : aS) : va_W := S.mapIdx (fun a kn => (bs + a, ce cy bs I R a kn))
theorem wH_at {cy : Nat → ClassId} {bs : Nat} {I : aI} {R : aR} {S : aS} {a : Nat} {kn : Nat × Nat} (h : S[a]? = some kn) : (wH cy bs I R S)[a]? = some (bs + a, ce cy bs I R a kn) := by
  simp [wH, h]
theorem wH_inv {cy : Nat → ClassId} {bs : Nat} {I : aI} {R : aR} {S : aS} {a : Nat} {p : Nat × va_E} (h : (wH cy bs I R S)[a]? = some p) : p.1 = bs + a ∧ a < S.length := by
  rw [wH, List.getElem?_mapIdx] at h
  cases hs : S[a]? with
  | none => rw [hs] at h; cases h
  | some kn =>
    rw [hs] at h
    cases h
    exact ⟨rfl, (List.getElem?_eq_some_iff.mp hs).1⟩
theorem wH_D {cy : Nat → ClassId} {bs : Nat} {I : aI} {R : aR} {S : aS} : va_D (fun x => bs ≤ x) (wH cy bs I R S) := by
  refine ⟨fun i j p q hi hj e => ?_, fun k q hk => ?_⟩
  · have h1 := (wH_inv hi).1
    have h2 := (wH_inv hj).1
    omega
  · rw [(wH_inv hk).1]; exact Nat.le_add_right _ _
theorem wH_len {cy : Nat → ClassId} {bs : Nat} {I : aI} {R : aR} {S : aS} : (wH cy bs I R S).length = S.length := by simp [wH]
theorem wH_set {cy : Nat → ClassId} {bs : Nat} {I I' : aI} {R R' : aR} {S : aS} {a : Nat} {kn : Nat × Nat} {e : va_E} (h : S[a]? = some kn) (he : ce cy bs I' R' a kn = e) (ho : ∀ x, x ≠ a → ∀ kn, ce cy bs I' R' x kn = ce cy bs I R x kn) :
    (wH cy bs I R S).set a (bs + a, e) = wH cy bs I' R' S := by
  apply List.ext_getElem?
  intro i
  have hl : a < S.length := (List.getElem?_eq_some_iff.mp h).1
  by_cases hi : i = a
  · subst hi
    rw [List.getElem?_set_self (by rw [wH_len]; exact hl), wH_at h, he]
  · rw [List.getElem?_set_ne (Ne.symm hi)]
    simp only [wH, List.getElem?_mapIdx]
    cases S[i]? with
    | none => rfl
    | some kn => simp [ho i hi kn]
theorem wH_push {cy : Nat → ClassId} {bs : Nat} {I I' : aI} {R R' : aR} {S : aS} {kn : Nat × Nat} {e : va_E} (he : ce cy bs I' R' S.length kn = e) (ho : ∀ x, x ≠ S.length → ∀ kn, ce cy bs I' R' x kn = ce cy bs I R x kn) :
    wH cy bs I R S ++ [(bs + S.length, e)] = wH cy bs I' R' (S ++ [kn]) := by
  apply List.ext_getElem?
  intro i
  simp only [wH, List.getElem?_mapIdx]
  by_cases hi : i < S.length
  · rw [List.getElem?_append_left (by simpa using hi), List.getElem?_append_left hi, List.getElem?_mapIdx]
    cases S[i]? with
    | none => rfl
    | some kn => simp [ho i (by omega) kn]
  · by_cases h2 : i = S.length
    · subst h2
      rw [List.getElem?_append_right (by simp), List.getElem?_append_right (by simp)]
      simp [he]
    · rw [List.getElem?_eq_none (by simp; omega), List.getElem?_eq_none (by simp; omega)]
      rfl
theorem ce_uI {cy : Nat → ClassId} {bs : Nat} {I : aI} {R : aR} {a : Nat} {j z : Int} {x : Nat} (h : x ≠ a) (kn : Nat × Nat) : ce cy bs (uI I a j z) R x kn = ce cy bs I R x kn := by
  have e : ∀ k : Int, uI I a j z x k = I x k := fun k => by simp [uI, h]
  unfold ce
  have e2 : fv bs (uI I a j z) R x kn.1 = fv bs I R x kn.1 := by funext k; simp [fv, e]
  simp only [e, e2]
theorem ce_uR {cy : Nat → ClassId} {bs : Nat} {I : aI} {R : aR} {a : Nat} {j : Int} {z : Option Nat} {x : Nat} (h : x ≠ a) (kn : Nat × Nat) : ce cy bs I (uR R a j z) x kn = ce cy bs I R x kn := by
  have e : ∀ k : Int, uR R a j z x k = R x k := fun k => by simp [uR, h]
  unfold ce
  have e2 : fv bs I (uR R a j z) x kn.1 = fv bs I R x kn.1 := by funext k; simp [fv, e]
  simp only [e, e2]
theorem ce_zz {cy : Nat → ClassId} {bs : Nat} {I : aI} {R : aR} {a x : Nat} (h : x ≠ a) (kn : Nat × Nat) : ce cy bs (zI I a) (zR R a) x kn = ce cy bs I R x kn := by
  have e : ∀ k : Int, zI I a x k = I x k := fun k => by simp [zI, h]
  have e1 : ∀ k : Int, zR R a x k = R x k := fun k => by simp [zR, h]
  unfold ce
  have e2 : fv bs (zI I a) (zR R a) x kn.1 = fv bs I R x kn.1 := by funext k; simp [fv, e, e1]
  simp only [e, e1, e2]
theorem ce_cI {cy : Nat → ClassId} {bs : Nat} {I : aI} {R : aR} {a t : Nat} {sp dp n : Int} {x : Nat} (h : x ≠ t) (kn : Nat × Nat) : ce cy bs (cI I a sp t dp n) R x kn = ce cy bs I R x kn := by
  have e : ∀ k : Int, cI I a sp t dp n x k = I x k := fun k => by simp [cI, h]
  unfold ce
  have e2 : fv bs (cI I a sp t dp n) R x kn.1 = fv bs I R x kn.1 := by funext k; simp [fv, e]
  simp only [e, e2]
theorem fs_set {n k : Nat} {f g : Nat → Value} {v : Value} (h1 : g k = v) (h2 : ∀ j, j ≠ k → g j = f j) : ((List.range n).map f).set k v = (List.range n).map g := by
  apply List.ext_getElem?
  intro i
  by_cases hi : i < n
  · by_cases e : i = k
    · subst e
      rw [List.getElem?_set_self (by simpa using hi), List.getElem?_map, List.getElem?_range hi, Option.map_some, h1]
    · rw [List.getElem?_set_ne (Ne.symm e), List.getElem?_map, List.getElem?_map, List.getElem?_range hi, Option.map_some, Option.map_some, h2 i e]
  · rw [List.getElem?_eq_none (by simp; omega), List.getElem?_eq_none (by simp; omega)]
/-! numbers -/
theorem tI {x : Int} (h : iR x) : (Int32.ofInt x).toInt = x := Int32.toInt_ofInt_of_le (by have := h.1; omega) (by have := h.2; omega)
theorem tL {x : Int} (h1 : 0 ≤ x) (h2 : x < 9223372036854775808) : (Int64.ofInt x).toInt = x := Int64.toInt_ofInt_of_le (by omega) (by omega)
theorem eqI {x y : Int} (h : iR x) (h2 : iR y) : Int32.ofInt x = Int32.ofInt y ↔ x = y := by rw [← Int32.toInt_inj, tI h, tI h2]
theorem ltI {x y : Int} (h : iR x) (h2 : iR y) : Int32.ofInt x < Int32.ofInt y ↔ x < y := by rw [Int32.lt_iff_toInt_lt, tI h, tI h2]
theorem leI {x y : Int} (h : iR x) (h2 : iR y) : Int32.ofInt x ≤ Int32.ofInt y ↔ x ≤ y := by rw [Int32.le_iff_toInt_le, tI h, tI h2]
theorem iR0 : iR 0 := ⟨by decide, by decide⟩
theorem zeroI : (0 : Int32) = Int32.ofInt 0 := by decide
theorem clI {j : Int} (h1 : 0 ≤ j) (h2 : j < 2147483648) : (Int32.ofInt j).toNatClampNeg = j.toNat := by
  show (Int32.ofInt j).toInt.toNat = _
  rw [tI ⟨by omega, h2⟩]
theorem inI {j : Int} {n : Nat} (h1 : 0 ≤ j) (h2 : j < n) (h3 : n ≤ 1000000) : vp_in (Int32.ofInt j) n := by
  rw [vp_in_iff, tI ⟨by omega, by omega⟩]
  exact ⟨h1, h2⟩
theorem divI {x y : Int} (h1 : 0 ≤ x) (h2 : x < 2147483648) (h3 : 0 < y) (h4 : y < 2147483648) : Int32.ofInt x / Int32.ofInt y = Int32.ofInt (x / y) := by
  obtain ⟨a, rfl⟩ := Int.eq_ofNat_of_zero_le h1
  obtain ⟨c, rfl⟩ := Int.eq_ofNat_of_zero_le (Int.le_of_lt h3)
  have e : ∀ n : Nat, Int32.ofInt (n : Int) = nI n := fun n => Int32.ofInt_eq_ofNat
  rw [e, e, pk_div (by omega) (by omega) (by omega), ← e, Int.natCast_ediv]
theorem remI {x y : Int} (h1 : 0 ≤ x) (h2 : x < 2147483648) (h3 : 0 < y) (h4 : y < 2147483648) : Int32.ofInt x - Int32.ofInt x / Int32.ofInt y * Int32.ofInt y = Int32.ofInt (x % y) := by
  rw [divI h1 h2 h3 h4, ← Int32.ofInt_mul, ← Int32.ofInt_sub, Int.emod_def, Int.mul_comm]
theorem remL {x y : Int} (h1 : 0 ≤ x) (h2 : x < 9223372036854775808) (h3 : 0 < y) (h4 : y < 9223372036854775808) : Int64.ofInt x - Int64.ofInt x / Int64.ofInt y * Int64.ofInt y = Int64.ofInt (x % y) := by
  obtain ⟨a, rfl⟩ := Int.eq_ofNat_of_zero_le h1
  obtain ⟨c, rfl⟩ := Int.eq_ofNat_of_zero_le (Int.le_of_lt h3)
  have e : ∀ n : Nat, Int64.ofInt (n : Int) = lN n := fun n => Int64.ofInt_eq_ofNat
  rw [e, e, pk_lRem (by omega) (by omega) (by omega), ← e, Int.natCast_emod]
/-! locals and the stack -/
theorem cat1 {bs b : Nat} {v : aV} (h : c1 v = true) : (cv bs b v).category = 1 := by
  rcases v with z | r | z | x
  · rfl
  · cases r <;> rfl
  · cases h
  · rfl
def lvL (bs b : Nat) : Nat → List aV → List (Nat × Value)
  | _, [] => []
  | i, v :: l => match c1 v with
    | true => (i, cv bs b v) :: lvL bs b (i + 1) l
    | false => lvL bs b (i + 1) l
theorem lvL_mem {bs b : Nat} : ∀ (ls : List aV) (i : Nat) (q : Nat × Value), q ∈ lvL bs b i ls ↔ ∃ k, c1 (nth ls k) = true ∧ q = (i + k, cv bs b (nth ls k))
  | [], i, q => by
    constructor
    · intro h; cases h
    · rintro ⟨k, h, -⟩; cases h
  | v :: l, i, q => by
    have ih := lvL_mem (bs := bs) (b := b) l (i + 1) q
    constructor
    · intro h
      unfold lvL at h
      split at h
      · rename_i hc
        rcases List.mem_cons.mp h with h | h
        · exact ⟨0, hc, h⟩
        · obtain ⟨k, h1, h2⟩ := ih.mp h
          exact ⟨k + 1, h1, by rw [h2]; congr 1; omega⟩
      · obtain ⟨k, h1, h2⟩ := ih.mp h
        exact ⟨k + 1, h1, by rw [h2]; congr 1; omega⟩
    · rintro ⟨k, h1, h2⟩
      unfold lvL
      cases k with
      | zero =>
        have hc : c1 v = true := h1
        rw [hc]
        rw [h2]
        exact List.mem_cons_self
      | succ k =>
        have h3 : q ∈ lvL bs b (i + 1) l := ih.mpr ⟨k, h1, by rw [h2]; show (i + (k + 1), _) = (i + 1 + k, _); congr 1; omega⟩
        split
        · exact List.mem_cons_of_mem _ h3
        · exact h3
theorem nth_setn {w : aV} : ∀ (ls : List aV) (a k : Nat), nth (setn ls a w) k = w ∨ (nth (setn ls a w) k = nth ls k ∧ (k = a → ls.length ≤ a))
  | [], a, k => Or.inr ⟨rfl, fun _ => Nat.zero_le _⟩
  | v :: l, 0, 0 => Or.inl rfl
  | v :: l, 0, k + 1 => Or.inr ⟨rfl, fun h => by omega⟩
  | v :: l, a + 1, 0 => Or.inr ⟨rfl, fun h => by omega⟩
  | v :: l, a + 1, k + 1 => by
    rcases nth_setn (w := w) l a k with h | ⟨h, h2⟩
    · exact Or.inl h
    · exact Or.inr ⟨h, fun e => by have := h2 (by omega); simp; omega⟩
theorem nth_big : ∀ (ls : List aV) (k : Nat), ls.length ≤ k → nth ls k = vu
  | [], _, _ => rfl
  | _ :: l, 0, h => by simp at h
  | _ :: l, k + 1, h => nth_big l k (by simp at h; omega)
theorem nth_setn_ne {w : aV} : ∀ (ls : List aV) (a k : Nat), k ≠ a → nth (setn ls a w) k = nth ls k
  | [], a, k, _ => rfl
  | v :: l, 0, 0, h => absurd rfl h
  | v :: l, 0, k + 1, _ => rfl
  | v :: l, a + 1, 0, _ => rfl
  | v :: l, a + 1, k + 1, h => nth_setn_ne l a k (by omega)
theorem lvx_read {bs b n : Nat} {la : Array Slot} {ls : List aV} {a : Nat} (h : lv_has la n (lvL bs b 0 ls)) (hc : c1 (nth ls a) = true) : la[a]? = some (.val (cv bs b (nth ls a))) := by
  have := h.2.2 (0 + a, cv bs b (nth ls a)) ((lvL_mem ls 0 _).mpr ⟨a, hc, rfl⟩)
  rw [Nat.zero_add] at this
  exact this
theorem lvx_set {bs b n : Nat} {la : Array Slot} {ls : List aV} {a : Nat} {v : aV} (h : lv_has la n ((a, cv bs b v) :: (lvL bs b 0 ls).filter (fun q => !(q.1 == a) && !(q.1 + 1 == a && q.2.category == 2)))) : lv_has la n (lvL bs b 0 (setn ls a v)) := by
  refine ⟨h.1, h.2.1, fun q hq => ?_⟩
  obtain ⟨k, h1, h2⟩ := (lvL_mem _ _ _).mp hq
  rw [Nat.zero_add] at h2
  apply h.2.2
  by_cases hk : k = a
  · subst hk
    rcases nth_setn (w := v) ls k k with e | ⟨e, e2⟩
    · rw [e] at h2; rw [h2]; exact List.mem_cons_self
    · rw [e, nth_big ls k (e2 rfl)] at h1
      cases h1
  · rw [nth_setn_ne ls a k hk] at h1 h2
    refine List.mem_cons_of_mem _ (List.mem_filter.mpr ⟨(lvL_mem _ _ _).mpr ⟨k, h1, by rw [Nat.zero_add]; exact h2⟩, ?_⟩)
    rw [h2]
    simp [hk, cat1 (bs := bs) (b := b) h1]
theorem lvx_args {bs b k : Nat} : ∀ (as : List aV) (i : Nat), allc1 as = true → ∀ q ∈ lvL bs b i (as ++ List.replicate k vu), q ∈ lv_args i (as.map (cv bs b))
  | [], i, _, q, hq => by
    obtain ⟨j, h1, h2⟩ := (lvL_mem _ _ _).mp hq
    have : ∀ (n j : Nat), nth (List.replicate n vu) j = vu := by
      intro n
      induction n with
      | zero => intro j; rfl
      | succ n ih => intro j; cases j with
        | zero => rfl
        | succ j => exact ih j
    rw [show ([] : List aV) ++ List.replicate k vu = List.replicate k vu from rfl, this] at h1
    cases h1
  | v :: l, i, h, q, hq => by
    unfold allc1 at h
    split at h
    · rename_i hc
      have hq : q ∈ lvL bs b i (v :: (l ++ List.replicate k vu)) := hq
      unfold lvL at hq
      rw [hc] at hq
      show q ∈ (i, cv bs b v) :: lv_args (if (cv bs b v).category = 2 then i + 2 else i + 1) (l.map (cv bs b))
      rw [cat1 (bs := bs) (b := b) hc, if_neg (by decide)]
      rcases List.mem_cons.mp hq with e | e
      · rw [e]; exact List.mem_cons_self
      · exact List.mem_cons_of_mem _ (lvx_args l (i + 1) h q e)
    · cases h
theorem sl_len {bs b : Nat} : ∀ (as : List aV), allc1 as = true → (lg_sl (as.map (cv bs b))).length = as.length
  | [], _ => rfl
  | v :: l, h => by
    unfold allc1 at h
    split at h
    · rename_i hc
      have ih := sl_len (bs := bs) (b := b) l h
      unfold lg_sl at ih ⊢
      rw [List.map_cons, List.flatMap_cons, List.length_append, ih, cat1 (bs := bs) (b := b) hc]
      simp; omega
    · cases h
theorem okst_sum {bs b : Nat} : ∀ (st : List aV) (n : Nat), okst st n = true → ((st.map (cv bs b)).map fun v => v.category).sum ≤ n
  | [], _, _ => Nat.zero_le _
  | _ :: _, 0, h => by cases h
  | v :: l, n + 1, h => by
    unfold okst at h
    split at h
    · rename_i hc
      have ih := okst_sum (bs := bs) (b := b) l n h
      rw [List.map_cons, List.map_cons, List.sum_cons, cat1 hc]
      omega
    · cases h
theorem popn_eq : ∀ (n : Nat) (acc st as rest : List aV), popn n acc st = some (as, rest) → acc.reverse ++ st = as.reverse ++ rest ∧ as.length = n + acc.length
  | 0, acc, st, as, rest, h => by
    cases h
    exact ⟨rfl, by omega⟩
  | n + 1, acc, [], as, rest, h => by cases h
  | n + 1, acc, v :: st, as, rest, h => by
    obtain ⟨h1, h2⟩ := popn_eq n (v :: acc) st as rest h
    refine ⟨?_, by rw [h2]; simp; omega⟩
    rw [← h1]
    simp
end
section
/-! what is fixed in a run: the launch, the numbers of types, the first cell, the script -/
abbrev aP : Type := Launch × va_G × (Nat → ClassId) × Nat × Nat × Nat × (Nat → Int)
abbrev pl (P : aP) : Launch := P.1
abbrev pD (P : aP) : va_G := P.2.1
abbrev pC (P : aP) : Nat → ClassId := P.2.2.1
abbrev pB (P : aP) : Nat := P.2.2.2.1
abbrev pS (P : aP) : Nat := P.2.2.2.2.1
abbrev pL (P : aP) : Nat := P.2.2.2.2.2.1
abbrev pX (P : aP) : Nat → Int := P.2.2.2.2.2.2
def szs (S : aS) : Nat := (S.map Prod.snd).sum
theorem szs_push (S : aS) (kn : Nat × Nat) : szs (S ++ [kn]) = szs S + kn.2 := by simp [szs]
def Nz (U : State) : Prop := (∀ x ∈ NLK, va_Nw (.methodLinkNest (RN x.1) x.2.1 (mY x.2.2.1) "RepeaterWires") U) ∧ va_AO (RN 3) U ∧ va_AO (RN 4) U
theorem Nz.warm {s U : State} (hW : s.WarmedH U.vm) (h : Nz s) : Nz U := ⟨fun x hx => va_Nw.warmM hW (h.1 x hx), va_AO.moved hW.alike h.2.1, va_AO.moved hW.alike h.2.2⟩
abbrev wP (P : aP) (I : aI) (R : aR) (S : aS) (H : Heap) : Prop := va_P (pD P) clL (wH (pC P) (pB P) I R S) H
abbrev sP (P : aP) (H0 H : Heap) (locs : List Loc) : Prop := va_S (fun x => pB P ≤ x) H0 H locs
def Rp (P : aP) (I : aI) (R : aR) (S : aS) (U : State) : Prop := U.heap.size = pB P + S.length ∧ wP P I R S U.heap ∧ va_K (pD P) clL (tyL (pC P)) U ∧ Nz U ∧ va_X (pS P) (pL P) (fun j => Int32.ofInt (pX P j)) U U.heap ∧ pS P < pB P
def Cx (P : aP) (q : Nat) (p : Program) (s : State) (m : MethodId) (args : Array Value) (meth : Method) (c : Code) : Prop :=
  p.tables.exec = Jvm.exec ∧ c.code = mB q ∧ c.maxLocals = mL q ∧ s.vm.findClass (RN (mO q)) = some m.cls ∧ (∀ w ∈ gw, w.before args s = true) ∧ va_K (pD P) clL (tyL (pC P)) s ∧ Nz s ∧ va_X (pS P) (pL P) (fun j => Int32.ofInt (pX P j)) s s.heap ∧ pS P < pB P ∧ pB P ≤ s.heap.size ∧ ((mY q).name = "<init>" → meth.name = "<init>")
def rOp (q pc : Nat) (r : Option aV) : Prop := match r with
  | none => decode (mB q) pc = .ok (.return_, 1) ∧ mR q = none
  | some (.inl z) => decode (mB q) pc = .ok (.ireturn, 1) ∧ (mR q = some .int ∨ (mR q = some .boolean ∧ (z = 0 ∨ z = 1)))
  | some (.inr (.inl (some _))) => decode (mB q) pc = .ok (.areturn, 1) ∧ ∃ rt, mR q = some rt ∧ ((∃ n, rt = .object n) ∨ ∃ t, rt = .array t)
  | _ => False
def GoX (P : aP) (q d : Nat) (r : Option aV) (I' : aI) (R' : aR) (S' : aS) (pc : Nat) (ls st : List aV) (I : aI) (R : aR) (S : aS) : Prop :=
  (S.length ≤ S'.length ∧ szs S ≤ szs S') ∧
  ∀ (p : Program) (e : Env) (s : State) (m : MethodId) (args : Array Value) (below : List Frame) (meth : Method) (c : Code) (Rm : Room) (Q : State → Prop) (n0 z0 : Nat),
    Cx P q p s m args meth c → s.heap.size = pB P + n0 → n0 ≤ S.length → z0 ≤ szs S → d ≤ Rm.frames → 36 * d ≤ Rm.locals → S'.length ≤ n0 + Rm.cells → szs S' ≤ z0 + Rm.slots →
    (∀ (pc : Nat) (H : Heap) (locs : List Loc) (la : Array Slot), rOp q pc r → wP P I' R' S' H → sP P s.heap H locs → W p (pl P) e Rm s m args below meth c H locs (S'.length - n0) (szs S' - z0) Q (F0 m pc la (r.map (cv (pB P) (pS P))).toList)) →
    ∀ (H : Heap) (locs : List Loc) (la : Array Slot), wP P I R S H → sP P s.heap H locs → lv_has la (mL q) (lvL (pB P) (pS P) 0 ls) →
      W p (pl P) e Rm s m args below meth c H locs (S.length - n0) (szs S - z0) Q (F0 m pc la (st.map (cv (pB P) (pS P))))
def Go (P : aP) (q d : Nat) (K : aK) (pc : Nat) (ls st : List aV) (I : aI) (R : aR) (S : aS) : Prop := ∃ r I' R' S', K r I' R' S' ∧ GoX P q d r I' R' S' pc ls st I R S
def rmX (d : Nat) (S S' : aS) : Room := { frames := d, cells := S'.length - S.length, slots := szs S' - szs S, locals := 36 * d }
abbrev wsM (q : Nat) : List Cond := .code (mY q) (mB q) (mL q) (mR q) :: gw
def qcX (P : aP) (r : Option aV) (I' : aI) (R' : aR) (S' : aS) : Array Value → State → Outcome → State → Prop := fun _ st o t => o = .returned (r.map (cv (pB P) (pS P))) ∧ wP P I' R' S' t.heap ∧ va_F (fun x => pB P ≤ x) st t
def MtX (P : aP) (q d : Nat) (as : List aV) (I : aI) (R : aR) (S : aS) (r : Option aV) (I' : aI) (R' : aR) (S' : aS) : Prop :=
  (S.length ≤ S'.length ∧ szs S ≤ szs S') ∧ Met (pl P) (mY q) (wsM q) (rmX d S S') (va_Pc (as.map (cv (pB P) (pS P))) (Rp P I R S)) (qcX P r I' R' S') (S'.length - S.length) (szs S' - szs S) (fun x => pB P ≤ x)
def Ok (P : aP) (q d : Nat) (as : List aV) (I : aI) (R : aR) (S : aS) (K : aK) : Prop := ∃ d', d' ≤ d ∧ ∃ r I' R' S', K r I' R' S' ∧ MtX P q d' as I R S r I' R' S'
theorem Ok.mono {P : aP} {q d d2 : Nat} {as : List aV} {I : aI} {R : aR} {S : aS} {K K2 : aK} (h : Ok P q d as I R S K) (hd : d ≤ d2) (hK : ∀ r I R S, K r I R S → K2 r I R S) : Ok P q d2 as I R S K2 := by
  obtain ⟨d', h1, r, I', R', S', h2, h3⟩ := h
  exact ⟨d', Nat.le_trans h1 hd, r, I', R', S', hK _ _ _ _ h2, h3⟩
section Pure
variable {P : aP} {q d pc : Nat} {K : aK} {ls st : List aV} {I : aI} {R : aR} {S : aS}
/-- a step that leaves the heap -/
theorem go_pure {pc' : Nat} {ls' st' : List aV}
    (hs : ∀ (p : Program) (e : Env) (s : State) (m : MethodId) (args : Array Value) (below : List Frame) (meth : Method) (c : Code) (Rm : Room) (Q : State → Prop) (H : Heap) (locs : List Loc) (cells slots : Nat) (la : Array Slot),
      Cx P q p s m args meth c → wP P I R S H → sP P s.heap H locs → d ≤ Rm.frames → 36 * d ≤ Rm.locals → lv_has la (mL q) (lvL (pB P) (pS P) 0 ls) →
      (∀ la', lv_has la' (mL q) (lvL (pB P) (pS P) 0 ls') → W p (pl P) e Rm s m args below meth c H locs cells slots Q (F0 m pc' la' (st'.map (cv (pB P) (pS P))))) →
      W p (pl P) e Rm s m args below meth c H locs cells slots Q (F0 m pc la (st.map (cv (pB P) (pS P)))))
    (g : Go P q d K pc' ls' st' I R S) : Go P q d K pc ls st I R S := by
  obtain ⟨r, I', R', S', hK, hz, hw⟩ := g
  refine ⟨r, I', R', S', hK, hz, ?_⟩
  intro p e s m args below meth c Rm Q n0 z0 hc h1 h2 h3 h4 h5 h6 h7 hret H locs la hP hS hl
  exact hs p e s m args below meth c Rm Q H locs _ _ la hc hP hS h4 h5 hl (fun la' hl' => hw p e s m args below meth c Rm Q n0 z0 hc h1 h2 h3 h4 h5 h6 h7 hret H locs la' hP hS hl')
/-- a step that writes a cell -/
theorem go_heap {pc' : Nat} {st' : List aV} {I1 : aI} {R1 : aR}
    (hs : ∀ (p : Program) (e : Env) (s : State) (m : MethodId) (args : Array Value) (below : List Frame) (meth : Method) (c : Code) (Rm : Room) (Q : State → Prop) (H : Heap) (locs : List Loc) (cells slots : Nat) (la : Array Slot),
      Cx P q p s m args meth c → wP P I R S H → sP P s.heap H locs → d ≤ Rm.frames → 36 * d ≤ Rm.locals → la.size = mL q →
      (∀ (H1 : Heap) (locs1 : List Loc), wP P I1 R1 S H1 → sP P s.heap H1 locs1 → W p (pl P) e Rm s m args below meth c H1 locs1 cells slots Q (F0 m pc' la (st'.map (cv (pB P) (pS P))))) →
      W p (pl P) e Rm s m args below meth c H locs cells slots Q (F0 m pc la (st.map (cv (pB P) (pS P)))))
    (g : Go P q d K pc' ls st' I1 R1 S) : Go P q d K pc ls st I R S := by
  obtain ⟨r, I', R', S', hK, hz, hw⟩ := g
  refine ⟨r, I', R', S', hK, hz, ?_⟩
  intro p e s m args below meth c Rm Q n0 z0 hc h1 h2 h3 h4 h5 h6 h7 hret H locs la hP hS hl
  exact hs p e s m args below meth c Rm Q H locs _ _ la hc hP hS h4 h5 hl.1 (fun H1 locs1 hP1 hS1 => hw p e s m args below meth c Rm Q n0 z0 hc h1 h2 h3 h4 h5 h6 h7 hret H1 locs1 la hP1 hS1 hl)
theorem W_bnd {p : Program} {l : Launch} {e : Env} {Rm : Room} {s : State} {m : MethodId} {args : Array Value} {below : List Frame} {meth : Method} {c : Code} {H : Heap} {locs : List Loc} {cells slots : Nat} {Q : State → Prop} {g : JFrame}
    (k : H.size ≤ s.heap.size + cells → W p l e Rm s m args below meth c H locs cells slots Q g) : W p l e Rm s m args below meth c H locs cells slots Q g := by
  intro T hT X
  refine k ?_ T hT X
  have h := X.same.2.2.1
  rw [← hT]
  exact h
theorem sz_low {H H0 : Heap} {locs : List Loc} (hP : wP P I R S H) (hS : sP P H0 H locs) (hb : pB P ≤ H0.size) : pB P + S.length ≤ H.size := by
  cases hl : S.length with
  | zero => have := hS.1; omega
  | succ n =>
    have hn : n < S.length := by omega
    have h1 := (hP n _ (wH_at (List.getElem?_eq_getElem hn))).lt
    dsimp only at h1
    omega
/-- a step that makes a cell -/
theorem go_new {pc' : Nat} {st' : List aV} {kn : Nat × Nat}
    (hs : ∀ (p : Program) (e : Env) (s : State) (m : MethodId) (args : Array Value) (below : List Frame) (meth : Method) (c : Code) (Rm : Room) (Q : State → Prop) (H : Heap) (locs : List Loc) (cells slots : Nat) (la : Array Slot),
      Cx P q p s m args meth c → wP P I R S H → sP P s.heap H locs → cells + 1 ≤ Rm.cells → slots + kn.2 ≤ Rm.slots →
      (∀ (x : Nat) (H1 : Heap), va_P (pD P) clL (wH (pC P) (pB P) I R S ++ [(x, ce (pC P) (pB P) (zI I S.length) (zR R S.length) S.length kn)]) H1 → va_D (fun x => pB P ≤ x) (wH (pC P) (pB P) I R S ++ [(x, ce (pC P) (pB P) (zI I S.length) (zR R S.length) S.length kn)]) → sP P s.heap H1 locs →
        W p (pl P) e Rm s m args below meth c H1 locs (cells + 1) (slots + kn.2) Q (F0 m pc' la (.ref x :: st'.map (cv (pB P) (pS P))))) →
      W p (pl P) e Rm s m args below meth c H locs cells slots Q (F0 m pc la (st.map (cv (pB P) (pS P)))))
    (g : Go P q d K pc' ls (vr S.length :: st') (zI I S.length) (zR R S.length) (S ++ [kn])) : Go P q d K pc ls st I R S := by
  obtain ⟨r, I', R', S', hK, hz, hw⟩ := g
  rw [szs_push, List.length_append, List.length_singleton] at hz
  refine ⟨r, I', R', S', hK, ⟨by omega, by omega⟩, ?_⟩
  intro p e s m args below meth c Rm Q n0 z0 hc h1 h2 h3 h4 h5 h6 h7 hret H locs la hP hS hl
  refine hs p e s m args below meth c Rm Q H locs _ _ la hc hP hS (by omega) (by omega) (fun x H1 hP1 hD1 hS1 => ?_)
  refine W_bnd (fun hb => ?_)
  have hx1 : x < H1.size := (hP1 S.length (x, _) (by rw [List.getElem?_append_right (by rw [wH_len]; exact Nat.le_refl _), wH_len, Nat.sub_self]; rfl)).lt
  have hx2 : pB P ≤ x := hD1.2 S.length (x, _) (by rw [List.getElem?_append_right (by rw [wH_len]; exact Nat.le_refl _), wH_len, Nat.sub_self]; rfl)
  have hx3 : ¬ x < pB P + S.length := by
    intro hlt
    have hi : x - pB P < S.length := by omega
    have hq := wH_at (cy := pC P) (bs := pB P) (I := I) (R := R) (List.getElem?_eq_getElem hi)
    have := hD1.1 (x - pB P) S.length (pB P + (x - pB P), _) (x, _) (by rw [List.getElem?_append_left (by rw [wH_len]; exact hi)]; exact hq) (by rw [List.getElem?_append_right (by rw [wH_len]; exact Nat.le_refl _), wH_len, Nat.sub_self]; rfl) (by dsimp only; omega)
    omega
  have hx : x = pB P + S.length := by omega
  subst hx
  rw [wH_push rfl (fun x hx kn => ce_zz hx kn)] at hP1
  have e1 : S.length - n0 + 1 = (S ++ [kn]).length - n0 := by rw [List.length_append, List.length_singleton]; omega
  have e2 : szs S - z0 + kn.2 = szs (S ++ [kn]) - z0 := by rw [szs_push]; omega
  rw [e1, e2]
  exact hw p e s m args below meth c Rm Q n0 z0 hc h1 (by rw [List.length_append]; omega) (by rw [szs_push]; omega) h4 h5 h6 h7 hret H1 locs la hP1 hS1 hl
/-- a call -/
theorem go_call {q' d' : Nat} {as rest : List aV} {r : Option aV} {I1 : aI} {R1 : aR} {S1 : aS} (hM : MtX P q' d' as I R S r I1 R1 S1)
    (hs : ∀ (p : Program) (e : Env) (s : State) (m : MethodId) (args : Array Value) (below : List Frame) (meth : Method) (c : Code) (Rm : Room) (H : Heap) (locs : List Loc) (cells slots : Nat) (la : Array Slot),
      Cx P q p s m args meth c → wP P I R S H → sP P s.heap H locs → d ≤ Rm.frames → 36 * d ≤ Rm.locals → la.size = mL q → H.size = pB P + S.length →
      cells + (S1.length - S.length) ≤ Rm.cells ∧ slots + (szs S1 - szs S) ≤ Rm.slots →
      va_Run p (pl P) e Rm s m args below meth c H locs cells slots (S1.length - S.length) (szs S1 - szs S) (F0 m pc la (st.map (cv (pB P) (pS P)))) (rest.map (cv (pB P) (pS P))) (qcX P r I1 R1 S1 (as.map (cv (pB P) (pS P))).toArray) (fun x => pB P ≤ x))
    (g : Go P q d K (pc + 3) ls (r.toList ++ rest) I1 R1 S1) : Go P q d K pc ls st I R S := by
  obtain ⟨hz0, -⟩ := hM
  obtain ⟨r2, I', R', S', hK, hz, hw⟩ := g
  refine ⟨r2, I', R', S', hK, ⟨by omega, by omega⟩, ?_⟩
  intro p e s m args below meth c Rm Q n0 z0 hc h1 h2 h3 h4 h5 h6 h7 hret H locs la hP hS hl
  refine W_bnd (fun hb => ?_)
  have hsz : H.size = pB P + S.length := by
    have := sz_low hP hS hc.2.2.2.2.2.2.2.2.2.1
    omega
  have hrun := hs p e s m args below meth c Rm H locs (S.length - n0) (szs S - z0) la hc hP hS h4 h5 hl.1 hsz ⟨by omega, by omega⟩
  intro T hT X
  obtain ⟨v, st₀, t, T', Lc, e0, X', hL, e1, e2, ⟨hv, hp1, hF⟩, stp⟩ := hrun T hT X
  cases hv
  have c1 : S.length - n0 + (S1.length - S.length) = S1.length - n0 := by omega
  have c2 : szs S - z0 + (szs S1 - szs S) = szs S1 - z0 := by omega
  rw [c1, c2] at X'
  rw [← e1] at hp1
  have hS1 : sP P s.heap T'.heap (locs ++ Lc) := by
    refine ⟨Nat.le_trans hS.1 (by rw [e1, ← e0]; exact hF.1), fun x g1 g2 => ?_, fun x hx => ?_⟩
    · rw [e1, hF.2 x (by rw [e0]; exact Nat.lt_of_lt_of_le g1 hS.1) g2, e0]
      exact hS.2.1 x g1 g2
    · rcases List.mem_append.mp hx with h | h
      · exact hS.2.2 x h
      · exact hL x h
  obtain ⟨t2, a1, b1⟩ := hw p e s m args below meth c Rm Q n0 z0 hc h1 (by omega) (by omega) h4 h5 h6 h7 hret T'.heap (locs ++ Lc) la hp1 hS1 hl T' rfl X'
  refine ⟨t2, stp t2 ?_, b1⟩
  have e3 : (r.toList ++ rest).map (cv (pB P) (pS P)) = (r.map (cv (pB P) (pS P))).toList ++ rest.map (cv (pB P) (pS P)) := by cases r <;> simp
  rw [e3] at a1
  exact a1
theorem blind_Rp {as : List Value} : FrameBlind (va_Pc as (Rp P I R S)) := by
  intro a U g mk h
  obtain ⟨h0, h1, h2, h3, h4, h5, h6⟩ := h
  exact ⟨h0, h1, h2, va_K.moved (u := U) (U := U.calling g mk a) (Vm.Alike.refl U.vm) h3, ⟨fun x hx => va_Nw.same rfl rfl (h4.1 x hx), va_AO.moved (Vm.Alike.refl U.vm) h4.2.1, va_AO.moved (Vm.Alike.refl U.vm) h4.2.2⟩, h5, h6⟩
theorem Rp_at {p : Program} {s : State} {m : MethodId} {args : Array Value} {meth : Method} {c : Code} {H : Heap} {locs : List Loc} (hc : Cx P q p s m args meth c) (hP : wP P I R S H) (hS : sP P s.heap H locs) (hsz : H.size = pB P + S.length) {U : State} (hU : U.heap = H) (hW : s.WarmedH U.vm) : Rp P I R S U := by
  obtain ⟨c0, c1, c2, c3, c4, c5, c6, c7, c8, c9, c10⟩ := hc
  refine ⟨by rw [hU]; exact hsz, by rw [hU]; exact hP, va_K.moved hW.alike c5, c6.warm hW, ?_, c8⟩
  rw [hU]
  exact (c7.moved hW.alike).kept (hS.2.1 _ (by omega) (by show ¬ pB P ≤ pS P; omega))
theorem gwM {q' : Nat} (hq : q' < qLaw) : GoodIn gw (wsM q') := by
  have hcm : Cond.code (mY q') (mB q') (mL q') (mR q') ∈ gw := gw_at (mc_pl q' hq) rfl
  intro w hw
  rcases List.mem_cons.mp hw with h | h
  · rw [h]; exact ⟨hcm, good_of_word rfl⟩
  · exact ⟨h, good_of_word (List.mem_filter.mp h).2⟩
theorem own_lt {q' : Nat} (hq : q' < qLaw) : (mY q').cls = RN (mO q') ∧ mO q' < 13 ∧ mL q' ≤ 16 := mo_ok q' hq
theorem cxB {p : Program} {s : State} {m : MethodId} {args : Array Value} {meth : Method} {c : Code} {Rm : Room} {q' d' idx : Nat} {S1 : aS} (hc : Cx P q p s m args meth c) (hq : q' < qLaw) (h4 : d' + 1 ≤ Rm.frames) (h5 : 36 * (d' + 1) ≤ Rm.locals) (hl : (Cond.methodLink (RN (mO q)) idx (mY q')) ∈ gw) :
    CallB Rm s args (RN (mO q)) idx (mY q') (mB q') (mL q') (mR q') (wsM q') (rmX d' S S1) (S1.length - S.length) (szs S1 - szs S) (mN q') := by
  obtain ⟨c0, c1, c2, c3, c4, -⟩ := hc
  obtain ⟨o1, o2, o3⟩ := own_lt hq
  refine ⟨rfl, rfl, h4, by show 8 + (mL q' + 11) + 36 * d' ≤ Rm.locals; omega, pay_in c4 (gwM hq), List.mem_cons_self, c4 _ (gw_at (mc_pl q' hq) rfl), ?_, ?_, fun sig h => ?_, c4 _ hl⟩
  · rw [o1]; exact c4 _ (gw_at (iz_pl _ o2) rfl)
  · rw [o1]; exact mh_ok _ o2
  · have h2 := md_ok q' hq
    rw [h] at h2
    exact (Option.some.inj h2).symm
theorem cxN {p : Program} {s : State} {m : MethodId} {args : Array Value} {meth : Method} {c : Code} {Rm : Room} {q' d' idx : Nat} {S1 : aS} (hc : Cx P q p s m args meth c) (hq : q' < qLaw) (h4 : d' + 1 ≤ Rm.frames) (h5 : 36 * (d' + 1) ≤ Rm.locals) (hl : va_Nw (.methodLinkNest (RN (mO q)) idx (mY q') "RepeaterWires") s) :
    va_CN Rm s args (RN (mO q)) idx (mY q') "RepeaterWires" (mB q') (mL q') (mR q') (wsM q') (rmX d' S S1) (S1.length - S.length) (szs S1 - szs S) (mN q') := by
  obtain ⟨c0, c1, c2, c3, c4, -⟩ := hc
  obtain ⟨o1, o2, o3⟩ := own_lt hq
  refine ⟨⟨rfl, rfl, h4, by show 8 + (mL q' + 11) + 36 * d' ≤ Rm.locals; omega, pay_in c4 (gwM hq), List.mem_cons_self⟩, c4 _ (gw_at (mc_pl q' hq) rfl), ?_, ?_, fun sig h => ?_, va_Nw.use rfl hl⟩
  · rw [o1]; exact c4 _ (gw_at (iz_pl _ o2) rfl)
  · rw [o1]; exact mh_ok _ o2
  · have h2 := md_ok q' hq
    rw [h] at h2
    exact (Option.some.inj h2).symm
end Pure
/-- a method's contract out of its walk -/
theorem Ok.of {P : aP} {q d : Nat} {K : aK} {as : List aV} {I : aI} {R : aR} {S : aS} (hq : q < qLaw) (ha : allc1 as = true) (hn : as.length ≤ mL q) (g : Go P q d K 0 (as ++ List.replicate (mL q - as.length) vu) [] I R S) : Ok P q d as I R S K := by
  obtain ⟨r, I', R', S', hK, hz, hw⟩ := g
  refine ⟨d, Nat.le_refl d, r, I', R', S', hK, hz, ?_⟩
  refine va_MetF (cc := mB q) (maxL := mL q) (ret := mR q) (mq_ok q hq) rfl ?_
  intro p e s m args below meth c s₁ B hml hv
  obtain ⟨rfl, hsz, hP, hKK, hN, hX, hbb⟩ := hv
  have hx := B.exec
  have hb := B.bytes
  have hr := B.returns
  have hlocks := B.notSynchronized
  have hts : ∀ w ∈ gw, w.before ((as.map (cv (pB P) (pS P))).toArray) s = true := fun w h => atoms_spec (ws := wsM q) B.pre w (List.mem_cons_of_mem _ h)
  have hown0 : s.vm.findClass (mY q).cls = some m.cls := findClass_of_methodNamed B.named
  have hown : s.vm.findClass (RN (mO q)) = some m.cls := by rw [← (own_lt hq).1]; exact hown0
  have hname : meth.name = (mY q).name := (name_of_methodNamed B.named B.method).1
  have hc : Cx P q p s m ((as.map (cv (pB P) (pS P))).toArray) meth c := ⟨hx, hb, hml, hown, hts, hKK, hN, hX, hbb, by omega, fun h => hname.trans h⟩
  have hl0 := lv_entry (as.map (cv (pB P) (pS P))) (n := mL q) (by rw [sl_len as ha]; exact hn)
  rw [lg_entry_eq]
  generalize (lg_sl (as.map (cv (pB P) (pS P))) ++ List.replicate (mL q - (lg_sl (as.map (cv (pB P) (pS P)))).length) Slot.unset).toArray = la at hl0 ⊢
  have hl : lv_has la (mL q) (lvL (pB P) (pS P) 0 (as ++ List.replicate (mL q - as.length) vu)) := ⟨hl0.1, hl0.2.1, fun x hx => hl0.2.2 x (lvx_args as 0 ha x hx)⟩
  have key := hw p e s m ((as.map (cv (pB P) (pS P))).toArray) below meth c (headSpec (wsM q) (rmX d S S')).room (MQ below (qcX P r I' R' S') ((as.map (cv (pB P) (pS P))).toArray) s (S'.length - S.length) (szs S' - szs S) (fun x => pB P ≤ x)) S.length (szs S) hc hsz (Nat.le_refl _) (Nat.le_refl _) (Nat.le_refl _) (Nat.le_refl _) (by show S'.length ≤ S.length + (S'.length - S.length); omega) (by show szs S' ≤ szs S + (szs S' - szs S); omega) ?_ s.heap [] la hP va_S.rf hl
  · rw [Nat.sub_self, Nat.sub_self] at key
    exact key
  · intro pc H locs la ho hP' hS'
    have hq' : ∀ t : State, t.heap = H → s.WarmedH t.vm → qcX P r I' R' S' ((as.map (cv (pB P) (pS P))).toArray) s (.returned (r.map (cv (pB P) (pS P)))) t := fun t ht _ => ⟨rfl, by rw [ht]; exact hP', hS'.F ht⟩
    rcases r with _ | z | x | z | z
    · exact W.vret hx hb (hr.trans ho.2) hq' hS'.2.2 ho.1
    · rcases ho.2 with h | ⟨h, h01⟩
      · exact W.iret hx hb (hr.trans h) hq' hS'.2.2 ho.1
      · refine W.zret hx hb (hr.trans h) ?_ hq' hS'.2.2 ho.1
        rcases h01 with rfl | rfl <;> decide +kernel
    · cases x with
      | none => exact ho.elim
      | some x =>
        obtain ⟨h1, rt, h2, h3⟩ := ho
        exact W.aret hx hb (hr.trans h2) h3 (Or.inr ⟨_, rfl⟩) hq' hS'.2.2 h1
    · exact ho.elim
    · exact ho.elim
end
section
/-! each instruction of the small machine is sound; printed by wip/whole/gensound.py -/
section Sn
variable {P : aP} {q d pc a nx : Nat} {b : Int} {xs : List (Int × Nat)} {K : aK} {G : aG} {C : aC} {ls st : List aV} {I : aI} {R : aR} {S : aS}
theorem chk {o : Nat} (h : eChk q (pc, o, a, b, nx, xs) = true) : decode (mB q) pc = .ok (eI pc o a b nx xs) ∧ nx = pc + (eI pc o a b nx xs).2 ∧ eX q pc o a b nx xs = true := by
  simp only [eChk, Bool.and_eq_true, decide_eq_true_eq] at h
  exact ⟨h.1.1, Nat.eq_of_beq_eq_true h.1.2, h.2⟩
abbrev gOk (P : aP) (q d : Nat) (K : aK) (G : aG) : Prop := ∀ pc ls st I R S, G pc ls st I R S → Go P q d K pc ls st I R S
theorem beqE {x y : Nat} (h : Nat.beq x y = true) : x = y := Nat.eq_of_beq_eq_true h
theorem fin4 {a : Nat} (h : Nat.blt a 4 = true) : ((Fin.ofNat 4 a : Fin 4) : Nat) = a := by
  have : a < 4 := by simpa [Nat.blt_eq] using h
  simp [Fin.ofNat, Nat.mod_eq_of_lt this]
theorem bltE {x y : Nat} (h : Nat.blt x y = true) : x < y := by simpa [Nat.blt_eq] using h

theorem sn_1 (hg : gOk P q d K G) (he : eChk q (pc, 1, a, b, nx, xs) = true) (h : stp q (pL P) (pX P) G C K 1 a b nx xs ls st I R S) : Go P q d K pc ls st I R S := by
  obtain ⟨hd, hn, hx⟩ := chk he
  simp only [stp] at h
  split at h
  · rename_i z hz
    refine go_pure (ls' := ls) (st' := .inl z :: st) (pc' := nx) (fun p e s m args below meth c Rm Q H locs cells slots la hc hP hS h4 h5 hl kk => ?_) (hg _ _ _ _ _ _ h)
    have hr := lvx_read (a := a) hl (by rw [hz]; rfl)
    rw [hz] at hr
    simp only [eX, Bool.or_eq_true, Bool.and_eq_true] at hx
    rcases hx with hx | ⟨hx, h3⟩
    · have e2 := beqE hx
      have e1 : Nat.beq nx (pc + 1) = false := by rw [e2]; cases hb : Nat.beq (pc + 2) (pc + 1) with
        | false => rfl
        | true => have := beqE hb; omega
      have hd2 : decode (mB q) pc = .ok (.iload a, 2) := by rw [hd]; simp only [eI, e1]
      subst e2
      exact lv_iload hc.1 hc.2.1 hd2 hr (kk la hl)
    · have hd2 : decode (mB q) pc = .ok (.iload_n (Fin.ofNat 4 a), 1) := by rw [hd]; simp only [eI, hx]
      have e2 := beqE hx
      subst e2
      exact lv_iload_n hc.1 hc.2.1 hd2 (fin4 h3) hr (kk la hl)
  · exact h.elim
theorem sn_2 (hg : gOk P q d K G) (he : eChk q (pc, 2, a, b, nx, xs) = true) (h : stp q (pL P) (pX P) G C K 2 a b nx xs ls st I R S) : Go P q d K pc ls st I R S := by
  obtain ⟨hd, hn, hx⟩ := chk he
  simp only [stp] at h
  have key : ∀ v x, c1 v = true → cv (pB P) (pS P) v = .ref x → nth ls a = v → G nx ls (v :: st) I R S → Go P q d K pc ls st I R S := by
    intro v x hv hvx hz h
    refine go_pure (ls' := ls) (st' := v :: st) (pc' := nx) (fun p e s m args below meth c Rm Q H locs cells slots la hc hP hS h4 h5 hl kk => ?_) (hg _ _ _ _ _ _ h)
    have hr := lvx_read (a := a) hl (by rw [hz]; exact hv)
    rw [hz, hvx] at hr
    have kk : W p (pl P) e Rm s m args below meth c H locs cells slots Q (F0 m nx la (.ref x :: st.map (cv (pB P) (pS P)))) := by rw [← hvx]; exact kk la hl
    simp only [eX, Bool.or_eq_true, Bool.and_eq_true] at hx
    rcases hx with hx | ⟨hx, h3⟩
    · have e2 := beqE hx
      have e1 : Nat.beq nx (pc + 1) = false := by rw [e2]; cases hb : Nat.beq (pc + 2) (pc + 1) with
        | false => rfl
        | true => have := beqE hb; omega
      have hd2 : decode (mB q) pc = .ok (.aload a, 2) := by rw [hd]; simp only [eI, e1]
      subst e2
      exact lv_aload hc.1 hc.2.1 hd2 hr kk
    · have hd2 : decode (mB q) pc = .ok (.aload_n (Fin.ofNat 4 a), 1) := by rw [hd]; simp only [eI, hx]
      have e2 := beqE hx
      subst e2
      exact lv_aload_n hc.1 hc.2.1 hd2 (fin4 h3) hr kk
  split at h
  · rename_i x hz
    exact key _ _ rfl rfl hz h
  · rename_i hz
    exact key _ _ rfl rfl hz h
  · exact h.elim
theorem sn_3 (hg : gOk P q d K G) (he : eChk q (pc, 3, a, b, nx, xs) = true) (h : stp q (pL P) (pX P) G C K 3 a b nx xs ls st I R S) : Go P q d K pc ls st I R S := by
  obtain ⟨hd, hn, hx⟩ := chk he
  simp only [stp] at h
  split at h
  · rename_i z st1
    refine go_pure (ls' := setn ls a (.inl z)) (st' := st1) (pc' := nx) (fun p e s m args below meth c Rm Q H locs cells slots la hc hP hS h4 h5 hl kk => ?_) (hg _ _ _ _ _ _ h)
    simp only [eX, Bool.or_eq_true, Bool.and_eq_true] at hx
    obtain ⟨hx, ha⟩ := hx
    rcases hx with hx | ⟨hx, h3⟩
    · have e2 := beqE hx
      have e1 : Nat.beq nx (pc + 1) = false := by rw [e2]; cases hb : Nat.beq (pc + 2) (pc + 1) with
        | false => rfl
        | true => have := beqE hb; omega
      have hd2 : decode (mB q) pc = .ok (.istore a, 2) := by rw [hd]; simp only [eI, e1]
      subst e2
      exact lv_istore hc.1 hc.2.1 hd2 hl (bltE ha) rfl (fun la' hl' => kk la' (lvx_set (v := .inl z) hl'))
    · have hd2 : decode (mB q) pc = .ok (.istore_n (Fin.ofNat 4 a), 1) := by rw [hd]; simp only [eI, hx]
      have e2 := beqE hx
      subst e2
      exact lv_istore_n hc.1 hc.2.1 hd2 (fin4 h3) hl (bltE ha) rfl (fun la' hl' => kk la' (lvx_set (v := .inl z) hl'))
  · exact h.elim
theorem sn_4 (hg : gOk P q d K G) (he : eChk q (pc, 4, a, b, nx, xs) = true) (h : stp q (pL P) (pX P) G C K 4 a b nx xs ls st I R S) : Go P q d K pc ls st I R S := by
  obtain ⟨hd, hn, hx⟩ := chk he
  simp only [stp] at h
  split at h
  · rename_i x st1
    refine go_pure (ls' := setn ls a (vr x)) (st' := st1) (pc' := nx) (fun p e s m args below meth c Rm Q H locs cells slots la hc hP hS h4 h5 hl kk => ?_) (hg _ _ _ _ _ _ h)
    simp only [eX, Bool.or_eq_true, Bool.and_eq_true] at hx
    obtain ⟨hx, ha⟩ := hx
    rcases hx with hx | ⟨hx, h3⟩
    · have e2 := beqE hx
      have e1 : Nat.beq nx (pc + 1) = false := by rw [e2]; cases hb : Nat.beq (pc + 2) (pc + 1) with
        | false => rfl
        | true => have := beqE hb; omega
      have hd2 : decode (mB q) pc = .ok (.astore a, 2) := by rw [hd]; simp only [eI, e1]
      subst e2
      exact lv_astore hc.1 hc.2.1 hd2 hl (bltE ha) rfl (fun la' hl' => kk la' (lvx_set (v := vr x) hl'))
    · have hd2 : decode (mB q) pc = .ok (.astore_n (Fin.ofNat 4 a), 1) := by rw [hd]; simp only [eI, hx]
      have e2 := beqE hx
      subst e2
      exact lv_astore_n hc.1 hc.2.1 hd2 (fin4 h3) hl (bltE ha) rfl (fun la' hl' => kk la' (lvx_set (v := vr x) hl'))
  · exact h.elim
theorem sn_5 (hg : gOk P q d K G) (he : eChk q (pc, 5, a, b, nx, xs) = true) (h : stp q (pL P) (pX P) G C K 5 a b nx xs ls st I R S) : Go P q d K pc ls st I R S := by
  obtain ⟨hd, hn, hx⟩ := chk he
  have hn : nx = pc + 1 := hn
  subst hn
  refine go_pure (ls' := ls) (st' := .inl b :: st) (fun p e s m args below meth c Rm Q H locs cells slots la hc hP hS h4 h5 hl kk => ?_) (hg _ _ _ _ _ _ h)
  exact lv_iconst hc.1 hc.2.1 hd rfl (kk la hl)
theorem sn_6 (hg : gOk P q d K G) (he : eChk q (pc, 6, a, b, nx, xs) = true) (h : stp q (pL P) (pX P) G C K 6 a b nx xs ls st I R S) : Go P q d K pc ls st I R S := by
  obtain ⟨hd, hn, hx⟩ := chk he
  have hn : nx = pc + 2 := hn
  subst hn
  simp only [eX, Bool.and_eq_true, decide_eq_true_eq] at hx
  refine go_pure (ls' := ls) (st' := .inl b :: st) (fun p e s m args below meth c Rm Q H locs cells slots la hc hP hS h4 h5 hl kk => ?_) (hg _ _ _ _ _ _ h)
  exact lv_bipush hc.1 hc.2.1 hd (Int8.toInt32_ofInt (by have := hx.2.1; rw [Int8.toInt_minValue]; omega) (by have := hx.2.2; rw [Int8.toInt_maxValue]; omega)) (kk la hl)
theorem sn_7 (hg : gOk P q d K G) (he : eChk q (pc, 7, a, b, nx, xs) = true) (h : stp q (pL P) (pX P) G C K 7 a b nx xs ls st I R S) : Go P q d K pc ls st I R S := by
  obtain ⟨hd, hn, hx⟩ := chk he
  have hn : nx = pc + 3 := hn
  subst hn
  simp only [eX, Bool.and_eq_true, decide_eq_true_eq] at hx
  refine go_pure (ls' := ls) (st' := .inl b :: st) (fun p e s m args below meth c Rm Q H locs cells slots la hc hP hS h4 h5 hl kk => ?_) (hg _ _ _ _ _ _ h)
  exact lv_sipush hc.1 hc.2.1 hd (Int16.toInt32_ofInt (by have := hx.2.1; rw [Int16.toInt_minValue]; omega) (by have := hx.2.2; rw [Int16.toInt_maxValue]; omega)) (kk la hl)
theorem cst_in (h : CST.any (fun x => Nat.beq x.1 (mO q) && Nat.beq x.2.1 a && decide (x.2.2.1 = b)) = true) : Cond.constant (RN (mO q)) a (Int32.ofInt b) ∈ gw := by
  obtain ⟨x, hx, h⟩ := List.any_eq_true.mp h
  simp only [Bool.and_eq_true, decide_eq_true_eq] at h
  rw [← beqE h.1.1, ← beqE h.1.2, ← h.2]
  exact gw_at (CST_pl x hx) rfl
theorem csl_in (h : CSL.any (fun x => Nat.beq x.1 (mO q) && Nat.beq x.2.1 a && decide (x.2.2.1 = b)) = true) : Cond.constantLong (RN (mO q)) a (Int64.ofInt b) ∈ gw := by
  obtain ⟨x, hx, h⟩ := List.any_eq_true.mp h
  simp only [Bool.and_eq_true, decide_eq_true_eq] at h
  rw [← beqE h.1.1, ← beqE h.1.2, ← h.2]
  exact gw_at (CSL_pl x hx) rfl
theorem sn_8 (hg : gOk P q d K G) (he : eChk q (pc, 8, a, b, nx, xs) = true) (h : stp q (pL P) (pX P) G C K 8 a b nx xs ls st I R S) : Go P q d K pc ls st I R S := by
  obtain ⟨hd, hn, hx⟩ := chk he
  have hn : nx = pc + 2 := hn
  subst hn
  simp only [eX, Bool.and_eq_true] at hx
  refine go_pure (ls' := ls) (st' := .inl b :: st) (fun p e s m args below meth c Rm Q H locs cells slots la hc hP hS h4 h5 hl kk => ?_) (hg _ _ _ _ _ _ h)
  exact lv_ldc hc.1 hc.2.1 hc.2.2.2.1 (hc.2.2.2.2.1 _ (cst_in hx.2)) hd (kk la hl)
theorem sn_9 (hg : gOk P q d K G) (he : eChk q (pc, 9, a, b, nx, xs) = true) (h : stp q (pL P) (pX P) G C K 9 a b nx xs ls st I R S) : Go P q d K pc ls st I R S := by
  obtain ⟨hd, hn, hx⟩ := chk he
  have hn : nx = pc + 3 := hn
  subst hn
  simp only [eX, Bool.and_eq_true] at hx
  refine go_pure (ls' := ls) (st' := .inl b :: st) (fun p e s m args below meth c Rm Q H locs cells slots la hc hP hS h4 h5 hl kk => ?_) (hg _ _ _ _ _ _ h)
  exact lv_ldcw hc.1 hc.2.1 hc.2.2.2.1 (hc.2.2.2.2.1 _ (cst_in hx.2)) hd (kk la hl)
theorem sn_10 (hg : gOk P q d K G) (he : eChk q (pc, 10, a, b, nx, xs) = true) (h : stp q (pL P) (pX P) G C K 10 a b nx xs ls st I R S) : Go P q d K pc ls st I R S := by
  obtain ⟨hd, hn, hx⟩ := chk he
  have hn : nx = pc + 3 := hn
  subst hn
  simp only [eX, Bool.and_eq_true] at hx
  refine go_pure (ls' := ls) (st' := .inr (.inr (.inl b)) :: st) (fun p e s m args below meth c Rm Q H locs cells slots la hc hP hS h4 h5 hl kk => ?_) (hg _ _ _ _ _ _ h)
  exact lv_ldc2 hc.1 hc.2.1 hc.2.2.2.1 (hc.2.2.2.2.1 _ (csl_in hx.2)) hd (kk la hl)
theorem sn_11 (hg : gOk P q d K G) (he : eChk q (pc, 11, a, b, nx, xs) = true) (h : stp q (pL P) (pX P) G C K 11 a b nx xs ls st I R S) : Go P q d K pc ls st I R S := by
  obtain ⟨hd, hn, hx⟩ := chk he
  have hn : nx = pc + 1 := hn
  subst hn
  simp only [stp] at h
  split at h
  · rename_i y x st1
    refine go_pure (ls' := ls) (st' := .inl (x + y) :: st1) (fun p e s m args below meth c Rm Q H locs cells slots la hc hP hS h4 h5 hl kk => ?_) (hg _ _ _ _ _ _ h)
    refine lv_iadd hc.1 hc.2.1 hd ?_
    have k9 := kk la hl
    rw [List.map_cons] at k9
    simp only [cv, Int32.ofInt_add] at k9
    exact k9
  · exact h.elim
theorem sn_12 (hg : gOk P q d K G) (he : eChk q (pc, 12, a, b, nx, xs) = true) (h : stp q (pL P) (pX P) G C K 12 a b nx xs ls st I R S) : Go P q d K pc ls st I R S := by
  obtain ⟨hd, hn, hx⟩ := chk he
  have hn : nx = pc + 1 := hn
  subst hn
  simp only [stp] at h
  split at h
  · rename_i y x st1
    refine go_pure (ls' := ls) (st' := .inl (x - y) :: st1) (fun p e s m args below meth c Rm Q H locs cells slots la hc hP hS h4 h5 hl kk => ?_) (hg _ _ _ _ _ _ h)
    refine lv_isub hc.1 hc.2.1 hd ?_
    have k9 := kk la hl
    rw [List.map_cons] at k9
    simp only [cv, Int32.ofInt_sub] at k9
    exact k9
  · exact h.elim
theorem sn_13 (hg : gOk P q d K G) (he : eChk q (pc, 13, a, b, nx, xs) = true) (h : stp q (pL P) (pX P) G C K 13 a b nx xs ls st I R S) : Go P q d K pc ls st I R S := by
  obtain ⟨hd, hn, hx⟩ := chk he
  have hn : nx = pc + 1 := hn
  subst hn
  simp only [stp] at h
  split at h
  · rename_i y x st1
    refine go_pure (ls' := ls) (st' := .inl (x * y) :: st1) (fun p e s m args below meth c Rm Q H locs cells slots la hc hP hS h4 h5 hl kk => ?_) (hg _ _ _ _ _ _ h)
    refine lv_imul hc.1 hc.2.1 hd ?_
    have k9 := kk la hl
    rw [List.map_cons] at k9
    simp only [cv, Int32.ofInt_mul] at k9
    exact k9
  · exact h.elim
theorem sn_14 (hg : gOk P q d K G) (he : eChk q (pc, 14, a, b, nx, xs) = true) (h : stp q (pL P) (pX P) G C K 14 a b nx xs ls st I R S) : Go P q d K pc ls st I R S := by
  obtain ⟨hd, hn, hx⟩ := chk he
  have hn : nx = pc + 1 := hn
  subst hn
  simp only [stp] at h
  split at h
  · rename_i y x st1
    obtain ⟨hg1, h⟩ := h
    refine go_pure (ls' := ls) (st' := .inl (x / y) :: st1) (fun p e s m args below meth c Rm Q H locs cells slots la hc hP hS h4 h5 hl kk => ?_) (hg _ _ _ _ _ _ h)
    refine lv_idiv hc.1 hc.2.1 hd (fun h0 => by rw [zeroI, eqI ⟨by omega, by omega⟩ iR0] at h0; omega) ?_
    have k9 := kk la hl
    rw [List.map_cons] at k9
    simp only [cv, ← divI hg1.1 hg1.2.1 hg1.2.2.1 hg1.2.2.2] at k9
    exact k9
  · exact h.elim
theorem sn_15 (hg : gOk P q d K G) (he : eChk q (pc, 15, a, b, nx, xs) = true) (h : stp q (pL P) (pX P) G C K 15 a b nx xs ls st I R S) : Go P q d K pc ls st I R S := by
  obtain ⟨hd, hn, hx⟩ := chk he
  have hn : nx = pc + 1 := hn
  subst hn
  simp only [stp] at h
  split at h
  · rename_i y x st1
    obtain ⟨hg1, h⟩ := h
    refine go_pure (ls' := ls) (st' := .inl (x % y) :: st1) (fun p e s m args below meth c Rm Q H locs cells slots la hc hP hS h4 h5 hl kk => ?_) (hg _ _ _ _ _ _ h)
    refine lv_irem hc.1 hc.2.1 hd (fun h0 => by rw [zeroI, eqI ⟨by omega, by omega⟩ iR0] at h0; omega) ?_
    have k9 := kk la hl
    rw [List.map_cons] at k9
    simp only [cv, ← remI hg1.1 hg1.2.1 hg1.2.2.1 hg1.2.2.2] at k9
    exact k9
  · exact h.elim
theorem sn_16 (hg : gOk P q d K G) (he : eChk q (pc, 16, a, b, nx, xs) = true) (h : stp q (pL P) (pX P) G C K 16 a b nx xs ls st I R S) : Go P q d K pc ls st I R S := by
  obtain ⟨hd, hn, hx⟩ := chk he
  have hn : nx = pc + 1 := hn
  subst hn
  simp only [stp] at h
  split at h
  · rename_i y x st1
    refine go_pure (ls' := ls) (st' := .inl (bAnd x y) :: st1) (fun p e s m args below meth c Rm Q H locs cells slots la hc hP hS h4 h5 hl kk => ?_) (hg _ _ _ _ _ _ h)
    refine lv_iand hc.1 hc.2.1 hd ?_
    have k9 := kk la hl
    rw [List.map_cons] at k9
    simp only [cv, bAnd, Int32.ofInt_toInt] at k9
    exact k9
  · exact h.elim
theorem sn_17 (hg : gOk P q d K G) (he : eChk q (pc, 17, a, b, nx, xs) = true) (h : stp q (pL P) (pX P) G C K 17 a b nx xs ls st I R S) : Go P q d K pc ls st I R S := by
  obtain ⟨hd, hn, hx⟩ := chk he
  have hn : nx = pc + 1 := hn
  subst hn
  simp only [stp] at h
  split at h
  · rename_i y x st1
    refine go_pure (ls' := ls) (st' := .inl (bOr x y) :: st1) (fun p e s m args below meth c Rm Q H locs cells slots la hc hP hS h4 h5 hl kk => ?_) (hg _ _ _ _ _ _ h)
    refine lv_ior hc.1 hc.2.1 hd ?_
    have k9 := kk la hl
    rw [List.map_cons] at k9
    simp only [cv, bOr, Int32.ofInt_toInt] at k9
    exact k9
  · exact h.elim
theorem sn_18 (hg : gOk P q d K G) (he : eChk q (pc, 18, a, b, nx, xs) = true) (h : stp q (pL P) (pX P) G C K 18 a b nx xs ls st I R S) : Go P q d K pc ls st I R S := by
  obtain ⟨hd, hn, hx⟩ := chk he
  have hn : nx = pc + 1 := hn
  subst hn
  simp only [stp] at h
  split at h
  · rename_i y x st1
    refine go_pure (ls' := ls) (st' := .inl (bXor x y) :: st1) (fun p e s m args below meth c Rm Q H locs cells slots la hc hP hS h4 h5 hl kk => ?_) (hg _ _ _ _ _ _ h)
    refine lv_ixor hc.1 hc.2.1 hd ?_
    have k9 := kk la hl
    rw [List.map_cons] at k9
    simp only [cv, bXor, Int32.ofInt_toInt] at k9
    exact k9
  · exact h.elim
theorem sn_19 (hg : gOk P q d K G) (he : eChk q (pc, 19, a, b, nx, xs) = true) (h : stp q (pL P) (pX P) G C K 19 a b nx xs ls st I R S) : Go P q d K pc ls st I R S := by
  obtain ⟨hd, hn, hx⟩ := chk he
  have hn : nx = pc + 1 := hn
  subst hn
  simp only [stp] at h
  split at h
  · rename_i y x st1
    refine go_pure (ls' := ls) (st' := .inl (bShl x y) :: st1) (fun p e s m args below meth c Rm Q H locs cells slots la hc hP hS h4 h5 hl kk => ?_) (hg _ _ _ _ _ _ h)
    refine lv_ishl hc.1 hc.2.1 hd ?_
    have k9 := kk la hl
    rw [List.map_cons] at k9
    simp only [cv, bShl, Int32.ofInt_toInt] at k9
    exact k9
  · exact h.elim
theorem sn_20 (hg : gOk P q d K G) (he : eChk q (pc, 20, a, b, nx, xs) = true) (h : stp q (pL P) (pX P) G C K 20 a b nx xs ls st I R S) : Go P q d K pc ls st I R S := by
  obtain ⟨hd, hn, hx⟩ := chk he
  have hn : nx = pc + 1 := hn
  subst hn
  simp only [stp] at h
  split at h
  · rename_i y x st1
    refine go_pure (ls' := ls) (st' := .inl (bShr x y) :: st1) (fun p e s m args below meth c Rm Q H locs cells slots la hc hP hS h4 h5 hl kk => ?_) (hg _ _ _ _ _ _ h)
    refine lv_ishr hc.1 hc.2.1 hd ?_
    have k9 := kk la hl
    rw [List.map_cons] at k9
    simp only [cv, bShr, Int32.ofInt_toInt] at k9
    exact k9
  · exact h.elim
theorem sn_21 (hg : gOk P q d K G) (he : eChk q (pc, 21, a, b, nx, xs) = true) (h : stp q (pL P) (pX P) G C K 21 a b nx xs ls st I R S) : Go P q d K pc ls st I R S := by
  obtain ⟨hd, hn, hx⟩ := chk he
  have hn : nx = pc + 1 := hn
  subst hn
  simp only [stp] at h
  split at h
  · rename_i y x st1
    refine go_pure (ls' := ls) (st' := .inl (bUshr x y) :: st1) (fun p e s m args below meth c Rm Q H locs cells slots la hc hP hS h4 h5 hl kk => ?_) (hg _ _ _ _ _ _ h)
    refine lv_iushr hc.1 hc.2.1 hd rfl ?_
    have k9 := kk la hl
    rw [List.map_cons] at k9
    simp only [cv, bUshr, Int32.ofInt_toInt] at k9
    exact k9
  · exact h.elim
theorem sn_22 (hg : gOk P q d K G) (he : eChk q (pc, 22, a, b, nx, xs) = true) (h : stp q (pL P) (pX P) G C K 22 a b nx xs ls st I R S) : Go P q d K pc ls st I R S := by
  obtain ⟨hd, hn, hx⟩ := chk he
  have hn : nx = pc + 1 := hn
  subst hn
  simp only [stp] at h
  split at h
  · rename_i x st1
    obtain ⟨hi, h⟩ := h
    refine go_pure (ls' := ls) (st' := .inr (.inr (.inl x)) :: st1) (fun p e s m args below meth c Rm Q H locs cells slots la hc hP hS h4 h5 hl kk => ?_) (hg _ _ _ _ _ _ h)
    exact lv_i2l hc.1 hc.2.1 hd (Int32.toInt64_ofInt (by have := hi.1; rw [Int32.toInt_minValue]; omega) (by have := hi.2; rw [Int32.toInt_maxValue]; omega)) (kk la hl)
  · exact h.elim
theorem sn_23 (hg : gOk P q d K G) (he : eChk q (pc, 23, a, b, nx, xs) = true) (h : stp q (pL P) (pX P) G C K 23 a b nx xs ls st I R S) : Go P q d K pc ls st I R S := by
  obtain ⟨hd, hn, hx⟩ := chk he
  have hn : nx = pc + 1 := hn
  subst hn
  simp only [stp] at h
  split at h
  · rename_i x st1
    refine go_pure (ls' := ls) (st' := .inl x :: st1) (fun p e s m args below meth c Rm Q H locs cells slots la hc hP hS h4 h5 hl kk => ?_) (hg _ _ _ _ _ _ h)
    exact lv_l2i hc.1 hc.2.1 hd Int64.toInt32_ofInt (kk la hl)
  · exact h.elim
theorem sn_24 (hg : gOk P q d K G) (he : eChk q (pc, 24, a, b, nx, xs) = true) (h : stp q (pL P) (pX P) G C K 24 a b nx xs ls st I R S) : Go P q d K pc ls st I R S := by
  obtain ⟨hd, hn, hx⟩ := chk he
  have hn : nx = pc + 1 := hn
  subst hn
  simp only [stp] at h
  split at h
  · rename_i y x st1
    refine go_pure (ls' := ls) (st' := .inr (.inr (.inl (x * y))) :: st1) (fun p e s m args below meth c Rm Q H locs cells slots la hc hP hS h4 h5 hl kk => ?_) (hg _ _ _ _ _ _ h)
    refine lv_lmul hc.1 hc.2.1 hd ?_
    have k9 := kk la hl
    rw [List.map_cons] at k9
    simp only [cv, Int64.ofInt_mul] at k9
    exact k9
  · exact h.elim
theorem sn_25 (hg : gOk P q d K G) (he : eChk q (pc, 25, a, b, nx, xs) = true) (h : stp q (pL P) (pX P) G C K 25 a b nx xs ls st I R S) : Go P q d K pc ls st I R S := by
  obtain ⟨hd, hn, hx⟩ := chk he
  have hn : nx = pc + 1 := hn
  subst hn
  simp only [stp] at h
  split at h
  · rename_i y x st1
    refine go_pure (ls' := ls) (st' := .inr (.inr (.inl (x + y))) :: st1) (fun p e s m args below meth c Rm Q H locs cells slots la hc hP hS h4 h5 hl kk => ?_) (hg _ _ _ _ _ _ h)
    refine lv_ladd hc.1 hc.2.1 hd ?_
    have k9 := kk la hl
    rw [List.map_cons] at k9
    simp only [cv, Int64.ofInt_add] at k9
    exact k9
  · exact h.elim
theorem sn_26 (hg : gOk P q d K G) (he : eChk q (pc, 26, a, b, nx, xs) = true) (h : stp q (pL P) (pX P) G C K 26 a b nx xs ls st I R S) : Go P q d K pc ls st I R S := by
  obtain ⟨hd, hn, hx⟩ := chk he
  have hn : nx = pc + 1 := hn
  subst hn
  simp only [stp] at h
  split at h
  · rename_i y x st1
    refine go_pure (ls' := ls) (st' := .inr (.inr (.inl (bLand x y))) :: st1) (fun p e s m args below meth c Rm Q H locs cells slots la hc hP hS h4 h5 hl kk => ?_) (hg _ _ _ _ _ _ h)
    refine lv_land hc.1 hc.2.1 hd ?_
    have k9 := kk la hl
    rw [List.map_cons] at k9
    simp only [cv, bLand, Int64.ofInt_toInt] at k9
    exact k9
  · exact h.elim
theorem sn_27 (hg : gOk P q d K G) (he : eChk q (pc, 27, a, b, nx, xs) = true) (h : stp q (pL P) (pX P) G C K 27 a b nx xs ls st I R S) : Go P q d K pc ls st I R S := by
  obtain ⟨hd, hn, hx⟩ := chk he
  have hn : nx = pc + 1 := hn
  subst hn
  simp only [stp] at h
  split at h
  · rename_i y x st1
    obtain ⟨hg1, h⟩ := h
    refine go_pure (ls' := ls) (st' := .inr (.inr (.inl (x % y))) :: st1) (fun p e s m args below meth c Rm Q H locs cells slots la hc hP hS h4 h5 hl kk => ?_) (hg _ _ _ _ _ _ h)
    refine lv_lrem hc.1 hc.2.1 hd (fun h0 => by have e := congrArg Int64.toInt h0; rw [tL (by omega) hg1.2.2.2, show (0 : Int64).toInt = 0 from by decide] at e; omega) ?_
    have k9 := kk la hl
    rw [List.map_cons] at k9
    simp only [cv, ← remL hg1.1 hg1.2.1 hg1.2.2.1 hg1.2.2.2] at k9
    exact k9
  · exact h.elim
theorem sn_28 (hg : gOk P q d K G) (he : eChk q (pc, 28, a, b, nx, xs) = true) (h : stp q (pL P) (pX P) G C K 28 a b nx xs ls st I R S) : Go P q d K pc ls st I R S := by
  obtain ⟨hd, hn, hx⟩ := chk he
  have hn : nx = pc + 3 := hn
  subst hn
  simp only [eX, Bool.and_eq_true] at hx
  simp only [stp] at h
  split at h
  · rename_i z hz
    refine go_pure (ls' := setn ls a (.inl (z + b))) (st' := st) (fun p e s m args below meth c Rm Q H locs cells slots la hc hP hS h4 h5 hl kk => ?_) (hg _ _ _ _ _ _ h)
    obtain ⟨k, hk⟩ := List.getElem?_of_mem ((lvL_mem (bs := pB P) (b := pS P) ls 0 (a, .int (Int32.ofInt z))).mpr ⟨a, by rw [hz]; rfl, by rw [hz, Nat.zero_add]; rfl⟩)
    exact lv_iinc hc.1 hc.2.1 hd hl hk (Int32.ofInt_add z b).symm (bltE hx.2) rfl (fun la' hl' => kk la' (lvx_set (v := .inl (z + b)) hl'))
  · exact h.elim
theorem sn_29 (hg : gOk P q d K G) (he : eChk q (pc, 29, a, b, nx, xs) = true) (h : stp q (pL P) (pX P) G C K 29 a b nx xs ls st I R S) : Go P q d K pc ls st I R S := by
  obtain ⟨hd, hn, hx⟩ := chk he
  refine go_pure (ls' := ls) (st' := st) (pc' := a) (fun p e s m args below meth c Rm Q H locs cells slots la hc hP hS h4 h5 hl kk => ?_) (hg _ _ _ _ _ _ h)
  exact lv_goto hc.1 hc.2.1 hd (by omega) (kk la hl)
theorem go_if {c0 : Prop} {pc1 pc2 : Nat} {st1 : List aV} (hd : Decidable c0) (ht : c0 → Go P q d K pc1 ls st1 I R S) (hf : ¬ c0 → Go P q d K pc2 ls st1 I R S)
    (hs : ∀ (p : Program) (e : Env) (s : State) (m : MethodId) (args : Array Value) (below : List Frame) (meth : Method) (c : Code) (Rm : Room) (Q : State → Prop) (H : Heap) (locs : List Loc) (cells slots : Nat) (la : Array Slot),
      Cx P q p s m args meth c →
      (c0 → W p (pl P) e Rm s m args below meth c H locs cells slots Q (F0 m pc1 la (st1.map (cv (pB P) (pS P))))) → (¬ c0 → W p (pl P) e Rm s m args below meth c H locs cells slots Q (F0 m pc2 la (st1.map (cv (pB P) (pS P))))) →
      W p (pl P) e Rm s m args below meth c H locs cells slots Q (F0 m pc la (st.map (cv (pB P) (pS P))))) : Go P q d K pc ls st I R S := by
  by_cases h0 : c0
  · refine go_pure (ls' := ls) (st' := st1) (pc' := pc1) (fun p e s m args below meth c Rm Q H locs cells slots la hc hP hS h4 h5 hl kk => hs p e s m args below meth c Rm Q H locs cells slots la hc (fun _ => kk la hl) (fun h => absurd h0 h)) (ht h0)
  · refine go_pure (ls' := ls) (st' := st1) (pc' := pc2) (fun p e s m args below meth c Rm Q H locs cells slots la hc hP hS h4 h5 hl kk => hs p e s m args below meth c Rm Q H locs cells slots la hc (fun h => absurd h h0) (fun _ => kk la hl)) (hf h0)
theorem sn_30 (hg : gOk P q d K G) (he : eChk q (pc, 30, a, b, nx, xs) = true) (h : stp q (pL P) (pX P) G C K 30 a b nx xs ls st I R S) : Go P q d K pc ls st I R S := by
  obtain ⟨hd, hn, hx⟩ := chk he
  have hn : nx = pc + 3 := hn
  subst hn
  simp only [stp] at h
  split at h
  · rename_i x st1
    obtain ⟨hi, h⟩ := h
    refine go_if (c0 := x = 0) (pc1 := a) (pc2 := pc + 3) (st1 := st1) inferInstance (fun hh => hg _ _ _ _ _ _ (h.1 hh)) (fun hh => hg _ _ _ _ _ _ (h.2 hh)) (fun p e s m args below meth c Rm Q H locs cells slots la hc kt kf => ?_)
    refine lv_if_eq hc.1 hc.2.1 (tgt := a) hd (by omega) (fun hh => ?_) (fun hh => ?_)
    · rw [zeroI, eqI hi iR0] at hh; exact kt hh
    · rw [zeroI, eqI hi iR0] at hh; exact kf hh
  · exact h.elim
theorem sn_31 (hg : gOk P q d K G) (he : eChk q (pc, 31, a, b, nx, xs) = true) (h : stp q (pL P) (pX P) G C K 31 a b nx xs ls st I R S) : Go P q d K pc ls st I R S := by
  obtain ⟨hd, hn, hx⟩ := chk he
  have hn : nx = pc + 3 := hn
  subst hn
  simp only [stp] at h
  split at h
  · rename_i x st1
    obtain ⟨hi, h⟩ := h
    refine go_if (c0 := x = 0) (pc1 := pc + 3) (pc2 := a) (st1 := st1) inferInstance (fun hh => hg _ _ _ _ _ _ (h.2 hh)) (fun hh => hg _ _ _ _ _ _ (h.1 hh)) (fun p e s m args below meth c Rm Q H locs cells slots la hc kt kf => ?_)
    refine lv_if_ne hc.1 hc.2.1 (tgt := a) hd (by omega) (fun hh => ?_) (fun hh => ?_)
    · rw [zeroI, eqI hi iR0] at hh; exact kf hh
    · rw [zeroI, eqI hi iR0] at hh; exact kt hh
  · exact h.elim
theorem sn_32 (hg : gOk P q d K G) (he : eChk q (pc, 32, a, b, nx, xs) = true) (h : stp q (pL P) (pX P) G C K 32 a b nx xs ls st I R S) : Go P q d K pc ls st I R S := by
  obtain ⟨hd, hn, hx⟩ := chk he
  have hn : nx = pc + 3 := hn
  subst hn
  simp only [stp] at h
  split at h
  · rename_i x st1
    obtain ⟨hi, h⟩ := h
    refine go_if (c0 := x < 0) (pc1 := a) (pc2 := pc + 3) (st1 := st1) inferInstance (fun hh => hg _ _ _ _ _ _ (h.1 hh)) (fun hh => hg _ _ _ _ _ _ (h.2 hh)) (fun p e s m args below meth c Rm Q H locs cells slots la hc kt kf => ?_)
    refine lv_if_lt hc.1 hc.2.1 (tgt := a) hd (by omega) (fun hh => ?_) (fun hh => ?_)
    · rw [zeroI, ltI hi iR0] at hh; exact kt hh
    · rw [zeroI, ltI hi iR0] at hh; exact kf hh
  · exact h.elim
theorem sn_33 (hg : gOk P q d K G) (he : eChk q (pc, 33, a, b, nx, xs) = true) (h : stp q (pL P) (pX P) G C K 33 a b nx xs ls st I R S) : Go P q d K pc ls st I R S := by
  obtain ⟨hd, hn, hx⟩ := chk he
  have hn : nx = pc + 3 := hn
  subst hn
  simp only [stp] at h
  split at h
  · rename_i x st1
    obtain ⟨hi, h⟩ := h
    refine go_if (c0 := 0 ≤ x) (pc1 := a) (pc2 := pc + 3) (st1 := st1) inferInstance (fun hh => hg _ _ _ _ _ _ (h.1 hh)) (fun hh => hg _ _ _ _ _ _ (h.2 hh)) (fun p e s m args below meth c Rm Q H locs cells slots la hc kt kf => ?_)
    refine lv_if_ge hc.1 hc.2.1 (tgt := a) hd (by omega) (fun hh => ?_) (fun hh => ?_)
    · rw [zeroI, leI iR0 hi] at hh; exact kt hh
    · rw [zeroI, leI iR0 hi] at hh; exact kf hh
  · exact h.elim
theorem sn_34 (hg : gOk P q d K G) (he : eChk q (pc, 34, a, b, nx, xs) = true) (h : stp q (pL P) (pX P) G C K 34 a b nx xs ls st I R S) : Go P q d K pc ls st I R S := by
  obtain ⟨hd, hn, hx⟩ := chk he
  have hn : nx = pc + 3 := hn
  subst hn
  simp only [stp] at h
  split at h
  · rename_i x st1
    obtain ⟨hi, h⟩ := h
    refine go_if (c0 := 0 < x) (pc1 := a) (pc2 := pc + 3) (st1 := st1) inferInstance (fun hh => hg _ _ _ _ _ _ (h.1 hh)) (fun hh => hg _ _ _ _ _ _ (h.2 hh)) (fun p e s m args below meth c Rm Q H locs cells slots la hc kt kf => ?_)
    refine lv_if_gt hc.1 hc.2.1 (tgt := a) hd (by omega) (fun hh => ?_) (fun hh => ?_)
    · rw [zeroI, ltI iR0 hi] at hh; exact kt hh
    · rw [zeroI, ltI iR0 hi] at hh; exact kf hh
  · exact h.elim
theorem sn_35 (hg : gOk P q d K G) (he : eChk q (pc, 35, a, b, nx, xs) = true) (h : stp q (pL P) (pX P) G C K 35 a b nx xs ls st I R S) : Go P q d K pc ls st I R S := by
  obtain ⟨hd, hn, hx⟩ := chk he
  have hn : nx = pc + 3 := hn
  subst hn
  simp only [stp] at h
  split at h
  · rename_i x st1
    obtain ⟨hi, h⟩ := h
    refine go_if (c0 := x ≤ 0) (pc1 := a) (pc2 := pc + 3) (st1 := st1) inferInstance (fun hh => hg _ _ _ _ _ _ (h.1 hh)) (fun hh => hg _ _ _ _ _ _ (h.2 hh)) (fun p e s m args below meth c Rm Q H locs cells slots la hc kt kf => ?_)
    refine lv_if_le hc.1 hc.2.1 (tgt := a) hd (by omega) (fun hh => ?_) (fun hh => ?_)
    · rw [zeroI, leI hi iR0] at hh; exact kt hh
    · rw [zeroI, leI hi iR0] at hh; exact kf hh
  · exact h.elim
theorem sn_36 (hg : gOk P q d K G) (he : eChk q (pc, 36, a, b, nx, xs) = true) (h : stp q (pL P) (pX P) G C K 36 a b nx xs ls st I R S) : Go P q d K pc ls st I R S := by
  obtain ⟨hd, hn, hx⟩ := chk he
  have hn : nx = pc + 3 := hn
  subst hn
  simp only [stp] at h
  split at h
  · rename_i y x st1
    obtain ⟨hi, h⟩ := h
    refine go_if (c0 := x = y) (pc1 := a) (pc2 := pc + 3) (st1 := st1) inferInstance (fun hh => hg _ _ _ _ _ _ (h.1 hh)) (fun hh => hg _ _ _ _ _ _ (h.2 hh)) (fun p e s m args below meth c Rm Q H locs cells slots la hc kt kf => ?_)
    refine lv_icmp_eq hc.1 hc.2.1 (tgt := a) hd (by omega) (fun hh => ?_) (fun hh => ?_)
    · rw [eqI hi.1 hi.2] at hh; exact kt hh
    · rw [eqI hi.1 hi.2] at hh; exact kf hh
  · exact h.elim
theorem sn_37 (hg : gOk P q d K G) (he : eChk q (pc, 37, a, b, nx, xs) = true) (h : stp q (pL P) (pX P) G C K 37 a b nx xs ls st I R S) : Go P q d K pc ls st I R S := by
  obtain ⟨hd, hn, hx⟩ := chk he
  have hn : nx = pc + 3 := hn
  subst hn
  simp only [stp] at h
  split at h
  · rename_i y x st1
    obtain ⟨hi, h⟩ := h
    refine go_if (c0 := x = y) (pc1 := pc + 3) (pc2 := a) (st1 := st1) inferInstance (fun hh => hg _ _ _ _ _ _ (h.2 hh)) (fun hh => hg _ _ _ _ _ _ (h.1 hh)) (fun p e s m args below meth c Rm Q H locs cells slots la hc kt kf => ?_)
    refine lv_icmp_ne hc.1 hc.2.1 (tgt := a) hd (by omega) (fun hh => ?_) (fun hh => ?_)
    · rw [eqI hi.1 hi.2] at hh; exact kf hh
    · rw [eqI hi.1 hi.2] at hh; exact kt hh
  · exact h.elim
theorem sn_38 (hg : gOk P q d K G) (he : eChk q (pc, 38, a, b, nx, xs) = true) (h : stp q (pL P) (pX P) G C K 38 a b nx xs ls st I R S) : Go P q d K pc ls st I R S := by
  obtain ⟨hd, hn, hx⟩ := chk he
  have hn : nx = pc + 3 := hn
  subst hn
  simp only [stp] at h
  split at h
  · rename_i y x st1
    obtain ⟨hi, h⟩ := h
    refine go_if (c0 := x < y) (pc1 := a) (pc2 := pc + 3) (st1 := st1) inferInstance (fun hh => hg _ _ _ _ _ _ (h.1 hh)) (fun hh => hg _ _ _ _ _ _ (h.2 hh)) (fun p e s m args below meth c Rm Q H locs cells slots la hc kt kf => ?_)
    refine lv_icmp_lt hc.1 hc.2.1 (tgt := a) hd (by omega) (fun hh => ?_) (fun hh => ?_)
    · rw [ltI hi.1 hi.2] at hh; exact kt hh
    · rw [ltI hi.1 hi.2] at hh; exact kf hh
  · exact h.elim
theorem sn_39 (hg : gOk P q d K G) (he : eChk q (pc, 39, a, b, nx, xs) = true) (h : stp q (pL P) (pX P) G C K 39 a b nx xs ls st I R S) : Go P q d K pc ls st I R S := by
  obtain ⟨hd, hn, hx⟩ := chk he
  have hn : nx = pc + 3 := hn
  subst hn
  simp only [stp] at h
  split at h
  · rename_i y x st1
    obtain ⟨hi, h⟩ := h
    refine go_if (c0 := y ≤ x) (pc1 := a) (pc2 := pc + 3) (st1 := st1) inferInstance (fun hh => hg _ _ _ _ _ _ (h.1 hh)) (fun hh => hg _ _ _ _ _ _ (h.2 hh)) (fun p e s m args below meth c Rm Q H locs cells slots la hc kt kf => ?_)
    refine lv_icmp_ge hc.1 hc.2.1 (tgt := a) hd (by omega) (fun hh => ?_) (fun hh => ?_)
    · rw [leI hi.2 hi.1] at hh; exact kt hh
    · rw [leI hi.2 hi.1] at hh; exact kf hh
  · exact h.elim
theorem sn_40 (hg : gOk P q d K G) (he : eChk q (pc, 40, a, b, nx, xs) = true) (h : stp q (pL P) (pX P) G C K 40 a b nx xs ls st I R S) : Go P q d K pc ls st I R S := by
  obtain ⟨hd, hn, hx⟩ := chk he
  have hn : nx = pc + 3 := hn
  subst hn
  simp only [stp] at h
  split at h
  · rename_i y x st1
    obtain ⟨hi, h⟩ := h
    refine go_if (c0 := y < x) (pc1 := a) (pc2 := pc + 3) (st1 := st1) inferInstance (fun hh => hg _ _ _ _ _ _ (h.1 hh)) (fun hh => hg _ _ _ _ _ _ (h.2 hh)) (fun p e s m args below meth c Rm Q H locs cells slots la hc kt kf => ?_)
    refine lv_icmp_gt hc.1 hc.2.1 (tgt := a) hd (by omega) (fun hh => ?_) (fun hh => ?_)
    · rw [ltI hi.2 hi.1] at hh; exact kt hh
    · rw [ltI hi.2 hi.1] at hh; exact kf hh
  · exact h.elim
theorem sn_41 (hg : gOk P q d K G) (he : eChk q (pc, 41, a, b, nx, xs) = true) (h : stp q (pL P) (pX P) G C K 41 a b nx xs ls st I R S) : Go P q d K pc ls st I R S := by
  obtain ⟨hd, hn, hx⟩ := chk he
  have hn : nx = pc + 3 := hn
  subst hn
  simp only [stp] at h
  split at h
  · rename_i y x st1
    obtain ⟨hi, h⟩ := h
    refine go_if (c0 := x ≤ y) (pc1 := a) (pc2 := pc + 3) (st1 := st1) inferInstance (fun hh => hg _ _ _ _ _ _ (h.1 hh)) (fun hh => hg _ _ _ _ _ _ (h.2 hh)) (fun p e s m args below meth c Rm Q H locs cells slots la hc kt kf => ?_)
    refine lv_icmp_le hc.1 hc.2.1 (tgt := a) hd (by omega) (fun hh => ?_) (fun hh => ?_)
    · rw [leI hi.1 hi.2] at hh; exact kt hh
    · rw [leI hi.1 hi.2] at hh; exact kf hh
  · exact h.elim
theorem tsw_at {x : Int} {g : Nat → Prop} : ∀ (l : List (Int × Nat)) (lo : Int) (k : Nat) (r : Int × Nat), tsw x g lo l → x = lo + (k : Int) → l[k]? = some r → g r.2
  | [], _, _, _, _, _, h => by cases h
  | r0 :: l, lo, 0, r, h, hx, hk => by
    cases hk
    exact h.1 (by omega)
  | r0 :: l, lo, k + 1, r, h, hx, hk => tsw_at l (lo + 1) k r h.2 (by omega) hk
theorem lsw_at {x : Int} {g : Nat → Prop} {g0 : Prop} (pc a : Nat) : ∀ (l : List (Int × Nat)), lswD x g0 l → lsw x g l → (g0 ∧ Op.lookupswitch.offset (l.map (fun r => (r.1, (r.2 : Int) - pc))) ((a : Int) - pc) x = (a : Int) - pc) ∨ ∃ t, g t ∧ Op.lookupswitch.offset (l.map (fun r => (r.1, (r.2 : Int) - pc))) ((a : Int) - pc) x = (t : Int) - pc
  | [], h, _ => Or.inl ⟨h, rfl⟩
  | r :: l, h, h2 => by
    by_cases e : x = r.1
    · refine Or.inr ⟨r.2, h2.1 e, ?_⟩
      simp [Op.lookupswitch.offset, e]
    · have hne : ¬ r.1 = x := fun h => e h.symm
      rcases lsw_at pc a l (h e) h2.2 with ⟨h3, h4⟩ | ⟨t, h3, h4⟩
      · refine Or.inl ⟨h3, ?_⟩
        simpa [Op.lookupswitch.offset, e, hne] using h4
      · refine Or.inr ⟨t, h3, ?_⟩
        simpa [Op.lookupswitch.offset, e, hne] using h4
theorem sn_42 (hg : gOk P q d K G) (he : eChk q (pc, 42, a, b, nx, xs) = true) (h : stp q (pL P) (pX P) G C K 42 a b nx xs ls st I R S) : Go P q d K pc ls st I R S := by
  obtain ⟨hd, hn, hx⟩ := chk he
  simp only [stp] at h
  split at h
  · rename_i x st1
    obtain ⟨hi, h1, h2⟩ := h
    by_cases hout : x < b ∨ b + (xs.length : Int) ≤ x
    · refine go_pure (ls' := ls) (st' := st1) (pc' := a) (fun p e s m args below meth c Rm Q H locs cells slots la hc hP hS h4 h5 hl kk => ?_) (hg _ _ _ _ _ _ (h1 hout))
      exact lv_tableOut hc.1 hc.2.1 hd (by rw [tI hi]; omega) (by omega) (kk la hl)
    · have hk : (x - b).toNat < xs.length := by omega
      have hr := List.getElem?_eq_getElem hk
      have h3 := tsw_at (g := fun t => G t ls st1 I R S) xs b (x - b).toNat _ h2 (by omega) hr
      refine go_pure (ls' := ls) (st' := st1) (pc' := (xs[(x - b).toNat]'hk).2) (fun p e s m args below meth c Rm Q H locs cells slots la hc hP hS h4 h5 hl kk => ?_) (hg _ _ _ _ _ _ h3)
      exact lv_tableIn hc.1 hc.2.1 (off := ((xs[(x - b).toNat]'hk).2 : Int) - pc) hd (by rw [tI hi]; omega) (by rw [tI hi]; omega) (by rw [tI hi, List.getElem?_toArray, List.getElem?_map, hr]; rfl) (by omega) (kk la hl)
  · exact h.elim
theorem sn_43 (hg : gOk P q d K G) (he : eChk q (pc, 43, a, b, nx, xs) = true) (h : stp q (pL P) (pX P) G C K 43 a b nx xs ls st I R S) : Go P q d K pc ls st I R S := by
  obtain ⟨hd, hn, hx⟩ := chk he
  simp only [stp] at h
  split at h
  · rename_i x st1
    obtain ⟨hi, h1, h2⟩ := h
    rcases lsw_at (g := fun t => G t ls st1 I R S) pc a xs h1 h2 with ⟨h3, h9⟩ | ⟨t, h3, h9⟩
    · refine go_pure (ls' := ls) (st' := st1) (pc' := a) (fun p e s m args below meth c Rm Q H locs cells slots la hc hP hS h4 h5 hl kk => ?_) (hg _ _ _ _ _ _ h3)
      exact lv_lookup hc.1 hc.2.1 (off := (a : Int) - pc) hd hx (by rw [tI hi]; exact h9) (by omega) (kk la hl)
    · refine go_pure (ls' := ls) (st' := st1) (pc' := t) (fun p e s m args below meth c Rm Q H locs cells slots la hc hP hS h4 h5 hl kk => ?_) (hg _ _ _ _ _ _ h3)
      exact lv_lookup hc.1 hc.2.1 (off := (t : Int) - pc) hd hx (by rw [tI hi]; exact h9) (by omega) (kk la hl)
  · exact h.elim
end Sn
end
section
/-! heap instructions, making of cells, calls, ends; printed by wip/whole/gensound2.py -/
section Sn2
variable {P : aP} {q d pc a nx : Nat} {b : Int} {xs : List (Int × Nat)} {K : aK} {G : aG} {C : aC} {ls st : List aV} {I : aI} {R : aR} {S : aS}
theorem flk_in {ci k : Nat} (h : FLK.any (fun x => Nat.beq x.1 (mO q) && Nat.beq x.2.1 a && Nat.beq x.2.2.1 ci && Nat.beq x.2.2.2.1 k) = true) : Cond.fieldLink (RN (mO q)) a (TF ci k).1 (TF ci k).2.1 (TF ci k).2.2.1 ∈ gw ∧ ci < 9 ∧ k < NF ci := by
  obtain ⟨x, hx, h⟩ := List.any_eq_true.mp h
  simp only [Bool.and_eq_true] at h
  have h1 := beqE h.1.1.1
  have h2 := beqE h.1.1.2
  have h3 := beqE h.1.2
  have h4 := beqE h.2
  have h5 := FLK_ok x hx
  rw [← h1, ← h2, ← h3, ← h4]
  exact ⟨gw_at (FLK_pl x hx) rfl, h5⟩
theorem clk_in {ci : Nat} (h : CLK.any (fun x => Nat.beq x.1 (mO q) && Nat.beq x.2.1 a && Nat.beq x.2.2.1 ci) = true) : Cond.classLink (RN (mO q)) a (RN ci) ∈ gw := by
  obtain ⟨x, hx, h⟩ := List.any_eq_true.mp h
  simp only [Bool.and_eq_true] at h
  rw [← beqE h.1.1, ← beqE h.1.2, ← beqE h.2]
  exact gw_at (CLK_pl x hx) rfl
theorem mlk_in {q' : Nat} (h : MLK.any (fun x => Nat.beq x.1 (mO q) && Nat.beq x.2.1 a && Nat.beq x.2.2.1 q') = true) : Cond.methodLink (RN (mO q)) a (mY q') ∈ gw := by
  obtain ⟨x, hx, h⟩ := List.any_eq_true.mp h
  simp only [Bool.and_eq_true] at h
  rw [← beqE h.1.1, ← beqE h.1.2, ← beqE h.2]
  exact gw_at (MLK_pl x hx) rfl
theorem nlk_in {q' : Nat} {s : State} (hN : Nz s) (h : NLK.any (fun x => Nat.beq x.1 (mO q) && Nat.beq x.2.1 a && Nat.beq x.2.2.1 q') = true) : va_Nw (.methodLinkNest (RN (mO q)) a (mY q') "RepeaterWires") s := by
  obtain ⟨x, hx, h⟩ := List.any_eq_true.mp h
  simp only [Bool.and_eq_true] at h
  rw [← beqE h.1.1, ← beqE h.1.2, ← beqE h.2]
  exact hN.1 x hx
theorem oil_in (h : OIL.any (fun x => Nat.beq x.1 (mO q) && Nat.beq x.2.1 a) = true) : Cond.methodLink (RN (mO q)) a objectInit ∈ gw := by
  obtain ⟨x, hx, h⟩ := List.any_eq_true.mp h
  simp only [Bool.and_eq_true] at h
  rw [← beqE h.1, ← beqE h.2]
  exact gw_at (OIL_pl x hx) rfl
theorem acl_in (h : ACL.any (fun x => Nat.beq x.1 (mO q) && Nat.beq x.2.1 a) = true) : Cond.methodLink (RN (mO q)) a arraycopyName ∈ gw := by
  obtain ⟨x, hx, h⟩ := List.any_eq_true.mp h
  simp only [Bool.and_eq_true] at h
  rw [← beqE h.1, ← beqE h.2]
  exact gw_at (ACL_pl x hx) rfl
theorem ce_obj {cy : Nat → ClassId} {bs x ci n : Nat} (h : ci < 9) : ce cy bs I R x (ci, n) = .inr (ci, (List.range (NF ci)).map (fv bs I R x ci)) := by simp [ce, h]
theorem ce_9 {cy : Nat → ClassId} {bs x n : Nat} : ce cy bs I R x (9, n) = .inl (cy 9, n, .inl (fun i => Int32.ofInt (I x i))) := rfl
theorem ce_10 {cy : Nat → ClassId} {bs x n : Nat} : ce cy bs I R x (10, n) = .inl (cy 10, n, .inl (fun i => Int32.ofInt (I x i))) := rfl
theorem ce_11 {cy : Nat → ClassId} {bs x n : Nat} : ce cy bs I R x (11, n) = .inl (cy 11, n, .inr (.inr (.inr (.inr (fun i => (R x i).map (fun y => bs + y)))))) := rfl
theorem ce_12 {cy : Nat → ClassId} {bs x n : Nat} : ce cy bs I R x (12, n) = .inl (cy 12, n, .inr (.inr (.inr (.inr (fun i => (R x i).map (fun y => bs + y)))))) := rfl
theorem fv_int {bs x ci k : Nat} (h : isRf ci k = false) : fv bs I R x ci k = .int (Int32.ofInt (I x k)) := by simp [fv, h]
theorem fv_ref {bs x ci k y : Nat} (h : isRf ci k = true) (hy : R x k = some y) : fv bs I R x ci k = .ref (bs + y) := by simp [fv, h, hy, va_rf]
theorem fs_at {bs x ci k : Nat} (h : k < NF ci) : ((List.range (NF ci)).map (fv bs I R x ci))[k]? = some (fv bs I R x ci k) := by rw [List.getElem?_map, List.getElem?_range h]; rfl
theorem upd_I {x : Nat} {j z : Int} (h : 0 ≤ j) : upd (fun i => Int32.ofInt (I x i)) j.toNat (Int32.ofInt z) = fun (i : Nat) => Int32.ofInt (uI I x j z x i) := by
  funext i
  simp only [upd, uI, true_and]
  by_cases e : i = j.toNat
  · rw [if_pos e, if_pos (by omega)]
  · rw [if_neg e, if_neg (by omega)]
theorem upd_R {bs x y : Nat} {j : Int} (h : 0 ≤ j) : va_up (fun i => (R x i).map (fun y => bs + y)) j.toNat (some (bs + y)) = fun (i : Nat) => (uR R x j (some y) x i).map (fun y => bs + y) := by
  funext i
  simp only [va_up, uR, true_and]
  by_cases e : i = j.toNat
  · rw [if_pos e, if_pos (by omega)]; rfl
  · rw [if_neg e, if_neg (by omega)]
theorem cpy_I {x t : Nat} {sp dp n : Int} (h1 : 0 ≤ sp) (h2 : 0 ≤ dp) (h3 : 0 ≤ n) : va_cpy (fun (i : Nat) => Int32.ofInt (I x i)) (fun (i : Nat) => Int32.ofInt (I t i)) sp.toNat dp.toNat n.toNat = fun (i : Nat) => Int32.ofInt (cI I x sp t dp n t i) := by
  funext i
  simp only [va_cpy, cI, true_and]
  by_cases e : dp.toNat ≤ i ∧ i < dp.toNat + n.toNat
  · rw [if_pos e, if_pos (by omega)]
    congr 2
    omega
  · rw [if_neg e, if_neg (by omega)]

theorem isRf_ok : ∀ c, c < 9 → ∀ k, k < NF c → isRf c k = true → (∃ n, tF c k = .object n) ∨ ∃ t, tF c k = .array t := by
  intro c hc k hk h
  have key : ∀ c, c < 9 → ∀ k, k < NF c → (match tF c k with
    | .int => true
    | .boolean => true
    | .object _ => true
    | .array _ => true
    | _ => false) = true := by decide +kernel
  have h2 := key c hc k hk
  unfold isRf at h
  cases e : tF c k <;> rw [e] at h h2 <;> first | exact Or.inl ⟨_, rfl⟩ | exact Or.inr ⟨_, rfl⟩ | exact absurd h (by decide) | exact absurd h2 (by decide)
theorem sn_44 (hg : gOk P q d K G) (he : eChk q (pc, 44, a, b, nx, xs) = true) (h : stp q (pL P) (pX P) G C K 44 a b nx xs ls st I R S) : Go P q d K pc ls st I R S := by
  obtain ⟨hd, hn, hx⟩ := chk he
  have hn : nx = pc + 3 := hn
  subst hn
  simp only [stp] at h
  split at h
  · rename_i ci k x st1
    simp only [eX, Bool.and_eq_true] at hx
    obtain ⟨hlk, h9, hk⟩ := flk_in hx.2
    obtain ⟨n, hS1, h⟩ := h
    have key : ∀ v, fv (pB P) I R x ci.toNat k = cv (pB P) (pS P) v → G (pc + 3) ls (v :: st1) I R S → Go P q d K pc ls (.inr (.inl (some x)) :: st1) I R S := by
      intro v hv h
      refine go_pure (ls' := ls) (st' := v :: st1) (pc' := pc + 3) (fun p e s m args below meth c Rm Q H locs cells slots la hc hP hS h4 h5 hl kk => ?_) (hg _ _ _ _ _ _ h)
      have he1 := wH_at (cy := pC P) (bs := pB P) (I := I) (R := R) hS1
      rw [ce_obj h9] at he1
      have k9 := kk la hl
      rw [List.map_cons, ← hv] at k9
      exact va_get (ci := ci.toNat) hc.1 hc.2.1 hc.2.2.2.2.1 (in_gw h9) hc.2.2.2.1 hc.2.2.2.2.2.1 hP x he1 (cl_at h9) k hk (hc.2.2.2.2.1 _ hlk) (fun _ h => h) (fs_at hk) hd k9
    split at h
    · rename_i hrf
      obtain ⟨y, hy, h⟩ := h
      exact key _ (fv_ref hrf hy) h
    · rename_i hrf
      exact key _ (fv_int hrf) h
  · exact h.elim
theorem sn_45 (hg : gOk P q d K G) (he : eChk q (pc, 45, a, b, nx, xs) = true) (h : stp q (pL P) (pX P) G C K 45 a b nx xs ls st I R S) : Go P q d K pc ls st I R S := by
  obtain ⟨hd, hn, hx⟩ := chk he
  have hn : nx = pc + 3 := hn
  subst hn
  simp only [stp] at h
  split at h
  · rename_i ci k z x st1
    simp only [eX, Bool.and_eq_true, Bool.not_eq_true'] at hx
    obtain ⟨hlk, h9, hk⟩ := flk_in hx.2.1
    split at h
    · exact h.elim
    · rename_i hrf
      obtain ⟨n, hS1, h⟩ := h
      have hnar : narrow (tF ci.toNat k) (.int (Int32.ofInt z)) = .int (Int32.ofInt z) ∧ fits (tF ci.toNat k) (.int (Int32.ofInt z)) = true ∧ G (pc + 3) ls st1 (uI I x k z) R S := by
        split at h
        · rename_i hz
          obtain ⟨h01, h⟩ := h
          unfold isZf at hz
          split at hz
          · rename_i e
            rw [e]
            rcases h01 with rfl | rfl
            · exact ⟨by decide +kernel, by decide +kernel, h⟩
            · exact ⟨by decide +kernel, by decide +kernel, h⟩
          · cases hz
        · rename_i hz
          unfold isRf at hrf
          unfold isZf at hz
          split at hrf
          · rename_i e
            rw [e]
            exact ⟨vp_nar_int _, rfl, h⟩
          · rename_i e
            rw [e] at hz
            cases hz
          · cases hrf
      obtain ⟨hn1, hf1, h⟩ := hnar
      refine go_heap (I1 := uI I x k z) (R1 := R) (st' := st1) (pc' := pc + 3) (fun p e s m args below meth c Rm Q H locs cells slots la hc hP hS h4 h5 hl kk => ?_) (hg _ _ _ _ _ _ h)
      have he1 := wH_at (cy := pC P) (bs := pB P) (I := I) (R := R) hS1
      rw [ce_obj h9] at he1
      have hty := ty_ok ci.toNat h9 k hk
      refine va_put (ci := ci.toNat) (ty := tF ci.toNat k) hc.1 hc.2.1 hc.2.2.2.2.1 (in_gw h9) (tF ci.toNat) (ty_ok ci.toNat h9) (nm_ok ci.toNat h9) hc.2.2.2.1 hc.2.2.2.2.2.1 hP wH_D hS x he1 (cl_at h9) k hk (hc.2.2.2.2.1 _ hlk) (fun _ h => h) hx.2.2 hty hn1 hf1 (by simp [hk]) hd (fun H1 locs1 hP1 _ hS2 => kk H1 locs1 ?_ hS2)
      rw [wH_set (I' := uI I x k z) (R' := R) hS1 (by rw [ce_obj h9, ← fs_set (f := fv (pB P) I R x ci.toNat) (k := k) (g := fv (pB P) (uI I x k z) R x ci.toNat) (v := .int (Int32.ofInt z)) (by rw [fv_int hrf]; simp [uI]) (fun j hj => by rw [fv, fv, show uI I x k z x (j : Int) = I x (j : Int) from if_neg (by omega)])]; rfl) (fun y hy kn => ce_uI hy kn)] at hP1
      exact hP1
  · rename_i ci k y x st1
    simp only [eX, Bool.and_eq_true, Bool.not_eq_true'] at hx
    obtain ⟨hlk, h9, hk⟩ := flk_in hx.2.1
    split at h
    · rename_i hrf
      obtain ⟨n, hS1, h⟩ := h
      have hnar : narrow (tF ci.toNat k) (.ref (pB P + y)) = .ref (pB P + y) ∧ fits (tF ci.toNat k) (.ref (pB P + y)) = true := by
        have := isRf_ok ci.toNat h9 k hk hrf
        rcases this with ⟨n, e⟩ | ⟨t, e⟩ <;> rw [e] <;> exact ⟨rfl, rfl⟩
      refine go_heap (I1 := I) (R1 := uR R x k (some y)) (st' := st1) (pc' := pc + 3) (fun p e s m args below meth c Rm Q H locs cells slots la hc hP hS h4 h5 hl kk => ?_) (hg _ _ _ _ _ _ h)
      have he1 := wH_at (cy := pC P) (bs := pB P) (I := I) (R := R) hS1
      rw [ce_obj h9] at he1
      have hty := ty_ok ci.toNat h9 k hk
      refine va_put (ci := ci.toNat) (ty := tF ci.toNat k) hc.1 hc.2.1 hc.2.2.2.2.1 (in_gw h9) (tF ci.toNat) (ty_ok ci.toNat h9) (nm_ok ci.toNat h9) hc.2.2.2.1 hc.2.2.2.2.2.1 hP wH_D hS x he1 (cl_at h9) k hk (hc.2.2.2.2.1 _ hlk) (fun _ h => h) hx.2.2 hty hnar.1 hnar.2 (by simp [hk]) hd (fun H1 locs1 hP1 _ hS2 => kk H1 locs1 ?_ hS2)
      rw [wH_set (I' := I) (R' := uR R x k (some y)) hS1 (by rw [ce_obj h9, ← fs_set (f := fv (pB P) I R x ci.toNat) (k := k) (g := fv (pB P) I (uR R x k (some y)) x ci.toNat) (v := .ref (pB P + y)) (by rw [fv_ref hrf (y := y)]; simp [uR]) (fun j hj => by rw [fv, fv, show uR R x k (some y) x (j : Int) = R x (j : Int) from if_neg (by omega)])]; rfl) (fun y hy kn => ce_uR hy kn)] at hP1
      exact hP1
    · exact h.elim
  · exact h.elim
theorem sn_46 (hg : gOk P q d K G) (he : eChk q (pc, 46, a, b, nx, xs) = true) (h : stp q (pL P) (pX P) G C K 46 a b nx xs ls st I R S) : Go P q d K pc ls st I R S := by
  obtain ⟨hd, hn, hx⟩ := chk he
  have hn : nx = pc + 3 := hn
  subst hn
  simp only [stp] at h
  split at h
  · rename_i ci k y x st1
    simp only [eX, Bool.and_eq_true, decide_eq_true_eq] at hx
    obtain ⟨hlk, h9, hk⟩ := flk_in hx.2.1.1.1
    have hfin := hx.2.1.1.2
    have hci := beqE hx.2.1.2
    have hini := hx.2.2
    split at h
    · rename_i hrf
      obtain ⟨n, hS1, h⟩ := h
      have hnar : narrow (tF ci.toNat k) (.ref (pB P + y)) = .ref (pB P + y) ∧ fits (tF ci.toNat k) (.ref (pB P + y)) = true := by
        have := isRf_ok ci.toNat h9 k hk hrf
        rcases this with ⟨n, e⟩ | ⟨t, e⟩ <;> rw [e] <;> exact ⟨rfl, rfl⟩
      refine go_heap (I1 := I) (R1 := uR R x k (some y)) (st' := st1) (pc' := pc + 3) (fun p e s m args below meth c Rm Q H locs cells slots la hc hP hS h4 h5 hl kk => ?_) (hg _ _ _ _ _ _ h)
      have he1 := wH_at (cy := pC P) (bs := pB P) (I := I) (R := R) hS1
      rw [ce_obj h9] at he1
      have hty := ty_ok ci.toNat h9 k hk
      refine va_putF (ci := ci.toNat) (ty := tF ci.toNat k) hc.1 hc.2.1 hc.2.2.2.2.1 (in_gw h9) (tF ci.toNat) (ty_ok ci.toNat h9) (nm_ok ci.toNat h9) hc.2.2.2.1 hc.2.2.2.2.2.1 hP wH_D hS x he1 (cl_at h9) k hk (hc.2.2.2.2.1 _ hlk) (fun _ h => h) hfin (hc.2.2.2.2.2.2.2.2.2.2 hini) (by rw [own_ok ci.toNat h9 k hk, hci]) hty hnar.1 hnar.2 (by simp [hk]) hd (fun H1 locs1 hP1 _ hS2 => kk H1 locs1 ?_ hS2)
      rw [wH_set (I' := I) (R' := uR R x k (some y)) hS1 (by rw [ce_obj h9, ← fs_set (f := fv (pB P) I R x ci.toNat) (k := k) (g := fv (pB P) I (uR R x k (some y)) x ci.toNat) (v := .ref (pB P + y)) (by rw [fv_ref hrf (y := y)]; simp [uR]) (fun j hj => by rw [fv, fv, show uR R x k (some y) x (j : Int) = R x (j : Int) from if_neg (by omega)])]; rfl) (fun y hy kn => ce_uR hy kn)] at hP1
      exact hP1
    · exact h.elim
  · exact h.elim
theorem sn_47 (hg : gOk P q d K G) (he : eChk q (pc, 47, a, b, nx, xs) = true) (h : stp q (pL P) (pX P) G C K 47 a b nx xs ls st I R S) : Go P q d K pc ls st I R S := by
  obtain ⟨hd, hn, hx⟩ := chk he
  have hn : nx = pc + 1 := hn
  subst hn
  simp only [stp] at h
  split at h
  · rename_i j x st1
    obtain ⟨n, hS1, hj, h⟩ := h
    refine go_pure (ls' := ls) (st' := .inl (I x j) :: st1) (pc' := pc + 1) (fun p e s m args below meth c Rm Q H locs cells slots la hc hP hS h4 h5 hl kk => ?_) (hg _ _ _ _ _ _ h)
    have he1 := wH_at (cy := pC P) (bs := pB P) (I := I) (R := R) hS1
    rw [ce_9] at he1
    have k9 := kk la hl
    refine va_iald hc.1 hc.2.1 hc.2.2.2.2.2.1 hP x 0 he1 rfl (inI hj.1 hj.2.1 hj.2.2) hd ?_
    rw [clI hj.1 (by omega), Int.toNat_of_nonneg hj.1]
    exact k9
  · rename_i j st1
    obtain ⟨hj, h⟩ := h
    refine go_pure (ls' := ls) (st' := .inl (pX P j.toNat) :: st1) (pc' := pc + 1) (fun p e s m args below meth c Rm Q H locs cells slots la hc hP hS h4 h5 hl kk => ?_) (hg _ _ _ _ _ _ h)
    have k9 := kk la hl
    refine va_sld hc.1 hc.2.1 hc.2.2.2.2.2.2.2.1 (by have := hc.2.2.2.2.2.2.2.2.1; have := hc.2.2.2.2.2.2.2.2.2.1; omega) (by show ¬ pB P ≤ pS P; have := hc.2.2.2.2.2.2.2.2.1; omega) hS (inI hj.1 hj.2.1 hj.2.2) hd ?_
    rw [clI hj.1 (by omega)]
    exact k9
  · exact h.elim
theorem sn_48 (hg : gOk P q d K G) (he : eChk q (pc, 48, a, b, nx, xs) = true) (h : stp q (pL P) (pX P) G C K 48 a b nx xs ls st I R S) : Go P q d K pc ls st I R S := by
  obtain ⟨hd, hn, hx⟩ := chk he
  have hn : nx = pc + 1 := hn
  subst hn
  simp only [stp] at h
  split at h
  · rename_i z j x st1
    obtain ⟨n, hS1, hj, h⟩ := h
    refine go_heap (I1 := uI I x j z) (R1 := R) (st' := st1) (pc' := pc + 1) (fun p e s m args below meth c Rm Q H locs cells slots la hc hP hS h4 h5 hl kk => ?_) (hg _ _ _ _ _ _ h)
    have he1 := wH_at (cy := pC P) (bs := pB P) (I := I) (R := R) hS1
    rw [ce_9] at he1
    refine va_iast hc.1 hc.2.1 hc.2.2.2.2.2.1 hP wH_D hS x 0 he1 rfl (inI hj.1 hj.2.1 hj.2.2) hd (fun H1 locs1 hP1 _ hS2 => kk H1 locs1 ?_ hS2)
    rw [clI hj.1 (by omega), upd_I hj.1, wH_set (I' := uI I x j z) (R' := R) hS1 ce_9 (fun y hy kn => ce_uI hy kn)] at hP1
    exact hP1
  · exact h.elim
theorem sn_49 (hg : gOk P q d K G) (he : eChk q (pc, 49, a, b, nx, xs) = true) (h : stp q (pL P) (pX P) G C K 49 a b nx xs ls st I R S) : Go P q d K pc ls st I R S := by
  obtain ⟨hd, hn, hx⟩ := chk he
  have hn : nx = pc + 1 := hn
  subst hn
  simp only [stp] at h
  split at h
  · rename_i j x st1
    obtain ⟨k, n, hS1, hj, y, hy, h⟩ := h
    obtain ⟨hk, hj⟩ := hj
    refine go_pure (ls' := ls) (st' := vr y :: st1) (pc' := pc + 1) (fun p e s m args below meth c Rm Q H locs cells slots la hc hP hS h4 h5 hl kk => ?_) (hg _ _ _ _ _ _ h)
    have he1 := wH_at (cy := pC P) (bs := pB P) (I := I) (R := R) hS1
    have k9 := kk la hl
    have hv : va_rf ((R x ((Int32.ofInt j).toNatClampNeg : Nat)).map (fun y => pB P + y)) = .ref (pB P + y) := by
      rw [clI hj.1 (by omega), Int.toNat_of_nonneg hj.1, hy]; rfl
    rcases hk with rfl | rfl
    · rw [ce_11] at he1
      refine va_aldq hc.1 hc.2.1 hc.2.2.2.2.2.1 hP x 2 he1 rfl (inI hj.1 hj.2.1 hj.2.2) hd ?_
      rw [hv]
      exact k9
    · rw [ce_12] at he1
      refine va_aldq hc.1 hc.2.1 hc.2.2.2.2.2.1 hP x 3 he1 rfl (inI hj.1 hj.2.1 hj.2.2) hd ?_
      rw [hv]
      exact k9
  · exact h.elim
theorem sn_50 (hg : gOk P q d K G) (he : eChk q (pc, 50, a, b, nx, xs) = true) (h : stp q (pL P) (pX P) G C K 50 a b nx xs ls st I R S) : Go P q d K pc ls st I R S := by
  obtain ⟨hd, hn, hx⟩ := chk he
  have hn : nx = pc + 1 := hn
  subst hn
  simp only [stp] at h
  split at h
  · rename_i y j x st1
    obtain ⟨k, n, hS1, hj, mm, hS2, h⟩ := h
    obtain ⟨hk, hj⟩ := hj
    refine go_heap (I1 := I) (R1 := uR R x j (some y)) (st' := st1) (pc' := pc + 1) (fun p e s m args below meth c Rm Q H locs cells slots la hc hP hS h4 h5 hl kk => ?_) (hg _ _ _ _ _ _ h)
    have he1 := wH_at (cy := pC P) (bs := pB P) (I := I) (R := R) hS1
    have he2 := wH_at (cy := pC P) (bs := pB P) (I := I) (R := R) hS2
    rcases hk with rfl | rfl
    · rw [ce_11] at he1
      rw [ce_obj (by decide)] at he2
      refine va_astq hc.1 hc.2.1 hc.2.2.2.2.2.1 hP wH_D hS x 2 y 3 (r := (RN 3, TF 3, NF 3)) he1 rfl he2 (cl_at (by decide)) (inI hj.1 hj.2.1 hj.2.2) hd (fun H1 locs1 hP1 _ hS3 => kk H1 locs1 ?_ hS3)
      rw [clI hj.1 (by omega), upd_R hj.1, wH_set (I' := I) (R' := uR R x j (some y)) hS1 ce_11 (fun y hy kn => ce_uR hy kn)] at hP1
      exact hP1
    · rw [ce_12] at he1
      rw [ce_obj (by decide)] at he2
      refine va_astq hc.1 hc.2.1 hc.2.2.2.2.2.1 hP wH_D hS x 3 y 4 (r := (RN 4, TF 4, NF 4)) he1 rfl he2 (cl_at (by decide)) (inI hj.1 hj.2.1 hj.2.2) hd (fun H1 locs1 hP1 _ hS3 => kk H1 locs1 ?_ hS3)
      rw [clI hj.1 (by omega), upd_R hj.1, wH_set (I' := I) (R' := uR R x j (some y)) hS1 ce_12 (fun y hy kn => ce_uR hy kn)] at hP1
      exact hP1
  · exact h.elim
theorem sn_51 (hg : gOk P q d K G) (he : eChk q (pc, 51, a, b, nx, xs) = true) (h : stp q (pL P) (pX P) G C K 51 a b nx xs ls st I R S) : Go P q d K pc ls st I R S := by
  obtain ⟨hd, hn, hx⟩ := chk he
  have hn : nx = pc + 1 := hn
  subst hn
  simp only [stp] at h
  split at h
  · rename_i j x st1
    obtain ⟨n, hS1, hj, h⟩ := h
    refine go_pure (ls' := ls) (st' := .inl (I x j) :: st1) (pc' := pc + 1) (fun p e s m args below meth c Rm Q H locs cells slots la hc hP hS h4 h5 hl kk => ?_) (hg _ _ _ _ _ _ h)
    have he1 := wH_at (cy := pC P) (bs := pB P) (I := I) (R := R) hS1
    rw [ce_10] at he1
    have k9 := kk la hl
    refine va_zald hc.1 hc.2.1 hc.2.2.2.2.2.1 hP x 1 he1 rfl (inI hj.1 hj.2.1 hj.2.2) hd ?_
    rw [clI hj.1 (by omega), Int.toNat_of_nonneg hj.1]
    exact k9
  · exact h.elim
theorem sn_52 (hg : gOk P q d K G) (he : eChk q (pc, 52, a, b, nx, xs) = true) (h : stp q (pL P) (pX P) G C K 52 a b nx xs ls st I R S) : Go P q d K pc ls st I R S := by
  obtain ⟨hd, hn, hx⟩ := chk he
  have hn : nx = pc + 1 := hn
  subst hn
  simp only [stp] at h
  split at h
  · rename_i z j x st1
    obtain ⟨n, hS1, hj, h⟩ := h
    obtain ⟨h01, hj⟩ := hj
    have hz : vp_nar .boolean (Int32.ofInt z) = Int32.ofInt z := by rcases h01 with rfl | rfl <;> decide +kernel
    refine go_heap (I1 := uI I x j z) (R1 := R) (st' := st1) (pc' := pc + 1) (fun p e s m args below meth c Rm Q H locs cells slots la hc hP hS h4 h5 hl kk => ?_) (hg _ _ _ _ _ _ h)
    have he1 := wH_at (cy := pC P) (bs := pB P) (I := I) (R := R) hS1
    rw [ce_10] at he1
    refine va_zast hc.1 hc.2.1 hc.2.2.2.2.2.1 hP wH_D hS x 1 he1 rfl (inI hj.1 hj.2.1 hj.2.2) hd (fun H1 locs1 hP1 _ hS2 => kk H1 locs1 ?_ hS2)
    rw [clI hj.1 (by omega), hz, upd_I hj.1, wH_set (I' := uI I x j z) (R' := R) hS1 ce_10 (fun y hy kn => ce_uI hy kn)] at hP1
    exact hP1
  · exact h.elim
theorem sn_53 (hg : gOk P q d K G) (he : eChk q (pc, 53, a, b, nx, xs) = true) (h : stp q (pL P) (pX P) G C K 53 a b nx xs ls st I R S) : Go P q d K pc ls st I R S := by
  obtain ⟨hd, hn, hx⟩ := chk he
  have hn : nx = pc + 1 := hn
  subst hn
  simp only [stp] at h
  split at h
  · rename_i x st1
    obtain ⟨k, n, hS1, hk, h⟩ := h
    refine go_pure (ls' := ls) (st' := .inl n :: st1) (pc' := pc + 1) (fun p e s m args below meth c Rm Q H locs cells slots la hc hP hS h4 h5 hl kk => ?_) (hg _ _ _ _ _ _ h)
    have he1 := wH_at (cy := pC P) (bs := pB P) (I := I) (R := R) hS1
    have k9 := kk la hl
    have hv : Int32.ofNat n = Int32.ofInt (n : Int) := Int32.ofInt_eq_ofNat.symm
    rcases (show k = 9 ∨ k = 10 ∨ k = 11 ∨ k = 12 by omega) with rfl | rfl | rfl | rfl
    · rw [ce_9] at he1
      exact va_alen hc.1 hc.2.1 hc.2.2.2.2.2.1 hP x 0 he1 rfl hv hd k9
    · rw [ce_10] at he1
      exact va_alen hc.1 hc.2.1 hc.2.2.2.2.2.1 hP x 1 he1 rfl hv hd k9
    · rw [ce_11] at he1
      exact va_alen hc.1 hc.2.1 hc.2.2.2.2.2.1 hP x 2 he1 rfl hv hd k9
    · rw [ce_12] at he1
      exact va_alen hc.1 hc.2.1 hc.2.2.2.2.2.1 hP x 3 he1 rfl hv hd k9
  · rename_i st1
    refine go_pure (ls' := ls) (st' := .inl (pL P) :: st1) (pc' := pc + 1) (fun p e s m args below meth c Rm Q H locs cells slots la hc hP hS h4 h5 hl kk => ?_) (hg _ _ _ _ _ _ h)
    have k9 := kk la hl
    refine va_slen hc.1 hc.2.1 hc.2.2.2.2.2.2.2.1 (by have := hc.2.2.2.2.2.2.2.2.1; have := hc.2.2.2.2.2.2.2.2.2.1; omega) (by show ¬ pB P ≤ pS P; have := hc.2.2.2.2.2.2.2.2.1; omega) hS hd ?_
    rw [show Int32.ofNat (pL P) = Int32.ofInt ((pL P : Nat) : Int) from Int32.ofInt_eq_ofNat.symm]
    exact k9
  · exact h.elim
theorem nn_I {z : Int} (h1 : 0 ≤ z) (h2 : z ≤ 1000000) : ¬ Int32.ofInt z < 0 := by
  rw [zeroI, ltI ⟨by omega, by omega⟩ iR0]
  omega
theorem sn_54 (hg : gOk P q d K G) (he : eChk q (pc, 54, a, b, nx, xs) = true) (h : stp q (pL P) (pX P) G C K 54 a b nx xs ls st I R S) : Go P q d K pc ls st I R S := by
  obtain ⟨hd, hn, hx⟩ := chk he
  have hn : nx = pc + 2 := hn
  subst hn
  simp only [stp] at h
  simp only [eX, Bool.and_eq_true, Bool.or_eq_true, decide_eq_true_eq] at hx
  split at h
  · rename_i z st1
    obtain ⟨hz, h⟩ := h
    refine go_new (kn := (b.toNat, z.toNat)) (st' := st1) (pc' := pc + 2) (fun p e s m args below meth c Rm Q H locs cells slots la hc hP hS h6 h7 kk => ?_) (hg _ _ _ _ _ _ h)
    rcases hx.2 with rfl | rfl
    · refine va_newa (atype := .int) (ty := .int) (N' := z.toNat) (a0 := (z.toNat, .inl (fun _ => 0))) hc.1 hc.2.1 (hc.2.2.2.2.1 _ (gw_at arr_pl.1 rfl)) rfl hc.2.2.2.2.2.1 hP wH_D hS (fun x hx => Nat.le_trans hc.2.2.2.2.2.2.2.2.2.1 hx) (fun cA => rfl) (nn_I hz.1 hz.2) (clI hz.1 (by omega)) (by show z.toNat * 4 ≤ 536870912; omega) h6 h7 hd (fun x cA H1 hK1 hP1 hD1 hS1 => ?_)
      have hcA : cA = pC P 9 := by
        have g1 := va_nm_int (hK1.2 4 (cA, .int) rfl).2
        have g2 := va_nm_int (hc.2.2.2.2.2.1.2 0 (pC P 9, .int) rfl).2
        exact Option.some.inj (g1.symm.trans g2)
      subst hcA
      refine kk x H1 ?_ ?_ hS1
      · rw [show ((9 : Int).toNat) = 9 from rfl, ce_9]; simp only [zI, if_true, ← zeroI]; exact hP1
      · rw [show ((9 : Int).toNat) = 9 from rfl, ce_9]; simp only [zI, if_true, ← zeroI]; exact hD1
    · refine va_newa (atype := .boolean) (ty := .boolean) (N' := z.toNat) (a0 := (z.toNat, .inl (fun _ => 0))) hc.1 hc.2.1 (hc.2.2.2.2.1 _ (gw_at arr_pl.2.1 rfl)) rfl hc.2.2.2.2.2.1 hP wH_D hS (fun x hx => Nat.le_trans hc.2.2.2.2.2.2.2.2.2.1 hx) (fun cA => rfl) (nn_I hz.1 hz.2) (clI hz.1 (by omega)) (by show z.toNat * 1 ≤ 536870912; omega) h6 h7 hd (fun x cA H1 hK1 hP1 hD1 hS1 => ?_)
      have hcA : cA = pC P 10 := by
        have g1 := va_nm_boolean (hK1.2 4 (cA, .boolean) rfl).2
        have g2 := va_nm_boolean (hc.2.2.2.2.2.1.2 1 (pC P 10, .boolean) rfl).2
        exact Option.some.inj (g1.symm.trans g2)
      subst hcA
      refine kk x H1 ?_ ?_ hS1
      · rw [show ((10 : Int).toNat) = 10 from rfl, ce_10]; simp only [zI, if_true, ← zeroI]; exact hP1
      · rw [show ((10 : Int).toNat) = 10 from rfl, ce_10]; simp only [zI, if_true, ← zeroI]; exact hD1
  · exact h.elim
theorem sn_55 (hg : gOk P q d K G) (he : eChk q (pc, 55, a, b, nx, xs) = true) (h : stp q (pL P) (pX P) G C K 55 a b nx xs ls st I R S) : Go P q d K pc ls st I R S := by
  obtain ⟨hd, hn, hx⟩ := chk he
  have hn : nx = pc + 3 := hn
  subst hn
  simp only [stp] at h
  simp only [eX, Bool.and_eq_true, Bool.or_eq_true, decide_eq_true_eq] at hx
  split at h
  · rename_i z st1
    obtain ⟨hz, h⟩ := h
    refine go_new (kn := (b.toNat, z.toNat)) (st' := st1) (pc' := pc + 3) (fun p e s m args below meth c Rm Q H locs cells slots la hc hP hS h6 h7 kk => ?_) (hg _ _ _ _ _ _ h)
    have hcl := clk_in hx.2
    rcases hx.1.2 with rfl | rfl
    · refine va_newq (C := RN 3) (N' := z.toNat) hc.1 hc.2.1 hc.2.2.2.1 (hc.2.2.2.2.1 _ hcl) hc.2.2.2.2.2.2.1.2.1 hc.2.2.2.2.2.1 hP wH_D hS (fun x hx => Nat.le_trans hc.2.2.2.2.2.2.2.2.2.1 hx) (nn_I hz.1 hz.2) (clI hz.1 (by omega)) (by omega) h6 h7 hd (fun x cA H1 hK1 hP1 hD1 hS1 => ?_)
      have hcA : cA = pC P 11 := by
        obtain ⟨_, _, _, _, _, g1⟩ := (hK1.2 4 (cA, .object (RN 3)) rfl).2
        obtain ⟨_, _, _, _, _, g2⟩ := (hc.2.2.2.2.2.1.2 2 (pC P 11, .object (RN 3)) rfl).2
        exact Option.some.inj (g1.symm.trans g2)
      subst hcA
      refine kk x H1 ?_ ?_ hS1
      · rw [show ((11 : Int).toNat) = 11 from rfl, ce_11]; simp only [zR, if_true]; exact hP1
      · rw [show ((11 : Int).toNat) = 11 from rfl, ce_11]; simp only [zR, if_true]; exact hD1
    · refine va_newq (C := RN 4) (N' := z.toNat) hc.1 hc.2.1 hc.2.2.2.1 (hc.2.2.2.2.1 _ hcl) hc.2.2.2.2.2.2.1.2.2 hc.2.2.2.2.2.1 hP wH_D hS (fun x hx => Nat.le_trans hc.2.2.2.2.2.2.2.2.2.1 hx) (nn_I hz.1 hz.2) (clI hz.1 (by omega)) (by omega) h6 h7 hd (fun x cA H1 hK1 hP1 hD1 hS1 => ?_)
      have hcA : cA = pC P 12 := by
        obtain ⟨_, _, _, _, _, g1⟩ := (hK1.2 4 (cA, .object (RN 4)) rfl).2
        obtain ⟨_, _, _, _, _, g2⟩ := (hc.2.2.2.2.2.1.2 3 (pC P 12, .object (RN 4)) rfl).2
        exact Option.some.inj (g1.symm.trans g2)
      subst hcA
      refine kk x H1 ?_ ?_ hS1
      · rw [show ((12 : Int).toNat) = 12 from rfl, ce_12]; simp only [zR, if_true]; exact hP1
      · rw [show ((12 : Int).toNat) = 12 from rfl, ce_12]; simp only [zR, if_true]; exact hD1
  · exact h.elim
theorem sn_56 (hg : gOk P q d K G) (he : eChk q (pc, 56, a, b, nx, xs) = true) (h : stp q (pL P) (pX P) G C K 56 a b nx xs ls st I R S) : Go P q d K pc ls st I R S := by
  obtain ⟨hd, hn, hx⟩ := chk he
  have hn : nx = pc + 3 := hn
  subst hn
  simp only [stp] at h
  simp only [eX, Bool.and_eq_true] at hx
  have h9 := bltE hx.1.2
  have hcl := clk_in hx.2
  refine go_new (kn := (b.toNat, NF b.toNat)) (st' := st) (pc' := pc + 3) (fun p e s m args below meth c Rm Q H locs cells slots la hc hP hS h6 h7 kk => ?_) (hg _ _ _ _ _ _ h)
  refine va_new (ci := b.toNat) (C := RN b.toNat) (T := TF b.toNat) (N := NF b.toNat) (fs := (List.range (NF b.toNat)).map (fv (pB P) (zI I S.length) (zR R S.length) S.length b.toNat)) hc.1 hc.2.1 hc.2.2.2.2.1 (in_gw h9) (tF b.toNat) (ty_ok b.toNat h9) hc.2.2.2.1 (hc.2.2.2.2.1 _ hcl) (hc.2.2.2.2.1 _ (gw_at (in_pl b.toNat h9) rfl)) (hc.2.2.2.2.1 _ (gw_at (iz_pl b.toNat (by omega)) rfl)) hc.2.2.2.2.2.1 hP wH_D hS (fun x hx => Nat.le_trans hc.2.2.2.2.2.2.2.2.2.1 hx) (cl_at h9) (fun j hj => ?_) h6 h7 hd (fun x H1 hP1 hD1 hS1 => ?_)
  · rw [vp_V, List.getD_eq_getElem?_getD, fs_at hj, Option.getD_some]
    cases hrf : isRf b.toNat j with
    | true =>
      rw [fv, if_pos hrf]
      rcases isRf_ok b.toNat h9 j hj hrf with ⟨n, e⟩ | ⟨t, e⟩ <;> rw [e] <;> simp [zR, va_rf, defaultValue]
    | false =>
      rw [fv_int hrf]
      have hz : zI I S.length S.length (j : Int) = 0 := by simp [zI]
      rw [hz]
      unfold isRf at hrf
      split at hrf
      · rename_i e; rw [e]; rfl
      · rename_i e; rw [e]; rfl
      · cases hrf
  · refine kk x H1 ?_ ?_ hS1
    · rw [ce_obj h9]; exact hP1
    · rw [ce_obj h9]; exact hD1
theorem sn_57 (hg : gOk P q d K G) (he : eChk q (pc, 57, a, b, nx, xs) = true) (h : stp q (pL P) (pX P) G C K 57 a b nx xs ls st I R S) : Go P q d K pc ls st I R S := by
  obtain ⟨hd, hn, hx⟩ := chk he
  have hn : nx = pc + 1 := hn
  subst hn
  simp only [stp] at h
  split at h
  · rename_i v st1
    split at h
    · rename_i hv
      refine go_pure (ls' := ls) (st' := v :: v :: st1) (pc' := pc + 1) (fun p e s m args below meth c Rm Q H locs cells slots la hc hP hS h4 h5 hl kk => ?_) (hg _ _ _ _ _ _ h)
      exact lv_dup hc.1 hc.2.1 hd (cat1 hv) (kk la hl)
    · exact h.elim
  · exact h.elim
theorem sn_58 (hg : gOk P q d K G) (he : eChk q (pc, 58, a, b, nx, xs) = true) (h : stp q (pL P) (pX P) G C K 58 a b nx xs ls st I R S) : Go P q d K pc ls st I R S := by
  obtain ⟨hd, hn, hx⟩ := chk he
  have hn : nx = pc + 1 := hn
  subst hn
  simp only [stp] at h
  split at h
  · rename_i v w st1
    split at h
    · rename_i hv
      simp only [Bool.and_eq_true] at hv
      refine go_pure (ls' := ls) (st' := v :: w :: v :: w :: st1) (pc' := pc + 1) (fun p e s m args below meth c Rm Q H locs cells slots la hc hP hS h4 h5 hl kk => ?_) (hg _ _ _ _ _ _ h)
      exact lv_dup2_11 hc.1 hc.2.1 hd (cat1 hv.1) (cat1 hv.2) (kk la hl)
    · exact h.elim
  · exact h.elim
theorem sn_59 (hg : gOk P q d K G) (he : eChk q (pc, 59, a, b, nx, xs) = true) (h : stp q (pL P) (pX P) G C K 59 a b nx xs ls st I R S) : Go P q d K pc ls st I R S := by
  obtain ⟨hd, hn, hx⟩ := chk he
  have hn : nx = pc + 1 := hn
  subst hn
  simp only [stp] at h
  split at h
  · rename_i v st1
    split at h
    · rename_i hv
      refine go_pure (ls' := ls) (st' := st1) (pc' := pc + 1) (fun p e s m args below meth c Rm Q H locs cells slots la hc hP hS h4 h5 hl kk => ?_) (hg _ _ _ _ _ _ h)
      exact lv_pop hc.1 hc.2.1 hd (cat1 hv) (kk la hl)
    · exact h.elim
  · exact h.elim
end Sn2
end
section
/-! calls and ends, and the walk -/
section Sn3
variable {P : aP} {q d pc a nx : Nat} {b : Int} {xs : List (Int × Nat)} {K : aK} {G : aG} {C : aC} {ls st : List aV} {I : aI} {R : aR} {S : aS}
abbrev cOk (P : aP) (d : Nat) (C : aC) : Prop := ∀ q' as I R S k, C q' as I R S k → Ok P q' d as I R S k
theorem sn_60 (hg : gOk P q (d + 1) K G) (hC : cOk P d C) (he : eChk q (pc, 60, a, b, nx, xs) = true) (h : stp q (pL P) (pX P) G C K 60 a b nx xs ls st I R S) : Go P q (d + 1) K pc ls st I R S := by
  obtain ⟨hd, hn, hx⟩ := chk he
  have hn : nx = pc + 3 := hn
  subst hn
  simp only [stp] at h
  simp only [eX, Bool.and_eq_true, Bool.not_eq_true', decide_eq_false_iff_not] at hx
  split at h
  · rename_i ci n
    obtain ⟨⟨⟨⟨⟨-, hq⟩, hst⟩, hni⟩, hml⟩, hmm⟩ := hx
    simp only [Bool.and_eq_true] at hmm
    obtain ⟨⟨hnn, hco⟩, h9⟩ := hmm
    have hq : b.toNat < qLaw := bltE hq
    have hst := beqE hst
    have hnn := beqE hnn
    have hco := beqE hco
    have h9 := bltE h9
    split at h
    · rename_i as x st1 hpop
      split at h
      · rename_i hok
        simp only [Bool.and_eq_true] at hok
        obtain ⟨mm, hS1, h⟩ := h
        obtain ⟨d', hdd, r, I1, R1, S1, hk, hM⟩ := hC _ _ _ _ _ _ h
        obtain ⟨e1, e2⟩ := popn_eq _ _ _ _ _ hpop
        have e1 : st = as.reverse ++ (.inr (.inl (some x)) :: st1) := e1
        refine go_call (rest := st1) hM (fun p e s m args below meth c Rm H locs cells slots la hc hP hS h4 h5 hl hsz hf => ?_) (hg _ _ _ _ _ _ hk)
        obtain ⟨o1, o2, o3⟩ := own_lt hq
        have he1 := wH_at (cy := pC P) (bs := pB P) (I := I) (R := R) hS1
        rw [ce_obj h9] at he1
        have hin : (Cond.instanceMethod (mY b.toNat)).before args s = true := by
          have := gw_at (mi_pl b.toNat hq) (by rw [if_neg (by rw [hst]; decide)]; rfl)
          rw [if_neg (by rw [hst]; decide)] at this
          exact hc.2.2.2.2.1 _ this
        have hse : (Cond.selects (RN ci.toNat) (mY b.toNat) (mY b.toNat)).before args s = true := by
          have := gw_at (ms_pl b.toNat hq hst hni) rfl
          rw [o1, ← hco] at this
          exact hc.2.2.2.2.1 _ this
        exact va_runV (As := as.map (cv (pB P) (pS P))) (rest := st1.map (cv (pB P) (pS P))) (C := RN ci.toNat) (b := pB P + x) ⟨hc.1, hc.2.1, hc.2.2.1, hc.2.2.2.1, hc.2.2.2.2.1⟩ hM.2 ⟨cxB hc hq (by omega) (by omega) (mlk_in hml), hin, hse⟩ ⟨blind_Rp, va_recv hc.2.2.2.2.2.1 hP (cl_at h9) he1, fun U hU hW => ⟨rfl, Rp_at hc hP hS hsz hU hW⟩⟩ rfl (by simp [e2, hnn]) (by rw [hl]) (by rw [e1]; simp [cv]) (lv_room (okst_sum _ _ hok.2)) hd hf
      · exact h.elim
    · exact h.elim
  · exact h.elim
theorem sn_61 (hg : gOk P q (d + 1) K G) (hC : cOk P d C) (he : eChk q (pc, 61, a, b, nx, xs) = true) (h : stp q (pL P) (pX P) G C K 61 a b nx xs ls st I R S) : Go P q (d + 1) K pc ls st I R S := by
  obtain ⟨hd, hn, hx⟩ := chk he
  have hn : nx = pc + 3 := hn
  subst hn
  simp only [stp] at h
  simp only [eX, Bool.and_eq_true, decide_eq_true_eq] at hx
  split at h
  · rename_i ci n
    obtain ⟨⟨⟨⟨⟨⟨-, hq⟩, hst⟩, hni⟩, hret⟩, hml⟩, hnn⟩ := hx
    have hq : b.toNat < qLaw := bltE hq
    have hst := beqE hst
    have hnn := beqE hnn
    split at h
    · rename_i as x st1 hpop
      split at h
      · rename_i hok
        simp only [Bool.and_eq_true] at hok
        obtain ⟨d', hdd, r, I1, R1, S1, hk, hM⟩ := hC _ _ _ _ _ _ h
        obtain ⟨e1, e2⟩ := popn_eq _ _ _ _ _ hpop
        have e1 : st = as.reverse ++ (.inr (.inl (some x)) :: st1) := e1
        refine go_call (rest := st1) hM (fun p e s m args below meth c Rm H locs cells slots la hc hP hS h4 h5 hl hsz hf => ?_) (hg _ _ _ _ _ _ hk)
        have hin : (Cond.instanceMethod (mY b.toNat)).before args s = true := by
          have := gw_at (mi_pl b.toNat hq) (by rw [if_neg (by rw [hst]; decide)]; rfl)
          rw [if_neg (by rw [hst]; decide)] at this
          exact hc.2.2.2.2.1 _ this
        have hcb := cxB (S := S) (S1 := S1) (d' := d') (Rm := Rm) hc hq (by omega) (by omega) (mlk_in hml)
        rw [hret] at hcb
        exact va_runI (As := as.map (cv (pB P) (pS P))) (rest := st1.map (cv (pB P) (pS P))) (b := pB P + x) ⟨hc.1, hc.2.1, hc.2.2.1, hc.2.2.2.1, hc.2.2.2.2.1⟩ hM.2 ⟨hcb, hni, hin⟩ ⟨blind_Rp, fun U hU hW => ⟨rfl, Rp_at hc hP hS hsz hU hW⟩⟩ rfl (by simp [e2, hnn]) (by rw [hl]) (by rw [e1]; simp [cv]) (lv_room (okst_sum _ _ hok.2)) hd hf
      · exact h.elim
    · exact h.elim
  · exact h.elim
theorem sn_62 (hg : gOk P q (d + 1) K G) (hC : cOk P d C) (he : eChk q (pc, 62, a, b, nx, xs) = true) (h : stp q (pL P) (pX P) G C K 62 a b nx xs ls st I R S) : Go P q (d + 1) K pc ls st I R S := by
  obtain ⟨hd, hn, hx⟩ := chk he
  have hn : nx = pc + 3 := hn
  subst hn
  simp only [stp] at h
  simp only [eX, Bool.and_eq_true, decide_eq_true_eq] at hx
  split at h
  · rename_i ci n
    obtain ⟨⟨⟨⟨⟨⟨-, hq⟩, hst⟩, hni⟩, hret⟩, hml⟩, hnn⟩ := hx
    have hq : b.toNat < qLaw := bltE hq
    have hst := beqE hst
    have hnn := beqE hnn
    split at h
    · rename_i as x st1 hpop
      split at h
      · rename_i hok
        simp only [Bool.and_eq_true] at hok
        obtain ⟨d', hdd, r, I1, R1, S1, hk, hM⟩ := hC _ _ _ _ _ _ h
        obtain ⟨e1, e2⟩ := popn_eq _ _ _ _ _ hpop
        have e1 : st = as.reverse ++ (.inr (.inl (some x)) :: st1) := e1
        refine go_call (rest := st1) hM (fun p e s m args below meth c Rm H locs cells slots la hc hP hS h4 h5 hl hsz hf => ?_) (hg _ _ _ _ _ _ hk)
        have hin : (Cond.instanceMethod (mY b.toNat)).before args s = true := by
          have := gw_at (mi_pl b.toNat hq) (by rw [if_neg (by rw [hst]; decide)]; rfl)
          rw [if_neg (by rw [hst]; decide)] at this
          exact hc.2.2.2.2.1 _ this
        have hcb := cxN (S := S) (S1 := S1) (d' := d') (Rm := Rm) hc hq (by omega) (by omega) (nlk_in hc.2.2.2.2.2.2.1 hml)
        rw [hret] at hcb
        exact va_runIN (As := as.map (cv (pB P) (pS P))) (rest := st1.map (cv (pB P) (pS P))) (b := pB P + x) ⟨hc.1, hc.2.1, hc.2.2.1, hc.2.2.2.1, hc.2.2.2.2.1⟩ hM.2 ⟨hcb, hni, hin⟩ ⟨blind_Rp, fun U hU hW => ⟨rfl, Rp_at hc hP hS hsz hU hW⟩⟩ rfl (by simp [e2, hnn]) (by rw [hl]) (by rw [e1]; simp [cv]) (lv_room (okst_sum _ _ hok.2)) hd hf
      · exact h.elim
    · exact h.elim
  · exact h.elim
theorem sn_63 (hg : gOk P q (d + 1) K G) (hC : cOk P d C) (he : eChk q (pc, 63, a, b, nx, xs) = true) (h : stp q (pL P) (pX P) G C K 63 a b nx xs ls st I R S) : Go P q (d + 1) K pc ls st I R S := by
  obtain ⟨hd, hn, hx⟩ := chk he
  have hn : nx = pc + 3 := hn
  subst hn
  simp only [stp] at h
  simp only [eX, Bool.and_eq_true] at hx
  split at h
  · rename_i ci n
    obtain ⟨⟨⟨⟨-, hq⟩, hst⟩, hml⟩, hnn⟩ := hx
    have hq : b.toNat < qLaw := bltE hq
    have hst := beqE hst
    have hnn := beqE hnn
    split at h
    · rename_i as st1 hpop
      split at h
      · rename_i hok
        simp only [Bool.and_eq_true] at hok
        obtain ⟨d', hdd, r, I1, R1, S1, hk, hM⟩ := hC _ _ _ _ _ _ h
        obtain ⟨e1, e2⟩ := popn_eq _ _ _ _ _ hpop
        have e1 : st = as.reverse ++ st1 := e1
        refine go_call (rest := st1) hM (fun p e s m args below meth c Rm H locs cells slots la hc hP hS h4 h5 hl hsz hf => ?_) (hg _ _ _ _ _ _ hk)
        have hin : (Cond.static (mY b.toNat)).before args s = true := by
          have := gw_at (mi_pl b.toNat hq) (by rw [if_pos hst]; rfl)
          rw [if_pos hst] at this
          exact hc.2.2.2.2.1 _ this
        exact va_runS (As := as.map (cv (pB P) (pS P))) (rest := st1.map (cv (pB P) (pS P))) ⟨hc.1, hc.2.1, hc.2.2.1, hc.2.2.2.1, hc.2.2.2.2.1⟩ hM.2 ⟨cxB hc hq (by omega) (by omega) (mlk_in hml), hin⟩ ⟨blind_Rp, fun U hU hW => ⟨rfl, Rp_at hc hP hS hsz hU hW⟩⟩ rfl (by simp [e2, hnn]) (by rw [hl]) (by rw [e1]; simp [cv]) (lv_room (okst_sum _ _ hok.2)) hd hf
      · exact h.elim
    · exact h.elim
  · exact h.elim
theorem sn_64 (hg : gOk P q (d + 1) K G) (he : eChk q (pc, 64, a, b, nx, xs) = true) (h : stp q (pL P) (pX P) G C K 64 a b nx xs ls st I R S) : Go P q (d + 1) K pc ls st I R S := by
  obtain ⟨hd, hn, hx⟩ := chk he
  have hn : nx = pc + 3 := hn
  subst hn
  simp only [stp] at h
  simp only [eX, Bool.and_eq_true] at hx
  split at h
  · rename_i x st1
    split at h
    · rename_i hok
      refine go_pure (ls' := ls) (st' := st1) (pc' := pc + 3) (fun p e s m args below meth c Rm Q H locs cells slots la hc hP hS h4 h5 hl kk => ?_) (hg _ _ _ _ _ _ h)
      have hsum := okst_sum (bs := pB P) (b := pS P) _ _ hok
      exact W.objInit hc.1 hc.2.1 hc.2.2.2.1 (hc.2.2.2.2.1 _ (oil_in hx.2)) (hc.2.2.2.2.1 _ (gw_at obj_pl.1 rfl)) (hc.2.2.2.2.1 _ (gw_at obj_pl.2 rfl)) rfl (hl.1.trans hc.2.2.1.symm) rfl hd (by omega) (by show 2 * 0 + _ + 12 ≤ _; omega) (kk la hl)
    · exact h.elim
  · exact h.elim
theorem sn_65 (hg : gOk P q (d + 1) K G) (he : eChk q (pc, 65, a, b, nx, xs) = true) (h : stp q (pL P) (pX P) G C K 65 a b nx xs ls st I R S) : Go P q (d + 1) K pc ls st I R S := by
  obtain ⟨hd, hn, hx⟩ := chk he
  have hn : nx = pc + 3 := hn
  subst hn
  simp only [stp] at h
  simp only [eX, Bool.and_eq_true] at hx
  split at h
  · rename_i n dp t sp x st1
    split at h
    · rename_i hok
      obtain ⟨n0, n1, hS0, hS1, hj, h⟩ := h
      refine go_heap (I1 := cI I x sp t dp n) (R1 := R) (st' := st1) (pc' := pc + 3) (fun p e s m args below meth c Rm Q H locs cells slots la hc hP hS h4 h5 hl kk => ?_) (hg _ _ _ _ _ _ h)
      have hsum := okst_sum (bs := pB P) (b := pS P) _ _ hok
      have he0 := wH_at (cy := pC P) (bs := pB P) (I := I) (R := R) hS0
      have he1 := wH_at (cy := pC P) (bs := pB P) (I := I) (R := R) hS1
      rw [ce_9] at he0 he1
      have hnf : nativeFrameWords "java/lang/System" "arraycopy" 5 + 11 = 18 := by decide +kernel
      refine va_copyi hc.1 hc.2.1 (hc.2.2.1.trans hl.symm) hc.2.2.2.1 (hc.2.2.2.2.1 _ (acl_in hx.2)) (hc.2.2.2.2.1 _ (gw_at acp_pl.1 rfl)) (hc.2.2.2.2.1 _ (gw_at acp_pl.2.1 rfl)) (hc.2.2.2.2.1 _ (gw_at acp_pl.2.2 rfl)) hc.2.2.2.2.2.1 hP wH_D hS x t 0 0 he0 he1 rfl rfl rfl (nn_I hj.1 (by omega)) (nn_I hj.2.1 (by omega)) (nn_I hj.2.2.1 (by omega)) (by rw [clI hj.1 (by omega), clI hj.2.2.1 (by omega)]; omega) (by rw [clI hj.2.1 (by omega), clI hj.2.2.1 (by omega)]; omega) (fun _ _ => rfl) (by omega) (by rw [hnf]; omega) hd (fun H1 locs1 hP1 _ hS2 => kk H1 locs1 ?_ hS2)
      rw [clI hj.1 (by omega), clI hj.2.1 (by omega), clI hj.2.2.1 (by omega), cpy_I hj.1 hj.2.1 hj.2.2.1, wH_set (I' := cI I x sp t dp n) (R' := R) hS1 ce_9 (fun y hy kn => ce_cI hy kn)] at hP1
      exact hP1
    · exact h.elim
  · exact h.elim
theorem go_ret {r : Option aV} (ho : rOp q pc r) (hst : st = r.toList) (hK : K r I R S) : Go P q d K pc ls st I R S := by
  refine ⟨r, I, R, S, hK, ⟨Nat.le_refl _, Nat.le_refl _⟩, ?_⟩
  intro p e s m args below meth c Rm Q n0 z0 hc h1 h2 h3 h4 h5 h6 h7 hret H locs la hP hS hl
  rw [hst, show r.toList.map (cv (pB P) (pS P)) = (r.map (cv (pB P) (pS P))).toList from by cases r <;> rfl]
  exact hret pc H locs la ho hP hS
theorem sn_66 (he : eChk q (pc, 66, a, b, nx, xs) = true) (h : stp q (pL P) (pX P) G C K 66 a b nx xs ls st I R S) : Go P q d K pc ls st I R S := by
  obtain ⟨hd, hn, hx⟩ := chk he
  simp only [stp] at h
  split at h
  · rename_i z
    split at h
    · rename_i hr
      exact go_ret (r := some (.inl z)) ⟨hd, Or.inl hr⟩ rfl h
    · rename_i hr
      obtain ⟨h01, h⟩ := h
      exact go_ret (r := some (.inl z)) ⟨hd, Or.inr ⟨hr, h01⟩⟩ rfl h
    · exact h.elim
  · exact h.elim
theorem sn_67 (he : eChk q (pc, 67, a, b, nx, xs) = true) (h : stp q (pL P) (pX P) G C K 67 a b nx xs ls st I R S) : Go P q d K pc ls st I R S := by
  obtain ⟨hd, hn, hx⟩ := chk he
  simp only [stp] at h
  split at h
  · rename_i x
    split at h
    · rename_i n hr
      exact go_ret (r := some (vr x)) ⟨hd, _, hr, Or.inl ⟨_, rfl⟩⟩ rfl h
    · rename_i n hr
      exact go_ret (r := some (vr x)) ⟨hd, _, hr, Or.inr ⟨_, rfl⟩⟩ rfl h
    · exact h.elim
  · exact h.elim
theorem sn_68 (he : eChk q (pc, 68, a, b, nx, xs) = true) (h : stp q (pL P) (pX P) G C K 68 a b nx xs ls st I R S) : Go P q d K pc ls st I R S := by
  obtain ⟨hd, hn, hx⟩ := chk he
  simp only [stp] at h
  split at h
  · split at h
    · rename_i hr
      exact go_ret (r := none) ⟨hd, hr⟩ rfl h
    · exact h.elim
  · exact h.elim
theorem stp_snd {o : Nat} (hg : gOk P q (d + 1) K G) (hC : cOk P d C) (he : eChk q (pc, o, a, b, nx, xs) = true) (h : stp q (pL P) (pX P) G C K o a b nx xs ls st I R S) : Go P q (d + 1) K pc ls st I R S := by
  match o, he, h with
  | 0, _, h => exact h.elim
  | 1, he, h => exact sn_1 hg he h
  | 2, he, h => exact sn_2 hg he h
  | 3, he, h => exact sn_3 hg he h
  | 4, he, h => exact sn_4 hg he h
  | 5, he, h => exact sn_5 hg he h
  | 6, he, h => exact sn_6 hg he h
  | 7, he, h => exact sn_7 hg he h
  | 8, he, h => exact sn_8 hg he h
  | 9, he, h => exact sn_9 hg he h
  | 10, he, h => exact sn_10 hg he h
  | 11, he, h => exact sn_11 hg he h
  | 12, he, h => exact sn_12 hg he h
  | 13, he, h => exact sn_13 hg he h
  | 14, he, h => exact sn_14 hg he h
  | 15, he, h => exact sn_15 hg he h
  | 16, he, h => exact sn_16 hg he h
  | 17, he, h => exact sn_17 hg he h
  | 18, he, h => exact sn_18 hg he h
  | 19, he, h => exact sn_19 hg he h
  | 20, he, h => exact sn_20 hg he h
  | 21, he, h => exact sn_21 hg he h
  | 22, he, h => exact sn_22 hg he h
  | 23, he, h => exact sn_23 hg he h
  | 24, he, h => exact sn_24 hg he h
  | 25, he, h => exact sn_25 hg he h
  | 26, he, h => exact sn_26 hg he h
  | 27, he, h => exact sn_27 hg he h
  | 28, he, h => exact sn_28 hg he h
  | 29, he, h => exact sn_29 hg he h
  | 30, he, h => exact sn_30 hg he h
  | 31, he, h => exact sn_31 hg he h
  | 32, he, h => exact sn_32 hg he h
  | 33, he, h => exact sn_33 hg he h
  | 34, he, h => exact sn_34 hg he h
  | 35, he, h => exact sn_35 hg he h
  | 36, he, h => exact sn_36 hg he h
  | 37, he, h => exact sn_37 hg he h
  | 38, he, h => exact sn_38 hg he h
  | 39, he, h => exact sn_39 hg he h
  | 40, he, h => exact sn_40 hg he h
  | 41, he, h => exact sn_41 hg he h
  | 42, he, h => exact sn_42 hg he h
  | 43, he, h => exact sn_43 hg he h
  | 44, he, h => exact sn_44 hg he h
  | 45, he, h => exact sn_45 hg he h
  | 46, he, h => exact sn_46 hg he h
  | 47, he, h => exact sn_47 hg he h
  | 48, he, h => exact sn_48 hg he h
  | 49, he, h => exact sn_49 hg he h
  | 50, he, h => exact sn_50 hg he h
  | 51, he, h => exact sn_51 hg he h
  | 52, he, h => exact sn_52 hg he h
  | 53, he, h => exact sn_53 hg he h
  | 54, he, h => exact sn_54 hg he h
  | 55, he, h => exact sn_55 hg he h
  | 56, he, h => exact sn_56 hg he h
  | 57, he, h => exact sn_57 hg he h
  | 58, he, h => exact sn_58 hg he h
  | 59, he, h => exact sn_59 hg he h
  | 60, he, h => exact sn_60 hg hC he h
  | 61, he, h => exact sn_61 hg hC he h
  | 62, he, h => exact sn_62 hg hC he h
  | 63, he, h => exact sn_63 hg hC he h
  | 64, he, h => exact sn_64 hg he h
  | 65, he, h => exact sn_65 hg he h
  | 66, he, h => exact sn_66 he h
  | 67, he, h => exact sn_67 he h
  | 68, he, h => exact sn_68 he h
  | _ + 69, _, h => exact h.elim
theorem lk_mem : ∀ (E : List aE) (pc : Nat) (e : aE), lk E pc = some e → e ∈ E ∧ e.1 = pc
  | [], _, _, h => by cases h
  | x :: l, pc, e, h => by
    unfold lk at h
    split at h
    · rename_i hb
      cases h
      exact ⟨List.mem_cons_self, beqE hb⟩
    · obtain ⟨h1, h2⟩ := lk_mem l pc e h
      exact ⟨List.mem_cons_of_mem _ h1, h2⟩
theorem wpn_snd {E : List aE} {stops : List Nat} (hE : ∀ e ∈ E, eChk q e = true) (hg : gOk P q (d + 1) K G) (hC : cOk P d C) : ∀ (n : Nat) (pc : Nat) (ls st : List aV) (I : aI) (R : aR) (S : aS), wpn q (pL P) (pX P) E stops G C K n pc ls st I R S → Go P q (d + 1) K pc ls st I R S
  | 0, pc, ls, st, I, R, S, h => hg _ _ _ _ _ _ h
  | n + 1, pc, ls, st, I, R, S, h => by
    unfold wpn at h
    split at h
    · rename_i pc0 o a b nx xs hl
      obtain ⟨h1, h2⟩ := lk_mem _ _ _ hl
      have h2 : pc0 = pc := h2
      subst h2
      refine stp_snd (G := fun pc ls st I R S => match mem pc stops with
        | true => G pc ls st I R S
        | false => wpn q (pL P) (pX P) E stops G C K n pc ls st I R S) ?_ hC (hE _ h1) h
      intro pc ls st I R S h
      try dsimp only at h
      split at h
      · exact hg _ _ _ _ _ _ h
      · exact wpn_snd hE hg hC n pc ls st I R S h
    · exact h.elim
/-- THE WALK: what is left of it is said of any G and C that follow from the machine's own -/
theorem Go.walk (n : Nat) (stops : List Nat) (E : List aE) (hE : ∀ e ∈ E, eChk q e = true)
    (h : ∀ (G : aG) (C : aC), (∀ pc ls st I R S, Go P q (d + 1) K pc ls st I R S → G pc ls st I R S) → (∀ q' as I R S k, Ok P q' d as I R S k → C q' as I R S k) → wpn q (pL P) (pX P) E stops G C K n pc ls st I R S) : Go P q (d + 1) K pc ls st I R S :=
  wpn_snd hE (fun _ _ _ _ _ _ h => h) (fun _ _ _ _ _ _ h => h) n pc ls st I R S (h _ _ (fun _ _ _ _ _ _ h => h) (fun _ _ _ _ _ _ h => h))
end Sn3
end
section
/-! the reference: words, its shape, its small methods -/
abbrev aN : Type := Int → Int
def nf (n : aN) (v w : Int) : Int := n (20 + 8 * v + w)
def kf (n : aN) (k w : Int) : Int := n (2 + 6 * (k - 1) + w)
def b2i (c : Bool) : Int := match c with
  | true => 1
  | false => 0
/-- a fold over lo, lo + 1 .. hi - 1 -/
def rfN {α : Type} (f : Int → α → α) (a : α) (lo : Int) : Nat → α
  | 0 => a
  | k + 1 => f (lo + k) (rfN f a lo k)
def rf {α : Type} (f : Int → α → α) (a : α) (lo hi : Int) : α := rfN f a lo (hi - lo).toNat
theorem rf_nil {α : Type} {f : Int → α → α} {a : α} {lo hi : Int} (h : hi ≤ lo) : rf f a lo hi = a := by
  unfold rf
  rw [show (hi - lo).toNat = 0 by omega]
  rfl
theorem rf_succ {α : Type} {f : Int → α → α} {a : α} {lo hi : Int} (h : lo ≤ hi) : rf f a lo (hi + 1) = f hi (rf f a lo hi) := by
  unfold rf
  rw [show (hi + 1 - lo).toNat = (hi - lo).toNat + 1 by omega]
  show f (lo + ((hi - lo).toNat : Int)) _ = _
  rw [show lo + ((hi - lo).toNat : Int) = hi by omega]
theorem rf_congr {α : Type} {f g : Int → α → α} {a : α} {lo : Int} : ∀ (k : Nat) (hi : Int), hi - lo = k → (∀ u, lo ≤ u → u < hi → ∀ x, f u x = g u x) → rf f a lo hi = rf g a lo hi
  | 0, hi, h, _ => by rw [rf_nil (by omega), rf_nil (by omega)]
  | k + 1, hi, h, hfg => by
    have e : hi = (hi - 1) + 1 := by omega
    rw [e, rf_succ (by omega), rf_succ (by omega), rf_congr k (hi - 1) (by omega) (fun u h1 h2 x => hfg u h1 (by omega) x), hfg (hi - 1) (by omega) (by omega)]
theorem rf_cong {α : Type} {f g : Int → α → α} {a : α} {lo hi : Int} (h : ∀ u, lo ≤ u → u < hi → ∀ x, f u x = g u x) : rf f a lo hi = rf g a lo hi := by
  by_cases hl : lo ≤ hi
  · exact rf_congr (hi - lo).toNat hi (by omega) h
  · rw [rf_nil (by omega), rf_nil (by omega)]
/-- an invariant of a fold -/
theorem rf_inv {α : Type} {f : Int → α → α} {a : α} {lo : Int} (Q : Int → α → Prop) (h0 : Q lo a) : ∀ (k : Nat) (hi : Int), hi - lo = k → (∀ u x, lo ≤ u → u < hi → Q u x → Q (u + 1) (f u x)) → Q hi (rf f a lo hi)
  | 0, hi, h, _ => by rw [rf_nil (by omega), show hi = lo by omega]; exact h0
  | k + 1, hi, h, hs => by
    have e : hi = (hi - 1) + 1 := by omega
    rw [e, rf_succ (by omega)]
    exact hs (hi - 1) _ (by omega) (by omega) (rf_inv Q h0 k (hi - 1) (by omega) (fun u x h1 h2 => hs u x h1 (by omega)))
/-- the shape of the reference's object -/
def MS (R : aR) (S : aS) : Prop := S[361]? = some (8, 20) ∧ R 361 0 = some 362 ∧ S[362]? = some (9, 68) ∧ R 361 2 = some 363 ∧ S[363]? = some (9, 1088) ∧ R 361 4 = some 364 ∧ S[364]? = some (9, 138) ∧ R 361 5 = some 365 ∧ S[365]? = some (10, 2) ∧ R 361 6 = some 366 ∧ S[366]? = some (9, 20) ∧ R 361 7 = some 367 ∧ S[367]? = some (9, 20) ∧ R 361 9 = some 368 ∧ S[368]? = some (9, 6) ∧ R 361 10 = some 369 ∧ S[369]? = some (9, 6) ∧ R 361 11 = some 370 ∧ S[370]? = some (9, 6) ∧ R 361 12 = some 371 ∧ S[371]? = some (9, 6) ∧ R 361 13 = some 372 ∧ S[372]? = some (9, 6) ∧ R 361 14 = some 373 ∧ S[373]? = some (9, 6) ∧ R 361 15 = some 374 ∧ S[374]? = some (9, 1100) ∧ R 361 16 = some 375 ∧ S[375]? = some (9, 1100) ∧ R 361 17 = some 376 ∧ S[376]? = some (9, 1100)
/-- the bounds of a net's numbers -/
def WF (n : aN) : Prop := (1 ≤ n 0 ∧ n 0 ≤ 6 ∧ 0 ≤ n 1 ∧ n 1 ≤ 9) ∧
  (∀ v : Int, 0 ≤ v → v < 6 → (0 ≤ nf n v 0 ∧ (1 ≤ v → nf n v 0 < v)) ∧ (0 ≤ nf n v 1 ∧ nf n v 1 ≤ 9) ∧ (0 ≤ nf n v 2 ∧ nf n v 2 ≤ 9) ∧ (0 ≤ nf n v 3 ∧ nf n v 3 ≤ 2) ∧ (0 ≤ nf n v 4 ∧ nf n v 4 ≤ 9) ∧ (0 ≤ nf n v 5 ∧ nf n v 5 ≤ 9999) ∧ (0 ≤ nf n v 6 ∧ nf n v 6 ≤ 1) ∧ (0 ≤ nf n v 7 ∧ nf n v 7 ≤ 3)) ∧
  (∀ v : Int, 1 ≤ v → v < n 0 → 1 ≤ nf n v 3 ∧ 1 ≤ nf n v 4) ∧ (∀ v : Int, 1 ≤ v → v < n 0 → 1 ≤ nf n v 7 → kf n (nf n v 7) 0 = 1) ∧ nf n 0 7 = 0 ∧
  (∀ k : Int, 1 ≤ k → k ≤ 3 → (0 ≤ kf n k 0 ∧ kf n k 0 ≤ 1) ∧ (0 ≤ kf n k 1 ∧ kf n k 1 ≤ 9) ∧ (0 ≤ kf n k 2 ∧ kf n k 2 ≤ 9) ∧ (0 ≤ kf n k 3 ∧ kf n k 3 ≤ 99) ∧ (0 ≤ kf n k 4 ∧ kf n k 4 ≤ 99) ∧ (0 ≤ kf n k 5 ∧ kf n k 5 ≤ 1))
theorem ok_in {P : aP} {d : Nat} {K : aK} {I : aI} {R : aR} {S : aS} {v lo hi : Int} (hv : iR v) (hlo : iR lo) (hhi : iR hi) (h1 : lo ≤ v ∧ v ≤ hi → K (some (vi 1)) I R S) (h0 : ¬ (lo ≤ v ∧ v ≤ hi) → K (some (vi 0)) I R S) : Ok P 78 (d + 1) [vi v, vi lo, vi hi] I R S K := by
  refine Ok.of (by decide) rfl (Nat.le_of_ble_eq_true rfl) ?_
  refine Go.walk 400 [] E78 E78_ok (fun G C hG hC => ?_)
  (repeat ((conv => whnf); first | refine ⟨_, by assumption, ?_⟩ | refine ⟨_, _, by assumption, ?_⟩ | refine ⟨(show _ ∧ _ by omega), ?_⟩ | refine ⟨(show _ ∨ _ by omega), ?_⟩ | refine ⟨fun h => absurd h (by decide), fun _ => ?_⟩ | refine ⟨fun _ => ?_, fun h => absurd h (by decide)⟩ | refine ⟨fun _ => ?_, fun h => absurd rfl h⟩ | refine ⟨fun h => absurd rfl h, fun _ => ?_⟩)); try (conv => whnf)
  refine ⟨fun h => ?_, fun h => ?_⟩
  · (repeat ((conv => whnf); first | refine ⟨_, by assumption, ?_⟩ | refine ⟨_, _, by assumption, ?_⟩ | refine ⟨(show _ ∧ _ by omega), ?_⟩ | refine ⟨(show _ ∨ _ by omega), ?_⟩ | refine ⟨fun h => absurd h (by decide), fun _ => ?_⟩ | refine ⟨fun _ => ?_, fun h => absurd h (by decide)⟩ | refine ⟨fun _ => ?_, fun h => absurd rfl h⟩ | refine ⟨fun h => absurd rfl h, fun _ => ?_⟩)); try (conv => whnf)
    exact h0 (by omega)
  · (repeat ((conv => whnf); first | refine ⟨_, by assumption, ?_⟩ | refine ⟨_, _, by assumption, ?_⟩ | refine ⟨(show _ ∧ _ by omega), ?_⟩ | refine ⟨(show _ ∨ _ by omega), ?_⟩ | refine ⟨fun h => absurd h (by decide), fun _ => ?_⟩ | refine ⟨fun _ => ?_, fun h => absurd h (by decide)⟩ | refine ⟨fun _ => ?_, fun h => absurd rfl h⟩ | refine ⟨fun h => absurd rfl h, fun _ => ?_⟩)); try (conv => whnf)
    refine ⟨fun h => ?_, fun h => ?_⟩
    · (repeat ((conv => whnf); first | refine ⟨_, by assumption, ?_⟩ | refine ⟨_, _, by assumption, ?_⟩ | refine ⟨(show _ ∧ _ by omega), ?_⟩ | refine ⟨(show _ ∨ _ by omega), ?_⟩ | refine ⟨fun h => absurd h (by decide), fun _ => ?_⟩ | refine ⟨fun _ => ?_, fun h => absurd h (by decide)⟩ | refine ⟨fun _ => ?_, fun h => absurd rfl h⟩ | refine ⟨fun h => absurd rfl h, fun _ => ?_⟩)); try (conv => whnf)
      exact h0 (by omega)
    · (repeat ((conv => whnf); first | refine ⟨_, by assumption, ?_⟩ | refine ⟨_, _, by assumption, ?_⟩ | refine ⟨(show _ ∧ _ by omega), ?_⟩ | refine ⟨(show _ ∨ _ by omega), ?_⟩ | refine ⟨fun h => absurd h (by decide), fun _ => ?_⟩ | refine ⟨fun _ => ?_, fun h => absurd h (by decide)⟩ | refine ⟨fun _ => ?_, fun h => absurd rfl h⟩ | refine ⟨fun h => absurd rfl h, fun _ => ?_⟩)); try (conv => whnf)
      exact h1 (by omega)
/-- of(v, what) -/
theorem ok_of {P : aP} {d : Nat} {K : aK} {I : aI} {R : aR} {S : aS} {v w : Int} (hM : MS R S) (hb : 0 ≤ v ∧ v < 6 ∧ 0 ≤ w ∧ w < 8) (h1 : K (some (vi (nf (I 362) v w))) I R S) : Ok P 79 (d + 1) [vr 361, vi v, vi w] I R S K := by
  obtain ⟨m0, r1, m1, mr⟩ := hM
  refine Ok.of (by decide) rfl (Nat.le_of_ble_eq_true rfl) ?_
  refine Go.walk 400 [] E79 E79_ok (fun G C hG hC => ?_)
  (repeat ((conv => whnf); first | refine ⟨_, by assumption, ?_⟩ | refine ⟨_, _, by assumption, ?_⟩ | refine ⟨(show _ ∧ _ by omega), ?_⟩ | refine ⟨(show _ ∨ _ by omega), ?_⟩ | refine ⟨fun h => absurd h (by decide), fun _ => ?_⟩ | refine ⟨fun _ => ?_, fun h => absurd h (by decide)⟩ | refine ⟨fun _ => ?_, fun h => absurd rfl h⟩ | refine ⟨fun h => absurd rfl h, fun _ => ?_⟩)); try (conv => whnf)
  exact h1
/-- ofKind(k, what) -/
theorem ok_ofKind {P : aP} {d : Nat} {K : aK} {I : aI} {R : aR} {S : aS} {k w : Int} (hM : MS R S) (hb : 1 ≤ k ∧ k ≤ 3 ∧ 0 ≤ w ∧ w < 6) (h1 : K (some (vi (kf (I 362) k w))) I R S) : Ok P 80 (d + 1) [vr 361, vi k, vi w] I R S K := by
  obtain ⟨m0, r1, m1, mr⟩ := hM
  refine Ok.of (by decide) rfl (Nat.le_of_ble_eq_true rfl) ?_
  refine Go.walk 400 [] E80 E80_ok (fun G C hG hC => ?_)
  (repeat ((conv => whnf); first | refine ⟨_, by assumption, ?_⟩ | refine ⟨_, _, by assumption, ?_⟩ | refine ⟨(show _ ∧ _ by omega), ?_⟩ | refine ⟨(show _ ∨ _ by omega), ?_⟩ | refine ⟨fun h => absurd h (by decide), fun _ => ?_⟩ | refine ⟨fun _ => ?_, fun h => absurd h (by decide)⟩ | refine ⟨fun _ => ?_, fun h => absurd rfl h⟩ | refine ⟨fun h => absurd rfl h, fun _ => ?_⟩)); try (conv => whnf)
  exact h1
/-- isNode(v) -/
theorem ok_isNode {P : aP} {d : Nat} {K : aK} {I : aI} {R : aR} {S : aS} {v : Int} (hM : MS R S) (hv : iR v) (hW : WF (I 362)) (h1 : 0 ≤ v ∧ v < I 362 0 → K (some (vi 1)) I R S) (h0 : ¬ (0 ≤ v ∧ v < I 362 0) → K (some (vi 0)) I R S) : Ok P 81 (d + 2) [vr 361, vi v] I R S K := by
  obtain ⟨m0, r1, m1, mr⟩ := hM
  have hN := hW.1
  refine Ok.of (by decide) rfl (Nat.le_of_ble_eq_true rfl) ?_
  refine Go.walk 400 [] E81 E81_ok (fun G C hG hC => ?_)
  (repeat ((conv => whnf); first | refine ⟨_, by assumption, ?_⟩ | refine ⟨_, _, by assumption, ?_⟩ | refine ⟨(show _ ∧ _ by omega), ?_⟩ | refine ⟨(show _ ∨ _ by omega), ?_⟩ | refine ⟨fun h => absurd h (by decide), fun _ => ?_⟩ | refine ⟨fun _ => ?_, fun h => absurd h (by decide)⟩ | refine ⟨fun _ => ?_, fun h => absurd rfl h⟩ | refine ⟨fun h => absurd rfl h, fun _ => ?_⟩)); try (conv => whnf)
  refine hC _ _ _ _ _ _ ?_
  refine ok_in hv (by omega) (by omega) (fun h => ?_) (fun h => ?_)
  · (repeat ((conv => whnf); first | refine ⟨_, by assumption, ?_⟩ | refine ⟨_, _, by assumption, ?_⟩ | refine ⟨(show _ ∧ _ by omega), ?_⟩ | refine ⟨(show _ ∨ _ by omega), ?_⟩ | refine ⟨fun h => absurd h (by decide), fun _ => ?_⟩ | refine ⟨fun _ => ?_, fun h => absurd h (by decide)⟩ | refine ⟨fun _ => ?_, fun h => absurd rfl h⟩ | refine ⟨fun h => absurd rfl h, fun _ => ?_⟩)); try (conv => whnf)
    exact h1 (by omega)
  · (repeat ((conv => whnf); first | refine ⟨_, by assumption, ?_⟩ | refine ⟨_, _, by assumption, ?_⟩ | refine ⟨(show _ ∧ _ by omega), ?_⟩ | refine ⟨(show _ ∨ _ by omega), ?_⟩ | refine ⟨fun h => absurd h (by decide), fun _ => ?_⟩ | refine ⟨fun _ => ?_, fun h => absurd h (by decide)⟩ | refine ⟨fun _ => ?_, fun h => absurd rfl h⟩ | refine ⟨fun h => absurd rfl h, fun _ => ?_⟩)); try (conv => whnf)
    exact h0 (by omega)
/-- isKind(k) -/
theorem ok_isKind {P : aP} {d : Nat} {K : aK} {I : aI} {R : aR} {S : aS} {k : Int} (hM : MS R S) (hk : iR k) (hW : WF (I 362)) (h1 : 1 ≤ k ∧ k ≤ 3 ∧ kf (I 362) k 0 = 1 → K (some (vi 1)) I R S) (h0 : ¬ (1 ≤ k ∧ k ≤ 3 ∧ kf (I 362) k 0 = 1) → K (some (vi 0)) I R S) : Ok P 82 (d + 2) [vr 361, vi k] I R S K := by
  obtain ⟨m0, r1, m1, r2, m2, r3, m3, r4, m4, r5, m5, r6, m6, r7, m7, r8, m8, r9, m9, r10, m10, r11, m11, r12, m12, r13, m13, r14, m14, r15, m15⟩ := id hM
  refine Ok.of (by decide) rfl (Nat.le_of_ble_eq_true rfl) ?_
  refine Go.walk 400 [] E82 E82_ok (fun G C hG hC => ?_)
  (repeat ((conv => whnf); first | refine ⟨_, by assumption, ?_⟩ | refine ⟨_, _, by assumption, ?_⟩ | refine ⟨(show _ ∧ _ by omega), ?_⟩ | refine ⟨(show _ ∨ _ by omega), ?_⟩ | refine ⟨fun h => absurd h (by decide), fun _ => ?_⟩ | refine ⟨fun _ => ?_, fun h => absurd h (by decide)⟩ | refine ⟨fun _ => ?_, fun h => absurd rfl h⟩ | refine ⟨fun h => absurd rfl h, fun _ => ?_⟩)); try (conv => whnf)
  refine hC _ _ _ _ _ _ ?_
  refine ok_in hk (by omega) (by omega) (fun h => ?_) (fun h => ?_)
  · (repeat ((conv => whnf); first | refine ⟨_, by assumption, ?_⟩ | refine ⟨_, _, by assumption, ?_⟩ | refine ⟨(show _ ∧ _ by omega), ?_⟩ | refine ⟨(show _ ∨ _ by omega), ?_⟩ | refine ⟨fun h => absurd h (by decide), fun _ => ?_⟩ | refine ⟨fun _ => ?_, fun h => absurd h (by decide)⟩ | refine ⟨fun _ => ?_, fun h => absurd rfl h⟩ | refine ⟨fun h => absurd rfl h, fun _ => ?_⟩)); try (conv => whnf)
    refine hC _ _ _ _ _ _ ?_
    refine ok_ofKind hM (by omega) ?_
    have hb := hW.2.2.2.2.2 k h.1 h.2
    (repeat ((conv => whnf); first | refine ⟨_, by assumption, ?_⟩ | refine ⟨_, _, by assumption, ?_⟩ | refine ⟨(show _ ∧ _ by omega), ?_⟩ | refine ⟨(show _ ∨ _ by omega), ?_⟩ | refine ⟨fun h => absurd h (by decide), fun _ => ?_⟩ | refine ⟨fun _ => ?_, fun h => absurd h (by decide)⟩ | refine ⟨fun _ => ?_, fun h => absurd rfl h⟩ | refine ⟨fun h => absurd rfl h, fun _ => ?_⟩)); try (conv => whnf)
    refine ⟨fun h2 => ?_, fun h2 => ?_⟩
    · (repeat ((conv => whnf); first | refine ⟨_, by assumption, ?_⟩ | refine ⟨_, _, by assumption, ?_⟩ | refine ⟨(show _ ∧ _ by omega), ?_⟩ | refine ⟨(show _ ∨ _ by omega), ?_⟩ | refine ⟨fun h => absurd h (by decide), fun _ => ?_⟩ | refine ⟨fun _ => ?_, fun h => absurd h (by decide)⟩ | refine ⟨fun _ => ?_, fun h => absurd rfl h⟩ | refine ⟨fun h => absurd rfl h, fun _ => ?_⟩)); try (conv => whnf)
      exact h0 (by omega)
    · (repeat ((conv => whnf); first | refine ⟨_, by assumption, ?_⟩ | refine ⟨_, _, by assumption, ?_⟩ | refine ⟨(show _ ∧ _ by omega), ?_⟩ | refine ⟨(show _ ∨ _ by omega), ?_⟩ | refine ⟨fun h => absurd h (by decide), fun _ => ?_⟩ | refine ⟨fun _ => ?_, fun h => absurd h (by decide)⟩ | refine ⟨fun _ => ?_, fun h => absurd rfl h⟩ | refine ⟨fun h => absurd rfl h, fun _ => ?_⟩)); try (conv => whnf)
      exact h1 (by omega)
  · (repeat ((conv => whnf); first | refine ⟨_, by assumption, ?_⟩ | refine ⟨_, _, by assumption, ?_⟩ | refine ⟨(show _ ∧ _ by omega), ?_⟩ | refine ⟨(show _ ∨ _ by omega), ?_⟩ | refine ⟨fun h => absurd h (by decide), fun _ => ?_⟩ | refine ⟨fun _ => ?_, fun h => absurd h (by decide)⟩ | refine ⟨fun _ => ?_, fun h => absurd rfl h⟩ | refine ⟨fun h => absurd rfl h, fun _ => ?_⟩)); try (conv => whnf)
    exact h0 (by omega)
end
section
/-! the reference: isEnd, isBelow, asPlaced, weighs -/
def mEnd (n : aN) (v : Int) : Bool := rf (fun u b => b && decide (nf n u 0 ≠ v)) (decide (0 < v)) 1 (n 0)
theorem ok_isEnd {P : aP} {d : Nat} {K : aK} {I : aI} {R : aR} {S : aS} {v : Int} (hM : MS R S) (hW : WF (I 362)) (hv : iR v) (h1 : mEnd (I 362) v = true → K (some (vi 1)) I R S) (h0 : mEnd (I 362) v = false → K (some (vi 0)) I R S) : Ok P 83 (d + 2) [vr 361, vi v] I R S K := by
  obtain ⟨m0, r1, m1, r2, m2, r3, m3, r4, m4, r5, m5, r6, m6, r7, m7, r8, m8, r9, m9, r10, m10, r11, m11, r12, m12, r13, m13, r14, m14, r15, m15⟩ := id hM
  have hN := hW.1
  have loop : ∀ (k : Nat) (u is : Int), 1 ≤ u → I 362 0 - u = k → (is = 0 ∨ is = 1) → rf (fun u b => b && decide (nf (I 362) u 0 ≠ v)) (decide (0 < v)) 1 u = decide (is = 1) → Go P 83 (d + 2) K 12 [vr 361, vi v, vi is, vi u] [] I R S := by
    intro k
    induction k with
    | zero =>
      intro u is hu hk h01 hr
      refine Go.walk 400 [12] E83 E83_ok (fun G C hG hC => ?_)
      (repeat ((conv => whnf); first | refine ⟨_, by assumption, ?_⟩ | refine ⟨_, _, by assumption, ?_⟩ | refine ⟨(show _ ∧ _ by omega), ?_⟩ | refine ⟨(show _ ∨ _ by omega), ?_⟩ | refine ⟨fun h => absurd h (by decide), fun _ => ?_⟩ | refine ⟨fun _ => ?_, fun h => absurd h (by decide)⟩ | refine ⟨fun _ => ?_, fun h => absurd rfl h⟩ | refine ⟨fun h => absurd rfl h, fun _ => ?_⟩)); try (conv => whnf)
      refine ⟨fun _ => ?_, fun hc => absurd (show I 362 0 ≤ u by omega) hc⟩
      (repeat ((conv => whnf); first | refine ⟨_, by assumption, ?_⟩ | refine ⟨_, _, by assumption, ?_⟩ | refine ⟨(show _ ∧ _ by omega), ?_⟩ | refine ⟨(show _ ∨ _ by omega), ?_⟩ | refine ⟨fun h => absurd h (by decide), fun _ => ?_⟩ | refine ⟨fun _ => ?_, fun h => absurd h (by decide)⟩ | refine ⟨fun _ => ?_, fun h => absurd rfl h⟩ | refine ⟨fun h => absurd rfl h, fun _ => ?_⟩)); try (conv => whnf)
      have e : I 362 0 = u := by omega
      rcases h01 with rfl | rfl
      · exact h0 (by rw [mEnd, e, hr]; rfl)
      · exact h1 (by rw [mEnd, e, hr]; rfl)
    | succ k ih =>
      intro u is hu hk h01 hr
      have hb := (hW.2.1 u (by omega) (by omega)).1
      refine Go.walk 400 [12] E83 E83_ok (fun G C hG hC => ?_)
      (repeat ((conv => whnf); first | refine ⟨_, by assumption, ?_⟩ | refine ⟨_, _, by assumption, ?_⟩ | refine ⟨(show _ ∧ _ by omega), ?_⟩ | refine ⟨(show _ ∨ _ by omega), ?_⟩ | refine ⟨fun h => absurd h (by decide), fun _ => ?_⟩ | refine ⟨fun _ => ?_, fun h => absurd h (by decide)⟩ | refine ⟨fun _ => ?_, fun h => absurd rfl h⟩ | refine ⟨fun h => absurd rfl h, fun _ => ?_⟩)); try (conv => whnf)
      refine ⟨fun hc => absurd hc (by omega), fun _ => ?_⟩
      (repeat ((conv => whnf); first | refine ⟨_, by assumption, ?_⟩ | refine ⟨_, _, by assumption, ?_⟩ | refine ⟨(show _ ∧ _ by omega), ?_⟩ | refine ⟨(show _ ∨ _ by omega), ?_⟩ | refine ⟨fun h => absurd h (by decide), fun _ => ?_⟩ | refine ⟨fun _ => ?_, fun h => absurd h (by decide)⟩ | refine ⟨fun _ => ?_, fun h => absurd rfl h⟩ | refine ⟨fun h => absurd rfl h, fun _ => ?_⟩)); try (conv => whnf)
      refine ⟨fun hz => ?_, fun hz => ?_⟩
      · (repeat ((conv => whnf); first | refine ⟨_, by assumption, ?_⟩ | refine ⟨_, _, by assumption, ?_⟩ | refine ⟨(show _ ∧ _ by omega), ?_⟩ | refine ⟨(show _ ∨ _ by omega), ?_⟩ | refine ⟨fun h => absurd h (by decide), fun _ => ?_⟩ | refine ⟨fun _ => ?_, fun h => absurd h (by decide)⟩ | refine ⟨fun _ => ?_, fun h => absurd rfl h⟩ | refine ⟨fun h => absurd rfl h, fun _ => ?_⟩)); try (conv => whnf)
        refine hG _ _ _ _ _ _ ?_
        refine ih (u + 1) 0 (by omega) (by omega) (Or.inl rfl) ?_
        rw [rf_succ hu, hr, hz]; rfl
      · (repeat ((conv => whnf); first | refine ⟨_, by assumption, ?_⟩ | refine ⟨_, _, by assumption, ?_⟩ | refine ⟨(show _ ∧ _ by omega), ?_⟩ | refine ⟨(show _ ∨ _ by omega), ?_⟩ | refine ⟨fun h => absurd h (by decide), fun _ => ?_⟩ | refine ⟨fun _ => ?_, fun h => absurd h (by decide)⟩ | refine ⟨fun _ => ?_, fun h => absurd rfl h⟩ | refine ⟨fun h => absurd rfl h, fun _ => ?_⟩)); try (conv => whnf)
        refine hC _ _ _ _ _ _ ?_
        refine ok_of hM (by omega) ?_
        (repeat ((conv => whnf); first | refine ⟨_, by assumption, ?_⟩ | refine ⟨_, _, by assumption, ?_⟩ | refine ⟨(show _ ∧ _ by omega), ?_⟩ | refine ⟨(show _ ∨ _ by omega), ?_⟩ | refine ⟨fun h => absurd h (by decide), fun _ => ?_⟩ | refine ⟨fun _ => ?_, fun h => absurd h (by decide)⟩ | refine ⟨fun _ => ?_, fun h => absurd rfl h⟩ | refine ⟨fun h => absurd rfl h, fun _ => ?_⟩)); try (conv => whnf)
        refine ⟨fun he => ?_, fun he => ?_⟩
        · (repeat ((conv => whnf); first | refine ⟨_, by assumption, ?_⟩ | refine ⟨_, _, by assumption, ?_⟩ | refine ⟨(show _ ∧ _ by omega), ?_⟩ | refine ⟨(show _ ∨ _ by omega), ?_⟩ | refine ⟨fun h => absurd h (by decide), fun _ => ?_⟩ | refine ⟨fun _ => ?_, fun h => absurd h (by decide)⟩ | refine ⟨fun _ => ?_, fun h => absurd rfl h⟩ | refine ⟨fun h => absurd rfl h, fun _ => ?_⟩)); try (conv => whnf)
          refine hG _ _ _ _ _ _ ?_
          refine ih (u + 1) 0 (by omega) (by omega) (Or.inl rfl) ?_
          rw [rf_succ hu, hr]; simp [he]
        · (repeat ((conv => whnf); first | refine ⟨_, by assumption, ?_⟩ | refine ⟨_, _, by assumption, ?_⟩ | refine ⟨(show _ ∧ _ by omega), ?_⟩ | refine ⟨(show _ ∨ _ by omega), ?_⟩ | refine ⟨fun h => absurd h (by decide), fun _ => ?_⟩ | refine ⟨fun _ => ?_, fun h => absurd h (by decide)⟩ | refine ⟨fun _ => ?_, fun h => absurd rfl h⟩ | refine ⟨fun h => absurd rfl h, fun _ => ?_⟩)); try (conv => whnf)
          refine hG _ _ _ _ _ _ ?_
          refine ih (u + 1) 1 (by omega) (by omega) (Or.inr rfl) ?_
          rw [rf_succ hu, hr, show is = 1 by omega]; simp [he]
  refine Ok.of (by decide) rfl (Nat.le_of_ble_eq_true rfl) ?_
  refine Go.walk 400 [12] E83 E83_ok (fun G C hG hC => ?_)
  (repeat ((conv => whnf); first | refine ⟨_, by assumption, ?_⟩ | refine ⟨_, _, by assumption, ?_⟩ | refine ⟨(show _ ∧ _ by omega), ?_⟩ | refine ⟨(show _ ∨ _ by omega), ?_⟩ | refine ⟨fun h => absurd h (by decide), fun _ => ?_⟩ | refine ⟨fun _ => ?_, fun h => absurd h (by decide)⟩ | refine ⟨fun _ => ?_, fun h => absurd rfl h⟩ | refine ⟨fun h => absurd rfl h, fun _ => ?_⟩)); try (conv => whnf)
  refine ⟨fun h => ?_, fun h => ?_⟩
  · (repeat ((conv => whnf); first | refine ⟨_, by assumption, ?_⟩ | refine ⟨_, _, by assumption, ?_⟩ | refine ⟨(show _ ∧ _ by omega), ?_⟩ | refine ⟨(show _ ∨ _ by omega), ?_⟩ | refine ⟨fun h => absurd h (by decide), fun _ => ?_⟩ | refine ⟨fun _ => ?_, fun h => absurd h (by decide)⟩ | refine ⟨fun _ => ?_, fun h => absurd rfl h⟩ | refine ⟨fun h => absurd rfl h, fun _ => ?_⟩)); try (conv => whnf)
    refine hG _ _ _ _ _ _ ?_
    refine loop (I 362 0 - 1).toNat 1 0 (by omega) (by omega) (Or.inl rfl) ?_
    rw [rf_nil (by omega)]; simp; omega
  · (repeat ((conv => whnf); first | refine ⟨_, by assumption, ?_⟩ | refine ⟨_, _, by assumption, ?_⟩ | refine ⟨(show _ ∧ _ by omega), ?_⟩ | refine ⟨(show _ ∨ _ by omega), ?_⟩ | refine ⟨fun h => absurd h (by decide), fun _ => ?_⟩ | refine ⟨fun _ => ?_, fun h => absurd h (by decide)⟩ | refine ⟨fun _ => ?_, fun h => absurd rfl h⟩ | refine ⟨fun h => absurd rfl h, fun _ => ?_⟩)); try (conv => whnf)
    refine hG _ _ _ _ _ _ ?_
    refine loop (I 362 0 - 1).toNat 1 1 (by omega) (by omega) (Or.inr rfl) ?_
    rw [rf_nil (by omega)]; simp; omega
/-! climbing -/
def climb (n : aN) (top : Int) : Nat → Int → Int
  | 0, x => x
  | f + 1, x => if top < x then climb n top f (nf n x 0) else x
def bel (n : aN) (v top : Int) : Bool := decide (climb n top v.toNat v = top)
theorem climb_any {n : aN} (hW : WF n) {top : Int} (ht : 0 ≤ top) : ∀ (f g : Nat) (x : Int), x < 6 → x.toNat ≤ f → x.toNat ≤ g → climb n top f x = climb n top g x := by
  intro f
  induction f with
  | zero =>
    intro g x h6 hf hg
    have hx : ¬ top < x := by omega
    cases g with
    | zero => rfl
    | succ g => simp [climb, hx]
  | succ f ih =>
    intro g x h6 hf hg
    by_cases hx : top < x
    · obtain ⟨g', rfl⟩ : ∃ g', g = g' + 1 := ⟨g - 1, by omega⟩
      have hb := (hW.2.1 x (by omega) h6).1
      have ha := hb.2 (by omega)
      simp only [climb, if_pos hx]
      exact ih g' _ (by omega) (by omega) (by omega)
    · cases g with
      | zero => simp [climb, hx]
      | succ g => simp [climb, hx]
theorem climb_up {n : aN} (hW : WF n) {top x : Int} (ht : 0 ≤ top) (h6 : x < 6) (hx : top < x) : climb n top x.toNat x = climb n top (nf n x 0).toNat (nf n x 0) := by
  have hb := (hW.2.1 x (by omega) h6).1
  have ha := hb.2 (by omega)
  have e : x.toNat = (x.toNat - 1) + 1 := by omega
  rw [e]
  simp only [climb, if_pos hx]
  exact climb_any hW ht _ _ _ (by omega) (by omega) (by omega)
theorem climb_id {n : aN} {top x : Int} (hx : ¬ top < x) : climb n top x.toNat x = x := by
  cases hxn : x.toNat with
  | zero => rfl
  | succ m => simp [climb, hx]
/-- isBelow(v, top) -/
theorem ok_isBelow {P : aP} {d : Nat} {K : aK} {I : aI} {R : aR} {S : aS} {v top : Int} (hM : MS R S) (hW : WF (I 362)) (hv : 0 ≤ v ∧ v < 6) (ht : 0 ≤ top ∧ top < 6) (h1 : bel (I 362) v top = true → K (some (vi 1)) I R S) (h0 : bel (I 362) v top = false → K (some (vi 0)) I R S) : Ok P 84 (d + 2) [vr 361, vi v, vi top] I R S K := by
  obtain ⟨m0, r1, m1, r2, m2, r3, m3, r4, m4, r5, m5, r6, m6, r7, m7, r8, m8, r9, m9, r10, m10, r11, m11, r12, m12, r13, m13, r14, m14, r15, m15⟩ := id hM
  have loop : ∀ (k : Nat) (x : Int), 0 ≤ x → x < 6 → x.toNat ≤ k → climb (I 362) top x.toNat x = climb (I 362) top v.toNat v → Go P 84 (d + 2) K 2 [vr 361, vi v, vi top, vi x] [] I R S := by
    intro k
    induction k with
    | zero =>
      intro x hx h6 hk hc
      rw [climb_id (by omega)] at hc
      refine Go.walk 400 [2] E84 E84_ok (fun G C hG hC => ?_)
      (repeat ((conv => whnf); first | refine ⟨_, by assumption, ?_⟩ | refine ⟨_, _, by assumption, ?_⟩ | refine ⟨(show _ ∧ _ by omega), ?_⟩ | refine ⟨(show _ ∨ _ by omega), ?_⟩ | refine ⟨fun h => absurd h (by decide), fun _ => ?_⟩ | refine ⟨fun _ => ?_, fun h => absurd h (by decide)⟩ | refine ⟨fun _ => ?_, fun h => absurd rfl h⟩ | refine ⟨fun h => absurd rfl h, fun _ => ?_⟩)); try (conv => whnf)
      refine ⟨fun _ => ?_, fun h => absurd (show x ≤ top by omega) h⟩
      (repeat ((conv => whnf); first | refine ⟨_, by assumption, ?_⟩ | refine ⟨_, _, by assumption, ?_⟩ | refine ⟨(show _ ∧ _ by omega), ?_⟩ | refine ⟨(show _ ∨ _ by omega), ?_⟩ | refine ⟨fun h => absurd h (by decide), fun _ => ?_⟩ | refine ⟨fun _ => ?_, fun h => absurd h (by decide)⟩ | refine ⟨fun _ => ?_, fun h => absurd rfl h⟩ | refine ⟨fun h => absurd rfl h, fun _ => ?_⟩)); try (conv => whnf)
      refine ⟨fun h => ?_, fun h => ?_⟩
      · (repeat ((conv => whnf); first | refine ⟨_, by assumption, ?_⟩ | refine ⟨_, _, by assumption, ?_⟩ | refine ⟨(show _ ∧ _ by omega), ?_⟩ | refine ⟨(show _ ∨ _ by omega), ?_⟩ | refine ⟨fun h => absurd h (by decide), fun _ => ?_⟩ | refine ⟨fun _ => ?_, fun h => absurd h (by decide)⟩ | refine ⟨fun _ => ?_, fun h => absurd rfl h⟩ | refine ⟨fun h => absurd rfl h, fun _ => ?_⟩)); try (conv => whnf)
        exact h0 (by rw [bel, ← hc]; simp [h])
      · (repeat ((conv => whnf); first | refine ⟨_, by assumption, ?_⟩ | refine ⟨_, _, by assumption, ?_⟩ | refine ⟨(show _ ∧ _ by omega), ?_⟩ | refine ⟨(show _ ∨ _ by omega), ?_⟩ | refine ⟨fun h => absurd h (by decide), fun _ => ?_⟩ | refine ⟨fun _ => ?_, fun h => absurd h (by decide)⟩ | refine ⟨fun _ => ?_, fun h => absurd rfl h⟩ | refine ⟨fun h => absurd rfl h, fun _ => ?_⟩)); try (conv => whnf)
        exact h1 (by rw [bel, ← hc]; simp [h])
    | succ k ih =>
      intro x hx h6 hk hc
      refine Go.walk 400 [2] E84 E84_ok (fun G C hG hC => ?_)
      (repeat ((conv => whnf); first | refine ⟨_, by assumption, ?_⟩ | refine ⟨_, _, by assumption, ?_⟩ | refine ⟨(show _ ∧ _ by omega), ?_⟩ | refine ⟨(show _ ∨ _ by omega), ?_⟩ | refine ⟨fun h => absurd h (by decide), fun _ => ?_⟩ | refine ⟨fun _ => ?_, fun h => absurd h (by decide)⟩ | refine ⟨fun _ => ?_, fun h => absurd rfl h⟩ | refine ⟨fun h => absurd rfl h, fun _ => ?_⟩)); try (conv => whnf)
      refine ⟨fun hle => ?_, fun hgt => ?_⟩
      · rw [climb_id (by omega)] at hc
        (repeat ((conv => whnf); first | refine ⟨_, by assumption, ?_⟩ | refine ⟨_, _, by assumption, ?_⟩ | refine ⟨(show _ ∧ _ by omega), ?_⟩ | refine ⟨(show _ ∨ _ by omega), ?_⟩ | refine ⟨fun h => absurd h (by decide), fun _ => ?_⟩ | refine ⟨fun _ => ?_, fun h => absurd h (by decide)⟩ | refine ⟨fun _ => ?_, fun h => absurd rfl h⟩ | refine ⟨fun h => absurd rfl h, fun _ => ?_⟩)); try (conv => whnf)
        refine ⟨fun h => ?_, fun h => ?_⟩
        · (repeat ((conv => whnf); first | refine ⟨_, by assumption, ?_⟩ | refine ⟨_, _, by assumption, ?_⟩ | refine ⟨(show _ ∧ _ by omega), ?_⟩ | refine ⟨(show _ ∨ _ by omega), ?_⟩ | refine ⟨fun h => absurd h (by decide), fun _ => ?_⟩ | refine ⟨fun _ => ?_, fun h => absurd h (by decide)⟩ | refine ⟨fun _ => ?_, fun h => absurd rfl h⟩ | refine ⟨fun h => absurd rfl h, fun _ => ?_⟩)); try (conv => whnf)
          exact h0 (by rw [bel, ← hc]; simp [h])
        · (repeat ((conv => whnf); first | refine ⟨_, by assumption, ?_⟩ | refine ⟨_, _, by assumption, ?_⟩ | refine ⟨(show _ ∧ _ by omega), ?_⟩ | refine ⟨(show _ ∨ _ by omega), ?_⟩ | refine ⟨fun h => absurd h (by decide), fun _ => ?_⟩ | refine ⟨fun _ => ?_, fun h => absurd h (by decide)⟩ | refine ⟨fun _ => ?_, fun h => absurd rfl h⟩ | refine ⟨fun h => absurd rfl h, fun _ => ?_⟩)); try (conv => whnf)
          exact h1 (by rw [bel, ← hc]; simp [h])
      · have hb := (hW.2.1 x (by omega) h6).1
        have ha := hb.2 (by omega)
        (repeat ((conv => whnf); first | refine ⟨_, by assumption, ?_⟩ | refine ⟨_, _, by assumption, ?_⟩ | refine ⟨(show _ ∧ _ by omega), ?_⟩ | refine ⟨(show _ ∨ _ by omega), ?_⟩ | refine ⟨fun h => absurd h (by decide), fun _ => ?_⟩ | refine ⟨fun _ => ?_, fun h => absurd h (by decide)⟩ | refine ⟨fun _ => ?_, fun h => absurd rfl h⟩ | refine ⟨fun h => absurd rfl h, fun _ => ?_⟩)); try (conv => whnf)
        refine hC _ _ _ _ _ _ ?_
        refine ok_of hM (by omega) ?_
        (repeat ((conv => whnf); first | refine ⟨_, by assumption, ?_⟩ | refine ⟨_, _, by assumption, ?_⟩ | refine ⟨(show _ ∧ _ by omega), ?_⟩ | refine ⟨(show _ ∨ _ by omega), ?_⟩ | refine ⟨fun h => absurd h (by decide), fun _ => ?_⟩ | refine ⟨fun _ => ?_, fun h => absurd h (by decide)⟩ | refine ⟨fun _ => ?_, fun h => absurd rfl h⟩ | refine ⟨fun h => absurd rfl h, fun _ => ?_⟩)); try (conv => whnf)
        refine hG _ _ _ _ _ _ ?_
        refine ih (nf (I 362) x 0) (by omega) (by omega) (by omega) ?_
        rw [← hc, climb_up hW (by omega) h6 (by omega)]
  refine Ok.of (by decide) rfl (Nat.le_of_ble_eq_true rfl) ?_
  refine Go.walk 400 [2] E84 E84_ok (fun G C hG hC => ?_)
  (repeat ((conv => whnf); first | refine ⟨_, by assumption, ?_⟩ | refine ⟨_, _, by assumption, ?_⟩ | refine ⟨(show _ ∧ _ by omega), ?_⟩ | refine ⟨(show _ ∨ _ by omega), ?_⟩ | refine ⟨fun h => absurd h (by decide), fun _ => ?_⟩ | refine ⟨fun _ => ?_, fun h => absurd h (by decide)⟩ | refine ⟨fun _ => ?_, fun h => absurd rfl h⟩ | refine ⟨fun h => absurd rfl h, fun _ => ?_⟩)); try (conv => whnf)
  refine hG _ _ _ _ _ _ ?_
  exact loop v.toNat v (by omega) (by omega) (by omega) rfl
/-- all that isn't named is as it was -/
def Fr (L : List Nat) (I I' : aI) : Prop := ∀ a, a ∉ L → I' a = I a
theorem Fr.rf {L : List Nat} {I : aI} : Fr L I I := fun _ _ => rfl
theorem Fr.put {L : List Nat} {I I' : aI} {a : Nat} {j z : Int} (h : Fr L I I') (ha : a ∈ L) : Fr L I (uI I' a j z) := by
  intro x hx
  rw [← h x hx]
  funext k
  have : x ≠ a := fun e => hx (e ▸ ha)
  simp [uI, this]
theorem Fr.trans {L L1 L2 : List Nat} {I I1 I2 : aI} (h : Fr L1 I I1) (h2 : Fr L2 I1 I2) (hL : ∀ a, a ∈ L1 ∨ a ∈ L2 → a ∈ L) : Fr L I I2 := by
  intro x hx
  rw [h2 x (fun h => hx (hL x (Or.inr h))), h x (fun h => hx (hL x (Or.inl h)))]
theorem uI_at {I : aI} {a : Nat} {j z : Int} : uI I a j z a j = z := by simp [uI]
theorem uI_ne {I : aI} {a b : Nat} {j k z : Int} (h : ¬ (b = a ∧ k = j)) : uI I a j z b k = I b k := by simp only [uI]; rw [if_neg h]
/-- asPlaced() -/
theorem ok_asPlaced {P : aP} {d : Nat} {K : aK} {I : aI} {R : aR} {S : aS} (hM : MS R S) (hW : WF (I 362)) (hK : ∀ I', Fr [368, 369] I I' → (∀ v, 0 ≤ v → v < I 362 0 → I' 368 v = nf (I 362) v 7 ∧ I' 369 v = nf (I 362) v 3) → K none I' R S) : Ok P 85 (d + 2) [vr 361] I R S K := by
  obtain ⟨m0, r1, m1, r2, m2, r3, m3, r4, m4, r5, m5, r6, m6, r7, m7, r8, m8, r9, m9, r10, m10, r11, m11, r12, m12, r13, m13, r14, m14, r15, m15⟩ := id hM
  have hN := hW.1
  have loop : ∀ (k : Nat) (v : Int) (I' : aI), 0 ≤ v → I 362 0 - v = k → Fr [368, 369] I I' → (∀ u, 0 ≤ u → u < v → I' 368 u = nf (I 362) u 7 ∧ I' 369 u = nf (I 362) u 3) → Go P 85 (d + 2) K 2 [vr 361, vi v] [] I' R S := by
    intro k
    induction k with
    | zero =>
      intro v I' hv hk hF ha
      have e := hF 362 (by decide)
      refine Go.walk 400 [2] E85 E85_ok (fun G C hG hC => ?_)
      (repeat ((conv => whnf); first | refine ⟨_, by assumption, ?_⟩ | refine ⟨_, _, by assumption, ?_⟩ | refine ⟨(show _ ∧ _ by omega), ?_⟩ | refine ⟨(show _ ∨ _ by omega), ?_⟩ | refine ⟨fun h => absurd h (by decide), fun _ => ?_⟩ | refine ⟨fun _ => ?_, fun h => absurd h (by decide)⟩ | refine ⟨fun _ => ?_, fun h => absurd rfl h⟩ | refine ⟨fun h => absurd rfl h, fun _ => ?_⟩)); try (conv => whnf)
      rw [e]
      refine ⟨by omega, ?_⟩
      refine ⟨fun _ => ?_, fun h => absurd (show I 362 0 ≤ v by omega) h⟩
      (repeat ((conv => whnf); first | refine ⟨_, by assumption, ?_⟩ | refine ⟨_, _, by assumption, ?_⟩ | refine ⟨(show _ ∧ _ by omega), ?_⟩ | refine ⟨(show _ ∨ _ by omega), ?_⟩ | refine ⟨fun h => absurd h (by decide), fun _ => ?_⟩ | refine ⟨fun _ => ?_, fun h => absurd h (by decide)⟩ | refine ⟨fun _ => ?_, fun h => absurd rfl h⟩ | refine ⟨fun h => absurd rfl h, fun _ => ?_⟩)); try (conv => whnf)
      exact hK I' hF (fun u h1 h2 => ha u h1 (by omega))
    | succ k ih =>
      intro v I' hv hk hF ha
      have e := hF 362 (by decide)
      refine Go.walk 400 [2] E85 E85_ok (fun G C hG hC => ?_)
      (repeat ((conv => whnf); first | refine ⟨_, by assumption, ?_⟩ | refine ⟨_, _, by assumption, ?_⟩ | refine ⟨(show _ ∧ _ by omega), ?_⟩ | refine ⟨(show _ ∨ _ by omega), ?_⟩ | refine ⟨fun h => absurd h (by decide), fun _ => ?_⟩ | refine ⟨fun _ => ?_, fun h => absurd h (by decide)⟩ | refine ⟨fun _ => ?_, fun h => absurd rfl h⟩ | refine ⟨fun h => absurd rfl h, fun _ => ?_⟩)); try (conv => whnf)
      rw [e]
      refine ⟨by omega, ?_⟩
      refine ⟨fun h => absurd h (by omega), fun _ => ?_⟩
      (repeat ((conv => whnf); first | refine ⟨_, by assumption, ?_⟩ | refine ⟨_, _, by assumption, ?_⟩ | refine ⟨(show _ ∧ _ by omega), ?_⟩ | refine ⟨(show _ ∨ _ by omega), ?_⟩ | refine ⟨fun h => absurd h (by decide), fun _ => ?_⟩ | refine ⟨fun _ => ?_, fun h => absurd h (by decide)⟩ | refine ⟨fun _ => ?_, fun h => absurd rfl h⟩ | refine ⟨fun h => absurd rfl h, fun _ => ?_⟩)); try (conv => whnf)
      refine hC _ _ _ _ _ _ ?_
      refine ok_of hM (by omega) ?_
      (repeat ((conv => whnf); first | refine ⟨_, by assumption, ?_⟩ | refine ⟨_, _, by assumption, ?_⟩ | refine ⟨(show _ ∧ _ by omega), ?_⟩ | refine ⟨(show _ ∨ _ by omega), ?_⟩ | refine ⟨fun h => absurd h (by decide), fun _ => ?_⟩ | refine ⟨fun _ => ?_, fun h => absurd h (by decide)⟩ | refine ⟨fun _ => ?_, fun h => absurd rfl h⟩ | refine ⟨fun h => absurd rfl h, fun _ => ?_⟩)); try (conv => whnf)
      refine hC _ _ _ _ _ _ ?_
      refine ok_of hM (by omega) ?_
      (repeat ((conv => whnf); first | refine ⟨_, by assumption, ?_⟩ | refine ⟨_, _, by assumption, ?_⟩ | refine ⟨(show _ ∧ _ by omega), ?_⟩ | refine ⟨(show _ ∨ _ by omega), ?_⟩ | refine ⟨fun h => absurd h (by decide), fun _ => ?_⟩ | refine ⟨fun _ => ?_, fun h => absurd h (by decide)⟩ | refine ⟨fun _ => ?_, fun h => absurd rfl h⟩ | refine ⟨fun h => absurd rfl h, fun _ => ?_⟩)); try (conv => whnf)
      refine hG _ _ _ _ _ _ ?_
      refine ih (v + 1) _ (by omega) (by omega) ((hF.put (by decide)).put (by decide)) (fun u h1 h2 => ?_)
      have e2 : nf (uI I' 368 v (nf (I' 362) v 7) 362) v 3 = nf (I 362) v 3 := by
        show uI I' 368 v (nf (I' 362) v 7) 362 _ = _
        rw [uI_ne (by omega), e]; rfl
      by_cases hu : u = v
      · subst hu
        refine ⟨?_, ?_⟩
        · rw [uI_ne (by omega), uI_at, e]
        · rw [uI_at, e2]
      · have := ha u h1 (by omega)
        rw [uI_ne (by omega), uI_ne (by omega), uI_ne (by omega), uI_ne (by omega)]
        exact this
  refine Ok.of (by decide) rfl (Nat.le_of_ble_eq_true rfl) ?_
  refine Go.walk 400 [2] E85 E85_ok (fun G C hG hC => ?_)
  (repeat ((conv => whnf); first | refine ⟨_, by assumption, ?_⟩ | refine ⟨_, _, by assumption, ?_⟩ | refine ⟨(show _ ∧ _ by omega), ?_⟩ | refine ⟨(show _ ∨ _ by omega), ?_⟩ | refine ⟨fun h => absurd h (by decide), fun _ => ?_⟩ | refine ⟨fun _ => ?_, fun h => absurd h (by decide)⟩ | refine ⟨fun _ => ?_, fun h => absurd rfl h⟩ | refine ⟨fun h => absurd rfl h, fun _ => ?_⟩)); try (conv => whnf)
  refine hG _ _ _ _ _ _ ?_
  exact loop (I 362 0).toNat 0 I (by omega) (by omega) Fr.rf (fun u h1 h2 => absurd h2 (by omega))
end
section
/-! the reference: weighs, adds, runs -/
def wt1 (n : aN) (wd sh : Int → Int) (v u : Int) : Int := if nf n u 0 = v then nf n u 2 * wd u + sh u else 0
def mBear (n : aN) (wd sh : Int → Int) (v : Int) : Int := rf (fun u s => s + wt1 n wd sh v u) (if mEnd n v = true then nf n v 4 else 0) (v + 1) (n 0)
def mShow (n : aN) (pl be : Int → Int) (v : Int) : Int := if 0 < pl v then kf n (pl v) 1 else be v
def WtOk (n : aN) (pl wd be sh : Int → Int) : Prop := ∀ v, 0 ≤ v → v < n 0 → be v = mBear n wd sh v ∧ sh v = mShow n pl be v
theorem mBear_cong {n : aN} {wd sh sh' : Int → Int} {v : Int} (h : ∀ w, v < w → w < n 0 → sh' w = sh w) : mBear n wd sh' v = mBear n wd sh v := by
  unfold mBear
  apply rf_cong
  intro u h1 h2 x
  simp only [wt1]
  rw [h u (by omega) h2]
/-- weighs() -/
theorem ok_weighs {P : aP} {d : Nat} {K : aK} {I : aI} {R : aR} {S : aS} (hM : MS R S) (hW : WF (I 362)) (hpl : ∀ v, 0 ≤ v → v < I 362 0 → 0 ≤ I 368 v ∧ I 368 v ≤ 3) (hK : ∀ I', Fr [370, 371] I I' → WtOk (I 362) (I 368) (I 369) (I' 370) (I' 371) → K none I' R S) : Ok P 86 (d + 3) [vr 361] I R S K := by
  obtain ⟨m0, r1, m1, r2, m2, r3, m3, r4, m4, r5, m5, r6, m6, r7, m7, r8, m8, r9, m9, r10, m10, r11, m11, r12, m12, r13, m13, r14, m14, r15, m15⟩ := id hM
  have hN := hW.1
  have outer : ∀ (k : Nat) (v : Int) (I' : aI) (x2 x3 : aV), v + 1 = k → v < I 362 0 → Fr [370, 371] I I' → (∀ u, v < u → u < I 362 0 → I' 370 u = mBear (I 362) (I 369) (I' 371) u ∧ I' 371 u = mShow (I 362) (I 368) (I' 370) u) → Go P 86 (d + 3) K 9 [vr 361, vi v, x2, x3] [] I' R S := by
    intro k
    induction k with
    | zero =>
      intro v I' x2 x3 hk hv hF hE
      refine Go.walk 400 [9, 36] E86 E86_ok (fun G C hG hC => ?_)
      (repeat ((conv => whnf); first | refine ⟨_, by assumption, ?_⟩ | refine ⟨_, _, by assumption, ?_⟩ | refine ⟨(show _ ∧ _ by omega), ?_⟩ | refine ⟨(show _ ∨ _ by omega), ?_⟩ | refine ⟨fun h => absurd h (by decide), fun _ => ?_⟩ | refine ⟨fun _ => ?_, fun h => absurd h (by decide)⟩ | refine ⟨fun _ => ?_, fun h => absurd rfl h⟩ | refine ⟨fun h => absurd rfl h, fun _ => ?_⟩)); try (conv => whnf)
      refine ⟨fun _ => ?_, fun h => absurd (show v < 0 by omega) h⟩
      (repeat ((conv => whnf); first | refine ⟨_, by assumption, ?_⟩ | refine ⟨_, _, by assumption, ?_⟩ | refine ⟨(show _ ∧ _ by omega), ?_⟩ | refine ⟨(show _ ∨ _ by omega), ?_⟩ | refine ⟨fun h => absurd h (by decide), fun _ => ?_⟩ | refine ⟨fun _ => ?_, fun h => absurd h (by decide)⟩ | refine ⟨fun _ => ?_, fun h => absurd rfl h⟩ | refine ⟨fun h => absurd rfl h, fun _ => ?_⟩)); try (conv => whnf)
      exact hK I' hF (fun u h1 h2 => hE u (by omega) h2)
    | succ k ih =>
      intro v I' x2 x3 hk hv hF hE
      have e := hF 362 (by decide)
      have e8 := hF 368 (by decide)
      have e9 := hF 369 (by decide)
      have inner : ∀ (j : Nat) (u sum : Int), v + 1 ≤ u → I 362 0 - u = j → sum = rf (fun u s => s + wt1 (I 362) (I 369) (I' 371) v u) (if mEnd (I 362) v = true then nf (I 362) v 4 else 0) (v + 1) u → Go P 86 (d + 3) K 36 [vr 361, vi v, vi sum, vi u] [] I' R S := by
        intro j
        induction j with
        | zero =>
          intro u sum hu hj hs
          have hb := hpl v (by omega) hv
          have hend : ∀ z, z = mShow (I 362) (I 368) (uI I' 370 v sum 370) v → Go P 86 (d + 3) K 9 [vr 361, vi (v + -1), vi sum, vi u] [] (uI (uI I' 370 v sum) 371 v z) R S := by
            intro z hz
            refine ih (v + -1) _ _ _ (by omega) (by omega) ((hF.put (by decide)).put (by decide)) (fun w h1 h2 => ?_)
            have hc : ∀ x, v ≤ x → mBear (I 362) (I 369) (uI (uI I' 370 v sum) 371 v z 371) x = mBear (I 362) (I 369) (I' 371) x := by
              intro x hx
              apply mBear_cong
              intro y h3 h4
              rw [uI_ne (by omega), uI_ne (by omega)]
            by_cases hw : w = v
            · subst hw
              refine ⟨?_, ?_⟩
              · rw [hc w (by omega), uI_ne (by omega), uI_at, hs, mBear, show I 362 0 = u by omega]
              · rw [uI_at, hz]
                simp only [mShow]
                rw [uI_ne (a := 371) (by omega)]
            · obtain ⟨g1, g2⟩ := hE w (by omega) h2
              refine ⟨?_, ?_⟩
              · rw [hc w (by omega), uI_ne (by omega), uI_ne (by omega)]; exact g1
              · rw [uI_ne (by omega), uI_ne (by omega), g2]
                simp only [mShow]
                rw [uI_ne (a := 371) (by omega), uI_ne (a := 370) (by omega)]
          have e8' : ∀ x, uI I' 370 v sum 368 x = I 368 x := fun x => by rw [uI_ne (by omega), e8]
          have e62 : uI I' 370 v sum 362 = I 362 := by funext x; rw [uI_ne (by omega), e]
          refine Go.walk 400 [9, 36] E86 E86_ok (fun G C hG hC => ?_)
          (repeat ((conv => whnf); first | refine ⟨_, by assumption, ?_⟩ | refine ⟨_, _, by assumption, ?_⟩ | refine ⟨(show _ ∧ _ by omega), ?_⟩ | refine ⟨(show _ ∨ _ by omega), ?_⟩ | refine ⟨fun h => absurd h (by decide), fun _ => ?_⟩ | refine ⟨fun _ => ?_, fun h => absurd h (by decide)⟩ | refine ⟨fun _ => ?_, fun h => absurd rfl h⟩ | refine ⟨fun h => absurd rfl h, fun _ => ?_⟩)); try (conv => whnf)
          rw [e]
          refine ⟨by omega, ?_⟩
          refine ⟨fun _ => ?_, fun h => absurd (show I 362 0 ≤ u by omega) h⟩
          (repeat ((conv => whnf); first | refine ⟨_, by assumption, ?_⟩ | refine ⟨_, _, by assumption, ?_⟩ | refine ⟨(show _ ∧ _ by omega), ?_⟩ | refine ⟨(show _ ∨ _ by omega), ?_⟩ | refine ⟨fun h => absurd h (by decide), fun _ => ?_⟩ | refine ⟨fun _ => ?_, fun h => absurd h (by decide)⟩ | refine ⟨fun _ => ?_, fun h => absurd rfl h⟩ | refine ⟨fun h => absurd rfl h, fun _ => ?_⟩)); try (conv => whnf)
          rw [e8']
          refine ⟨by omega, ?_⟩
          refine ⟨fun h => ?_, fun h => ?_⟩
          · (repeat ((conv => whnf); first | refine ⟨_, by assumption, ?_⟩ | refine ⟨_, _, by assumption, ?_⟩ | refine ⟨(show _ ∧ _ by omega), ?_⟩ | refine ⟨(show _ ∨ _ by omega), ?_⟩ | refine ⟨fun h => absurd h (by decide), fun _ => ?_⟩ | refine ⟨fun _ => ?_, fun h => absurd h (by decide)⟩ | refine ⟨fun _ => ?_, fun h => absurd rfl h⟩ | refine ⟨fun h => absurd rfl h, fun _ => ?_⟩)); try (conv => whnf)
            refine hG _ _ _ _ _ _ ?_
            exact hend sum (by rw [mShow, if_neg (by omega), uI_at])
          · (repeat ((conv => whnf); first | refine ⟨_, by assumption, ?_⟩ | refine ⟨_, _, by assumption, ?_⟩ | refine ⟨(show _ ∧ _ by omega), ?_⟩ | refine ⟨(show _ ∨ _ by omega), ?_⟩ | refine ⟨fun h => absurd h (by decide), fun _ => ?_⟩ | refine ⟨fun _ => ?_, fun h => absurd h (by decide)⟩ | refine ⟨fun _ => ?_, fun h => absurd rfl h⟩ | refine ⟨fun h => absurd rfl h, fun _ => ?_⟩)); try (conv => whnf)
            rw [e8']
            refine hC _ _ _ _ _ _ ?_
            refine ok_ofKind hM (by omega) ?_
            (repeat ((conv => whnf); first | refine ⟨_, by assumption, ?_⟩ | refine ⟨_, _, by assumption, ?_⟩ | refine ⟨(show _ ∧ _ by omega), ?_⟩ | refine ⟨(show _ ∨ _ by omega), ?_⟩ | refine ⟨fun h => absurd h (by decide), fun _ => ?_⟩ | refine ⟨fun _ => ?_, fun h => absurd h (by decide)⟩ | refine ⟨fun _ => ?_, fun h => absurd rfl h⟩ | refine ⟨fun h => absurd rfl h, fun _ => ?_⟩)); try (conv => whnf)
            refine hG _ _ _ _ _ _ ?_
            exact hend _ (by rw [mShow, if_pos (by omega), e62])
        | succ j ihj =>
          intro u sum hu hj hs
          have hb := (hW.2.1 u (by omega) (by omega)).1
          refine Go.walk 400 [9, 36] E86 E86_ok (fun G C hG hC => ?_)
          (repeat ((conv => whnf); first | refine ⟨_, by assumption, ?_⟩ | refine ⟨_, _, by assumption, ?_⟩ | refine ⟨(show _ ∧ _ by omega), ?_⟩ | refine ⟨(show _ ∨ _ by omega), ?_⟩ | refine ⟨fun h => absurd h (by decide), fun _ => ?_⟩ | refine ⟨fun _ => ?_, fun h => absurd h (by decide)⟩ | refine ⟨fun _ => ?_, fun h => absurd rfl h⟩ | refine ⟨fun h => absurd rfl h, fun _ => ?_⟩)); try (conv => whnf)
          rw [e]
          refine ⟨by omega, ?_⟩
          refine ⟨fun h => absurd h (by omega), fun _ => ?_⟩
          (repeat ((conv => whnf); first | refine ⟨_, by assumption, ?_⟩ | refine ⟨_, _, by assumption, ?_⟩ | refine ⟨(show _ ∧ _ by omega), ?_⟩ | refine ⟨(show _ ∨ _ by omega), ?_⟩ | refine ⟨fun h => absurd h (by decide), fun _ => ?_⟩ | refine ⟨fun _ => ?_, fun h => absurd h (by decide)⟩ | refine ⟨fun _ => ?_, fun h => absurd rfl h⟩ | refine ⟨fun h => absurd rfl h, fun _ => ?_⟩)); try (conv => whnf)
          refine hC _ _ _ _ _ _ ?_
          refine ok_of hM (by omega) ?_
          (repeat ((conv => whnf); first | refine ⟨_, by assumption, ?_⟩ | refine ⟨_, _, by assumption, ?_⟩ | refine ⟨(show _ ∧ _ by omega), ?_⟩ | refine ⟨(show _ ∨ _ by omega), ?_⟩ | refine ⟨fun h => absurd h (by decide), fun _ => ?_⟩ | refine ⟨fun _ => ?_, fun h => absurd h (by decide)⟩ | refine ⟨fun _ => ?_, fun h => absurd rfl h⟩ | refine ⟨fun h => absurd rfl h, fun _ => ?_⟩)); try (conv => whnf)
          rw [e]
          refine ⟨by omega, ?_⟩
          refine ⟨fun h => ?_, fun h => ?_⟩
          · (repeat ((conv => whnf); first | refine ⟨_, by assumption, ?_⟩ | refine ⟨_, _, by assumption, ?_⟩ | refine ⟨(show _ ∧ _ by omega), ?_⟩ | refine ⟨(show _ ∨ _ by omega), ?_⟩ | refine ⟨fun h => absurd h (by decide), fun _ => ?_⟩ | refine ⟨fun _ => ?_, fun h => absurd h (by decide)⟩ | refine ⟨fun _ => ?_, fun h => absurd rfl h⟩ | refine ⟨fun h => absurd rfl h, fun _ => ?_⟩)); try (conv => whnf)
            refine hG _ _ _ _ _ _ ?_
            refine ihj (u + 1) (sum + 0) (by omega) (by omega) ?_
            rw [rf_succ hu, ← hs, wt1, if_neg h]
          · (repeat ((conv => whnf); first | refine ⟨_, by assumption, ?_⟩ | refine ⟨_, _, by assumption, ?_⟩ | refine ⟨(show _ ∧ _ by omega), ?_⟩ | refine ⟨(show _ ∨ _ by omega), ?_⟩ | refine ⟨fun h => absurd h (by decide), fun _ => ?_⟩ | refine ⟨fun _ => ?_, fun h => absurd h (by decide)⟩ | refine ⟨fun _ => ?_, fun h => absurd rfl h⟩ | refine ⟨fun h => absurd rfl h, fun _ => ?_⟩)); try (conv => whnf)
            refine hC _ _ _ _ _ _ ?_
            refine ok_of hM (by omega) ?_
            (repeat ((conv => whnf); first | refine ⟨_, by assumption, ?_⟩ | refine ⟨_, _, by assumption, ?_⟩ | refine ⟨(show _ ∧ _ by omega), ?_⟩ | refine ⟨(show _ ∨ _ by omega), ?_⟩ | refine ⟨fun h => absurd h (by decide), fun _ => ?_⟩ | refine ⟨fun _ => ?_, fun h => absurd h (by decide)⟩ | refine ⟨fun _ => ?_, fun h => absurd rfl h⟩ | refine ⟨fun h => absurd rfl h, fun _ => ?_⟩)); try (conv => whnf)
            refine hG _ _ _ _ _ _ ?_
            refine ihj (u + 1) _ (by omega) (by omega) ?_
            rw [rf_succ hu, ← hs, wt1, if_pos h, e, e9]
      refine Go.walk 400 [9, 36] E86 E86_ok (fun G C hG hC => ?_)
      (repeat ((conv => whnf); first | refine ⟨_, by assumption, ?_⟩ | refine ⟨_, _, by assumption, ?_⟩ | refine ⟨(show _ ∧ _ by omega), ?_⟩ | refine ⟨(show _ ∨ _ by omega), ?_⟩ | refine ⟨fun h => absurd h (by decide), fun _ => ?_⟩ | refine ⟨fun _ => ?_, fun h => absurd h (by decide)⟩ | refine ⟨fun _ => ?_, fun h => absurd rfl h⟩ | refine ⟨fun h => absurd rfl h, fun _ => ?_⟩)); try (conv => whnf)
      refine ⟨fun h => absurd h (by omega), fun _ => ?_⟩
      (repeat ((conv => whnf); first | refine ⟨_, by assumption, ?_⟩ | refine ⟨_, _, by assumption, ?_⟩ | refine ⟨(show _ ∧ _ by omega), ?_⟩ | refine ⟨(show _ ∨ _ by omega), ?_⟩ | refine ⟨fun h => absurd h (by decide), fun _ => ?_⟩ | refine ⟨fun _ => ?_, fun h => absurd h (by decide)⟩ | refine ⟨fun _ => ?_, fun h => absurd rfl h⟩ | refine ⟨fun h => absurd rfl h, fun _ => ?_⟩)); try (conv => whnf)
      refine hC _ _ _ _ _ _ ?_
      refine ok_isEnd hM (by rw [e]; exact hW) (by omega) (fun h => ?_) (fun h => ?_)
      · rw [e] at h
        (repeat ((conv => whnf); first | refine ⟨_, by assumption, ?_⟩ | refine ⟨_, _, by assumption, ?_⟩ | refine ⟨(show _ ∧ _ by omega), ?_⟩ | refine ⟨(show _ ∨ _ by omega), ?_⟩ | refine ⟨fun h => absurd h (by decide), fun _ => ?_⟩ | refine ⟨fun _ => ?_, fun h => absurd h (by decide)⟩ | refine ⟨fun _ => ?_, fun h => absurd rfl h⟩ | refine ⟨fun h => absurd rfl h, fun _ => ?_⟩)); try (conv => whnf)
        refine hC _ _ _ _ _ _ ?_
        refine ok_of hM (by omega) ?_
        (repeat ((conv => whnf); first | refine ⟨_, by assumption, ?_⟩ | refine ⟨_, _, by assumption, ?_⟩ | refine ⟨(show _ ∧ _ by omega), ?_⟩ | refine ⟨(show _ ∨ _ by omega), ?_⟩ | refine ⟨fun h => absurd h (by decide), fun _ => ?_⟩ | refine ⟨fun _ => ?_, fun h => absurd h (by decide)⟩ | refine ⟨fun _ => ?_, fun h => absurd rfl h⟩ | refine ⟨fun h => absurd rfl h, fun _ => ?_⟩)); try (conv => whnf)
        refine hG _ _ _ _ _ _ ?_
        refine inner (I 362 0 - (v + 1)).toNat (v + 1) _ (by omega) (by omega) ?_
        rw [rf_nil (by omega), if_pos h, e]
      · rw [e] at h
        (repeat ((conv => whnf); first | refine ⟨_, by assumption, ?_⟩ | refine ⟨_, _, by assumption, ?_⟩ | refine ⟨(show _ ∧ _ by omega), ?_⟩ | refine ⟨(show _ ∨ _ by omega), ?_⟩ | refine ⟨fun h => absurd h (by decide), fun _ => ?_⟩ | refine ⟨fun _ => ?_, fun h => absurd h (by decide)⟩ | refine ⟨fun _ => ?_, fun h => absurd rfl h⟩ | refine ⟨fun h => absurd rfl h, fun _ => ?_⟩)); try (conv => whnf)
        refine hG _ _ _ _ _ _ ?_
        refine inner (I 362 0 - (v + 1)).toNat (v + 1) 0 (by omega) (by omega) ?_
        rw [rf_nil (by omega), h]; rfl
  refine Ok.of (by decide) rfl (Nat.le_of_ble_eq_true rfl) ?_
  refine Go.walk 400 [9, 36] E86 E86_ok (fun G C hG hC => ?_)
  (repeat ((conv => whnf); first | refine ⟨_, by assumption, ?_⟩ | refine ⟨_, _, by assumption, ?_⟩ | refine ⟨(show _ ∧ _ by omega), ?_⟩ | refine ⟨(show _ ∨ _ by omega), ?_⟩ | refine ⟨fun h => absurd h (by decide), fun _ => ?_⟩ | refine ⟨fun _ => ?_, fun h => absurd h (by decide)⟩ | refine ⟨fun _ => ?_, fun h => absurd rfl h⟩ | refine ⟨fun h => absurd rfl h, fun _ => ?_⟩)); try (conv => whnf)
  refine hG _ _ _ _ _ _ ?_
  exact outer (I 362 0).toNat (I 362 0 - 1) I _ _ (by omega) (by omega) Fr.rf (fun u h1 h2 => absurd h2 (by omega))
def mAdd (n : aN) (pl be : Int → Int) (v : Int) : Int := if 0 < pl v then kf n (pl v) 3 + 2 * kf n (pl v) 2 * be v else 0
/-- adds(v) -/
theorem ok_adds {P : aP} {d : Nat} {K : aK} {I : aI} {R : aR} {S : aS} {v : Int} (hM : MS R S) (hv : 0 ≤ v ∧ v < 6) (hpl : 0 ≤ I 368 v ∧ I 368 v ≤ 3) (hK : K (some (vi (mAdd (I 362) (I 368) (I 370) v))) I R S) : Ok P 87 (d + 2) [vr 361, vi v] I R S K := by
  obtain ⟨m0, r1, m1, r2, m2, r3, m3, r4, m4, r5, m5, r6, m6, r7, m7, r8, m8, r9, m9, r10, m10, r11, m11, r12, m12, r13, m13, r14, m14, r15, m15⟩ := id hM
  refine Ok.of (by decide) rfl (Nat.le_of_ble_eq_true rfl) ?_
  refine Go.walk 400 [] E87 E87_ok (fun G C hG hC => ?_)
  (repeat ((conv => whnf); first | refine ⟨_, by assumption, ?_⟩ | refine ⟨_, _, by assumption, ?_⟩ | refine ⟨(show _ ∧ _ by omega), ?_⟩ | refine ⟨(show _ ∨ _ by omega), ?_⟩ | refine ⟨fun h => absurd h (by decide), fun _ => ?_⟩ | refine ⟨fun _ => ?_, fun h => absurd h (by decide)⟩ | refine ⟨fun _ => ?_, fun h => absurd rfl h⟩ | refine ⟨fun h => absurd rfl h, fun _ => ?_⟩)); try (conv => whnf)
  refine ⟨fun h => ?_, fun h => ?_⟩
  · (repeat ((conv => whnf); first | refine ⟨_, by assumption, ?_⟩ | refine ⟨_, _, by assumption, ?_⟩ | refine ⟨(show _ ∧ _ by omega), ?_⟩ | refine ⟨(show _ ∨ _ by omega), ?_⟩ | refine ⟨fun h => absurd h (by decide), fun _ => ?_⟩ | refine ⟨fun _ => ?_, fun h => absurd h (by decide)⟩ | refine ⟨fun _ => ?_, fun h => absurd rfl h⟩ | refine ⟨fun h => absurd rfl h, fun _ => ?_⟩)); try (conv => whnf)
    rw [mAdd, if_neg (by omega)] at hK
    exact hK
  · (repeat ((conv => whnf); first | refine ⟨_, by assumption, ?_⟩ | refine ⟨_, _, by assumption, ?_⟩ | refine ⟨(show _ ∧ _ by omega), ?_⟩ | refine ⟨(show _ ∨ _ by omega), ?_⟩ | refine ⟨fun h => absurd h (by decide), fun _ => ?_⟩ | refine ⟨fun _ => ?_, fun h => absurd h (by decide)⟩ | refine ⟨fun _ => ?_, fun h => absurd rfl h⟩ | refine ⟨fun h => absurd rfl h, fun _ => ?_⟩)); try (conv => whnf)
    refine hC _ _ _ _ _ _ ?_
    refine ok_ofKind hM (by omega) ?_
    (repeat ((conv => whnf); first | refine ⟨_, by assumption, ?_⟩ | refine ⟨_, _, by assumption, ?_⟩ | refine ⟨(show _ ∧ _ by omega), ?_⟩ | refine ⟨(show _ ∨ _ by omega), ?_⟩ | refine ⟨fun h => absurd h (by decide), fun _ => ?_⟩ | refine ⟨fun _ => ?_, fun h => absurd h (by decide)⟩ | refine ⟨fun _ => ?_, fun h => absurd rfl h⟩ | refine ⟨fun h => absurd rfl h, fun _ => ?_⟩)); try (conv => whnf)
    refine hC _ _ _ _ _ _ ?_
    refine ok_ofKind hM (by omega) ?_
    (repeat ((conv => whnf); first | refine ⟨_, by assumption, ?_⟩ | refine ⟨_, _, by assumption, ?_⟩ | refine ⟨(show _ ∧ _ by omega), ?_⟩ | refine ⟨(show _ ∨ _ by omega), ?_⟩ | refine ⟨fun h => absurd h (by decide), fun _ => ?_⟩ | refine ⟨fun _ => ?_, fun h => absurd h (by decide)⟩ | refine ⟨fun _ => ?_, fun h => absurd rfl h⟩ | refine ⟨fun h => absurd rfl h, fun _ => ?_⟩)); try (conv => whnf)
    rw [mAdd, if_pos (by omega)] at hK
    exact hK
end
section
/-! the reference: runs, runsAll, slack, wrong, cost, slackNow -/
theorem bel_up {n : aN} (hW : WF n) {v top : Int} (ht : 0 ≤ top) (h6 : v < 6) (hb : bel n v top = true) (hne : ¬ v = top) : top < v ∧ top ≤ nf n v 0 ∧ nf n v 0 < v ∧ bel n (nf n v 0) top = true := by
  simp only [bel, decide_eq_true_eq] at hb
  have h1 : top < v := by
    by_cases h : top < v
    · exact h
    · rw [climb_id h] at hb; exact absurd hb hne
  rw [climb_up hW ht h6 h1] at hb
  have h2 := (hW.2.1 v (by omega) h6).1.2 (by omega)
  refine ⟨h1, ?_, h2, by simp only [bel, decide_eq_true_eq]; exact hb⟩
  by_cases h : top < nf n v 0
  · omega
  · rw [climb_id h] at hb; omega
theorem bel_self {n : aN} {v : Int} : bel n v v = true := by
  simp only [bel, decide_eq_true_eq]
  exact climb_id (by omega)
def mTm (n : aN) (pl wd be sh tm : Int → Int) (top comes v : Int) : Int := (if v = top then comes else tm (nf n v 0) + nf n v 1 * nf n v 2 + 2 / wd v * nf n v 1 * sh v) + mAdd n pl be v
def mTu (n : aN) (pl tu : Int → Int) (top turn v : Int) : Int := ((if v = top then turn else tu (nf n v 0)) + (if 0 < pl v then kf n (pl v) 5 else 0)) % 2
def TmOk (n : aN) (pl wd be sh tm tu : Int → Int) (top comes turn : Int) : Prop := ∀ v, top ≤ v → v < n 0 → bel n v top = true → tm v = mTm n pl wd be sh tm top comes v ∧ tu v = mTu n pl tu top turn v
theorem mTm_cong {n : aN} {pl wd be sh tm tm' : Int → Int} {top comes v : Int} (h : ¬ v = top → tm' (nf n v 0) = tm (nf n v 0)) : mTm n pl wd be sh tm' top comes v = mTm n pl wd be sh tm top comes v := by
  unfold mTm
  by_cases e : v = top
  · rw [if_pos e, if_pos e]
  · rw [if_neg e, if_neg e, h e]
theorem mTu_cong {n : aN} {pl tu tu' : Int → Int} {top turn v : Int} (h : ¬ v = top → tu' (nf n v 0) = tu (nf n v 0)) : mTu n pl tu' top turn v = mTu n pl tu top turn v := by
  unfold mTu
  by_cases e : v = top
  · rw [if_pos e, if_pos e]
  · rw [if_neg e, if_neg e, h e]
/-- runs(top, comes, turn) -/
theorem ok_runs {P : aP} {d : Nat} {K : aK} {I : aI} {R : aR} {S : aS} {top comes turn : Int} (hM : MS R S) (hW : WF (I 362)) (ht : 0 ≤ top ∧ top < I 362 0) (hturn : 0 ≤ turn ∧ turn ≤ 1) (hpl : ∀ v, 0 ≤ v → v < I 362 0 → 0 ≤ I 368 v ∧ I 368 v ≤ 3) (hwd : ∀ v, 1 ≤ v → v < I 362 0 → 1 ≤ I 369 v ∧ I 369 v ≤ 2)
    (hK : ∀ I', Fr [370, 371, 372, 373] I I' → WtOk (I 362) (I 368) (I 369) (I' 370) (I' 371) → TmOk (I 362) (I 368) (I 369) (I' 370) (I' 371) (I' 372) (I' 373) top comes turn → K none I' R S) : Ok P 88 (d + 4) [vr 361, vi top, vi comes, vi turn] I R S K := by
  obtain ⟨m0, r1, m1, r2, m2, r3, m3, r4, m4, r5, m5, r6, m6, r7, m7, r8, m8, r9, m9, r10, m10, r11, m11, r12, m12, r13, m13, r14, m14, r15, m15⟩ := id hM
  have hN := hW.1
  refine Ok.of (by decide) rfl (Nat.le_of_ble_eq_true rfl) ?_
  refine Go.walk 400 [7] E88 E88_ok (fun G C hG hC => ?_)
  (repeat ((conv => whnf); first | refine ⟨_, by assumption, ?_⟩ | refine ⟨_, _, by assumption, ?_⟩ | refine ⟨(show _ ∧ _ by omega), ?_⟩ | refine ⟨(show _ ∨ _ by omega), ?_⟩ | refine ⟨fun h => absurd h (by decide), fun _ => ?_⟩ | refine ⟨fun _ => ?_, fun h => absurd h (by decide)⟩ | refine ⟨fun _ => ?_, fun h => absurd rfl h⟩ | refine ⟨fun h => absurd rfl h, fun _ => ?_⟩)); try (conv => whnf)
  refine hC _ _ _ _ _ _ ?_
  refine ok_weighs hM hW hpl (fun I1 hF1 hWt => ?_)
  have loop : ∀ (k : Nat) (v : Int) (I' : aI) (x5 x6 x7 : aV), top ≤ v → I 362 0 - v = k → Fr [372, 373] I1 I' → (∀ u, top ≤ u → u < v → bel (I 362) u top = true → I' 372 u = mTm (I 362) (I 368) (I 369) (I1 370) (I1 371) (I' 372) top comes u ∧ I' 373 u = mTu (I 362) (I 368) (I' 373) top turn u ∧ 0 ≤ I' 373 u ∧ I' 373 u ≤ 1) → Go P 88 (d + 4) K 7 [vr 361, vi top, vi comes, vi turn, vi v, x5, x6, x7] [] I' R S := by
    intro k
    induction k with
    | zero =>
      intro v I' x5 x6 x7 hv hk hF hE
      have e : I' 362 = I 362 := by rw [hF 362 (by decide), hF1 362 (by decide)]
      refine Go.walk 400 [7] E88 E88_ok (fun G C hG hC => ?_)
      (repeat ((conv => whnf); first | refine ⟨_, by assumption, ?_⟩ | refine ⟨_, _, by assumption, ?_⟩ | refine ⟨(show _ ∧ _ by omega), ?_⟩ | refine ⟨(show _ ∨ _ by omega), ?_⟩ | refine ⟨fun h => absurd h (by decide), fun _ => ?_⟩ | refine ⟨fun _ => ?_, fun h => absurd h (by decide)⟩ | refine ⟨fun _ => ?_, fun h => absurd rfl h⟩ | refine ⟨fun h => absurd rfl h, fun _ => ?_⟩)); try (conv => whnf)
      rw [e]
      refine ⟨by omega, ?_⟩
      refine ⟨fun _ => ?_, fun h => absurd (show I 362 0 ≤ v by omega) h⟩
      (repeat ((conv => whnf); first | refine ⟨_, by assumption, ?_⟩ | refine ⟨_, _, by assumption, ?_⟩ | refine ⟨(show _ ∧ _ by omega), ?_⟩ | refine ⟨(show _ ∨ _ by omega), ?_⟩ | refine ⟨fun h => absurd h (by decide), fun _ => ?_⟩ | refine ⟨fun _ => ?_, fun h => absurd h (by decide)⟩ | refine ⟨fun _ => ?_, fun h => absurd rfl h⟩ | refine ⟨fun h => absurd rfl h, fun _ => ?_⟩)); try (conv => whnf)
      have e0 := hF 370 (by decide)
      have e1 := hF 371 (by decide)
      refine hK I' (hF1.trans hF (by simp; omega)) (by rw [e0, e1]; exact hWt) ?_
      rw [e0, e1]
      intro u h1 h2 h3
      obtain ⟨g1, g2, -⟩ := hE u h1 (by omega) h3
      exact ⟨g1, g2⟩
    | succ k ih =>
      intro v I' x5 x6 x7 hv hk hF hE
      have e : I' 362 = I 362 := by rw [hF 362 (by decide), hF1 362 (by decide)]
      have e8 : I' 368 = I 368 := by rw [hF 368 (by decide), hF1 368 (by decide)]
      have e9 : I' 369 = I 369 := by rw [hF 369 (by decide), hF1 369 (by decide)]
      have e0 : I' 370 = I1 370 := hF 370 (by decide)
      have e1 : I' 371 = I1 371 := hF 371 (by decide)
      have hb := hW.2.1 v (by omega) (by omega)
      have hp := hpl v (by omega) (by omega)
      refine Go.walk 400 [7] E88 E88_ok (fun G C hG hC => ?_)
      (repeat ((conv => whnf); first | refine ⟨_, by assumption, ?_⟩ | refine ⟨_, _, by assumption, ?_⟩ | refine ⟨(show _ ∧ _ by omega), ?_⟩ | refine ⟨(show _ ∨ _ by omega), ?_⟩ | refine ⟨fun h => absurd h (by decide), fun _ => ?_⟩ | refine ⟨fun _ => ?_, fun h => absurd h (by decide)⟩ | refine ⟨fun _ => ?_, fun h => absurd rfl h⟩ | refine ⟨fun h => absurd rfl h, fun _ => ?_⟩)); try (conv => whnf)
      rw [e]
      refine ⟨by omega, ?_⟩
      refine ⟨fun h => absurd h (by omega), fun _ => ?_⟩
      (repeat ((conv => whnf); first | refine ⟨_, by assumption, ?_⟩ | refine ⟨_, _, by assumption, ?_⟩ | refine ⟨(show _ ∧ _ by omega), ?_⟩ | refine ⟨(show _ ∨ _ by omega), ?_⟩ | refine ⟨fun h => absurd h (by decide), fun _ => ?_⟩ | refine ⟨fun _ => ?_, fun h => absurd h (by decide)⟩ | refine ⟨fun _ => ?_, fun h => absurd rfl h⟩ | refine ⟨fun h => absurd rfl h, fun _ => ?_⟩)); try (conv => whnf)
      refine hC _ _ _ _ _ _ ?_
      refine ok_isBelow hM (by rw [e]; exact hW) (by omega) (by omega) (fun hbel => ?_) (fun hbel => ?_)
      · rw [e] at hbel
        have hend : ∀ (x5 x6 x7 : aV) (z y : Int), z = mTm (I 362) (I 368) (I 369) (I1 370) (I1 371) (I' 372) top comes v → y = mTu (I 362) (I 368) (I' 373) top turn v → 0 ≤ y → y ≤ 1 → Go P 88 (d + 4) K 7 [vr 361, vi top, vi comes, vi turn, vi (v + 1), x5, x6, x7] [] (uI (uI I' 372 v z) 373 v y) R S := by
          intro x5 x6 x7 z y hz hy hy0 hy1
          refine ih (v + 1) _ _ _ _ (by omega) (by omega) ((hF.put (by decide)).put (by decide)) (fun u h1 h2 h3 => ?_)
          have hup : ¬ u = top → nf (I 362) u 0 < u := fun h => (bel_up hW ht.1 (by omega) h3 h).2.2.1
          have c1 : mTm (I 362) (I 368) (I 369) (I1 370) (I1 371) (uI (uI I' 372 v z) 373 v y 372) top comes u = mTm (I 362) (I 368) (I 369) (I1 370) (I1 371) (I' 372) top comes u := mTm_cong (fun h => by have := hup h; rw [uI_ne (by omega), uI_ne (by omega)])
          have c2 : mTu (I 362) (I 368) (uI (uI I' 372 v z) 373 v y 373) top turn u = mTu (I 362) (I 368) (I' 373) top turn u := mTu_cong (fun h => by have := hup h; rw [uI_ne (by omega), uI_ne (by omega)])
          rw [c1, c2]
          by_cases hu : u = v
          · subst hu
            rw [uI_at, uI_ne (by omega), uI_at]
            exact ⟨hz, hy, hy0, hy1⟩
          · rw [uI_ne (by omega), uI_ne (by omega), uI_ne (by omega), uI_ne (by omega)]
            exact hE u h1 (by omega) h3
        have f8 : ∀ z x, uI I' 372 v z 368 x = I 368 x := fun z x => by rw [uI_ne (by omega), e8]
        have f62 : ∀ z, uI I' 372 v z 362 = I 362 := fun z => by funext x; rw [uI_ne (by omega), e]
        have f3 : ∀ z x, uI I' 372 v z 373 x = I' 373 x := fun z x => by rw [uI_ne (by omega)]
        (repeat ((conv => whnf); first | refine ⟨_, by assumption, ?_⟩ | refine ⟨_, _, by assumption, ?_⟩ | refine ⟨(show _ ∧ _ by omega), ?_⟩ | refine ⟨(show _ ∨ _ by omega), ?_⟩ | refine ⟨fun h => absurd h (by decide), fun _ => ?_⟩ | refine ⟨fun _ => ?_, fun h => absurd h (by decide)⟩ | refine ⟨fun _ => ?_, fun h => absurd rfl h⟩ | refine ⟨fun h => absurd rfl h, fun _ => ?_⟩)); try (conv => whnf)
        refine hC _ _ _ _ _ _ ?_
        refine ok_of hM (by omega) ?_
        rw [e]
        (repeat ((conv => whnf); first | refine ⟨_, by assumption, ?_⟩ | refine ⟨_, _, by assumption, ?_⟩ | refine ⟨(show _ ∧ _ by omega), ?_⟩ | refine ⟨(show _ ∨ _ by omega), ?_⟩ | refine ⟨fun h => absurd h (by decide), fun _ => ?_⟩ | refine ⟨fun _ => ?_, fun h => absurd h (by decide)⟩ | refine ⟨fun _ => ?_, fun h => absurd rfl h⟩ | refine ⟨fun h => absurd rfl h, fun _ => ?_⟩)); try (conv => whnf)
        refine ⟨fun hne => ?_, fun heq => ?_⟩
        · have hup := bel_up hW ht.1 (by omega) hbel hne
          have hw := hwd v (by omega) (by omega)
          have hE1 := hE (nf (I 362) v 0) hup.2.1 hup.2.2.1 hup.2.2.2
          have hyb : mTu (I 362) (I 368) (I' 373) top turn v = (I' 373 (nf (I 362) v 0) + (if 0 < I 368 v then kf (I 362) (I 368 v) 5 else 0)) % 2 := by rw [mTu, if_neg hne]
          (repeat ((conv => whnf); first | refine ⟨_, by assumption, ?_⟩ | refine ⟨_, _, by assumption, ?_⟩ | refine ⟨(show _ ∧ _ by omega), ?_⟩ | refine ⟨(show _ ∨ _ by omega), ?_⟩ | refine ⟨fun h => absurd h (by decide), fun _ => ?_⟩ | refine ⟨fun _ => ?_, fun h => absurd h (by decide)⟩ | refine ⟨fun _ => ?_, fun h => absurd rfl h⟩ | refine ⟨fun h => absurd rfl h, fun _ => ?_⟩)); try (conv => whnf)
          refine hC _ _ _ _ _ _ ?_
          refine ok_of hM (by omega) ?_
          rw [e]
          (repeat ((conv => whnf); first | refine ⟨_, by assumption, ?_⟩ | refine ⟨_, _, by assumption, ?_⟩ | refine ⟨(show _ ∧ _ by omega), ?_⟩ | refine ⟨(show _ ∨ _ by omega), ?_⟩ | refine ⟨fun h => absurd h (by decide), fun _ => ?_⟩ | refine ⟨fun _ => ?_, fun h => absurd h (by decide)⟩ | refine ⟨fun _ => ?_, fun h => absurd rfl h⟩ | refine ⟨fun h => absurd rfl h, fun _ => ?_⟩)); try (conv => whnf)
          refine hC _ _ _ _ _ _ ?_
          refine ok_of hM (by omega) ?_
          rw [e]
          (repeat ((conv => whnf); first | refine ⟨_, by assumption, ?_⟩ | refine ⟨_, _, by assumption, ?_⟩ | refine ⟨(show _ ∧ _ by omega), ?_⟩ | refine ⟨(show _ ∨ _ by omega), ?_⟩ | refine ⟨fun h => absurd h (by decide), fun _ => ?_⟩ | refine ⟨fun _ => ?_, fun h => absurd h (by decide)⟩ | refine ⟨fun _ => ?_, fun h => absurd rfl h⟩ | refine ⟨fun h => absurd rfl h, fun _ => ?_⟩)); try (conv => whnf)
          rw [e9]
          refine ⟨by omega, ?_⟩
          (repeat ((conv => whnf); first | refine ⟨_, by assumption, ?_⟩ | refine ⟨_, _, by assumption, ?_⟩ | refine ⟨(show _ ∧ _ by omega), ?_⟩ | refine ⟨(show _ ∨ _ by omega), ?_⟩ | refine ⟨fun h => absurd h (by decide), fun _ => ?_⟩ | refine ⟨fun _ => ?_, fun h => absurd h (by decide)⟩ | refine ⟨fun _ => ?_, fun h => absurd rfl h⟩ | refine ⟨fun h => absurd rfl h, fun _ => ?_⟩)); try (conv => whnf)
          refine hC _ _ _ _ _ _ ?_
          refine ok_of hM (by omega) ?_
          rw [e]
          (repeat ((conv => whnf); first | refine ⟨_, by assumption, ?_⟩ | refine ⟨_, _, by assumption, ?_⟩ | refine ⟨(show _ ∧ _ by omega), ?_⟩ | refine ⟨(show _ ∨ _ by omega), ?_⟩ | refine ⟨fun h => absurd h (by decide), fun _ => ?_⟩ | refine ⟨fun _ => ?_, fun h => absurd h (by decide)⟩ | refine ⟨fun _ => ?_, fun h => absurd rfl h⟩ | refine ⟨fun h => absurd rfl h, fun _ => ?_⟩)); try (conv => whnf)
          refine hC _ _ _ _ _ _ ?_
          refine ok_adds hM (by omega) (by rw [e8]; exact hp) ?_
          rw [e, e8, e0, e1]
          (repeat ((conv => whnf); first | refine ⟨_, by assumption, ?_⟩ | refine ⟨_, _, by assumption, ?_⟩ | refine ⟨(show _ ∧ _ by omega), ?_⟩ | refine ⟨(show _ ∨ _ by omega), ?_⟩ | refine ⟨fun h => absurd h (by decide), fun _ => ?_⟩ | refine ⟨fun _ => ?_, fun h => absurd h (by decide)⟩ | refine ⟨fun _ => ?_, fun h => absurd rfl h⟩ | refine ⟨fun h => absurd rfl h, fun _ => ?_⟩)); try (conv => whnf)
          rw [f8]
          refine ⟨by omega, ?_⟩
          refine ⟨fun h => ?_, fun h => ?_⟩
          · rw [if_neg (by omega)] at hyb
            (repeat ((conv => whnf); first | refine ⟨_, by assumption, ?_⟩ | refine ⟨_, _, by assumption, ?_⟩ | refine ⟨(show _ ∧ _ by omega), ?_⟩ | refine ⟨(show _ ∨ _ by omega), ?_⟩ | refine ⟨fun h => absurd h (by decide), fun _ => ?_⟩ | refine ⟨fun _ => ?_, fun h => absurd h (by decide)⟩ | refine ⟨fun _ => ?_, fun h => absurd rfl h⟩ | refine ⟨fun h => absurd rfl h, fun _ => ?_⟩)); try (conv => whnf)
            refine ⟨fun _ => ?_, fun h2 => absurd h2 hne⟩
            (repeat ((conv => whnf); first | refine ⟨_, by assumption, ?_⟩ | refine ⟨_, _, by assumption, ?_⟩ | refine ⟨(show _ ∧ _ by omega), ?_⟩ | refine ⟨(show _ ∨ _ by omega), ?_⟩ | refine ⟨fun h => absurd h (by decide), fun _ => ?_⟩ | refine ⟨fun _ => ?_, fun h => absurd h (by decide)⟩ | refine ⟨fun _ => ?_, fun h => absurd rfl h⟩ | refine ⟨fun h => absurd rfl h, fun _ => ?_⟩)); try (conv => whnf)
            rw [f3]
            refine ⟨by omega, ?_⟩
            (repeat ((conv => whnf); first | refine ⟨_, by assumption, ?_⟩ | refine ⟨_, _, by assumption, ?_⟩ | refine ⟨(show _ ∧ _ by omega), ?_⟩ | refine ⟨(show _ ∨ _ by omega), ?_⟩ | refine ⟨fun h => absurd h (by decide), fun _ => ?_⟩ | refine ⟨fun _ => ?_, fun h => absurd h (by decide)⟩ | refine ⟨fun _ => ?_, fun h => absurd rfl h⟩ | refine ⟨fun h => absurd rfl h, fun _ => ?_⟩)); try (conv => whnf)
            refine hG _ _ _ _ _ _ ?_
            refine hend _ _ _ _ _ (by rw [mTm, if_neg hne]) (by rw [hyb]) (by omega) (by omega)
          · rw [if_pos (by omega)] at hyb
            have hk5 := (hW.2.2.2.2.2 (I 368 v) (by omega) (by omega)).2.2.2.2.2
            (repeat ((conv => whnf); first | refine ⟨_, by assumption, ?_⟩ | refine ⟨_, _, by assumption, ?_⟩ | refine ⟨(show _ ∧ _ by omega), ?_⟩ | refine ⟨(show _ ∨ _ by omega), ?_⟩ | refine ⟨fun h => absurd h (by decide), fun _ => ?_⟩ | refine ⟨fun _ => ?_, fun h => absurd h (by decide)⟩ | refine ⟨fun _ => ?_, fun h => absurd rfl h⟩ | refine ⟨fun h => absurd rfl h, fun _ => ?_⟩)); try (conv => whnf)
            rw [f8]
            refine hC _ _ _ _ _ _ ?_
            refine ok_ofKind hM (by omega) ?_
            rw [f62]
            (repeat ((conv => whnf); first | refine ⟨_, by assumption, ?_⟩ | refine ⟨_, _, by assumption, ?_⟩ | refine ⟨(show _ ∧ _ by omega), ?_⟩ | refine ⟨(show _ ∨ _ by omega), ?_⟩ | refine ⟨fun h => absurd h (by decide), fun _ => ?_⟩ | refine ⟨fun _ => ?_, fun h => absurd h (by decide)⟩ | refine ⟨fun _ => ?_, fun h => absurd rfl h⟩ | refine ⟨fun h => absurd rfl h, fun _ => ?_⟩)); try (conv => whnf)
            refine ⟨fun _ => ?_, fun h2 => absurd h2 hne⟩
            (repeat ((conv => whnf); first | refine ⟨_, by assumption, ?_⟩ | refine ⟨_, _, by assumption, ?_⟩ | refine ⟨(show _ ∧ _ by omega), ?_⟩ | refine ⟨(show _ ∨ _ by omega), ?_⟩ | refine ⟨fun h => absurd h (by decide), fun _ => ?_⟩ | refine ⟨fun _ => ?_, fun h => absurd h (by decide)⟩ | refine ⟨fun _ => ?_, fun h => absurd rfl h⟩ | refine ⟨fun h => absurd rfl h, fun _ => ?_⟩)); try (conv => whnf)
            rw [f3]
            refine ⟨by omega, ?_⟩
            (repeat ((conv => whnf); first | refine ⟨_, by assumption, ?_⟩ | refine ⟨_, _, by assumption, ?_⟩ | refine ⟨(show _ ∧ _ by omega), ?_⟩ | refine ⟨(show _ ∨ _ by omega), ?_⟩ | refine ⟨fun h => absurd h (by decide), fun _ => ?_⟩ | refine ⟨fun _ => ?_, fun h => absurd h (by decide)⟩ | refine ⟨fun _ => ?_, fun h => absurd rfl h⟩ | refine ⟨fun h => absurd rfl h, fun _ => ?_⟩)); try (conv => whnf)
            refine hG _ _ _ _ _ _ ?_
            refine hend _ _ _ _ _ (by rw [mTm, if_neg hne]) (by rw [hyb]) (by omega) (by omega)
        · have hyb : mTu (I 362) (I 368) (I' 373) top turn v = (turn + (if 0 < I 368 v then kf (I 362) (I 368 v) 5 else 0)) % 2 := by rw [mTu, if_pos heq]
          (repeat ((conv => whnf); first | refine ⟨_, by assumption, ?_⟩ | refine ⟨_, _, by assumption, ?_⟩ | refine ⟨(show _ ∧ _ by omega), ?_⟩ | refine ⟨(show _ ∨ _ by omega), ?_⟩ | refine ⟨fun h => absurd h (by decide), fun _ => ?_⟩ | refine ⟨fun _ => ?_, fun h => absurd h (by decide)⟩ | refine ⟨fun _ => ?_, fun h => absurd rfl h⟩ | refine ⟨fun h => absurd rfl h, fun _ => ?_⟩)); try (conv => whnf)
          refine hC _ _ _ _ _ _ ?_
          refine ok_adds hM (by omega) (by rw [e8]; exact hp) ?_
          rw [e, e8, e0]
          (repeat ((conv => whnf); first | refine ⟨_, by assumption, ?_⟩ | refine ⟨_, _, by assumption, ?_⟩ | refine ⟨(show _ ∧ _ by omega), ?_⟩ | refine ⟨(show _ ∨ _ by omega), ?_⟩ | refine ⟨fun h => absurd h (by decide), fun _ => ?_⟩ | refine ⟨fun _ => ?_, fun h => absurd h (by decide)⟩ | refine ⟨fun _ => ?_, fun h => absurd rfl h⟩ | refine ⟨fun h => absurd rfl h, fun _ => ?_⟩)); try (conv => whnf)
          rw [f8]
          refine ⟨by omega, ?_⟩
          refine ⟨fun h => ?_, fun h => ?_⟩
          · rw [if_neg (by omega)] at hyb
            (repeat ((conv => whnf); first | refine ⟨_, by assumption, ?_⟩ | refine ⟨_, _, by assumption, ?_⟩ | refine ⟨(show _ ∧ _ by omega), ?_⟩ | refine ⟨(show _ ∨ _ by omega), ?_⟩ | refine ⟨fun h => absurd h (by decide), fun _ => ?_⟩ | refine ⟨fun _ => ?_, fun h => absurd h (by decide)⟩ | refine ⟨fun _ => ?_, fun h => absurd rfl h⟩ | refine ⟨fun h => absurd rfl h, fun _ => ?_⟩)); try (conv => whnf)
            refine ⟨fun h2 => absurd heq h2, fun _ => ?_⟩
            (repeat ((conv => whnf); first | refine ⟨_, by assumption, ?_⟩ | refine ⟨_, _, by assumption, ?_⟩ | refine ⟨(show _ ∧ _ by omega), ?_⟩ | refine ⟨(show _ ∨ _ by omega), ?_⟩ | refine ⟨fun h => absurd h (by decide), fun _ => ?_⟩ | refine ⟨fun _ => ?_, fun h => absurd h (by decide)⟩ | refine ⟨fun _ => ?_, fun h => absurd rfl h⟩ | refine ⟨fun h => absurd rfl h, fun _ => ?_⟩)); try (conv => whnf)
            refine hG _ _ _ _ _ _ ?_
            refine hend _ _ _ _ _ (by rw [mTm, if_pos heq]) (by rw [hyb]) (by omega) (by omega)
          · rw [if_pos (by omega)] at hyb
            have hk5 := (hW.2.2.2.2.2 (I 368 v) (by omega) (by omega)).2.2.2.2.2
            (repeat ((conv => whnf); first | refine ⟨_, by assumption, ?_⟩ | refine ⟨_, _, by assumption, ?_⟩ | refine ⟨(show _ ∧ _ by omega), ?_⟩ | refine ⟨(show _ ∨ _ by omega), ?_⟩ | refine ⟨fun h => absurd h (by decide), fun _ => ?_⟩ | refine ⟨fun _ => ?_, fun h => absurd h (by decide)⟩ | refine ⟨fun _ => ?_, fun h => absurd rfl h⟩ | refine ⟨fun h => absurd rfl h, fun _ => ?_⟩)); try (conv => whnf)
            rw [f8]
            refine hC _ _ _ _ _ _ ?_
            refine ok_ofKind hM (by omega) ?_
            rw [f62]
            (repeat ((conv => whnf); first | refine ⟨_, by assumption, ?_⟩ | refine ⟨_, _, by assumption, ?_⟩ | refine ⟨(show _ ∧ _ by omega), ?_⟩ | refine ⟨(show _ ∨ _ by omega), ?_⟩ | refine ⟨fun h => absurd h (by decide), fun _ => ?_⟩ | refine ⟨fun _ => ?_, fun h => absurd h (by decide)⟩ | refine ⟨fun _ => ?_, fun h => absurd rfl h⟩ | refine ⟨fun h => absurd rfl h, fun _ => ?_⟩)); try (conv => whnf)
            refine ⟨fun h2 => absurd heq h2, fun _ => ?_⟩
            (repeat ((conv => whnf); first | refine ⟨_, by assumption, ?_⟩ | refine ⟨_, _, by assumption, ?_⟩ | refine ⟨(show _ ∧ _ by omega), ?_⟩ | refine ⟨(show _ ∨ _ by omega), ?_⟩ | refine ⟨fun h => absurd h (by decide), fun _ => ?_⟩ | refine ⟨fun _ => ?_, fun h => absurd h (by decide)⟩ | refine ⟨fun _ => ?_, fun h => absurd rfl h⟩ | refine ⟨fun h => absurd rfl h, fun _ => ?_⟩)); try (conv => whnf)
            refine hG _ _ _ _ _ _ ?_
            refine hend _ _ _ _ _ (by rw [mTm, if_pos heq]) (by rw [hyb]) (by omega) (by omega)
      · rw [e] at hbel
        (repeat ((conv => whnf); first | refine ⟨_, by assumption, ?_⟩ | refine ⟨_, _, by assumption, ?_⟩ | refine ⟨(show _ ∧ _ by omega), ?_⟩ | refine ⟨(show _ ∨ _ by omega), ?_⟩ | refine ⟨fun h => absurd h (by decide), fun _ => ?_⟩ | refine ⟨fun _ => ?_, fun h => absurd h (by decide)⟩ | refine ⟨fun _ => ?_, fun h => absurd rfl h⟩ | refine ⟨fun h => absurd rfl h, fun _ => ?_⟩)); try (conv => whnf)
        refine hG _ _ _ _ _ _ ?_
        refine ih (v + 1) I' _ _ _ (by omega) (by omega) hF (fun u h1 h2 h3 => ?_)
        by_cases hu : u = v
        · subst hu; rw [hbel] at h3; cases h3
        · exact hE u h1 (by omega) h3
  (repeat ((conv => whnf); first | refine ⟨_, by assumption, ?_⟩ | refine ⟨_, _, by assumption, ?_⟩ | refine ⟨(show _ ∧ _ by omega), ?_⟩ | refine ⟨(show _ ∨ _ by omega), ?_⟩ | refine ⟨fun h => absurd h (by decide), fun _ => ?_⟩ | refine ⟨fun _ => ?_, fun h => absurd h (by decide)⟩ | refine ⟨fun _ => ?_, fun h => absurd rfl h⟩ | refine ⟨fun h => absurd rfl h, fun _ => ?_⟩)); try (conv => whnf)
  refine hG _ _ _ _ _ _ ?_
  exact loop (I 362 0 - top).toNat top I1 _ _ _ (by omega) (by omega) Fr.rf (fun u h1 h2 => absurd h2 (by omega))
end
section
/-! what the rows hold, as functions of the net, of what stands where and of the widths -/
def cB (n : aN) (pl wd : Int → Int) : Nat → Int → Int
  | 0, _ => 0
  | f + 1, v => mBear n wd (fun u => mShow n pl (cB n pl wd f) u) v
def bea (n : aN) (pl wd : Int → Int) (v : Int) : Int := cB n pl wd 6 v
def sho (n : aN) (pl wd : Int → Int) (v : Int) : Int := mShow n pl (bea n pl wd) v
theorem wt_cB {n : aN} {pl wd be sh : Int → Int} (h : WtOk n pl wd be sh) : ∀ (f : Nat) (v : Int), 0 ≤ v → v < n 0 → n 0 - v ≤ f → be v = cB n pl wd f v := by
  intro f
  induction f with
  | zero => intro v h0 h1 h2; exact absurd h2 (by omega)
  | succ f ih =>
    intro v h0 h1 h2
    rw [(h v h0 h1).1]
    show _ = mBear n wd _ v
    apply mBear_cong
    intro w h3 h4
    rw [(h w (by omega) h4).2]
    simp only [mShow]
    rw [ih w (by omega) h4 (by omega)]
theorem wt_bea {n : aN} (hn : n 0 ≤ 6) {pl wd be sh : Int → Int} (h : WtOk n pl wd be sh) {v : Int} (h0 : 0 ≤ v) (h1 : v < n 0) : be v = bea n pl wd v ∧ sh v = sho n pl wd v := by
  have e := wt_cB h 6 v h0 h1 (by omega)
  refine ⟨e, ?_⟩
  rw [(h v h0 h1).2]
  simp only [mShow, sho, bea]
  rw [e]
theorem cB_cong {n : aN} {pl wd pl' wd' : Int → Int} : ∀ (f : Nat) (v : Int), 0 ≤ v → (∀ u, v < u → u < n 0 → pl' u = pl u ∧ wd' u = wd u) → cB n pl' wd' f v = cB n pl wd f v := by
  intro f
  induction f with
  | zero => intro v _ _; rfl
  | succ f ih =>
    intro v h0 h
    show mBear n wd' _ v = mBear n wd _ v
    unfold mBear
    apply rf_cong
    intro u h1 h2 x
    have := h u (by omega) h2
    simp only [wt1, mShow]
    rw [this.1, this.2, ih u (by omega) (fun w h3 h4 => h w (by omega) h4)]
theorem bea_cong {n : aN} {pl wd pl' wd' : Int → Int} {v : Int} (h0 : 0 ≤ v) (h : ∀ u, v < u → u < n 0 → pl' u = pl u ∧ wd' u = wd u) : bea n pl' wd' v = bea n pl wd v := cB_cong 6 v h0 h
theorem sho_cong {n : aN} {pl wd pl' wd' : Int → Int} {v : Int} (h0 : 0 ≤ v) (h1 : pl' v = pl v) (h : ∀ u, v < u → u < n 0 → pl' u = pl u ∧ wd' u = wd u) : sho n pl' wd' v = sho n pl wd v := by
  simp only [sho, mShow]
  rw [h1, bea_cong h0 h]
/-- the functions meet the rows' own words -/
theorem cB_any {n : aN} {pl wd : Int → Int} : ∀ (f g : Nat) (v : Int), 0 ≤ v → n 0 - v ≤ f → n 0 - v ≤ g → v < n 0 → cB n pl wd f v = cB n pl wd g v := by
  intro f
  induction f with
  | zero => intro g v h0 h1 h2 h3; exact absurd h1 (by omega)
  | succ f ih =>
    intro g v h0 h1 h2 h3
    obtain ⟨g', rfl⟩ : ∃ g', g = g' + 1 := ⟨g - 1, by omega⟩
    show mBear n wd _ v = mBear n wd _ v
    apply mBear_cong
    intro w h4 h5
    simp only [mShow]
    rw [ih g' w (by omega) (by omega) (by omega) h5]
theorem bea_eq {n : aN} (hn : n 0 ≤ 6) {pl wd : Int → Int} {v : Int} (h0 : 0 ≤ v) (h1 : v < n 0) : bea n pl wd v = mBear n wd (sho n pl wd) v := by
  show mBear n wd (fun u => mShow n pl (cB n pl wd 5) u) v = _
  apply mBear_cong
  intro w h2 h3
  simp only [mShow, sho, bea]
  rw [cB_any 5 6 w (by omega) (by omega) (by omega) h3]
/-! bounds -/
def bd : Nat → Int
  | 0 => 0
  | f + 1 => 9 + f * (18 + 9 + bd f)
theorem bd_nn : ∀ f, 0 ≤ bd f
  | 0 => by decide
  | f + 1 => by
    have := bd_nn f
    have h2 : 0 ≤ (f : Int) * (18 + 9 + bd f) := Int.mul_nonneg (by omega) (by omega)
    show 0 ≤ 9 + (f : Int) * (18 + 9 + bd f)
    omega
theorem cB_bd {n : aN} (hW : WF n) {pl wd : Int → Int} (hpl : ∀ v, 0 ≤ v → v < n 0 → 0 ≤ pl v ∧ pl v ≤ 3) (hwd : ∀ v, 1 ≤ v → v < n 0 → 1 ≤ wd v ∧ wd v ≤ 2) : ∀ (f : Nat) (v : Int), 0 ≤ v → v < n 0 → n 0 - v ≤ f → 0 ≤ cB n pl wd f v ∧ cB n pl wd f v ≤ bd f := by
  intro f
  induction f with
  | zero => intro v h0 h1 h2; exact absurd h2 (by omega)
  | succ f ih =>
    intro v h0 h1 h2
    have hN := hW.1
    have hb := hW.2.1 v h0 (by omega)
    have hbd := bd_nn f
    have key := rf_inv (f := fun u s => s + wt1 n wd (fun u => mShow n pl (cB n pl wd f) u) v u) (a := if mEnd n v = true then nf n v 4 else 0) (lo := v + 1) (fun u s => 0 ≤ s ∧ s ≤ 9 + (u - (v + 1)) * (18 + 9 + bd f)) (by split <;> constructor <;> omega) (n 0 - (v + 1)).toNat (n 0) (by omega) (by
      intro u s h3 h4 h5
      have hu := hW.2.1 u (by omega) (by omega)
      have hpu := hpl u (by omega) h4
      have hwu := hwd u (by omega) h4
      have hc := ih u (by omega) h4 (by omega)
      have hsh : 0 ≤ mShow n pl (cB n pl wd f) u ∧ mShow n pl (cB n pl wd f) u ≤ 9 + bd f := by
        simp only [mShow]
        split
        · have := (hW.2.2.2.2.2 (pl u) (by omega) (by omega)).2.1
          omega
        · omega
      have hcw : 0 ≤ nf n u 2 * wd u ∧ nf n u 2 * wd u ≤ 18 := by
        rcases (show wd u = 1 ∨ wd u = 2 by omega) with e | e <;> rw [e] <;> omega
      have hm : (u + 1 - (v + 1)) * (18 + 9 + bd f) = (u - (v + 1)) * (18 + 9 + bd f) + (18 + 9 + bd f) := by
        rw [show u + 1 - (v + 1) = (u - (v + 1)) + 1 by omega, Int.add_mul, Int.one_mul]
      simp only [wt1]
      split
      · rw [hm]; omega
      · rw [hm]; omega)
    refine ⟨key.1, Int.le_trans key.2 ?_⟩
    show _ ≤ 9 + (f : Int) * (18 + 9 + bd f)
    have : (n 0 - (v + 1)) * (18 + 9 + bd f) ≤ (f : Int) * (18 + 9 + bd f) := Int.mul_le_mul_of_nonneg_right (by omega) (by omega)
    omega
theorem bea_bd {n : aN} (hW : WF n) {pl wd : Int → Int} (hpl : ∀ v, 0 ≤ v → v < n 0 → 0 ≤ pl v ∧ pl v ≤ 3) (hwd : ∀ v, 1 ≤ v → v < n 0 → 1 ≤ wd v ∧ wd v ≤ 2) {v : Int} (h0 : 0 ≤ v) (h1 : v < n 0) : 0 ≤ bea n pl wd v ∧ bea n pl wd v ≤ 15000 ∧ (1 ≤ v → bea n pl wd v ≤ 3000) := by
  have hN := hW.1
  have h6 := cB_bd hW hpl hwd 6 v h0 h1 (by omega)
  have e6 : bd 6 = 11709 := by decide
  have e5 : bd 5 = 2313 := by decide
  refine ⟨h6.1, by show cB n pl wd 6 v ≤ _; omega, fun h => ?_⟩
  have h5 := cB_bd hW hpl hwd 5 v h0 h1 (by omega)
  rw [cB_any 5 6 v h0 (by omega) (by omega) h1] at h5
  show cB n pl wd 6 v ≤ _
  omega
end
section
/-! times and turns as functions; runsAll, slack, wrong, cost, slackNow -/
def cT (n : aN) (pl wd : Int → Int) (top comes : Int) : Nat → Int → Int
  | 0, _ => 0
  | f + 1, v => mTm n pl wd (bea n pl wd) (sho n pl wd) (cT n pl wd top comes f) top comes v
def cU (n : aN) (pl : Int → Int) (top turn : Int) : Nat → Int → Int
  | 0, _ => 0
  | f + 1, v => mTu n pl (cU n pl top turn f) top turn v
def tim (n : aN) (pl wd : Int → Int) (top comes v : Int) : Int := cT n pl wd top comes 6 v
def tur (n : aN) (pl : Int → Int) (top turn v : Int) : Int := cU n pl top turn 6 v
theorem tm_cT {n : aN} (hW : WF n) {pl wd be sh tm tu : Int → Int} {top comes turn : Int} (ht : 0 ≤ top) (hw : WtOk n pl wd be sh) (h : TmOk n pl wd be sh tm tu top comes turn) : ∀ (f : Nat) (v : Int), top ≤ v → v < n 0 → v < f → bel n v top = true → tm v = cT n pl wd top comes f v ∧ tu v = cU n pl top turn f v := by
  intro f
  have hN := hW.1
  induction f with
  | zero => intro v h0 h1 h2; exact absurd h2 (by omega)
  | succ f ih =>
    intro v h0 h1 h2 hb
    obtain ⟨g1, g2⟩ := h v h0 h1 hb
    obtain ⟨w1, w2⟩ := wt_bea hN.2.1 hw (show 0 ≤ v by omega) h1
    by_cases e : v = top
    · refine ⟨?_, ?_⟩
      · rw [g1]
        show _ = mTm n pl wd _ _ _ top comes v
        simp only [mTm, if_pos e, mAdd]
        rw [w1]
      · rw [g2]
        show _ = mTu n pl _ top turn v
        simp only [mTu, if_pos e]
    · have hu := bel_up hW ht (by omega) hb e
      obtain ⟨i1, i2⟩ := ih (nf n v 0) hu.2.1 (by omega) (by omega) hu.2.2.2
      refine ⟨?_, ?_⟩
      · rw [g1]
        show _ = mTm n pl wd _ _ _ top comes v
        simp only [mTm, if_neg e, mAdd]
        rw [w1, w2, i1]
      · rw [g2]
        show _ = mTu n pl _ top turn v
        simp only [mTu, if_neg e]
        rw [i2]
theorem tm_tim {n : aN} (hW : WF n) {pl wd be sh tm tu : Int → Int} {top comes turn : Int} (ht : 0 ≤ top) (hw : WtOk n pl wd be sh) (h : TmOk n pl wd be sh tm tu top comes turn) {v : Int} (h0 : top ≤ v) (h1 : v < n 0) (hb : bel n v top = true) : tm v = tim n pl wd top comes v ∧ tu v = tur n pl top turn v := by
  have hN := hW.1
  exact tm_cT hW ht hw h 6 v h0 h1 (by omega) hb
theorem cU_01 {n : aN} {pl : Int → Int} {top turn : Int} : ∀ (f : Nat) (v : Int), 0 ≤ cU n pl top turn f v ∧ cU n pl top turn f v ≤ 1
  | 0, _ => by show (0 : Int) ≤ 0 ∧ (0 : Int) ≤ 1; omega
  | f + 1, v => by
    show 0 ≤ mTu n pl _ top turn v ∧ mTu n pl _ top turn v ≤ 1
    unfold mTu
    omega
theorem cT_bd {n : aN} (hW : WF n) {pl wd : Int → Int} {top comes : Int} (ht : 0 ≤ top) (hc : 0 ≤ comes ∧ comes ≤ 270000) (hpl : ∀ v, 0 ≤ v → v < n 0 → 0 ≤ pl v ∧ pl v ≤ 3) (hp0 : pl 0 = 0) (hwd : ∀ v, 1 ≤ v → v < n 0 → 1 ≤ wd v ∧ wd v ≤ 2) : ∀ (f : Nat) (v : Int), top ≤ v → v < n 0 → v < f → bel n v top = true → 0 ≤ cT n pl wd top comes f v ∧ cT n pl wd top comes f v ≤ comes + 108180 * (v - top + 1) := by
  intro f
  have hN := hW.1
  induction f with
  | zero => intro v h0 h1 h2; exact absurd h2 (by omega)
  | succ f ih =>
    intro v h0 h1 h2 hb
    have hbe := bea_bd hW hpl hwd (show 0 ≤ v by omega) h1
    have hadd : 0 ≤ mAdd n pl (bea n pl wd) v ∧ mAdd n pl (bea n pl wd) v ≤ 54099 := by
      simp only [mAdd]
      split
      · rename_i hp
        have hv1 : 1 ≤ v := by
          by_cases e : v = 0
          · subst e; omega
          · omega
        have hk := hW.2.2.2.2.2 (pl v) (by omega) (hpl v (by omega) h1).2
        have hm : 0 ≤ 2 * kf n (pl v) 2 * bea n pl wd v ∧ 2 * kf n (pl v) 2 * bea n pl wd v ≤ 18 * 3000 := by
          have := hbe.2.2 hv1
          constructor
          · exact Int.mul_nonneg (by omega) hbe.1
          · exact Int.le_trans (Int.mul_le_mul_of_nonneg_right (show 2 * kf n (pl v) 2 ≤ 18 by omega) hbe.1) (by omega)
        omega
      · omega
    show 0 ≤ mTm n pl wd _ _ _ top comes v ∧ mTm n pl wd _ _ _ top comes v ≤ _
    by_cases e : v = top
    · simp only [mTm, if_pos e]
      omega
    · have hu := bel_up hW ht (by omega) hb e
      have i1 := ih (nf n v 0) hu.2.1 (by omega) (by omega) hu.2.2.2
      have hv := hW.2.1 v (by omega) (by omega)
      have hw := hwd v (by omega) h1
      have hsh : 0 ≤ sho n pl wd v ∧ sho n pl wd v ≤ 3000 := by
        simp only [sho, mShow]
        split
        · rename_i hp
          have hk := (hW.2.2.2.2.2 (pl v) (by omega) (hpl v (by omega) h1).2).2.1
          omega
        · exact ⟨hbe.1, hbe.2.2 (by omega)⟩
      have hrc : 0 ≤ nf n v 1 * nf n v 2 ∧ nf n v 1 * nf n v 2 ≤ 81 := by
        constructor
        · exact Int.mul_nonneg (by omega) (by omega)
        · exact Int.le_trans (Int.mul_le_mul_of_nonneg_right (show nf n v 1 ≤ 9 by omega) (by omega)) (by omega)
      have h2w : 0 ≤ 2 / wd v ∧ 2 / wd v ≤ 2 := by
        rcases (show wd v = 1 ∨ wd v = 2 by omega) with e | e <;> rw [e] <;> decide
      have hr : 0 ≤ 2 / wd v * nf n v 1 ∧ 2 / wd v * nf n v 1 ≤ 18 := by
        constructor
        · exact Int.mul_nonneg (by omega) (by omega)
        · exact Int.le_trans (Int.mul_le_mul_of_nonneg_right h2w.2 (by omega)) (by omega)
      have hrs : 0 ≤ 2 / wd v * nf n v 1 * sho n pl wd v ∧ 2 / wd v * nf n v 1 * sho n pl wd v ≤ 54000 := by
        constructor
        · exact Int.mul_nonneg hr.1 hsh.1
        · exact Int.le_trans (Int.mul_le_mul_of_nonneg_right hr.2 hsh.1) (by omega)
      simp only [mTm, if_neg e]
      omega
theorem tim_bd {n : aN} (hW : WF n) {pl wd : Int → Int} {top comes v : Int} (ht : 0 ≤ top) (hc : 0 ≤ comes ∧ comes ≤ 270000) (hpl : ∀ v, 0 ≤ v → v < n 0 → 0 ≤ pl v ∧ pl v ≤ 3) (hp0 : pl 0 = 0) (hwd : ∀ v, 1 ≤ v → v < n 0 → 1 ≤ wd v ∧ wd v ≤ 2) (h0 : top ≤ v) (h1 : v < n 0) (hb : bel n v top = true) : 0 ≤ tim n pl wd top comes v ∧ tim n pl wd top comes v ≤ 920000 := by
  have hN := hW.1
  have h := cT_bd hW ht hc hpl hp0 hwd 6 v h0 h1 (by omega) hb
  refine ⟨h.1, ?_⟩
  show cT n pl wd top comes 6 v ≤ _
  omega
/-- what runs leaves, told by the functions -/
def Ran (n : aN) (pl wd be sh tm tu : Int → Int) (top comes turn : Int) : Prop := (∀ v, 0 ≤ v → v < n 0 → be v = bea n pl wd v ∧ sh v = sho n pl wd v) ∧ ∀ v, top ≤ v → v < n 0 → bel n v top = true → tm v = tim n pl wd top comes v ∧ tu v = tur n pl top turn v
theorem ok_runs2 {P : aP} {d : Nat} {K : aK} {I : aI} {R : aR} {S : aS} {top comes turn : Int} (hM : MS R S) (hW : WF (I 362)) (ht : 0 ≤ top ∧ top < I 362 0) (hturn : 0 ≤ turn ∧ turn ≤ 1) (hpl : ∀ v, 0 ≤ v → v < I 362 0 → 0 ≤ I 368 v ∧ I 368 v ≤ 3) (hwd : ∀ v, 1 ≤ v → v < I 362 0 → 1 ≤ I 369 v ∧ I 369 v ≤ 2)
    (hK : ∀ I', Fr [370, 371, 372, 373] I I' → Ran (I 362) (I 368) (I 369) (I' 370) (I' 371) (I' 372) (I' 373) top comes turn → K none I' R S) : Ok P 88 (d + 4) [vr 361, vi top, vi comes, vi turn] I R S K :=
  ok_runs hM hW ht hturn hpl hwd (fun I' hF hw h => hK I' hF ⟨fun v h0 h1 => wt_bea hW.1.2.1 hw h0 h1, fun v h0 h1 hb => tm_tim hW ht.1 hw h h0 h1 hb⟩)
/-- runsAll() -/
theorem ok_runsAll {P : aP} {d : Nat} {K : aK} {I : aI} {R : aR} {S : aS} (hM : MS R S) (hW : WF (I 362)) (hpl : ∀ v, 0 ≤ v → v < I 362 0 → 0 ≤ I 368 v ∧ I 368 v ≤ 3) (hwd : ∀ v, 1 ≤ v → v < I 362 0 → 1 ≤ I 369 v ∧ I 369 v ≤ 2)
    (hK : ∀ I', Fr [370, 371, 372, 373] I I' → Ran (I 362) (I 368) (I 369) (I' 370) (I' 371) (I' 372) (I' 373) 0 (2 * I 362 1 * bea (I 362) (I 368) (I 369) 0) 0 → K none I' R S) : Ok P 89 (d + 5) [vr 361] I R S K := by
  obtain ⟨m0, r1, m1, r2, m2, r3, m3, r4, m4, r5, m5, r6, m6, r7, m7, r8, m8, r9, m9, r10, m10, r11, m11, r12, m12, r13, m13, r14, m14, r15, m15⟩ := id hM
  have hN := hW.1
  refine Ok.of (by decide) rfl (Nat.le_of_ble_eq_true rfl) ?_
  refine Go.walk 400 [] E89 E89_ok (fun G C hG hC => ?_)
  (repeat ((conv => whnf); first | refine ⟨_, by assumption, ?_⟩ | refine ⟨_, _, by assumption, ?_⟩ | refine ⟨(show _ ∧ _ by omega), ?_⟩ | refine ⟨(show _ ∨ _ by omega), ?_⟩ | refine ⟨fun h => absurd h (by decide), fun _ => ?_⟩ | refine ⟨fun _ => ?_, fun h => absurd h (by decide)⟩ | refine ⟨fun _ => ?_, fun h => absurd rfl h⟩ | refine ⟨fun h => absurd rfl h, fun _ => ?_⟩)); try (conv => whnf)
  refine hC _ _ _ _ _ _ ?_
  refine ok_weighs hM hW hpl (fun I1 hF1 hWt => ?_)
  have e := hF1 362 (by decide)
  have e8 := hF1 368 (by decide)
  have e9 := hF1 369 (by decide)
  have eb := (wt_bea hN.2.1 hWt (show (0 : Int) ≤ 0 by omega) (by omega)).1
  (repeat ((conv => whnf); first | refine ⟨_, by assumption, ?_⟩ | refine ⟨_, _, by assumption, ?_⟩ | refine ⟨(show _ ∧ _ by omega), ?_⟩ | refine ⟨(show _ ∨ _ by omega), ?_⟩ | refine ⟨fun h => absurd h (by decide), fun _ => ?_⟩ | refine ⟨fun _ => ?_, fun h => absurd h (by decide)⟩ | refine ⟨fun _ => ?_, fun h => absurd rfl h⟩ | refine ⟨fun h => absurd rfl h, fun _ => ?_⟩)); try (conv => whnf)
  refine hC _ _ _ _ _ _ ?_
  rw [e, eb]
  refine ok_runs2 hM (by rw [e]; exact hW) (by rw [e]; omega) (by omega) (by rw [e, e8]; exact hpl) (by rw [e, e9]; exact hwd) (fun I' hF h => ?_)
  rw [e, e8, e9] at h
  (repeat ((conv => whnf); first | refine ⟨_, by assumption, ?_⟩ | refine ⟨_, _, by assumption, ?_⟩ | refine ⟨(show _ ∧ _ by omega), ?_⟩ | refine ⟨(show _ ∨ _ by omega), ?_⟩ | refine ⟨fun h => absurd h (by decide), fun _ => ?_⟩ | refine ⟨fun _ => ?_, fun h => absurd h (by decide)⟩ | refine ⟨fun _ => ?_, fun h => absurd rfl h⟩ | refine ⟨fun h => absurd rfl h, fun _ => ?_⟩)); try (conv => whnf)
  exact hK I' (hF1.trans hF (by simp; omega)) h
def mSlack (n : aN) (tm : Int → Int) (top : Int) : Int := rf (fun v least => if (bel n v top && mEnd n v && decide (nf n v 5 - tm v < least)) = true then nf n v 5 - tm v else least) 900000 1 (n 0)
def mWrong (n : aN) (tu : Int → Int) (top : Int) : Int := rf (fun v set => bOr set (if (bel n v top && mEnd n v && decide (nf n v 6 ≠ tu v)) = true then bShl 1 v else 0)) 0 1 (n 0)
def mCost (n : aN) (pl : Int → Int) (top : Int) : Int := rf (fun v s => s + (if (bel n v top && decide (0 < pl v)) = true then kf n (pl v) 4 else 0)) 0 1 (n 0)
/-- slack(top) -/
theorem ok_slack {P : aP} {d : Nat} {K : aK} {I : aI} {R : aR} {S : aS} {top : Int} (hM : MS R S) (hW : WF (I 362)) (ht : 0 ≤ top ∧ top < 6) (htm : ∀ v, 1 ≤ v → v < I 362 0 → bel (I 362) v top = true → 0 ≤ I 372 v ∧ I 372 v ≤ 920000)
    (hK : K (some (vi (mSlack (I 362) (I 372) top))) I R S) : Ok P 90 (d + 3) [vr 361, vi top] I R S K := by
  obtain ⟨m0, r1, m1, r2, m2, r3, m3, r4, m4, r5, m5, r6, m6, r7, m7, r8, m8, r9, m9, r10, m10, r11, m11, r12, m12, r13, m13, r14, m14, r15, m15⟩ := id hM
  have hN := hW.1
  have loop : ∀ (k : Nat) (v least : Int) (x4 : aV), 1 ≤ v → I 362 0 - v = k → (-920000 ≤ least ∧ least ≤ 900000) → least = rf (fun v least => if (bel (I 362) v top && mEnd (I 362) v && decide (nf (I 362) v 5 - I 372 v < least)) = true then nf (I 362) v 5 - I 372 v else least) 900000 1 v → Go P 90 (d + 3) K 5 [vr 361, vi top, vi least, vi v, x4] [] I R S := by
    intro k
    induction k with
    | zero =>
      intro v least x4 hv hk hb hr
      refine Go.walk 400 [5] E90 E90_ok (fun G C hG hC => ?_)
      (repeat ((conv => whnf); first | refine ⟨_, by assumption, ?_⟩ | refine ⟨_, _, by assumption, ?_⟩ | refine ⟨(show _ ∧ _ by omega), ?_⟩ | refine ⟨(show _ ∨ _ by omega), ?_⟩ | refine ⟨fun h => absurd h (by decide), fun _ => ?_⟩ | refine ⟨fun _ => ?_, fun h => absurd h (by decide)⟩ | refine ⟨fun _ => ?_, fun h => absurd rfl h⟩ | refine ⟨fun h => absurd rfl h, fun _ => ?_⟩)); try (conv => whnf)
      refine ⟨fun _ => ?_, fun h => absurd (show I 362 0 ≤ v by omega) h⟩
      (repeat ((conv => whnf); first | refine ⟨_, by assumption, ?_⟩ | refine ⟨_, _, by assumption, ?_⟩ | refine ⟨(show _ ∧ _ by omega), ?_⟩ | refine ⟨(show _ ∨ _ by omega), ?_⟩ | refine ⟨fun h => absurd h (by decide), fun _ => ?_⟩ | refine ⟨fun _ => ?_, fun h => absurd h (by decide)⟩ | refine ⟨fun _ => ?_, fun h => absurd rfl h⟩ | refine ⟨fun h => absurd rfl h, fun _ => ?_⟩)); try (conv => whnf)
      rw [mSlack, show I 362 0 = v by omega, ← hr] at hK
      exact hK
    | succ k ih =>
      intro v least x4 hv hk hb hr
      have hn := hW.2.1 v (by omega) (by omega)
      refine Go.walk 400 [5] E90 E90_ok (fun G C hG hC => ?_)
      (repeat ((conv => whnf); first | refine ⟨_, by assumption, ?_⟩ | refine ⟨_, _, by assumption, ?_⟩ | refine ⟨(show _ ∧ _ by omega), ?_⟩ | refine ⟨(show _ ∨ _ by omega), ?_⟩ | refine ⟨fun h => absurd h (by decide), fun _ => ?_⟩ | refine ⟨fun _ => ?_, fun h => absurd h (by decide)⟩ | refine ⟨fun _ => ?_, fun h => absurd rfl h⟩ | refine ⟨fun h => absurd rfl h, fun _ => ?_⟩)); try (conv => whnf)
      refine ⟨fun h => absurd h (by omega), fun _ => ?_⟩
      (repeat ((conv => whnf); first | refine ⟨_, by assumption, ?_⟩ | refine ⟨_, _, by assumption, ?_⟩ | refine ⟨(show _ ∧ _ by omega), ?_⟩ | refine ⟨(show _ ∨ _ by omega), ?_⟩ | refine ⟨fun h => absurd h (by decide), fun _ => ?_⟩ | refine ⟨fun _ => ?_, fun h => absurd h (by decide)⟩ | refine ⟨fun _ => ?_, fun h => absurd rfl h⟩ | refine ⟨fun h => absurd rfl h, fun _ => ?_⟩)); try (conv => whnf)
      refine hC _ _ _ _ _ _ ?_
      refine ok_of hM (by omega) ?_
      (repeat ((conv => whnf); first | refine ⟨_, by assumption, ?_⟩ | refine ⟨_, _, by assumption, ?_⟩ | refine ⟨(show _ ∧ _ by omega), ?_⟩ | refine ⟨(show _ ∨ _ by omega), ?_⟩ | refine ⟨fun h => absurd h (by decide), fun _ => ?_⟩ | refine ⟨fun _ => ?_, fun h => absurd h (by decide)⟩ | refine ⟨fun _ => ?_, fun h => absurd rfl h⟩ | refine ⟨fun h => absurd rfl h, fun _ => ?_⟩)); try (conv => whnf)
      refine hC _ _ _ _ _ _ ?_
      refine ok_isBelow hM hW (by omega) (by omega) (fun hbel => ?_) (fun hbel => ?_)
      · have htv := htm v hv (by omega) hbel
        (repeat ((conv => whnf); first | refine ⟨_, by assumption, ?_⟩ | refine ⟨_, _, by assumption, ?_⟩ | refine ⟨(show _ ∧ _ by omega), ?_⟩ | refine ⟨(show _ ∨ _ by omega), ?_⟩ | refine ⟨fun h => absurd h (by decide), fun _ => ?_⟩ | refine ⟨fun _ => ?_, fun h => absurd h (by decide)⟩ | refine ⟨fun _ => ?_, fun h => absurd rfl h⟩ | refine ⟨fun h => absurd rfl h, fun _ => ?_⟩)); try (conv => whnf)
        refine hC _ _ _ _ _ _ ?_
        refine ok_isEnd hM hW (by omega) (fun he => ?_) (fun he => ?_)
        · (repeat ((conv => whnf); first | refine ⟨_, by assumption, ?_⟩ | refine ⟨_, _, by assumption, ?_⟩ | refine ⟨(show _ ∧ _ by omega), ?_⟩ | refine ⟨(show _ ∨ _ by omega), ?_⟩ | refine ⟨fun h => absurd h (by decide), fun _ => ?_⟩ | refine ⟨fun _ => ?_, fun h => absurd h (by decide)⟩ | refine ⟨fun _ => ?_, fun h => absurd rfl h⟩ | refine ⟨fun h => absurd rfl h, fun _ => ?_⟩)); try (conv => whnf)
          refine ⟨fun h => ?_, fun h => ?_⟩
          · (repeat ((conv => whnf); first | refine ⟨_, by assumption, ?_⟩ | refine ⟨_, _, by assumption, ?_⟩ | refine ⟨(show _ ∧ _ by omega), ?_⟩ | refine ⟨(show _ ∨ _ by omega), ?_⟩ | refine ⟨fun h => absurd h (by decide), fun _ => ?_⟩ | refine ⟨fun _ => ?_, fun h => absurd h (by decide)⟩ | refine ⟨fun _ => ?_, fun h => absurd rfl h⟩ | refine ⟨fun h => absurd rfl h, fun _ => ?_⟩)); try (conv => whnf)
            refine hG _ _ _ _ _ _ ?_
            refine ih (v + 1) least _ (by omega) (by omega) hb ?_
            rw [rf_succ hv, ← hr, if_neg (by simp [hbel, he]; omega)]
          · (repeat ((conv => whnf); first | refine ⟨_, by assumption, ?_⟩ | refine ⟨_, _, by assumption, ?_⟩ | refine ⟨(show _ ∧ _ by omega), ?_⟩ | refine ⟨(show _ ∨ _ by omega), ?_⟩ | refine ⟨fun h => absurd h (by decide), fun _ => ?_⟩ | refine ⟨fun _ => ?_, fun h => absurd h (by decide)⟩ | refine ⟨fun _ => ?_, fun h => absurd rfl h⟩ | refine ⟨fun h => absurd rfl h, fun _ => ?_⟩)); try (conv => whnf)
            refine hG _ _ _ _ _ _ ?_
            refine ih (v + 1) _ _ (by omega) (by omega) (by omega) ?_
            rw [rf_succ hv, ← hr, if_pos (by simp [hbel, he]; omega)]
        · (repeat ((conv => whnf); first | refine ⟨_, by assumption, ?_⟩ | refine ⟨_, _, by assumption, ?_⟩ | refine ⟨(show _ ∧ _ by omega), ?_⟩ | refine ⟨(show _ ∨ _ by omega), ?_⟩ | refine ⟨fun h => absurd h (by decide), fun _ => ?_⟩ | refine ⟨fun _ => ?_, fun h => absurd h (by decide)⟩ | refine ⟨fun _ => ?_, fun h => absurd rfl h⟩ | refine ⟨fun h => absurd rfl h, fun _ => ?_⟩)); try (conv => whnf)
          refine hG _ _ _ _ _ _ ?_
          refine ih (v + 1) least _ (by omega) (by omega) hb ?_
          rw [rf_succ hv, ← hr, if_neg (by simp [he])]
      · (repeat ((conv => whnf); first | refine ⟨_, by assumption, ?_⟩ | refine ⟨_, _, by assumption, ?_⟩ | refine ⟨(show _ ∧ _ by omega), ?_⟩ | refine ⟨(show _ ∨ _ by omega), ?_⟩ | refine ⟨fun h => absurd h (by decide), fun _ => ?_⟩ | refine ⟨fun _ => ?_, fun h => absurd h (by decide)⟩ | refine ⟨fun _ => ?_, fun h => absurd rfl h⟩ | refine ⟨fun h => absurd rfl h, fun _ => ?_⟩)); try (conv => whnf)
        refine hG _ _ _ _ _ _ ?_
        refine ih (v + 1) least _ (by omega) (by omega) hb ?_
        rw [rf_succ hv, ← hr, if_neg (by simp [hbel])]
  refine Ok.of (by decide) rfl (Nat.le_of_ble_eq_true rfl) ?_
  refine Go.walk 400 [5] E90 E90_ok (fun G C hG hC => ?_)
  (repeat ((conv => whnf); first | refine ⟨_, by assumption, ?_⟩ | refine ⟨_, _, by assumption, ?_⟩ | refine ⟨(show _ ∧ _ by omega), ?_⟩ | refine ⟨(show _ ∨ _ by omega), ?_⟩ | refine ⟨fun h => absurd h (by decide), fun _ => ?_⟩ | refine ⟨fun _ => ?_, fun h => absurd h (by decide)⟩ | refine ⟨fun _ => ?_, fun h => absurd rfl h⟩ | refine ⟨fun h => absurd rfl h, fun _ => ?_⟩)); try (conv => whnf)
  refine hG _ _ _ _ _ _ ?_
  exact loop (I 362 0 - 1).toNat 1 900000 _ (by omega) (by omega) (by omega) (by rw [rf_nil (by omega)])
/-- wrong(top) -/
theorem ok_wrong {P : aP} {d : Nat} {K : aK} {I : aI} {R : aR} {S : aS} {top : Int} (hM : MS R S) (hW : WF (I 362)) (ht : 0 ≤ top ∧ top < 6) (htu : ∀ v, 1 ≤ v → v < I 362 0 → bel (I 362) v top = true → 0 ≤ I 373 v ∧ I 373 v ≤ 1)
    (hK : K (some (vi (mWrong (I 362) (I 373) top))) I R S) : Ok P 91 (d + 3) [vr 361, vi top] I R S K := by
  obtain ⟨m0, r1, m1, r2, m2, r3, m3, r4, m4, r5, m5, r6, m6, r7, m7, r8, m8, r9, m9, r10, m10, r11, m11, r12, m12, r13, m13, r14, m14, r15, m15⟩ := id hM
  have hN := hW.1
  have loop : ∀ (k : Nat) (v w : Int), 1 ≤ v → I 362 0 - v = k → w = rf (fun v set => bOr set (if (bel (I 362) v top && mEnd (I 362) v && decide (nf (I 362) v 6 ≠ I 373 v)) = true then bShl 1 v else 0)) 0 1 v → Go P 91 (d + 3) K 4 [vr 361, vi top, vi w, vi v] [] I R S := by
    intro k
    induction k with
    | zero =>
      intro v w hv hk hr
      refine Go.walk 400 [4] E91 E91_ok (fun G C hG hC => ?_)
      (repeat ((conv => whnf); first | refine ⟨_, by assumption, ?_⟩ | refine ⟨_, _, by assumption, ?_⟩ | refine ⟨(show _ ∧ _ by omega), ?_⟩ | refine ⟨(show _ ∨ _ by omega), ?_⟩ | refine ⟨fun h => absurd h (by decide), fun _ => ?_⟩ | refine ⟨fun _ => ?_, fun h => absurd h (by decide)⟩ | refine ⟨fun _ => ?_, fun h => absurd rfl h⟩ | refine ⟨fun h => absurd rfl h, fun _ => ?_⟩)); try (conv => whnf)
      refine ⟨fun _ => ?_, fun h => absurd (show I 362 0 ≤ v by omega) h⟩
      (repeat ((conv => whnf); first | refine ⟨_, by assumption, ?_⟩ | refine ⟨_, _, by assumption, ?_⟩ | refine ⟨(show _ ∧ _ by omega), ?_⟩ | refine ⟨(show _ ∨ _ by omega), ?_⟩ | refine ⟨fun h => absurd h (by decide), fun _ => ?_⟩ | refine ⟨fun _ => ?_, fun h => absurd h (by decide)⟩ | refine ⟨fun _ => ?_, fun h => absurd rfl h⟩ | refine ⟨fun h => absurd rfl h, fun _ => ?_⟩)); try (conv => whnf)
      rw [mWrong, show I 362 0 = v by omega, ← hr] at hK
      exact hK
    | succ k ih =>
      intro v w hv hk hr
      have hn := hW.2.1 v (by omega) (by omega)
      refine Go.walk 400 [4] E91 E91_ok (fun G C hG hC => ?_)
      (repeat ((conv => whnf); first | refine ⟨_, by assumption, ?_⟩ | refine ⟨_, _, by assumption, ?_⟩ | refine ⟨(show _ ∧ _ by omega), ?_⟩ | refine ⟨(show _ ∨ _ by omega), ?_⟩ | refine ⟨fun h => absurd h (by decide), fun _ => ?_⟩ | refine ⟨fun _ => ?_, fun h => absurd h (by decide)⟩ | refine ⟨fun _ => ?_, fun h => absurd rfl h⟩ | refine ⟨fun h => absurd rfl h, fun _ => ?_⟩)); try (conv => whnf)
      refine ⟨fun h => absurd h (by omega), fun _ => ?_⟩
      (repeat ((conv => whnf); first | refine ⟨_, by assumption, ?_⟩ | refine ⟨_, _, by assumption, ?_⟩ | refine ⟨(show _ ∧ _ by omega), ?_⟩ | refine ⟨(show _ ∨ _ by omega), ?_⟩ | refine ⟨fun h => absurd h (by decide), fun _ => ?_⟩ | refine ⟨fun _ => ?_, fun h => absurd h (by decide)⟩ | refine ⟨fun _ => ?_, fun h => absurd rfl h⟩ | refine ⟨fun h => absurd rfl h, fun _ => ?_⟩)); try (conv => whnf)
      refine hC _ _ _ _ _ _ ?_
      refine ok_isBelow hM hW (by omega) (by omega) (fun hbel => ?_) (fun hbel => ?_)
      · have htv := htu v hv (by omega) hbel
        (repeat ((conv => whnf); first | refine ⟨_, by assumption, ?_⟩ | refine ⟨_, _, by assumption, ?_⟩ | refine ⟨(show _ ∧ _ by omega), ?_⟩ | refine ⟨(show _ ∨ _ by omega), ?_⟩ | refine ⟨fun h => absurd h (by decide), fun _ => ?_⟩ | refine ⟨fun _ => ?_, fun h => absurd h (by decide)⟩ | refine ⟨fun _ => ?_, fun h => absurd rfl h⟩ | refine ⟨fun h => absurd rfl h, fun _ => ?_⟩)); try (conv => whnf)
        refine hC _ _ _ _ _ _ ?_
        refine ok_isEnd hM hW (by omega) (fun he => ?_) (fun he => ?_)
        · (repeat ((conv => whnf); first | refine ⟨_, by assumption, ?_⟩ | refine ⟨_, _, by assumption, ?_⟩ | refine ⟨(show _ ∧ _ by omega), ?_⟩ | refine ⟨(show _ ∨ _ by omega), ?_⟩ | refine ⟨fun h => absurd h (by decide), fun _ => ?_⟩ | refine ⟨fun _ => ?_, fun h => absurd h (by decide)⟩ | refine ⟨fun _ => ?_, fun h => absurd rfl h⟩ | refine ⟨fun h => absurd rfl h, fun _ => ?_⟩)); try (conv => whnf)
          refine hC _ _ _ _ _ _ ?_
          refine ok_of hM (by omega) ?_
          (repeat ((conv => whnf); first | refine ⟨_, by assumption, ?_⟩ | refine ⟨_, _, by assumption, ?_⟩ | refine ⟨(show _ ∧ _ by omega), ?_⟩ | refine ⟨(show _ ∨ _ by omega), ?_⟩ | refine ⟨fun h => absurd h (by decide), fun _ => ?_⟩ | refine ⟨fun _ => ?_, fun h => absurd h (by decide)⟩ | refine ⟨fun _ => ?_, fun h => absurd rfl h⟩ | refine ⟨fun h => absurd rfl h, fun _ => ?_⟩)); try (conv => whnf)
          refine ⟨fun h => ?_, fun h => ?_⟩
          · (repeat ((conv => whnf); first | refine ⟨_, by assumption, ?_⟩ | refine ⟨_, _, by assumption, ?_⟩ | refine ⟨(show _ ∧ _ by omega), ?_⟩ | refine ⟨(show _ ∨ _ by omega), ?_⟩ | refine ⟨fun h => absurd h (by decide), fun _ => ?_⟩ | refine ⟨fun _ => ?_, fun h => absurd h (by decide)⟩ | refine ⟨fun _ => ?_, fun h => absurd rfl h⟩ | refine ⟨fun h => absurd rfl h, fun _ => ?_⟩)); try (conv => whnf)
            refine hG _ _ _ _ _ _ ?_
            refine ih (v + 1) _ (by omega) (by omega) ?_
            rw [rf_succ hv, ← hr, if_neg (by simp [h])]
          · (repeat ((conv => whnf); first | refine ⟨_, by assumption, ?_⟩ | refine ⟨_, _, by assumption, ?_⟩ | refine ⟨(show _ ∧ _ by omega), ?_⟩ | refine ⟨(show _ ∨ _ by omega), ?_⟩ | refine ⟨fun h => absurd h (by decide), fun _ => ?_⟩ | refine ⟨fun _ => ?_, fun h => absurd h (by decide)⟩ | refine ⟨fun _ => ?_, fun h => absurd rfl h⟩ | refine ⟨fun h => absurd rfl h, fun _ => ?_⟩)); try (conv => whnf)
            refine hG _ _ _ _ _ _ ?_
            refine ih (v + 1) _ (by omega) (by omega) ?_
            rw [rf_succ hv, ← hr, if_pos (by simp [hbel, he, h])]
        · (repeat ((conv => whnf); first | refine ⟨_, by assumption, ?_⟩ | refine ⟨_, _, by assumption, ?_⟩ | refine ⟨(show _ ∧ _ by omega), ?_⟩ | refine ⟨(show _ ∨ _ by omega), ?_⟩ | refine ⟨fun h => absurd h (by decide), fun _ => ?_⟩ | refine ⟨fun _ => ?_, fun h => absurd h (by decide)⟩ | refine ⟨fun _ => ?_, fun h => absurd rfl h⟩ | refine ⟨fun h => absurd rfl h, fun _ => ?_⟩)); try (conv => whnf)
          refine hG _ _ _ _ _ _ ?_
          refine ih (v + 1) _ (by omega) (by omega) ?_
          rw [rf_succ hv, ← hr, if_neg (by simp [he])]
      · (repeat ((conv => whnf); first | refine ⟨_, by assumption, ?_⟩ | refine ⟨_, _, by assumption, ?_⟩ | refine ⟨(show _ ∧ _ by omega), ?_⟩ | refine ⟨(show _ ∨ _ by omega), ?_⟩ | refine ⟨fun h => absurd h (by decide), fun _ => ?_⟩ | refine ⟨fun _ => ?_, fun h => absurd h (by decide)⟩ | refine ⟨fun _ => ?_, fun h => absurd rfl h⟩ | refine ⟨fun h => absurd rfl h, fun _ => ?_⟩)); try (conv => whnf)
        refine hG _ _ _ _ _ _ ?_
        refine ih (v + 1) _ (by omega) (by omega) ?_
        rw [rf_succ hv, ← hr, if_neg (by simp [hbel])]
  refine Ok.of (by decide) rfl (Nat.le_of_ble_eq_true rfl) ?_
  refine Go.walk 400 [4] E91 E91_ok (fun G C hG hC => ?_)
  (repeat ((conv => whnf); first | refine ⟨_, by assumption, ?_⟩ | refine ⟨_, _, by assumption, ?_⟩ | refine ⟨(show _ ∧ _ by omega), ?_⟩ | refine ⟨(show _ ∨ _ by omega), ?_⟩ | refine ⟨fun h => absurd h (by decide), fun _ => ?_⟩ | refine ⟨fun _ => ?_, fun h => absurd h (by decide)⟩ | refine ⟨fun _ => ?_, fun h => absurd rfl h⟩ | refine ⟨fun h => absurd rfl h, fun _ => ?_⟩)); try (conv => whnf)
  refine hG _ _ _ _ _ _ ?_
  exact loop (I 362 0 - 1).toNat 1 0 (by omega) (by omega) (by rw [rf_nil (by omega)])
/-- cost(top) -/
theorem ok_cost {P : aP} {d : Nat} {K : aK} {I : aI} {R : aR} {S : aS} {top : Int} (hM : MS R S) (hW : WF (I 362)) (ht : 0 ≤ top ∧ top < 6) (hpl : ∀ v, 1 ≤ v → v < I 362 0 → 0 ≤ I 368 v ∧ I 368 v ≤ 3)
    (hK : K (some (vi (mCost (I 362) (I 368) top))) I R S) : Ok P 92 (d + 3) [vr 361, vi top] I R S K := by
  obtain ⟨m0, r1, m1, r2, m2, r3, m3, r4, m4, r5, m5, r6, m6, r7, m7, r8, m8, r9, m9, r10, m10, r11, m11, r12, m12, r13, m13, r14, m14, r15, m15⟩ := id hM
  have hN := hW.1
  have loop : ∀ (k : Nat) (v w : Int), 1 ≤ v → I 362 0 - v = k → w = rf (fun v s => s + (if (bel (I 362) v top && decide (0 < I 368 v)) = true then kf (I 362) (I 368 v) 4 else 0)) 0 1 v → Go P 92 (d + 3) K 4 [vr 361, vi top, vi w, vi v] [] I R S := by
    intro k
    induction k with
    | zero =>
      intro v w hv hk hr
      refine Go.walk 400 [4] E92 E92_ok (fun G C hG hC => ?_)
      (repeat ((conv => whnf); first | refine ⟨_, by assumption, ?_⟩ | refine ⟨_, _, by assumption, ?_⟩ | refine ⟨(show _ ∧ _ by omega), ?_⟩ | refine ⟨(show _ ∨ _ by omega), ?_⟩ | refine ⟨fun h => absurd h (by decide), fun _ => ?_⟩ | refine ⟨fun _ => ?_, fun h => absurd h (by decide)⟩ | refine ⟨fun _ => ?_, fun h => absurd rfl h⟩ | refine ⟨fun h => absurd rfl h, fun _ => ?_⟩)); try (conv => whnf)
      refine ⟨fun _ => ?_, fun h => absurd (show I 362 0 ≤ v by omega) h⟩
      (repeat ((conv => whnf); first | refine ⟨_, by assumption, ?_⟩ | refine ⟨_, _, by assumption, ?_⟩ | refine ⟨(show _ ∧ _ by omega), ?_⟩ | refine ⟨(show _ ∨ _ by omega), ?_⟩ | refine ⟨fun h => absurd h (by decide), fun _ => ?_⟩ | refine ⟨fun _ => ?_, fun h => absurd h (by decide)⟩ | refine ⟨fun _ => ?_, fun h => absurd rfl h⟩ | refine ⟨fun h => absurd rfl h, fun _ => ?_⟩)); try (conv => whnf)
      rw [mCost, show I 362 0 = v by omega, ← hr] at hK
      exact hK
    | succ k ih =>
      intro v w hv hk hr
      have hp := hpl v hv (by omega)
      refine Go.walk 400 [4] E92 E92_ok (fun G C hG hC => ?_)
      (repeat ((conv => whnf); first | refine ⟨_, by assumption, ?_⟩ | refine ⟨_, _, by assumption, ?_⟩ | refine ⟨(show _ ∧ _ by omega), ?_⟩ | refine ⟨(show _ ∨ _ by omega), ?_⟩ | refine ⟨fun h => absurd h (by decide), fun _ => ?_⟩ | refine ⟨fun _ => ?_, fun h => absurd h (by decide)⟩ | refine ⟨fun _ => ?_, fun h => absurd rfl h⟩ | refine ⟨fun h => absurd rfl h, fun _ => ?_⟩)); try (conv => whnf)
      refine ⟨fun h => absurd h (by omega), fun _ => ?_⟩
      (repeat ((conv => whnf); first | refine ⟨_, by assumption, ?_⟩ | refine ⟨_, _, by assumption, ?_⟩ | refine ⟨(show _ ∧ _ by omega), ?_⟩ | refine ⟨(show _ ∨ _ by omega), ?_⟩ | refine ⟨fun h => absurd h (by decide), fun _ => ?_⟩ | refine ⟨fun _ => ?_, fun h => absurd h (by decide)⟩ | refine ⟨fun _ => ?_, fun h => absurd rfl h⟩ | refine ⟨fun h => absurd rfl h, fun _ => ?_⟩)); try (conv => whnf)
      refine hC _ _ _ _ _ _ ?_
      refine ok_isBelow hM hW (by omega) (by omega) (fun hbel => ?_) (fun hbel => ?_)
      · (repeat ((conv => whnf); first | refine ⟨_, by assumption, ?_⟩ | refine ⟨_, _, by assumption, ?_⟩ | refine ⟨(show _ ∧ _ by omega), ?_⟩ | refine ⟨(show _ ∨ _ by omega), ?_⟩ | refine ⟨fun h => absurd h (by decide), fun _ => ?_⟩ | refine ⟨fun _ => ?_, fun h => absurd h (by decide)⟩ | refine ⟨fun _ => ?_, fun h => absurd rfl h⟩ | refine ⟨fun h => absurd rfl h, fun _ => ?_⟩)); try (conv => whnf)
        refine ⟨fun h => ?_, fun h => ?_⟩
        · (repeat ((conv => whnf); first | refine ⟨_, by assumption, ?_⟩ | refine ⟨_, _, by assumption, ?_⟩ | refine ⟨(show _ ∧ _ by omega), ?_⟩ | refine ⟨(show _ ∨ _ by omega), ?_⟩ | refine ⟨fun h => absurd h (by decide), fun _ => ?_⟩ | refine ⟨fun _ => ?_, fun h => absurd h (by decide)⟩ | refine ⟨fun _ => ?_, fun h => absurd rfl h⟩ | refine ⟨fun h => absurd rfl h, fun _ => ?_⟩)); try (conv => whnf)
          refine hG _ _ _ _ _ _ ?_
          refine ih (v + 1) _ (by omega) (by omega) ?_
          rw [rf_succ hv, ← hr, if_neg (by simp; omega)]
        · (repeat ((conv => whnf); first | refine ⟨_, by assumption, ?_⟩ | refine ⟨_, _, by assumption, ?_⟩ | refine ⟨(show _ ∧ _ by omega), ?_⟩ | refine ⟨(show _ ∨ _ by omega), ?_⟩ | refine ⟨fun h => absurd h (by decide), fun _ => ?_⟩ | refine ⟨fun _ => ?_, fun h => absurd h (by decide)⟩ | refine ⟨fun _ => ?_, fun h => absurd rfl h⟩ | refine ⟨fun h => absurd rfl h, fun _ => ?_⟩)); try (conv => whnf)
          refine hC _ _ _ _ _ _ ?_
          refine ok_ofKind hM (by omega) ?_
          (repeat ((conv => whnf); first | refine ⟨_, by assumption, ?_⟩ | refine ⟨_, _, by assumption, ?_⟩ | refine ⟨(show _ ∧ _ by omega), ?_⟩ | refine ⟨(show _ ∨ _ by omega), ?_⟩ | refine ⟨fun h => absurd h (by decide), fun _ => ?_⟩ | refine ⟨fun _ => ?_, fun h => absurd h (by decide)⟩ | refine ⟨fun _ => ?_, fun h => absurd rfl h⟩ | refine ⟨fun h => absurd rfl h, fun _ => ?_⟩)); try (conv => whnf)
          refine hG _ _ _ _ _ _ ?_
          refine ih (v + 1) _ (by omega) (by omega) ?_
          rw [rf_succ hv, ← hr, if_pos (by simp [hbel]; omega)]
      · (repeat ((conv => whnf); first | refine ⟨_, by assumption, ?_⟩ | refine ⟨_, _, by assumption, ?_⟩ | refine ⟨(show _ ∧ _ by omega), ?_⟩ | refine ⟨(show _ ∨ _ by omega), ?_⟩ | refine ⟨fun h => absurd h (by decide), fun _ => ?_⟩ | refine ⟨fun _ => ?_, fun h => absurd h (by decide)⟩ | refine ⟨fun _ => ?_, fun h => absurd rfl h⟩ | refine ⟨fun h => absurd rfl h, fun _ => ?_⟩)); try (conv => whnf)
        refine hG _ _ _ _ _ _ ?_
        refine ih (v + 1) _ (by omega) (by omega) ?_
        rw [rf_succ hv, ← hr, if_neg (by simp [hbel])]
  refine Ok.of (by decide) rfl (Nat.le_of_ble_eq_true rfl) ?_
  refine Go.walk 400 [4] E92 E92_ok (fun G C hG hC => ?_)
  (repeat ((conv => whnf); first | refine ⟨_, by assumption, ?_⟩ | refine ⟨_, _, by assumption, ?_⟩ | refine ⟨(show _ ∧ _ by omega), ?_⟩ | refine ⟨(show _ ∨ _ by omega), ?_⟩ | refine ⟨fun h => absurd h (by decide), fun _ => ?_⟩ | refine ⟨fun _ => ?_, fun h => absurd h (by decide)⟩ | refine ⟨fun _ => ?_, fun h => absurd rfl h⟩ | refine ⟨fun h => absurd rfl h, fun _ => ?_⟩)); try (conv => whnf)
  refine hG _ _ _ _ _ _ ?_
  exact loop (I 362 0 - 1).toNat 1 0 (by omega) (by omega) (by rw [rf_nil (by omega)])
end
section
/-! the reference: all of it, from what stands now -/
theorem bel_zero {n : aN} (hW : WF n) : ∀ (k : Nat) (v : Int), 0 ≤ v → v < 6 → v ≤ k → bel n v 0 = true := by
  intro k
  induction k with
  | zero => intro v h0 h1 h2; rw [show v = 0 by omega]; exact bel_self
  | succ k ih =>
    intro v h0 h1 h2
    by_cases e : v = 0
    · rw [e]; exact bel_self
    · have hb := (hW.2.1 v h0 h1).1
      have := ih (nf n v 0) hb.1 (by omega) (by omega)
      simp only [bel, decide_eq_true_eq] at this ⊢
      rw [climb_up hW (by omega) h1 (by omega)]
      exact this
theorem bel0 {n : aN} (hW : WF n) {v : Int} (h0 : 0 ≤ v) (h1 : v < 6) : bel n v 0 = true := bel_zero hW 6 v h0 h1 (by omega)
def pl0 (n : aN) : Int → Int := fun v => nf n v 7
def wd0 (n : aN) : Int → Int := fun v => nf n v 3
def src (n : aN) (pl wd : Int → Int) : Int := 2 * n 1 * bea n pl wd 0
theorem mAdd_cong {n : aN} {pl pl' be be' : Int → Int} {v : Int} (h1 : pl' v = pl v) (h2 : be' v = be v) : mAdd n pl' be' v = mAdd n pl be v := by
  simp only [mAdd]; rw [h1, h2]
theorem cT_cong {n : aN} (hW : WF n) {pl wd pl' wd' : Int → Int} {top comes : Int} (ht : 0 ≤ top) (hp : ∀ u, top ≤ u → u < n 0 → pl' u = pl u) (hw : ∀ u, top < u → u < n 0 → wd' u = wd u) : ∀ (f : Nat) (v : Int), top ≤ v → v < n 0 → bel n v top = true → cT n pl' wd' top comes f v = cT n pl wd top comes f v := by
  intro f
  have hN := hW.1
  induction f with
  | zero => intro v _ _ _; rfl
  | succ f ih =>
    intro v h0 h1 hb
    have hbe : bea n pl' wd' v = bea n pl wd v := bea_cong (by omega) (fun u h3 h4 => ⟨hp u (by omega) h4, hw u (by omega) h4⟩)
    show mTm n pl' wd' _ _ _ top comes v = mTm n pl wd _ _ _ top comes v
    simp only [mTm]
    rw [mAdd_cong (hp v h0 h1) hbe]
    by_cases e : v = top
    · rw [if_pos e, if_pos e]
    · have hu := bel_up hW ht (by omega) hb e
      rw [if_neg e, if_neg e, hw v (by omega) h1, sho_cong (by omega) (hp v h0 h1) (fun u h3 h4 => ⟨hp u (by omega) h4, hw u (by omega) h4⟩), ih (nf n v 0) hu.2.1 (by omega) hu.2.2.2]
theorem cU_cong {n : aN} (hW : WF n) {pl pl' : Int → Int} {top turn : Int} (ht : 0 ≤ top) (hp : ∀ u, top ≤ u → u < n 0 → pl' u = pl u) : ∀ (f : Nat) (v : Int), top ≤ v → v < n 0 → bel n v top = true → cU n pl' top turn f v = cU n pl top turn f v := by
  intro f
  have hN := hW.1
  induction f with
  | zero => intro v _ _ _; rfl
  | succ f ih =>
    intro v h0 h1 hb
    show mTu n pl' _ top turn v = mTu n pl _ top turn v
    simp only [mTu]
    rw [hp v h0 h1]
    by_cases e : v = top
    · rw [if_pos e, if_pos e]
    · have hu := bel_up hW ht (by omega) hb e
      rw [if_neg e, if_neg e, ih (nf n v 0) hu.2.1 (by omega) hu.2.2.2]
/-- what may stand where -/
def PlOk (n : aN) (pl : Int → Int) : Prop := (∀ v, 0 ≤ v → v < n 0 → 0 ≤ pl v ∧ pl v ≤ 3) ∧ pl 0 = 0
def WdOk (n : aN) (wd : Int → Int) : Prop := ∀ v, 1 ≤ v → v < n 0 → 1 ≤ wd v ∧ wd v ≤ 2
theorem pl0_ok {n : aN} (hW : WF n) : PlOk n (pl0 n) := ⟨fun v h0 h1 => (hW.2.1 v h0 (by have := hW.1; omega)).2.2.2.2.2.2.2, hW.2.2.2.2.1⟩
theorem wd0_ok {n : aN} (hW : WF n) : WdOk n (wd0 n) := fun v h0 h1 => ⟨(hW.2.2.1 v h0 h1).1, (hW.2.1 v (by omega) (by have := hW.1; omega)).2.2.2.1.2⟩
theorem src_bd {n : aN} (hW : WF n) {pl wd : Int → Int} (hp : PlOk n pl) (hw : WdOk n wd) : 0 ≤ src n pl wd ∧ src n pl wd ≤ 270000 := by
  have hN := hW.1
  have hb := bea_bd hW hp.1 hw (show (0 : Int) ≤ 0 by omega) (by omega)
  unfold src
  constructor
  · exact Int.mul_nonneg (by omega) hb.1
  · exact Int.le_trans (Int.mul_le_mul_of_nonneg_right (show 2 * n 1 ≤ 18 by omega) hb.1) (by omega)
/-- the rows of the reference, run from the source -/
def AllOk (n : aN) (pl wd : Int → Int) (I : aI) : Prop := ∀ v, 0 ≤ v → v < n 0 → I 370 v = bea n pl wd v ∧ I 371 v = sho n pl wd v ∧ I 372 v = tim n pl wd 0 (src n pl wd) v ∧ I 373 v = tur n pl 0 0 v
theorem ok_runsAll2 {P : aP} {d : Nat} {K : aK} {I : aI} {R : aR} {S : aS} {pl wd : Int → Int} (hM : MS R S) (hW : WF (I 362)) (hp : PlOk (I 362) pl) (hw : WdOk (I 362) wd) (h8 : ∀ v, 0 ≤ v → v < I 362 0 → I 368 v = pl v) (h9 : ∀ v, 1 ≤ v → v < I 362 0 → I 369 v = wd v)
    (hK : ∀ I', Fr [370, 371, 372, 373] I I' → AllOk (I 362) pl wd I' → K none I' R S) : Ok P 89 (d + 5) [vr 361] I R S K := by
  have hN := hW.1
  refine ok_runsAll hM hW (fun v h0 h1 => by rw [h8 v h0 h1]; exact hp.1 v h0 h1) (fun v h0 h1 => by rw [h9 v h0 h1]; exact hw v h0 h1) (fun I' hF h => hK I' hF ?_)
  have hb0 : bea (I 362) (I 368) (I 369) 0 = bea (I 362) pl wd 0 := bea_cong (by omega) (fun u h3 h4 => ⟨h8 u (by omega) h4, h9 u (by omega) h4⟩)
  rw [hb0] at h
  intro v h0 h1
  have hbv := bel0 hW h0 (by omega)
  obtain ⟨g1, g2⟩ := h.1 v h0 h1
  obtain ⟨g3, g4⟩ := h.2 v h0 h1 hbv
  have c1 : bea (I 362) (I 368) (I 369) v = bea (I 362) pl wd v := bea_cong (by omega) (fun u h3 h4 => ⟨h8 u (by omega) h4, h9 u (by omega) h4⟩)
  have c2 : sho (I 362) (I 368) (I 369) v = sho (I 362) pl wd v := sho_cong (by omega) (h8 v h0 h1) (fun u h3 h4 => ⟨h8 u (by omega) h4, h9 u (by omega) h4⟩)
  refine ⟨g1.trans c1, g2.trans c2, g3.trans ?_, g4.trans ?_⟩
  · exact cT_cong hW (by omega) (fun u h3 h4 => h8 u h3 h4) (fun u h3 h4 => h9 u (by omega) h4) 6 v h0 h1 hbv
  · exact cU_cong hW (by omega) (fun u h3 h4 => h8 u h3 h4) 6 v h0 h1 hbv
def sla (n : aN) (pl wd : Int → Int) : Int := mSlack n (tim n pl wd 0 (src n pl wd)) 0
def wro (n : aN) (pl : Int → Int) : Int := mWrong n (tur n pl 0 0) 0
theorem mSlack_cong {n : aN} {tm tm' : Int → Int} {top : Int} (h : ∀ v, 1 ≤ v → v < n 0 → bel n v top = true → tm' v = tm v) : mSlack n tm' top = mSlack n tm top := by
  unfold mSlack
  apply rf_cong
  intro v h1 h2 x
  cases hb : bel n v top with
  | false => simp
  | true => rw [h v h1 h2 hb]
theorem mWrong_cong {n : aN} {tu tu' : Int → Int} {top : Int} (h : ∀ v, 1 ≤ v → v < n 0 → bel n v top = true → tu' v = tu v) : mWrong n tu' top = mWrong n tu top := by
  unfold mWrong
  apply rf_cong
  intro v h1 h2 x
  cases hb : bel n v top with
  | false => simp
  | true => rw [h v h1 h2 hb]
theorem mCost_cong {n : aN} {pl pl' : Int → Int} {top : Int} (h : ∀ v, 1 ≤ v → v < n 0 → bel n v top = true → pl' v = pl v) : mCost n pl' top = mCost n pl top := by
  unfold mCost
  apply rf_cong
  intro v h1 h2 x
  cases hb : bel n v top with
  | false => simp
  | true => rw [h v h1 h2 hb]
theorem ok_slack0 {P : aP} {d : Nat} {K : aK} {I : aI} {R : aR} {S : aS} {n : aN} {pl wd : Int → Int} (hM : MS R S) (hn : I 362 = n) (hW : WF n) (hp : PlOk n pl) (hw : WdOk n wd) (ha : AllOk n pl wd I) (hK : K (some (vi (sla n pl wd))) I R S) : Ok P 90 (d + 3) [vr 361, vi 0] I R S K := by
  subst hn
  have hN := hW.1
  refine ok_slack hM hW (by omega) (fun v h0 h1 hb => ?_) ?_
  · rw [(ha v (by omega) h1).2.2.1]
    exact tim_bd hW (by omega) (src_bd hW hp hw) hp.1 hp.2 hw (by omega) h1 hb
  · rw [mSlack_cong (fun v h0 h1 _ => (ha v (by omega) h1).2.2.1)]
    exact hK
theorem ok_wrong0 {P : aP} {d : Nat} {K : aK} {I : aI} {R : aR} {S : aS} {n : aN} {pl wd : Int → Int} (hM : MS R S) (hn : I 362 = n) (hW : WF n) (ha : AllOk n pl wd I) (hK : K (some (vi (wro n pl))) I R S) : Ok P 91 (d + 3) [vr 361, vi 0] I R S K := by
  subst hn
  have hN := hW.1
  refine ok_wrong hM hW (by omega) (fun v h0 h1 hb => ?_) ?_
  · rw [(ha v (by omega) h1).2.2.2]
    exact cU_01 6 v
  · rw [mWrong_cong (fun v h0 h1 _ => (ha v (by omega) h1).2.2.2)]
    exact hK
theorem ok_cost0 {P : aP} {d : Nat} {K : aK} {I : aI} {R : aR} {S : aS} {n : aN} {pl : Int → Int} (hM : MS R S) (hn : I 362 = n) (hW : WF n) (hp : PlOk n pl) (h8 : ∀ v, 0 ≤ v → v < n 0 → I 368 v = pl v) (hK : K (some (vi (mCost n pl 0))) I R S) : Ok P 92 (d + 3) [vr 361, vi 0] I R S K := by
  subst hn
  have hN := hW.1
  refine ok_cost hM hW (by omega) (fun v h0 h1 => ?_) ?_
  · rw [h8 v (by omega) h1]
    exact hp.1 v (by omega) h1
  · rw [mCost_cong (fun v h0 h1 _ => h8 v (by omega) h1)]
    exact hK
/-- slackNow() -/
theorem ok_slackNow {P : aP} {d : Nat} {K : aK} {I : aI} {R : aR} {S : aS} (hM : MS R S) (hW : WF (I 362)) (hK : ∀ I', Fr [368, 369, 370, 371, 372, 373] I I' → AllOk (I 362) (pl0 (I 362)) (wd0 (I 362)) I' → K (some (vi (sla (I 362) (pl0 (I 362)) (wd0 (I 362))))) I' R S) : Ok P 93 (d + 6) [vr 361] I R S K := by
  obtain ⟨m0, r1, m1, r2, m2, r3, m3, r4, m4, r5, m5, r6, m6, r7, m7, r8, m8, r9, m9, r10, m10, r11, m11, r12, m12, r13, m13, r14, m14, r15, m15⟩ := id hM
  have hN := hW.1
  refine Ok.of (by decide) rfl (Nat.le_of_ble_eq_true rfl) ?_
  refine Go.walk 400 [] E93 E93_ok (fun G C hG hC => ?_)
  (repeat ((conv => whnf); first | refine ⟨_, by assumption, ?_⟩ | refine ⟨_, _, by assumption, ?_⟩ | refine ⟨(show _ ∧ _ by omega), ?_⟩ | refine ⟨(show _ ∨ _ by omega), ?_⟩ | refine ⟨fun h => absurd h (by decide), fun _ => ?_⟩ | refine ⟨fun _ => ?_, fun h => absurd h (by decide)⟩ | refine ⟨fun _ => ?_, fun h => absurd rfl h⟩ | refine ⟨fun h => absurd rfl h, fun _ => ?_⟩)); try (conv => whnf)
  refine hC _ _ _ _ _ _ ?_
  refine ok_asPlaced hM hW (fun I1 hF1 h1 => ?_)
  have e := hF1 362 (by decide)
  (repeat ((conv => whnf); first | refine ⟨_, by assumption, ?_⟩ | refine ⟨_, _, by assumption, ?_⟩ | refine ⟨(show _ ∧ _ by omega), ?_⟩ | refine ⟨(show _ ∨ _ by omega), ?_⟩ | refine ⟨fun h => absurd h (by decide), fun _ => ?_⟩ | refine ⟨fun _ => ?_, fun h => absurd h (by decide)⟩ | refine ⟨fun _ => ?_, fun h => absurd rfl h⟩ | refine ⟨fun h => absurd rfl h, fun _ => ?_⟩)); try (conv => whnf)
  refine hC _ _ _ _ _ _ ?_
  refine ok_runsAll2 (pl := pl0 (I 362)) (wd := wd0 (I 362)) hM (by rw [e]; exact hW) (by rw [e]; exact pl0_ok hW) (by rw [e]; exact wd0_ok hW) (by rw [e]; exact fun v h0 h2 => (h1 v h0 h2).1) (by rw [e]; exact fun v h0 h2 => (h1 v (by omega) h2).2) (fun I2 hF2 h2 => ?_)
  rw [e] at h2
  have e2 : I2 362 = I 362 := by rw [hF2 362 (by decide), e]
  (repeat ((conv => whnf); first | refine ⟨_, by assumption, ?_⟩ | refine ⟨_, _, by assumption, ?_⟩ | refine ⟨(show _ ∧ _ by omega), ?_⟩ | refine ⟨(show _ ∨ _ by omega), ?_⟩ | refine ⟨fun h => absurd h (by decide), fun _ => ?_⟩ | refine ⟨fun _ => ?_, fun h => absurd h (by decide)⟩ | refine ⟨fun _ => ?_, fun h => absurd rfl h⟩ | refine ⟨fun h => absurd rfl h, fun _ => ?_⟩)); try (conv => whnf)
  refine hC _ _ _ _ _ _ ?_
  refine ok_slack0 hM e2 hW (pl0_ok hW) (wd0_ok hW) h2 ?_
  (repeat ((conv => whnf); first | refine ⟨_, by assumption, ?_⟩ | refine ⟨_, _, by assumption, ?_⟩ | refine ⟨(show _ ∧ _ by omega), ?_⟩ | refine ⟨(show _ ∨ _ by omega), ?_⟩ | refine ⟨fun h => absurd h (by decide), fun _ => ?_⟩ | refine ⟨fun _ => ?_, fun h => absurd h (by decide)⟩ | refine ⟨fun _ => ?_, fun h => absurd rfl h⟩ | refine ⟨fun h => absurd rfl h, fun _ => ?_⟩)); try (conv => whnf)
  exact hK I2 (hF1.trans hF2 (by simp; omega)) h2
def mEnds (n : aN) : Int := rf (fun v set => bOr set (if mEnd n v = true then bShl 1 v else 0)) 0 1 (n 0)
/-- ends() -/
theorem ok_mends {P : aP} {d : Nat} {K : aK} {I : aI} {R : aR} {S : aS} (hM : MS R S) (hW : WF (I 362)) (hK : K (some (vi (mEnds (I 362)))) I R S) : Ok P 102 (d + 3) [vr 361] I R S K := by
  obtain ⟨m0, r1, m1, r2, m2, r3, m3, r4, m4, r5, m5, r6, m6, r7, m7, r8, m8, r9, m9, r10, m10, r11, m11, r12, m12, r13, m13, r14, m14, r15, m15⟩ := id hM
  have hN := hW.1
  have loop : ∀ (k : Nat) (v w : Int), 1 ≤ v → I 362 0 - v = k → w = rf (fun v set => bOr set (if mEnd (I 362) v = true then bShl 1 v else 0)) 0 1 v → Go P 102 (d + 3) K 4 [vr 361, vi w, vi v] [] I R S := by
    intro k
    induction k with
    | zero =>
      intro v w hv hk hr
      refine Go.walk 400 [4] E102 E102_ok (fun G C hG hC => ?_)
      (repeat ((conv => whnf); first | refine ⟨_, by assumption, ?_⟩ | refine ⟨_, _, by assumption, ?_⟩ | refine ⟨(show _ ∧ _ by omega), ?_⟩ | refine ⟨(show _ ∨ _ by omega), ?_⟩ | refine ⟨fun h => absurd h (by decide), fun _ => ?_⟩ | refine ⟨fun _ => ?_, fun h => absurd h (by decide)⟩ | refine ⟨fun _ => ?_, fun h => absurd rfl h⟩ | refine ⟨fun h => absurd rfl h, fun _ => ?_⟩)); try (conv => whnf)
      refine ⟨fun _ => ?_, fun h => absurd (show I 362 0 ≤ v by omega) h⟩
      (repeat ((conv => whnf); first | refine ⟨_, by assumption, ?_⟩ | refine ⟨_, _, by assumption, ?_⟩ | refine ⟨(show _ ∧ _ by omega), ?_⟩ | refine ⟨(show _ ∨ _ by omega), ?_⟩ | refine ⟨fun h => absurd h (by decide), fun _ => ?_⟩ | refine ⟨fun _ => ?_, fun h => absurd h (by decide)⟩ | refine ⟨fun _ => ?_, fun h => absurd rfl h⟩ | refine ⟨fun h => absurd rfl h, fun _ => ?_⟩)); try (conv => whnf)
      rw [mEnds, show I 362 0 = v by omega, ← hr] at hK
      exact hK
    | succ k ih =>
      intro v w hv hk hr
      refine Go.walk 400 [4] E102 E102_ok (fun G C hG hC => ?_)
      (repeat ((conv => whnf); first | refine ⟨_, by assumption, ?_⟩ | refine ⟨_, _, by assumption, ?_⟩ | refine ⟨(show _ ∧ _ by omega), ?_⟩ | refine ⟨(show _ ∨ _ by omega), ?_⟩ | refine ⟨fun h => absurd h (by decide), fun _ => ?_⟩ | refine ⟨fun _ => ?_, fun h => absurd h (by decide)⟩ | refine ⟨fun _ => ?_, fun h => absurd rfl h⟩ | refine ⟨fun h => absurd rfl h, fun _ => ?_⟩)); try (conv => whnf)
      refine ⟨fun h => absurd h (by omega), fun _ => ?_⟩
      (repeat ((conv => whnf); first | refine ⟨_, by assumption, ?_⟩ | refine ⟨_, _, by assumption, ?_⟩ | refine ⟨(show _ ∧ _ by omega), ?_⟩ | refine ⟨(show _ ∨ _ by omega), ?_⟩ | refine ⟨fun h => absurd h (by decide), fun _ => ?_⟩ | refine ⟨fun _ => ?_, fun h => absurd h (by decide)⟩ | refine ⟨fun _ => ?_, fun h => absurd rfl h⟩ | refine ⟨fun h => absurd rfl h, fun _ => ?_⟩)); try (conv => whnf)
      refine hC _ _ _ _ _ _ ?_
      refine ok_isEnd hM hW (by omega) (fun he => ?_) (fun he => ?_)
      · (repeat ((conv => whnf); first | refine ⟨_, by assumption, ?_⟩ | refine ⟨_, _, by assumption, ?_⟩ | refine ⟨(show _ ∧ _ by omega), ?_⟩ | refine ⟨(show _ ∨ _ by omega), ?_⟩ | refine ⟨fun h => absurd h (by decide), fun _ => ?_⟩ | refine ⟨fun _ => ?_, fun h => absurd h (by decide)⟩ | refine ⟨fun _ => ?_, fun h => absurd rfl h⟩ | refine ⟨fun h => absurd rfl h, fun _ => ?_⟩)); try (conv => whnf)
        refine hG _ _ _ _ _ _ ?_
        refine ih (v + 1) _ (by omega) (by omega) ?_
        rw [rf_succ hv, ← hr, if_pos he]
      · (repeat ((conv => whnf); first | refine ⟨_, by assumption, ?_⟩ | refine ⟨_, _, by assumption, ?_⟩ | refine ⟨(show _ ∧ _ by omega), ?_⟩ | refine ⟨(show _ ∨ _ by omega), ?_⟩ | refine ⟨fun h => absurd h (by decide), fun _ => ?_⟩ | refine ⟨fun _ => ?_, fun h => absurd h (by decide)⟩ | refine ⟨fun _ => ?_, fun h => absurd rfl h⟩ | refine ⟨fun h => absurd rfl h, fun _ => ?_⟩)); try (conv => whnf)
        refine hG _ _ _ _ _ _ ?_
        refine ih (v + 1) _ (by omega) (by omega) ?_
        rw [rf_succ hv, ← hr, if_neg (by simp [he])]
  refine Ok.of (by decide) rfl (Nat.le_of_ble_eq_true rfl) ?_
  refine Go.walk 400 [4] E102 E102_ok (fun G C hG hC => ?_)
  (repeat ((conv => whnf); first | refine ⟨_, by assumption, ?_⟩ | refine ⟨_, _, by assumption, ?_⟩ | refine ⟨(show _ ∧ _ by omega), ?_⟩ | refine ⟨(show _ ∨ _ by omega), ?_⟩ | refine ⟨fun h => absurd h (by decide), fun _ => ?_⟩ | refine ⟨fun _ => ?_, fun h => absurd h (by decide)⟩ | refine ⟨fun _ => ?_, fun h => absurd rfl h⟩ | refine ⟨fun h => absurd rfl h, fun _ => ?_⟩)); try (conv => whnf)
  refine hG _ _ _ _ _ _ ?_
  exact loop (I 362 0 - 1).toNat 1 0 (by omega) (by omega) (by rw [rf_nil (by omega)])
def isK (n : aN) (k : Int) : Prop := 1 ≤ k ∧ k ≤ 3 ∧ kf n k 0 = 1
def mKinds (n : aN) : Int := bOr (bOr (bOr 0 (if kf n 1 0 = 1 then bShl 1 1 else 0)) (if kf n 2 0 = 1 then bShl 1 2 else 0)) (if kf n 3 0 = 1 then bShl 1 3 else 0)
/-- kindsThere() -/
theorem ok_kindsThere {P : aP} {d : Nat} {K : aK} {I : aI} {R : aR} {S : aS} (hM : MS R S) (hW : WF (I 362)) (hK : K (some (vi (mKinds (I 362)))) I R S) : Ok P 104 (d + 3) [vr 361] I R S K := by
  obtain ⟨m0, r1, m1, r2, m2, r3, m3, r4, m4, r5, m5, r6, m6, r7, m7, r8, m8, r9, m9, r10, m10, r11, m11, r12, m12, r13, m13, r14, m14, r15, m15⟩ := id hM
  have step : ∀ (k w : Int), 1 ≤ k → k ≤ 3 → Go P 104 (d + 3) K 4 [vr 361, vi (bOr w (if kf (I 362) k 0 = 1 then bShl 1 k else 0)), vi (k + 1)] [] I R S → Go P 104 (d + 3) K 4 [vr 361, vi w, vi k] [] I R S := by
    intro k w h1 h2 hg
    refine Go.walk 400 [4] E104 E104_ok (fun G C hG hC => ?_)
    (repeat ((conv => whnf); first | refine ⟨_, by assumption, ?_⟩ | refine ⟨_, _, by assumption, ?_⟩ | refine ⟨(show _ ∧ _ by omega), ?_⟩ | refine ⟨(show _ ∨ _ by omega), ?_⟩ | refine ⟨fun h => absurd h (by decide), fun _ => ?_⟩ | refine ⟨fun _ => ?_, fun h => absurd h (by decide)⟩ | refine ⟨fun _ => ?_, fun h => absurd rfl h⟩ | refine ⟨fun h => absurd rfl h, fun _ => ?_⟩)); try (conv => whnf)
    refine ⟨fun h => absurd h (by omega), fun _ => ?_⟩
    (repeat ((conv => whnf); first | refine ⟨_, by assumption, ?_⟩ | refine ⟨_, _, by assumption, ?_⟩ | refine ⟨(show _ ∧ _ by omega), ?_⟩ | refine ⟨(show _ ∨ _ by omega), ?_⟩ | refine ⟨fun h => absurd h (by decide), fun _ => ?_⟩ | refine ⟨fun _ => ?_, fun h => absurd h (by decide)⟩ | refine ⟨fun _ => ?_, fun h => absurd rfl h⟩ | refine ⟨fun h => absurd rfl h, fun _ => ?_⟩)); try (conv => whnf)
    refine hC _ _ _ _ _ _ ?_
    refine ok_isKind hM (by omega) hW (fun h => ?_) (fun h => ?_)
    · rw [if_pos h.2.2] at hg
      (repeat ((conv => whnf); first | refine ⟨_, by assumption, ?_⟩ | refine ⟨_, _, by assumption, ?_⟩ | refine ⟨(show _ ∧ _ by omega), ?_⟩ | refine ⟨(show _ ∨ _ by omega), ?_⟩ | refine ⟨fun h => absurd h (by decide), fun _ => ?_⟩ | refine ⟨fun _ => ?_, fun h => absurd h (by decide)⟩ | refine ⟨fun _ => ?_, fun h => absurd rfl h⟩ | refine ⟨fun h => absurd rfl h, fun _ => ?_⟩)); try (conv => whnf)
      refine hG _ _ _ _ _ _ ?_
      exact hg
    · rw [if_neg (by omega)] at hg
      (repeat ((conv => whnf); first | refine ⟨_, by assumption, ?_⟩ | refine ⟨_, _, by assumption, ?_⟩ | refine ⟨(show _ ∧ _ by omega), ?_⟩ | refine ⟨(show _ ∨ _ by omega), ?_⟩ | refine ⟨fun h => absurd h (by decide), fun _ => ?_⟩ | refine ⟨fun _ => ?_, fun h => absurd h (by decide)⟩ | refine ⟨fun _ => ?_, fun h => absurd rfl h⟩ | refine ⟨fun h => absurd rfl h, fun _ => ?_⟩)); try (conv => whnf)
      refine hG _ _ _ _ _ _ ?_
      exact hg
  refine Ok.of (by decide) rfl (Nat.le_of_ble_eq_true rfl) ?_
  refine Go.walk 400 [4] E104 E104_ok (fun G C hG hC => ?_)
  (repeat ((conv => whnf); first | refine ⟨_, by assumption, ?_⟩ | refine ⟨_, _, by assumption, ?_⟩ | refine ⟨(show _ ∧ _ by omega), ?_⟩ | refine ⟨(show _ ∨ _ by omega), ?_⟩ | refine ⟨fun h => absurd h (by decide), fun _ => ?_⟩ | refine ⟨fun _ => ?_, fun h => absurd h (by decide)⟩ | refine ⟨fun _ => ?_, fun h => absurd rfl h⟩ | refine ⟨fun h => absurd rfl h, fun _ => ?_⟩)); try (conv => whnf)
  refine hG _ _ _ _ _ _ ?_
  refine step 1 0 (by omega) (by omega) ?_
  refine step 2 _ (by omega) (by omega) ?_
  refine step 3 _ (by omega) (by omega) ?_
  refine Go.walk 400 [] E104 E104_ok (fun G C hG hC => ?_)
  (repeat ((conv => whnf); first | refine ⟨_, by assumption, ?_⟩ | refine ⟨_, _, by assumption, ?_⟩ | refine ⟨(show _ ∧ _ by omega), ?_⟩ | refine ⟨(show _ ∨ _ by omega), ?_⟩ | refine ⟨fun h => absurd h (by decide), fun _ => ?_⟩ | refine ⟨fun _ => ?_, fun h => absurd h (by decide)⟩ | refine ⟨fun _ => ?_, fun h => absurd rfl h⟩ | refine ⟨fun h => absurd rfl h, fun _ => ?_⟩)); try (conv => whnf)
  exact hK
end
section
/-! the reference: isBeaten, meets -/
abbrev aT : Type := Int × Int × Int
def wb (o x : aT) : Bool := decide (o.1 ≤ x.1) && (decide (x.2.1 ≤ o.2.1) && decide (o.2.2 ≤ x.2.2))
theorem wb_iff {o x : aT} : wb o x = true ↔ o.1 ≤ x.1 ∧ x.2.1 ≤ o.2.1 ∧ o.2.2 ≤ x.2.2 := by simp [wb]
def gtl (x t : aT) : Prop := t.1 < x.1 ∨ (x.1 = t.1 ∧ t.2.2 < x.2.2)
def tR (t : aT) : Prop := iR t.1 ∧ iR t.2.1 ∧ iR t.2.2
/-- three rows hold a list of triples -/
def Hd (I : aI) (a b c : Nat) (L : List aT) : Prop := ∀ (i : Nat) (t : aT), L[i]? = some t → I a i = t.1 ∧ I b i = t.2.1 ∧ I c i = t.2.2
theorem ok_isBeaten {P : aP} {d : Nat} {K : aK} {I : aI} {R : aR} {S : aS} {x o : aT} (hx : tR x) (ho : tR o) (h1 : wb o x = true → K (some (vi 1)) I R S) (h0 : wb o x = false → K (some (vi 0)) I R S) : Ok P 95 (d + 1) [vi x.1, vi x.2.1, vi x.2.2, vi o.1, vi o.2.1, vi o.2.2] I R S K := by
  obtain ⟨a1, a2, a3⟩ := hx
  obtain ⟨b1, b2, b3⟩ := ho
  have h0' : ¬ (o.1 ≤ x.1 ∧ x.2.1 ≤ o.2.1 ∧ o.2.2 ≤ x.2.2) → K (some (vi 0)) I R S := fun h => h0 (by cases hc : wb o x with
    | false => rfl
    | true => exact absurd (wb_iff.mp hc) h)
  refine Ok.of (by decide) rfl (Nat.le_of_ble_eq_true rfl) ?_
  refine Go.walk 400 [] E95 E95_ok (fun G C hG hC => ?_)
  (repeat ((conv => whnf); first | refine ⟨_, by assumption, ?_⟩ | refine ⟨_, _, by assumption, ?_⟩ | refine ⟨(show _ ∧ _ by omega), ?_⟩ | refine ⟨(show _ ∨ _ by omega), ?_⟩ | refine ⟨fun h => absurd h (by decide), fun _ => ?_⟩ | refine ⟨fun _ => ?_, fun h => absurd h (by decide)⟩ | refine ⟨fun _ => ?_, fun h => absurd rfl h⟩ | refine ⟨fun h => absurd rfl h, fun _ => ?_⟩)); try (conv => whnf)
  refine ⟨fun h => ?_, fun h => ?_⟩
  · (repeat ((conv => whnf); first | refine ⟨_, by assumption, ?_⟩ | refine ⟨_, _, by assumption, ?_⟩ | refine ⟨(show _ ∧ _ by omega), ?_⟩ | refine ⟨(show _ ∨ _ by omega), ?_⟩ | refine ⟨fun h => absurd h (by decide), fun _ => ?_⟩ | refine ⟨fun _ => ?_, fun h => absurd h (by decide)⟩ | refine ⟨fun _ => ?_, fun h => absurd rfl h⟩ | refine ⟨fun h => absurd rfl h, fun _ => ?_⟩)); try (conv => whnf)
    exact h0' (by omega)
  · (repeat ((conv => whnf); first | refine ⟨_, by assumption, ?_⟩ | refine ⟨_, _, by assumption, ?_⟩ | refine ⟨(show _ ∧ _ by omega), ?_⟩ | refine ⟨(show _ ∨ _ by omega), ?_⟩ | refine ⟨fun h => absurd h (by decide), fun _ => ?_⟩ | refine ⟨fun _ => ?_, fun h => absurd h (by decide)⟩ | refine ⟨fun _ => ?_, fun h => absurd rfl h⟩ | refine ⟨fun h => absurd rfl h, fun _ => ?_⟩)); try (conv => whnf)
    refine ⟨fun h => ?_, fun h => ?_⟩
    · (repeat ((conv => whnf); first | refine ⟨_, by assumption, ?_⟩ | refine ⟨_, _, by assumption, ?_⟩ | refine ⟨(show _ ∧ _ by omega), ?_⟩ | refine ⟨(show _ ∨ _ by omega), ?_⟩ | refine ⟨fun h => absurd h (by decide), fun _ => ?_⟩ | refine ⟨fun _ => ?_, fun h => absurd h (by decide)⟩ | refine ⟨fun _ => ?_, fun h => absurd rfl h⟩ | refine ⟨fun h => absurd rfl h, fun _ => ?_⟩)); try (conv => whnf)
      exact h0' (by omega)
    · (repeat ((conv => whnf); first | refine ⟨_, by assumption, ?_⟩ | refine ⟨_, _, by assumption, ?_⟩ | refine ⟨(show _ ∧ _ by omega), ?_⟩ | refine ⟨(show _ ∨ _ by omega), ?_⟩ | refine ⟨fun h => absurd h (by decide), fun _ => ?_⟩ | refine ⟨fun _ => ?_, fun h => absurd h (by decide)⟩ | refine ⟨fun _ => ?_, fun h => absurd rfl h⟩ | refine ⟨fun h => absurd rfl h, fun _ => ?_⟩)); try (conv => whnf)
      refine ⟨fun h => ?_, fun h => ?_⟩
      · (repeat ((conv => whnf); first | refine ⟨_, by assumption, ?_⟩ | refine ⟨_, _, by assumption, ?_⟩ | refine ⟨(show _ ∧ _ by omega), ?_⟩ | refine ⟨(show _ ∨ _ by omega), ?_⟩ | refine ⟨fun h => absurd h (by decide), fun _ => ?_⟩ | refine ⟨fun _ => ?_, fun h => absurd h (by decide)⟩ | refine ⟨fun _ => ?_, fun h => absurd rfl h⟩ | refine ⟨fun h => absurd rfl h, fun _ => ?_⟩)); try (conv => whnf)
        exact h0' (by omega)
      · (repeat ((conv => whnf); first | refine ⟨_, by assumption, ?_⟩ | refine ⟨_, _, by assumption, ?_⟩ | refine ⟨(show _ ∧ _ by omega), ?_⟩ | refine ⟨(show _ ∨ _ by omega), ?_⟩ | refine ⟨fun h => absurd h (by decide), fun _ => ?_⟩ | refine ⟨fun _ => ?_, fun h => absurd h (by decide)⟩ | refine ⟨fun _ => ?_, fun h => absurd rfl h⟩ | refine ⟨fun h => absurd rfl h, fun _ => ?_⟩)); try (conv => whnf)
        exact h1 (wb_iff.mpr (by omega))
/-- what else of the reference's object and rows stays -/
def MF (L : List Nat) (J : List Int) (I I' : aI) : Prop := (∀ a, a ∉ (361 :: L) → I' a = I a) ∧ ∀ j, j ∉ J → I' 361 j = I 361 j
theorem MF.rf {L : List Nat} {J : List Int} {I : aI} : MF L J I I := ⟨fun _ _ => rfl, fun _ _ => rfl⟩
theorem MF.put {L : List Nat} {J : List Int} {I I' : aI} {a : Nat} {j z : Int} (h : MF L J I I') (ha : a ∈ L) (h361 : a ≠ 361) : MF L J I (uI I' a j z) := by
  refine ⟨fun x hx => ?_, fun k hk => ?_⟩
  · rw [← h.1 x hx]
    funext k
    exact uI_ne (fun e => hx (List.mem_cons_of_mem _ (e.1 ▸ ha)))
  · rw [uI_ne (fun e => h361 e.1.symm)]; exact h.2 k hk
theorem MF.putF {L : List Nat} {J : List Int} {I I' : aI} {j z : Int} (h : MF L J I I') (hj : j ∈ J) : MF L J I (uI I' 361 j z) := by
  refine ⟨fun x hx => ?_, fun k hk => ?_⟩
  · rw [← h.1 x hx]
    funext k
    exact uI_ne (fun e => hx (e.1 ▸ List.mem_cons_self))
  · rw [uI_ne (fun e => hk (by rw [e.2]; exact hj))]; exact h.2 k hk
theorem MF.trans {L L1 L2 : List Nat} {J J1 J2 : List Int} {I I1 I2 : aI} (h : MF L1 J1 I I1) (h2 : MF L2 J2 I1 I2) (hL : ∀ a, a ∈ L1 ∨ a ∈ L2 → a ∈ L) (hJ : ∀ a, a ∈ J1 ∨ a ∈ J2 → a ∈ J) : MF L J I I2 := by
  refine ⟨fun x hx => ?_, fun j hj => ?_⟩
  · have h3 : x ∉ 361 :: L1 := fun q => hx (by rcases List.mem_cons.mp q with q | q; exact q ▸ List.mem_cons_self; exact List.mem_cons_of_mem _ (hL x (Or.inl q)))
    have h4 : x ∉ 361 :: L2 := fun q => hx (by rcases List.mem_cons.mp q with q | q; exact q ▸ List.mem_cons_self; exact List.mem_cons_of_mem _ (hL x (Or.inr q)))
    rw [h2.1 x h4, h.1 x h3]
  · rw [h2.2 j (fun q => hj (hJ j (Or.inr q))), h.2 j (fun q => hj (hJ j (Or.inl q)))]
theorem MF.of {L : List Nat} {J : List Int} {I I' : aI} (h : Fr L I I') (hL : 361 ∉ L) : MF L J I I' := ⟨fun x hx => h x (fun q => hx (List.mem_cons_of_mem _ q)), fun j _ => by rw [h 361 hL]⟩
/-- what meets makes of a list -/
def Mts (L : List aT) (t : aT) (L' : List aT) : Prop := (L.any (fun o => wb o t) = true ∧ L' = L) ∨ (L.any (fun o => wb o t) = false ∧ ∃ A B, L.filter (fun x => !wb t x) = A ++ B ∧ (∀ x ∈ B, gtl x t) ∧ (∀ A' x, A = A' ++ [x] → ¬ gtl x t) ∧ L' = A ++ t :: B)
/-- three rows hold a list from a place on -/
def Ho (I : aI) (k : Int) (L : List aT) : Prop := ∀ (i : Nat) (t : aT), L[i]? = some t → I 374 (k + i) = t.1 ∧ I 375 (k + i) = t.2.1 ∧ I 376 (k + i) = t.2.2
theorem Ho.cons {I : aI} {k : Int} {c : aT} {L : List aT} (h : Ho I k (c :: L)) : (I 374 k = c.1 ∧ I 375 k = c.2.1 ∧ I 376 k = c.2.2) ∧ Ho I (k + 1) L := by
  refine ⟨?_, fun i t ht => ?_⟩
  · have := h 0 c rfl
    rw [show k + ((0 : Nat) : Int) = k by omega] at this
    exact this
  · have := h (i + 1) t ht
    rw [show k + ((i + 1 : Nat) : Int) = k + 1 + (i : Nat) by omega] at this
    exact this
def u3 (I : aI) (k : Int) (t : aT) : aI := uI (uI (uI I 374 k t.1) 375 k t.2.1) 376 k t.2.2
theorem u3_at {I : aI} {k : Int} {t : aT} : u3 I k t 374 k = t.1 ∧ u3 I k t 375 k = t.2.1 ∧ u3 I k t 376 k = t.2.2 := by
  refine ⟨?_, ?_, ?_⟩
  · show uI (uI (uI I 374 k t.1) 375 k t.2.1) 376 k t.2.2 374 k = _
    rw [uI_ne (by omega), uI_ne (by omega), uI_at]
  · show uI (uI (uI I 374 k t.1) 375 k t.2.1) 376 k t.2.2 375 k = _
    rw [uI_ne (by omega), uI_at]
  · exact uI_at
theorem u3_ne {I : aI} {k j : Int} {t : aT} (q : Nat) (h : j ≠ k) : u3 I k t q j = I q j := by
  show uI (uI (uI I 374 k t.1) 375 k t.2.1) 376 k t.2.2 q j = _
  rw [uI_ne (fun e => h e.2), uI_ne (fun e => h e.2), uI_ne (fun e => h e.2)]
theorem Ho.put {I : aI} {k j : Int} {t : aT} {L : List aT} (h : Ho I k L) (hj : j < k ∨ k + L.length ≤ j) : Ho (u3 I j t) k L := by
  intro i x hx
  have hi := (List.getElem?_eq_some_iff.mp hx).1
  rw [u3_ne 374 (by omega), u3_ne 375 (by omega), u3_ne 376 (by omega)]
  exact h i x hx
theorem Ho.snoc {I : aI} {k j : Int} {t : aT} {L : List aT} (h : Ho I k L) (hj : j = k + L.length) : Ho (u3 I j t) k (L ++ [t]) := by
  intro i x hx
  by_cases hi : i < L.length
  · rw [List.getElem?_append_left hi] at hx
    exact h.put (t := t) (Or.inr (by omega)) i x hx
  · have hz := (List.getElem?_eq_some_iff.mp hx).1
    rw [List.length_append, List.length_singleton] at hz
    have hi2 : i = L.length := by omega
    subst hi2
    rw [List.getElem?_append_right (Nat.le_refl _), Nat.sub_self] at hx
    cases hx
    rw [← hj]
    exact u3_at
theorem Ho.front {I : aI} {k j : Int} {t : aT} {L : List aT} (h : Ho I k L) (hj : j + 1 = k) : Ho (u3 I j t) j (t :: L) := by
  intro i x hx
  cases i with
  | zero =>
    cases hx
    rw [show j + ((0 : Nat) : Int) = j by omega]
    exact u3_at
  | succ i =>
    have := h.put (t := t) (j := j) (Or.inl (by omega)) i x hx
    rw [show j + ((i + 1 : Nat) : Int) = k + (i : Nat) by omega]
    exact this
theorem Ho.app {I : aI} {k : Int} {A B : List aT} (hA : Ho I k A) (hB : Ho I (k + A.length) B) : Ho I k (A ++ B) := by
  intro i x hx
  by_cases hi : i < A.length
  · rw [List.getElem?_append_left hi] at hx
    exact hA i x hx
  · rw [List.getElem?_append_right (by omega)] at hx
    have := hB (i - A.length) x hx
    rw [show k + (A.length : Int) + ((i - A.length : Nat) : Int) = k + (i : Nat) by omega] at this
    exact this
theorem Ho.left {I : aI} {k : Int} {A B : List aT} (h : Ho I k (A ++ B)) : Ho I k A := by
  intro i x hx
  have hi := (List.getElem?_eq_some_iff.mp hx).1
  exact h i x (by rw [List.getElem?_append_left hi]; exact hx)
theorem MF.put3 {I I' : aI} {k : Int} {t : aT} (h : MF [374, 375, 376] [18] I I') : MF [374, 375, 376] [18] I (u3 I' k t) := ((h.put (by decide) (by decide)).put (by decide) (by decide)).put (by decide) (by decide)
theorem Ho.hd {I : aI} {L : List aT} : Ho I 0 L ↔ Hd I 374 375 376 L := by
  constructor
  · intro h i t ht
    have := h i t ht
    rw [show (0 : Int) + (i : Nat) = (i : Nat) by omega] at this
    exact this
  · intro h i t ht
    rw [show (0 : Int) + (i : Nat) = (i : Nat) by omega]
    exact h i t ht
theorem ok_meets {P : aP} {d : Nat} {K : aK} {I : aI} {R : aR} {S : aS} {t : aT} {L : List aT} (hM : MS R S) (hf : I 361 18 = L.length) (hL : Hd I 374 375 376 L) (hlen : L.length < 1099) (ht : tR t) (hr : ∀ x ∈ L, tR x)
    (hK : ∀ I' L', MF [374, 375, 376] [18] I I' → Mts L t L' → I' 361 18 = L'.length → Hd I' 374 375 376 L' → K none I' R S) : Ok P 96 (d + 2) [vr 361, vi t.1, vi t.2.1, vi t.2.2] I R S K := by
  obtain ⟨m0, r1, m1, r2, m2, r3, m3, r4, m4, r5, m5, r6, m6, r7, m7, r8, m8, r9, m9, r10, m10, r11, m11, r12, m12, r13, m13, r14, m14, r15, m15⟩ := id hM
  obtain ⟨t1, t2, t3⟩ := id ht
  -- the end
  have fin : ∀ (A B : List aT) (I' : aI) (at_ nn : Int), at_ = A.length → nn = A.length + B.length → nn < 1099 → L.any (fun o => wb o t) = false → L.filter (fun x => !wb t x) = A ++ B → (∀ x ∈ B, gtl x t) → (∀ A' x, A = A' ++ [x] → ¬ gtl x t) → MF [374, 375, 376] [18] I I' → Ho I' 0 A → Ho I' (at_ + 1) B →
      Go P 96 (d + 2) K 247 [vr 361, vi t.1, vi t.2.1, vi t.2.2, vi nn, vi at_] [] I' R S := by
    intro A B I' at_ nn ha hn hl han hfl hB hA' hF hA hB2
    refine Go.walk 400 [] E96 E96_ok (fun G C hG hC => ?_)
    (repeat ((conv => whnf); first | refine ⟨_, by assumption, ?_⟩ | refine ⟨_, _, by assumption, ?_⟩ | refine ⟨(show _ ∧ _ by omega), ?_⟩ | refine ⟨(show _ ∨ _ by omega), ?_⟩ | refine ⟨fun h => absurd h (by decide), fun _ => ?_⟩ | refine ⟨fun _ => ?_, fun h => absurd h (by decide)⟩ | refine ⟨fun _ => ?_, fun h => absurd rfl h⟩ | refine ⟨fun h => absurd rfl h, fun _ => ?_⟩)); try (conv => whnf)
    refine hK (uI (u3 I' at_ t) 361 18 (nn + 1)) (A ++ t :: B) (hF.put3.putF (by decide)) (Or.inr ⟨han, A, B, hfl, hB, hA', rfl⟩) ?_ ?_
    · rw [uI_at]; simp; omega
    · have h1 : Ho (u3 I' at_ t) 0 (A ++ t :: B) := (hA.put (Or.inr (by omega))).app (by rw [show (0 : Int) + A.length = at_ by omega]; exact hB2.front rfl)
      intro i x hx
      have := (Ho.hd.mp h1) i x hx
      rw [uI_ne (by omega), uI_ne (by omega), uI_ne (by omega)]
      exact this
  -- the third loop: shifting
  have l3 : ∀ (Ar B : List aT) (I' : aI) (at_ nn : Int), at_ = Ar.length → nn = Ar.length + B.length → nn < 1099 → L.any (fun o => wb o t) = false → L.filter (fun x => !wb t x) = Ar.reverse ++ B → (∀ x ∈ B, gtl x t) → (∀ x ∈ Ar, tR x) → MF [374, 375, 376] [18] I I' → Ho I' 0 Ar.reverse → Ho I' (at_ + 1) B →
      Go P 96 (d + 2) K 149 [vr 361, vi t.1, vi t.2.1, vi t.2.2, vi nn, vi at_] [] I' R S := by
    intro Ar
    induction Ar with
    | nil =>
      intro B I' at_ nn ha hn hl han hfl hB hAr hF hA hB2
      have ha : at_ = 0 := ha
      refine Go.walk 400 [149, 247] E96 E96_ok (fun G C hG hC => ?_)
      (repeat ((conv => whnf); first | refine ⟨_, by assumption, ?_⟩ | refine ⟨_, _, by assumption, ?_⟩ | refine ⟨(show _ ∧ _ by omega), ?_⟩ | refine ⟨(show _ ∨ _ by omega), ?_⟩ | refine ⟨fun h => absurd h (by decide), fun _ => ?_⟩ | refine ⟨fun _ => ?_, fun h => absurd h (by decide)⟩ | refine ⟨fun _ => ?_, fun h => absurd rfl h⟩ | refine ⟨fun h => absurd rfl h, fun _ => ?_⟩)); try (conv => whnf)
      refine ⟨fun _ => ?_, fun h => absurd (show at_ ≤ 0 by omega) h⟩
      (repeat ((conv => whnf); first | refine ⟨_, by assumption, ?_⟩ | refine ⟨_, _, by assumption, ?_⟩ | refine ⟨(show _ ∧ _ by omega), ?_⟩ | refine ⟨(show _ ∨ _ by omega), ?_⟩ | refine ⟨fun h => absurd h (by decide), fun _ => ?_⟩ | refine ⟨fun _ => ?_, fun h => absurd h (by decide)⟩ | refine ⟨fun _ => ?_, fun h => absurd rfl h⟩ | refine ⟨fun h => absurd rfl h, fun _ => ?_⟩)); try (conv => whnf)
      refine hG _ _ _ _ _ _ ?_
      exact fin [] B I' at_ nn (by simp [ha]) (by simpa using hn) hl han (by simpa using hfl) hB (fun A' x h => by cases A' <;> cases h) hF (fun i t h => by cases h) hB2
    | cons x Ar ih =>
      intro B I' at_ nn ha hn hl han hfl hB hAr hF hA hB2
      rw [List.length_cons] at ha hn
      rw [List.reverse_cons] at hfl hA
      have hx := hA Ar.length x (by rw [List.getElem?_append_right (by simp)]; simp)
      rw [show (0 : Int) + (Ar.length : Nat) = at_ - 1 by omega] at hx
      obtain ⟨x1, x2, x3⟩ := hAr x List.mem_cons_self
      have hstop : ¬ gtl x t → Go P 96 (d + 2) K 247 [vr 361, vi t.1, vi t.2.1, vi t.2.2, vi nn, vi at_] [] I' R S := by
        intro hng
        refine fin (Ar.reverse ++ [x]) B I' at_ nn (by simp; omega) (by simp; omega) hl han hfl hB (fun A2 y h => ?_) hF hA hB2
        have := List.append_inj' h rfl
        cases this.2
        exact hng
      have hgo : gtl x t → Go P 96 (d + 2) K 149 [vr 361, vi t.1, vi t.2.1, vi t.2.2, vi nn, vi (at_ + -1)] [] (u3 I' at_ x) R S := by
        intro hg
        refine ih (x :: B) (u3 I' at_ x) (at_ + -1) nn (by omega) (by rw [List.length_cons]; omega) hl han (by rw [hfl]; simp) (fun y hy => ?_) (fun y hy => hAr y (List.mem_cons_of_mem _ hy)) hF.put3 (hA.left.put (Or.inr (by simp; omega))) ?_
        · rcases List.mem_cons.mp hy with h | h
          · rw [h]; exact hg
          · exact hB y h
        · rw [show at_ + -1 + 1 = at_ by omega]
          exact hB2.front rfl
      have hx5' : uI I' 374 at_ x.1 375 (at_ - 1) = x.2.1 := by rw [uI_ne (by omega)]; exact hx.2.1
      have hx6' : uI (uI I' 374 at_ x.1) 375 at_ x.2.1 376 (at_ - 1) = x.2.2 := by rw [uI_ne (by omega), uI_ne (by omega)]; exact hx.2.2
      have go193 : gtl x t → Go P 96 (d + 2) K 193 [vr 361, vi t.1, vi t.2.1, vi t.2.2, vi nn, vi at_] [] I' R S := by
        intro hg
        refine Go.walk 400 [149, 247] E96 E96_ok (fun G C hG hC => ?_)
        (repeat ((conv => whnf); first | refine ⟨_, by assumption, ?_⟩ | refine ⟨_, _, by assumption, ?_⟩ | refine ⟨(show _ ∧ _ by omega), ?_⟩ | refine ⟨(show _ ∨ _ by omega), ?_⟩ | refine ⟨fun h => absurd h (by decide), fun _ => ?_⟩ | refine ⟨fun _ => ?_, fun h => absurd h (by decide)⟩ | refine ⟨fun _ => ?_, fun h => absurd rfl h⟩ | refine ⟨fun h => absurd rfl h, fun _ => ?_⟩)); try (conv => whnf)
        rw [hx.1, hx5', hx6']
        refine hG _ _ _ _ _ _ ?_
        exact hgo hg
      refine Go.walk 400 [149, 247, 193] E96 E96_ok (fun G C hG hC => ?_)
      (repeat ((conv => whnf); first | refine ⟨_, by assumption, ?_⟩ | refine ⟨_, _, by assumption, ?_⟩ | refine ⟨(show _ ∧ _ by omega), ?_⟩ | refine ⟨(show _ ∨ _ by omega), ?_⟩ | refine ⟨fun h => absurd h (by decide), fun _ => ?_⟩ | refine ⟨fun _ => ?_, fun h => absurd h (by decide)⟩ | refine ⟨fun _ => ?_, fun h => absurd rfl h⟩ | refine ⟨fun h => absurd rfl h, fun _ => ?_⟩)); try (conv => whnf)
      refine ⟨fun h => absurd h (by omega), fun _ => ?_⟩
      (repeat ((conv => whnf); first | refine ⟨_, by assumption, ?_⟩ | refine ⟨_, _, by assumption, ?_⟩ | refine ⟨(show _ ∧ _ by omega), ?_⟩ | refine ⟨(show _ ∨ _ by omega), ?_⟩ | refine ⟨fun h => absurd h (by decide), fun _ => ?_⟩ | refine ⟨fun _ => ?_, fun h => absurd h (by decide)⟩ | refine ⟨fun _ => ?_, fun h => absurd rfl h⟩ | refine ⟨fun h => absurd rfl h, fun _ => ?_⟩)); try (conv => whnf)
      rw [hx.1]
      (try refine ⟨by omega, ?_⟩)
      refine ⟨fun h => ?_, fun h => ?_⟩
      · (repeat ((conv => whnf); first | refine ⟨_, by assumption, ?_⟩ | refine ⟨_, _, by assumption, ?_⟩ | refine ⟨(show _ ∧ _ by omega), ?_⟩ | refine ⟨(show _ ∨ _ by omega), ?_⟩ | refine ⟨fun h => absurd h (by decide), fun _ => ?_⟩ | refine ⟨fun _ => ?_, fun h => absurd h (by decide)⟩ | refine ⟨fun _ => ?_, fun h => absurd rfl h⟩ | refine ⟨fun h => absurd rfl h, fun _ => ?_⟩)); try (conv => whnf)
        refine hG _ _ _ _ _ _ ?_
        exact go193 (Or.inl h)
      · (repeat ((conv => whnf); first | refine ⟨_, by assumption, ?_⟩ | refine ⟨_, _, by assumption, ?_⟩ | refine ⟨(show _ ∧ _ by omega), ?_⟩ | refine ⟨(show _ ∨ _ by omega), ?_⟩ | refine ⟨fun h => absurd h (by decide), fun _ => ?_⟩ | refine ⟨fun _ => ?_, fun h => absurd h (by decide)⟩ | refine ⟨fun _ => ?_, fun h => absurd rfl h⟩ | refine ⟨fun h => absurd rfl h, fun _ => ?_⟩)); try (conv => whnf)
        rw [hx.1]
        (try refine ⟨by omega, ?_⟩)
        refine ⟨fun h2 => ?_, fun h2 => ?_⟩
        · (repeat ((conv => whnf); first | refine ⟨_, by assumption, ?_⟩ | refine ⟨_, _, by assumption, ?_⟩ | refine ⟨(show _ ∧ _ by omega), ?_⟩ | refine ⟨(show _ ∨ _ by omega), ?_⟩ | refine ⟨fun h => absurd h (by decide), fun _ => ?_⟩ | refine ⟨fun _ => ?_, fun h => absurd h (by decide)⟩ | refine ⟨fun _ => ?_, fun h => absurd rfl h⟩ | refine ⟨fun h => absurd rfl h, fun _ => ?_⟩)); try (conv => whnf)
          refine hG _ _ _ _ _ _ ?_
          exact hstop (fun hg => by rcases hg with hg | hg <;> omega)
        · (repeat ((conv => whnf); first | refine ⟨_, by assumption, ?_⟩ | refine ⟨_, _, by assumption, ?_⟩ | refine ⟨(show _ ∧ _ by omega), ?_⟩ | refine ⟨(show _ ∨ _ by omega), ?_⟩ | refine ⟨fun h => absurd h (by decide), fun _ => ?_⟩ | refine ⟨fun _ => ?_, fun h => absurd h (by decide)⟩ | refine ⟨fun _ => ?_, fun h => absurd rfl h⟩ | refine ⟨fun h => absurd rfl h, fun _ => ?_⟩)); try (conv => whnf)
          rw [hx.2.2]
          (try refine ⟨by omega, ?_⟩)
          refine ⟨fun h3 => ?_, fun h3 => ?_⟩
          · (repeat ((conv => whnf); first | refine ⟨_, by assumption, ?_⟩ | refine ⟨_, _, by assumption, ?_⟩ | refine ⟨(show _ ∧ _ by omega), ?_⟩ | refine ⟨(show _ ∨ _ by omega), ?_⟩ | refine ⟨fun h => absurd h (by decide), fun _ => ?_⟩ | refine ⟨fun _ => ?_, fun h => absurd h (by decide)⟩ | refine ⟨fun _ => ?_, fun h => absurd rfl h⟩ | refine ⟨fun h => absurd rfl h, fun _ => ?_⟩)); try (conv => whnf)
            refine hG _ _ _ _ _ _ ?_
            exact hstop (fun hg => by rcases hg with hg | hg <;> omega)
          · (repeat ((conv => whnf); first | refine ⟨_, by assumption, ?_⟩ | refine ⟨_, _, by assumption, ?_⟩ | refine ⟨(show _ ∧ _ by omega), ?_⟩ | refine ⟨(show _ ∨ _ by omega), ?_⟩ | refine ⟨fun h => absurd h (by decide), fun _ => ?_⟩ | refine ⟨fun _ => ?_, fun h => absurd h (by decide)⟩ | refine ⟨fun _ => ?_, fun h => absurd rfl h⟩ | refine ⟨fun h => absurd rfl h, fun _ => ?_⟩)); try (conv => whnf)
            refine hG _ _ _ _ _ _ ?_
            exact go193 (Or.inr ⟨h2, by omega⟩)
  -- the second loop: what is beaten goes
  have l2 : ∀ (C M : List aT) (I' : aI) (k nn : Int), k + C.length = L.length → nn = M.length → nn ≤ k → L.any (fun o => wb o t) = false → M ++ C.filter (fun x => !wb t x) = L.filter (fun x => !wb t x) → (∀ x ∈ M, tR x) → (∀ x ∈ C, tR x) → MF [374, 375, 376] [18] I I' → I' 361 18 = L.length → Ho I' 0 M → Ho I' k C →
      Go P 96 (d + 2) K 55 [vr 361, vi t.1, vi t.2.1, vi t.2.2, vi nn, vi k] [] I' R S := by
    intro C
    induction C with
    | nil =>
      intro M I' k nn hk hn hle han hfl hMr hCr hF hsz hMo hC
      have hk : k + ((0 : Nat) : Int) = L.length := hk
      refine Go.walk 400 [55, 149] E96 E96_ok (fun G C hG hC => ?_)
      (repeat ((conv => whnf); first | refine ⟨_, by assumption, ?_⟩ | refine ⟨_, _, by assumption, ?_⟩ | refine ⟨(show _ ∧ _ by omega), ?_⟩ | refine ⟨(show _ ∨ _ by omega), ?_⟩ | refine ⟨fun h => absurd h (by decide), fun _ => ?_⟩ | refine ⟨fun _ => ?_, fun h => absurd h (by decide)⟩ | refine ⟨fun _ => ?_, fun h => absurd rfl h⟩ | refine ⟨fun h => absurd rfl h, fun _ => ?_⟩)); try (conv => whnf)
      refine ⟨⟨by omega, by have : I' 361 ((18 : Nat) : Int) = L.length := hsz; omega⟩, ?_⟩
      refine ⟨fun _ => ?_, fun h => absurd (show I' 361 18 ≤ k by omega) h⟩
      (repeat ((conv => whnf); first | refine ⟨_, by assumption, ?_⟩ | refine ⟨_, _, by assumption, ?_⟩ | refine ⟨(show _ ∧ _ by omega), ?_⟩ | refine ⟨(show _ ∨ _ by omega), ?_⟩ | refine ⟨fun h => absurd h (by decide), fun _ => ?_⟩ | refine ⟨fun _ => ?_, fun h => absurd h (by decide)⟩ | refine ⟨fun _ => ?_, fun h => absurd rfl h⟩ | refine ⟨fun h => absurd rfl h, fun _ => ?_⟩)); try (conv => whnf)
      refine hG _ _ _ _ _ _ ?_
      refine l3 M.reverse [] I' nn nn (by simp [hn]) (by simp [hn]) (by omega) han (by rw [List.reverse_reverse]; simpa using hfl.symm) (fun x h => by cases h) (fun x h => hMr x (by simpa using h)) hF (by rw [List.reverse_reverse]; exact hMo) (fun i t h => by cases h)
    | cons c C ih =>
      intro M I' k nn hk hn hle han hfl hMr hCr hF hsz hMo hC
      rw [List.length_cons] at hk
      obtain ⟨hc, hC'⟩ := hC.cons
      have hcr := hCr c List.mem_cons_self
      refine Go.walk 400 [55, 149] E96 E96_ok (fun G C hG hC => ?_)
      (repeat ((conv => whnf); first | refine ⟨_, by assumption, ?_⟩ | refine ⟨_, _, by assumption, ?_⟩ | refine ⟨(show _ ∧ _ by omega), ?_⟩ | refine ⟨(show _ ∨ _ by omega), ?_⟩ | refine ⟨fun h => absurd h (by decide), fun _ => ?_⟩ | refine ⟨fun _ => ?_, fun h => absurd h (by decide)⟩ | refine ⟨fun _ => ?_, fun h => absurd rfl h⟩ | refine ⟨fun h => absurd rfl h, fun _ => ?_⟩)); try (conv => whnf)
      refine ⟨⟨by omega, by have : I' 361 ((18 : Nat) : Int) = L.length := hsz; omega⟩, ?_⟩
      refine ⟨fun h => absurd (show I' 361 18 ≤ k from h) (by omega), fun _ => ?_⟩
      (repeat ((conv => whnf); first | refine ⟨_, by assumption, ?_⟩ | refine ⟨_, _, by assumption, ?_⟩ | refine ⟨(show _ ∧ _ by omega), ?_⟩ | refine ⟨(show _ ∨ _ by omega), ?_⟩ | refine ⟨fun h => absurd h (by decide), fun _ => ?_⟩ | refine ⟨fun _ => ?_, fun h => absurd h (by decide)⟩ | refine ⟨fun _ => ?_, fun h => absurd rfl h⟩ | refine ⟨fun h => absurd rfl h, fun _ => ?_⟩)); try (conv => whnf)
      rw [hc.1, hc.2.1, hc.2.2]
      refine hC _ _ _ _ _ _ ?_
      refine ok_isBeaten (x := c) (o := t) hcr ht (fun hb => ?_) (fun hb => ?_)
      · (repeat ((conv => whnf); first | refine ⟨_, by assumption, ?_⟩ | refine ⟨_, _, by assumption, ?_⟩ | refine ⟨(show _ ∧ _ by omega), ?_⟩ | refine ⟨(show _ ∨ _ by omega), ?_⟩ | refine ⟨fun h => absurd h (by decide), fun _ => ?_⟩ | refine ⟨fun _ => ?_, fun h => absurd h (by decide)⟩ | refine ⟨fun _ => ?_, fun h => absurd rfl h⟩ | refine ⟨fun h => absurd rfl h, fun _ => ?_⟩)); try (conv => whnf)
        refine hG _ _ _ _ _ _ ?_
        refine ih M I' (k + 1) nn (by omega) hn (by omega) han ?_ hMr (fun x h => hCr x (List.mem_cons_of_mem _ h)) hF hsz hMo hC'
        rw [← hfl, List.filter_cons, hb]; rfl
      · have e5 : uI I' 374 nn c.1 375 k = c.2.1 := by rw [uI_ne (by omega)]; exact hc.2.1
        have e6 : uI (uI I' 374 nn c.1) 375 nn c.2.1 376 k = c.2.2 := by rw [uI_ne (by omega), uI_ne (by omega)]; exact hc.2.2
        (repeat ((conv => whnf); first | refine ⟨_, by assumption, ?_⟩ | refine ⟨_, _, by assumption, ?_⟩ | refine ⟨(show _ ∧ _ by omega), ?_⟩ | refine ⟨(show _ ∨ _ by omega), ?_⟩ | refine ⟨fun h => absurd h (by decide), fun _ => ?_⟩ | refine ⟨fun _ => ?_, fun h => absurd h (by decide)⟩ | refine ⟨fun _ => ?_, fun h => absurd rfl h⟩ | refine ⟨fun h => absurd rfl h, fun _ => ?_⟩)); try (conv => whnf)
        rw [hc.1, e5, e6]
        refine hG _ _ _ _ _ _ ?_
        refine ih (M ++ [c]) (u3 I' nn c) (k + 1) (nn + 1) (by omega) (by simp; omega) (by omega) han ?_ (fun x h => ?_) (fun x h => hCr x (List.mem_cons_of_mem _ h)) hF.put3 ?_ (hMo.snoc (by omega)) (hC'.put (Or.inl (by omega)))
        · rw [← hfl, List.filter_cons, hb]; simp
        · rcases List.mem_append.mp h with h | h
          · exact hMr x h
          · rw [List.mem_singleton.mp h]; exact hcr
        · show uI (uI (uI I' 374 nn c.1) 375 nn c.2.1) 376 nn c.2.2 361 18 = _
          rw [uI_ne (by omega), uI_ne (by omega), uI_ne (by omega)]; exact hsz
  -- the first loop: is it beaten
  have l1 : ∀ (C : List aT) (k : Int), 0 ≤ k → k + C.length = L.length → L.any (fun o => wb o t) = C.any (fun o => wb o t) → (∀ x ∈ C, tR x) → Ho I k C →
      Go P 96 (d + 2) K 6 [vr 361, vi t.1, vi t.2.1, vi t.2.2, vi 0, vi k] [] I R S := by
    intro C
    induction C with
    | nil =>
      intro k h0 hk hany hCr hC
      have hk : k + ((0 : Nat) : Int) = L.length := hk
      refine Go.walk 400 [6, 55] E96 E96_ok (fun G C hG hC => ?_)
      (repeat ((conv => whnf); first | refine ⟨_, by assumption, ?_⟩ | refine ⟨_, _, by assumption, ?_⟩ | refine ⟨(show _ ∧ _ by omega), ?_⟩ | refine ⟨(show _ ∨ _ by omega), ?_⟩ | refine ⟨fun h => absurd h (by decide), fun _ => ?_⟩ | refine ⟨fun _ => ?_, fun h => absurd h (by decide)⟩ | refine ⟨fun _ => ?_, fun h => absurd rfl h⟩ | refine ⟨fun h => absurd rfl h, fun _ => ?_⟩)); try (conv => whnf)
      refine ⟨⟨by omega, by have : I 361 ((18 : Nat) : Int) = L.length := hf; omega⟩, ?_⟩
      refine ⟨fun _ => ?_, fun h => absurd (show I 361 18 ≤ k by omega) h⟩
      (repeat ((conv => whnf); first | refine ⟨_, by assumption, ?_⟩ | refine ⟨_, _, by assumption, ?_⟩ | refine ⟨(show _ ∧ _ by omega), ?_⟩ | refine ⟨(show _ ∨ _ by omega), ?_⟩ | refine ⟨fun h => absurd h (by decide), fun _ => ?_⟩ | refine ⟨fun _ => ?_, fun h => absurd h (by decide)⟩ | refine ⟨fun _ => ?_, fun h => absurd rfl h⟩ | refine ⟨fun h => absurd rfl h, fun _ => ?_⟩)); try (conv => whnf)
      refine hG _ _ _ _ _ _ ?_
      exact l2 L [] I 0 0 (by omega) rfl (by omega) (by rw [hany]; rfl) (by simp) (fun x h => by cases h) hr MF.rf hf (fun i t h => by cases h) (Ho.hd.mpr hL)
    | cons c C ih =>
      intro k h0 hk hany hCr hC
      rw [List.length_cons] at hk
      obtain ⟨hc, hC'⟩ := hC.cons
      have hcr := hCr c List.mem_cons_self
      refine Go.walk 400 [6, 55] E96 E96_ok (fun G C hG hC => ?_)
      (repeat ((conv => whnf); first | refine ⟨_, by assumption, ?_⟩ | refine ⟨_, _, by assumption, ?_⟩ | refine ⟨(show _ ∧ _ by omega), ?_⟩ | refine ⟨(show _ ∨ _ by omega), ?_⟩ | refine ⟨fun h => absurd h (by decide), fun _ => ?_⟩ | refine ⟨fun _ => ?_, fun h => absurd h (by decide)⟩ | refine ⟨fun _ => ?_, fun h => absurd rfl h⟩ | refine ⟨fun h => absurd rfl h, fun _ => ?_⟩)); try (conv => whnf)
      refine ⟨⟨by omega, by have : I 361 ((18 : Nat) : Int) = L.length := hf; omega⟩, ?_⟩
      refine ⟨fun h => absurd (show I 361 18 ≤ k from h) (by omega), fun _ => ?_⟩
      (repeat ((conv => whnf); first | refine ⟨_, by assumption, ?_⟩ | refine ⟨_, _, by assumption, ?_⟩ | refine ⟨(show _ ∧ _ by omega), ?_⟩ | refine ⟨(show _ ∨ _ by omega), ?_⟩ | refine ⟨fun h => absurd h (by decide), fun _ => ?_⟩ | refine ⟨fun _ => ?_, fun h => absurd h (by decide)⟩ | refine ⟨fun _ => ?_, fun h => absurd rfl h⟩ | refine ⟨fun h => absurd rfl h, fun _ => ?_⟩)); try (conv => whnf)
      rw [hc.1, hc.2.1, hc.2.2]
      refine hC _ _ _ _ _ _ ?_
      refine ok_isBeaten (x := t) (o := c) ht hcr (fun hb => ?_) (fun hb => ?_)
      · (repeat ((conv => whnf); first | refine ⟨_, by assumption, ?_⟩ | refine ⟨_, _, by assumption, ?_⟩ | refine ⟨(show _ ∧ _ by omega), ?_⟩ | refine ⟨(show _ ∨ _ by omega), ?_⟩ | refine ⟨fun h => absurd h (by decide), fun _ => ?_⟩ | refine ⟨fun _ => ?_, fun h => absurd h (by decide)⟩ | refine ⟨fun _ => ?_, fun h => absurd rfl h⟩ | refine ⟨fun h => absurd rfl h, fun _ => ?_⟩)); try (conv => whnf)
        exact hK I L MF.rf (Or.inl ⟨by rw [hany, List.any_cons, hb]; rfl, rfl⟩) hf hL
      · (repeat ((conv => whnf); first | refine ⟨_, by assumption, ?_⟩ | refine ⟨_, _, by assumption, ?_⟩ | refine ⟨(show _ ∧ _ by omega), ?_⟩ | refine ⟨(show _ ∨ _ by omega), ?_⟩ | refine ⟨fun h => absurd h (by decide), fun _ => ?_⟩ | refine ⟨fun _ => ?_, fun h => absurd h (by decide)⟩ | refine ⟨fun _ => ?_, fun h => absurd rfl h⟩ | refine ⟨fun h => absurd rfl h, fun _ => ?_⟩)); try (conv => whnf)
        refine hG _ _ _ _ _ _ ?_
        exact ih (k + 1) (by omega) (by omega) (by rw [hany, List.any_cons, hb]; rfl) (fun x h => hCr x (List.mem_cons_of_mem _ h)) hC'
  refine Ok.of (by decide) rfl (Nat.le_of_ble_eq_true rfl) ?_
  refine Go.walk 400 [6] E96 E96_ok (fun G C hG hC => ?_)
  (repeat ((conv => whnf); first | refine ⟨_, by assumption, ?_⟩ | refine ⟨_, _, by assumption, ?_⟩ | refine ⟨(show _ ∧ _ by omega), ?_⟩ | refine ⟨(show _ ∨ _ by omega), ?_⟩ | refine ⟨fun h => absurd h (by decide), fun _ => ?_⟩ | refine ⟨fun _ => ?_, fun h => absurd h (by decide)⟩ | refine ⟨fun _ => ?_, fun h => absurd rfl h⟩ | refine ⟨fun h => absurd rfl h, fun _ => ?_⟩)); try (conv => whnf)
  refine hG _ _ _ _ _ _ ?_
  exact l1 L 0 (by omega) (by omega) rfl hr (Ho.hd.mpr hL)
end
section
/-! the reference: isNext -/
/-- j is the next digit behind k: a KIND that there is, or 4 -/
def Nk (n : aN) (k j : Int) : Prop := k < j ∧ j ≤ 4 ∧ (j < 4 → isK n j) ∧ ∀ i, k < i → i < j → ¬ isK n i
theorem ok_isNext {P : aP} {d : Nat} {K : aK} {I : aI} {R : aR} {S : aS} {top : Int} (hM : MS R S) (hW : WF (I 362)) (ht : 0 ≤ top ∧ top < 6) (hpl : ∀ v, 1 ≤ v → v < I 362 0 → bel (I 362) v top = true → 0 ≤ I 368 v ∧ I 368 v ≤ 3)
    (h1 : ∀ I' v0, Fr [368] I I' → 1 ≤ v0 → v0 < I 362 0 → bel (I 362) v0 top = true → Nk (I 362) (I 368 v0) (I' 368 v0) → I' 368 v0 < 4 → (∀ u, 1 ≤ u → u < v0 → bel (I 362) u top = true → Nk (I 362) (I 368 u) 4 ∧ I' 368 u = 0) → (∀ u, ¬ (1 ≤ u ∧ u ≤ v0 ∧ bel (I 362) u top = true) → I' 368 u = I 368 u) → K (some (vi 1)) I' R S)
    (h0 : ∀ I', Fr [368] I I' → (∀ u, 1 ≤ u → u < I 362 0 → bel (I 362) u top = true → Nk (I 362) (I 368 u) 4) → K (some (vi 0)) I' R S) : Ok P 94 (d + 3) [vr 361, vi top] I R S K := by
  obtain ⟨m0, r1, m1, r2, m2, r3, m3, r4, m4, r5, m5, r6, m6, r7, m7, r8, m8, r9, m9, r10, m10, r11, m11, r12, m12, r13, m13, r14, m14, r15, m15⟩ := id hM
  have hN := hW.1
  have outer : ∀ (k : Nat) (v : Int) (I' : aI), 1 ≤ v → I 362 0 - v = k → Fr [368] I I' → (∀ u, 1 ≤ u → u < v → bel (I 362) u top = true → Nk (I 362) (I 368 u) 4 ∧ I' 368 u = 0) → (∀ u, ¬ (1 ≤ u ∧ u < v ∧ bel (I 362) u top = true) → I' 368 u = I 368 u) → Go P 94 (d + 3) K 2 [vr 361, vi top, vi v] [] I' R S := by
    intro k
    induction k with
    | zero =>
      intro v I' hv hk hF hA hB
      have e := hF 362 (by decide)
      refine Go.walk 400 [2, 31] E94 E94_ok (fun G C hG hC => ?_)
      (repeat ((conv => whnf); first | refine ⟨_, by assumption, ?_⟩ | refine ⟨_, _, by assumption, ?_⟩ | refine ⟨(show _ ∧ _ by omega), ?_⟩ | refine ⟨(show _ ∨ _ by omega), ?_⟩ | refine ⟨fun h => absurd h (by decide), fun _ => ?_⟩ | refine ⟨fun _ => ?_, fun h => absurd h (by decide)⟩ | refine ⟨fun _ => ?_, fun h => absurd rfl h⟩ | refine ⟨fun h => absurd rfl h, fun _ => ?_⟩)); try (conv => whnf)
      rw [e]
      refine ⟨by omega, ?_⟩
      refine ⟨fun _ => ?_, fun h => absurd (show I 362 0 ≤ v by omega) h⟩
      (repeat ((conv => whnf); first | refine ⟨_, by assumption, ?_⟩ | refine ⟨_, _, by assumption, ?_⟩ | refine ⟨(show _ ∧ _ by omega), ?_⟩ | refine ⟨(show _ ∨ _ by omega), ?_⟩ | refine ⟨fun h => absurd h (by decide), fun _ => ?_⟩ | refine ⟨fun _ => ?_, fun h => absurd h (by decide)⟩ | refine ⟨fun _ => ?_, fun h => absurd rfl h⟩ | refine ⟨fun h => absurd rfl h, fun _ => ?_⟩)); try (conv => whnf)
      exact h0 I' hF (fun u g1 g2 g3 => (hA u g1 (by omega) g3).1)
    | succ k ih =>
      intro v I' hv hk hF hA hB
      have e := hF 362 (by decide)
      refine Go.walk 400 [2, 31] E94 E94_ok (fun G C hG hC => ?_)
      (repeat ((conv => whnf); first | refine ⟨_, by assumption, ?_⟩ | refine ⟨_, _, by assumption, ?_⟩ | refine ⟨(show _ ∧ _ by omega), ?_⟩ | refine ⟨(show _ ∨ _ by omega), ?_⟩ | refine ⟨fun h => absurd h (by decide), fun _ => ?_⟩ | refine ⟨fun _ => ?_, fun h => absurd h (by decide)⟩ | refine ⟨fun _ => ?_, fun h => absurd rfl h⟩ | refine ⟨fun h => absurd rfl h, fun _ => ?_⟩)); try (conv => whnf)
      rw [e]
      refine ⟨by omega, ?_⟩
      refine ⟨fun h => absurd h (by omega), fun _ => ?_⟩
      (repeat ((conv => whnf); first | refine ⟨_, by assumption, ?_⟩ | refine ⟨_, _, by assumption, ?_⟩ | refine ⟨(show _ ∧ _ by omega), ?_⟩ | refine ⟨(show _ ∨ _ by omega), ?_⟩ | refine ⟨fun h => absurd h (by decide), fun _ => ?_⟩ | refine ⟨fun _ => ?_, fun h => absurd h (by decide)⟩ | refine ⟨fun _ => ?_, fun h => absurd rfl h⟩ | refine ⟨fun h => absurd rfl h, fun _ => ?_⟩)); try (conv => whnf)
      refine hC _ _ _ _ _ _ ?_
      refine ok_isBelow hM (by rw [e]; exact hW) (by omega) (by omega) (fun hbel => ?_) (fun hbel => ?_)
      · rw [e] at hbel
        have hp := hpl v hv (by omega) hbel
        have hbv : I' 368 v = I 368 v := hB v (by omega)
        have inner : ∀ (m : Nat) (I2 : aI), 4 - I2 368 v = m → I 368 v < I2 368 v → (∀ i, I 368 v < i → i < I2 368 v → ¬ isK (I 362) i) → Fr [368] I I2 → (∀ u, u ≠ v → I2 368 u = I' 368 u) → Go P 94 (d + 3) K 31 [vr 361, vi top, vi v] [] I2 R S := by
          intro m
          have hdone : ∀ I2 : aI, I2 368 v < 4 → Nk (I 362) (I 368 v) (I2 368 v) → Fr [368] I I2 → (∀ u, u ≠ v → I2 368 u = I' 368 u) → K (some (vi 1)) I2 R S := by
            intro I2 h4 hnk hF2 ho
            refine h1 I2 v hF2 hv (by omega) hbel hnk h4 (fun u g1 g2 g3 => ?_) (fun u g => ?_)
            · rw [ho u (by omega)]
              exact hA u g1 g2 g3
            · by_cases hu : u = v
              · subst hu; exact absurd ⟨hv, by omega, hbel⟩ g
              · rw [ho u hu]
                exact hB u (fun q => g ⟨q.1, by omega, q.2.2⟩)
          induction m with
          | zero =>
            intro I2 hm hlt hno hF2 ho
            have e2 := hF2 362 (by decide)
            have e62 : ∀ z, uI I2 368 v z 362 = I 362 := fun z => by funext x; rw [uI_ne (by omega), e2]
            refine Go.walk 400 [2, 31] E94 E94_ok (fun G C hG hC => ?_)
            (repeat ((conv => whnf); first | refine ⟨_, by assumption, ?_⟩ | refine ⟨_, _, by assumption, ?_⟩ | refine ⟨(show _ ∧ _ by omega), ?_⟩ | refine ⟨(show _ ∨ _ by omega), ?_⟩ | refine ⟨fun h => absurd h (by decide), fun _ => ?_⟩ | refine ⟨fun _ => ?_, fun h => absurd h (by decide)⟩ | refine ⟨fun _ => ?_, fun h => absurd rfl h⟩ | refine ⟨fun h => absurd rfl h, fun _ => ?_⟩)); try (conv => whnf)
            refine ⟨fun _ => ?_, fun h => absurd (show (4 : Int) ≤ I2 368 v by omega) h⟩
            (repeat ((conv => whnf); first | refine ⟨_, by assumption, ?_⟩ | refine ⟨_, _, by assumption, ?_⟩ | refine ⟨(show _ ∧ _ by omega), ?_⟩ | refine ⟨(show _ ∨ _ by omega), ?_⟩ | refine ⟨fun h => absurd h (by decide), fun _ => ?_⟩ | refine ⟨fun _ => ?_, fun h => absurd h (by decide)⟩ | refine ⟨fun _ => ?_, fun h => absurd rfl h⟩ | refine ⟨fun h => absurd rfl h, fun _ => ?_⟩)); try (conv => whnf)
            refine ⟨fun _ => ?_, fun h => absurd (show (4 : Int) ≤ I2 368 v by omega) h⟩
            (repeat ((conv => whnf); first | refine ⟨_, by assumption, ?_⟩ | refine ⟨_, _, by assumption, ?_⟩ | refine ⟨(show _ ∧ _ by omega), ?_⟩ | refine ⟨(show _ ∨ _ by omega), ?_⟩ | refine ⟨fun h => absurd h (by decide), fun _ => ?_⟩ | refine ⟨fun _ => ?_, fun h => absurd h (by decide)⟩ | refine ⟨fun _ => ?_, fun h => absurd rfl h⟩ | refine ⟨fun h => absurd rfl h, fun _ => ?_⟩)); try (conv => whnf)
            refine hG _ _ _ _ _ _ ?_
            refine ih (v + 1) _ (by omega) (by omega) (hF2.put (by decide)) (fun u g1 g2 g3 => ?_) (fun u g => ?_)
            · by_cases hu : u = v
              · subst hu
                refine ⟨⟨by omega, by omega, fun q => absurd q (by omega), fun i g4 g5 => hno i g4 (by omega)⟩, uI_at⟩
              · rw [uI_ne (by omega), ho u hu]
                exact hA u g1 (by omega) g3
            · have hu : u ≠ v := fun q => g ⟨by omega, by omega, by rw [q]; exact hbel⟩
              rw [uI_ne (by omega), ho u hu]
              exact hB u (fun q => g ⟨q.1, by omega, q.2.2⟩)
          | succ m ihm =>
            intro I2 hm hlt hno hF2 ho
            have e2 := hF2 362 (by decide)
            refine Go.walk 400 [2, 31] E94 E94_ok (fun G C hG hC => ?_)
            (repeat ((conv => whnf); first | refine ⟨_, by assumption, ?_⟩ | refine ⟨_, _, by assumption, ?_⟩ | refine ⟨(show _ ∧ _ by omega), ?_⟩ | refine ⟨(show _ ∨ _ by omega), ?_⟩ | refine ⟨fun h => absurd h (by decide), fun _ => ?_⟩ | refine ⟨fun _ => ?_, fun h => absurd h (by decide)⟩ | refine ⟨fun _ => ?_, fun h => absurd rfl h⟩ | refine ⟨fun h => absurd rfl h, fun _ => ?_⟩)); try (conv => whnf)
            refine ⟨fun h => absurd h (by omega), fun _ => ?_⟩
            (repeat ((conv => whnf); first | refine ⟨_, by assumption, ?_⟩ | refine ⟨_, _, by assumption, ?_⟩ | refine ⟨(show _ ∧ _ by omega), ?_⟩ | refine ⟨(show _ ∨ _ by omega), ?_⟩ | refine ⟨fun h => absurd h (by decide), fun _ => ?_⟩ | refine ⟨fun _ => ?_, fun h => absurd h (by decide)⟩ | refine ⟨fun _ => ?_, fun h => absurd rfl h⟩ | refine ⟨fun h => absurd rfl h, fun _ => ?_⟩)); try (conv => whnf)
            refine hC _ _ _ _ _ _ ?_
            refine ok_isKind hM (by omega) (by rw [e2]; exact hW) (fun hk1 => ?_) (fun hk0 => ?_)
            · rw [e2] at hk1
              (repeat ((conv => whnf); first | refine ⟨_, by assumption, ?_⟩ | refine ⟨_, _, by assumption, ?_⟩ | refine ⟨(show _ ∧ _ by omega), ?_⟩ | refine ⟨(show _ ∨ _ by omega), ?_⟩ | refine ⟨fun h => absurd h (by decide), fun _ => ?_⟩ | refine ⟨fun _ => ?_, fun h => absurd h (by decide)⟩ | refine ⟨fun _ => ?_, fun h => absurd rfl h⟩ | refine ⟨fun h => absurd rfl h, fun _ => ?_⟩)); try (conv => whnf)
              refine ⟨fun h => absurd h (by omega), fun _ => ?_⟩
              (repeat ((conv => whnf); first | refine ⟨_, by assumption, ?_⟩ | refine ⟨_, _, by assumption, ?_⟩ | refine ⟨(show _ ∧ _ by omega), ?_⟩ | refine ⟨(show _ ∨ _ by omega), ?_⟩ | refine ⟨fun h => absurd h (by decide), fun _ => ?_⟩ | refine ⟨fun _ => ?_, fun h => absurd h (by decide)⟩ | refine ⟨fun _ => ?_, fun h => absurd rfl h⟩ | refine ⟨fun h => absurd rfl h, fun _ => ?_⟩)); try (conv => whnf)
              exact hdone I2 (by omega) ⟨hlt, by omega, fun _ => hk1, hno⟩ hF2 ho
            · rw [e2] at hk0
              (repeat ((conv => whnf); first | refine ⟨_, by assumption, ?_⟩ | refine ⟨_, _, by assumption, ?_⟩ | refine ⟨(show _ ∧ _ by omega), ?_⟩ | refine ⟨(show _ ∨ _ by omega), ?_⟩ | refine ⟨fun h => absurd h (by decide), fun _ => ?_⟩ | refine ⟨fun _ => ?_, fun h => absurd h (by decide)⟩ | refine ⟨fun _ => ?_, fun h => absurd rfl h⟩ | refine ⟨fun h => absurd rfl h, fun _ => ?_⟩)); try (conv => whnf)
              refine hG _ _ _ _ _ _ ?_
              refine ihm (uI I2 368 v (I2 368 v + 1)) (by rw [uI_at]; omega) (by rw [uI_at]; omega) (fun i g1 g2 => ?_) (hF2.put (by decide)) (fun u hu => by rw [uI_ne (by omega)]; exact ho u hu)
              rw [uI_at] at g2
              by_cases hi : i = I2 368 v
              · rw [hi]; exact hk0
              · exact hno i g1 (by omega)
        (repeat ((conv => whnf); first | refine ⟨_, by assumption, ?_⟩ | refine ⟨_, _, by assumption, ?_⟩ | refine ⟨(show _ ∧ _ by omega), ?_⟩ | refine ⟨(show _ ∨ _ by omega), ?_⟩ | refine ⟨fun h => absurd h (by decide), fun _ => ?_⟩ | refine ⟨fun _ => ?_, fun h => absurd h (by decide)⟩ | refine ⟨fun _ => ?_, fun h => absurd rfl h⟩ | refine ⟨fun h => absurd rfl h, fun _ => ?_⟩)); try (conv => whnf)
        refine hG _ _ _ _ _ _ ?_
        refine inner (4 - (I' 368 v + 1)).toNat (uI I' 368 v (I' 368 v + 1)) (by rw [uI_at]; omega) (by rw [uI_at]; omega) (fun i g1 g2 => ?_) (hF.put (by decide)) (fun u hu => by rw [uI_ne (by omega)])
        rw [uI_at] at g2
        omega
      · rw [e] at hbel
        (repeat ((conv => whnf); first | refine ⟨_, by assumption, ?_⟩ | refine ⟨_, _, by assumption, ?_⟩ | refine ⟨(show _ ∧ _ by omega), ?_⟩ | refine ⟨(show _ ∨ _ by omega), ?_⟩ | refine ⟨fun h => absurd h (by decide), fun _ => ?_⟩ | refine ⟨fun _ => ?_, fun h => absurd h (by decide)⟩ | refine ⟨fun _ => ?_, fun h => absurd rfl h⟩ | refine ⟨fun h => absurd rfl h, fun _ => ?_⟩)); try (conv => whnf)
        refine hG _ _ _ _ _ _ ?_
        refine ih (v + 1) I' (by omega) (by omega) hF (fun u g1 g2 g3 => ?_) (fun u g => ?_)
        · by_cases hu : u = v
          · subst hu; rw [hbel] at g3; cases g3
          · exact hA u g1 (by omega) g3
        · refine hB u (fun q => g ⟨q.1, by omega, q.2.2⟩)
  refine Ok.of (by decide) rfl (Nat.le_of_ble_eq_true rfl) ?_
  refine Go.walk 400 [2] E94 E94_ok (fun G C hG hC => ?_)
  (repeat ((conv => whnf); first | refine ⟨_, by assumption, ?_⟩ | refine ⟨_, _, by assumption, ?_⟩ | refine ⟨(show _ ∧ _ by omega), ?_⟩ | refine ⟨(show _ ∨ _ by omega), ?_⟩ | refine ⟨fun h => absurd h (by decide), fun _ => ?_⟩ | refine ⟨fun _ => ?_, fun h => absurd h (by decide)⟩ | refine ⟨fun _ => ?_, fun h => absurd rfl h⟩ | refine ⟨fun h => absurd rfl h, fun _ => ?_⟩)); try (conv => whnf)
  refine hG _ _ _ _ _ _ ?_
  exact outer (I 362 0 - 1).toNat 1 I (by omega) (by omega) Fr.rf (fun u g1 g2 => absurd g2 (by omega)) (fun u _ => rfl)
end
section
/-! fronts: lists of triples of which none is beaten -/
def lt2 (x y : aT) : Prop := x.1 < y.1 ∨ (x.1 = y.1 ∧ x.2.2 < y.2.2)
def Fro (L : List aT) (X : aT → Prop) : Prop := L.Pairwise lt2 ∧ (∀ x ∈ L, X x) ∧ (∀ x, X x → ∃ o ∈ L, wb o x = true) ∧ (∀ x ∈ L, ∀ y ∈ L, wb x y = true → x = y)
theorem wb_rfl (x : aT) : wb x x = true := wb_iff.mpr ⟨Int.le_refl _, Int.le_refl _, Int.le_refl _⟩
theorem wb_trans {x y z : aT} (h1 : wb x y = true) (h2 : wb y z = true) : wb x z = true := by
  rw [wb_iff] at *
  omega
theorem wb_anti {x y : aT} (h1 : wb x y = true) (h2 : wb y x = true) : x = y := by
  rw [wb_iff] at *
  obtain ⟨a, b, c⟩ := x
  obtain ⟨a', b', c'⟩ := y
  simp only at h1 h2
  have e1 : a = a' := by omega
  have e2 : b = b' := by omega
  have e3 : c = c' := by omega
  rw [e1, e2, e3]
theorem lt2_trans {x y z : aT} (h1 : lt2 x y) (h2 : lt2 y z) : lt2 x z := by
  unfold lt2 at *
  omega
theorem lt2_irrefl {x : aT} : ¬ lt2 x x := by
  unfold lt2
  omega
theorem mts_fro {L L' : List aT} {t : aT} {X : aT → Prop} (h : Fro L X) (hm : Mts L t L') : Fro L' (fun x => X x ∨ x = t) := by
  obtain ⟨hs, hX, hc, ha⟩ := h
  rcases hm with ⟨hany, rfl⟩ | ⟨hany, A, B, hM, hB, hA, rfl⟩
  · obtain ⟨o, ho, hb⟩ := List.any_eq_true.mp hany
    refine ⟨hs, fun x hx => Or.inl (hX x hx), fun x hx => ?_, ha⟩
    rcases hx with hx | rfl
    · exact hc x hx
    · exact ⟨o, ho, hb⟩
  · have hno : ∀ o ∈ L, wb o t = false := fun o ho => by
      have := List.any_eq_false.mp hany o ho
      simpa using this
    have hmem : ∀ x, x ∈ A ++ B ↔ x ∈ L ∧ wb t x = false := fun x => by
      rw [← hM, List.mem_filter]
      simp
    have hMs : (A ++ B).Pairwise lt2 := by rw [← hM]; exact hs.filter _
    obtain ⟨pA, pB, pAB⟩ := List.pairwise_append.mp hMs
    have hAt : ∀ x ∈ A, lt2 x t := by
      intro x hx
      have hne : A ≠ [] := fun e => by rw [e] at hx; cases hx
      have hz : A = A.dropLast ++ [A.getLast hne] := (List.dropLast_concat_getLast hne).symm
      have hzn := hA _ _ hz
      have hzm := (hmem (A.getLast hne)).mp (List.mem_append.mpr (Or.inl (List.getLast_mem hne)))
      have hlast : lt2 (A.getLast hne) t := by
        have h1 := hno _ hzm.1
        have h2 := hzm.2
        simp only [wb, Bool.and_eq_false_iff, decide_eq_false_iff_not] at h1 h2
        unfold gtl at hzn
        unfold lt2
        omega
      rw [hz] at hx pA
      rcases List.mem_append.mp hx with hx | hx
      · exact lt2_trans ((List.pairwise_append.mp pA).2.2 x hx _ (List.mem_singleton_self _)) hlast
      · rw [List.mem_singleton.mp hx]; exact hlast
    have hBt : ∀ x ∈ B, lt2 t x := by
      intro x hx
      have := hB x hx
      unfold gtl at this
      unfold lt2
      omega
    refine ⟨?_, ?_, ?_, ?_⟩
    · refine List.pairwise_append.mpr ⟨pA, List.pairwise_cons.mpr ⟨hBt, pB⟩, fun x hx y hy => ?_⟩
      rcases List.mem_cons.mp hy with rfl | hy
      · exact hAt x hx
      · exact pAB x hx y hy
    · intro x hx
      rcases List.mem_append.mp hx with hx | hx
      · exact Or.inl (hX x ((hmem x).mp (List.mem_append.mpr (Or.inl hx))).1)
      · rcases List.mem_cons.mp hx with hx | hx
        · exact Or.inr hx
        · exact Or.inl (hX x ((hmem x).mp (List.mem_append.mpr (Or.inr hx))).1)
    · intro x hx
      have ht : t ∈ A ++ t :: B := List.mem_append.mpr (Or.inr List.mem_cons_self)
      rcases hx with hx | rfl
      · obtain ⟨o, ho, hb⟩ := hc x hx
        cases hto : wb t o with
        | true => exact ⟨t, ht, wb_trans hto hb⟩
        | false =>
          refine ⟨o, ?_, hb⟩
          rcases List.mem_append.mp ((hmem o).mpr ⟨ho, hto⟩) with q | q
          · exact List.mem_append.mpr (Or.inl q)
          · exact List.mem_append.mpr (Or.inr (List.mem_cons_of_mem _ q))
      · exact ⟨x, ht, wb_rfl x⟩
    · have hcl : ∀ x, x ∈ A ++ t :: B → x = t ∨ (x ∈ L ∧ wb t x = false) := by
        intro x hx
        rcases List.mem_append.mp hx with hx | hx
        · exact Or.inr ((hmem x).mp (List.mem_append.mpr (Or.inl hx)))
        · rcases List.mem_cons.mp hx with hx | hx
          · exact Or.inl hx
          · exact Or.inr ((hmem x).mp (List.mem_append.mpr (Or.inr hx)))
      intro x hx y hy hw
      rcases hcl x hx with rfl | hx2 <;> rcases hcl y hy with rfl | hy2
      · rfl
      · rw [hy2.2] at hw; cases hw
      · rw [hno x hx2.1] at hw; cases hw
      · exact ha x hx2.1 y hy2.1 hw
theorem srt_eq : ∀ (L L' : List aT), L.Pairwise lt2 → L'.Pairwise lt2 → (∀ x, x ∈ L ↔ x ∈ L') → L = L'
  | [], [], _, _, _ => rfl
  | [], y :: l', _, _, h => absurd ((h y).mpr List.mem_cons_self) List.not_mem_nil
  | x :: l, [], _, _, h => absurd ((h x).mp List.mem_cons_self) List.not_mem_nil
  | x :: l, y :: l', h1, h2, h => by
    obtain ⟨a1, b1⟩ := List.pairwise_cons.mp h1
    obtain ⟨a2, b2⟩ := List.pairwise_cons.mp h2
    have e : x = y := by
      rcases List.mem_cons.mp ((h x).mp List.mem_cons_self) with e | hx
      · exact e
      · rcases List.mem_cons.mp ((h y).mpr List.mem_cons_self) with e | hy
        · exact e.symm
        · exact absurd (lt2_trans (a1 y hy) (a2 x hx)) lt2_irrefl
    subst e
    congr 1
    refine srt_eq l l' b1 b2 (fun z => ⟨fun hz => ?_, fun hz => ?_⟩)
    · rcases List.mem_cons.mp ((h z).mp (List.mem_cons_of_mem _ hz)) with e | q
      · rw [e] at hz; exact absurd (a1 _ hz) lt2_irrefl
      · exact q
    · rcases List.mem_cons.mp ((h z).mpr (List.mem_cons_of_mem _ hz)) with e | q
      · rw [e] at hz; exact absurd (a2 _ hz) lt2_irrefl
      · exact q
theorem fro_sub {L L' : List aT} {X : aT → Prop} (h : Fro L X) (h' : Fro L' X) : ∀ x, x ∈ L → x ∈ L' := by
  intro x hx
  obtain ⟨o, ho, hb⟩ := h'.2.2.1 x (h.2.1 x hx)
  obtain ⟨p, hp, hb2⟩ := h.2.2.1 o (h'.2.1 o ho)
  have e := h.2.2.2 p hp x hx (wb_trans hb2 hb)
  subst e
  have := wb_anti hb2 hb
  rw [this]
  exact ho
/-- there is but one -/
theorem fro_one {L L' : List aT} {X : aT → Prop} (h : Fro L X) (h' : Fro L' X) : L = L' := srt_eq L L' h.1 h'.1 (fun x => ⟨fro_sub h h' x, fro_sub h' h x⟩)
theorem fro_of {L : List aT} {X Y : aT → Prop} (h : Fro L X) (h1 : ∀ x, X x → Y x) (h2 : ∀ y, Y y → ∃ x, X x ∧ wb x y = true) : Fro L Y := by
  refine ⟨h.1, fun x hx => h1 x (h.2.1 x hx), fun y hy => ?_, h.2.2.2⟩
  obtain ⟨x, hx, hb⟩ := h2 y hy
  obtain ⟨o, ho, hb2⟩ := h.2.2.1 x hx
  exact ⟨o, ho, wb_trans hb2 hb⟩
theorem fro_nil : Fro [] (fun _ => False) := ⟨List.Pairwise.nil, fun _ h => absurd h List.not_mem_nil, fun _ h => h.elim, fun _ h => absurd h List.not_mem_nil⟩
theorem mts_len {L L' : List aT} {t : aT} (h : Mts L t L') : L'.length ≤ L.length + 1 := by
  rcases h with ⟨-, rfl⟩ | ⟨-, A, B, hM, -, -, rfl⟩
  · omega
  · have h1 : (A ++ B).length ≤ L.length := by rw [← hM]; exact List.length_filter_le _ _
    rw [List.length_append] at h1
    rw [List.length_append, List.length_cons]
    omega
/-! all ways to place repeaters at a node and below it -/
def Asg (n : aN) (top : Int) (pl : Int → Int) : Prop := ∀ v, 0 ≤ v → v < n 0 → ((1 ≤ v ∧ bel n v top = true) → pl v = 0 ∨ isK n (pl v)) ∧ (¬ (1 ≤ v ∧ bel n v top = true) → pl v = 0)
theorem Asg.pl {n : aN} (hW : WF n) {top : Int} {pl : Int → Int} (h : Asg n top pl) : PlOk n pl := by
  have hN := hW.1
  refine ⟨fun v h0 h1 => ?_, (h 0 (by omega) (by omega)).2 (by omega)⟩
  by_cases hc : 1 ≤ v ∧ bel n v top = true
  · rcases (h v h0 h1).1 hc with e | e
    · omega
    · exact ⟨by have := e.1; omega, e.2.1⟩
  · have := (h v h0 h1).2 hc
    omega
def dg (n : aN) (pl : Int → Int) (v : Int) : Int := if v < n 0 then pl v else 0
def val (n : aN) (pl : Int → Int) : Int := dg n pl 1 + 4 * dg n pl 2 + 16 * dg n pl 3 + 64 * dg n pl 4 + 256 * dg n pl 5
theorem dg_bd {n : aN} (hW : WF n) {top : Int} {pl : Int → Int} (h : Asg n top pl) {v : Int} (h0 : 0 ≤ v) : 0 ≤ dg n pl v ∧ dg n pl v ≤ 3 := by
  unfold dg
  split
  · rename_i h1
    exact (h.pl hW).1 v h0 h1
  · omega
theorem val_bd {n : aN} (hW : WF n) {top : Int} {pl : Int → Int} (h : Asg n top pl) : 0 ≤ val n pl ∧ val n pl ≤ 1023 := by
  have h1 := dg_bd hW h (show (0 : Int) ≤ 1 by omega)
  have h2 := dg_bd hW h (show (0 : Int) ≤ 2 by omega)
  have h3 := dg_bd hW h (show (0 : Int) ≤ 3 by omega)
  have h4 := dg_bd hW h (show (0 : Int) ≤ 4 by omega)
  have h5 := dg_bd hW h (show (0 : Int) ≤ 5 by omega)
  unfold val
  omega
theorem val_inj {n : aN} (hW : WF n) {top : Int} {pl pl' : Int → Int} (h : Asg n top pl) (h' : Asg n top pl') (e : val n pl = val n pl') : ∀ v, 0 ≤ v → v < n 0 → pl v = pl' v := by
  have hN := hW.1
  have a1 := dg_bd hW h (show (0 : Int) ≤ 1 by omega)
  have a2 := dg_bd hW h (show (0 : Int) ≤ 2 by omega)
  have a3 := dg_bd hW h (show (0 : Int) ≤ 3 by omega)
  have a4 := dg_bd hW h (show (0 : Int) ≤ 4 by omega)
  have a5 := dg_bd hW h (show (0 : Int) ≤ 5 by omega)
  have b1 := dg_bd hW h' (show (0 : Int) ≤ 1 by omega)
  have b2 := dg_bd hW h' (show (0 : Int) ≤ 2 by omega)
  have b3 := dg_bd hW h' (show (0 : Int) ≤ 3 by omega)
  have b4 := dg_bd hW h' (show (0 : Int) ≤ 4 by omega)
  have b5 := dg_bd hW h' (show (0 : Int) ≤ 5 by omega)
  unfold val at e
  have c1 : dg n pl 1 = dg n pl' 1 := by omega
  have c2 : dg n pl 2 = dg n pl' 2 := by omega
  have c3 : dg n pl 3 = dg n pl' 3 := by omega
  have c4 : dg n pl 4 = dg n pl' 4 := by omega
  have c5 : dg n pl 5 = dg n pl' 5 := by omega
  intro v h0 h1
  have hz := (h.pl hW).2
  have hz' := (h'.pl hW).2
  have key : ∀ w : Int, w < n 0 → dg n pl w = dg n pl' w → pl w = pl' w := fun w hw he => by
    simp only [dg, if_pos hw] at he
    exact he
  rcases (show v = 0 ∨ v = 1 ∨ v = 2 ∨ v = 3 ∨ v = 4 ∨ v = 5 by omega) with rfl | rfl | rfl | rfl | rfl | rfl
  · rw [hz, hz']
  · exact key 1 h1 c1
  · exact key 2 h1 c2
  · exact key 3 h1 c3
  · exact key 4 h1 c4
  · exact key 5 h1 c5
theorem digit_max {n : aN} {k x : Int} (hk : Nk n k 4) (hx : x = 0 ∨ isK n x) (h0 : 0 ≤ k) : x ≤ k := by
  rcases hx with rfl | hx
  · exact h0
  · by_cases h : x ≤ k
    · exact h
    · exact absurd hx (hk.2.2.2 x (by omega) (by have := hx.2.1; omega))
theorem digit_nxt {n : aN} {k j x : Int} (hk : Nk n k j) (hx : x = 0 ∨ isK n x) (h0 : 0 ≤ k) : x ≤ k ∨ j ≤ x := by
  rcases hx with rfl | hx
  · exact Or.inl h0
  · by_cases h : x ≤ k
    · exact Or.inl h
    · by_cases h2 : j ≤ x
      · exact Or.inr h2
      · exact absurd hx (hk.2.2.2 x (by omega) (by omega))
/-- the next way comes just behind -/
theorem val_next {n : aN} (hW : WF n) {top v0 : Int} {pl p2 px : Int → Int} (h : Asg n top pl) (hx : Asg n top px) (h1 : 1 ≤ v0) (h2 : v0 < n 0) (hb : bel n v0 top = true) (hn : Nk n (pl v0) (p2 v0)) (h4 : p2 v0 < 4)
    (hlo : ∀ u, 1 ≤ u → u < v0 → bel n u top = true → Nk n (pl u) 4 ∧ p2 u = 0) (hhi : ∀ u, ¬ (1 ≤ u ∧ u ≤ v0 ∧ bel n u top = true) → p2 u = pl u) : Asg n top p2 ∧ val n pl < val n p2 ∧ (val n px < val n p2 → val n px ≤ val n pl) := by
  have hN := hW.1
  have hA : Asg n top p2 := by
    intro v g0 g1
    refine ⟨fun hc => ?_, fun hc => ?_⟩
    · by_cases e : v = v0
      · subst e; exact Or.inr (hn.2.2.1 h4)
      · by_cases e2 : v < v0
        · exact Or.inl (hlo v hc.1 e2 hc.2).2
        · rw [hhi v (by omega)]; exact (h v g0 g1).1 hc
    · rw [hhi v (fun q => hc ⟨q.1, q.2.2⟩)]; exact (h v g0 g1).2 hc
  have dlo : ∀ u, 1 ≤ u → u < v0 → dg n p2 u = 0 ∧ dg n px u ≤ dg n pl u := by
    intro u g1 g2
    have hu : u < n 0 := by omega
    simp only [dg, if_pos hu]
    by_cases hbu : bel n u top = true
    · exact ⟨(hlo u g1 g2 hbu).2, digit_max (hlo u g1 g2 hbu).1 ((hx u (by omega) hu).1 ⟨g1, hbu⟩) ((h.pl hW).1 u (by omega) hu).1⟩
    · rw [hhi u (fun q => hbu q.2.2), (h u (by omega) hu).2 (fun q => hbu q.2), (hx u (by omega) hu).2 (fun q => hbu q.2)]
      omega
  have dhi : ∀ u, v0 < u → dg n p2 u = dg n pl u := by
    intro u g
    unfold dg
    rw [hhi u (by omega)]
  have dat : dg n pl v0 < dg n p2 v0 ∧ (dg n px v0 ≤ dg n pl v0 ∨ dg n p2 v0 ≤ dg n px v0) := by
    simp only [dg, if_pos h2]
    exact ⟨hn.1, digit_nxt hn ((hx v0 (by omega) h2).1 ⟨h1, hb⟩) ((h.pl hW).1 v0 (by omega) h2).1⟩
  have a1 := dg_bd hW h (show (0 : Int) ≤ 1 by omega)
  have a2 := dg_bd hW h (show (0 : Int) ≤ 2 by omega)
  have a3 := dg_bd hW h (show (0 : Int) ≤ 3 by omega)
  have a4 := dg_bd hW h (show (0 : Int) ≤ 4 by omega)
  have a5 := dg_bd hW h (show (0 : Int) ≤ 5 by omega)
  have b1 := dg_bd hW hx (show (0 : Int) ≤ 1 by omega)
  have b2 := dg_bd hW hx (show (0 : Int) ≤ 2 by omega)
  have b3 := dg_bd hW hx (show (0 : Int) ≤ 3 by omega)
  have b4 := dg_bd hW hx (show (0 : Int) ≤ 4 by omega)
  have b5 := dg_bd hW hx (show (0 : Int) ≤ 5 by omega)
  have e1 := dg_bd hW hA (show (0 : Int) ≤ 1 by omega)
  have e2 := dg_bd hW hA (show (0 : Int) ≤ 2 by omega)
  have e3 := dg_bd hW hA (show (0 : Int) ≤ 3 by omega)
  have e4 := dg_bd hW hA (show (0 : Int) ≤ 4 by omega)
  have e5 := dg_bd hW hA (show (0 : Int) ≤ 5 by omega)
  refine ⟨hA, ?_⟩
  unfold val
  rcases (show v0 = 1 ∨ v0 = 2 ∨ v0 = 3 ∨ v0 = 4 ∨ v0 = 5 by omega) with rfl | rfl | rfl | rfl | rfl
  · have := dhi 2 (by omega); have := dhi 3 (by omega); have := dhi 4 (by omega); have := dhi 5 (by omega)
    omega
  · have := dlo 1 (by omega) (by omega); have := dhi 3 (by omega); have := dhi 4 (by omega); have := dhi 5 (by omega)
    omega
  · have := dlo 1 (by omega) (by omega); have := dlo 2 (by omega) (by omega); have := dhi 4 (by omega); have := dhi 5 (by omega)
    omega
  · have := dlo 1 (by omega) (by omega); have := dlo 2 (by omega) (by omega); have := dlo 3 (by omega) (by omega); have := dhi 5 (by omega)
    omega
  · have := dlo 1 (by omega) (by omega); have := dlo 2 (by omega) (by omega); have := dlo 3 (by omega) (by omega); have := dlo 4 (by omega) (by omega)
    omega
/-- none comes behind the last -/
theorem val_last {n : aN} (hW : WF n) {top : Int} {pl px : Int → Int} (h : Asg n top pl) (hx : Asg n top px) (hlo : ∀ u, 1 ≤ u → u < n 0 → bel n u top = true → Nk n (pl u) 4) : val n px ≤ val n pl := by
  have hN := hW.1
  have key : ∀ u, 1 ≤ u → dg n px u ≤ dg n pl u := by
    intro u g1
    unfold dg
    split
    · rename_i hu
      by_cases hbu : bel n u top = true
      · exact digit_max (hlo u g1 hu hbu) ((hx u (by omega) hu).1 ⟨g1, hbu⟩) ((h.pl hW).1 u (by omega) hu).1
      · rw [(h u (by omega) hu).2 (fun q => hbu q.2), (hx u (by omega) hu).2 (fun q => hbu q.2)]
        omega
    · omega
  have := key 1 (by omega); have := key 2 (by omega); have := key 3 (by omega); have := key 4 (by omega); have := key 5 (by omega)
  unfold val
  omega
end
section
/-! the reference: seeks, seeksPoints -/
theorem iR_t32 (x : Int32) : iR x.toInt := ⟨by have := Int32.le_toInt x; omega, by have := Int32.toInt_lt x; omega⟩
theorem iR_mWrong {n : aN} {tu : Int → Int} {top : Int} : iR (mWrong n tu top) := by
  unfold mWrong
  by_cases h : (1 : Int) ≤ n 0
  · exact rf_inv (fun _ x => iR x) iR0 (n 0 - 1).toNat (n 0) (by omega) (fun u x _ _ _ => iR_t32 _)
  · rw [rf_nil (by omega)]; exact iR0
theorem mSlack_bd {n : aN} (hW : WF n) {tm : Int → Int} {top : Int} (h : ∀ v, 1 ≤ v → v < n 0 → bel n v top = true → 0 ≤ tm v ∧ tm v ≤ 920000) : -920000 ≤ mSlack n tm top ∧ mSlack n tm top ≤ 900000 := by
  have hN := hW.1
  unfold mSlack
  refine rf_inv (fun _ x => -920000 ≤ x ∧ x ≤ 900000) (by omega) (n 0 - 1).toNat (n 0) (by omega) (fun u x h1 h2 h3 => ?_)
  split
  · rename_i hc
    simp only [Bool.and_eq_true, decide_eq_true_eq] at hc
    have := h u h1 h2 hc.1.1
    have := hW.2.1 u (by omega) (by omega)
    omega
  · exact h3
theorem mCost_bd {n : aN} (hW : WF n) {pl : Int → Int} {top : Int} (hp : PlOk n pl) : 0 ≤ mCost n pl top ∧ mCost n pl top ≤ 495 := by
  have hN := hW.1
  unfold mCost
  have key := rf_inv (f := fun v s => s + (if (bel n v top && decide (0 < pl v)) = true then kf n (pl v) 4 else 0)) (a := (0 : Int)) (lo := 1) (fun u x => 0 ≤ x ∧ x ≤ 99 * (u - 1)) (by omega) (n 0 - 1).toNat (n 0) (by omega) (fun u x h1 h2 h3 => by
    split
    · rename_i hc
      simp only [Bool.and_eq_true, decide_eq_true_eq] at hc
      have := hp.1 u (by omega) h2
      have := hW.2.2.2.2.2 (pl u) (by omega) (by omega)
      omega
    · omega)
  omega
def trp (n : aN) (pl : Int → Int) (top : Int) : aT := (sho n pl (wd0 n) top, mSlack n (tim n pl (wd0 n) top 0) top, mCost n pl top)
def tB (x : aT) : Prop := (0 ≤ x.1 ∧ x.1 ≤ 15000) ∧ (-920000 ≤ x.2.1 ∧ x.2.1 ≤ 900000) ∧ (0 ≤ x.2.2 ∧ x.2.2 ≤ 495)
theorem tB.tR {x : aT} (h : tB x) : tR x := by
  obtain ⟨h1, h2, h3⟩ := h
  exact ⟨by omega, by omega, by omega⟩
theorem sho_bd {n : aN} (hW : WF n) {pl wd : Int → Int} (hp : PlOk n pl) (hw : WdOk n wd) {v : Int} (h0 : 0 ≤ v) (h1 : v < n 0) : 0 ≤ sho n pl wd v ∧ sho n pl wd v ≤ 15000 := by
  have hb := bea_bd hW hp.1 hw h0 h1
  have := hp.1 v h0 h1
  simp only [sho, mShow]
  split
  · have := hW.2.2.2.2.2 (pl v) (by omega) (by omega)
    omega
  · omega
theorem trp_bd {n : aN} (hW : WF n) {pl : Int → Int} {top : Int} (hp : PlOk n pl) (ht : 0 ≤ top ∧ top < n 0) : tB (trp n pl top) := by
  refine ⟨sho_bd hW hp (wd0_ok hW) ht.1 ht.2, mSlack_bd hW (fun v h1 h2 h3 => ?_), mCost_bd hW hp⟩
  by_cases hv : top ≤ v
  · exact tim_bd hW ht.1 (by omega) hp.1 hp.2 (wd0_ok hW) hv h2 h3
  · simp only [bel, decide_eq_true_eq] at h3
    rw [climb_id (by omega)] at h3
    omega
def WaysX (n : aN) (top turn : Int) : aT → Prop := fun x => ∃ pl, Asg n top pl ∧ mWrong n (tur n pl top turn) top = 0 ∧ x = trp n pl top
theorem bel_le {n : aN} {v top : Int} (h : bel n v top = true) : top ≤ v := by
  by_cases hv : top ≤ v
  · exact hv
  · simp only [bel, decide_eq_true_eq] at h
    rw [climb_id (by omega)] at h
    omega
theorem trp_cong {n : aN} (hW : WF n) {pl pl' : Int → Int} {top : Int} (ht : 0 ≤ top ∧ top < n 0) (h : ∀ v, 0 ≤ v → v < n 0 → pl' v = pl v) : trp n pl' top = trp n pl top := by
  have e1 : sho n pl' (wd0 n) top = sho n pl (wd0 n) top := sho_cong ht.1 (h top ht.1 ht.2) (fun u h3 h4 => ⟨h u (by omega) h4, rfl⟩)
  have e2 : mSlack n (tim n pl' (wd0 n) top 0) top = mSlack n (tim n pl (wd0 n) top 0) top := mSlack_cong (fun v h1 h2 h3 => cT_cong hW ht.1 (fun u h4 h5 => h u (by omega) h5) (fun _ _ _ => rfl) 6 v (bel_le h3) h2 h3)
  have e3 : mCost n pl' top = mCost n pl top := mCost_cong (fun v h1 h2 _ => h v (by omega) h2)
  unfold trp
  rw [e1, e2, e3]
theorem wrong_cong {n : aN} (hW : WF n) {pl pl' : Int → Int} {top turn : Int} (ht : 0 ≤ top ∧ top < n 0) (h : ∀ v, 0 ≤ v → v < n 0 → pl' v = pl v) : mWrong n (tur n pl' top turn) top = mWrong n (tur n pl top turn) top :=
  mWrong_cong (fun v h1 h2 h3 => cU_cong hW ht.1 (fun u h4 h5 => h u (by omega) h5) 6 v (bel_le h3) h2 h3)
/-- seeks(top, turn) -/
theorem ok_seeks {P : aP} {d : Nat} {K : aK} {I : aI} {R : aR} {S : aS} {top turn : Int} (hM : MS R S) (hW : WF (I 362)) (ht : 0 ≤ top ∧ top < I 362 0) (hturn : 0 ≤ turn ∧ turn ≤ 1)
    (hK : ∀ I' L, MF [368, 369, 370, 371, 372, 373, 374, 375, 376] [18] I I' → Fro L (WaysX (I 362) top turn) → I' 361 18 = L.length → Hd I' 374 375 376 L → L.length ≤ 1024 → (∀ x ∈ L, tB x) → K none I' R S) : Ok P 97 (d + 5) [vr 361, vi top, vi turn] I R S K := by
  obtain ⟨m0, r1, m1, r2, m2, r3, m3, r4, m4, r5, m5, r6, m6, r7, m7, r8, m8, r9, m9, r10, m10, r11, m11, r12, m12, r13, m13, r14, m14, r15, m15⟩ := id hM
  have hN := hW.1
  have hwd := wd0_ok hW
  have hbX : ∀ (L : List aT) (Z : (Int → Int) → Prop), Fro L (fun x => ∃ pl, Asg (I 362) top pl ∧ mWrong (I 362) (tur (I 362) pl top turn) top = 0 ∧ x = trp (I 362) pl top ∧ Z pl) → ∀ x ∈ L, tB x := by
    intro L Z h x hx
    obtain ⟨pl, h1, -, h3, -⟩ := h.2.1 x hx
    rw [h3]
    exact trp_bd hW (h1.pl hW) ht
  have main : ∀ (k : Nat) (I' : aI) (L : List aT), 1024 - val (I 362) (I' 368) = k → MF [368, 369, 370, 371, 372, 373, 374, 375, 376] [18] I I' → Asg (I 362) top (I' 368) → (∀ v, 1 ≤ v → v < I 362 0 → I' 369 v = wd0 (I 362) v) →
      Fro L (fun x => ∃ pl, Asg (I 362) top pl ∧ mWrong (I 362) (tur (I 362) pl top turn) top = 0 ∧ x = trp (I 362) pl top ∧ val (I 362) pl < val (I 362) (I' 368)) → I' 361 18 = L.length → Hd I' 374 375 376 L → L.length ≤ val (I 362) (I' 368) →
      Go P 97 (d + 5) K 36 [vr 361, vi top, vi turn, vi 1] [] I' R S := by
    intro k
    induction k using Nat.strongRecOn with
    | _ k ih =>
    intro I' L hk hF hA h9 hL hsz hHd hlen
    have e : I' 362 = I 362 := hF.1 362 (by decide)
    have hp := hA.pl hW
    have hvb := val_bd hW hA
    -- behind the meeting
    have tail : ∀ (I3 : aI) (L3 : List aT), MF [368, 369, 370, 371, 372, 373, 374, 375, 376] [18] I I3 → I3 368 = I' 368 → I3 369 = I' 369 → Fro L3 (fun x => ∃ pl, Asg (I 362) top pl ∧ mWrong (I 362) (tur (I 362) pl top turn) top = 0 ∧ x = trp (I 362) pl top ∧ val (I 362) pl ≤ val (I 362) (I' 368)) → I3 361 18 = L3.length → Hd I3 374 375 376 L3 → L3.length ≤ val (I 362) (I' 368) + 1 →
        Go P 97 (d + 5) K 75 [vr 361, vi top, vi turn, vi 1] [] I3 R S := by
      intro I3 L3 hF3 e8 e9 hL3 hsz3 hHd3 hlen3
      have e3 : I3 362 = I 362 := hF3.1 362 (by decide)
      refine Go.walk 400 [36, 75] E97 E97_ok (fun G C hG hC => ?_)
      (repeat ((conv => whnf); first | refine ⟨_, by assumption, ?_⟩ | refine ⟨_, _, by assumption, ?_⟩ | refine ⟨(show _ ∧ _ by omega), ?_⟩ | refine ⟨(show _ ∨ _ by omega), ?_⟩ | refine ⟨fun h => absurd h (by decide), fun _ => ?_⟩ | refine ⟨fun _ => ?_, fun h => absurd h (by decide)⟩ | refine ⟨fun _ => ?_, fun h => absurd rfl h⟩ | refine ⟨fun h => absurd rfl h, fun _ => ?_⟩)); try (conv => whnf)
      refine hC _ _ _ _ _ _ ?_
      refine ok_isNext hM (by rw [e3]; exact hW) (by omega) (by rw [e3, e8]; exact fun v g1 g2 _ => hp.1 v (by omega) g2) (fun I4 v0 hF4 g1 g2 g3 g4 g5 g6 g7 => ?_) (fun I4 hF4 g1 => ?_)
      · rw [e3, e8] at g4
        rw [e3] at g2 g3
        rw [e3, e8] at g6
        rw [e3, e8] at g7
        obtain ⟨n1, n2, -⟩ := val_next hW hA hA g1 g2 g3 g4 g5 g6 g7
        have n3 : ∀ px, Asg (I 362) top px → val (I 362) px < val (I 362) (I4 368) → val (I 362) px ≤ val (I 362) (I' 368) := fun px hx => (val_next hW hA hx g1 g2 g3 g4 g5 g6 g7).2.2
        have hvb4 := val_bd hW n1
        (repeat ((conv => whnf); first | refine ⟨_, by assumption, ?_⟩ | refine ⟨_, _, by assumption, ?_⟩ | refine ⟨(show _ ∧ _ by omega), ?_⟩ | refine ⟨(show _ ∨ _ by omega), ?_⟩ | refine ⟨fun h => absurd h (by decide), fun _ => ?_⟩ | refine ⟨fun _ => ?_, fun h => absurd h (by decide)⟩ | refine ⟨fun _ => ?_, fun h => absurd rfl h⟩ | refine ⟨fun h => absurd rfl h, fun _ => ?_⟩)); try (conv => whnf)
        refine hG _ _ _ _ _ _ ?_
        refine ih (1024 - val (I 362) (I4 368)).toNat (by omega) I4 L3 (by omega) (hF3.trans (MF.of (J := []) hF4 (by decide)) (by simp; omega) (by simp)) n1 (fun v q1 q2 => by rw [hF4 369 (by decide), e9]; exact h9 v q1 q2) ?_ ?_ ?_ (by omega)
        · refine fro_of hL3 (fun x hx => ?_) (fun y hy => ?_)
          · obtain ⟨pl, a1, a2, a3, a4⟩ := hx
            exact ⟨pl, a1, a2, a3, by omega⟩
          · obtain ⟨pl, a1, a2, a3, a4⟩ := hy
            exact ⟨y, ⟨pl, a1, a2, a3, n3 pl a1 a4⟩, wb_rfl y⟩
        · rw [hF4 361 (by decide)]; exact hsz3
        · intro i t h
          rw [hF4 374 (by decide), hF4 375 (by decide), hF4 376 (by decide)]
          exact hHd3 i t h
      · rw [e3, e8] at g1
        have hall : ∀ px, Asg (I 362) top px → val (I 362) px ≤ val (I 362) (I' 368) := fun px hx => val_last hW hA hx g1
        (repeat ((conv => whnf); first | refine ⟨_, by assumption, ?_⟩ | refine ⟨_, _, by assumption, ?_⟩ | refine ⟨(show _ ∧ _ by omega), ?_⟩ | refine ⟨(show _ ∨ _ by omega), ?_⟩ | refine ⟨fun h => absurd h (by decide), fun _ => ?_⟩ | refine ⟨fun _ => ?_, fun h => absurd h (by decide)⟩ | refine ⟨fun _ => ?_, fun h => absurd rfl h⟩ | refine ⟨fun h => absurd rfl h, fun _ => ?_⟩)); try (conv => whnf)
        refine hG _ _ _ _ _ _ ?_
        refine Go.walk 400 [] E97 E97_ok (fun G C hG hC => ?_)
        (repeat ((conv => whnf); first | refine ⟨_, by assumption, ?_⟩ | refine ⟨_, _, by assumption, ?_⟩ | refine ⟨(show _ ∧ _ by omega), ?_⟩ | refine ⟨(show _ ∨ _ by omega), ?_⟩ | refine ⟨fun h => absurd h (by decide), fun _ => ?_⟩ | refine ⟨fun _ => ?_, fun h => absurd h (by decide)⟩ | refine ⟨fun _ => ?_, fun h => absurd rfl h⟩ | refine ⟨fun h => absurd rfl h, fun _ => ?_⟩)); try (conv => whnf)
        refine hK I4 L3 (hF3.trans (MF.of (J := []) hF4 (by decide)) (by simp; omega) (by simp)) ?_ ?_ ?_ (by omega) (hbX L3 _ hL3)
        · refine fro_of hL3 (fun x hx => ?_) (fun y hy => ?_)
          · obtain ⟨pl, a1, a2, a3, a4⟩ := hx
            exact ⟨pl, a1, a2, a3⟩
          · obtain ⟨pl, a1, a2, a3⟩ := hy
            exact ⟨y, ⟨pl, a1, a2, a3, hall pl a1⟩, wb_rfl y⟩
        · rw [hF4 361 (by decide)]; exact hsz3
        · intro i t h
          rw [hF4 374 (by decide), hF4 375 (by decide), hF4 376 (by decide)]
          exact hHd3 i t h
    refine Go.walk 400 [36, 75] E97 E97_ok (fun G C hG hC => ?_)
    (repeat ((conv => whnf); first | refine ⟨_, by assumption, ?_⟩ | refine ⟨_, _, by assumption, ?_⟩ | refine ⟨(show _ ∧ _ by omega), ?_⟩ | refine ⟨(show _ ∨ _ by omega), ?_⟩ | refine ⟨fun h => absurd h (by decide), fun _ => ?_⟩ | refine ⟨fun _ => ?_, fun h => absurd h (by decide)⟩ | refine ⟨fun _ => ?_, fun h => absurd rfl h⟩ | refine ⟨fun h => absurd rfl h, fun _ => ?_⟩)); try (conv => whnf)
    refine hC _ _ _ _ _ _ ?_
    refine ok_runs2 hM (by rw [e]; exact hW) (by rw [e]; exact ht) hturn (by rw [e]; exact hp.1) (by rw [e]; exact fun v g1 g2 => by rw [h9 v g1 g2]; exact hwd v g1 g2) (fun I2 hF2 hran => ?_)
    rw [e] at hran
    have e2 : I2 362 = I 362 := by rw [hF2 362 (by decide), e]
    have hF2' : MF [368, 369, 370, 371, 372, 373, 374, 375, 376] [18] I I2 := hF.trans (MF.of (J := []) hF2 (by decide)) (by simp; omega) (by simp)
    have htm : ∀ v, 1 ≤ v → v < I 362 0 → bel (I 362) v top = true → I2 372 v = tim (I 362) (I' 368) (wd0 (I 362)) top 0 v := fun v g1 g2 g3 => by
      rw [(hran.2 v (bel_le g3) g2 g3).1]
      exact cT_cong hW ht.1 (fun _ _ _ => rfl) (fun u g4 g5 => h9 u (by omega) g5) 6 v (bel_le g3) g2 g3
    have htu : ∀ v, 1 ≤ v → v < I 362 0 → bel (I 362) v top = true → I2 373 v = tur (I 362) (I' 368) top turn v := fun v g1 g2 g3 => (hran.2 v (bel_le g3) g2 g3).2
    have hsh : I2 371 top = sho (I 362) (I' 368) (wd0 (I 362)) top := by
      rw [(hran.1 top ht.1 ht.2).2]
      exact sho_cong ht.1 rfl (fun u g4 g5 => ⟨rfl, h9 u (by omega) g5⟩)
    have hwr : mWrong (I 362) (I2 373) top = mWrong (I 362) (tur (I 362) (I' 368) top turn) top := mWrong_cong htu
    have hiw := iR_mWrong (n := I 362) (tu := tur (I 362) (I' 368) top turn) (top := top)
    (repeat ((conv => whnf); first | refine ⟨_, by assumption, ?_⟩ | refine ⟨_, _, by assumption, ?_⟩ | refine ⟨(show _ ∧ _ by omega), ?_⟩ | refine ⟨(show _ ∨ _ by omega), ?_⟩ | refine ⟨fun h => absurd h (by decide), fun _ => ?_⟩ | refine ⟨fun _ => ?_, fun h => absurd h (by decide)⟩ | refine ⟨fun _ => ?_, fun h => absurd rfl h⟩ | refine ⟨fun h => absurd rfl h, fun _ => ?_⟩)); try (conv => whnf)
    refine hC _ _ _ _ _ _ ?_
    refine ok_wrong hM (by rw [e2]; exact hW) (by omega) (by rw [e2]; exact fun v g1 g2 g3 => by rw [htu v g1 g2 g3]; exact cU_01 6 v) ?_
    rw [e2, hwr]
    (repeat ((conv => whnf); first | refine ⟨_, by assumption, ?_⟩ | refine ⟨_, _, by assumption, ?_⟩ | refine ⟨(show _ ∧ _ by omega), ?_⟩ | refine ⟨(show _ ∨ _ by omega), ?_⟩ | refine ⟨fun h => absurd h (by decide), fun _ => ?_⟩ | refine ⟨fun _ => ?_, fun h => absurd h (by decide)⟩ | refine ⟨fun _ => ?_, fun h => absurd rfl h⟩ | refine ⟨fun h => absurd rfl h, fun _ => ?_⟩)); try (conv => whnf)
    refine ⟨fun hne => ?_, fun heq => ?_⟩
    · (repeat ((conv => whnf); first | refine ⟨_, by assumption, ?_⟩ | refine ⟨_, _, by assumption, ?_⟩ | refine ⟨(show _ ∧ _ by omega), ?_⟩ | refine ⟨(show _ ∨ _ by omega), ?_⟩ | refine ⟨fun h => absurd h (by decide), fun _ => ?_⟩ | refine ⟨fun _ => ?_, fun h => absurd h (by decide)⟩ | refine ⟨fun _ => ?_, fun h => absurd rfl h⟩ | refine ⟨fun h => absurd rfl h, fun _ => ?_⟩)); try (conv => whnf)
      refine hG _ _ _ _ _ _ ?_
      refine tail I2 L hF2' (hF2 368 (by decide)) (hF2 369 (by decide)) ?_ ?_ ?_ (by omega)
      · refine fro_of hL (fun x hx => ?_) (fun y hy => ?_)
        · obtain ⟨pl, a1, a2, a3, a4⟩ := hx
          exact ⟨pl, a1, a2, a3, by omega⟩
        · obtain ⟨pl, a1, a2, a3, a4⟩ := hy
          refine ⟨y, ⟨pl, a1, a2, a3, ?_⟩, wb_rfl y⟩
          by_cases hv : val (I 362) pl = val (I 362) (I' 368)
          · have := val_inj hW a1 hA hv
            rw [wrong_cong hW ht this] at a2
            exact absurd a2 hne
          · omega
      · rw [hF2 361 (by decide)]; exact hsz
      · intro i t h
        rw [hF2 374 (by decide), hF2 375 (by decide), hF2 376 (by decide)]
        exact hHd i t h
    · (repeat ((conv => whnf); first | refine ⟨_, by assumption, ?_⟩ | refine ⟨_, _, by assumption, ?_⟩ | refine ⟨(show _ ∧ _ by omega), ?_⟩ | refine ⟨(show _ ∨ _ by omega), ?_⟩ | refine ⟨fun h => absurd h (by decide), fun _ => ?_⟩ | refine ⟨fun _ => ?_, fun h => absurd h (by decide)⟩ | refine ⟨fun _ => ?_, fun h => absurd rfl h⟩ | refine ⟨fun h => absurd rfl h, fun _ => ?_⟩)); try (conv => whnf)
      refine hC _ _ _ _ _ _ ?_
      refine ok_slack hM (by rw [e2]; exact hW) (by omega) (by rw [e2]; exact fun v g1 g2 g3 => by rw [htm v g1 g2 g3]; exact tim_bd hW ht.1 (by omega) hp.1 hp.2 hwd (bel_le g3) g2 g3) ?_
      rw [e2, mSlack_cong htm]
      (repeat ((conv => whnf); first | refine ⟨_, by assumption, ?_⟩ | refine ⟨_, _, by assumption, ?_⟩ | refine ⟨(show _ ∧ _ by omega), ?_⟩ | refine ⟨(show _ ∨ _ by omega), ?_⟩ | refine ⟨fun h => absurd h (by decide), fun _ => ?_⟩ | refine ⟨fun _ => ?_, fun h => absurd h (by decide)⟩ | refine ⟨fun _ => ?_, fun h => absurd rfl h⟩ | refine ⟨fun h => absurd rfl h, fun _ => ?_⟩)); try (conv => whnf)
      refine hC _ _ _ _ _ _ ?_
      refine ok_cost hM (by rw [e2]; exact hW) (by omega) (by rw [e2, hF2 368 (by decide)]; exact fun v g1 g2 => hp.1 v (by omega) g2) ?_
      rw [e2, hF2 368 (by decide)]
      (repeat ((conv => whnf); first | refine ⟨_, by assumption, ?_⟩ | refine ⟨_, _, by assumption, ?_⟩ | refine ⟨(show _ ∧ _ by omega), ?_⟩ | refine ⟨(show _ ∨ _ by omega), ?_⟩ | refine ⟨fun h => absurd h (by decide), fun _ => ?_⟩ | refine ⟨fun _ => ?_, fun h => absurd h (by decide)⟩ | refine ⟨fun _ => ?_, fun h => absurd rfl h⟩ | refine ⟨fun h => absurd rfl h, fun _ => ?_⟩)); try (conv => whnf)
      rw [hsh]
      refine hC _ _ _ _ _ _ ?_
      refine ok_meets (t := trp (I 362) (I' 368) top) (L := L) hM (by rw [hF2 361 (by decide)]; exact hsz) (fun i t h => by rw [hF2 374 (by decide), hF2 375 (by decide), hF2 376 (by decide)]; exact hHd i t h) (by omega) (trp_bd hW hp ht).tR (fun x hx => (hbX L _ hL x hx).tR) (fun I3 L3 hF3 hmt hsz3 hHd3 => ?_)
      (repeat ((conv => whnf); first | refine ⟨_, by assumption, ?_⟩ | refine ⟨_, _, by assumption, ?_⟩ | refine ⟨(show _ ∧ _ by omega), ?_⟩ | refine ⟨(show _ ∨ _ by omega), ?_⟩ | refine ⟨fun h => absurd h (by decide), fun _ => ?_⟩ | refine ⟨fun _ => ?_, fun h => absurd h (by decide)⟩ | refine ⟨fun _ => ?_, fun h => absurd rfl h⟩ | refine ⟨fun h => absurd rfl h, fun _ => ?_⟩)); try (conv => whnf)
      refine hG _ _ _ _ _ _ ?_
      have hl3 := mts_len hmt
      refine tail I3 L3 (hF2'.trans hF3 (by simp; omega) (by simp)) (by rw [hF3.1 368 (by decide), hF2 368 (by decide)]) (by rw [hF3.1 369 (by decide), hF2 369 (by decide)]) ?_ hsz3 hHd3 (by omega)
      refine fro_of (mts_fro hL hmt) (fun x hx => ?_) (fun y hy => ?_)
      · rcases hx with hx | rfl
        · obtain ⟨pl, a1, a2, a3, a4⟩ := hx
          exact ⟨pl, a1, a2, a3, by omega⟩
        · exact ⟨I' 368, hA, heq, rfl, by omega⟩
      · obtain ⟨pl, a1, a2, a3, a4⟩ := hy
        refine ⟨y, ?_, wb_rfl y⟩
        by_cases hv : val (I 362) pl = val (I 362) (I' 368)
        · have := val_inj hW a1 hA hv
          exact Or.inr (by rw [a3]; exact trp_cong hW ht this)
        · exact Or.inl ⟨pl, a1, a2, a3, by omega⟩
  have zero : ∀ (k : Nat) (v : Int) (I' : aI), 0 ≤ v → I 362 0 - v = k → MF [368, 369, 370, 371, 372, 373, 374, 375, 376] [18] I I' → I' 361 18 = 0 → (∀ u, 1 ≤ u → u < I 362 0 → I' 369 u = wd0 (I 362) u) → (∀ u, 0 ≤ u → u < v → I' 368 u = 0) → Go P 97 (d + 5) K 11 [vr 361, vi top, vi turn, vi v] [] I' R S := by
    intro k
    induction k with
    | zero =>
      intro v I' hv hk hF h18 h9 h8
      have e : I' 362 = I 362 := hF.1 362 (by decide)
      have hA : Asg (I 362) top (I' 368) := fun u g1 g2 => ⟨fun _ => Or.inl (h8 u g1 (by omega)), fun _ => h8 u g1 (by omega)⟩
      have hv0 : val (I 362) (I' 368) = 0 := by
        have z : ∀ u : Int, 0 ≤ u → dg (I 362) (I' 368) u = 0 := fun u hu => by
          unfold dg
          split
          · exact h8 u hu (by omega)
          · rfl
        unfold val
        rw [z 1 (by omega), z 2 (by omega), z 3 (by omega), z 4 (by omega), z 5 (by omega)]
        rfl
      refine Go.walk 400 [11, 36] E97 E97_ok (fun G C hG hC => ?_)
      (repeat ((conv => whnf); first | refine ⟨_, by assumption, ?_⟩ | refine ⟨_, _, by assumption, ?_⟩ | refine ⟨(show _ ∧ _ by omega), ?_⟩ | refine ⟨(show _ ∨ _ by omega), ?_⟩ | refine ⟨fun h => absurd h (by decide), fun _ => ?_⟩ | refine ⟨fun _ => ?_, fun h => absurd h (by decide)⟩ | refine ⟨fun _ => ?_, fun h => absurd rfl h⟩ | refine ⟨fun h => absurd rfl h, fun _ => ?_⟩)); try (conv => whnf)
      rw [e]
      refine ⟨by omega, ?_⟩
      refine ⟨fun _ => ?_, fun h => absurd (show I 362 0 ≤ v by omega) h⟩
      (repeat ((conv => whnf); first | refine ⟨_, by assumption, ?_⟩ | refine ⟨_, _, by assumption, ?_⟩ | refine ⟨(show _ ∧ _ by omega), ?_⟩ | refine ⟨(show _ ∨ _ by omega), ?_⟩ | refine ⟨fun h => absurd h (by decide), fun _ => ?_⟩ | refine ⟨fun _ => ?_, fun h => absurd h (by decide)⟩ | refine ⟨fun _ => ?_, fun h => absurd rfl h⟩ | refine ⟨fun h => absurd rfl h, fun _ => ?_⟩)); try (conv => whnf)
      refine hG _ _ _ _ _ _ ?_
      refine main 1024 I' [] (by omega) hF hA h9 ?_ h18 (fun i t h => by cases h) (by rw [hv0]; decide)
      refine fro_of fro_nil (fun _ h => h.elim) (fun y hy => ?_)
      obtain ⟨pl, a1, a2, a3, a4⟩ := hy
      have := val_bd hW a1
      omega
    | succ k ih =>
      intro v I' hv hk hF h18 h9 h8
      have e : I' 362 = I 362 := hF.1 362 (by decide)
      refine Go.walk 400 [11, 36] E97 E97_ok (fun G C hG hC => ?_)
      (repeat ((conv => whnf); first | refine ⟨_, by assumption, ?_⟩ | refine ⟨_, _, by assumption, ?_⟩ | refine ⟨(show _ ∧ _ by omega), ?_⟩ | refine ⟨(show _ ∨ _ by omega), ?_⟩ | refine ⟨fun h => absurd h (by decide), fun _ => ?_⟩ | refine ⟨fun _ => ?_, fun h => absurd h (by decide)⟩ | refine ⟨fun _ => ?_, fun h => absurd rfl h⟩ | refine ⟨fun h => absurd rfl h, fun _ => ?_⟩)); try (conv => whnf)
      rw [e]
      refine ⟨by omega, ?_⟩
      refine ⟨fun h => absurd h (by omega), fun _ => ?_⟩
      (repeat ((conv => whnf); first | refine ⟨_, by assumption, ?_⟩ | refine ⟨_, _, by assumption, ?_⟩ | refine ⟨(show _ ∧ _ by omega), ?_⟩ | refine ⟨(show _ ∨ _ by omega), ?_⟩ | refine ⟨fun h => absurd h (by decide), fun _ => ?_⟩ | refine ⟨fun _ => ?_, fun h => absurd h (by decide)⟩ | refine ⟨fun _ => ?_, fun h => absurd rfl h⟩ | refine ⟨fun h => absurd rfl h, fun _ => ?_⟩)); try (conv => whnf)
      refine hG _ _ _ _ _ _ ?_
      refine ih (v + 1) _ (by omega) (by omega) (hF.put (by decide) (by decide)) (by rw [uI_ne (by omega)]; exact h18) (fun u g1 g2 => by rw [uI_ne (by omega)]; exact h9 u g1 g2) (fun u g1 g2 => ?_)
      by_cases hu : u = v
      · subst hu; exact uI_at
      · rw [uI_ne (by omega)]; exact h8 u g1 (by omega)
  refine Ok.of (by decide) rfl (Nat.le_of_ble_eq_true rfl) ?_
  refine Go.walk 400 [11] E97 E97_ok (fun G C hG hC => ?_)
  (repeat ((conv => whnf); first | refine ⟨_, by assumption, ?_⟩ | refine ⟨_, _, by assumption, ?_⟩ | refine ⟨(show _ ∧ _ by omega), ?_⟩ | refine ⟨(show _ ∨ _ by omega), ?_⟩ | refine ⟨fun h => absurd h (by decide), fun _ => ?_⟩ | refine ⟨fun _ => ?_, fun h => absurd h (by decide)⟩ | refine ⟨fun _ => ?_, fun h => absurd rfl h⟩ | refine ⟨fun h => absurd rfl h, fun _ => ?_⟩)); try (conv => whnf)
  refine hC _ _ _ _ _ _ ?_
  refine ok_asPlaced hM hW (fun I1 hF1 h1 => ?_)
  (repeat ((conv => whnf); first | refine ⟨_, by assumption, ?_⟩ | refine ⟨_, _, by assumption, ?_⟩ | refine ⟨(show _ ∧ _ by omega), ?_⟩ | refine ⟨(show _ ∨ _ by omega), ?_⟩ | refine ⟨fun h => absurd h (by decide), fun _ => ?_⟩ | refine ⟨fun _ => ?_, fun h => absurd h (by decide)⟩ | refine ⟨fun _ => ?_, fun h => absurd rfl h⟩ | refine ⟨fun h => absurd rfl h, fun _ => ?_⟩)); try (conv => whnf)
  refine hG _ _ _ _ _ _ ?_
  refine zero (I 362 0).toNat 0 (uI I1 361 18 0) (by omega) (by omega) (((MF.of (J := [18]) hF1 (by decide)).trans (MF.rf (L := []) (J := [])) (by simp <;> omega) (by simp)).putF (by decide)) uI_at (fun u g1 g2 => ?_) (fun u g1 g2 => absurd g2 (by omega))
  rw [uI_ne (by omega)]
  exact (h1 u (by omega) g2).2
end
section
/-! the reference: seeksPoints -/
def ptr (n : aN) (pl : Int → Int) : aT := (0, sla n pl (wd0 n), mCost n pl 0)
theorem sla_bd {n : aN} (hW : WF n) {pl wd : Int → Int} (hp : PlOk n pl) (hw : WdOk n wd) : -920000 ≤ sla n pl wd ∧ sla n pl wd ≤ 900000 :=
  mSlack_bd hW (fun v h1 h2 h3 => tim_bd hW (by omega) (src_bd hW hp hw) hp.1 hp.2 hw (by omega) h2 h3)
theorem ptr_bd {n : aN} (hW : WF n) {pl : Int → Int} (hp : PlOk n pl) : tB (ptr n pl) := ⟨by show (0 : Int) ≤ 0 ∧ (0 : Int) ≤ 15000; omega, sla_bd hW hp (wd0_ok hW), mCost_bd hW hp⟩
def PtsX (n : aN) : aT → Prop := fun x => ∃ pl, Asg n 0 pl ∧ wro n pl = 0 ∧ x = ptr n pl
theorem src_cong {n : aN} {pl pl' wd : Int → Int} (h : ∀ v, 0 ≤ v → v < n 0 → pl' v = pl v) : src n pl' wd = src n pl wd := by
  unfold src
  rw [bea_cong (pl := pl) (pl' := pl') (wd := wd) (wd' := wd) (by omega) (fun u h3 h4 => ⟨h u (by omega) h4, rfl⟩)]
theorem sla_cong {n : aN} (hW : WF n) {pl pl' wd : Int → Int} (h : ∀ v, 0 ≤ v → v < n 0 → pl' v = pl v) : sla n pl' wd = sla n pl wd := by
  have hN := hW.1
  unfold sla
  rw [src_cong h]
  exact mSlack_cong (fun v h1 h2 h3 => cT_cong hW (by omega) (fun u h4 h5 => h u (by omega) h5) (fun _ _ _ => rfl) 6 v (by omega) h2 h3)
theorem wro_cong {n : aN} (hW : WF n) {pl pl' : Int → Int} (h : ∀ v, 0 ≤ v → v < n 0 → pl' v = pl v) : wro n pl' = wro n pl := by
  have hN := hW.1
  exact wrong_cong hW (by omega) h
theorem ptr_cong {n : aN} (hW : WF n) {pl pl' : Int → Int} (h : ∀ v, 0 ≤ v → v < n 0 → pl' v = pl v) : ptr n pl' = ptr n pl := by
  unfold ptr
  rw [sla_cong hW h, mCost_cong (fun v h1 h2 _ => h v (by omega) h2)]
/-- seeksPoints() -/
theorem ok_seeksPoints {P : aP} {d : Nat} {K : aK} {I : aI} {R : aR} {S : aS} (hM : MS R S) (hW : WF (I 362))
    (hK : ∀ I' L, MF [368, 369, 370, 371, 372, 373, 374, 375, 376] [18] I I' → Fro L (PtsX (I 362)) → I' 361 18 = L.length → Hd I' 374 375 376 L → L.length ≤ 1024 → (∀ x ∈ L, tB x) → K none I' R S) : Ok P 98 (d + 6) [vr 361] I R S K := by
  obtain ⟨m0, r1, m1, r2, m2, r3, m3, r4, m4, r5, m5, r6, m6, r7, m7, r8, m8, r9, m9, r10, m10, r11, m11, r12, m12, r13, m13, r14, m14, r15, m15⟩ := id hM
  have hN := hW.1
  have hwd := wd0_ok hW
  have hbX : ∀ (L : List aT) (Z : (Int → Int) → Prop), Fro L (fun x => ∃ pl, Asg (I 362) 0 pl ∧ wro (I 362) pl = 0 ∧ x = ptr (I 362) pl ∧ Z pl) → ∀ x ∈ L, tB x := by
    intro L Z h x hx
    obtain ⟨pl, h1, -, h3, -⟩ := h.2.1 x hx
    rw [h3]
    exact ptr_bd hW (h1.pl hW)
  have main : ∀ (k : Nat) (I' : aI) (L : List aT), 1024 - val (I 362) (I' 368) = k → MF [368, 369, 370, 371, 372, 373, 374, 375, 376] [18] I I' → Asg (I 362) 0 (I' 368) → (∀ v, 1 ≤ v → v < I 362 0 → I' 369 v = wd0 (I 362) v) →
      Fro L (fun x => ∃ pl, Asg (I 362) 0 pl ∧ wro (I 362) pl = 0 ∧ x = ptr (I 362) pl ∧ val (I 362) pl < val (I 362) (I' 368)) → I' 361 18 = L.length → Hd I' 374 375 376 L → L.length ≤ val (I 362) (I' 368) →
      Go P 98 (d + 6) K 36 [vr 361, vi 1] [] I' R S := by
    intro k
    induction k using Nat.strongRecOn with
    | _ k ih =>
    intro I' L hk hF hA h9 hL hsz hHd hlen
    have e : I' 362 = I 362 := hF.1 362 (by decide)
    have hp := hA.pl hW
    have hvb := val_bd hW hA
    -- behind the meeting
    have tail : ∀ (I3 : aI) (L3 : List aT), MF [368, 369, 370, 371, 372, 373, 374, 375, 376] [18] I I3 → I3 368 = I' 368 → I3 369 = I' 369 → Fro L3 (fun x => ∃ pl, Asg (I 362) 0 pl ∧ wro (I 362) pl = 0 ∧ x = ptr (I 362) pl ∧ val (I 362) pl ≤ val (I 362) (I' 368)) → I3 361 18 = L3.length → Hd I3 374 375 376 L3 → L3.length ≤ val (I 362) (I' 368) + 1 →
        Go P 98 (d + 6) K 67 [vr 361, vi 1] [] I3 R S := by
      intro I3 L3 hF3 e8 e9 hL3 hsz3 hHd3 hlen3
      have e3 : I3 362 = I 362 := hF3.1 362 (by decide)
      refine Go.walk 400 [36, 67] E98 E98_ok (fun G C hG hC => ?_)
      (repeat ((conv => whnf); first | refine ⟨_, by assumption, ?_⟩ | refine ⟨_, _, by assumption, ?_⟩ | refine ⟨(show _ ∧ _ by omega), ?_⟩ | refine ⟨(show _ ∨ _ by omega), ?_⟩ | refine ⟨fun h => absurd h (by decide), fun _ => ?_⟩ | refine ⟨fun _ => ?_, fun h => absurd h (by decide)⟩ | refine ⟨fun _ => ?_, fun h => absurd rfl h⟩ | refine ⟨fun h => absurd rfl h, fun _ => ?_⟩)); try (conv => whnf)
      refine hC _ _ _ _ _ _ ?_
      refine ok_isNext (top := 0) hM (by rw [e3]; exact hW) (by omega) (by rw [e3, e8]; exact fun v g1 g2 _ => hp.1 v (by omega) g2) (fun I4 v0 hF4 g1 g2 g3 g4 g5 g6 g7 => ?_) (fun I4 hF4 g1 => ?_)
      · rw [e3, e8] at g4
        rw [e3] at g2 g3
        rw [e3, e8] at g6
        rw [e3, e8] at g7
        obtain ⟨n1, n2, -⟩ := val_next hW hA hA g1 g2 g3 g4 g5 g6 g7
        have n3 : ∀ px, Asg (I 362) 0 px → val (I 362) px < val (I 362) (I4 368) → val (I 362) px ≤ val (I 362) (I' 368) := fun px hx => (val_next hW hA hx g1 g2 g3 g4 g5 g6 g7).2.2
        have hvb4 := val_bd hW n1
        (repeat ((conv => whnf); first | refine ⟨_, by assumption, ?_⟩ | refine ⟨_, _, by assumption, ?_⟩ | refine ⟨(show _ ∧ _ by omega), ?_⟩ | refine ⟨(show _ ∨ _ by omega), ?_⟩ | refine ⟨fun h => absurd h (by decide), fun _ => ?_⟩ | refine ⟨fun _ => ?_, fun h => absurd h (by decide)⟩ | refine ⟨fun _ => ?_, fun h => absurd rfl h⟩ | refine ⟨fun h => absurd rfl h, fun _ => ?_⟩)); try (conv => whnf)
        refine hG _ _ _ _ _ _ ?_
        refine ih (1024 - val (I 362) (I4 368)).toNat (by omega) I4 L3 (by omega) (hF3.trans (MF.of (J := []) hF4 (by decide)) (by simp; omega) (by simp)) n1 (fun v q1 q2 => by rw [hF4 369 (by decide), e9]; exact h9 v q1 q2) ?_ ?_ ?_ (by omega)
        · refine fro_of hL3 (fun x hx => ?_) (fun y hy => ?_)
          · obtain ⟨pl, a1, a2, a3, a4⟩ := hx
            exact ⟨pl, a1, a2, a3, by omega⟩
          · obtain ⟨pl, a1, a2, a3, a4⟩ := hy
            exact ⟨y, ⟨pl, a1, a2, a3, n3 pl a1 a4⟩, wb_rfl y⟩
        · rw [hF4 361 (by decide)]; exact hsz3
        · intro i t h
          rw [hF4 374 (by decide), hF4 375 (by decide), hF4 376 (by decide)]
          exact hHd3 i t h
      · rw [e3, e8] at g1
        have hall : ∀ px, Asg (I 362) 0 px → val (I 362) px ≤ val (I 362) (I' 368) := fun px hx => val_last hW hA hx g1
        (repeat ((conv => whnf); first | refine ⟨_, by assumption, ?_⟩ | refine ⟨_, _, by assumption, ?_⟩ | refine ⟨(show _ ∧ _ by omega), ?_⟩ | refine ⟨(show _ ∨ _ by omega), ?_⟩ | refine ⟨fun h => absurd h (by decide), fun _ => ?_⟩ | refine ⟨fun _ => ?_, fun h => absurd h (by decide)⟩ | refine ⟨fun _ => ?_, fun h => absurd rfl h⟩ | refine ⟨fun h => absurd rfl h, fun _ => ?_⟩)); try (conv => whnf)
        refine hG _ _ _ _ _ _ ?_
        refine Go.walk 400 [] E98 E98_ok (fun G C hG hC => ?_)
        (repeat ((conv => whnf); first | refine ⟨_, by assumption, ?_⟩ | refine ⟨_, _, by assumption, ?_⟩ | refine ⟨(show _ ∧ _ by omega), ?_⟩ | refine ⟨(show _ ∨ _ by omega), ?_⟩ | refine ⟨fun h => absurd h (by decide), fun _ => ?_⟩ | refine ⟨fun _ => ?_, fun h => absurd h (by decide)⟩ | refine ⟨fun _ => ?_, fun h => absurd rfl h⟩ | refine ⟨fun h => absurd rfl h, fun _ => ?_⟩)); try (conv => whnf)
        refine hK I4 L3 (hF3.trans (MF.of (J := []) hF4 (by decide)) (by simp; omega) (by simp)) ?_ ?_ ?_ (by omega) (hbX L3 _ hL3)
        · refine fro_of hL3 (fun x hx => ?_) (fun y hy => ?_)
          · obtain ⟨pl, a1, a2, a3, a4⟩ := hx
            exact ⟨pl, a1, a2, a3⟩
          · obtain ⟨pl, a1, a2, a3⟩ := hy
            exact ⟨y, ⟨pl, a1, a2, a3, hall pl a1⟩, wb_rfl y⟩
        · rw [hF4 361 (by decide)]; exact hsz3
        · intro i t h
          rw [hF4 374 (by decide), hF4 375 (by decide), hF4 376 (by decide)]
          exact hHd3 i t h
    refine Go.walk 400 [36, 67] E98 E98_ok (fun G C hG hC => ?_)
    (repeat ((conv => whnf); first | refine ⟨_, by assumption, ?_⟩ | refine ⟨_, _, by assumption, ?_⟩ | refine ⟨(show _ ∧ _ by omega), ?_⟩ | refine ⟨(show _ ∨ _ by omega), ?_⟩ | refine ⟨fun h => absurd h (by decide), fun _ => ?_⟩ | refine ⟨fun _ => ?_, fun h => absurd h (by decide)⟩ | refine ⟨fun _ => ?_, fun h => absurd rfl h⟩ | refine ⟨fun h => absurd rfl h, fun _ => ?_⟩)); try (conv => whnf)
    refine hC _ _ _ _ _ _ ?_
    refine ok_runsAll2 (pl := I' 368) (wd := wd0 (I 362)) hM (by rw [e]; exact hW) (by rw [e]; exact hp) (by rw [e]; exact hwd) (fun _ _ _ => rfl) (by rw [e]; exact h9) (fun I2 hF2 hran => ?_)
    rw [e] at hran
    have e2 : I2 362 = I 362 := by rw [hF2 362 (by decide), e]
    have hF2' : MF [368, 369, 370, 371, 372, 373, 374, 375, 376] [18] I I2 := hF.trans (MF.of (J := []) hF2 (by decide)) (by simp; omega) (by simp)
    have hiw := iR_mWrong (n := I 362) (tu := tur (I 362) (I' 368) 0 0) (top := 0)
    (repeat ((conv => whnf); first | refine ⟨_, by assumption, ?_⟩ | refine ⟨_, _, by assumption, ?_⟩ | refine ⟨(show _ ∧ _ by omega), ?_⟩ | refine ⟨(show _ ∨ _ by omega), ?_⟩ | refine ⟨fun h => absurd h (by decide), fun _ => ?_⟩ | refine ⟨fun _ => ?_, fun h => absurd h (by decide)⟩ | refine ⟨fun _ => ?_, fun h => absurd rfl h⟩ | refine ⟨fun h => absurd rfl h, fun _ => ?_⟩)); try (conv => whnf)
    refine hC _ _ _ _ _ _ ?_
    refine ok_wrong0 hM e2 hW hran ?_
    have hiw : iR (wro (I 362) (I' 368)) := hiw
    (repeat ((conv => whnf); first | refine ⟨_, by assumption, ?_⟩ | refine ⟨_, _, by assumption, ?_⟩ | refine ⟨(show _ ∧ _ by omega), ?_⟩ | refine ⟨(show _ ∨ _ by omega), ?_⟩ | refine ⟨fun h => absurd h (by decide), fun _ => ?_⟩ | refine ⟨fun _ => ?_, fun h => absurd h (by decide)⟩ | refine ⟨fun _ => ?_, fun h => absurd rfl h⟩ | refine ⟨fun h => absurd rfl h, fun _ => ?_⟩)); try (conv => whnf)
    refine ⟨fun hne => ?_, fun heq => ?_⟩
    · (repeat ((conv => whnf); first | refine ⟨_, by assumption, ?_⟩ | refine ⟨_, _, by assumption, ?_⟩ | refine ⟨(show _ ∧ _ by omega), ?_⟩ | refine ⟨(show _ ∨ _ by omega), ?_⟩ | refine ⟨fun h => absurd h (by decide), fun _ => ?_⟩ | refine ⟨fun _ => ?_, fun h => absurd h (by decide)⟩ | refine ⟨fun _ => ?_, fun h => absurd rfl h⟩ | refine ⟨fun h => absurd rfl h, fun _ => ?_⟩)); try (conv => whnf)
      refine hG _ _ _ _ _ _ ?_
      refine tail I2 L hF2' (hF2 368 (by decide)) (hF2 369 (by decide)) ?_ ?_ ?_ (by omega)
      · refine fro_of hL (fun x hx => ?_) (fun y hy => ?_)
        · obtain ⟨pl, a1, a2, a3, a4⟩ := hx
          exact ⟨pl, a1, a2, a3, by omega⟩
        · obtain ⟨pl, a1, a2, a3, a4⟩ := hy
          refine ⟨y, ⟨pl, a1, a2, a3, ?_⟩, wb_rfl y⟩
          by_cases hv : val (I 362) pl = val (I 362) (I' 368)
          · have := val_inj hW a1 hA hv
            rw [wro_cong hW this] at a2
            exact absurd a2 hne
          · omega
      · rw [hF2 361 (by decide)]; exact hsz
      · intro i t h
        rw [hF2 374 (by decide), hF2 375 (by decide), hF2 376 (by decide)]
        exact hHd i t h
    · (repeat ((conv => whnf); first | refine ⟨_, by assumption, ?_⟩ | refine ⟨_, _, by assumption, ?_⟩ | refine ⟨(show _ ∧ _ by omega), ?_⟩ | refine ⟨(show _ ∨ _ by omega), ?_⟩ | refine ⟨fun h => absurd h (by decide), fun _ => ?_⟩ | refine ⟨fun _ => ?_, fun h => absurd h (by decide)⟩ | refine ⟨fun _ => ?_, fun h => absurd rfl h⟩ | refine ⟨fun h => absurd rfl h, fun _ => ?_⟩)); try (conv => whnf)
      refine hC _ _ _ _ _ _ ?_
      refine ok_slack0 hM e2 hW hp hwd hran ?_
      (repeat ((conv => whnf); first | refine ⟨_, by assumption, ?_⟩ | refine ⟨_, _, by assumption, ?_⟩ | refine ⟨(show _ ∧ _ by omega), ?_⟩ | refine ⟨(show _ ∨ _ by omega), ?_⟩ | refine ⟨fun h => absurd h (by decide), fun _ => ?_⟩ | refine ⟨fun _ => ?_, fun h => absurd h (by decide)⟩ | refine ⟨fun _ => ?_, fun h => absurd rfl h⟩ | refine ⟨fun h => absurd rfl h, fun _ => ?_⟩)); try (conv => whnf)
      refine hC _ _ _ _ _ _ ?_
      refine ok_cost0 (pl := I' 368) hM e2 hW hp (fun v g1 g2 => by rw [hF2 368 (by decide)]) ?_
      (repeat ((conv => whnf); first | refine ⟨_, by assumption, ?_⟩ | refine ⟨_, _, by assumption, ?_⟩ | refine ⟨(show _ ∧ _ by omega), ?_⟩ | refine ⟨(show _ ∨ _ by omega), ?_⟩ | refine ⟨fun h => absurd h (by decide), fun _ => ?_⟩ | refine ⟨fun _ => ?_, fun h => absurd h (by decide)⟩ | refine ⟨fun _ => ?_, fun h => absurd rfl h⟩ | refine ⟨fun h => absurd rfl h, fun _ => ?_⟩)); try (conv => whnf)
      refine hC _ _ _ _ _ _ ?_
      refine ok_meets (t := ptr (I 362) (I' 368)) (L := L) hM (by rw [hF2 361 (by decide)]; exact hsz) (fun i t h => by rw [hF2 374 (by decide), hF2 375 (by decide), hF2 376 (by decide)]; exact hHd i t h) (by omega) (ptr_bd hW hp).tR (fun x hx => (hbX L _ hL x hx).tR) (fun I3 L3 hF3 hmt hsz3 hHd3 => ?_)
      (repeat ((conv => whnf); first | refine ⟨_, by assumption, ?_⟩ | refine ⟨_, _, by assumption, ?_⟩ | refine ⟨(show _ ∧ _ by omega), ?_⟩ | refine ⟨(show _ ∨ _ by omega), ?_⟩ | refine ⟨fun h => absurd h (by decide), fun _ => ?_⟩ | refine ⟨fun _ => ?_, fun h => absurd h (by decide)⟩ | refine ⟨fun _ => ?_, fun h => absurd rfl h⟩ | refine ⟨fun h => absurd rfl h, fun _ => ?_⟩)); try (conv => whnf)
      refine hG _ _ _ _ _ _ ?_
      have hl3 := mts_len hmt
      refine tail I3 L3 (hF2'.trans hF3 (by simp; omega) (by simp)) (by rw [hF3.1 368 (by decide), hF2 368 (by decide)]) (by rw [hF3.1 369 (by decide), hF2 369 (by decide)]) ?_ hsz3 hHd3 (by omega)
      refine fro_of (mts_fro hL hmt) (fun x hx => ?_) (fun y hy => ?_)
      · rcases hx with hx | rfl
        · obtain ⟨pl, a1, a2, a3, a4⟩ := hx
          exact ⟨pl, a1, a2, a3, by omega⟩
        · exact ⟨I' 368, hA, heq, rfl, by omega⟩
      · obtain ⟨pl, a1, a2, a3, a4⟩ := hy
        refine ⟨y, ?_, wb_rfl y⟩
        by_cases hv : val (I 362) pl = val (I 362) (I' 368)
        · have := val_inj hW a1 hA hv
          exact Or.inr (by rw [a3]; exact ptr_cong hW this)
        · exact Or.inl ⟨pl, a1, a2, a3, by omega⟩
  have zero : ∀ (k : Nat) (v : Int) (I' : aI), 0 ≤ v → I 362 0 - v = k → MF [368, 369, 370, 371, 372, 373, 374, 375, 376] [18] I I' → I' 361 18 = 0 → (∀ u, 1 ≤ u → u < I 362 0 → I' 369 u = wd0 (I 362) u) → (∀ u, 0 ≤ u → u < v → I' 368 u = 0) → Go P 98 (d + 6) K 11 [vr 361, vi v] [] I' R S := by
    intro k
    induction k with
    | zero =>
      intro v I' hv hk hF h18 h9 h8
      have e : I' 362 = I 362 := hF.1 362 (by decide)
      have hA : Asg (I 362) 0 (I' 368) := fun u g1 g2 => ⟨fun _ => Or.inl (h8 u g1 (by omega)), fun _ => h8 u g1 (by omega)⟩
      have hv0 : val (I 362) (I' 368) = 0 := by
        have z : ∀ u : Int, 0 ≤ u → dg (I 362) (I' 368) u = 0 := fun u hu => by
          unfold dg
          split
          · exact h8 u hu (by omega)
          · rfl
        unfold val
        rw [z 1 (by omega), z 2 (by omega), z 3 (by omega), z 4 (by omega), z 5 (by omega)]
        rfl
      refine Go.walk 400 [11, 36] E98 E98_ok (fun G C hG hC => ?_)
      (repeat ((conv => whnf); first | refine ⟨_, by assumption, ?_⟩ | refine ⟨_, _, by assumption, ?_⟩ | refine ⟨(show _ ∧ _ by omega), ?_⟩ | refine ⟨(show _ ∨ _ by omega), ?_⟩ | refine ⟨fun h => absurd h (by decide), fun _ => ?_⟩ | refine ⟨fun _ => ?_, fun h => absurd h (by decide)⟩ | refine ⟨fun _ => ?_, fun h => absurd rfl h⟩ | refine ⟨fun h => absurd rfl h, fun _ => ?_⟩)); try (conv => whnf)
      rw [e]
      refine ⟨by omega, ?_⟩
      refine ⟨fun _ => ?_, fun h => absurd (show I 362 0 ≤ v by omega) h⟩
      (repeat ((conv => whnf); first | refine ⟨_, by assumption, ?_⟩ | refine ⟨_, _, by assumption, ?_⟩ | refine ⟨(show _ ∧ _ by omega), ?_⟩ | refine ⟨(show _ ∨ _ by omega), ?_⟩ | refine ⟨fun h => absurd h (by decide), fun _ => ?_⟩ | refine ⟨fun _ => ?_, fun h => absurd h (by decide)⟩ | refine ⟨fun _ => ?_, fun h => absurd rfl h⟩ | refine ⟨fun h => absurd rfl h, fun _ => ?_⟩)); try (conv => whnf)
      refine hG _ _ _ _ _ _ ?_
      refine main 1024 I' [] (by omega) hF hA h9 ?_ h18 (fun i t h => by cases h) (by rw [hv0]; decide)
      refine fro_of fro_nil (fun _ h => h.elim) (fun y hy => ?_)
      obtain ⟨pl, a1, a2, a3, a4⟩ := hy
      have := val_bd hW a1
      omega
    | succ k ih =>
      intro v I' hv hk hF h18 h9 h8
      have e : I' 362 = I 362 := hF.1 362 (by decide)
      refine Go.walk 400 [11, 36] E98 E98_ok (fun G C hG hC => ?_)
      (repeat ((conv => whnf); first | refine ⟨_, by assumption, ?_⟩ | refine ⟨_, _, by assumption, ?_⟩ | refine ⟨(show _ ∧ _ by omega), ?_⟩ | refine ⟨(show _ ∨ _ by omega), ?_⟩ | refine ⟨fun h => absurd h (by decide), fun _ => ?_⟩ | refine ⟨fun _ => ?_, fun h => absurd h (by decide)⟩ | refine ⟨fun _ => ?_, fun h => absurd rfl h⟩ | refine ⟨fun h => absurd rfl h, fun _ => ?_⟩)); try (conv => whnf)
      rw [e]
      refine ⟨by omega, ?_⟩
      refine ⟨fun h => absurd h (by omega), fun _ => ?_⟩
      (repeat ((conv => whnf); first | refine ⟨_, by assumption, ?_⟩ | refine ⟨_, _, by assumption, ?_⟩ | refine ⟨(show _ ∧ _ by omega), ?_⟩ | refine ⟨(show _ ∨ _ by omega), ?_⟩ | refine ⟨fun h => absurd h (by decide), fun _ => ?_⟩ | refine ⟨fun _ => ?_, fun h => absurd h (by decide)⟩ | refine ⟨fun _ => ?_, fun h => absurd rfl h⟩ | refine ⟨fun h => absurd rfl h, fun _ => ?_⟩)); try (conv => whnf)
      refine hG _ _ _ _ _ _ ?_
      refine ih (v + 1) _ (by omega) (by omega) (hF.put (by decide) (by decide)) (by rw [uI_ne (by omega)]; exact h18) (fun u g1 g2 => by rw [uI_ne (by omega)]; exact h9 u g1 g2) (fun u g1 g2 => ?_)
      by_cases hu : u = v
      · subst hu; exact uI_at
      · rw [uI_ne (by omega)]; exact h8 u g1 (by omega)
  refine Ok.of (by decide) rfl (Nat.le_of_ble_eq_true rfl) ?_
  refine Go.walk 400 [11] E98 E98_ok (fun G C hG hC => ?_)
  (repeat ((conv => whnf); first | refine ⟨_, by assumption, ?_⟩ | refine ⟨_, _, by assumption, ?_⟩ | refine ⟨(show _ ∧ _ by omega), ?_⟩ | refine ⟨(show _ ∨ _ by omega), ?_⟩ | refine ⟨fun h => absurd h (by decide), fun _ => ?_⟩ | refine ⟨fun _ => ?_, fun h => absurd h (by decide)⟩ | refine ⟨fun _ => ?_, fun h => absurd rfl h⟩ | refine ⟨fun h => absurd rfl h, fun _ => ?_⟩)); try (conv => whnf)
  refine hC _ _ _ _ _ _ ?_
  refine ok_asPlaced hM hW (fun I1 hF1 h1 => ?_)
  (repeat ((conv => whnf); first | refine ⟨_, by assumption, ?_⟩ | refine ⟨_, _, by assumption, ?_⟩ | refine ⟨(show _ ∧ _ by omega), ?_⟩ | refine ⟨(show _ ∨ _ by omega), ?_⟩ | refine ⟨fun h => absurd h (by decide), fun _ => ?_⟩ | refine ⟨fun _ => ?_, fun h => absurd h (by decide)⟩ | refine ⟨fun _ => ?_, fun h => absurd rfl h⟩ | refine ⟨fun h => absurd rfl h, fun _ => ?_⟩)); try (conv => whnf)
  refine hG _ _ _ _ _ _ ?_
  refine zero (I 362 0).toNat 0 (uI I1 361 18 0) (by omega) (by omega) (((MF.of (J := [18]) hF1 (by decide)).trans (MF.rf (L := []) (J := [])) (by simp <;> omega) (by simp)).putF (by decide)) uI_at (fun u g1 g2 => ?_) (fun u g1 g2 => absurd g2 (by omega))
  rw [uI_ne (by omega)]
  exact (h1 u (by omega) g2).2
end
section
/-! the reference: what is kept ahead of a deed; the deeds -/
def up (n : aN) (j z : Int) : aN := fun k => if k = j then z else n k
def st (n : aN) (v w z : Int) : aN := up n (20 + 8 * v + w) z
def sk (n : aN) (k w z : Int) : aN := up n (2 + 6 * (k - 1) + w) z
theorem uI_up {I : aI} {j z : Int} {a : Nat} : uI I a j z a = up (I a) j z := by
  funext k
  simp [uI, up]
theorem up_at {n : aN} {j z : Int} : up n j z j = z := by simp [up]
theorem up_ne {n : aN} {j k z : Int} (h : k ≠ j) : up n j z k = n k := by simp [up, h]
/-- what is kept of the past: the latest is the last -/
def HistM (I : aI) (h : List aN) : Prop := I 361 3 = h.length ∧ h.length ≤ 16 ∧ ∀ (j : Nat) (m : aN), h[j]? = some m → ∀ k, 0 ≤ k → k < 68 → I 363 (68 * j + k) = m k
def pushH (h : List aN) (n : aN) : List aN := (if h.length = 16 then h.tail else h) ++ [n]
theorem HistM.of {I I' : aI} {h : List aN} (hh : HistM I h) (h1 : I' 361 3 = I 361 3) (h2 : I' 363 = I 363) : HistM I' h := ⟨h1.trans hh.1, hh.2.1, fun j m hj k g1 g2 => by rw [h2]; exact hh.2.2 j m hj k g1 g2⟩
/-- deed() -/
theorem ok_deed {P : aP} {d : Nat} {K : aK} {I : aI} {R : aR} {S : aS} {h : List aN} (hM : MS R S) (hH : HistM I h) (hK : ∀ I', MF [363] [3] I I' → HistM I' (pushH h (I 362)) → K none I' R S) : Ok P 116 (d + 1) [vr 361] I R S K := by
  obtain ⟨m0, r1, m1, r2, m2, r3, m3, r4, m4, r5, m5, r6, m6, r7, m7, r8, m8, r9, m9, r10, m10, r11, m11, r12, m12, r13, m13, r14, m14, r15, m15⟩ := id hM
  obtain ⟨hk, hl, hb⟩ := hH
  -- the row is written
  have copy : ∀ (g : List aN), g.length < 16 → pushH h (I 362) = g ++ [I 362] → ∀ (m : Nat) (k : Int) (I' : aI), 0 ≤ k → 68 - k = m → MF [363] [3] I I' → I' 361 3 = g.length → (∀ (j : Nat) (q : aN), g[j]? = some q → ∀ x : Int, 0 ≤ x → x < 68 → I' 363 (68 * j + x) = q x) → (∀ x : Int, 0 ≤ x → x < k → I' 363 (68 * g.length + x) = I 362 x) → Go P 116 (d + 1) K 51 [vr 361, vi k] [] I' R S := by
    intro g hg hpu m
    induction m with
    | zero =>
      intro k I' h0 hm hF h3 hB hCo
      have h3' : I' 361 ((3 : Nat) : Int) = g.length := h3
      refine Go.walk 400 [51] E116 E116_ok (fun G C hG hC => ?_)
      (repeat ((conv => whnf); first | refine ⟨_, by assumption, ?_⟩ | refine ⟨_, _, by assumption, ?_⟩ | refine ⟨(show _ ∧ _ by omega), ?_⟩ | refine ⟨(show _ ∨ _ by omega), ?_⟩ | refine ⟨fun h => absurd h (by decide), fun _ => ?_⟩ | refine ⟨fun _ => ?_, fun h => absurd h (by decide)⟩ | refine ⟨fun _ => ?_, fun h => absurd rfl h⟩ | refine ⟨fun h => absurd rfl h, fun _ => ?_⟩)); try (conv => whnf)
      refine ⟨fun _ => ?_, fun q => absurd (show (68 : Int) ≤ k by omega) q⟩
      (repeat ((conv => whnf); first | refine ⟨_, by assumption, ?_⟩ | refine ⟨_, _, by assumption, ?_⟩ | refine ⟨(show _ ∧ _ by omega), ?_⟩ | refine ⟨(show _ ∨ _ by omega), ?_⟩ | refine ⟨fun h => absurd h (by decide), fun _ => ?_⟩ | refine ⟨fun _ => ?_, fun h => absurd h (by decide)⟩ | refine ⟨fun _ => ?_, fun h => absurd rfl h⟩ | refine ⟨fun h => absurd rfl h, fun _ => ?_⟩)); try (conv => whnf)
      refine hK (uI I' 361 3 (I' 361 3 + 1)) (hF.putF (by decide)) ?_
      rw [hpu]
      refine ⟨by rw [uI_at, List.length_append, List.length_singleton]; omega, by rw [List.length_append, List.length_singleton]; omega, fun j q hj x g1 g2 => ?_⟩
      rw [uI_ne (by omega)]
      by_cases hj2 : j < g.length
      · rw [List.getElem?_append_left hj2] at hj
        exact hB j q hj x g1 g2
      · have hz := (List.getElem?_eq_some_iff.mp hj).1
        rw [List.length_append, List.length_singleton] at hz
        have e : j = g.length := by omega
        subst e
        rw [List.getElem?_append_right (Nat.le_refl _), Nat.sub_self] at hj
        cases hj
        exact hCo x g1 (by omega)
    | succ m ih =>
      intro k I' h0 hm hF h3 hB hCo
      have h3' : I' 361 ((3 : Nat) : Int) = g.length := h3
      have e2 : I' 362 = I 362 := hF.1 362 (by decide)
      refine Go.walk 400 [51] E116 E116_ok (fun G C hG hC => ?_)
      (repeat ((conv => whnf); first | refine ⟨_, by assumption, ?_⟩ | refine ⟨_, _, by assumption, ?_⟩ | refine ⟨(show _ ∧ _ by omega), ?_⟩ | refine ⟨(show _ ∨ _ by omega), ?_⟩ | refine ⟨fun h => absurd h (by decide), fun _ => ?_⟩ | refine ⟨fun _ => ?_, fun h => absurd h (by decide)⟩ | refine ⟨fun _ => ?_, fun h => absurd rfl h⟩ | refine ⟨fun h => absurd rfl h, fun _ => ?_⟩)); try (conv => whnf)
      refine ⟨fun q => absurd q (by omega), fun _ => ?_⟩
      (repeat ((conv => whnf); first | refine ⟨_, by assumption, ?_⟩ | refine ⟨_, _, by assumption, ?_⟩ | refine ⟨(show _ ∧ _ by omega), ?_⟩ | refine ⟨(show _ ∨ _ by omega), ?_⟩ | refine ⟨fun h => absurd h (by decide), fun _ => ?_⟩ | refine ⟨fun _ => ?_, fun h => absurd h (by decide)⟩ | refine ⟨fun _ => ?_, fun h => absurd rfl h⟩ | refine ⟨fun h => absurd rfl h, fun _ => ?_⟩)); try (conv => whnf)
      refine hG _ _ _ _ _ _ ?_
      rw [h3', e2]
      refine ih (k + 1) _ (by omega) (by omega) (hF.put (by decide) (by decide)) (by rw [uI_ne (by omega)]; exact h3) (fun j q hj x g1 g2 => ?_) (fun x g1 g2 => ?_)
      · have hj2 := (List.getElem?_eq_some_iff.mp hj).1
        rw [uI_ne (by omega)]
        exact hB j q hj x g1 g2
      · by_cases hx : x = k
        · subst hx; exact uI_at
        · rw [uI_ne (by omega)]
          exact hCo x g1 (by omega)
  have shift : h.length = 16 → ∀ (m : Nat) (k : Int) (I' : aI), 0 ≤ k → 1020 - k = m → MF [363] [3] I I' → I' 361 3 = 16 → (∀ x : Int, 0 ≤ x → x < k → I' 363 x = I 363 (x + 68)) → (∀ x : Int, k ≤ x → I' 363 x = I 363 x) → Go P 116 (d + 1) K 11 [vr 361, vi k] [] I' R S := by
    intro h16 m
    induction m with
    | zero =>
      intro k I' h0 hm hF h3 hB hCo
      have h3' : I' 361 ((3 : Nat) : Int) = 16 := h3
      refine Go.walk 400 [11, 51] E116 E116_ok (fun G C hG hC => ?_)
      (repeat ((conv => whnf); first | refine ⟨_, by assumption, ?_⟩ | refine ⟨_, _, by assumption, ?_⟩ | refine ⟨(show _ ∧ _ by omega), ?_⟩ | refine ⟨(show _ ∨ _ by omega), ?_⟩ | refine ⟨fun h => absurd h (by decide), fun _ => ?_⟩ | refine ⟨fun _ => ?_, fun h => absurd h (by decide)⟩ | refine ⟨fun _ => ?_, fun h => absurd rfl h⟩ | refine ⟨fun h => absurd rfl h, fun _ => ?_⟩)); try (conv => whnf)
      refine ⟨fun _ => ?_, fun q => absurd (show (1020 : Int) ≤ k by omega) q⟩
      (repeat ((conv => whnf); first | refine ⟨_, by assumption, ?_⟩ | refine ⟨_, _, by assumption, ?_⟩ | refine ⟨(show _ ∧ _ by omega), ?_⟩ | refine ⟨(show _ ∨ _ by omega), ?_⟩ | refine ⟨fun h => absurd h (by decide), fun _ => ?_⟩ | refine ⟨fun _ => ?_, fun h => absurd h (by decide)⟩ | refine ⟨fun _ => ?_, fun h => absurd rfl h⟩ | refine ⟨fun h => absurd rfl h, fun _ => ?_⟩)); try (conv => whnf)
      refine hG _ _ _ _ _ _ ?_
      have ht : h.tail.length = 15 := by rw [List.length_tail]; omega
      refine copy h.tail (by omega) (by rw [pushH, if_pos h16]) 68 0 (uI I' 361 3 (I' 361 3 - 1)) (by omega) (by omega) (hF.putF (by decide)) (by rw [uI_at, ht]; omega) (fun j q hj x g1 g2 => ?_) (fun x g1 g2 => absurd g2 (by omega))
      have hj2 := (List.getElem?_eq_some_iff.mp hj).1
      rw [uI_ne (by omega), hB _ (by omega) (by omega)]
      rw [List.getElem?_tail] at hj
      have := hb (j + 1) q hj x g1 g2
      rw [show 68 * (j : Int) + x + 68 = 68 * ((j + 1 : Nat) : Int) + x by omega]
      exact this
    | succ m ih =>
      intro k I' h0 hm hF h3 hB hCo
      refine Go.walk 400 [11, 51] E116 E116_ok (fun G C hG hC => ?_)
      (repeat ((conv => whnf); first | refine ⟨_, by assumption, ?_⟩ | refine ⟨_, _, by assumption, ?_⟩ | refine ⟨(show _ ∧ _ by omega), ?_⟩ | refine ⟨(show _ ∨ _ by omega), ?_⟩ | refine ⟨fun h => absurd h (by decide), fun _ => ?_⟩ | refine ⟨fun _ => ?_, fun h => absurd h (by decide)⟩ | refine ⟨fun _ => ?_, fun h => absurd rfl h⟩ | refine ⟨fun h => absurd rfl h, fun _ => ?_⟩)); try (conv => whnf)
      refine ⟨fun q => absurd q (by omega), fun _ => ?_⟩
      (repeat ((conv => whnf); first | refine ⟨_, by assumption, ?_⟩ | refine ⟨_, _, by assumption, ?_⟩ | refine ⟨(show _ ∧ _ by omega), ?_⟩ | refine ⟨(show _ ∨ _ by omega), ?_⟩ | refine ⟨fun h => absurd h (by decide), fun _ => ?_⟩ | refine ⟨fun _ => ?_, fun h => absurd h (by decide)⟩ | refine ⟨fun _ => ?_, fun h => absurd rfl h⟩ | refine ⟨fun h => absurd rfl h, fun _ => ?_⟩)); try (conv => whnf)
      refine hG _ _ _ _ _ _ ?_
      refine ih (k + 1) _ (by omega) (by omega) (hF.put (by decide) (by decide)) (by rw [uI_ne (by omega)]; exact h3) (fun x g1 g2 => ?_) (fun x g1 => ?_)
      · by_cases hx : x = k
        · subst hx
          rw [uI_at, hCo _ (by omega)]
        · rw [uI_ne (by omega)]
          exact hB x g1 (by omega)
      · rw [uI_ne (by omega)]
        exact hCo x (by omega)
  have hk' : I 361 ((3 : Nat) : Int) = h.length := hk
  refine Ok.of (by decide) rfl (Nat.le_of_ble_eq_true rfl) ?_
  refine Go.walk 400 [11, 51] E116 E116_ok (fun G C hG hC => ?_)
  (repeat ((conv => whnf); first | refine ⟨_, by assumption, ?_⟩ | refine ⟨_, _, by assumption, ?_⟩ | refine ⟨(show _ ∧ _ by omega), ?_⟩ | refine ⟨(show _ ∨ _ by omega), ?_⟩ | refine ⟨fun h => absurd h (by decide), fun _ => ?_⟩ | refine ⟨fun _ => ?_, fun h => absurd h (by decide)⟩ | refine ⟨fun _ => ?_, fun h => absurd rfl h⟩ | refine ⟨fun h => absurd rfl h, fun _ => ?_⟩)); try (conv => whnf)
  refine ⟨fun hne => ?_, fun heq => ?_⟩
  · (repeat ((conv => whnf); first | refine ⟨_, by assumption, ?_⟩ | refine ⟨_, _, by assumption, ?_⟩ | refine ⟨(show _ ∧ _ by omega), ?_⟩ | refine ⟨(show _ ∨ _ by omega), ?_⟩ | refine ⟨fun h => absurd h (by decide), fun _ => ?_⟩ | refine ⟨fun _ => ?_, fun h => absurd h (by decide)⟩ | refine ⟨fun _ => ?_, fun h => absurd rfl h⟩ | refine ⟨fun h => absurd rfl h, fun _ => ?_⟩)); try (conv => whnf)
    refine hG _ _ _ _ _ _ ?_
    exact copy h (by omega) (by rw [pushH, if_neg (by omega)]) 68 0 I (by omega) (by omega) MF.rf hk hb (fun x g1 g2 => absurd g2 (by omega))
  · (repeat ((conv => whnf); first | refine ⟨_, by assumption, ?_⟩ | refine ⟨_, _, by assumption, ?_⟩ | refine ⟨(show _ ∧ _ by omega), ?_⟩ | refine ⟨(show _ ∨ _ by omega), ?_⟩ | refine ⟨fun h => absurd h (by decide), fun _ => ?_⟩ | refine ⟨fun _ => ?_, fun h => absurd h (by decide)⟩ | refine ⟨fun _ => ?_, fun h => absurd rfl h⟩ | refine ⟨fun h => absurd rfl h, fun _ => ?_⟩)); try (conv => whnf)
    refine hG _ _ _ _ _ _ ?_
    exact shift (by omega) 1020 0 I (by omega) (by omega) MF.rf (by omega) (fun x g1 g2 => absurd g2 (by omega)) (fun _ _ => rfl)
/-- sets(v, what, value) -/
theorem ok_sets {P : aP} {d : Nat} {K : aK} {I : aI} {R : aR} {S : aS} {v w z : Int} (hM : MS R S) (hb : 0 ≤ v ∧ v < 6 ∧ 0 ≤ w ∧ w < 8) (h1 : K none (uI I 362 (20 + 8 * v + w) z) R S) : Ok P 117 (d + 1) [vr 361, vi v, vi w, vi z] I R S K := by
  obtain ⟨m0, r1, m1, r2, m2, r3, m3, r4, m4, r5, m5, r6, m6, r7, m7, r8, m8, r9, m9, r10, m10, r11, m11, r12, m12, r13, m13, r14, m14, r15, m15⟩ := id hM
  refine Ok.of (by decide) rfl (Nat.le_of_ble_eq_true rfl) ?_
  refine Go.walk 400 [] E117 E117_ok (fun G C hG hC => ?_)
  (repeat ((conv => whnf); first | refine ⟨_, by assumption, ?_⟩ | refine ⟨_, _, by assumption, ?_⟩ | refine ⟨(show _ ∧ _ by omega), ?_⟩ | refine ⟨(show _ ∨ _ by omega), ?_⟩ | refine ⟨fun h => absurd h (by decide), fun _ => ?_⟩ | refine ⟨fun _ => ?_, fun h => absurd h (by decide)⟩ | refine ⟨fun _ => ?_, fun h => absurd rfl h⟩ | refine ⟨fun h => absurd rfl h, fun _ => ?_⟩)); try (conv => whnf)
  exact h1
def growF (n : aN) (a r c : Int) : aN := up (st (st (st (st (st (st (st (st n (n 0) 0 a) (n 0) 1 r) (n 0) 2 c) (n 0) 3 1) (n 0) 4 1) (n 0) 5 100) (n 0) 6 0) (n 0) 7 0) 0 (n 0 + 1)
/-- comes(above, r, c) -/
theorem ok_comes {P : aP} {d : Nat} {K : aK} {I : aI} {R : aR} {S : aS} {a r c : Int} (hM : MS R S) (hb : 0 ≤ I 362 0 ∧ I 362 0 < 6) (h1 : ∀ I', Fr [362] I I' → I' 362 = growF (I 362) a r c → K (some (vi (I 362 0))) I' R S) : Ok P 118 (d + 2) [vr 361, vi a, vi r, vi c] I R S K := by
  obtain ⟨m0, r1, m1, r2, m2, r3, m3, r4, m4, r5, m5, r6, m6, r7, m7, r8, m8, r9, m9, r10, m10, r11, m11, r12, m12, r13, m13, r14, m14, r15, m15⟩ := id hM
  refine Ok.of (by decide) rfl (Nat.le_of_ble_eq_true rfl) ?_
  refine Go.walk 400 [] E118 E118_ok (fun G C hG hC => ?_)
  (repeat ((conv => whnf); first | refine ⟨_, by assumption, ?_⟩ | refine ⟨_, _, by assumption, ?_⟩ | refine ⟨(show _ ∧ _ by omega), ?_⟩ | refine ⟨(show _ ∨ _ by omega), ?_⟩ | refine ⟨fun h => absurd h (by decide), fun _ => ?_⟩ | refine ⟨fun _ => ?_, fun h => absurd h (by decide)⟩ | refine ⟨fun _ => ?_, fun h => absurd rfl h⟩ | refine ⟨fun h => absurd rfl h, fun _ => ?_⟩)); try (conv => whnf)
  refine hC _ _ _ _ _ _ ?_
  refine ok_sets hM (by omega) ?_
  (repeat ((conv => whnf); first | refine ⟨_, by assumption, ?_⟩ | refine ⟨_, _, by assumption, ?_⟩ | refine ⟨(show _ ∧ _ by omega), ?_⟩ | refine ⟨(show _ ∨ _ by omega), ?_⟩ | refine ⟨fun h => absurd h (by decide), fun _ => ?_⟩ | refine ⟨fun _ => ?_, fun h => absurd h (by decide)⟩ | refine ⟨fun _ => ?_, fun h => absurd rfl h⟩ | refine ⟨fun h => absurd rfl h, fun _ => ?_⟩)); try (conv => whnf)
  refine hC _ _ _ _ _ _ ?_
  refine ok_sets hM (by omega) ?_
  (repeat ((conv => whnf); first | refine ⟨_, by assumption, ?_⟩ | refine ⟨_, _, by assumption, ?_⟩ | refine ⟨(show _ ∧ _ by omega), ?_⟩ | refine ⟨(show _ ∨ _ by omega), ?_⟩ | refine ⟨fun h => absurd h (by decide), fun _ => ?_⟩ | refine ⟨fun _ => ?_, fun h => absurd h (by decide)⟩ | refine ⟨fun _ => ?_, fun h => absurd rfl h⟩ | refine ⟨fun h => absurd rfl h, fun _ => ?_⟩)); try (conv => whnf)
  refine hC _ _ _ _ _ _ ?_
  refine ok_sets hM (by omega) ?_
  (repeat ((conv => whnf); first | refine ⟨_, by assumption, ?_⟩ | refine ⟨_, _, by assumption, ?_⟩ | refine ⟨(show _ ∧ _ by omega), ?_⟩ | refine ⟨(show _ ∨ _ by omega), ?_⟩ | refine ⟨fun h => absurd h (by decide), fun _ => ?_⟩ | refine ⟨fun _ => ?_, fun h => absurd h (by decide)⟩ | refine ⟨fun _ => ?_, fun h => absurd rfl h⟩ | refine ⟨fun h => absurd rfl h, fun _ => ?_⟩)); try (conv => whnf)
  refine hC _ _ _ _ _ _ ?_
  refine ok_sets hM (by omega) ?_
  (repeat ((conv => whnf); first | refine ⟨_, by assumption, ?_⟩ | refine ⟨_, _, by assumption, ?_⟩ | refine ⟨(show _ ∧ _ by omega), ?_⟩ | refine ⟨(show _ ∨ _ by omega), ?_⟩ | refine ⟨fun h => absurd h (by decide), fun _ => ?_⟩ | refine ⟨fun _ => ?_, fun h => absurd h (by decide)⟩ | refine ⟨fun _ => ?_, fun h => absurd rfl h⟩ | refine ⟨fun h => absurd rfl h, fun _ => ?_⟩)); try (conv => whnf)
  refine hC _ _ _ _ _ _ ?_
  refine ok_sets hM (by omega) ?_
  (repeat ((conv => whnf); first | refine ⟨_, by assumption, ?_⟩ | refine ⟨_, _, by assumption, ?_⟩ | refine ⟨(show _ ∧ _ by omega), ?_⟩ | refine ⟨(show _ ∨ _ by omega), ?_⟩ | refine ⟨fun h => absurd h (by decide), fun _ => ?_⟩ | refine ⟨fun _ => ?_, fun h => absurd h (by decide)⟩ | refine ⟨fun _ => ?_, fun h => absurd rfl h⟩ | refine ⟨fun h => absurd rfl h, fun _ => ?_⟩)); try (conv => whnf)
  refine hC _ _ _ _ _ _ ?_
  refine ok_sets hM (by omega) ?_
  (repeat ((conv => whnf); first | refine ⟨_, by assumption, ?_⟩ | refine ⟨_, _, by assumption, ?_⟩ | refine ⟨(show _ ∧ _ by omega), ?_⟩ | refine ⟨(show _ ∨ _ by omega), ?_⟩ | refine ⟨fun h => absurd h (by decide), fun _ => ?_⟩ | refine ⟨fun _ => ?_, fun h => absurd h (by decide)⟩ | refine ⟨fun _ => ?_, fun h => absurd rfl h⟩ | refine ⟨fun h => absurd rfl h, fun _ => ?_⟩)); try (conv => whnf)
  refine hC _ _ _ _ _ _ ?_
  refine ok_sets hM (by omega) ?_
  (repeat ((conv => whnf); first | refine ⟨_, by assumption, ?_⟩ | refine ⟨_, _, by assumption, ?_⟩ | refine ⟨(show _ ∧ _ by omega), ?_⟩ | refine ⟨(show _ ∨ _ by omega), ?_⟩ | refine ⟨fun h => absurd h (by decide), fun _ => ?_⟩ | refine ⟨fun _ => ?_, fun h => absurd h (by decide)⟩ | refine ⟨fun _ => ?_, fun h => absurd rfl h⟩ | refine ⟨fun h => absurd rfl h, fun _ => ?_⟩)); try (conv => whnf)
  refine hC _ _ _ _ _ _ ?_
  refine ok_sets hM (by omega) ?_
  (repeat ((conv => whnf); first | refine ⟨_, by assumption, ?_⟩ | refine ⟨_, _, by assumption, ?_⟩ | refine ⟨(show _ ∧ _ by omega), ?_⟩ | refine ⟨(show _ ∨ _ by omega), ?_⟩ | refine ⟨fun h => absurd h (by decide), fun _ => ?_⟩ | refine ⟨fun _ => ?_, fun h => absurd h (by decide)⟩ | refine ⟨fun _ => ?_, fun h => absurd rfl h⟩ | refine ⟨fun h => absurd rfl h, fun _ => ?_⟩)); try (conv => whnf)
  refine h1 _ ((((((((Fr.rf.put (by decide)).put (by decide)).put (by decide)).put (by decide)).put (by decide)).put (by decide)).put (by decide)).put (by decide) |>.put (by decide)) ?_
  simp only [uI_up, growF, st]
  congr 1
  rw [up_ne (by omega), up_ne (by omega), up_ne (by omega), up_ne (by omega), up_ne (by omega), up_ne (by omega), up_ne (by omega), up_ne (by omega)]
end
section
/-! a net's numbers after a change -/
theorem nf_st {n : aN} {v w z x y : Int} (hw : 0 ≤ w ∧ w < 8) (hy : 0 ≤ y ∧ y < 8) : nf (st n v w z) x y = if x = v ∧ y = w then z else nf n x y := by
  unfold nf st up
  by_cases h : x = v ∧ y = w
  · rw [if_pos h, if_pos (by omega)]
  · rw [if_neg h, if_neg (by omega)]
theorem kf_st {n : aN} {v w z k y : Int} (hv : 0 ≤ v) (hw : 0 ≤ w) (hk : k ≤ 3) (hy : y < 6) : kf (st n v w z) k y = kf n k y := by
  unfold kf st
  exact up_ne (by omega)
theorem st_lo {n : aN} {v w z x : Int} (hv : 0 ≤ v) (hw : 0 ≤ w) (hx : x < 20) : st n v w z x = n x := up_ne (by omega)
theorem kf_sk {n : aN} {k w z x y : Int} (hw : 0 ≤ w ∧ w < 6) (hy : 0 ≤ y ∧ y < 6) : kf (sk n k w z) x y = if x = k ∧ y = w then z else kf n x y := by
  unfold kf sk up
  by_cases h : x = k ∧ y = w
  · rw [if_pos h, if_pos (by omega)]
  · rw [if_neg h, if_neg (by omega)]
theorem nf_sk {n : aN} {k w z v y : Int} (hk : k ≤ 3) (hw : w < 6) (hv : 0 ≤ v) (hy : 0 ≤ y) : nf (sk n k w z) v y = nf n v y := by
  unfold nf sk
  exact up_ne (by omega)
theorem sk_lo {n : aN} {k w z x : Int} (hk : 1 ≤ k) (hw : 0 ≤ w) (hx : x < 2) : sk n k w z x = n x := up_ne (by omega)
/-- the bounds of one number of a node -/
def nB (v w z : Int) : Prop := (w = 0 → 0 ≤ z ∧ (1 ≤ v → z < v)) ∧ (w = 1 → 0 ≤ z ∧ z ≤ 9) ∧ (w = 2 → 0 ≤ z ∧ z ≤ 9) ∧ (w = 3 → 1 ≤ z ∧ z ≤ 2) ∧ (w = 4 → 1 ≤ z ∧ z ≤ 9) ∧ (w = 5 → 0 ≤ z ∧ z ≤ 9999) ∧ (w = 6 → 0 ≤ z ∧ z ≤ 1) ∧ (w = 7 → 0 ≤ z ∧ z ≤ 3)
theorem wf_st {n : aN} (hW : WF n) {v w z : Int} (hv : 1 ≤ v) (hw : 0 ≤ w ∧ w < 8) (hz : nB v w z) (hk : w = 7 → 1 ≤ z → kf n z 0 = 1) : WF (st n v w z) := by
  obtain ⟨h1, h2, h3, h4, h5, h6⟩ := hW
  obtain ⟨z0, z1, z2, z3, z4, z5, z6, z7⟩ := hz
  have e0 : st n v w z 0 = n 0 := st_lo (by omega) (by omega) (by omega)
  have e1 : st n v w z 1 = n 1 := st_lo (by omega) (by omega) (by omega)
  have ek : ∀ k y : Int, k ≤ 3 → y < 6 → kf (st n v w z) k y = kf n k y := fun k y g1 g2 => kf_st (by omega) (by omega) g1 g2
  have en : ∀ x y : Int, 0 ≤ y → y < 8 → nf (st n v w z) x y = if x = v ∧ y = w then z else nf n x y := fun x y g1 g2 => nf_st hw ⟨g1, g2⟩
  refine ⟨by rw [e0, e1]; exact h1, fun x g1 g2 => ?_, fun x g1 g2 => ?_, fun x g1 g2 g3 => ?_, ?_, fun k g1 g2 => ?_⟩
  · have hx := h2 x g1 g2
    rw [en x 0 (by omega) (by omega), en x 1 (by omega) (by omega), en x 2 (by omega) (by omega), en x 3 (by omega) (by omega), en x 4 (by omega) (by omega), en x 5 (by omega) (by omega), en x 6 (by omega) (by omega), en x 7 (by omega) (by omega)]
    refine ⟨?_, ?_, ?_, ?_, ?_, ?_, ?_, ?_⟩ <;> split <;> rename_i hc <;> omega
  · rw [e0] at g2
    have hx := h3 x g1 g2
    rw [en x 3 (by omega) (by omega), en x 4 (by omega) (by omega)]
    refine ⟨?_, ?_⟩ <;> split <;> rename_i hc <;> omega
  · rw [e0] at g2
    rw [en x 7 (by omega) (by omega)] at g3 ⊢
    split at g3
    · rename_i hc
      rw [if_pos hc, ek z 0 (by omega) (by omega)]
      exact hk hc.2.symm g3
    · rename_i hc
      have := (h2 x (by omega) (by omega)).2.2.2.2.2.2.2
      rw [if_neg hc, ek _ 0 (by omega) (by omega)]
      exact h4 x g1 g2 g3
  · rw [en 0 7 (by omega) (by omega), if_neg (by omega)]
    exact h5
  · rw [ek k 0 (by omega) (by omega), ek k 1 (by omega) (by omega), ek k 2 (by omega) (by omega), ek k 3 (by omega) (by omega), ek k 4 (by omega) (by omega), ek k 5 (by omega) (by omega)]
    exact h6 k g1 g2
/-! what the deeds do -/
def nodeF (n : aN) (a r c : Int) : Int × Option aN := if ¬ (0 ≤ a ∧ a < n 0) then (-1000000001, none) else if ¬ ((0 ≤ r ∧ r ≤ 9) ∧ (0 ≤ c ∧ c ≤ 9)) then (-1000000002, none) else if n 0 = 6 then (-1000000004, none) else (n 0, some (growF n a r c))
def endN (n : aN) (v l e w : Int) : aN := st (st (st n v 4 l) v 5 e) v 6 w
def endF (n : aN) (v l e w : Int) : Int × Option aN := if ¬ (0 ≤ v ∧ v < n 0) then (-1000000001, none) else if ¬ ((1 ≤ l ∧ l ≤ 9) ∧ (0 ≤ e ∧ e ≤ 9999) ∧ (0 ≤ w ∧ w ≤ 1)) then (-1000000002, none) else if v = 0 then (-1000000003, none) else (b2i (mEnd (endN n v l e w) v), some (endN n v l e w))
def wireN (n : aN) (v r c w : Int) : aN := st (st (st n v 1 r) v 2 c) v 3 w
def wireF (n : aN) (v r c w : Int) : Int × Option aN := if ¬ (0 ≤ v ∧ v < n 0) then (-1000000001, none) else if ¬ ((0 ≤ r ∧ r ≤ 9) ∧ (0 ≤ c ∧ c ≤ 9) ∧ (1 ≤ w ∧ w ≤ 2)) then (-1000000002, none) else if v = 0 then (-1000000003, none) else (tim (wireN n v r c w) (pl0 (wireN n v r c w)) (wd0 (wireN n v r c w)) 0 (src (wireN n v r c w) (pl0 (wireN n v r c w)) (wd0 (wireN n v r c w))) v, some (wireN n v r c w))
def pullF (n : aN) (p : Int) : Int × Option aN := if ¬ (0 ≤ p ∧ p ≤ 9) then (-1000000002, none) else (n 1, some (up n 1 p))
def kindN (n : aN) (k i p o c t : Int) : aN := sk (sk (sk (sk (sk (sk n k 0 1) k 1 i) k 2 p) k 3 o) k 4 c) k 5 t
def kindF (n : aN) (k i p o c t : Int) : Int × Option aN := if ¬ (1 ≤ k ∧ k ≤ 3) then (-1000000001, none) else if ¬ ((1 ≤ i ∧ i ≤ 9) ∧ (0 ≤ p ∧ p ≤ 9) ∧ (0 ≤ o ∧ o ≤ 99) ∧ (0 ≤ c ∧ c ≤ 99) ∧ (0 ≤ t ∧ t ≤ 1)) then (-1000000002, none) else (kf n k 0, some (kindN n k i p o c t))
def takeF (n : aN) : Int × Option aN := if n 0 = 1 then (-1000000003, none) else (n 0 - 1, some (up n 0 (n 0 - 1)))
/-- the end of a deed, on the reference's side -/
def DeedM (F : Int × Option aN) (h : List aN) (I : aI) (R : aR) (S : aS) (K : aK) : Prop := (F.2 = none → ∀ I', MF [368, 369, 370, 371, 372, 373, 374, 375, 376] [18, 19] I I' → K (some (vi F.1)) I' R S) ∧ ∀ n', F.2 = some n' → ∀ I', MF [362, 363, 368, 369, 370, 371, 372, 373, 374, 375, 376] [3, 18, 19] I I' → I' 362 = n' → HistM I' (pushH h (I 362)) → K (some (vi F.1)) I' R S
theorem DeedM.no {F : Int × Option aN} {h : List aN} {I : aI} {R : aR} {S : aS} {K : aK} {r : Int} (hD : DeedM F h I R S K) (e : F = (r, none)) : K (some (vi r)) I R S := by
  subst e
  exact hD.1 rfl I MF.rf
theorem DeedM.yes {F : Int × Option aN} {h : List aN} {I : aI} {R : aR} {S : aS} {K : aK} {r : Int} {n' : aN} (hD : DeedM F h I R S K) (e : F = (r, some n')) {I1 I2 : aI} (h1 : MF [363] [3] I I1) (hh : HistM I1 (pushH h (I 362))) (h2 : MF [362, 368, 369, 370, 371, 372, 373, 374, 375, 376] [18, 19] I1 I2) (h3 : I2 362 = n') : K (some (vi r)) I2 R S := by
  subst e
  refine hD.2 n' rfl I2 (h1.trans h2 (by simp <;> omega) (by simp <;> omega)) h3 (hh.of (h2.2 3 (by decide)) (h2.1 363 (by decide)))
/-- node(above, r, c) -/
theorem ok_mnode {P : aP} {d : Nat} {K : aK} {I : aI} {R : aR} {S : aS} {a r c : Int} {h : List aN} (hM : MS R S) (hW : WF (I 362)) (hH : HistM I h) (ha : iR a) (hr : iR r) (hc : iR c) (hK : DeedM (nodeF (I 362) a r c) h I R S K) : Ok P 119 (d + 3) [vr 361, vi a, vi r, vi c] I R S K := by
  obtain ⟨m0, r1, m1, r2, m2, r3, m3, r4, m4, r5, m5, r6, m6, r7, m7, r8, m8, r9, m9, r10, m10, r11, m11, r12, m12, r13, m13, r14, m14, r15, m15⟩ := id hM
  have hN := hW.1
  refine Ok.of (by decide) rfl (Nat.le_of_ble_eq_true rfl) ?_
  refine Go.walk 400 [] E119 E119_ok (fun G C hG hC => ?_)
  (repeat ((conv => whnf); first | refine ⟨_, by assumption, ?_⟩ | refine ⟨_, _, by assumption, ?_⟩ | refine ⟨(show _ ∧ _ by omega), ?_⟩ | refine ⟨(show _ ∨ _ by omega), ?_⟩ | refine ⟨fun h => absurd h (by decide), fun _ => ?_⟩ | refine ⟨fun _ => ?_, fun h => absurd h (by decide)⟩ | refine ⟨fun _ => ?_, fun h => absurd rfl h⟩ | refine ⟨fun h => absurd rfl h, fun _ => ?_⟩)); try (conv => whnf)
  refine hC _ _ _ _ _ _ ?_
  refine ok_isNode hM ha hW (fun h1 => ?_) (fun h1 => ?_)
  · (repeat ((conv => whnf); first | refine ⟨_, by assumption, ?_⟩ | refine ⟨_, _, by assumption, ?_⟩ | refine ⟨(show _ ∧ _ by omega), ?_⟩ | refine ⟨(show _ ∨ _ by omega), ?_⟩ | refine ⟨fun h => absurd h (by decide), fun _ => ?_⟩ | refine ⟨fun _ => ?_, fun h => absurd h (by decide)⟩ | refine ⟨fun _ => ?_, fun h => absurd rfl h⟩ | refine ⟨fun h => absurd rfl h, fun _ => ?_⟩)); try (conv => whnf)
    refine hC _ _ _ _ _ _ ?_
    refine ok_in hr (by omega) (by omega) (fun h2 => ?_) (fun h2 => ?_)
    · (repeat ((conv => whnf); first | refine ⟨_, by assumption, ?_⟩ | refine ⟨_, _, by assumption, ?_⟩ | refine ⟨(show _ ∧ _ by omega), ?_⟩ | refine ⟨(show _ ∨ _ by omega), ?_⟩ | refine ⟨fun h => absurd h (by decide), fun _ => ?_⟩ | refine ⟨fun _ => ?_, fun h => absurd h (by decide)⟩ | refine ⟨fun _ => ?_, fun h => absurd rfl h⟩ | refine ⟨fun h => absurd rfl h, fun _ => ?_⟩)); try (conv => whnf)
      refine hC _ _ _ _ _ _ ?_
      refine ok_in hc (by omega) (by omega) (fun h3 => ?_) (fun h3 => ?_)
      · (repeat ((conv => whnf); first | refine ⟨_, by assumption, ?_⟩ | refine ⟨_, _, by assumption, ?_⟩ | refine ⟨(show _ ∧ _ by omega), ?_⟩ | refine ⟨(show _ ∨ _ by omega), ?_⟩ | refine ⟨fun h => absurd h (by decide), fun _ => ?_⟩ | refine ⟨fun _ => ?_, fun h => absurd h (by decide)⟩ | refine ⟨fun _ => ?_, fun h => absurd rfl h⟩ | refine ⟨fun h => absurd rfl h, fun _ => ?_⟩)); try (conv => whnf)
        refine ⟨fun h4 => ?_, fun h4 => ?_⟩
        · (repeat ((conv => whnf); first | refine ⟨_, by assumption, ?_⟩ | refine ⟨_, _, by assumption, ?_⟩ | refine ⟨(show _ ∧ _ by omega), ?_⟩ | refine ⟨(show _ ∨ _ by omega), ?_⟩ | refine ⟨fun h => absurd h (by decide), fun _ => ?_⟩ | refine ⟨fun _ => ?_, fun h => absurd h (by decide)⟩ | refine ⟨fun _ => ?_, fun h => absurd rfl h⟩ | refine ⟨fun h => absurd rfl h, fun _ => ?_⟩)); try (conv => whnf)
          refine hC _ _ _ _ _ _ ?_
          refine ok_deed hM hH (fun I1 hF1 hH1 => ?_)
          have e := hF1.1 362 (by decide)
          (repeat ((conv => whnf); first | refine ⟨_, by assumption, ?_⟩ | refine ⟨_, _, by assumption, ?_⟩ | refine ⟨(show _ ∧ _ by omega), ?_⟩ | refine ⟨(show _ ∨ _ by omega), ?_⟩ | refine ⟨fun h => absurd h (by decide), fun _ => ?_⟩ | refine ⟨fun _ => ?_, fun h => absurd h (by decide)⟩ | refine ⟨fun _ => ?_, fun h => absurd rfl h⟩ | refine ⟨fun h => absurd rfl h, fun _ => ?_⟩)); try (conv => whnf)
          refine hC _ _ _ _ _ _ ?_
          refine ok_comes hM (by rw [e]; omega) (fun I2 hF2 h5 => ?_)
          rw [e] at h5
          rw [e]
          (repeat ((conv => whnf); first | refine ⟨_, by assumption, ?_⟩ | refine ⟨_, _, by assumption, ?_⟩ | refine ⟨(show _ ∧ _ by omega), ?_⟩ | refine ⟨(show _ ∨ _ by omega), ?_⟩ | refine ⟨fun h => absurd h (by decide), fun _ => ?_⟩ | refine ⟨fun _ => ?_, fun h => absurd h (by decide)⟩ | refine ⟨fun _ => ?_, fun h => absurd rfl h⟩ | refine ⟨fun h => absurd rfl h, fun _ => ?_⟩)); try (conv => whnf)
          exact hK.yes (by rw [nodeF, if_neg (by omega), if_neg (by omega), if_neg h4]) hF1 hH1 ((MF.of (J := []) hF2 (by decide)).trans (MF.rf (L := []) (J := [])) (by simp <;> omega) (by simp)) h5
        · (repeat ((conv => whnf); first | refine ⟨_, by assumption, ?_⟩ | refine ⟨_, _, by assumption, ?_⟩ | refine ⟨(show _ ∧ _ by omega), ?_⟩ | refine ⟨(show _ ∨ _ by omega), ?_⟩ | refine ⟨fun h => absurd h (by decide), fun _ => ?_⟩ | refine ⟨fun _ => ?_, fun h => absurd h (by decide)⟩ | refine ⟨fun _ => ?_, fun h => absurd rfl h⟩ | refine ⟨fun h => absurd rfl h, fun _ => ?_⟩)); try (conv => whnf)
          exact hK.no (by rw [nodeF, if_neg (by omega), if_neg (by omega), if_pos h4])
      · (repeat ((conv => whnf); first | refine ⟨_, by assumption, ?_⟩ | refine ⟨_, _, by assumption, ?_⟩ | refine ⟨(show _ ∧ _ by omega), ?_⟩ | refine ⟨(show _ ∨ _ by omega), ?_⟩ | refine ⟨fun h => absurd h (by decide), fun _ => ?_⟩ | refine ⟨fun _ => ?_, fun h => absurd h (by decide)⟩ | refine ⟨fun _ => ?_, fun h => absurd rfl h⟩ | refine ⟨fun h => absurd rfl h, fun _ => ?_⟩)); try (conv => whnf)
        exact hK.no (by rw [nodeF, if_neg (by omega), if_pos (by omega)])
    · (repeat ((conv => whnf); first | refine ⟨_, by assumption, ?_⟩ | refine ⟨_, _, by assumption, ?_⟩ | refine ⟨(show _ ∧ _ by omega), ?_⟩ | refine ⟨(show _ ∨ _ by omega), ?_⟩ | refine ⟨fun h => absurd h (by decide), fun _ => ?_⟩ | refine ⟨fun _ => ?_, fun h => absurd h (by decide)⟩ | refine ⟨fun _ => ?_, fun h => absurd rfl h⟩ | refine ⟨fun h => absurd rfl h, fun _ => ?_⟩)); try (conv => whnf)
      exact hK.no (by rw [nodeF, if_neg (by omega), if_pos (by omega)])
  · (repeat ((conv => whnf); first | refine ⟨_, by assumption, ?_⟩ | refine ⟨_, _, by assumption, ?_⟩ | refine ⟨(show _ ∧ _ by omega), ?_⟩ | refine ⟨(show _ ∨ _ by omega), ?_⟩ | refine ⟨fun h => absurd h (by decide), fun _ => ?_⟩ | refine ⟨fun _ => ?_, fun h => absurd h (by decide)⟩ | refine ⟨fun _ => ?_, fun h => absurd rfl h⟩ | refine ⟨fun h => absurd rfl h, fun _ => ?_⟩)); try (conv => whnf)
    exact hK.no (by rw [nodeF, if_pos (by omega)])
/-- pull(p) -/
theorem ok_mpull {P : aP} {d : Nat} {K : aK} {I : aI} {R : aR} {S : aS} {p : Int} {h : List aN} (hM : MS R S) (hH : HistM I h) (hp : iR p) (hK : DeedM (pullF (I 362) p) h I R S K) : Ok P 122 (d + 2) [vr 361, vi p] I R S K := by
  obtain ⟨m0, r1, m1, r2, m2, r3, m3, r4, m4, r5, m5, r6, m6, r7, m7, r8, m8, r9, m9, r10, m10, r11, m11, r12, m12, r13, m13, r14, m14, r15, m15⟩ := id hM
  refine Ok.of (by decide) rfl (Nat.le_of_ble_eq_true rfl) ?_
  refine Go.walk 400 [] E122 E122_ok (fun G C hG hC => ?_)
  (repeat ((conv => whnf); first | refine ⟨_, by assumption, ?_⟩ | refine ⟨_, _, by assumption, ?_⟩ | refine ⟨(show _ ∧ _ by omega), ?_⟩ | refine ⟨(show _ ∨ _ by omega), ?_⟩ | refine ⟨fun h => absurd h (by decide), fun _ => ?_⟩ | refine ⟨fun _ => ?_, fun h => absurd h (by decide)⟩ | refine ⟨fun _ => ?_, fun h => absurd rfl h⟩ | refine ⟨fun h => absurd rfl h, fun _ => ?_⟩)); try (conv => whnf)
  refine hC _ _ _ _ _ _ ?_
  refine ok_in hp (by omega) (by omega) (fun h1 => ?_) (fun h1 => ?_)
  · (repeat ((conv => whnf); first | refine ⟨_, by assumption, ?_⟩ | refine ⟨_, _, by assumption, ?_⟩ | refine ⟨(show _ ∧ _ by omega), ?_⟩ | refine ⟨(show _ ∨ _ by omega), ?_⟩ | refine ⟨fun h => absurd h (by decide), fun _ => ?_⟩ | refine ⟨fun _ => ?_, fun h => absurd h (by decide)⟩ | refine ⟨fun _ => ?_, fun h => absurd rfl h⟩ | refine ⟨fun h => absurd rfl h, fun _ => ?_⟩)); try (conv => whnf)
    refine hC _ _ _ _ _ _ ?_
    refine ok_deed hM hH (fun I1 hF1 hH1 => ?_)
    have e := hF1.1 362 (by decide)
    (repeat ((conv => whnf); first | refine ⟨_, by assumption, ?_⟩ | refine ⟨_, _, by assumption, ?_⟩ | refine ⟨(show _ ∧ _ by omega), ?_⟩ | refine ⟨(show _ ∨ _ by omega), ?_⟩ | refine ⟨fun h => absurd h (by decide), fun _ => ?_⟩ | refine ⟨fun _ => ?_, fun h => absurd h (by decide)⟩ | refine ⟨fun _ => ?_, fun h => absurd rfl h⟩ | refine ⟨fun h => absurd rfl h, fun _ => ?_⟩)); try (conv => whnf)
    rw [e]
    refine hK.yes (by rw [pullF, if_neg (by omega)]) hF1 hH1 (MF.rf.put (by decide) (by decide)) (by rw [uI_up, e])
  · (repeat ((conv => whnf); first | refine ⟨_, by assumption, ?_⟩ | refine ⟨_, _, by assumption, ?_⟩ | refine ⟨(show _ ∧ _ by omega), ?_⟩ | refine ⟨(show _ ∨ _ by omega), ?_⟩ | refine ⟨fun h => absurd h (by decide), fun _ => ?_⟩ | refine ⟨fun _ => ?_, fun h => absurd h (by decide)⟩ | refine ⟨fun _ => ?_, fun h => absurd rfl h⟩ | refine ⟨fun h => absurd rfl h, fun _ => ?_⟩)); try (conv => whnf)
    exact hK.no (by rw [pullF, if_pos (by omega)])
/-- take() -/
theorem ok_mtake {P : aP} {d : Nat} {K : aK} {I : aI} {R : aR} {S : aS} {h : List aN} (hM : MS R S) (hW : WF (I 362)) (hH : HistM I h) (hK : DeedM (takeF (I 362)) h I R S K) : Ok P 126 (d + 2) [vr 361] I R S K := by
  obtain ⟨m0, r1, m1, r2, m2, r3, m3, r4, m4, r5, m5, r6, m6, r7, m7, r8, m8, r9, m9, r10, m10, r11, m11, r12, m12, r13, m13, r14, m14, r15, m15⟩ := id hM
  have hN := hW.1
  refine Ok.of (by decide) rfl (Nat.le_of_ble_eq_true rfl) ?_
  refine Go.walk 400 [] E126 E126_ok (fun G C hG hC => ?_)
  (repeat ((conv => whnf); first | refine ⟨_, by assumption, ?_⟩ | refine ⟨_, _, by assumption, ?_⟩ | refine ⟨(show _ ∧ _ by omega), ?_⟩ | refine ⟨(show _ ∨ _ by omega), ?_⟩ | refine ⟨fun h => absurd h (by decide), fun _ => ?_⟩ | refine ⟨fun _ => ?_, fun h => absurd h (by decide)⟩ | refine ⟨fun _ => ?_, fun h => absurd rfl h⟩ | refine ⟨fun h => absurd rfl h, fun _ => ?_⟩)); try (conv => whnf)
  refine ⟨fun h4 => ?_, fun h4 => ?_⟩
  · (repeat ((conv => whnf); first | refine ⟨_, by assumption, ?_⟩ | refine ⟨_, _, by assumption, ?_⟩ | refine ⟨(show _ ∧ _ by omega), ?_⟩ | refine ⟨(show _ ∨ _ by omega), ?_⟩ | refine ⟨fun h => absurd h (by decide), fun _ => ?_⟩ | refine ⟨fun _ => ?_, fun h => absurd h (by decide)⟩ | refine ⟨fun _ => ?_, fun h => absurd rfl h⟩ | refine ⟨fun h => absurd rfl h, fun _ => ?_⟩)); try (conv => whnf)
    refine hC _ _ _ _ _ _ ?_
    refine ok_deed hM hH (fun I1 hF1 hH1 => ?_)
    have e := hF1.1 362 (by decide)
    (repeat ((conv => whnf); first | refine ⟨_, by assumption, ?_⟩ | refine ⟨_, _, by assumption, ?_⟩ | refine ⟨(show _ ∧ _ by omega), ?_⟩ | refine ⟨(show _ ∨ _ by omega), ?_⟩ | refine ⟨fun h => absurd h (by decide), fun _ => ?_⟩ | refine ⟨fun _ => ?_, fun h => absurd h (by decide)⟩ | refine ⟨fun _ => ?_, fun h => absurd rfl h⟩ | refine ⟨fun h => absurd rfl h, fun _ => ?_⟩)); try (conv => whnf)
    rw [uI_at, e]
    refine hK.yes (by rw [takeF, if_neg h4]) hF1 hH1 (MF.rf.put (by decide) (by decide)) (by rw [uI_up, e])
  · (repeat ((conv => whnf); first | refine ⟨_, by assumption, ?_⟩ | refine ⟨_, _, by assumption, ?_⟩ | refine ⟨(show _ ∧ _ by omega), ?_⟩ | refine ⟨(show _ ∨ _ by omega), ?_⟩ | refine ⟨fun h => absurd h (by decide), fun _ => ?_⟩ | refine ⟨fun _ => ?_, fun h => absurd h (by decide)⟩ | refine ⟨fun _ => ?_, fun h => absurd rfl h⟩ | refine ⟨fun h => absurd rfl h, fun _ => ?_⟩)); try (conv => whnf)
    exact hK.no (by rw [takeF, if_pos h4])
end
section
/-! the reference: end, wire, kind, drop, place -/
theorem mf_362 {I I' : aI} (h : Fr [362] I I') : MF [362, 368, 369, 370, 371, 372, 373, 374, 375, 376] [18, 19] I I' := (MF.of (J := []) h (by decide)).trans (MF.rf (L := []) (J := [])) (by simp <;> omega) (by simp)
theorem wf_end {n : aN} (hW : WF n) {v l e w : Int} (hv : 1 ≤ v) (h : (1 ≤ l ∧ l ≤ 9) ∧ (0 ≤ e ∧ e ≤ 9999) ∧ (0 ≤ w ∧ w ≤ 1)) : WF (endN n v l e w) := by
  unfold endN
  refine wf_st (wf_st (wf_st hW hv (by omega) ?_ (by omega)) hv (by omega) ?_ (by omega)) hv (by omega) ?_ (by omega) <;> (refine ⟨?_, ?_, ?_, ?_, ?_, ?_, ?_, ?_⟩ <;> omega)
theorem wf_wire {n : aN} (hW : WF n) {v r c w : Int} (hv : 1 ≤ v) (h : (0 ≤ r ∧ r ≤ 9) ∧ (0 ≤ c ∧ c ≤ 9) ∧ (1 ≤ w ∧ w ≤ 2)) : WF (wireN n v r c w) := by
  unfold wireN
  refine wf_st (wf_st (wf_st hW hv (by omega) ?_ (by omega)) hv (by omega) ?_ (by omega)) hv (by omega) ?_ (by omega) <;> (refine ⟨?_, ?_, ?_, ?_, ?_, ?_, ?_, ?_⟩ <;> omega)
/-- end(v, load, need, wants) -/
theorem ok_mend {P : aP} {d : Nat} {K : aK} {I : aI} {R : aR} {S : aS} {v l ne w : Int} {h : List aN} (hM : MS R S) (hW : WF (I 362)) (hH : HistM I h) (hv : iR v) (hl : iR l) (hne : iR ne) (hw : iR w) (hK : DeedM (endF (I 362) v l ne w) h I R S K) : Ok P 120 (d + 3) [vr 361, vi v, vi l, vi ne, vi w] I R S K := by
  obtain ⟨m0, r1, m1, r2, m2, r3, m3, r4, m4, r5, m5, r6, m6, r7, m7, r8, m8, r9, m9, r10, m10, r11, m11, r12, m12, r13, m13, r14, m14, r15, m15⟩ := id hM
  have hN := hW.1
  refine Ok.of (by decide) rfl (Nat.le_of_ble_eq_true rfl) ?_
  refine Go.walk 400 [] E120 E120_ok (fun G C hG hC => ?_)
  (repeat ((conv => whnf); first | refine ⟨_, by assumption, ?_⟩ | refine ⟨_, _, by assumption, ?_⟩ | refine ⟨(show _ ∧ _ by omega), ?_⟩ | refine ⟨(show _ ∨ _ by omega), ?_⟩ | refine ⟨fun h => absurd h (by decide), fun _ => ?_⟩ | refine ⟨fun _ => ?_, fun h => absurd h (by decide)⟩ | refine ⟨fun _ => ?_, fun h => absurd rfl h⟩ | refine ⟨fun h => absurd rfl h, fun _ => ?_⟩)); try (conv => whnf)
  refine hC _ _ _ _ _ _ ?_
  refine ok_isNode hM hv hW (fun h1 => ?_) (fun h1 => ?_)
  · (repeat ((conv => whnf); first | refine ⟨_, by assumption, ?_⟩ | refine ⟨_, _, by assumption, ?_⟩ | refine ⟨(show _ ∧ _ by omega), ?_⟩ | refine ⟨(show _ ∨ _ by omega), ?_⟩ | refine ⟨fun h => absurd h (by decide), fun _ => ?_⟩ | refine ⟨fun _ => ?_, fun h => absurd h (by decide)⟩ | refine ⟨fun _ => ?_, fun h => absurd rfl h⟩ | refine ⟨fun h => absurd rfl h, fun _ => ?_⟩)); try (conv => whnf)
    refine hC _ _ _ _ _ _ ?_
    refine ok_in hl (by omega) (by omega) (fun h2 => ?_) (fun h2 => ?_)
    · (repeat ((conv => whnf); first | refine ⟨_, by assumption, ?_⟩ | refine ⟨_, _, by assumption, ?_⟩ | refine ⟨(show _ ∧ _ by omega), ?_⟩ | refine ⟨(show _ ∨ _ by omega), ?_⟩ | refine ⟨fun h => absurd h (by decide), fun _ => ?_⟩ | refine ⟨fun _ => ?_, fun h => absurd h (by decide)⟩ | refine ⟨fun _ => ?_, fun h => absurd rfl h⟩ | refine ⟨fun h => absurd rfl h, fun _ => ?_⟩)); try (conv => whnf)
      refine hC _ _ _ _ _ _ ?_
      refine ok_in hne (by omega) (by omega) (fun h3 => ?_) (fun h3 => ?_)
      · (repeat ((conv => whnf); first | refine ⟨_, by assumption, ?_⟩ | refine ⟨_, _, by assumption, ?_⟩ | refine ⟨(show _ ∧ _ by omega), ?_⟩ | refine ⟨(show _ ∨ _ by omega), ?_⟩ | refine ⟨fun h => absurd h (by decide), fun _ => ?_⟩ | refine ⟨fun _ => ?_, fun h => absurd h (by decide)⟩ | refine ⟨fun _ => ?_, fun h => absurd rfl h⟩ | refine ⟨fun h => absurd rfl h, fun _ => ?_⟩)); try (conv => whnf)
        refine hC _ _ _ _ _ _ ?_
        refine ok_in hw (by omega) (by omega) (fun h4 => ?_) (fun h4 => ?_)
        · (repeat ((conv => whnf); first | refine ⟨_, by assumption, ?_⟩ | refine ⟨_, _, by assumption, ?_⟩ | refine ⟨(show _ ∧ _ by omega), ?_⟩ | refine ⟨(show _ ∨ _ by omega), ?_⟩ | refine ⟨fun h => absurd h (by decide), fun _ => ?_⟩ | refine ⟨fun _ => ?_, fun h => absurd h (by decide)⟩ | refine ⟨fun _ => ?_, fun h => absurd rfl h⟩ | refine ⟨fun h => absurd rfl h, fun _ => ?_⟩)); try (conv => whnf)
          refine ⟨fun h5 => ?_, fun h5 => ?_⟩
          · (repeat ((conv => whnf); first | refine ⟨_, by assumption, ?_⟩ | refine ⟨_, _, by assumption, ?_⟩ | refine ⟨(show _ ∧ _ by omega), ?_⟩ | refine ⟨(show _ ∨ _ by omega), ?_⟩ | refine ⟨fun h => absurd h (by decide), fun _ => ?_⟩ | refine ⟨fun _ => ?_, fun h => absurd h (by decide)⟩ | refine ⟨fun _ => ?_, fun h => absurd rfl h⟩ | refine ⟨fun h => absurd rfl h, fun _ => ?_⟩)); try (conv => whnf)
            refine hC _ _ _ _ _ _ ?_
            refine ok_deed hM hH (fun I1 hF1 hH1 => ?_)
            have e := hF1.1 362 (by decide)
            have hI3 : uI (uI (uI I1 362 (20 + 8 * v + 4) l) 362 (20 + 8 * v + 5) ne) 362 (20 + 8 * v + 6) w 362 = endN (I 362) v l ne w := by
              simp only [uI_up, e, endN, st]
            have hW3 := wf_end hW (v := v) (by omega) ⟨h2, h3, h4⟩
            have hF3 : MF [362, 368, 369, 370, 371, 372, 373, 374, 375, 376] [18, 19] I1 (uI (uI (uI I1 362 (20 + 8 * v + 4) l) 362 (20 + 8 * v + 5) ne) 362 (20 + 8 * v + 6) w) := mf_362 (((Fr.rf.put (by decide)).put (by decide)).put (by decide))
            (repeat ((conv => whnf); first | refine ⟨_, by assumption, ?_⟩ | refine ⟨_, _, by assumption, ?_⟩ | refine ⟨(show _ ∧ _ by omega), ?_⟩ | refine ⟨(show _ ∨ _ by omega), ?_⟩ | refine ⟨fun h => absurd h (by decide), fun _ => ?_⟩ | refine ⟨fun _ => ?_, fun h => absurd h (by decide)⟩ | refine ⟨fun _ => ?_, fun h => absurd rfl h⟩ | refine ⟨fun h => absurd rfl h, fun _ => ?_⟩)); try (conv => whnf)
            refine hC _ _ _ _ _ _ ?_
            refine ok_sets hM (by omega) ?_
            (repeat ((conv => whnf); first | refine ⟨_, by assumption, ?_⟩ | refine ⟨_, _, by assumption, ?_⟩ | refine ⟨(show _ ∧ _ by omega), ?_⟩ | refine ⟨(show _ ∨ _ by omega), ?_⟩ | refine ⟨fun h => absurd h (by decide), fun _ => ?_⟩ | refine ⟨fun _ => ?_, fun h => absurd h (by decide)⟩ | refine ⟨fun _ => ?_, fun h => absurd rfl h⟩ | refine ⟨fun h => absurd rfl h, fun _ => ?_⟩)); try (conv => whnf)
            refine hC _ _ _ _ _ _ ?_
            refine ok_sets hM (by omega) ?_
            (repeat ((conv => whnf); first | refine ⟨_, by assumption, ?_⟩ | refine ⟨_, _, by assumption, ?_⟩ | refine ⟨(show _ ∧ _ by omega), ?_⟩ | refine ⟨(show _ ∨ _ by omega), ?_⟩ | refine ⟨fun h => absurd h (by decide), fun _ => ?_⟩ | refine ⟨fun _ => ?_, fun h => absurd h (by decide)⟩ | refine ⟨fun _ => ?_, fun h => absurd rfl h⟩ | refine ⟨fun h => absurd rfl h, fun _ => ?_⟩)); try (conv => whnf)
            refine hC _ _ _ _ _ _ ?_
            refine ok_sets hM (by omega) ?_
            (repeat ((conv => whnf); first | refine ⟨_, by assumption, ?_⟩ | refine ⟨_, _, by assumption, ?_⟩ | refine ⟨(show _ ∧ _ by omega), ?_⟩ | refine ⟨(show _ ∨ _ by omega), ?_⟩ | refine ⟨fun h => absurd h (by decide), fun _ => ?_⟩ | refine ⟨fun _ => ?_, fun h => absurd h (by decide)⟩ | refine ⟨fun _ => ?_, fun h => absurd rfl h⟩ | refine ⟨fun h => absurd rfl h, fun _ => ?_⟩)); try (conv => whnf)
            refine hC _ _ _ _ _ _ ?_
            refine ok_isEnd hM (by rw [hI3]; exact hW3) hv (fun h6 => ?_) (fun h6 => ?_)
            · rw [hI3] at h6
              (repeat ((conv => whnf); first | refine ⟨_, by assumption, ?_⟩ | refine ⟨_, _, by assumption, ?_⟩ | refine ⟨(show _ ∧ _ by omega), ?_⟩ | refine ⟨(show _ ∨ _ by omega), ?_⟩ | refine ⟨fun h => absurd h (by decide), fun _ => ?_⟩ | refine ⟨fun _ => ?_, fun h => absurd h (by decide)⟩ | refine ⟨fun _ => ?_, fun h => absurd rfl h⟩ | refine ⟨fun h => absurd rfl h, fun _ => ?_⟩)); try (conv => whnf)
              exact hK.yes (r := 1) (by rw [endF, if_neg (by omega), if_neg (by omega), if_neg h5, h6]; rfl) hF1 hH1 hF3 hI3
            · rw [hI3] at h6
              (repeat ((conv => whnf); first | refine ⟨_, by assumption, ?_⟩ | refine ⟨_, _, by assumption, ?_⟩ | refine ⟨(show _ ∧ _ by omega), ?_⟩ | refine ⟨(show _ ∨ _ by omega), ?_⟩ | refine ⟨fun h => absurd h (by decide), fun _ => ?_⟩ | refine ⟨fun _ => ?_, fun h => absurd h (by decide)⟩ | refine ⟨fun _ => ?_, fun h => absurd rfl h⟩ | refine ⟨fun h => absurd rfl h, fun _ => ?_⟩)); try (conv => whnf)
              exact hK.yes (r := 0) (by rw [endF, if_neg (by omega), if_neg (by omega), if_neg h5, h6]; rfl) hF1 hH1 hF3 hI3
          · (repeat ((conv => whnf); first | refine ⟨_, by assumption, ?_⟩ | refine ⟨_, _, by assumption, ?_⟩ | refine ⟨(show _ ∧ _ by omega), ?_⟩ | refine ⟨(show _ ∨ _ by omega), ?_⟩ | refine ⟨fun h => absurd h (by decide), fun _ => ?_⟩ | refine ⟨fun _ => ?_, fun h => absurd h (by decide)⟩ | refine ⟨fun _ => ?_, fun h => absurd rfl h⟩ | refine ⟨fun h => absurd rfl h, fun _ => ?_⟩)); try (conv => whnf)
            exact hK.no (by rw [endF, if_neg (by omega), if_neg (by omega), if_pos h5])
        · (repeat ((conv => whnf); first | refine ⟨_, by assumption, ?_⟩ | refine ⟨_, _, by assumption, ?_⟩ | refine ⟨(show _ ∧ _ by omega), ?_⟩ | refine ⟨(show _ ∨ _ by omega), ?_⟩ | refine ⟨fun h => absurd h (by decide), fun _ => ?_⟩ | refine ⟨fun _ => ?_, fun h => absurd h (by decide)⟩ | refine ⟨fun _ => ?_, fun h => absurd rfl h⟩ | refine ⟨fun h => absurd rfl h, fun _ => ?_⟩)); try (conv => whnf)
          exact hK.no (by rw [endF, if_neg (by omega), if_pos (by omega)])
      · (repeat ((conv => whnf); first | refine ⟨_, by assumption, ?_⟩ | refine ⟨_, _, by assumption, ?_⟩ | refine ⟨(show _ ∧ _ by omega), ?_⟩ | refine ⟨(show _ ∨ _ by omega), ?_⟩ | refine ⟨fun h => absurd h (by decide), fun _ => ?_⟩ | refine ⟨fun _ => ?_, fun h => absurd h (by decide)⟩ | refine ⟨fun _ => ?_, fun h => absurd rfl h⟩ | refine ⟨fun h => absurd rfl h, fun _ => ?_⟩)); try (conv => whnf)
        exact hK.no (by rw [endF, if_neg (by omega), if_pos (by omega)])
    · (repeat ((conv => whnf); first | refine ⟨_, by assumption, ?_⟩ | refine ⟨_, _, by assumption, ?_⟩ | refine ⟨(show _ ∧ _ by omega), ?_⟩ | refine ⟨(show _ ∨ _ by omega), ?_⟩ | refine ⟨fun h => absurd h (by decide), fun _ => ?_⟩ | refine ⟨fun _ => ?_, fun h => absurd h (by decide)⟩ | refine ⟨fun _ => ?_, fun h => absurd rfl h⟩ | refine ⟨fun h => absurd rfl h, fun _ => ?_⟩)); try (conv => whnf)
      exact hK.no (by rw [endF, if_neg (by omega), if_pos (by omega)])
  · (repeat ((conv => whnf); first | refine ⟨_, by assumption, ?_⟩ | refine ⟨_, _, by assumption, ?_⟩ | refine ⟨(show _ ∧ _ by omega), ?_⟩ | refine ⟨(show _ ∨ _ by omega), ?_⟩ | refine ⟨fun h => absurd h (by decide), fun _ => ?_⟩ | refine ⟨fun _ => ?_, fun h => absurd h (by decide)⟩ | refine ⟨fun _ => ?_, fun h => absurd rfl h⟩ | refine ⟨fun h => absurd rfl h, fun _ => ?_⟩)); try (conv => whnf)
    exact hK.no (by rw [endF, if_pos (by omega)])
/-- wire(v, r, c, w) -/
theorem ok_mwire {P : aP} {d : Nat} {K : aK} {I : aI} {R : aR} {S : aS} {v r c w : Int} {h : List aN} (hM : MS R S) (hW : WF (I 362)) (hH : HistM I h) (hv : iR v) (hr : iR r) (hc : iR c) (hw : iR w) (hK : DeedM (wireF (I 362) v r c w) h I R S K) : Ok P 121 (d + 7) [vr 361, vi v, vi r, vi c, vi w] I R S K := by
  obtain ⟨m0, r1, m1, r2, m2, r3, m3, r4, m4, r5, m5, r6, m6, r7, m7, r8, m8, r9, m9, r10, m10, r11, m11, r12, m12, r13, m13, r14, m14, r15, m15⟩ := id hM
  have hN := hW.1
  refine Ok.of (by decide) rfl (Nat.le_of_ble_eq_true rfl) ?_
  refine Go.walk 400 [] E121 E121_ok (fun G C hG hC => ?_)
  (repeat ((conv => whnf); first | refine ⟨_, by assumption, ?_⟩ | refine ⟨_, _, by assumption, ?_⟩ | refine ⟨(show _ ∧ _ by omega), ?_⟩ | refine ⟨(show _ ∨ _ by omega), ?_⟩ | refine ⟨fun h => absurd h (by decide), fun _ => ?_⟩ | refine ⟨fun _ => ?_, fun h => absurd h (by decide)⟩ | refine ⟨fun _ => ?_, fun h => absurd rfl h⟩ | refine ⟨fun h => absurd rfl h, fun _ => ?_⟩)); try (conv => whnf)
  refine hC _ _ _ _ _ _ ?_
  refine ok_isNode hM hv hW (fun h1 => ?_) (fun h1 => ?_)
  · (repeat ((conv => whnf); first | refine ⟨_, by assumption, ?_⟩ | refine ⟨_, _, by assumption, ?_⟩ | refine ⟨(show _ ∧ _ by omega), ?_⟩ | refine ⟨(show _ ∨ _ by omega), ?_⟩ | refine ⟨fun h => absurd h (by decide), fun _ => ?_⟩ | refine ⟨fun _ => ?_, fun h => absurd h (by decide)⟩ | refine ⟨fun _ => ?_, fun h => absurd rfl h⟩ | refine ⟨fun h => absurd rfl h, fun _ => ?_⟩)); try (conv => whnf)
    refine hC _ _ _ _ _ _ ?_
    refine ok_in hr (by omega) (by omega) (fun h2 => ?_) (fun h2 => ?_)
    · (repeat ((conv => whnf); first | refine ⟨_, by assumption, ?_⟩ | refine ⟨_, _, by assumption, ?_⟩ | refine ⟨(show _ ∧ _ by omega), ?_⟩ | refine ⟨(show _ ∨ _ by omega), ?_⟩ | refine ⟨fun h => absurd h (by decide), fun _ => ?_⟩ | refine ⟨fun _ => ?_, fun h => absurd h (by decide)⟩ | refine ⟨fun _ => ?_, fun h => absurd rfl h⟩ | refine ⟨fun h => absurd rfl h, fun _ => ?_⟩)); try (conv => whnf)
      refine hC _ _ _ _ _ _ ?_
      refine ok_in hc (by omega) (by omega) (fun h3 => ?_) (fun h3 => ?_)
      · (repeat ((conv => whnf); first | refine ⟨_, by assumption, ?_⟩ | refine ⟨_, _, by assumption, ?_⟩ | refine ⟨(show _ ∧ _ by omega), ?_⟩ | refine ⟨(show _ ∨ _ by omega), ?_⟩ | refine ⟨fun h => absurd h (by decide), fun _ => ?_⟩ | refine ⟨fun _ => ?_, fun h => absurd h (by decide)⟩ | refine ⟨fun _ => ?_, fun h => absurd rfl h⟩ | refine ⟨fun h => absurd rfl h, fun _ => ?_⟩)); try (conv => whnf)
        refine hC _ _ _ _ _ _ ?_
        refine ok_in hw (by omega) (by omega) (fun h4 => ?_) (fun h4 => ?_)
        · (repeat ((conv => whnf); first | refine ⟨_, by assumption, ?_⟩ | refine ⟨_, _, by assumption, ?_⟩ | refine ⟨(show _ ∧ _ by omega), ?_⟩ | refine ⟨(show _ ∨ _ by omega), ?_⟩ | refine ⟨fun h => absurd h (by decide), fun _ => ?_⟩ | refine ⟨fun _ => ?_, fun h => absurd h (by decide)⟩ | refine ⟨fun _ => ?_, fun h => absurd rfl h⟩ | refine ⟨fun h => absurd rfl h, fun _ => ?_⟩)); try (conv => whnf)
          refine ⟨fun h5 => ?_, fun h5 => ?_⟩
          · (repeat ((conv => whnf); first | refine ⟨_, by assumption, ?_⟩ | refine ⟨_, _, by assumption, ?_⟩ | refine ⟨(show _ ∧ _ by omega), ?_⟩ | refine ⟨(show _ ∨ _ by omega), ?_⟩ | refine ⟨fun h => absurd h (by decide), fun _ => ?_⟩ | refine ⟨fun _ => ?_, fun h => absurd h (by decide)⟩ | refine ⟨fun _ => ?_, fun h => absurd rfl h⟩ | refine ⟨fun h => absurd rfl h, fun _ => ?_⟩)); try (conv => whnf)
            refine hC _ _ _ _ _ _ ?_
            refine ok_deed hM hH (fun I1 hF1 hH1 => ?_)
            have e := hF1.1 362 (by decide)
            have hI3 : uI (uI (uI I1 362 (20 + 8 * v + 1) r) 362 (20 + 8 * v + 2) c) 362 (20 + 8 * v + 3) w 362 = wireN (I 362) v r c w := by
              simp only [uI_up, e, wireN, st]
            have hW3 := wf_wire hW (v := v) (by omega) ⟨h2, h3, h4⟩
            have e0 : wireN (I 362) v r c w 0 = I 362 0 := by
              unfold wireN
              rw [st_lo (by omega) (by omega) (by omega), st_lo (by omega) (by omega) (by omega), st_lo (by omega) (by omega) (by omega)]
            have hF3 : MF [362, 368, 369, 370, 371, 372, 373, 374, 375, 376] [18, 19] I1 (uI (uI (uI I1 362 (20 + 8 * v + 1) r) 362 (20 + 8 * v + 2) c) 362 (20 + 8 * v + 3) w) := mf_362 (((Fr.rf.put (by decide)).put (by decide)).put (by decide))
            (repeat ((conv => whnf); first | refine ⟨_, by assumption, ?_⟩ | refine ⟨_, _, by assumption, ?_⟩ | refine ⟨(show _ ∧ _ by omega), ?_⟩ | refine ⟨(show _ ∨ _ by omega), ?_⟩ | refine ⟨fun h => absurd h (by decide), fun _ => ?_⟩ | refine ⟨fun _ => ?_, fun h => absurd h (by decide)⟩ | refine ⟨fun _ => ?_, fun h => absurd rfl h⟩ | refine ⟨fun h => absurd rfl h, fun _ => ?_⟩)); try (conv => whnf)
            refine hC _ _ _ _ _ _ ?_
            refine ok_sets hM (by omega) ?_
            (repeat ((conv => whnf); first | refine ⟨_, by assumption, ?_⟩ | refine ⟨_, _, by assumption, ?_⟩ | refine ⟨(show _ ∧ _ by omega), ?_⟩ | refine ⟨(show _ ∨ _ by omega), ?_⟩ | refine ⟨fun h => absurd h (by decide), fun _ => ?_⟩ | refine ⟨fun _ => ?_, fun h => absurd h (by decide)⟩ | refine ⟨fun _ => ?_, fun h => absurd rfl h⟩ | refine ⟨fun h => absurd rfl h, fun _ => ?_⟩)); try (conv => whnf)
            refine hC _ _ _ _ _ _ ?_
            refine ok_sets hM (by omega) ?_
            (repeat ((conv => whnf); first | refine ⟨_, by assumption, ?_⟩ | refine ⟨_, _, by assumption, ?_⟩ | refine ⟨(show _ ∧ _ by omega), ?_⟩ | refine ⟨(show _ ∨ _ by omega), ?_⟩ | refine ⟨fun h => absurd h (by decide), fun _ => ?_⟩ | refine ⟨fun _ => ?_, fun h => absurd h (by decide)⟩ | refine ⟨fun _ => ?_, fun h => absurd rfl h⟩ | refine ⟨fun h => absurd rfl h, fun _ => ?_⟩)); try (conv => whnf)
            refine hC _ _ _ _ _ _ ?_
            refine ok_sets hM (by omega) ?_
            (repeat ((conv => whnf); first | refine ⟨_, by assumption, ?_⟩ | refine ⟨_, _, by assumption, ?_⟩ | refine ⟨(show _ ∧ _ by omega), ?_⟩ | refine ⟨(show _ ∨ _ by omega), ?_⟩ | refine ⟨fun h => absurd h (by decide), fun _ => ?_⟩ | refine ⟨fun _ => ?_, fun h => absurd h (by decide)⟩ | refine ⟨fun _ => ?_, fun h => absurd rfl h⟩ | refine ⟨fun h => absurd rfl h, fun _ => ?_⟩)); try (conv => whnf)
            refine hC _ _ _ _ _ _ ?_
            refine ok_slackNow hM (by rw [hI3]; exact hW3) (fun I4 hF4 ha => ?_)
            rw [hI3] at ha
            have ht := (ha v (by omega) (by rw [e0]; omega)).2.2.1
            (repeat ((conv => whnf); first | refine ⟨_, by assumption, ?_⟩ | refine ⟨_, _, by assumption, ?_⟩ | refine ⟨(show _ ∧ _ by omega), ?_⟩ | refine ⟨(show _ ∨ _ by omega), ?_⟩ | refine ⟨fun h => absurd h (by decide), fun _ => ?_⟩ | refine ⟨fun _ => ?_, fun h => absurd h (by decide)⟩ | refine ⟨fun _ => ?_, fun h => absurd rfl h⟩ | refine ⟨fun h => absurd rfl h, fun _ => ?_⟩)); try (conv => whnf)
            rw [ht]
            refine hK.yes (by rw [wireF, if_neg (by omega), if_neg (by omega), if_neg h5]) hF1 hH1 (hF3.trans (MF.of (J := []) hF4 (by decide)) (by simp <;> omega) (by simp)) (by rw [hF4 362 (by decide), hI3])
          · (repeat ((conv => whnf); first | refine ⟨_, by assumption, ?_⟩ | refine ⟨_, _, by assumption, ?_⟩ | refine ⟨(show _ ∧ _ by omega), ?_⟩ | refine ⟨(show _ ∨ _ by omega), ?_⟩ | refine ⟨fun h => absurd h (by decide), fun _ => ?_⟩ | refine ⟨fun _ => ?_, fun h => absurd h (by decide)⟩ | refine ⟨fun _ => ?_, fun h => absurd rfl h⟩ | refine ⟨fun h => absurd rfl h, fun _ => ?_⟩)); try (conv => whnf)
            exact hK.no (by rw [wireF, if_neg (by omega), if_neg (by omega), if_pos h5])
        · (repeat ((conv => whnf); first | refine ⟨_, by assumption, ?_⟩ | refine ⟨_, _, by assumption, ?_⟩ | refine ⟨(show _ ∧ _ by omega), ?_⟩ | refine ⟨(show _ ∨ _ by omega), ?_⟩ | refine ⟨fun h => absurd h (by decide), fun _ => ?_⟩ | refine ⟨fun _ => ?_, fun h => absurd h (by decide)⟩ | refine ⟨fun _ => ?_, fun h => absurd rfl h⟩ | refine ⟨fun h => absurd rfl h, fun _ => ?_⟩)); try (conv => whnf)
          exact hK.no (by rw [wireF, if_neg (by omega), if_pos (by omega)])
      · (repeat ((conv => whnf); first | refine ⟨_, by assumption, ?_⟩ | refine ⟨_, _, by assumption, ?_⟩ | refine ⟨(show _ ∧ _ by omega), ?_⟩ | refine ⟨(show _ ∨ _ by omega), ?_⟩ | refine ⟨fun h => absurd h (by decide), fun _ => ?_⟩ | refine ⟨fun _ => ?_, fun h => absurd h (by decide)⟩ | refine ⟨fun _ => ?_, fun h => absurd rfl h⟩ | refine ⟨fun h => absurd rfl h, fun _ => ?_⟩)); try (conv => whnf)
        exact hK.no (by rw [wireF, if_neg (by omega), if_pos (by omega)])
    · (repeat ((conv => whnf); first | refine ⟨_, by assumption, ?_⟩ | refine ⟨_, _, by assumption, ?_⟩ | refine ⟨(show _ ∧ _ by omega), ?_⟩ | refine ⟨(show _ ∨ _ by omega), ?_⟩ | refine ⟨fun h => absurd h (by decide), fun _ => ?_⟩ | refine ⟨fun _ => ?_, fun h => absurd h (by decide)⟩ | refine ⟨fun _ => ?_, fun h => absurd rfl h⟩ | refine ⟨fun h => absurd rfl h, fun _ => ?_⟩)); try (conv => whnf)
      exact hK.no (by rw [wireF, if_neg (by omega), if_pos (by omega)])
  · (repeat ((conv => whnf); first | refine ⟨_, by assumption, ?_⟩ | refine ⟨_, _, by assumption, ?_⟩ | refine ⟨(show _ ∧ _ by omega), ?_⟩ | refine ⟨(show _ ∨ _ by omega), ?_⟩ | refine ⟨fun h => absurd h (by decide), fun _ => ?_⟩ | refine ⟨fun _ => ?_, fun h => absurd h (by decide)⟩ | refine ⟨fun _ => ?_, fun h => absurd rfl h⟩ | refine ⟨fun h => absurd rfl h, fun _ => ?_⟩)); try (conv => whnf)
    exact hK.no (by rw [wireF, if_pos (by omega)])
/-- kind(k, in, pull, own, cost, turns) -/
theorem ok_mkind {P : aP} {d : Nat} {K : aK} {I : aI} {R : aR} {S : aS} {k i p o c t : Int} {h : List aN} (hM : MS R S) (hH : HistM I h) (hk : iR k) (hi : iR i) (hp : iR p) (ho : iR o) (hc : iR c) (ht : iR t) (hK : DeedM (kindF (I 362) k i p o c t) h I R S K) : Ok P 123 (d + 2) [vr 361, vi k, vi i, vi p, vi o, vi c, vi t] I R S K := by
  obtain ⟨m0, r1, m1, r2, m2, r3, m3, r4, m4, r5, m5, r6, m6, r7, m7, r8, m8, r9, m9, r10, m10, r11, m11, r12, m12, r13, m13, r14, m14, r15, m15⟩ := id hM
  refine Ok.of (by decide) rfl (Nat.le_of_ble_eq_true rfl) ?_
  refine Go.walk 400 [64] E123 E123_ok (fun G C hG hC => ?_)
  have bad : (1 ≤ k ∧ k ≤ 3) → ¬ ((1 ≤ i ∧ i ≤ 9) ∧ (0 ≤ p ∧ p ≤ 9) ∧ (0 ≤ o ∧ o ≤ 99) ∧ (0 ≤ c ∧ c ≤ 99) ∧ (0 ≤ t ∧ t ≤ 1)) → Go P 123 (d + 2) K 64 [vr 361, vi k, vi i, vi p, vi o, vi c, vi t, vu, vu] [] I R S := by
    intro h1 h2
    refine Go.walk 400 [] E123 E123_ok (fun G C hG hC => ?_)
    (repeat ((conv => whnf); first | refine ⟨_, by assumption, ?_⟩ | refine ⟨_, _, by assumption, ?_⟩ | refine ⟨(show _ ∧ _ by omega), ?_⟩ | refine ⟨(show _ ∨ _ by omega), ?_⟩ | refine ⟨fun h => absurd h (by decide), fun _ => ?_⟩ | refine ⟨fun _ => ?_, fun h => absurd h (by decide)⟩ | refine ⟨fun _ => ?_, fun h => absurd rfl h⟩ | refine ⟨fun h => absurd rfl h, fun _ => ?_⟩)); try (conv => whnf)
    exact hK.no (by rw [kindF, if_neg (by omega), if_pos h2])
  (repeat ((conv => whnf); first | refine ⟨_, by assumption, ?_⟩ | refine ⟨_, _, by assumption, ?_⟩ | refine ⟨(show _ ∧ _ by omega), ?_⟩ | refine ⟨(show _ ∨ _ by omega), ?_⟩ | refine ⟨fun h => absurd h (by decide), fun _ => ?_⟩ | refine ⟨fun _ => ?_, fun h => absurd h (by decide)⟩ | refine ⟨fun _ => ?_, fun h => absurd rfl h⟩ | refine ⟨fun h => absurd rfl h, fun _ => ?_⟩)); try (conv => whnf)
  refine hC _ _ _ _ _ _ ?_
  refine ok_in hk (by omega) (by omega) (fun h1 => ?_) (fun h1 => ?_)
  · (repeat ((conv => whnf); first | refine ⟨_, by assumption, ?_⟩ | refine ⟨_, _, by assumption, ?_⟩ | refine ⟨(show _ ∧ _ by omega), ?_⟩ | refine ⟨(show _ ∨ _ by omega), ?_⟩ | refine ⟨fun h => absurd h (by decide), fun _ => ?_⟩ | refine ⟨fun _ => ?_, fun h => absurd h (by decide)⟩ | refine ⟨fun _ => ?_, fun h => absurd rfl h⟩ | refine ⟨fun h => absurd rfl h, fun _ => ?_⟩)); try (conv => whnf)
    refine hC _ _ _ _ _ _ ?_
    refine ok_in hi (by omega) (by omega) (fun h2 => ?_) (fun h2 => ?_)
    · (repeat ((conv => whnf); first | refine ⟨_, by assumption, ?_⟩ | refine ⟨_, _, by assumption, ?_⟩ | refine ⟨(show _ ∧ _ by omega), ?_⟩ | refine ⟨(show _ ∨ _ by omega), ?_⟩ | refine ⟨fun h => absurd h (by decide), fun _ => ?_⟩ | refine ⟨fun _ => ?_, fun h => absurd h (by decide)⟩ | refine ⟨fun _ => ?_, fun h => absurd rfl h⟩ | refine ⟨fun h => absurd rfl h, fun _ => ?_⟩)); try (conv => whnf)
      refine hC _ _ _ _ _ _ ?_
      refine ok_in hp (by omega) (by omega) (fun h3 => ?_) (fun h3 => ?_)
      · (repeat ((conv => whnf); first | refine ⟨_, by assumption, ?_⟩ | refine ⟨_, _, by assumption, ?_⟩ | refine ⟨(show _ ∧ _ by omega), ?_⟩ | refine ⟨(show _ ∨ _ by omega), ?_⟩ | refine ⟨fun h => absurd h (by decide), fun _ => ?_⟩ | refine ⟨fun _ => ?_, fun h => absurd h (by decide)⟩ | refine ⟨fun _ => ?_, fun h => absurd rfl h⟩ | refine ⟨fun h => absurd rfl h, fun _ => ?_⟩)); try (conv => whnf)
        refine hC _ _ _ _ _ _ ?_
        refine ok_in ho (by omega) (by omega) (fun h4 => ?_) (fun h4 => ?_)
        · (repeat ((conv => whnf); first | refine ⟨_, by assumption, ?_⟩ | refine ⟨_, _, by assumption, ?_⟩ | refine ⟨(show _ ∧ _ by omega), ?_⟩ | refine ⟨(show _ ∨ _ by omega), ?_⟩ | refine ⟨fun h => absurd h (by decide), fun _ => ?_⟩ | refine ⟨fun _ => ?_, fun h => absurd h (by decide)⟩ | refine ⟨fun _ => ?_, fun h => absurd rfl h⟩ | refine ⟨fun h => absurd rfl h, fun _ => ?_⟩)); try (conv => whnf)
          refine hC _ _ _ _ _ _ ?_
          refine ok_in hc (by omega) (by omega) (fun h5 => ?_) (fun h5 => ?_)
          · (repeat ((conv => whnf); first | refine ⟨_, by assumption, ?_⟩ | refine ⟨_, _, by assumption, ?_⟩ | refine ⟨(show _ ∧ _ by omega), ?_⟩ | refine ⟨(show _ ∨ _ by omega), ?_⟩ | refine ⟨fun h => absurd h (by decide), fun _ => ?_⟩ | refine ⟨fun _ => ?_, fun h => absurd h (by decide)⟩ | refine ⟨fun _ => ?_, fun h => absurd rfl h⟩ | refine ⟨fun h => absurd rfl h, fun _ => ?_⟩)); try (conv => whnf)
            refine hC _ _ _ _ _ _ ?_
            refine ok_in ht (by omega) (by omega) (fun h6 => ?_) (fun h6 => ?_)
            · (repeat ((conv => whnf); first | refine ⟨_, by assumption, ?_⟩ | refine ⟨_, _, by assumption, ?_⟩ | refine ⟨(show _ ∧ _ by omega), ?_⟩ | refine ⟨(show _ ∨ _ by omega), ?_⟩ | refine ⟨fun h => absurd h (by decide), fun _ => ?_⟩ | refine ⟨fun _ => ?_, fun h => absurd h (by decide)⟩ | refine ⟨fun _ => ?_, fun h => absurd rfl h⟩ | refine ⟨fun h => absurd rfl h, fun _ => ?_⟩)); try (conv => whnf)
              refine hC _ _ _ _ _ _ ?_
              refine ok_deed hM hH (fun I1 hF1 hH1 => ?_)
              have e := hF1.1 362 (by decide)
              have e0 : I1 362 (2 + 6 * (k - 1) + 0) = kf (I 362) k 0 := by rw [e]; rfl
              (repeat ((conv => whnf); first | refine ⟨_, by assumption, ?_⟩ | refine ⟨_, _, by assumption, ?_⟩ | refine ⟨(show _ ∧ _ by omega), ?_⟩ | refine ⟨(show _ ∨ _ by omega), ?_⟩ | refine ⟨fun h => absurd h (by decide), fun _ => ?_⟩ | refine ⟨fun _ => ?_, fun h => absurd h (by decide)⟩ | refine ⟨fun _ => ?_, fun h => absurd rfl h⟩ | refine ⟨fun h => absurd rfl h, fun _ => ?_⟩)); try (conv => whnf)
              rw [e0]
              refine hK.yes (by rw [kindF, if_neg (by omega), if_neg (by omega)]) hF1 hH1 (mf_362 ((((((Fr.rf.put (by decide)).put (by decide)).put (by decide)).put (by decide)).put (by decide)).put (by decide))) (by simp only [uI_up, e, kindN, sk])
            · (repeat ((conv => whnf); first | refine ⟨_, by assumption, ?_⟩ | refine ⟨_, _, by assumption, ?_⟩ | refine ⟨(show _ ∧ _ by omega), ?_⟩ | refine ⟨(show _ ∨ _ by omega), ?_⟩ | refine ⟨fun h => absurd h (by decide), fun _ => ?_⟩ | refine ⟨fun _ => ?_, fun h => absurd h (by decide)⟩ | refine ⟨fun _ => ?_, fun h => absurd rfl h⟩ | refine ⟨fun h => absurd rfl h, fun _ => ?_⟩)); try (conv => whnf)
              refine hG _ _ _ _ _ _ ?_
              exact bad h1 (by omega)
          · (repeat ((conv => whnf); first | refine ⟨_, by assumption, ?_⟩ | refine ⟨_, _, by assumption, ?_⟩ | refine ⟨(show _ ∧ _ by omega), ?_⟩ | refine ⟨(show _ ∨ _ by omega), ?_⟩ | refine ⟨fun h => absurd h (by decide), fun _ => ?_⟩ | refine ⟨fun _ => ?_, fun h => absurd h (by decide)⟩ | refine ⟨fun _ => ?_, fun h => absurd rfl h⟩ | refine ⟨fun h => absurd rfl h, fun _ => ?_⟩)); try (conv => whnf)
            refine hG _ _ _ _ _ _ ?_
            exact bad h1 (by omega)
        · (repeat ((conv => whnf); first | refine ⟨_, by assumption, ?_⟩ | refine ⟨_, _, by assumption, ?_⟩ | refine ⟨(show _ ∧ _ by omega), ?_⟩ | refine ⟨(show _ ∨ _ by omega), ?_⟩ | refine ⟨fun h => absurd h (by decide), fun _ => ?_⟩ | refine ⟨fun _ => ?_, fun h => absurd h (by decide)⟩ | refine ⟨fun _ => ?_, fun h => absurd rfl h⟩ | refine ⟨fun h => absurd rfl h, fun _ => ?_⟩)); try (conv => whnf)
          refine hG _ _ _ _ _ _ ?_
          exact bad h1 (by omega)
      · (repeat ((conv => whnf); first | refine ⟨_, by assumption, ?_⟩ | refine ⟨_, _, by assumption, ?_⟩ | refine ⟨(show _ ∧ _ by omega), ?_⟩ | refine ⟨(show _ ∨ _ by omega), ?_⟩ | refine ⟨fun h => absurd h (by decide), fun _ => ?_⟩ | refine ⟨fun _ => ?_, fun h => absurd h (by decide)⟩ | refine ⟨fun _ => ?_, fun h => absurd rfl h⟩ | refine ⟨fun h => absurd rfl h, fun _ => ?_⟩)); try (conv => whnf)
        refine hG _ _ _ _ _ _ ?_
        exact bad h1 (by omega)
    · (repeat ((conv => whnf); first | refine ⟨_, by assumption, ?_⟩ | refine ⟨_, _, by assumption, ?_⟩ | refine ⟨(show _ ∧ _ by omega), ?_⟩ | refine ⟨(show _ ∨ _ by omega), ?_⟩ | refine ⟨fun h => absurd h (by decide), fun _ => ?_⟩ | refine ⟨fun _ => ?_, fun h => absurd h (by decide)⟩ | refine ⟨fun _ => ?_, fun h => absurd rfl h⟩ | refine ⟨fun h => absurd rfl h, fun _ => ?_⟩)); try (conv => whnf)
      refine hG _ _ _ _ _ _ ?_
      exact bad h1 (by omega)
  · (repeat ((conv => whnf); first | refine ⟨_, by assumption, ?_⟩ | refine ⟨_, _, by assumption, ?_⟩ | refine ⟨(show _ ∧ _ by omega), ?_⟩ | refine ⟨(show _ ∨ _ by omega), ?_⟩ | refine ⟨fun h => absurd h (by decide), fun _ => ?_⟩ | refine ⟨fun _ => ?_, fun h => absurd h (by decide)⟩ | refine ⟨fun _ => ?_, fun h => absurd rfl h⟩ | refine ⟨fun h => absurd rfl h, fun _ => ?_⟩)); try (conv => whnf)
    exact hK.no (by rw [kindF, if_pos (by omega)])
/-- isPlaceable(v, k) -/
theorem ok_isPlaceable {P : aP} {d : Nat} {K : aK} {I : aI} {R : aR} {S : aS} {v k : Int} (hM : MS R S) (hW : WF (I 362)) (hv : iR v) (hk : iR k) (h1 : (0 ≤ v ∧ v < I 362 0) ∧ (k = 0 ∨ isK (I 362) k) → K (some (vi 1)) I R S) (h0 : ¬ ((0 ≤ v ∧ v < I 362 0) ∧ (k = 0 ∨ isK (I 362) k)) → K (some (vi 0)) I R S) : Ok P 114 (d + 3) [vr 361, vi v, vi k] I R S K := by
  obtain ⟨m0, r1, m1, r2, m2, r3, m3, r4, m4, r5, m5, r6, m6, r7, m7, r8, m8, r9, m9, r10, m10, r11, m11, r12, m12, r13, m13, r14, m14, r15, m15⟩ := id hM
  refine Ok.of (by decide) rfl (Nat.le_of_ble_eq_true rfl) ?_
  refine Go.walk 400 [] E114 E114_ok (fun G C hG hC => ?_)
  (repeat ((conv => whnf); first | refine ⟨_, by assumption, ?_⟩ | refine ⟨_, _, by assumption, ?_⟩ | refine ⟨(show _ ∧ _ by omega), ?_⟩ | refine ⟨(show _ ∨ _ by omega), ?_⟩ | refine ⟨fun h => absurd h (by decide), fun _ => ?_⟩ | refine ⟨fun _ => ?_, fun h => absurd h (by decide)⟩ | refine ⟨fun _ => ?_, fun h => absurd rfl h⟩ | refine ⟨fun h => absurd rfl h, fun _ => ?_⟩)); try (conv => whnf)
  refine hC _ _ _ _ _ _ ?_
  refine ok_isNode hM hv hW (fun g1 => ?_) (fun g1 => ?_)
  · (repeat ((conv => whnf); first | refine ⟨_, by assumption, ?_⟩ | refine ⟨_, _, by assumption, ?_⟩ | refine ⟨(show _ ∧ _ by omega), ?_⟩ | refine ⟨(show _ ∨ _ by omega), ?_⟩ | refine ⟨fun h => absurd h (by decide), fun _ => ?_⟩ | refine ⟨fun _ => ?_, fun h => absurd h (by decide)⟩ | refine ⟨fun _ => ?_, fun h => absurd rfl h⟩ | refine ⟨fun h => absurd rfl h, fun _ => ?_⟩)); try (conv => whnf)
    refine ⟨fun g2 => ?_, fun g2 => ?_⟩
    · (repeat ((conv => whnf); first | refine ⟨_, by assumption, ?_⟩ | refine ⟨_, _, by assumption, ?_⟩ | refine ⟨(show _ ∧ _ by omega), ?_⟩ | refine ⟨(show _ ∨ _ by omega), ?_⟩ | refine ⟨fun h => absurd h (by decide), fun _ => ?_⟩ | refine ⟨fun _ => ?_, fun h => absurd h (by decide)⟩ | refine ⟨fun _ => ?_, fun h => absurd rfl h⟩ | refine ⟨fun h => absurd rfl h, fun _ => ?_⟩)); try (conv => whnf)
      exact h1 ⟨g1, Or.inl g2⟩
    · (repeat ((conv => whnf); first | refine ⟨_, by assumption, ?_⟩ | refine ⟨_, _, by assumption, ?_⟩ | refine ⟨(show _ ∧ _ by omega), ?_⟩ | refine ⟨(show _ ∨ _ by omega), ?_⟩ | refine ⟨fun h => absurd h (by decide), fun _ => ?_⟩ | refine ⟨fun _ => ?_, fun h => absurd h (by decide)⟩ | refine ⟨fun _ => ?_, fun h => absurd rfl h⟩ | refine ⟨fun h => absurd rfl h, fun _ => ?_⟩)); try (conv => whnf)
      refine hC _ _ _ _ _ _ ?_
      refine ok_isKind hM hk hW (fun g3 => ?_) (fun g3 => ?_)
      · (repeat ((conv => whnf); first | refine ⟨_, by assumption, ?_⟩ | refine ⟨_, _, by assumption, ?_⟩ | refine ⟨(show _ ∧ _ by omega), ?_⟩ | refine ⟨(show _ ∨ _ by omega), ?_⟩ | refine ⟨fun h => absurd h (by decide), fun _ => ?_⟩ | refine ⟨fun _ => ?_, fun h => absurd h (by decide)⟩ | refine ⟨fun _ => ?_, fun h => absurd rfl h⟩ | refine ⟨fun h => absurd rfl h, fun _ => ?_⟩)); try (conv => whnf)
        exact h1 ⟨g1, Or.inr g3⟩
      · (repeat ((conv => whnf); first | refine ⟨_, by assumption, ?_⟩ | refine ⟨_, _, by assumption, ?_⟩ | refine ⟨(show _ ∧ _ by omega), ?_⟩ | refine ⟨(show _ ∨ _ by omega), ?_⟩ | refine ⟨fun h => absurd h (by decide), fun _ => ?_⟩ | refine ⟨fun _ => ?_, fun h => absurd h (by decide)⟩ | refine ⟨fun _ => ?_, fun h => absurd rfl h⟩ | refine ⟨fun h => absurd rfl h, fun _ => ?_⟩)); try (conv => whnf)
        exact h0 (fun q => by rcases q.2 with q | q; exact g2 q; exact g3 q)
  · (repeat ((conv => whnf); first | refine ⟨_, by assumption, ?_⟩ | refine ⟨_, _, by assumption, ?_⟩ | refine ⟨(show _ ∧ _ by omega), ?_⟩ | refine ⟨(show _ ∨ _ by omega), ?_⟩ | refine ⟨fun h => absurd h (by decide), fun _ => ?_⟩ | refine ⟨fun _ => ?_, fun h => absurd h (by decide)⟩ | refine ⟨fun _ => ?_, fun h => absurd rfl h⟩ | refine ⟨fun h => absurd rfl h, fun _ => ?_⟩)); try (conv => whnf)
    exact h0 (fun q => g1 q.1)
def isKb (n : aN) (k : Int) : Bool := decide (1 ≤ k) && (decide (k ≤ 3) && decide (kf n k 0 = 1))
theorem isKb_iff {n : aN} {k : Int} : isKb n k = true ↔ isK n k := by simp [isKb, isK]
def placeF (n : aN) (v k : Int) : Int × Option aN := if ¬ ((0 ≤ v ∧ v < n 0) ∧ (k = 0 ∨ isKb n k = true)) then (-1000000001, none) else if v = 0 then (-1000000003, none) else (nf n v 7, some (st n v 7 k))
/-- place(v, k) -/
theorem ok_mplace {P : aP} {d : Nat} {K : aK} {I : aI} {R : aR} {S : aS} {v k : Int} {h : List aN} (hM : MS R S) (hW : WF (I 362)) (hH : HistM I h) (hv : iR v) (hk : iR k) (hK : DeedM (placeF (I 362) v k) h I R S K) : Ok P 125 (d + 4) [vr 361, vi v, vi k] I R S K := by
  obtain ⟨m0, r1, m1, r2, m2, r3, m3, r4, m4, r5, m5, r6, m6, r7, m7, r8, m8, r9, m9, r10, m10, r11, m11, r12, m12, r13, m13, r14, m14, r15, m15⟩ := id hM
  have hN := hW.1
  refine Ok.of (by decide) rfl (Nat.le_of_ble_eq_true rfl) ?_
  refine Go.walk 400 [] E125 E125_ok (fun G C hG hC => ?_)
  (repeat ((conv => whnf); first | refine ⟨_, by assumption, ?_⟩ | refine ⟨_, _, by assumption, ?_⟩ | refine ⟨(show _ ∧ _ by omega), ?_⟩ | refine ⟨(show _ ∨ _ by omega), ?_⟩ | refine ⟨fun h => absurd h (by decide), fun _ => ?_⟩ | refine ⟨fun _ => ?_, fun h => absurd h (by decide)⟩ | refine ⟨fun _ => ?_, fun h => absurd rfl h⟩ | refine ⟨fun h => absurd rfl h, fun _ => ?_⟩)); try (conv => whnf)
  refine hC _ _ _ _ _ _ ?_
  refine ok_isPlaceable hM hW hv hk (fun h1 => ?_) (fun h1 => ?_)
  · rw [← isKb_iff] at h1
    (repeat ((conv => whnf); first | refine ⟨_, by assumption, ?_⟩ | refine ⟨_, _, by assumption, ?_⟩ | refine ⟨(show _ ∧ _ by omega), ?_⟩ | refine ⟨(show _ ∨ _ by omega), ?_⟩ | refine ⟨fun h => absurd h (by decide), fun _ => ?_⟩ | refine ⟨fun _ => ?_, fun h => absurd h (by decide)⟩ | refine ⟨fun _ => ?_, fun h => absurd rfl h⟩ | refine ⟨fun h => absurd rfl h, fun _ => ?_⟩)); try (conv => whnf)
    refine ⟨fun h2 => ?_, fun h2 => ?_⟩
    · (repeat ((conv => whnf); first | refine ⟨_, by assumption, ?_⟩ | refine ⟨_, _, by assumption, ?_⟩ | refine ⟨(show _ ∧ _ by omega), ?_⟩ | refine ⟨(show _ ∨ _ by omega), ?_⟩ | refine ⟨fun h => absurd h (by decide), fun _ => ?_⟩ | refine ⟨fun _ => ?_, fun h => absurd h (by decide)⟩ | refine ⟨fun _ => ?_, fun h => absurd rfl h⟩ | refine ⟨fun h => absurd rfl h, fun _ => ?_⟩)); try (conv => whnf)
      refine hC _ _ _ _ _ _ ?_
      refine ok_deed hM hH (fun I1 hF1 hH1 => ?_)
      have e := hF1.1 362 (by decide)
      (repeat ((conv => whnf); first | refine ⟨_, by assumption, ?_⟩ | refine ⟨_, _, by assumption, ?_⟩ | refine ⟨(show _ ∧ _ by omega), ?_⟩ | refine ⟨(show _ ∨ _ by omega), ?_⟩ | refine ⟨fun h => absurd h (by decide), fun _ => ?_⟩ | refine ⟨fun _ => ?_, fun h => absurd h (by decide)⟩ | refine ⟨fun _ => ?_, fun h => absurd rfl h⟩ | refine ⟨fun h => absurd rfl h, fun _ => ?_⟩)); try (conv => whnf)
      refine hC _ _ _ _ _ _ ?_
      refine ok_of hM (by omega) ?_
      (repeat ((conv => whnf); first | refine ⟨_, by assumption, ?_⟩ | refine ⟨_, _, by assumption, ?_⟩ | refine ⟨(show _ ∧ _ by omega), ?_⟩ | refine ⟨(show _ ∨ _ by omega), ?_⟩ | refine ⟨fun h => absurd h (by decide), fun _ => ?_⟩ | refine ⟨fun _ => ?_, fun h => absurd h (by decide)⟩ | refine ⟨fun _ => ?_, fun h => absurd rfl h⟩ | refine ⟨fun h => absurd rfl h, fun _ => ?_⟩)); try (conv => whnf)
      refine hC _ _ _ _ _ _ ?_
      refine ok_sets hM (by omega) ?_
      rw [e]
      (repeat ((conv => whnf); first | refine ⟨_, by assumption, ?_⟩ | refine ⟨_, _, by assumption, ?_⟩ | refine ⟨(show _ ∧ _ by omega), ?_⟩ | refine ⟨(show _ ∨ _ by omega), ?_⟩ | refine ⟨fun h => absurd h (by decide), fun _ => ?_⟩ | refine ⟨fun _ => ?_, fun h => absurd h (by decide)⟩ | refine ⟨fun _ => ?_, fun h => absurd rfl h⟩ | refine ⟨fun h => absurd rfl h, fun _ => ?_⟩)); try (conv => whnf)
      exact hK.yes (by rw [placeF, if_neg (fun q => q h1), if_neg h2]) hF1 hH1 (mf_362 (Fr.rf.put (by decide))) (by rw [uI_up, e]; rfl)
    · (repeat ((conv => whnf); first | refine ⟨_, by assumption, ?_⟩ | refine ⟨_, _, by assumption, ?_⟩ | refine ⟨(show _ ∧ _ by omega), ?_⟩ | refine ⟨(show _ ∨ _ by omega), ?_⟩ | refine ⟨fun h => absurd h (by decide), fun _ => ?_⟩ | refine ⟨fun _ => ?_, fun h => absurd h (by decide)⟩ | refine ⟨fun _ => ?_, fun h => absurd rfl h⟩ | refine ⟨fun h => absurd rfl h, fun _ => ?_⟩)); try (conv => whnf)
      exact hK.no (by rw [placeF, if_neg (fun q => q h1), if_pos h2])
  · rw [← isKb_iff] at h1
    (repeat ((conv => whnf); first | refine ⟨_, by assumption, ?_⟩ | refine ⟨_, _, by assumption, ?_⟩ | refine ⟨(show _ ∧ _ by omega), ?_⟩ | refine ⟨(show _ ∨ _ by omega), ?_⟩ | refine ⟨fun h => absurd h (by decide), fun _ => ?_⟩ | refine ⟨fun _ => ?_, fun h => absurd h (by decide)⟩ | refine ⟨fun _ => ?_, fun h => absurd rfl h⟩ | refine ⟨fun h => absurd rfl h, fun _ => ?_⟩)); try (conv => whnf)
    exact hK.no (by rw [placeF, if_pos h1])
end
section
/-! the reference: drop, draws, drift, undo, the book, the seed, images -/
def plc (n : aN) (k : Int) : Bool := rf (fun v b => b || decide (nf n v 7 = k)) false 1 (n 0)
def dropF (n : aN) (k : Int) : Int × Option aN := if ¬ isKb n k = true then (-1000000001, none) else if plc n k = true then (-1000000003, none) else (kf (sk n k 0 0) 1 0 + kf (sk n k 0 0) 2 0 + kf (sk n k 0 0) 3 0, some (sk n k 0 0))
theorem plc_mono {n : aN} {k v : Int} (h1 : 1 ≤ v) (h2 : v < n 0) (h : nf n v 7 = k) : plc n k = true := by
  unfold plc
  have key := rf_inv (f := fun v b => b || decide (nf n v 7 = k)) (a := false) (lo := 1) (fun u b => v < u → b = true) (by omega) (n 0 - 1).toNat (n 0) (by omega) (fun u x g1 g2 g3 g4 => by
    by_cases e : u = v
    · subst e; simp [h]
    · rw [g3 (by omega)]; rfl)
  exact key h2
/-- drop(k) -/
theorem ok_mdrop {P : aP} {d : Nat} {K : aK} {I : aI} {R : aR} {S : aS} {k : Int} {h : List aN} (hM : MS R S) (hW : WF (I 362)) (hH : HistM I h) (hk : iR k) (hK : DeedM (dropF (I 362) k) h I R S K) : Ok P 124 (d + 3) [vr 361, vi k] I R S K := by
  obtain ⟨m0, r1, m1, r2, m2, r3, m3, r4, m4, r5, m5, r6, m6, r7, m7, r8, m8, r9, m9, r10, m10, r11, m11, r12, m12, r13, m13, r14, m14, r15, m15⟩ := id hM
  have hN := hW.1
  have loop : isKb (I 362) k = true → ∀ (m : Nat) (v : Int), 1 ≤ v → I 362 0 - v = m → rf (fun v b => b || decide (nf (I 362) v 7 = k)) false 1 v = false → Go P 124 (d + 3) K 13 [vr 361, vi k, vi v] [] I R S := by
    intro hkb m
    have hki := isKb_iff.mp hkb
    obtain ⟨k1, k2, k3⟩ := hki
    induction m with
    | zero =>
      intro v hv hm hr
      have hp : plc (I 362) k = false := by rw [plc, show I 362 0 = v by omega]; exact hr
      refine Go.walk 400 [13] E124 E124_ok (fun G C hG hC => ?_)
      (repeat ((conv => whnf); first | refine ⟨_, by assumption, ?_⟩ | refine ⟨_, _, by assumption, ?_⟩ | refine ⟨(show _ ∧ _ by omega), ?_⟩ | refine ⟨(show _ ∨ _ by omega), ?_⟩ | refine ⟨fun h => absurd h (by decide), fun _ => ?_⟩ | refine ⟨fun _ => ?_, fun h => absurd h (by decide)⟩ | refine ⟨fun _ => ?_, fun h => absurd rfl h⟩ | refine ⟨fun h => absurd rfl h, fun _ => ?_⟩)); try (conv => whnf)
      refine ⟨fun _ => ?_, fun q => absurd (show I 362 0 ≤ v by omega) q⟩
      (repeat ((conv => whnf); first | refine ⟨_, by assumption, ?_⟩ | refine ⟨_, _, by assumption, ?_⟩ | refine ⟨(show _ ∧ _ by omega), ?_⟩ | refine ⟨(show _ ∨ _ by omega), ?_⟩ | refine ⟨fun h => absurd h (by decide), fun _ => ?_⟩ | refine ⟨fun _ => ?_, fun h => absurd h (by decide)⟩ | refine ⟨fun _ => ?_, fun h => absurd rfl h⟩ | refine ⟨fun h => absurd rfl h, fun _ => ?_⟩)); try (conv => whnf)
      refine hC _ _ _ _ _ _ ?_
      refine ok_deed hM hH (fun I1 hF1 hH1 => ?_)
      have e := hF1.1 362 (by decide)
      have eI : uI I1 362 (2 + 6 * (k - 1) + 0) 0 362 = sk (I 362) k 0 0 := by rw [uI_up, e]; rfl
      (repeat ((conv => whnf); first | refine ⟨_, by assumption, ?_⟩ | refine ⟨_, _, by assumption, ?_⟩ | refine ⟨(show _ ∧ _ by omega), ?_⟩ | refine ⟨(show _ ∨ _ by omega), ?_⟩ | refine ⟨fun h => absurd h (by decide), fun _ => ?_⟩ | refine ⟨fun _ => ?_, fun h => absurd h (by decide)⟩ | refine ⟨fun _ => ?_, fun h => absurd rfl h⟩ | refine ⟨fun h => absurd rfl h, fun _ => ?_⟩)); try (conv => whnf)
      refine hC _ _ _ _ _ _ ?_
      refine ok_ofKind hM (by omega) ?_
      (repeat ((conv => whnf); first | refine ⟨_, by assumption, ?_⟩ | refine ⟨_, _, by assumption, ?_⟩ | refine ⟨(show _ ∧ _ by omega), ?_⟩ | refine ⟨(show _ ∨ _ by omega), ?_⟩ | refine ⟨fun h => absurd h (by decide), fun _ => ?_⟩ | refine ⟨fun _ => ?_, fun h => absurd h (by decide)⟩ | refine ⟨fun _ => ?_, fun h => absurd rfl h⟩ | refine ⟨fun h => absurd rfl h, fun _ => ?_⟩)); try (conv => whnf)
      refine hC _ _ _ _ _ _ ?_
      refine ok_ofKind hM (by omega) ?_
      (repeat ((conv => whnf); first | refine ⟨_, by assumption, ?_⟩ | refine ⟨_, _, by assumption, ?_⟩ | refine ⟨(show _ ∧ _ by omega), ?_⟩ | refine ⟨(show _ ∨ _ by omega), ?_⟩ | refine ⟨fun h => absurd h (by decide), fun _ => ?_⟩ | refine ⟨fun _ => ?_, fun h => absurd h (by decide)⟩ | refine ⟨fun _ => ?_, fun h => absurd rfl h⟩ | refine ⟨fun h => absurd rfl h, fun _ => ?_⟩)); try (conv => whnf)
      refine hC _ _ _ _ _ _ ?_
      refine ok_ofKind hM (by omega) ?_
      rw [eI]
      (repeat ((conv => whnf); first | refine ⟨_, by assumption, ?_⟩ | refine ⟨_, _, by assumption, ?_⟩ | refine ⟨(show _ ∧ _ by omega), ?_⟩ | refine ⟨(show _ ∨ _ by omega), ?_⟩ | refine ⟨fun h => absurd h (by decide), fun _ => ?_⟩ | refine ⟨fun _ => ?_, fun h => absurd h (by decide)⟩ | refine ⟨fun _ => ?_, fun h => absurd rfl h⟩ | refine ⟨fun h => absurd rfl h, fun _ => ?_⟩)); try (conv => whnf)
      exact hK.yes (by rw [dropF, if_neg (fun q => q hkb), if_neg (by rw [hp]; decide)]) hF1 hH1 (mf_362 (Fr.rf.put (by decide))) eI
    | succ m ih =>
      intro v hv hm hr
      have hb := (hW.2.1 v (by omega) (by omega)).2.2.2.2.2.2.2
      refine Go.walk 400 [13] E124 E124_ok (fun G C hG hC => ?_)
      (repeat ((conv => whnf); first | refine ⟨_, by assumption, ?_⟩ | refine ⟨_, _, by assumption, ?_⟩ | refine ⟨(show _ ∧ _ by omega), ?_⟩ | refine ⟨(show _ ∨ _ by omega), ?_⟩ | refine ⟨fun h => absurd h (by decide), fun _ => ?_⟩ | refine ⟨fun _ => ?_, fun h => absurd h (by decide)⟩ | refine ⟨fun _ => ?_, fun h => absurd rfl h⟩ | refine ⟨fun h => absurd rfl h, fun _ => ?_⟩)); try (conv => whnf)
      refine ⟨fun q => absurd q (by omega), fun _ => ?_⟩
      (repeat ((conv => whnf); first | refine ⟨_, by assumption, ?_⟩ | refine ⟨_, _, by assumption, ?_⟩ | refine ⟨(show _ ∧ _ by omega), ?_⟩ | refine ⟨(show _ ∨ _ by omega), ?_⟩ | refine ⟨fun h => absurd h (by decide), fun _ => ?_⟩ | refine ⟨fun _ => ?_, fun h => absurd h (by decide)⟩ | refine ⟨fun _ => ?_, fun h => absurd rfl h⟩ | refine ⟨fun h => absurd rfl h, fun _ => ?_⟩)); try (conv => whnf)
      refine hC _ _ _ _ _ _ ?_
      refine ok_of hM (by omega) ?_
      (repeat ((conv => whnf); first | refine ⟨_, by assumption, ?_⟩ | refine ⟨_, _, by assumption, ?_⟩ | refine ⟨(show _ ∧ _ by omega), ?_⟩ | refine ⟨(show _ ∨ _ by omega), ?_⟩ | refine ⟨fun h => absurd h (by decide), fun _ => ?_⟩ | refine ⟨fun _ => ?_, fun h => absurd h (by decide)⟩ | refine ⟨fun _ => ?_, fun h => absurd rfl h⟩ | refine ⟨fun h => absurd rfl h, fun _ => ?_⟩)); try (conv => whnf)
      refine ⟨fun q => ?_, fun q => ?_⟩
      · (repeat ((conv => whnf); first | refine ⟨_, by assumption, ?_⟩ | refine ⟨_, _, by assumption, ?_⟩ | refine ⟨(show _ ∧ _ by omega), ?_⟩ | refine ⟨(show _ ∨ _ by omega), ?_⟩ | refine ⟨fun h => absurd h (by decide), fun _ => ?_⟩ | refine ⟨fun _ => ?_, fun h => absurd h (by decide)⟩ | refine ⟨fun _ => ?_, fun h => absurd rfl h⟩ | refine ⟨fun h => absurd rfl h, fun _ => ?_⟩)); try (conv => whnf)
        refine hG _ _ _ _ _ _ ?_
        refine ih (v + 1) (by omega) (by omega) ?_
        rw [rf_succ hv, hr]; simp [q]
      · (repeat ((conv => whnf); first | refine ⟨_, by assumption, ?_⟩ | refine ⟨_, _, by assumption, ?_⟩ | refine ⟨(show _ ∧ _ by omega), ?_⟩ | refine ⟨(show _ ∨ _ by omega), ?_⟩ | refine ⟨fun h => absurd h (by decide), fun _ => ?_⟩ | refine ⟨fun _ => ?_, fun h => absurd h (by decide)⟩ | refine ⟨fun _ => ?_, fun h => absurd rfl h⟩ | refine ⟨fun h => absurd rfl h, fun _ => ?_⟩)); try (conv => whnf)
        exact hK.no (by rw [dropF, if_neg (fun q => q hkb), if_pos (plc_mono hv (by omega) q)])
  refine Ok.of (by decide) rfl (Nat.le_of_ble_eq_true rfl) ?_
  refine Go.walk 400 [13] E124 E124_ok (fun G C hG hC => ?_)
  (repeat ((conv => whnf); first | refine ⟨_, by assumption, ?_⟩ | refine ⟨_, _, by assumption, ?_⟩ | refine ⟨(show _ ∧ _ by omega), ?_⟩ | refine ⟨(show _ ∨ _ by omega), ?_⟩ | refine ⟨fun h => absurd h (by decide), fun _ => ?_⟩ | refine ⟨fun _ => ?_, fun h => absurd h (by decide)⟩ | refine ⟨fun _ => ?_, fun h => absurd rfl h⟩ | refine ⟨fun h => absurd rfl h, fun _ => ?_⟩)); try (conv => whnf)
  refine hC _ _ _ _ _ _ ?_
  refine ok_isKind hM hk hW (fun h1 => ?_) (fun h1 => ?_)
  · (repeat ((conv => whnf); first | refine ⟨_, by assumption, ?_⟩ | refine ⟨_, _, by assumption, ?_⟩ | refine ⟨(show _ ∧ _ by omega), ?_⟩ | refine ⟨(show _ ∨ _ by omega), ?_⟩ | refine ⟨fun h => absurd h (by decide), fun _ => ?_⟩ | refine ⟨fun _ => ?_, fun h => absurd h (by decide)⟩ | refine ⟨fun _ => ?_, fun h => absurd rfl h⟩ | refine ⟨fun h => absurd rfl h, fun _ => ?_⟩)); try (conv => whnf)
    refine hG _ _ _ _ _ _ ?_
    exact loop (isKb_iff.mpr h1) (I 362 0 - 1).toNat 1 (by omega) (by omega) (by rw [rf_nil (by omega)])
  · (repeat ((conv => whnf); first | refine ⟨_, by assumption, ?_⟩ | refine ⟨_, _, by assumption, ?_⟩ | refine ⟨(show _ ∧ _ by omega), ?_⟩ | refine ⟨(show _ ∨ _ by omega), ?_⟩ | refine ⟨fun h => absurd h (by decide), fun _ => ?_⟩ | refine ⟨fun _ => ?_, fun h => absurd h (by decide)⟩ | refine ⟨fun _ => ?_, fun h => absurd rfl h⟩ | refine ⟨fun h => absurd rfl h, fun _ => ?_⟩)); try (conv => whnf)
    exact hK.no (by rw [dropF, if_pos (fun q => h1 (isKb_iff.mp q))])
def sdN (s : Int) : Int := (s * 1103515245 + 12345) % 2147483648
theorem sdN_bd {s : Int} : 0 ≤ sdN s ∧ sdN s < 2147483648 := by
  unfold sdN
  omega
/-- draws(m) -/
theorem ok_draws {P : aP} {d : Nat} {K : aK} {I : aI} {R : aR} {S : aS} {m : Int} (hM : MS R S) (hs : 0 ≤ I 361 1 ∧ I 361 1 < 2147483648) (hm : 0 < m ∧ m < 2147483648) (hK : K (some (vi (sdN (I 361 1) / 65536 % m))) (uI I 361 1 (sdN (I 361 1))) R S) : Ok P 128 (d + 1) [vr 361, vi m] I R S K := by
  obtain ⟨m0, r1, m1, r2, m2, r3, m3, r4, m4, r5, m5, r6, m6, r7, m7, r8, m8, r9, m9, r10, m10, r11, m11, r12, m12, r13, m13, r14, m14, r15, m15⟩ := id hM
  have hb := sdN_bd (s := I 361 1)
  have e : uI I 361 ((1 : Nat) : Int) (sdN (I 361 1)) 361 ((1 : Nat) : Int) = sdN (I 361 1) := uI_at
  have hs2 : 0 ≤ I 361 ((1 : Nat) : Int) ∧ I 361 ((1 : Nat) : Int) < 2147483648 := hs
  refine Ok.of (by decide) rfl (Nat.le_of_ble_eq_true rfl) ?_
  refine Go.walk 400 [] E128 E128_ok (fun G C hG hC => ?_)
  (repeat ((conv => whnf); first | refine ⟨_, by assumption, ?_⟩ | refine ⟨(show _ ∧ _ by omega), ?_⟩))
  conv => whnf
  have e2 : (I 361 ((1 : Nat) : Int) * 1103515245 + 12345) % 2147483648 = sdN (I 361 1) := rfl
  rw [e2, e]
  refine ⟨by omega, ?_⟩
  conv => whnf
  refine ⟨by have : 0 ≤ sdN (I 361 1) / 65536 := Int.ediv_nonneg hb.1 (by omega)
             have : sdN (I 361 1) / 65536 < 2147483648 := by omega
             omega, ?_⟩
  conv => whnf
  exact hK
def dr1 (s : Int) (m : Int) : Int := sdN s / 65536 % m
def driftN (n : aN) (s : Int) : aN := st (st (st (growF n (dr1 s (n 0)) (dr1 (sdN s) 10) (dr1 (sdN (sdN s)) 10)) (n 0) 4 (1 + dr1 (sdN (sdN (sdN s))) 9)) (n 0) 5 (dr1 (sdN (sdN (sdN (sdN s)))) 300)) (n 0) 6 (dr1 (sdN (sdN (sdN (sdN (sdN s))))) 2)
def driftS (s : Int) : Int := sdN (sdN (sdN (sdN (sdN (sdN s)))))
theorem dr1_bd {s m : Int} (hm : 0 < m) : 0 ≤ dr1 s m ∧ dr1 s m < m := ⟨Int.emod_nonneg _ (by omega), Int.emod_lt_of_pos _ hm⟩
end
section
/-! the reference: drift, undo, the book, the seed, images -/
def driftI : Nat → aN × Int × List aN → aN × Int × List aN
  | 0, x => x
  | m + 1, x => if x.1 0 < 6 then driftI m (driftN x.1 x.2.1, driftS x.2.1, pushH x.2.2 x.1) else x
theorem grow0 {n : aN} {a r c : Int} : growF n a r c 0 = n 0 + 1 := up_at
theorem driftN0 {n : aN} {s : Int} (hn : 0 ≤ n 0) : driftN n s 0 = n 0 + 1 := by
  unfold driftN
  rw [st_lo hn (by omega) (by omega), st_lo hn (by omega) (by omega), st_lo hn (by omega) (by omega)]
  exact grow0
/-- drift(m) -/
theorem ok_mdrift {P : aP} {d : Nat} {K : aK} {I : aI} {R : aR} {S : aS} {m : Int} {h : List aN} (hM : MS R S) (hN : 1 ≤ I 362 0 ∧ I 362 0 ≤ 6) (hH : HistM I h) (hs : 0 ≤ I 361 1 ∧ I 361 1 < 2147483648) (hm : iR m) (h0 : ¬ (1 ≤ m ∧ m ≤ 6) → K (some (vi (-1000000002))) I R S)
    (h1 : 1 ≤ m ∧ m ≤ 6 → ∀ I' n' s' h', (n', s', h') = driftI m.toNat (I 362, I 361 1, h) → MF [362, 363] [1, 3] I I' → I' 362 = n' → I' 361 1 = s' → HistM I' h' → K (some (vi (n' 0))) I' R S) : Ok P 129 (d + 3) [vr 361, vi m] I R S K := by
  obtain ⟨m0, r1, m1, r2, m2, r3, m3, r4, m4, r5, m5, r6, m6, r7, m7, r8, m8, r9, m9, r10, m10, r11, m11, r12, m12, r13, m13, r14, m14, r15, m15⟩ := id hM
  have loop : 1 ≤ m ∧ m ≤ 6 → ∀ (k : Nat) (j : Int) (I' : aI) (g : List aN) (x3 x4 x5 x6 : aV), 0 ≤ j → m - j = k → 1 ≤ I' 362 0 → I' 362 0 ≤ 6 → 0 ≤ I' 361 1 → I' 361 1 < 2147483648 → MF [362, 363] [1, 3] I I' → HistM I' g → driftI k (I' 362, I' 361 1, g) = driftI m.toNat (I 362, I 361 1, h) → Go P 129 (d + 3) K 15 [vr 361, vi m, vi j, x3, x4, x5, x6] [] I' R S := by
    intro hm1 k
    induction k with
    | zero =>
      intro j I' g x3 x4 x5 x6 hj hk n1 n2 s1 s2 hF hg he
      refine Go.walk 400 [15] E129 E129_ok (fun G C hG hC => ?_)
      (repeat ((conv => whnf); first | refine ⟨_, by assumption, ?_⟩ | refine ⟨_, _, by assumption, ?_⟩ | refine ⟨(show _ ∧ _ by omega), ?_⟩ | refine ⟨(show _ ∨ _ by omega), ?_⟩ | refine ⟨fun h => absurd h (by decide), fun _ => ?_⟩ | refine ⟨fun _ => ?_, fun h => absurd h (by decide)⟩ | refine ⟨fun _ => ?_, fun h => absurd rfl h⟩ | refine ⟨fun h => absurd rfl h, fun _ => ?_⟩)); try (conv => whnf)
      refine ⟨fun _ => ?_, fun q => absurd (show m ≤ j by omega) q⟩
      (repeat ((conv => whnf); first | refine ⟨_, by assumption, ?_⟩ | refine ⟨_, _, by assumption, ?_⟩ | refine ⟨(show _ ∧ _ by omega), ?_⟩ | refine ⟨(show _ ∨ _ by omega), ?_⟩ | refine ⟨fun h => absurd h (by decide), fun _ => ?_⟩ | refine ⟨fun _ => ?_, fun h => absurd h (by decide)⟩ | refine ⟨fun _ => ?_, fun h => absurd rfl h⟩ | refine ⟨fun h => absurd rfl h, fun _ => ?_⟩)); try (conv => whnf)
      exact h1 hm1 I' _ _ _ he hF rfl rfl hg
    | succ k ih =>
      intro j I' g x3 x4 x5 x6 hj hk n1 n2 s1 s2 hF hg he
      refine Go.walk 400 [15] E129 E129_ok (fun G C hG hC => ?_)
      (repeat ((conv => whnf); first | refine ⟨_, by assumption, ?_⟩ | refine ⟨_, _, by assumption, ?_⟩ | refine ⟨(show _ ∧ _ by omega), ?_⟩ | refine ⟨(show _ ∨ _ by omega), ?_⟩ | refine ⟨fun h => absurd h (by decide), fun _ => ?_⟩ | refine ⟨fun _ => ?_, fun h => absurd h (by decide)⟩ | refine ⟨fun _ => ?_, fun h => absurd rfl h⟩ | refine ⟨fun h => absurd rfl h, fun _ => ?_⟩)); try (conv => whnf)
      refine ⟨fun q => absurd q (by omega), fun _ => ?_⟩
      (repeat ((conv => whnf); first | refine ⟨_, by assumption, ?_⟩ | refine ⟨_, _, by assumption, ?_⟩ | refine ⟨(show _ ∧ _ by omega), ?_⟩ | refine ⟨(show _ ∨ _ by omega), ?_⟩ | refine ⟨fun h => absurd h (by decide), fun _ => ?_⟩ | refine ⟨fun _ => ?_, fun h => absurd h (by decide)⟩ | refine ⟨fun _ => ?_, fun h => absurd rfl h⟩ | refine ⟨fun h => absurd rfl h, fun _ => ?_⟩)); try (conv => whnf)
      refine ⟨fun q => ?_, fun q => ?_⟩
      · rw [driftI, if_neg (by show ¬ I' 362 0 < 6; omega)] at he
        (repeat ((conv => whnf); first | refine ⟨_, by assumption, ?_⟩ | refine ⟨_, _, by assumption, ?_⟩ | refine ⟨(show _ ∧ _ by omega), ?_⟩ | refine ⟨(show _ ∨ _ by omega), ?_⟩ | refine ⟨fun h => absurd h (by decide), fun _ => ?_⟩ | refine ⟨fun _ => ?_, fun h => absurd h (by decide)⟩ | refine ⟨fun _ => ?_, fun h => absurd rfl h⟩ | refine ⟨fun h => absurd rfl h, fun _ => ?_⟩)); try (conv => whnf)
        exact h1 hm1 I' _ _ _ he hF rfl rfl hg
      · rw [driftI, if_pos (by show I' 362 0 < 6; omega)] at he
        (repeat ((conv => whnf); first | refine ⟨_, by assumption, ?_⟩ | refine ⟨_, _, by assumption, ?_⟩ | refine ⟨(show _ ∧ _ by omega), ?_⟩ | refine ⟨(show _ ∨ _ by omega), ?_⟩ | refine ⟨fun h => absurd h (by decide), fun _ => ?_⟩ | refine ⟨fun _ => ?_, fun h => absurd h (by decide)⟩ | refine ⟨fun _ => ?_, fun h => absurd rfl h⟩ | refine ⟨fun h => absurd rfl h, fun _ => ?_⟩)); try (conv => whnf)
        refine hC _ _ _ _ _ _ ?_
        refine ok_deed hM hg (fun I1 hF1 hg1 => ?_)
        have e := hF1.1 362 (by decide)
        have es : I1 361 1 = I' 361 1 := hF1.2 1 (by decide)
        have t1 := sdN_bd (s := I' 361 1)
        have t2 := sdN_bd (s := sdN (I' 361 1))
        have t3 := sdN_bd (s := sdN (sdN (I' 361 1)))
        have t4 := sdN_bd (s := sdN (sdN (sdN (I' 361 1))))
        have t5 := sdN_bd (s := sdN (sdN (sdN (sdN (I' 361 1)))))
        (repeat ((conv => whnf); first | refine ⟨_, by assumption, ?_⟩ | refine ⟨_, _, by assumption, ?_⟩ | refine ⟨(show _ ∧ _ by omega), ?_⟩ | refine ⟨(show _ ∨ _ by omega), ?_⟩ | refine ⟨fun h => absurd h (by decide), fun _ => ?_⟩ | refine ⟨fun _ => ?_, fun h => absurd h (by decide)⟩ | refine ⟨fun _ => ?_, fun h => absurd rfl h⟩ | refine ⟨fun h => absurd rfl h, fun _ => ?_⟩)); try (conv => whnf)
        refine hC _ _ _ _ _ _ ?_
        rw [e]
        refine ok_draws hM (by omega) (by omega) ?_
        rw [es]
        (repeat ((conv => whnf); first | refine ⟨_, by assumption, ?_⟩ | refine ⟨_, _, by assumption, ?_⟩ | refine ⟨(show _ ∧ _ by omega), ?_⟩ | refine ⟨(show _ ∨ _ by omega), ?_⟩ | refine ⟨fun h => absurd h (by decide), fun _ => ?_⟩ | refine ⟨fun _ => ?_, fun h => absurd h (by decide)⟩ | refine ⟨fun _ => ?_, fun h => absurd rfl h⟩ | refine ⟨fun h => absurd rfl h, fun _ => ?_⟩)); try (conv => whnf)
        refine hC _ _ _ _ _ _ ?_
        refine ok_draws hM (by rw [uI_at]; omega) (by omega) ?_
        rw [uI_at]
        (repeat ((conv => whnf); first | refine ⟨_, by assumption, ?_⟩ | refine ⟨_, _, by assumption, ?_⟩ | refine ⟨(show _ ∧ _ by omega), ?_⟩ | refine ⟨(show _ ∨ _ by omega), ?_⟩ | refine ⟨fun h => absurd h (by decide), fun _ => ?_⟩ | refine ⟨fun _ => ?_, fun h => absurd h (by decide)⟩ | refine ⟨fun _ => ?_, fun h => absurd rfl h⟩ | refine ⟨fun h => absurd rfl h, fun _ => ?_⟩)); try (conv => whnf)
        refine hC _ _ _ _ _ _ ?_
        refine ok_draws hM (by rw [uI_at]; omega) (by omega) ?_
        rw [uI_at]
        (repeat ((conv => whnf); first | refine ⟨_, by assumption, ?_⟩ | refine ⟨_, _, by assumption, ?_⟩ | refine ⟨(show _ ∧ _ by omega), ?_⟩ | refine ⟨(show _ ∨ _ by omega), ?_⟩ | refine ⟨fun h => absurd h (by decide), fun _ => ?_⟩ | refine ⟨fun _ => ?_, fun h => absurd h (by decide)⟩ | refine ⟨fun _ => ?_, fun h => absurd rfl h⟩ | refine ⟨fun h => absurd rfl h, fun _ => ?_⟩)); try (conv => whnf)
        refine hC _ _ _ _ _ _ ?_
        refine ok_comes hM ?_ (fun I2 hF2 h2 => ?_)
        · rw [uI_ne (by omega), uI_ne (by omega), uI_ne (by omega), e]; omega
        have e362 : uI (uI (uI I1 361 1 (sdN (I' 361 1))) 361 1 (sdN (sdN (I' 361 1)))) 361 1 (sdN (sdN (sdN (I' 361 1)))) 362 = I' 362 := by
          funext x
          rw [uI_ne (by omega), uI_ne (by omega), uI_ne (by omega), e]
        rw [e362] at h2
        rw [e362]
        have es2 : I2 361 1 = sdN (sdN (sdN (I' 361 1))) := by rw [hF2 361 (by decide)]; exact uI_at
        (repeat ((conv => whnf); first | refine ⟨_, by assumption, ?_⟩ | refine ⟨_, _, by assumption, ?_⟩ | refine ⟨(show _ ∧ _ by omega), ?_⟩ | refine ⟨(show _ ∨ _ by omega), ?_⟩ | refine ⟨fun h => absurd h (by decide), fun _ => ?_⟩ | refine ⟨fun _ => ?_, fun h => absurd h (by decide)⟩ | refine ⟨fun _ => ?_, fun h => absurd rfl h⟩ | refine ⟨fun h => absurd rfl h, fun _ => ?_⟩)); try (conv => whnf)
        refine hC _ _ _ _ _ _ ?_
        refine ok_draws hM (by omega) (by omega) ?_
        rw [es2]
        (repeat ((conv => whnf); first | refine ⟨_, by assumption, ?_⟩ | refine ⟨_, _, by assumption, ?_⟩ | refine ⟨(show _ ∧ _ by omega), ?_⟩ | refine ⟨(show _ ∨ _ by omega), ?_⟩ | refine ⟨fun h => absurd h (by decide), fun _ => ?_⟩ | refine ⟨fun _ => ?_, fun h => absurd h (by decide)⟩ | refine ⟨fun _ => ?_, fun h => absurd rfl h⟩ | refine ⟨fun h => absurd rfl h, fun _ => ?_⟩)); try (conv => whnf)
        refine hC _ _ _ _ _ _ ?_
        refine ok_sets hM (by omega) ?_
        (repeat ((conv => whnf); first | refine ⟨_, by assumption, ?_⟩ | refine ⟨_, _, by assumption, ?_⟩ | refine ⟨(show _ ∧ _ by omega), ?_⟩ | refine ⟨(show _ ∨ _ by omega), ?_⟩ | refine ⟨fun h => absurd h (by decide), fun _ => ?_⟩ | refine ⟨fun _ => ?_, fun h => absurd h (by decide)⟩ | refine ⟨fun _ => ?_, fun h => absurd rfl h⟩ | refine ⟨fun h => absurd rfl h, fun _ => ?_⟩)); try (conv => whnf)
        refine hC _ _ _ _ _ _ ?_
        have es3 : ∀ z, uI (uI I2 361 1 (sdN (sdN (sdN (sdN (I' 361 1)))))) 362 (20 + 8 * I' 362 0 + 4) z 361 1 = sdN (sdN (sdN (sdN (I' 361 1)))) := fun z => by rw [uI_ne (by omega)]; exact uI_at
        refine ok_draws hM (by rw [es3]; omega) (by omega) ?_
        rw [es3]
        (repeat ((conv => whnf); first | refine ⟨_, by assumption, ?_⟩ | refine ⟨_, _, by assumption, ?_⟩ | refine ⟨(show _ ∧ _ by omega), ?_⟩ | refine ⟨(show _ ∨ _ by omega), ?_⟩ | refine ⟨fun h => absurd h (by decide), fun _ => ?_⟩ | refine ⟨fun _ => ?_, fun h => absurd h (by decide)⟩ | refine ⟨fun _ => ?_, fun h => absurd rfl h⟩ | refine ⟨fun h => absurd rfl h, fun _ => ?_⟩)); try (conv => whnf)
        refine hC _ _ _ _ _ _ ?_
        refine ok_sets hM (by omega) ?_
        (repeat ((conv => whnf); first | refine ⟨_, by assumption, ?_⟩ | refine ⟨_, _, by assumption, ?_⟩ | refine ⟨(show _ ∧ _ by omega), ?_⟩ | refine ⟨(show _ ∨ _ by omega), ?_⟩ | refine ⟨fun h => absurd h (by decide), fun _ => ?_⟩ | refine ⟨fun _ => ?_, fun h => absurd h (by decide)⟩ | refine ⟨fun _ => ?_, fun h => absurd rfl h⟩ | refine ⟨fun h => absurd rfl h, fun _ => ?_⟩)); try (conv => whnf)
        refine hC _ _ _ _ _ _ ?_
        refine ok_draws hM (by rw [uI_ne (by omega), uI_at]; omega) (by omega) ?_
        rw [uI_ne (a := 362) (by omega), uI_at]
        (repeat ((conv => whnf); first | refine ⟨_, by assumption, ?_⟩ | refine ⟨_, _, by assumption, ?_⟩ | refine ⟨(show _ ∧ _ by omega), ?_⟩ | refine ⟨(show _ ∨ _ by omega), ?_⟩ | refine ⟨fun h => absurd h (by decide), fun _ => ?_⟩ | refine ⟨fun _ => ?_, fun h => absurd h (by decide)⟩ | refine ⟨fun _ => ?_, fun h => absurd rfl h⟩ | refine ⟨fun h => absurd rfl h, fun _ => ?_⟩)); try (conv => whnf)
        refine hC _ _ _ _ _ _ ?_
        refine ok_sets hM (by omega) ?_
        (repeat ((conv => whnf); first | refine ⟨_, by assumption, ?_⟩ | refine ⟨_, _, by assumption, ?_⟩ | refine ⟨(show _ ∧ _ by omega), ?_⟩ | refine ⟨(show _ ∨ _ by omega), ?_⟩ | refine ⟨fun h => absurd h (by decide), fun _ => ?_⟩ | refine ⟨fun _ => ?_, fun h => absurd h (by decide)⟩ | refine ⟨fun _ => ?_, fun h => absurd rfl h⟩ | refine ⟨fun h => absurd rfl h, fun _ => ?_⟩)); try (conv => whnf)
        refine hG _ _ _ _ _ _ ?_
        have hn' : ∀ a b c : Int, uI (uI (uI (uI (uI (uI I2 361 1 (sdN (sdN (sdN (sdN (I' 361 1)))))) 362 (20 + 8 * I' 362 0 + 4) a) 361 1 (sdN (sdN (sdN (sdN (sdN (I' 361 1))))))) 362 (20 + 8 * I' 362 0 + 5) b) 361 1 (sdN (sdN (sdN (sdN (sdN (sdN (I' 361 1)))))))) 362 (20 + 8 * I' 362 0 + 6) c 362 = st (st (st (I2 362) (I' 362 0) 4 a) (I' 362 0) 5 b) (I' 362 0) 6 c := by
          intro a b c
          funext x
          simp only [uI, st, up, true_and]
          by_cases q1 : x = 20 + 8 * I' 362 0 + 6
          · simp [q1]
          · by_cases q2 : x = 20 + 8 * I' 362 0 + 5
            · simp [q1, q2]
            · by_cases q3 : x = 20 + 8 * I' 362 0 + 4
              · simp [q1, q2, q3]
              · simp [q1, q2, q3]
        have hFa : MF [362, 363] [1, 3] I I1 := hF.trans hF1 (by simp <;> omega) (by simp <;> omega)
        have hFb : MF [362, 363] [1, 3] I I2 := (((hFa.putF (j := 1) (z := sdN (I' 361 1)) (by decide)).putF (j := 1) (z := sdN (sdN (I' 361 1))) (by decide)).putF (j := 1) (z := sdN (sdN (sdN (I' 361 1)))) (by decide)).trans (MF.of (J := []) hF2 (by decide)) (by simp <;> omega) (by simp <;> omega)
        have hFc : MF [362, 363] [1, 3] I (uI (uI (uI (uI (uI (uI I2 361 1 (sdN (sdN (sdN (sdN (I' 361 1)))))) 362 (20 + 8 * I' 362 0 + 4) (1 + dr1 (sdN (sdN (sdN (I' 361 1)))) 9)) 361 1 (sdN (sdN (sdN (sdN (sdN (I' 361 1))))))) 362 (20 + 8 * I' 362 0 + 5) (dr1 (sdN (sdN (sdN (sdN (I' 361 1))))) 300)) 361 1 (sdN (sdN (sdN (sdN (sdN (sdN (I' 361 1)))))))) 362 (20 + 8 * I' 362 0 + 6) (dr1 (sdN (sdN (sdN (sdN (sdN (I' 361 1)))))) 2)) := (((((hFb.putF (by decide)).put (by decide) (by decide)).putF (by decide)).put (by decide) (by decide)).putF (by decide)).put (by decide) (by decide)
        have hn3 := (hn' (1 + dr1 (sdN (sdN (sdN (I' 361 1)))) 9) (dr1 (sdN (sdN (sdN (sdN (I' 361 1))))) 300) (dr1 (sdN (sdN (sdN (sdN (sdN (I' 361 1)))))) 2))
        rw [h2] at hn3
        have hn4 : st (st (st (growF (I' 362) (sdN (I' 361 1) / 65536 % I' 362 0) (sdN (sdN (I' 361 1)) / 65536 % 10) (sdN (sdN (sdN (I' 361 1))) / 65536 % 10)) (I' 362 0) 4 (1 + dr1 (sdN (sdN (sdN (I' 361 1)))) 9)) (I' 362 0) 5 (dr1 (sdN (sdN (sdN (sdN (I' 361 1))))) 300)) (I' 362 0) 6 (dr1 (sdN (sdN (sdN (sdN (sdN (I' 361 1)))))) 2) = driftN (I' 362) (I' 361 1) := rfl
        rw [hn4] at hn3
        have hs5 : ∀ z, uI (uI (uI (uI (uI (uI I2 361 1 (sdN (sdN (sdN (sdN (I' 361 1)))))) 362 (20 + 8 * I' 362 0 + 4) (1 + dr1 (sdN (sdN (sdN (I' 361 1)))) 9)) 361 1 (sdN (sdN (sdN (sdN (sdN (I' 361 1))))))) 362 (20 + 8 * I' 362 0 + 5) (dr1 (sdN (sdN (sdN (sdN (I' 361 1))))) 300)) 361 1 (sdN (sdN (sdN (sdN (sdN (sdN (I' 361 1)))))))) 362 (20 + 8 * I' 362 0 + 6) z 361 1 = driftS (I' 361 1) := fun z => by rw [uI_ne (by omega)]; exact uI_at
        have hg5 : HistM (uI (uI (uI (uI (uI (uI I2 361 1 (sdN (sdN (sdN (sdN (I' 361 1)))))) 362 (20 + 8 * I' 362 0 + 4) (1 + dr1 (sdN (sdN (sdN (I' 361 1)))) 9)) 361 1 (sdN (sdN (sdN (sdN (sdN (I' 361 1))))))) 362 (20 + 8 * I' 362 0 + 5) (dr1 (sdN (sdN (sdN (sdN (I' 361 1))))) 300)) 361 1 (sdN (sdN (sdN (sdN (sdN (sdN (I' 361 1)))))))) 362 (20 + 8 * I' 362 0 + 6) (dr1 (sdN (sdN (sdN (sdN (sdN (I' 361 1)))))) 2)) (pushH g (I' 362)) := by
          refine hg1.of ?_ ?_
          · rw [uI_ne (by omega), uI_ne (by omega), uI_ne (by omega), uI_ne (by omega), uI_ne (by omega), uI_ne (by omega), hF2 361 (by decide), uI_ne (by omega), uI_ne (by omega), uI_ne (by omega)]
          · funext x
            rw [uI_ne (by omega), uI_ne (by omega), uI_ne (by omega), uI_ne (by omega), uI_ne (by omega), uI_ne (by omega), hF2 363 (by decide), uI_ne (by omega), uI_ne (by omega), uI_ne (by omega)]
        have hs6 := sdN_bd (s := sdN (sdN (sdN (sdN (sdN (I' 361 1))))))
        have hd0 := driftN0 (n := I' 362) (s := I' 361 1) (by omega)
        exact ih (j + 1) (uI (uI (uI (uI (uI (uI I2 361 1 (sdN (sdN (sdN (sdN (I' 361 1)))))) 362 (20 + 8 * I' 362 0 + 4) (1 + dr1 (sdN (sdN (sdN (I' 361 1)))) 9)) 361 1 (sdN (sdN (sdN (sdN (sdN (I' 361 1))))))) 362 (20 + 8 * I' 362 0 + 5) (dr1 (sdN (sdN (sdN (sdN (I' 361 1))))) 300)) 361 1 (sdN (sdN (sdN (sdN (sdN (sdN (I' 361 1)))))))) 362 (20 + 8 * I' 362 0 + 6) (dr1 (sdN (sdN (sdN (sdN (sdN (I' 361 1)))))) 2)) _ _ _ _ _ (by omega) (by omega) (by rw [hn3, hd0]; omega) (by rw [hn3, hd0]; omega) (by rw [hs5]; exact hs6.1) (by rw [hs5]; exact hs6.2) hFc hg5 (by rw [hn3, hs5]; exact he)
  refine Ok.of (by decide) rfl (Nat.le_of_ble_eq_true rfl) ?_
  refine Go.walk 400 [15] E129 E129_ok (fun G C hG hC => ?_)
  (repeat ((conv => whnf); first | refine ⟨_, by assumption, ?_⟩ | refine ⟨_, _, by assumption, ?_⟩ | refine ⟨(show _ ∧ _ by omega), ?_⟩ | refine ⟨(show _ ∨ _ by omega), ?_⟩ | refine ⟨fun h => absurd h (by decide), fun _ => ?_⟩ | refine ⟨fun _ => ?_, fun h => absurd h (by decide)⟩ | refine ⟨fun _ => ?_, fun h => absurd rfl h⟩ | refine ⟨fun h => absurd rfl h, fun _ => ?_⟩)); try (conv => whnf)
  refine hC _ _ _ _ _ _ ?_
  refine ok_in hm (by omega) (by omega) (fun g1 => ?_) (fun g1 => ?_)
  · (repeat ((conv => whnf); first | refine ⟨_, by assumption, ?_⟩ | refine ⟨_, _, by assumption, ?_⟩ | refine ⟨(show _ ∧ _ by omega), ?_⟩ | refine ⟨(show _ ∨ _ by omega), ?_⟩ | refine ⟨fun h => absurd h (by decide), fun _ => ?_⟩ | refine ⟨fun _ => ?_, fun h => absurd h (by decide)⟩ | refine ⟨fun _ => ?_, fun h => absurd rfl h⟩ | refine ⟨fun h => absurd rfl h, fun _ => ?_⟩)); try (conv => whnf)
    refine hG _ _ _ _ _ _ ?_
    exact loop g1 m.toNat 0 I h _ _ _ _ (by omega) (by omega) hN.1 hN.2 hs.1 hs.2 MF.rf hH rfl
  · (repeat ((conv => whnf); first | refine ⟨_, by assumption, ?_⟩ | refine ⟨_, _, by assumption, ?_⟩ | refine ⟨(show _ ∧ _ by omega), ?_⟩ | refine ⟨(show _ ∨ _ by omega), ?_⟩ | refine ⟨fun h => absurd h (by decide), fun _ => ?_⟩ | refine ⟨fun _ => ?_, fun h => absurd h (by decide)⟩ | refine ⟨fun _ => ?_, fun h => absurd rfl h⟩ | refine ⟨fun h => absurd rfl h, fun _ => ?_⟩)); try (conv => whnf)
    exact h0 g1
/-- undo(m) -/
theorem ok_mundo {P : aP} {d : Nat} {K : aK} {I : aI} {R : aR} {S : aS} {m : Int} {h : List aN} (hM : MS R S) (hH : HistM I h) (hm : iR m) (h0 : ¬ (1 ≤ m ∧ m ≤ 16) → K (some (vi (-1000000002))) I R S) (h2 : 1 ≤ m ∧ m ≤ 16 → (h.length : Int) < m → K (some (vi (-1000000003))) I R S)
    (h1 : 1 ≤ m → m ≤ h.length → ∀ I' q, h[h.length - m.toNat]? = some q → MF [362] [3] I I' → (∀ k : Int, 0 ≤ k → k < 68 → I' 362 k = q k) → HistM I' (h.take (h.length - m.toNat)) → K (some (vi ((h.length : Int) - m))) I' R S) : Ok P 130 (d + 2) [vr 361, vi m] I R S K := by
  obtain ⟨m0, r1, m1, r2, m2, r3, m3, r4, m4, r5, m5, r6, m6, r7, m7, r8, m8, r9, m9, r10, m10, r11, m11, r12, m12, r13, m13, r14, m14, r15, m15⟩ := id hM
  obtain ⟨hk, hl, hb⟩ := hH
  have hk' : I 361 ((3 : Nat) : Int) = h.length := hk
  have loop : 1 ≤ m → m ≤ h.length → ∀ q, h[h.length - m.toNat]? = some q → ∀ (j : Nat) (k : Int) (I' : aI), 0 ≤ k → 68 - k = j → MF [362] [3] I I' → I' 361 3 = (h.length : Int) - m → (∀ x : Int, 0 ≤ x → x < k → I' 362 x = q x) → Go P 130 (d + 2) K 36 [vr 361, vi m, vi k] [] I' R S := by
    intro m1 m2 q hq j
    induction j with
    | zero =>
      intro k I' g0 gj hF h3 hx
      have h3' : I' 361 ((3 : Nat) : Int) = (h.length : Int) - m := h3
      refine Go.walk 400 [36] E130 E130_ok (fun G C hG hC => ?_)
      (repeat ((conv => whnf); first | refine ⟨_, by assumption, ?_⟩ | refine ⟨_, _, by assumption, ?_⟩ | refine ⟨(show _ ∧ _ by omega), ?_⟩ | refine ⟨(show _ ∨ _ by omega), ?_⟩ | refine ⟨fun h => absurd h (by decide), fun _ => ?_⟩ | refine ⟨fun _ => ?_, fun h => absurd h (by decide)⟩ | refine ⟨fun _ => ?_, fun h => absurd rfl h⟩ | refine ⟨fun h => absurd rfl h, fun _ => ?_⟩)); try (conv => whnf)
      refine ⟨fun _ => ?_, fun z => absurd (show (68 : Int) ≤ k by omega) z⟩
      (repeat ((conv => whnf); first | refine ⟨_, by assumption, ?_⟩ | refine ⟨_, _, by assumption, ?_⟩ | refine ⟨(show _ ∧ _ by omega), ?_⟩ | refine ⟨(show _ ∨ _ by omega), ?_⟩ | refine ⟨fun h => absurd h (by decide), fun _ => ?_⟩ | refine ⟨fun _ => ?_, fun h => absurd h (by decide)⟩ | refine ⟨fun _ => ?_, fun h => absurd rfl h⟩ | refine ⟨fun h => absurd rfl h, fun _ => ?_⟩)); try (conv => whnf)
      rw [h3']
      refine h1 m1 m2 I' q hq hF (fun x a b => hx x a (by omega)) ⟨?_, by rw [List.length_take]; omega, fun i p hi x a b => ?_⟩
      · rw [h3, List.length_take]; omega
      · rw [hF.1 363 (by decide)]
        have hi2 := (List.getElem?_eq_some_iff.mp hi).1
        rw [List.length_take] at hi2
        rw [List.getElem?_take_of_lt (by omega)] at hi
        exact hb i p hi x a b
    | succ j ih =>
      intro k I' g0 gj hF h3 hx
      have h3' : I' 361 ((3 : Nat) : Int) = (h.length : Int) - m := h3
      have e3 := hF.1 363 (by decide)
      refine Go.walk 400 [36] E130 E130_ok (fun G C hG hC => ?_)
      (repeat ((conv => whnf); first | refine ⟨_, by assumption, ?_⟩ | refine ⟨_, _, by assumption, ?_⟩ | refine ⟨(show _ ∧ _ by omega), ?_⟩ | refine ⟨(show _ ∨ _ by omega), ?_⟩ | refine ⟨fun h => absurd h (by decide), fun _ => ?_⟩ | refine ⟨fun _ => ?_, fun h => absurd h (by decide)⟩ | refine ⟨fun _ => ?_, fun h => absurd rfl h⟩ | refine ⟨fun h => absurd rfl h, fun _ => ?_⟩)); try (conv => whnf)
      refine ⟨fun z => absurd z (by omega), fun _ => ?_⟩
      (repeat ((conv => whnf); first | refine ⟨_, by assumption, ?_⟩ | refine ⟨_, _, by assumption, ?_⟩ | refine ⟨(show _ ∧ _ by omega), ?_⟩ | refine ⟨(show _ ∨ _ by omega), ?_⟩ | refine ⟨fun h => absurd h (by decide), fun _ => ?_⟩ | refine ⟨fun _ => ?_, fun h => absurd h (by decide)⟩ | refine ⟨fun _ => ?_, fun h => absurd rfl h⟩ | refine ⟨fun h => absurd rfl h, fun _ => ?_⟩)); try (conv => whnf)
      refine hG _ _ _ _ _ _ ?_
      rw [h3', e3]
      refine ih (k + 1) _ (by omega) (by omega) (hF.put (by decide) (by decide)) (by rw [uI_ne (by omega)]; exact h3) (fun x a b => ?_)
      by_cases hxk : x = k
      · subst hxk
        rw [uI_at]
        have := hb _ q hq x a (by omega)
        rw [show 68 * ((h.length - m.toNat : Nat) : Int) + x = 68 * ((h.length : Int) - m) + x by omega] at this
        exact this
      · rw [uI_ne (by omega)]; exact hx x a (by omega)
  refine Ok.of (by decide) rfl (Nat.le_of_ble_eq_true rfl) ?_
  refine Go.walk 400 [36] E130 E130_ok (fun G C hG hC => ?_)
  (repeat ((conv => whnf); first | refine ⟨_, by assumption, ?_⟩ | refine ⟨_, _, by assumption, ?_⟩ | refine ⟨(show _ ∧ _ by omega), ?_⟩ | refine ⟨(show _ ∨ _ by omega), ?_⟩ | refine ⟨fun h => absurd h (by decide), fun _ => ?_⟩ | refine ⟨fun _ => ?_, fun h => absurd h (by decide)⟩ | refine ⟨fun _ => ?_, fun h => absurd rfl h⟩ | refine ⟨fun h => absurd rfl h, fun _ => ?_⟩)); try (conv => whnf)
  refine hC _ _ _ _ _ _ ?_
  refine ok_in hm (by omega) (by omega) (fun g1 => ?_) (fun g1 => ?_)
  · (repeat ((conv => whnf); first | refine ⟨_, by assumption, ?_⟩ | refine ⟨_, _, by assumption, ?_⟩ | refine ⟨(show _ ∧ _ by omega), ?_⟩ | refine ⟨(show _ ∨ _ by omega), ?_⟩ | refine ⟨fun h => absurd h (by decide), fun _ => ?_⟩ | refine ⟨fun _ => ?_, fun h => absurd h (by decide)⟩ | refine ⟨fun _ => ?_, fun h => absurd rfl h⟩ | refine ⟨fun h => absurd rfl h, fun _ => ?_⟩)); try (conv => whnf)
    refine ⟨fun g2 => ?_, fun g2 => ?_⟩
    · (repeat ((conv => whnf); first | refine ⟨_, by assumption, ?_⟩ | refine ⟨_, _, by assumption, ?_⟩ | refine ⟨(show _ ∧ _ by omega), ?_⟩ | refine ⟨(show _ ∨ _ by omega), ?_⟩ | refine ⟨fun h => absurd h (by decide), fun _ => ?_⟩ | refine ⟨fun _ => ?_, fun h => absurd h (by decide)⟩ | refine ⟨fun _ => ?_, fun h => absurd rfl h⟩ | refine ⟨fun h => absurd rfl h, fun _ => ?_⟩)); try (conv => whnf)
      refine hG _ _ _ _ _ _ ?_
      have hlt : h.length - m.toNat < h.length := by omega
      rw [hk']
      exact loop g1.1 (by omega) _ (List.getElem?_eq_getElem hlt) 68 0 (uI I 361 3 ((h.length : Int) - m)) (by omega) (by omega) (MF.rf.putF (by decide)) uI_at (fun x a b => absurd b (by omega))
    · (repeat ((conv => whnf); first | refine ⟨_, by assumption, ?_⟩ | refine ⟨_, _, by assumption, ?_⟩ | refine ⟨(show _ ∧ _ by omega), ?_⟩ | refine ⟨(show _ ∨ _ by omega), ?_⟩ | refine ⟨fun h => absurd h (by decide), fun _ => ?_⟩ | refine ⟨fun _ => ?_, fun h => absurd h (by decide)⟩ | refine ⟨fun _ => ?_, fun h => absurd rfl h⟩ | refine ⟨fun h => absurd rfl h, fun _ => ?_⟩)); try (conv => whnf)
      exact h2 g1 (by omega)
  · (repeat ((conv => whnf); first | refine ⟨_, by assumption, ?_⟩ | refine ⟨_, _, by assumption, ?_⟩ | refine ⟨(show _ ∧ _ by omega), ?_⟩ | refine ⟨(show _ ∨ _ by omega), ?_⟩ | refine ⟨fun h => absurd h (by decide), fun _ => ?_⟩ | refine ⟨fun _ => ?_, fun h => absurd h (by decide)⟩ | refine ⟨fun _ => ?_, fun h => absurd rfl h⟩ | refine ⟨fun h => absurd rfl h, fun _ => ?_⟩)); try (conv => whnf)
    exact h0 g1
/-- the book: what is written, in its order -/
def BookM (I : aI) (b : List (Int × Int)) : Prop := I 361 8 = b.length ∧ b.length ≤ 20 ∧ ∀ (j : Nat) (p : Int × Int), b[j]? = some p → I 366 j = p.1 ∧ I 367 j = p.2
/-- write(v, time) -/
theorem ok_mwrite {P : aP} {d : Nat} {K : aK} {I : aI} {R : aR} {S : aS} {v t : Int} {b : List (Int × Int)} (hM : MS R S) (hW : WF (I 362)) (hB : BookM I b) (hv : iR v) (h0 : ¬ (0 ≤ v ∧ v < I 362 0) → K (some (vi (-1000000001))) I R S) (h2 : (0 ≤ v ∧ v < I 362 0) → b.length = 20 → K (some (vi (-1000000004))) I R S)
    (h1 : (0 ≤ v ∧ v < I 362 0) → b.length < 20 → ∀ I', MF [366, 367] [8] I I' → BookM I' (b ++ [(v, t)]) → K (some (vi ((b.length : Int) + 1))) I' R S) : Ok P 131 (d + 3) [vr 361, vi v, vi t] I R S K := by
  obtain ⟨m0, r1, m1, r2, m2, r3, m3, r4, m4, r5, m5, r6, m6, r7, m7, r8, m8, r9, m9, r10, m10, r11, m11, r12, m12, r13, m13, r14, m14, r15, m15⟩ := id hM
  obtain ⟨hk, hl, hb⟩ := hB
  have hk' : I 361 ((8 : Nat) : Int) = b.length := hk
  refine Ok.of (by decide) rfl (Nat.le_of_ble_eq_true rfl) ?_
  refine Go.walk 400 [] E131 E131_ok (fun G C hG hC => ?_)
  (repeat ((conv => whnf); first | refine ⟨_, by assumption, ?_⟩ | refine ⟨_, _, by assumption, ?_⟩ | refine ⟨(show _ ∧ _ by omega), ?_⟩ | refine ⟨(show _ ∨ _ by omega), ?_⟩ | refine ⟨fun h => absurd h (by decide), fun _ => ?_⟩ | refine ⟨fun _ => ?_, fun h => absurd h (by decide)⟩ | refine ⟨fun _ => ?_, fun h => absurd rfl h⟩ | refine ⟨fun h => absurd rfl h, fun _ => ?_⟩)); try (conv => whnf)
  refine hC _ _ _ _ _ _ ?_
  refine ok_isNode hM hv hW (fun g1 => ?_) (fun g1 => ?_)
  · (repeat ((conv => whnf); first | refine ⟨_, by assumption, ?_⟩ | refine ⟨_, _, by assumption, ?_⟩ | refine ⟨(show _ ∧ _ by omega), ?_⟩ | refine ⟨(show _ ∨ _ by omega), ?_⟩ | refine ⟨fun h => absurd h (by decide), fun _ => ?_⟩ | refine ⟨fun _ => ?_, fun h => absurd h (by decide)⟩ | refine ⟨fun _ => ?_, fun h => absurd rfl h⟩ | refine ⟨fun h => absurd rfl h, fun _ => ?_⟩)); try (conv => whnf)
    refine ⟨fun g2 => ?_, fun g2 => ?_⟩
    · have e1 : ∀ z, uI I 366 z v 361 ((8 : Nat) : Int) = b.length := fun z => by rw [uI_ne (by omega)]; exact hk
      (repeat ((conv => whnf); first | refine ⟨_, by assumption, ?_⟩ | refine ⟨_, _, by assumption, ?_⟩ | refine ⟨(show _ ∧ _ by omega), ?_⟩ | refine ⟨(show _ ∨ _ by omega), ?_⟩ | refine ⟨fun h => absurd h (by decide), fun _ => ?_⟩ | refine ⟨fun _ => ?_, fun h => absurd h (by decide)⟩ | refine ⟨fun _ => ?_, fun h => absurd rfl h⟩ | refine ⟨fun h => absurd rfl h, fun _ => ?_⟩)); try (conv => whnf)
      rw [hk']
      rw [e1]
      refine ⟨by omega, ?_⟩
      (repeat ((conv => whnf); first | refine ⟨_, by assumption, ?_⟩ | refine ⟨_, _, by assumption, ?_⟩ | refine ⟨(show _ ∧ _ by omega), ?_⟩ | refine ⟨(show _ ∨ _ by omega), ?_⟩ | refine ⟨fun h => absurd h (by decide), fun _ => ?_⟩ | refine ⟨fun _ => ?_, fun h => absurd h (by decide)⟩ | refine ⟨fun _ => ?_, fun h => absurd rfl h⟩ | refine ⟨fun h => absurd rfl h, fun _ => ?_⟩)); try (conv => whnf)
      have e2 : uI (uI (uI I 366 (b.length : Int) v) 367 (b.length : Int) t) 361 8 ((b.length : Int) + 1) 361 8 = (b.length : Int) + 1 := uI_at
      have e3 : uI (uI I 366 (b.length : Int) v) 367 (b.length : Int) t 361 ((8 : Nat) : Int) = b.length := by rw [uI_ne (by omega), uI_ne (by omega)]; exact hk
      rw [e3]
      refine cast (congrArg (fun z => K (some (Sum.inl z)) _ R S) e2.symm) ?_
      refine h1 g1 (by omega) _ (((MF.rf.put (by decide) (by decide)).put (by decide) (by decide)).putF (by decide)) ⟨?_, by rw [List.length_append, List.length_singleton]; omega, fun j p hj => ?_⟩
      · rw [show ((8 : Nat) : Int) = 8 from rfl, uI_at, List.length_append, List.length_singleton]; omega
      · have a1 : uI (uI (uI I 366 (b.length : Int) v) 367 (b.length : Int) t) 361 ((8 : Nat) : Int) ((b.length : Int) + 1) 366 (j : Int) = uI I 366 (b.length : Int) v 366 (j : Int) := by rw [uI_ne (by omega), uI_ne (by omega)]
        have a2 : uI (uI (uI I 366 (b.length : Int) v) 367 (b.length : Int) t) 361 ((8 : Nat) : Int) ((b.length : Int) + 1) 367 (j : Int) = uI (uI I 366 (b.length : Int) v) 367 (b.length : Int) t 367 (j : Int) := by rw [uI_ne (by omega)]
        rw [a1, a2]
        by_cases hj2 : j < b.length
        · rw [List.getElem?_append_left hj2] at hj
          rw [uI_ne (by omega), uI_ne (by omega), uI_ne (by omega)]
          exact hb j p hj
        · have hz := (List.getElem?_eq_some_iff.mp hj).1
          rw [List.length_append, List.length_singleton] at hz
          have e : j = b.length := by omega
          subst e
          rw [List.getElem?_append_right (Nat.le_refl _), Nat.sub_self] at hj
          cases hj
          exact ⟨uI_at, uI_at⟩
    · (repeat ((conv => whnf); first | refine ⟨_, by assumption, ?_⟩ | refine ⟨_, _, by assumption, ?_⟩ | refine ⟨(show _ ∧ _ by omega), ?_⟩ | refine ⟨(show _ ∨ _ by omega), ?_⟩ | refine ⟨fun h => absurd h (by decide), fun _ => ?_⟩ | refine ⟨fun _ => ?_, fun h => absurd h (by decide)⟩ | refine ⟨fun _ => ?_, fun h => absurd rfl h⟩ | refine ⟨fun h => absurd rfl h, fun _ => ?_⟩)); try (conv => whnf)
      exact h2 g1 (by omega)
  · (repeat ((conv => whnf); first | refine ⟨_, by assumption, ?_⟩ | refine ⟨_, _, by assumption, ?_⟩ | refine ⟨(show _ ∧ _ by omega), ?_⟩ | refine ⟨(show _ ∨ _ by omega), ?_⟩ | refine ⟨fun h => absurd h (by decide), fun _ => ?_⟩ | refine ⟨fun _ => ?_, fun h => absurd h (by decide)⟩ | refine ⟨fun _ => ?_, fun h => absurd rfl h⟩ | refine ⟨fun h => absurd rfl h, fun _ => ?_⟩)); try (conv => whnf)
    exact h0 g1
/-- tear() -/
theorem ok_mtear {P : aP} {d : Nat} {K : aK} {I : aI} {R : aR} {S : aS} {b : List (Int × Int)} (hM : MS R S) (hB : BookM I b) (h1 : ∀ I', MF [] [8] I I' → BookM I' [] → K (some (vi (b.length : Int))) I' R S) : Ok P 132 (d + 1) [vr 361] I R S K := by
  obtain ⟨m0, r1, m1, r2, m2, r3, m3, r4, m4, r5, m5, r6, m6, r7, m7, r8, m8, r9, m9, r10, m10, r11, m11, r12, m12, r13, m13, r14, m14, r15, m15⟩ := id hM
  have hk' : I 361 ((8 : Nat) : Int) = b.length := hB.1
  refine Ok.of (by decide) rfl (Nat.le_of_ble_eq_true rfl) ?_
  refine Go.walk 400 [] E132 E132_ok (fun G C hG hC => ?_)
  (repeat ((conv => whnf); first | refine ⟨_, by assumption, ?_⟩ | refine ⟨_, _, by assumption, ?_⟩ | refine ⟨(show _ ∧ _ by omega), ?_⟩ | refine ⟨(show _ ∨ _ by omega), ?_⟩ | refine ⟨fun h => absurd h (by decide), fun _ => ?_⟩ | refine ⟨fun _ => ?_, fun h => absurd h (by decide)⟩ | refine ⟨fun _ => ?_, fun h => absurd rfl h⟩ | refine ⟨fun h => absurd rfl h, fun _ => ?_⟩)); try (conv => whnf)
  rw [hk']
  exact h1 _ (MF.rf.putF (by decide)) ⟨uI_at, by simp, fun j p h => by cases h⟩
/-- seed(v) -/
theorem ok_mseed {P : aP} {d : Nat} {K : aK} {I : aI} {R : aR} {S : aS} {v : Int} (hM : MS R S) (hv : iR v) (h0 : v < 0 → K (some (vi (-1000000002))) I R S) (h1 : 0 ≤ v → K (some (vi (I 361 1))) (uI I 361 1 v) R S) : Ok P 133 (d + 1) [vr 361, vi v] I R S K := by
  obtain ⟨m0, r1, m1, r2, m2, r3, m3, r4, m4, r5, m5, r6, m6, r7, m7, r8, m8, r9, m9, r10, m10, r11, m11, r12, m12, r13, m13, r14, m14, r15, m15⟩ := id hM
  refine Ok.of (by decide) rfl (Nat.le_of_ble_eq_true rfl) ?_
  refine Go.walk 400 [] E133 E133_ok (fun G C hG hC => ?_)
  (repeat ((conv => whnf); first | refine ⟨_, by assumption, ?_⟩ | refine ⟨_, _, by assumption, ?_⟩ | refine ⟨(show _ ∧ _ by omega), ?_⟩ | refine ⟨(show _ ∨ _ by omega), ?_⟩ | refine ⟨fun h => absurd h (by decide), fun _ => ?_⟩ | refine ⟨fun _ => ?_, fun h => absurd h (by decide)⟩ | refine ⟨fun _ => ?_, fun h => absurd rfl h⟩ | refine ⟨fun h => absurd rfl h, fun _ => ?_⟩)); try (conv => whnf)
  refine ⟨fun g => ?_, fun g => ?_⟩
  · (repeat ((conv => whnf); first | refine ⟨_, by assumption, ?_⟩ | refine ⟨_, _, by assumption, ?_⟩ | refine ⟨(show _ ∧ _ by omega), ?_⟩ | refine ⟨(show _ ∨ _ by omega), ?_⟩ | refine ⟨fun h => absurd h (by decide), fun _ => ?_⟩ | refine ⟨fun _ => ?_, fun h => absurd h (by decide)⟩ | refine ⟨fun _ => ?_, fun h => absurd rfl h⟩ | refine ⟨fun h => absurd rfl h, fun _ => ?_⟩)); try (conv => whnf)
    exact h1 g
  · (repeat ((conv => whnf); first | refine ⟨_, by assumption, ?_⟩ | refine ⟨_, _, by assumption, ?_⟩ | refine ⟨(show _ ∧ _ by omega), ?_⟩ | refine ⟨(show _ ∨ _ by omega), ?_⟩ | refine ⟨fun h => absurd h (by decide), fun _ => ?_⟩ | refine ⟨fun _ => ?_, fun h => absurd h (by decide)⟩ | refine ⟨fun _ => ?_, fun h => absurd rfl h⟩ | refine ⟨fun h => absurd rfl h, fun _ => ?_⟩)); try (conv => whnf)
    exact h0 (by omega)
end
section
/-! the reference: images, would, at, kindAt -/
def ImgM (I : aI) (i : Int) (o : Option (aN × Int)) : Prop := match o with
  | none => I 365 i = 0
  | some q => I 365 i = 1 ∧ (∀ k : Int, 0 ≤ k → k < 68 → I 364 (69 * i + k) = q.1 k) ∧ I 364 (69 * i + 68) = q.2
/-- keep(i) -/
theorem ok_mkeep {P : aP} {d : Nat} {K : aK} {I : aI} {R : aR} {S : aS} {i : Int} (hM : MS R S) (hi : iR i) (h0 : ¬ (0 ≤ i ∧ i ≤ 1) → K (some (vi (-1000000001))) I R S)
    (h1 : 0 ≤ i ∧ i ≤ 1 → ∀ I', MF [364, 365] [3] I I' → I' 361 3 = 0 → ImgM I' i (some (I 362, I 361 1)) → (∀ j o, 0 ≤ j → j ≤ 1 → j ≠ i → ImgM I j o → ImgM I' j o) → K (some (vi 1)) I' R S) : Ok P 134 (d + 2) [vr 361, vi i] I R S K := by
  obtain ⟨m0, r1, m1, r2, m2, r3, m3, r4, m4, r5, m5, r6, m6, r7, m7, r8, m8, r9, m9, r10, m10, r11, m11, r12, m12, r13, m13, r14, m14, r15, m15⟩ := id hM
  have loop : 0 ≤ i ∧ i ≤ 1 → ∀ (m : Nat) (k : Int) (I' : aI), 0 ≤ k → 68 - k = m → MF [364, 365] [3] I I' → (∀ x : Int, 0 ≤ x → x < k → I' 364 (69 * i + x) = I 362 x) → (∀ x : Int, (x < 69 * i ∨ 69 * i + 69 ≤ x) → I' 364 x = I 364 x) → I' 365 = I 365 → Go P 134 (d + 2) K 14 [vr 361, vi i, vi k] [] I' R S := by
    intro hi1 m
    induction m with
    | zero =>
      intro k I' g0 gm hF hx hy hz
      have es : I' 361 ((1 : Nat) : Int) = I 361 1 := hF.2 1 (by decide)
      refine Go.walk 400 [14] E134 E134_ok (fun G C hG hC => ?_)
      (repeat ((conv => whnf); first | refine ⟨_, by assumption, ?_⟩ | refine ⟨_, _, by assumption, ?_⟩ | refine ⟨(show _ ∧ _ by omega), ?_⟩ | refine ⟨(show _ ∨ _ by omega), ?_⟩ | refine ⟨fun h => absurd h (by decide), fun _ => ?_⟩ | refine ⟨fun _ => ?_, fun h => absurd h (by decide)⟩ | refine ⟨fun _ => ?_, fun h => absurd rfl h⟩ | refine ⟨fun h => absurd rfl h, fun _ => ?_⟩)); try (conv => whnf)
      refine ⟨fun _ => ?_, fun q => absurd (show (68 : Int) ≤ k by omega) q⟩
      (repeat ((conv => whnf); first | refine ⟨_, by assumption, ?_⟩ | refine ⟨_, _, by assumption, ?_⟩ | refine ⟨(show _ ∧ _ by omega), ?_⟩ | refine ⟨(show _ ∨ _ by omega), ?_⟩ | refine ⟨fun h => absurd h (by decide), fun _ => ?_⟩ | refine ⟨fun _ => ?_, fun h => absurd h (by decide)⟩ | refine ⟨fun _ => ?_, fun h => absurd rfl h⟩ | refine ⟨fun h => absurd rfl h, fun _ => ?_⟩)); try (conv => whnf)
      refine h1 hi1 (uI (uI (uI I' 364 (69 * i + 68) (I' 361 1)) 365 i 1) 361 3 0) (((hF.put (by decide) (by decide)).put (by decide) (by decide)).putF (by decide)) uI_at ?_ ?_
      · refine ⟨?_, fun x a b => ?_, ?_⟩
        · rw [uI_ne (by omega), uI_at]
        · rw [uI_ne (by omega), uI_ne (by omega), uI_ne (by omega)]; exact hx x a (by omega)
        · rw [uI_ne (by omega), uI_ne (by omega), uI_at]; exact es
      · intro j o a b c ho
        have c5 : ∀ z : Int, z ≠ i → uI (uI (uI I' 364 (69 * i + 68) (I' 361 1)) 365 i 1) 361 3 0 365 z = I 365 z := fun z hz2 => by rw [uI_ne (by omega), uI_ne (by omega), uI_ne (by omega), hz]
        have c4 : ∀ z : Int, (z < 69 * i ∨ 69 * i + 69 ≤ z) → uI (uI (uI I' 364 (69 * i + 68) (I' 361 1)) 365 i 1) 361 3 0 364 z = I 364 z := fun z hz2 => by rw [uI_ne (by omega), uI_ne (by omega), uI_ne (by omega)]; exact hy z hz2
        cases o with
        | none =>
          show uI _ 361 3 0 365 j = 0
          rw [c5 j c]; exact ho
        | some q =>
          obtain ⟨o1, o2, o3⟩ := ho
          refine ⟨by rw [c5 j c]; exact o1, fun x a2 b2 => ?_, ?_⟩
          · rw [c4 _ (by omega)]; exact o2 x a2 b2
          · rw [c4 _ (by omega)]; exact o3
    | succ m ih =>
      intro k I' g0 gm hF hx hy hz
      have e := hF.1 362 (by decide)
      refine Go.walk 400 [14] E134 E134_ok (fun G C hG hC => ?_)
      (repeat ((conv => whnf); first | refine ⟨_, by assumption, ?_⟩ | refine ⟨_, _, by assumption, ?_⟩ | refine ⟨(show _ ∧ _ by omega), ?_⟩ | refine ⟨(show _ ∨ _ by omega), ?_⟩ | refine ⟨fun h => absurd h (by decide), fun _ => ?_⟩ | refine ⟨fun _ => ?_, fun h => absurd h (by decide)⟩ | refine ⟨fun _ => ?_, fun h => absurd rfl h⟩ | refine ⟨fun h => absurd rfl h, fun _ => ?_⟩)); try (conv => whnf)
      refine ⟨fun q => absurd q (by omega), fun _ => ?_⟩
      (repeat ((conv => whnf); first | refine ⟨_, by assumption, ?_⟩ | refine ⟨_, _, by assumption, ?_⟩ | refine ⟨(show _ ∧ _ by omega), ?_⟩ | refine ⟨(show _ ∨ _ by omega), ?_⟩ | refine ⟨fun h => absurd h (by decide), fun _ => ?_⟩ | refine ⟨fun _ => ?_, fun h => absurd h (by decide)⟩ | refine ⟨fun _ => ?_, fun h => absurd rfl h⟩ | refine ⟨fun h => absurd rfl h, fun _ => ?_⟩)); try (conv => whnf)
      refine hG _ _ _ _ _ _ ?_
      rw [e]
      refine ih (k + 1) _ (by omega) (by omega) (hF.put (by decide) (by decide)) (fun x a b => ?_) (fun x a => ?_) (by funext x; rw [uI_ne (by omega), hz])
      · by_cases q : x = k
        · subst q; exact uI_at
        · rw [uI_ne (by omega)]; exact hx x a (by omega)
      · rw [uI_ne (by omega)]; exact hy x a
  refine Ok.of (by decide) rfl (Nat.le_of_ble_eq_true rfl) ?_
  refine Go.walk 400 [14] E134 E134_ok (fun G C hG hC => ?_)
  (repeat ((conv => whnf); first | refine ⟨_, by assumption, ?_⟩ | refine ⟨_, _, by assumption, ?_⟩ | refine ⟨(show _ ∧ _ by omega), ?_⟩ | refine ⟨(show _ ∨ _ by omega), ?_⟩ | refine ⟨fun h => absurd h (by decide), fun _ => ?_⟩ | refine ⟨fun _ => ?_, fun h => absurd h (by decide)⟩ | refine ⟨fun _ => ?_, fun h => absurd rfl h⟩ | refine ⟨fun h => absurd rfl h, fun _ => ?_⟩)); try (conv => whnf)
  refine hC _ _ _ _ _ _ ?_
  refine ok_in hi (by omega) (by omega) (fun g1 => ?_) (fun g1 => ?_)
  · (repeat ((conv => whnf); first | refine ⟨_, by assumption, ?_⟩ | refine ⟨_, _, by assumption, ?_⟩ | refine ⟨(show _ ∧ _ by omega), ?_⟩ | refine ⟨(show _ ∨ _ by omega), ?_⟩ | refine ⟨fun h => absurd h (by decide), fun _ => ?_⟩ | refine ⟨fun _ => ?_, fun h => absurd h (by decide)⟩ | refine ⟨fun _ => ?_, fun h => absurd rfl h⟩ | refine ⟨fun h => absurd rfl h, fun _ => ?_⟩)); try (conv => whnf)
    refine hG _ _ _ _ _ _ ?_
    exact loop g1 68 0 I (by omega) (by omega) MF.rf (fun x a b => absurd b (by omega)) (fun _ _ => rfl) rfl
  · (repeat ((conv => whnf); first | refine ⟨_, by assumption, ?_⟩ | refine ⟨_, _, by assumption, ?_⟩ | refine ⟨(show _ ∧ _ by omega), ?_⟩ | refine ⟨(show _ ∨ _ by omega), ?_⟩ | refine ⟨fun h => absurd h (by decide), fun _ => ?_⟩ | refine ⟨fun _ => ?_, fun h => absurd h (by decide)⟩ | refine ⟨fun _ => ?_, fun h => absurd rfl h⟩ | refine ⟨fun h => absurd rfl h, fun _ => ?_⟩)); try (conv => whnf)
    exact h0 g1
/-- goBack(i) -/
theorem ok_mgoBack {P : aP} {d : Nat} {K : aK} {I : aI} {R : aR} {S : aS} {i : Int} {o : Option (aN × Int)} (hM : MS R S) (hi : iR i) (hI : 0 ≤ i ∧ i ≤ 1 → ImgM I i o) (h0 : ¬ (0 ≤ i ∧ i ≤ 1) → K (some (vi (-1000000001))) I R S) (h2 : 0 ≤ i ∧ i ≤ 1 → o = none → K (some (vi (-1000000003))) I R S)
    (h1 : 0 ≤ i ∧ i ≤ 1 → ∀ q I', o = some q → MF [362] [1, 3] I I' → I' 361 3 = 0 → I' 361 1 = q.2 → (∀ k : Int, 0 ≤ k → k < 68 → I' 362 k = q.1 k) → K (some (vi 1)) I' R S) : Ok P 135 (d + 2) [vr 361, vi i] I R S K := by
  obtain ⟨m0, r1, m1, r2, m2, r3, m3, r4, m4, r5, m5, r6, m6, r7, m7, r8, m8, r9, m9, r10, m10, r11, m11, r12, m12, r13, m13, r14, m14, r15, m15⟩ := id hM
  have loop : 0 ≤ i ∧ i ≤ 1 → ∀ q, o = some q → ∀ (m : Nat) (k : Int) (I' : aI), 0 ≤ k → 68 - k = m → MF [362] [1, 3] I I' → (∀ x : Int, 0 ≤ x → x < k → I' 362 x = q.1 x) → Go P 135 (d + 2) K 26 [vr 361, vi i, vi k] [] I' R S := by
    intro hi1 q hq m
    have hIm := hI hi1
    rw [hq] at hIm
    obtain ⟨o1, o2, o3⟩ := hIm
    induction m with
    | zero =>
      intro k I' g0 gm hF hx
      have e4 := hF.1 364 (by decide)
      refine Go.walk 400 [26] E135 E135_ok (fun G C hG hC => ?_)
      (repeat ((conv => whnf); first | refine ⟨_, by assumption, ?_⟩ | refine ⟨_, _, by assumption, ?_⟩ | refine ⟨(show _ ∧ _ by omega), ?_⟩ | refine ⟨(show _ ∨ _ by omega), ?_⟩ | refine ⟨fun h => absurd h (by decide), fun _ => ?_⟩ | refine ⟨fun _ => ?_, fun h => absurd h (by decide)⟩ | refine ⟨fun _ => ?_, fun h => absurd rfl h⟩ | refine ⟨fun h => absurd rfl h, fun _ => ?_⟩)); try (conv => whnf)
      refine ⟨fun _ => ?_, fun z => absurd (show (68 : Int) ≤ k by omega) z⟩
      (repeat ((conv => whnf); first | refine ⟨_, by assumption, ?_⟩ | refine ⟨_, _, by assumption, ?_⟩ | refine ⟨(show _ ∧ _ by omega), ?_⟩ | refine ⟨(show _ ∨ _ by omega), ?_⟩ | refine ⟨fun h => absurd h (by decide), fun _ => ?_⟩ | refine ⟨fun _ => ?_, fun h => absurd h (by decide)⟩ | refine ⟨fun _ => ?_, fun h => absurd rfl h⟩ | refine ⟨fun h => absurd rfl h, fun _ => ?_⟩)); try (conv => whnf)
      rw [e4, o3]
      refine h1 hi1 q _ hq ((hF.putF (j := 1) (by decide)).putF (j := 3) (by decide)) uI_at ?_ (fun x a b => ?_)
      · rw [uI_ne (by omega)]; exact uI_at
      · rw [uI_ne (by omega), uI_ne (by omega)]; exact hx x a (by omega)
    | succ m ih =>
      intro k I' g0 gm hF hx
      have e4 := hF.1 364 (by decide)
      refine Go.walk 400 [26] E135 E135_ok (fun G C hG hC => ?_)
      (repeat ((conv => whnf); first | refine ⟨_, by assumption, ?_⟩ | refine ⟨_, _, by assumption, ?_⟩ | refine ⟨(show _ ∧ _ by omega), ?_⟩ | refine ⟨(show _ ∨ _ by omega), ?_⟩ | refine ⟨fun h => absurd h (by decide), fun _ => ?_⟩ | refine ⟨fun _ => ?_, fun h => absurd h (by decide)⟩ | refine ⟨fun _ => ?_, fun h => absurd rfl h⟩ | refine ⟨fun h => absurd rfl h, fun _ => ?_⟩)); try (conv => whnf)
      refine ⟨fun z => absurd z (by omega), fun _ => ?_⟩
      (repeat ((conv => whnf); first | refine ⟨_, by assumption, ?_⟩ | refine ⟨_, _, by assumption, ?_⟩ | refine ⟨(show _ ∧ _ by omega), ?_⟩ | refine ⟨(show _ ∨ _ by omega), ?_⟩ | refine ⟨fun h => absurd h (by decide), fun _ => ?_⟩ | refine ⟨fun _ => ?_, fun h => absurd h (by decide)⟩ | refine ⟨fun _ => ?_, fun h => absurd rfl h⟩ | refine ⟨fun h => absurd rfl h, fun _ => ?_⟩)); try (conv => whnf)
      refine hG _ _ _ _ _ _ ?_
      rw [e4, o2 k g0 (by omega)]
      refine ih (k + 1) _ (by omega) (by omega) (hF.put (by decide) (by decide)) (fun x a b => ?_)
      by_cases z : x = k
      · subst z; exact uI_at
      · rw [uI_ne (by omega)]; exact hx x a (by omega)
  refine Ok.of (by decide) rfl (Nat.le_of_ble_eq_true rfl) ?_
  refine Go.walk 400 [26] E135 E135_ok (fun G C hG hC => ?_)
  (repeat ((conv => whnf); first | refine ⟨_, by assumption, ?_⟩ | refine ⟨_, _, by assumption, ?_⟩ | refine ⟨(show _ ∧ _ by omega), ?_⟩ | refine ⟨(show _ ∨ _ by omega), ?_⟩ | refine ⟨fun h => absurd h (by decide), fun _ => ?_⟩ | refine ⟨fun _ => ?_, fun h => absurd h (by decide)⟩ | refine ⟨fun _ => ?_, fun h => absurd rfl h⟩ | refine ⟨fun h => absurd rfl h, fun _ => ?_⟩)); try (conv => whnf)
  refine hC _ _ _ _ _ _ ?_
  refine ok_in hi (by omega) (by omega) (fun g1 => ?_) (fun g1 => ?_)
  · have hIm := hI g1
    cases o with
    | none =>
      have hz : I 365 i = 0 := hIm
      (repeat ((conv => whnf); first | refine ⟨_, by assumption, ?_⟩ | refine ⟨_, _, by assumption, ?_⟩ | refine ⟨(show _ ∧ _ by omega), ?_⟩ | refine ⟨(show _ ∨ _ by omega), ?_⟩ | refine ⟨fun h => absurd h (by decide), fun _ => ?_⟩ | refine ⟨fun _ => ?_, fun h => absurd h (by decide)⟩ | refine ⟨fun _ => ?_, fun h => absurd rfl h⟩ | refine ⟨fun h => absurd rfl h, fun _ => ?_⟩)); try (conv => whnf)
      refine ⟨fun z => absurd hz z, fun _ => ?_⟩
      (repeat ((conv => whnf); first | refine ⟨_, by assumption, ?_⟩ | refine ⟨_, _, by assumption, ?_⟩ | refine ⟨(show _ ∧ _ by omega), ?_⟩ | refine ⟨(show _ ∨ _ by omega), ?_⟩ | refine ⟨fun h => absurd h (by decide), fun _ => ?_⟩ | refine ⟨fun _ => ?_, fun h => absurd h (by decide)⟩ | refine ⟨fun _ => ?_, fun h => absurd rfl h⟩ | refine ⟨fun h => absurd rfl h, fun _ => ?_⟩)); try (conv => whnf)
      exact h2 g1 rfl
    | some q =>
      have hz : I 365 i = 1 := hIm.1
      (repeat ((conv => whnf); first | refine ⟨_, by assumption, ?_⟩ | refine ⟨_, _, by assumption, ?_⟩ | refine ⟨(show _ ∧ _ by omega), ?_⟩ | refine ⟨(show _ ∨ _ by omega), ?_⟩ | refine ⟨fun h => absurd h (by decide), fun _ => ?_⟩ | refine ⟨fun _ => ?_, fun h => absurd h (by decide)⟩ | refine ⟨fun _ => ?_, fun h => absurd rfl h⟩ | refine ⟨fun h => absurd rfl h, fun _ => ?_⟩)); try (conv => whnf)
      refine ⟨fun _ => ?_, fun z => absurd z (by omega)⟩
      (repeat ((conv => whnf); first | refine ⟨_, by assumption, ?_⟩ | refine ⟨_, _, by assumption, ?_⟩ | refine ⟨(show _ ∧ _ by omega), ?_⟩ | refine ⟨(show _ ∨ _ by omega), ?_⟩ | refine ⟨fun h => absurd h (by decide), fun _ => ?_⟩ | refine ⟨fun _ => ?_, fun h => absurd h (by decide)⟩ | refine ⟨fun _ => ?_, fun h => absurd rfl h⟩ | refine ⟨fun h => absurd rfl h, fun _ => ?_⟩)); try (conv => whnf)
      refine hG _ _ _ _ _ _ ?_
      exact loop g1 q rfl 68 0 I (by omega) (by omega) MF.rf (fun x a b => absurd b (by omega))
  · (repeat ((conv => whnf); first | refine ⟨_, by assumption, ?_⟩ | refine ⟨_, _, by assumption, ?_⟩ | refine ⟨(show _ ∧ _ by omega), ?_⟩ | refine ⟨(show _ ∨ _ by omega), ?_⟩ | refine ⟨fun h => absurd h (by decide), fun _ => ?_⟩ | refine ⟨fun _ => ?_, fun h => absurd h (by decide)⟩ | refine ⟨fun _ => ?_, fun h => absurd rfl h⟩ | refine ⟨fun h => absurd rfl h, fun _ => ?_⟩)); try (conv => whnf)
    exact h0 g1
/-- what asks change of the reference's cells -/
abbrev QF (I I' : aI) : Prop := MF [368, 369, 370, 371, 372, 373, 374, 375, 376] [18, 19] I I'
theorem QF.fr {I I' : aI} {L : List Nat} (h : Fr L I I') (h1 : 361 ∉ L) (h2 : ∀ a, a ∈ L → a ∈ [368, 369, 370, 371, 372, 373, 374, 375, 376]) : QF I I' := (MF.of (J := []) h h1).trans (MF.rf (L := []) (J := [])) (fun a ha => by rcases ha with ha | ha; exact h2 a ha; cases ha) (by simp)
theorem QF.mf {I I' : aI} (h : MF [368, 369, 370, 371, 372, 373, 374, 375, 376] [18] I I') : QF I I' := h.trans (MF.rf (L := []) (J := [])) (by simp) (by simp <;> omega)
def setP (pl : Int → Int) (v k : Int) : Int → Int := fun x => if x = v then k else pl x
def wouldF (n : aN) (v k : Int) : Int := if ¬ ((0 ≤ v ∧ v < n 0) ∧ (k = 0 ∨ isKb n k = true)) then -1000000001 else if v = 0 then -1000000003 else sla n (setP (pl0 n) v k) (wd0 n) + 1000000
theorem setP_ok {n : aN} (hW : WF n) {v k : Int} (hv : v ≠ 0) (hk : k = 0 ∨ isKb n k = true) : PlOk n (setP (pl0 n) v k) := by
  have h := pl0_ok hW
  have hk3 : 0 ≤ k ∧ k ≤ 3 := by
    rcases hk with rfl | hk
    · omega
    · have := isKb_iff.mp hk
      exact ⟨by have := this.1; omega, this.2.1⟩
  refine ⟨fun x h0 h1 => ?_, ?_⟩
  · unfold setP
    split
    · exact hk3
    · exact h.1 x h0 h1
  · unfold setP
    rw [if_neg (fun e => hv e.symm)]
    exact h.2
/-- would(v, k) -/
theorem ok_mwould {P : aP} {d : Nat} {K : aK} {I : aI} {R : aR} {S : aS} {v k : Int} (hM : MS R S) (hW : WF (I 362)) (hv : iR v) (hk : iR k) (hK : ∀ I', QF I I' → K (some (vi (wouldF (I 362) v k))) I' R S) : Ok P 115 (d + 6) [vr 361, vi v, vi k] I R S K := by
  obtain ⟨m0, r1, m1, r2, m2, r3, m3, r4, m4, r5, m5, r6, m6, r7, m7, r8, m8, r9, m9, r10, m10, r11, m11, r12, m12, r13, m13, r14, m14, r15, m15⟩ := id hM
  have hN := hW.1
  refine Ok.of (by decide) rfl (Nat.le_of_ble_eq_true rfl) ?_
  refine Go.walk 400 [] E115 E115_ok (fun G C hG hC => ?_)
  (repeat ((conv => whnf); first | refine ⟨_, by assumption, ?_⟩ | refine ⟨_, _, by assumption, ?_⟩ | refine ⟨(show _ ∧ _ by omega), ?_⟩ | refine ⟨(show _ ∨ _ by omega), ?_⟩ | refine ⟨fun h => absurd h (by decide), fun _ => ?_⟩ | refine ⟨fun _ => ?_, fun h => absurd h (by decide)⟩ | refine ⟨fun _ => ?_, fun h => absurd rfl h⟩ | refine ⟨fun h => absurd rfl h, fun _ => ?_⟩)); try (conv => whnf)
  refine hC _ _ _ _ _ _ ?_
  refine ok_isPlaceable hM hW hv hk (fun h1 => ?_) (fun h1 => ?_)
  · rw [← isKb_iff] at h1
    (repeat ((conv => whnf); first | refine ⟨_, by assumption, ?_⟩ | refine ⟨_, _, by assumption, ?_⟩ | refine ⟨(show _ ∧ _ by omega), ?_⟩ | refine ⟨(show _ ∨ _ by omega), ?_⟩ | refine ⟨fun h => absurd h (by decide), fun _ => ?_⟩ | refine ⟨fun _ => ?_, fun h => absurd h (by decide)⟩ | refine ⟨fun _ => ?_, fun h => absurd rfl h⟩ | refine ⟨fun h => absurd rfl h, fun _ => ?_⟩)); try (conv => whnf)
    refine ⟨fun h2 => ?_, fun h2 => ?_⟩
    · have hsp := setP_ok hW (v := v) (k := k) h2 h1.2
      (repeat ((conv => whnf); first | refine ⟨_, by assumption, ?_⟩ | refine ⟨_, _, by assumption, ?_⟩ | refine ⟨(show _ ∧ _ by omega), ?_⟩ | refine ⟨(show _ ∨ _ by omega), ?_⟩ | refine ⟨fun h => absurd h (by decide), fun _ => ?_⟩ | refine ⟨fun _ => ?_, fun h => absurd h (by decide)⟩ | refine ⟨fun _ => ?_, fun h => absurd rfl h⟩ | refine ⟨fun h => absurd rfl h, fun _ => ?_⟩)); try (conv => whnf)
      refine hC _ _ _ _ _ _ ?_
      refine ok_asPlaced hM hW (fun I1 hF1 g1 => ?_)
      have e := hF1 362 (by decide)
      have e2 : uI I1 368 v k 362 = I 362 := by funext x; rw [uI_ne (by omega), e]
      (repeat ((conv => whnf); first | refine ⟨_, by assumption, ?_⟩ | refine ⟨_, _, by assumption, ?_⟩ | refine ⟨(show _ ∧ _ by omega), ?_⟩ | refine ⟨(show _ ∨ _ by omega), ?_⟩ | refine ⟨fun h => absurd h (by decide), fun _ => ?_⟩ | refine ⟨fun _ => ?_, fun h => absurd h (by decide)⟩ | refine ⟨fun _ => ?_, fun h => absurd rfl h⟩ | refine ⟨fun h => absurd rfl h, fun _ => ?_⟩)); try (conv => whnf)
      refine hC _ _ _ _ _ _ ?_
      refine ok_runsAll2 (pl := setP (pl0 (I 362)) v k) (wd := wd0 (I 362)) hM (by rw [e2]; exact hW) (by rw [e2]; exact hsp) (by rw [e2]; exact wd0_ok hW) (fun x a b => ?_) (fun x a b => ?_) (fun I3 hF3 g3 => ?_)
      · rw [e2] at b
        unfold setP
        by_cases q : x = v
        · subst q; rw [uI_at, if_pos rfl]
        · rw [uI_ne (by omega), if_neg q]; exact (g1 x a b).1
      · rw [e2] at b
        rw [uI_ne (by omega)]; exact (g1 x (by omega) b).2
      rw [e2] at g3
      have e3 : I3 362 = I 362 := by rw [hF3 362 (by decide), e2]
      (repeat ((conv => whnf); first | refine ⟨_, by assumption, ?_⟩ | refine ⟨_, _, by assumption, ?_⟩ | refine ⟨(show _ ∧ _ by omega), ?_⟩ | refine ⟨(show _ ∨ _ by omega), ?_⟩ | refine ⟨fun h => absurd h (by decide), fun _ => ?_⟩ | refine ⟨fun _ => ?_, fun h => absurd h (by decide)⟩ | refine ⟨fun _ => ?_, fun h => absurd rfl h⟩ | refine ⟨fun h => absurd rfl h, fun _ => ?_⟩)); try (conv => whnf)
      refine hC _ _ _ _ _ _ ?_
      refine ok_slack0 hM e3 hW hsp (wd0_ok hW) g3 ?_
      (repeat ((conv => whnf); first | refine ⟨_, by assumption, ?_⟩ | refine ⟨_, _, by assumption, ?_⟩ | refine ⟨(show _ ∧ _ by omega), ?_⟩ | refine ⟨(show _ ∨ _ by omega), ?_⟩ | refine ⟨fun h => absurd h (by decide), fun _ => ?_⟩ | refine ⟨fun _ => ?_, fun h => absurd h (by decide)⟩ | refine ⟨fun _ => ?_, fun h => absurd rfl h⟩ | refine ⟨fun h => absurd rfl h, fun _ => ?_⟩)); try (conv => whnf)
      have := hK I3 (((QF.fr hF1 (by decide) (by simp <;> omega)).put (a := 368) (j := v) (z := k) (by decide) (by decide)).trans (QF.fr hF3 (by decide) (by simp <;> omega)) (by simp <;> omega) (by simp <;> omega))
      rw [wouldF, if_neg (fun q => q h1), if_neg h2] at this
      exact this
    · (repeat ((conv => whnf); first | refine ⟨_, by assumption, ?_⟩ | refine ⟨_, _, by assumption, ?_⟩ | refine ⟨(show _ ∧ _ by omega), ?_⟩ | refine ⟨(show _ ∨ _ by omega), ?_⟩ | refine ⟨fun h => absurd h (by decide), fun _ => ?_⟩ | refine ⟨fun _ => ?_, fun h => absurd h (by decide)⟩ | refine ⟨fun _ => ?_, fun h => absurd rfl h⟩ | refine ⟨fun h => absurd rfl h, fun _ => ?_⟩)); try (conv => whnf)
      have := hK I MF.rf
      rw [wouldF, if_neg (fun q => q h1), if_pos h2] at this
      exact this
  · rw [← isKb_iff] at h1
    (repeat ((conv => whnf); first | refine ⟨_, by assumption, ?_⟩ | refine ⟨_, _, by assumption, ?_⟩ | refine ⟨(show _ ∧ _ by omega), ?_⟩ | refine ⟨(show _ ∨ _ by omega), ?_⟩ | refine ⟨fun h => absurd h (by decide), fun _ => ?_⟩ | refine ⟨fun _ => ?_, fun h => absurd h (by decide)⟩ | refine ⟨fun _ => ?_, fun h => absurd rfl h⟩ | refine ⟨fun h => absurd rfl h, fun _ => ?_⟩)); try (conv => whnf)
    have := hK I MF.rf
    rw [wouldF, if_pos h1] at this
    exact this
def kindAtF (n : aN) (k w : Int) : Int := if ¬ isKb n k = true then -1000000001 else if 0 ≤ w ∧ w ≤ 4 then kf n k (1 + w) else -1000000002
/-- kindAt(k, what) -/
theorem ok_mkindAt {P : aP} {d : Nat} {K : aK} {I : aI} {R : aR} {S : aS} {k w : Int} (hM : MS R S) (hW : WF (I 362)) (hk : iR k) (hw : iR w) (hK : K (some (vi (kindAtF (I 362) k w))) I R S) : Ok P 108 (d + 3) [vr 361, vi k, vi w] I R S K := by
  obtain ⟨m0, r1, m1, r2, m2, r3, m3, r4, m4, r5, m5, r6, m6, r7, m7, r8, m8, r9, m9, r10, m10, r11, m11, r12, m12, r13, m13, r14, m14, r15, m15⟩ := id hM
  unfold kindAtF at hK
  refine Ok.of (by decide) rfl (Nat.le_of_ble_eq_true rfl) ?_
  refine Go.walk 400 [] E108 E108_ok (fun G C hG hC => ?_)
  (repeat ((conv => whnf); first | refine ⟨_, by assumption, ?_⟩ | refine ⟨_, _, by assumption, ?_⟩ | refine ⟨(show _ ∧ _ by omega), ?_⟩ | refine ⟨(show _ ∨ _ by omega), ?_⟩ | refine ⟨fun h => absurd h (by decide), fun _ => ?_⟩ | refine ⟨fun _ => ?_, fun h => absurd h (by decide)⟩ | refine ⟨fun _ => ?_, fun h => absurd rfl h⟩ | refine ⟨fun h => absurd rfl h, fun _ => ?_⟩)); try (conv => whnf)
  refine hC _ _ _ _ _ _ ?_
  refine ok_isKind hM hk hW (fun h1 => ?_) (fun h1 => ?_)
  · have hb := isKb_iff.mpr h1
    rw [if_neg (fun q => q hb)] at hK
    obtain ⟨k1, k2, k3⟩ := h1
    (repeat ((conv => whnf); first | refine ⟨_, by assumption, ?_⟩ | refine ⟨_, _, by assumption, ?_⟩ | refine ⟨(show _ ∧ _ by omega), ?_⟩ | refine ⟨(show _ ∨ _ by omega), ?_⟩ | refine ⟨fun h => absurd h (by decide), fun _ => ?_⟩ | refine ⟨fun _ => ?_, fun h => absurd h (by decide)⟩ | refine ⟨fun _ => ?_, fun h => absurd rfl h⟩ | refine ⟨fun h => absurd rfl h, fun _ => ?_⟩)); try (conv => whnf)
    refine hC _ _ _ _ _ _ ?_
    refine ok_in hw (by omega) (by omega) (fun h2 => ?_) (fun h2 => ?_)
    · rw [if_pos h2] at hK
      (repeat ((conv => whnf); first | refine ⟨_, by assumption, ?_⟩ | refine ⟨_, _, by assumption, ?_⟩ | refine ⟨(show _ ∧ _ by omega), ?_⟩ | refine ⟨(show _ ∨ _ by omega), ?_⟩ | refine ⟨fun h => absurd h (by decide), fun _ => ?_⟩ | refine ⟨fun _ => ?_, fun h => absurd h (by decide)⟩ | refine ⟨fun _ => ?_, fun h => absurd rfl h⟩ | refine ⟨fun h => absurd rfl h, fun _ => ?_⟩)); try (conv => whnf)
      refine hC _ _ _ _ _ _ ?_
      refine ok_ofKind hM (by omega) ?_
      (repeat ((conv => whnf); first | refine ⟨_, by assumption, ?_⟩ | refine ⟨_, _, by assumption, ?_⟩ | refine ⟨(show _ ∧ _ by omega), ?_⟩ | refine ⟨(show _ ∨ _ by omega), ?_⟩ | refine ⟨fun h => absurd h (by decide), fun _ => ?_⟩ | refine ⟨fun _ => ?_, fun h => absurd h (by decide)⟩ | refine ⟨fun _ => ?_, fun h => absurd rfl h⟩ | refine ⟨fun h => absurd rfl h, fun _ => ?_⟩)); try (conv => whnf)
      exact hK
    · rw [if_neg h2] at hK
      (repeat ((conv => whnf); first | refine ⟨_, by assumption, ?_⟩ | refine ⟨_, _, by assumption, ?_⟩ | refine ⟨(show _ ∧ _ by omega), ?_⟩ | refine ⟨(show _ ∨ _ by omega), ?_⟩ | refine ⟨fun h => absurd h (by decide), fun _ => ?_⟩ | refine ⟨fun _ => ?_, fun h => absurd h (by decide)⟩ | refine ⟨fun _ => ?_, fun h => absurd rfl h⟩ | refine ⟨fun h => absurd rfl h, fun _ => ?_⟩)); try (conv => whnf)
      exact hK
  · rw [if_pos (fun q => h1 (isKb_iff.mp q))] at hK
    (repeat ((conv => whnf); first | refine ⟨_, by assumption, ?_⟩ | refine ⟨_, _, by assumption, ?_⟩ | refine ⟨(show _ ∧ _ by omega), ?_⟩ | refine ⟨(show _ ∨ _ by omega), ?_⟩ | refine ⟨fun h => absurd h (by decide), fun _ => ?_⟩ | refine ⟨fun _ => ?_, fun h => absurd h (by decide)⟩ | refine ⟨fun _ => ?_, fun h => absurd rfl h⟩ | refine ⟨fun h => absurd rfl h, fun _ => ?_⟩)); try (conv => whnf)
    exact hK
end
section
/-! the reference: at, candidates, candidate, point, best, least -/
def atF (n : aN) (v w : Int) : Int := if ¬ (0 ≤ v ∧ v < n 0) then -1000000001 else if ¬ (0 ≤ w ∧ w ≤ 12) then -1000000002 else if w < 4 then (if v = 0 then -1 else nf n v w) else if w < 7 then (if mEnd n v = true then nf n v w else -1) else if w = 7 then nf n v 7 else if w = 8 then bea n (pl0 n) (wd0 n) v else if w = 9 then sho n (pl0 n) (wd0 n) v else if w = 10 then tim n (pl0 n) (wd0 n) 0 (src n (pl0 n) (wd0 n)) v else if w = 11 then (if mEnd n v = true then nf n v 5 - tim n (pl0 n) (wd0 n) 0 (src n (pl0 n) (wd0 n)) v + 1000000 else -1) else tur n (pl0 n) 0 0 v
theorem QF.fr6 {I I' : aI} (h : Fr [368, 369, 370, 371, 372, 373] I I') : QF I I' := QF.fr h (by decide) (by simp <;> omega)
/-- at(v, what) -/
theorem ok_mat {P : aP} {d : Nat} {K : aK} {I : aI} {R : aR} {S : aS} {v w : Int} (hM : MS R S) (hW : WF (I 362)) (hv : iR v) (hw : iR w) (hK : ∀ I', QF I I' → K (some (vi (atF (I 362) v w))) I' R S) : Ok P 107 (d + 7) [vr 361, vi v, vi w] I R S K := by
  obtain ⟨m0, r1, m1, r2, m2, r3, m3, r4, m4, r5, m5, r6, m6, r7, m7, r8, m8, r9, m9, r10, m10, r11, m11, r12, m12, r13, m13, r14, m14, r15, m15⟩ := id hM
  have hN := hW.1
  refine Ok.of (by decide) rfl (Nat.le_of_ble_eq_true rfl) ?_
  refine Go.walk 400 [] E107 E107_ok (fun G C hG hC => ?_)
  (repeat ((conv => whnf); first | refine ⟨_, by assumption, ?_⟩ | refine ⟨_, _, by assumption, ?_⟩ | refine ⟨(show _ ∧ _ by omega), ?_⟩ | refine ⟨(show _ ∨ _ by omega), ?_⟩ | refine ⟨fun h => absurd h (by decide), fun _ => ?_⟩ | refine ⟨fun _ => ?_, fun h => absurd h (by decide)⟩ | refine ⟨fun _ => ?_, fun h => absurd rfl h⟩ | refine ⟨fun h => absurd rfl h, fun _ => ?_⟩)); try (conv => whnf)
  refine hC _ _ _ _ _ _ ?_
  refine ok_isNode hM hv hW (fun h1 => ?_) (fun h1 => ?_)
  · (repeat ((conv => whnf); first | refine ⟨_, by assumption, ?_⟩ | refine ⟨_, _, by assumption, ?_⟩ | refine ⟨(show _ ∧ _ by omega), ?_⟩ | refine ⟨(show _ ∨ _ by omega), ?_⟩ | refine ⟨fun h => absurd h (by decide), fun _ => ?_⟩ | refine ⟨fun _ => ?_, fun h => absurd h (by decide)⟩ | refine ⟨fun _ => ?_, fun h => absurd rfl h⟩ | refine ⟨fun h => absurd rfl h, fun _ => ?_⟩)); try (conv => whnf)
    refine hC _ _ _ _ _ _ ?_
    refine ok_in hw (by omega) (by omega) (fun h2 => ?_) (fun h2 => ?_)
    · (repeat ((conv => whnf); first | refine ⟨_, by assumption, ?_⟩ | refine ⟨_, _, by assumption, ?_⟩ | refine ⟨(show _ ∧ _ by omega), ?_⟩ | refine ⟨(show _ ∨ _ by omega), ?_⟩ | refine ⟨fun h => absurd h (by decide), fun _ => ?_⟩ | refine ⟨fun _ => ?_, fun h => absurd h (by decide)⟩ | refine ⟨fun _ => ?_, fun h => absurd rfl h⟩ | refine ⟨fun h => absurd rfl h, fun _ => ?_⟩)); try (conv => whnf)
      refine ⟨fun h3 => ?_, fun h3 => ?_⟩
      · have hw4 : ¬ w < 4 := by omega
        (repeat ((conv => whnf); first | refine ⟨_, by assumption, ?_⟩ | refine ⟨_, _, by assumption, ?_⟩ | refine ⟨(show _ ∧ _ by omega), ?_⟩ | refine ⟨(show _ ∨ _ by omega), ?_⟩ | refine ⟨fun h => absurd h (by decide), fun _ => ?_⟩ | refine ⟨fun _ => ?_, fun h => absurd h (by decide)⟩ | refine ⟨fun _ => ?_, fun h => absurd rfl h⟩ | refine ⟨fun h => absurd rfl h, fun _ => ?_⟩)); try (conv => whnf)
        refine ⟨fun h4 => ?_, fun h4 => ?_⟩
        · have hw7 : ¬ w < 7 := by omega
          (repeat ((conv => whnf); first | refine ⟨_, by assumption, ?_⟩ | refine ⟨_, _, by assumption, ?_⟩ | refine ⟨(show _ ∧ _ by omega), ?_⟩ | refine ⟨(show _ ∨ _ by omega), ?_⟩ | refine ⟨fun h => absurd h (by decide), fun _ => ?_⟩ | refine ⟨fun _ => ?_, fun h => absurd h (by decide)⟩ | refine ⟨fun _ => ?_, fun h => absurd rfl h⟩ | refine ⟨fun h => absurd rfl h, fun _ => ?_⟩)); try (conv => whnf)
          refine hC _ _ _ _ _ _ ?_
          refine ok_slackNow hM hW (fun I1 hF1 ha => ?_)
          have e := hF1 362 (by decide)
          have hK1 := hK I1 (QF.fr6 hF1)
          unfold atF at hK1
          rw [if_neg (fun q => q h1), if_neg (fun q => q h2), if_neg hw4, if_neg hw7] at hK1
          obtain ⟨a1, a2, a3, a4⟩ := ha v h1.1 h1.2
          have ht := tim_bd hW (Int.le_refl 0) (src_bd hW (pl0_ok hW) (wd0_ok hW)) (pl0_ok hW).1 (pl0_ok hW).2 (wd0_ok hW) h1.1 h1.2 (bel0 hW h1.1 (by omega))
          have hn5 := hW.2.1 v h1.1 (by omega)
          (repeat ((conv => whnf); first | refine ⟨_, by assumption, ?_⟩ | refine ⟨_, _, by assumption, ?_⟩ | refine ⟨(show _ ∧ _ by omega), ?_⟩ | refine ⟨(show _ ∨ _ by omega), ?_⟩ | refine ⟨fun h => absurd h (by decide), fun _ => ?_⟩ | refine ⟨fun _ => ?_, fun h => absurd h (by decide)⟩ | refine ⟨fun _ => ?_, fun h => absurd rfl h⟩ | refine ⟨fun h => absurd rfl h, fun _ => ?_⟩)); try (conv => whnf)
          refine ⟨fun q => ?_, fun q => ?_, fun q => ?_, fun q => ?_, fun q => ?_, fun q => ?_, trivial⟩
          · have q : w < 7 ∨ 7 + (5 : Int) ≤ w := q
            rw [if_neg (by omega), if_neg (by omega), if_neg (by omega), if_neg (by omega), if_neg (by omega)] at hK1
            (repeat ((conv => whnf); first | refine ⟨_, by assumption, ?_⟩ | refine ⟨_, _, by assumption, ?_⟩ | refine ⟨(show _ ∧ _ by omega), ?_⟩ | refine ⟨(show _ ∨ _ by omega), ?_⟩ | refine ⟨fun h => absurd h (by decide), fun _ => ?_⟩ | refine ⟨fun _ => ?_, fun h => absurd h (by decide)⟩ | refine ⟨fun _ => ?_, fun h => absurd rfl h⟩ | refine ⟨fun h => absurd rfl h, fun _ => ?_⟩)); try (conv => whnf)
            rw [a4]
            exact hK1
          · subst q
            rw [if_pos rfl] at hK1
            (repeat ((conv => whnf); first | refine ⟨_, by assumption, ?_⟩ | refine ⟨_, _, by assumption, ?_⟩ | refine ⟨(show _ ∧ _ by omega), ?_⟩ | refine ⟨(show _ ∨ _ by omega), ?_⟩ | refine ⟨fun h => absurd h (by decide), fun _ => ?_⟩ | refine ⟨fun _ => ?_, fun h => absurd h (by decide)⟩ | refine ⟨fun _ => ?_, fun h => absurd rfl h⟩ | refine ⟨fun h => absurd rfl h, fun _ => ?_⟩)); try (conv => whnf)
            refine hC _ _ _ _ _ _ ?_
            refine ok_of hM (by omega) ?_
            (repeat ((conv => whnf); first | refine ⟨_, by assumption, ?_⟩ | refine ⟨_, _, by assumption, ?_⟩ | refine ⟨(show _ ∧ _ by omega), ?_⟩ | refine ⟨(show _ ∨ _ by omega), ?_⟩ | refine ⟨fun h => absurd h (by decide), fun _ => ?_⟩ | refine ⟨fun _ => ?_, fun h => absurd h (by decide)⟩ | refine ⟨fun _ => ?_, fun h => absurd rfl h⟩ | refine ⟨fun h => absurd rfl h, fun _ => ?_⟩)); try (conv => whnf)
            rw [e]
            exact hK1
          · subst q
            rw [if_neg (by omega), if_pos (by omega)] at hK1
            (repeat ((conv => whnf); first | refine ⟨_, by assumption, ?_⟩ | refine ⟨_, _, by assumption, ?_⟩ | refine ⟨(show _ ∧ _ by omega), ?_⟩ | refine ⟨(show _ ∨ _ by omega), ?_⟩ | refine ⟨fun h => absurd h (by decide), fun _ => ?_⟩ | refine ⟨fun _ => ?_, fun h => absurd h (by decide)⟩ | refine ⟨fun _ => ?_, fun h => absurd rfl h⟩ | refine ⟨fun h => absurd rfl h, fun _ => ?_⟩)); try (conv => whnf)
            rw [a1]
            exact hK1
          · subst q
            rw [if_neg (by omega), if_neg (by omega), if_pos (by omega)] at hK1
            (repeat ((conv => whnf); first | refine ⟨_, by assumption, ?_⟩ | refine ⟨_, _, by assumption, ?_⟩ | refine ⟨(show _ ∧ _ by omega), ?_⟩ | refine ⟨(show _ ∨ _ by omega), ?_⟩ | refine ⟨fun h => absurd h (by decide), fun _ => ?_⟩ | refine ⟨fun _ => ?_, fun h => absurd h (by decide)⟩ | refine ⟨fun _ => ?_, fun h => absurd rfl h⟩ | refine ⟨fun h => absurd rfl h, fun _ => ?_⟩)); try (conv => whnf)
            rw [a2]
            exact hK1
          · subst q
            rw [if_neg (by omega), if_neg (by omega), if_neg (by omega), if_pos (by omega)] at hK1
            (repeat ((conv => whnf); first | refine ⟨_, by assumption, ?_⟩ | refine ⟨_, _, by assumption, ?_⟩ | refine ⟨(show _ ∧ _ by omega), ?_⟩ | refine ⟨(show _ ∨ _ by omega), ?_⟩ | refine ⟨fun h => absurd h (by decide), fun _ => ?_⟩ | refine ⟨fun _ => ?_, fun h => absurd h (by decide)⟩ | refine ⟨fun _ => ?_, fun h => absurd rfl h⟩ | refine ⟨fun h => absurd rfl h, fun _ => ?_⟩)); try (conv => whnf)
            rw [a3]
            exact hK1
          · subst q
            rw [if_neg (by omega), if_neg (by omega), if_neg (by omega), if_neg (by omega), if_pos (by omega)] at hK1
            (repeat ((conv => whnf); first | refine ⟨_, by assumption, ?_⟩ | refine ⟨_, _, by assumption, ?_⟩ | refine ⟨(show _ ∧ _ by omega), ?_⟩ | refine ⟨(show _ ∨ _ by omega), ?_⟩ | refine ⟨fun h => absurd h (by decide), fun _ => ?_⟩ | refine ⟨fun _ => ?_, fun h => absurd h (by decide)⟩ | refine ⟨fun _ => ?_, fun h => absurd rfl h⟩ | refine ⟨fun h => absurd rfl h, fun _ => ?_⟩)); try (conv => whnf)
            refine hC _ _ _ _ _ _ ?_
            refine ok_isEnd hM (by rw [e]; exact hW) hv (fun h5 => ?_) (fun h5 => ?_)
            · rw [e] at h5
              rw [if_pos h5] at hK1
              (repeat ((conv => whnf); first | refine ⟨_, by assumption, ?_⟩ | refine ⟨_, _, by assumption, ?_⟩ | refine ⟨(show _ ∧ _ by omega), ?_⟩ | refine ⟨(show _ ∨ _ by omega), ?_⟩ | refine ⟨fun h => absurd h (by decide), fun _ => ?_⟩ | refine ⟨fun _ => ?_, fun h => absurd h (by decide)⟩ | refine ⟨fun _ => ?_, fun h => absurd rfl h⟩ | refine ⟨fun h => absurd rfl h, fun _ => ?_⟩)); try (conv => whnf)
              refine hC _ _ _ _ _ _ ?_
              refine ok_of hM (by omega) ?_
              rw [e]
              (repeat ((conv => whnf); first | refine ⟨_, by assumption, ?_⟩ | refine ⟨_, _, by assumption, ?_⟩ | refine ⟨(show _ ∧ _ by omega), ?_⟩ | refine ⟨(show _ ∨ _ by omega), ?_⟩ | refine ⟨fun h => absurd h (by decide), fun _ => ?_⟩ | refine ⟨fun _ => ?_, fun h => absurd h (by decide)⟩ | refine ⟨fun _ => ?_, fun h => absurd rfl h⟩ | refine ⟨fun h => absurd rfl h, fun _ => ?_⟩)); try (conv => whnf)
              rw [a3]
              exact hK1
            · rw [e] at h5
              rw [if_neg (by rw [h5]; exact Bool.false_ne_true)] at hK1
              (repeat ((conv => whnf); first | refine ⟨_, by assumption, ?_⟩ | refine ⟨_, _, by assumption, ?_⟩ | refine ⟨(show _ ∧ _ by omega), ?_⟩ | refine ⟨(show _ ∨ _ by omega), ?_⟩ | refine ⟨fun h => absurd h (by decide), fun _ => ?_⟩ | refine ⟨fun _ => ?_, fun h => absurd h (by decide)⟩ | refine ⟨fun _ => ?_, fun h => absurd rfl h⟩ | refine ⟨fun h => absurd rfl h, fun _ => ?_⟩)); try (conv => whnf)
              exact hK1
        · have hw7 : w < 7 := by omega
          (repeat ((conv => whnf); first | refine ⟨_, by assumption, ?_⟩ | refine ⟨_, _, by assumption, ?_⟩ | refine ⟨(show _ ∧ _ by omega), ?_⟩ | refine ⟨(show _ ∨ _ by omega), ?_⟩ | refine ⟨fun h => absurd h (by decide), fun _ => ?_⟩ | refine ⟨fun _ => ?_, fun h => absurd h (by decide)⟩ | refine ⟨fun _ => ?_, fun h => absurd rfl h⟩ | refine ⟨fun h => absurd rfl h, fun _ => ?_⟩)); try (conv => whnf)
          refine hC _ _ _ _ _ _ ?_
          refine ok_isEnd hM hW hv (fun h5 => ?_) (fun h5 => ?_)
          · (repeat ((conv => whnf); first | refine ⟨_, by assumption, ?_⟩ | refine ⟨_, _, by assumption, ?_⟩ | refine ⟨(show _ ∧ _ by omega), ?_⟩ | refine ⟨(show _ ∨ _ by omega), ?_⟩ | refine ⟨fun h => absurd h (by decide), fun _ => ?_⟩ | refine ⟨fun _ => ?_, fun h => absurd h (by decide)⟩ | refine ⟨fun _ => ?_, fun h => absurd rfl h⟩ | refine ⟨fun h => absurd rfl h, fun _ => ?_⟩)); try (conv => whnf)
            refine hC _ _ _ _ _ _ ?_
            refine ok_of hM (by omega) ?_
            (repeat ((conv => whnf); first | refine ⟨_, by assumption, ?_⟩ | refine ⟨_, _, by assumption, ?_⟩ | refine ⟨(show _ ∧ _ by omega), ?_⟩ | refine ⟨(show _ ∨ _ by omega), ?_⟩ | refine ⟨fun h => absurd h (by decide), fun _ => ?_⟩ | refine ⟨fun _ => ?_, fun h => absurd h (by decide)⟩ | refine ⟨fun _ => ?_, fun h => absurd rfl h⟩ | refine ⟨fun h => absurd rfl h, fun _ => ?_⟩)); try (conv => whnf)
            have := hK I MF.rf
            rw [atF, if_neg (fun q => q h1), if_neg (fun q => q h2), if_neg hw4, if_pos hw7, if_pos h5] at this
            exact this
          · (repeat ((conv => whnf); first | refine ⟨_, by assumption, ?_⟩ | refine ⟨_, _, by assumption, ?_⟩ | refine ⟨(show _ ∧ _ by omega), ?_⟩ | refine ⟨(show _ ∨ _ by omega), ?_⟩ | refine ⟨fun h => absurd h (by decide), fun _ => ?_⟩ | refine ⟨fun _ => ?_, fun h => absurd h (by decide)⟩ | refine ⟨fun _ => ?_, fun h => absurd rfl h⟩ | refine ⟨fun h => absurd rfl h, fun _ => ?_⟩)); try (conv => whnf)
            have := hK I MF.rf
            rw [atF, if_neg (fun q => q h1), if_neg (fun q => q h2), if_neg hw4, if_pos hw7, if_neg (by rw [h5]; exact Bool.false_ne_true)] at this
            exact this
      · have hw4 : w < 4 := by omega
        (repeat ((conv => whnf); first | refine ⟨_, by assumption, ?_⟩ | refine ⟨_, _, by assumption, ?_⟩ | refine ⟨(show _ ∧ _ by omega), ?_⟩ | refine ⟨(show _ ∨ _ by omega), ?_⟩ | refine ⟨fun h => absurd h (by decide), fun _ => ?_⟩ | refine ⟨fun _ => ?_, fun h => absurd h (by decide)⟩ | refine ⟨fun _ => ?_, fun h => absurd rfl h⟩ | refine ⟨fun h => absurd rfl h, fun _ => ?_⟩)); try (conv => whnf)
        refine ⟨fun h4 => ?_, fun h4 => ?_⟩
        · (repeat ((conv => whnf); first | refine ⟨_, by assumption, ?_⟩ | refine ⟨_, _, by assumption, ?_⟩ | refine ⟨(show _ ∧ _ by omega), ?_⟩ | refine ⟨(show _ ∨ _ by omega), ?_⟩ | refine ⟨fun h => absurd h (by decide), fun _ => ?_⟩ | refine ⟨fun _ => ?_, fun h => absurd h (by decide)⟩ | refine ⟨fun _ => ?_, fun h => absurd rfl h⟩ | refine ⟨fun h => absurd rfl h, fun _ => ?_⟩)); try (conv => whnf)
          refine hC _ _ _ _ _ _ ?_
          refine ok_of hM (by omega) ?_
          (repeat ((conv => whnf); first | refine ⟨_, by assumption, ?_⟩ | refine ⟨_, _, by assumption, ?_⟩ | refine ⟨(show _ ∧ _ by omega), ?_⟩ | refine ⟨(show _ ∨ _ by omega), ?_⟩ | refine ⟨fun h => absurd h (by decide), fun _ => ?_⟩ | refine ⟨fun _ => ?_, fun h => absurd h (by decide)⟩ | refine ⟨fun _ => ?_, fun h => absurd rfl h⟩ | refine ⟨fun h => absurd rfl h, fun _ => ?_⟩)); try (conv => whnf)
          have := hK I MF.rf
          rw [atF, if_neg (fun q => q h1), if_neg (fun q => q h2), if_pos hw4, if_neg h4] at this
          exact this
        · (repeat ((conv => whnf); first | refine ⟨_, by assumption, ?_⟩ | refine ⟨_, _, by assumption, ?_⟩ | refine ⟨(show _ ∧ _ by omega), ?_⟩ | refine ⟨(show _ ∨ _ by omega), ?_⟩ | refine ⟨fun h => absurd h (by decide), fun _ => ?_⟩ | refine ⟨fun _ => ?_, fun h => absurd h (by decide)⟩ | refine ⟨fun _ => ?_, fun h => absurd rfl h⟩ | refine ⟨fun h => absurd rfl h, fun _ => ?_⟩)); try (conv => whnf)
          have := hK I MF.rf
          rw [atF, if_neg (fun q => q h1), if_neg (fun q => q h2), if_pos hw4, if_pos h4] at this
          exact this
    · (repeat ((conv => whnf); first | refine ⟨_, by assumption, ?_⟩ | refine ⟨_, _, by assumption, ?_⟩ | refine ⟨(show _ ∧ _ by omega), ?_⟩ | refine ⟨(show _ ∨ _ by omega), ?_⟩ | refine ⟨fun h => absurd h (by decide), fun _ => ?_⟩ | refine ⟨fun _ => ?_, fun h => absurd h (by decide)⟩ | refine ⟨fun _ => ?_, fun h => absurd rfl h⟩ | refine ⟨fun h => absurd rfl h, fun _ => ?_⟩)); try (conv => whnf)
      have := hK I MF.rf
      rw [atF, if_neg (fun q => q h1), if_pos h2] at this
      exact this
  · (repeat ((conv => whnf); first | refine ⟨_, by assumption, ?_⟩ | refine ⟨_, _, by assumption, ?_⟩ | refine ⟨(show _ ∧ _ by omega), ?_⟩ | refine ⟨(show _ ∨ _ by omega), ?_⟩ | refine ⟨fun h => absurd h (by decide), fun _ => ?_⟩ | refine ⟨fun _ => ?_, fun h => absurd h (by decide)⟩ | refine ⟨fun _ => ?_, fun h => absurd rfl h⟩ | refine ⟨fun h => absurd rfl h, fun _ => ?_⟩)); try (conv => whnf)
    have := hK I MF.rf
    rw [atF, if_pos h1] at this
    exact this
/-- candidates(v, t) -/
theorem ok_mcandidates {P : aP} {d : Nat} {K : aK} {I : aI} {R : aR} {S : aS} {v t : Int} (hM : MS R S) (hW : WF (I 362)) (hv : iR v) (ht : iR t) (h0 : ¬ (0 ≤ v ∧ v < I 362 0) → K (some (vi (-1000000001))) I R S) (h1 : (0 ≤ v ∧ v < I 362 0) → ¬ (0 ≤ t ∧ t ≤ 1) → K (some (vi (-1000000002))) I R S)
    (h2 : (0 ≤ v ∧ v < I 362 0) → (0 ≤ t ∧ t ≤ 1) → ∀ I' L, QF I I' → Fro L (WaysX (I 362) v t) → K (some (vi L.length)) I' R S) : Ok P 109 (d + 6) [vr 361, vi v, vi t] I R S K := by
  obtain ⟨m0, r1, m1, r2, m2, r3, m3, r4, m4, r5, m5, r6, m6, r7, m7, r8, m8, r9, m9, r10, m10, r11, m11, r12, m12, r13, m13, r14, m14, r15, m15⟩ := id hM
  refine Ok.of (by decide) rfl (Nat.le_of_ble_eq_true rfl) ?_
  refine Go.walk 400 [] E109 E109_ok (fun G C hG hC => ?_)
  (repeat ((conv => whnf); first | refine ⟨_, by assumption, ?_⟩ | refine ⟨_, _, by assumption, ?_⟩ | refine ⟨(show _ ∧ _ by omega), ?_⟩ | refine ⟨(show _ ∨ _ by omega), ?_⟩ | refine ⟨fun h => absurd h (by decide), fun _ => ?_⟩ | refine ⟨fun _ => ?_, fun h => absurd h (by decide)⟩ | refine ⟨fun _ => ?_, fun h => absurd rfl h⟩ | refine ⟨fun h => absurd rfl h, fun _ => ?_⟩)); try (conv => whnf)
  refine hC _ _ _ _ _ _ ?_
  refine ok_isNode hM hv hW (fun g1 => ?_) (fun g1 => ?_)
  · (repeat ((conv => whnf); first | refine ⟨_, by assumption, ?_⟩ | refine ⟨_, _, by assumption, ?_⟩ | refine ⟨(show _ ∧ _ by omega), ?_⟩ | refine ⟨(show _ ∨ _ by omega), ?_⟩ | refine ⟨fun h => absurd h (by decide), fun _ => ?_⟩ | refine ⟨fun _ => ?_, fun h => absurd h (by decide)⟩ | refine ⟨fun _ => ?_, fun h => absurd rfl h⟩ | refine ⟨fun h => absurd rfl h, fun _ => ?_⟩)); try (conv => whnf)
    refine hC _ _ _ _ _ _ ?_
    refine ok_in ht (by omega) (by omega) (fun g2 => ?_) (fun g2 => ?_)
    · (repeat ((conv => whnf); first | refine ⟨_, by assumption, ?_⟩ | refine ⟨_, _, by assumption, ?_⟩ | refine ⟨(show _ ∧ _ by omega), ?_⟩ | refine ⟨(show _ ∨ _ by omega), ?_⟩ | refine ⟨fun h => absurd h (by decide), fun _ => ?_⟩ | refine ⟨fun _ => ?_, fun h => absurd h (by decide)⟩ | refine ⟨fun _ => ?_, fun h => absurd rfl h⟩ | refine ⟨fun h => absurd rfl h, fun _ => ?_⟩)); try (conv => whnf)
      refine hC _ _ _ _ _ _ ?_
      refine ok_seeks hM hW g1 g2 (fun I' L hF hL e18 _ _ _ => ?_)
      (repeat ((conv => whnf); first | refine ⟨_, by assumption, ?_⟩ | refine ⟨_, _, by assumption, ?_⟩ | refine ⟨(show _ ∧ _ by omega), ?_⟩ | refine ⟨(show _ ∨ _ by omega), ?_⟩ | refine ⟨fun h => absurd h (by decide), fun _ => ?_⟩ | refine ⟨fun _ => ?_, fun h => absurd h (by decide)⟩ | refine ⟨fun _ => ?_, fun h => absurd rfl h⟩ | refine ⟨fun h => absurd rfl h, fun _ => ?_⟩)); try (conv => whnf)
      have e : I' 361 ((18 : Nat) : Int) = L.length := e18
      rw [e]
      exact h2 g1 g2 I' L (QF.mf hF) hL
    · (repeat ((conv => whnf); first | refine ⟨_, by assumption, ?_⟩ | refine ⟨_, _, by assumption, ?_⟩ | refine ⟨(show _ ∧ _ by omega), ?_⟩ | refine ⟨(show _ ∨ _ by omega), ?_⟩ | refine ⟨fun h => absurd h (by decide), fun _ => ?_⟩ | refine ⟨fun _ => ?_, fun h => absurd h (by decide)⟩ | refine ⟨fun _ => ?_, fun h => absurd rfl h⟩ | refine ⟨fun h => absurd rfl h, fun _ => ?_⟩)); try (conv => whnf)
      exact h1 g1 g2
  · (repeat ((conv => whnf); first | refine ⟨_, by assumption, ?_⟩ | refine ⟨_, _, by assumption, ?_⟩ | refine ⟨(show _ ∧ _ by omega), ?_⟩ | refine ⟨(show _ ∨ _ by omega), ?_⟩ | refine ⟨fun h => absurd h (by decide), fun _ => ?_⟩ | refine ⟨fun _ => ?_, fun h => absurd h (by decide)⟩ | refine ⟨fun _ => ?_, fun h => absurd rfl h⟩ | refine ⟨fun h => absurd rfl h, fun _ => ?_⟩)); try (conv => whnf)
    exact h0 g1
def candL (L : List aT) (i w : Int) : Int := if ¬ (0 ≤ i ∧ i < L.length) then -1000000001 else if ¬ (0 ≤ w ∧ w ≤ 2) then -1000000002 else match L[i.toNat]? with
  | none => 0
  | some x => if w = 0 then x.1 else if w = 1 then x.2.1 + 1000000 else x.2.2
theorem candL_at {L : List aT} {i w : Int} {x : aT} (h : 0 ≤ i ∧ i < L.length) (hw : 0 ≤ w ∧ w ≤ 2) (hx : L[i.toNat]? = some x) : candL L i w = if w = 0 then x.1 else if w = 1 then x.2.1 + 1000000 else x.2.2 := by
  unfold candL
  rw [if_neg (fun q => q h), if_neg (fun q => q hw), hx]
theorem hd_at {I : aI} {L : List aT} {i : Int} (hH : Hd I 374 375 376 L) (hb : ∀ x ∈ L, tB x) (h : 0 ≤ i ∧ i < L.length) : ∃ x, L[i.toNat]? = some x ∧ tB x ∧ I 374 i = x.1 ∧ I 375 i = x.2.1 ∧ I 376 i = x.2.2 := by
  have hlt : i.toNat < L.length := by omega
  refine ⟨L[i.toNat], List.getElem?_eq_getElem hlt, hb _ (List.getElem_mem hlt), ?_⟩
  have := hH i.toNat _ (List.getElem?_eq_getElem hlt)
  rw [Int.toNat_of_nonneg h.1] at this
  exact this
/-- candidate(v, t, i, what) -/
theorem ok_mcandidate {P : aP} {d : Nat} {K : aK} {I : aI} {R : aR} {S : aS} {v t i w : Int} (hM : MS R S) (hW : WF (I 362)) (hv : iR v) (ht : iR t) (hi : iR i) (hw : iR w) (h0 : ¬ (0 ≤ v ∧ v < I 362 0) → K (some (vi (-1000000001))) I R S) (h1 : (0 ≤ v ∧ v < I 362 0) → ¬ (0 ≤ t ∧ t ≤ 1) → K (some (vi (-1000000002))) I R S)
    (h2 : (0 ≤ v ∧ v < I 362 0) → (0 ≤ t ∧ t ≤ 1) → ∀ I' L, QF I I' → Fro L (WaysX (I 362) v t) → K (some (vi (candL L i w))) I' R S) : Ok P 110 (d + 6) [vr 361, vi v, vi t, vi i, vi w] I R S K := by
  obtain ⟨m0, r1, m1, r2, m2, r3, m3, r4, m4, r5, m5, r6, m6, r7, m7, r8, m8, r9, m9, r10, m10, r11, m11, r12, m12, r13, m13, r14, m14, r15, m15⟩ := id hM
  refine Ok.of (by decide) rfl (Nat.le_of_ble_eq_true rfl) ?_
  refine Go.walk 400 [] E110 E110_ok (fun G C hG hC => ?_)
  (repeat ((conv => whnf); first | refine ⟨_, by assumption, ?_⟩ | refine ⟨_, _, by assumption, ?_⟩ | refine ⟨(show _ ∧ _ by omega), ?_⟩ | refine ⟨(show _ ∨ _ by omega), ?_⟩ | refine ⟨fun h => absurd h (by decide), fun _ => ?_⟩ | refine ⟨fun _ => ?_, fun h => absurd h (by decide)⟩ | refine ⟨fun _ => ?_, fun h => absurd rfl h⟩ | refine ⟨fun h => absurd rfl h, fun _ => ?_⟩)); try (conv => whnf)
  refine hC _ _ _ _ _ _ ?_
  refine ok_isNode hM hv hW (fun g1 => ?_) (fun g1 => ?_)
  · (repeat ((conv => whnf); first | refine ⟨_, by assumption, ?_⟩ | refine ⟨_, _, by assumption, ?_⟩ | refine ⟨(show _ ∧ _ by omega), ?_⟩ | refine ⟨(show _ ∨ _ by omega), ?_⟩ | refine ⟨fun h => absurd h (by decide), fun _ => ?_⟩ | refine ⟨fun _ => ?_, fun h => absurd h (by decide)⟩ | refine ⟨fun _ => ?_, fun h => absurd rfl h⟩ | refine ⟨fun h => absurd rfl h, fun _ => ?_⟩)); try (conv => whnf)
    refine hC _ _ _ _ _ _ ?_
    refine ok_in ht (by omega) (by omega) (fun g2 => ?_) (fun g2 => ?_)
    · (repeat ((conv => whnf); first | refine ⟨_, by assumption, ?_⟩ | refine ⟨_, _, by assumption, ?_⟩ | refine ⟨(show _ ∧ _ by omega), ?_⟩ | refine ⟨(show _ ∨ _ by omega), ?_⟩ | refine ⟨fun h => absurd h (by decide), fun _ => ?_⟩ | refine ⟨fun _ => ?_, fun h => absurd h (by decide)⟩ | refine ⟨fun _ => ?_, fun h => absurd rfl h⟩ | refine ⟨fun h => absurd rfl h, fun _ => ?_⟩)); try (conv => whnf)
      refine hC _ _ _ _ _ _ ?_
      refine ok_seeks hM hW g1 g2 (fun I' L hF hL e18 hH hlen hB => ?_)
      have hK := h2 g1 g2 I' L (QF.mf hF) hL
      have e : I' 361 ((18 : Nat) : Int) = L.length := e18
      (repeat ((conv => whnf); first | refine ⟨_, by assumption, ?_⟩ | refine ⟨_, _, by assumption, ?_⟩ | refine ⟨(show _ ∧ _ by omega), ?_⟩ | refine ⟨(show _ ∨ _ by omega), ?_⟩ | refine ⟨fun h => absurd h (by decide), fun _ => ?_⟩ | refine ⟨fun _ => ?_, fun h => absurd h (by decide)⟩ | refine ⟨fun _ => ?_, fun h => absurd rfl h⟩ | refine ⟨fun h => absurd rfl h, fun _ => ?_⟩)); try (conv => whnf)
      rw [e]
      refine hC _ _ _ _ _ _ ?_
      refine ok_in hi (by omega) (by omega) (fun g3 => ?_) (fun g3 => ?_)
      · obtain ⟨x, x0, x1, x2, x3, x4⟩ := hd_at hH hB (i := i) (by omega)
        (repeat ((conv => whnf); first | refine ⟨_, by assumption, ?_⟩ | refine ⟨_, _, by assumption, ?_⟩ | refine ⟨(show _ ∧ _ by omega), ?_⟩ | refine ⟨(show _ ∨ _ by omega), ?_⟩ | refine ⟨fun h => absurd h (by decide), fun _ => ?_⟩ | refine ⟨fun _ => ?_, fun h => absurd h (by decide)⟩ | refine ⟨fun _ => ?_, fun h => absurd rfl h⟩ | refine ⟨fun h => absurd rfl h, fun _ => ?_⟩)); try (conv => whnf)
        refine hC _ _ _ _ _ _ ?_
        refine ok_in ht (by omega) (by omega) (fun _ => ?_) (fun q => absurd g2 q)
        (repeat ((conv => whnf); first | refine ⟨_, by assumption, ?_⟩ | refine ⟨_, _, by assumption, ?_⟩ | refine ⟨(show _ ∧ _ by omega), ?_⟩ | refine ⟨(show _ ∨ _ by omega), ?_⟩ | refine ⟨fun h => absurd h (by decide), fun _ => ?_⟩ | refine ⟨fun _ => ?_, fun h => absurd h (by decide)⟩ | refine ⟨fun _ => ?_, fun h => absurd rfl h⟩ | refine ⟨fun h => absurd rfl h, fun _ => ?_⟩)); try (conv => whnf)
        refine hC _ _ _ _ _ _ ?_
        refine ok_in hw (by omega) (by omega) (fun g4 => ?_) (fun g4 => ?_)
        · rw [candL_at (by omega) g4 x0] at hK
          obtain ⟨b1, b2, b3⟩ := x1
          (repeat ((conv => whnf); first | refine ⟨_, by assumption, ?_⟩ | refine ⟨_, _, by assumption, ?_⟩ | refine ⟨(show _ ∧ _ by omega), ?_⟩ | refine ⟨(show _ ∨ _ by omega), ?_⟩ | refine ⟨fun h => absurd h (by decide), fun _ => ?_⟩ | refine ⟨fun _ => ?_, fun h => absurd h (by decide)⟩ | refine ⟨fun _ => ?_, fun h => absurd rfl h⟩ | refine ⟨fun h => absurd rfl h, fun _ => ?_⟩)); try (conv => whnf)
          refine ⟨fun q => ?_, fun q => ?_⟩
          · rw [if_neg q] at hK
            (repeat ((conv => whnf); first | refine ⟨_, by assumption, ?_⟩ | refine ⟨_, _, by assumption, ?_⟩ | refine ⟨(show _ ∧ _ by omega), ?_⟩ | refine ⟨(show _ ∨ _ by omega), ?_⟩ | refine ⟨fun h => absurd h (by decide), fun _ => ?_⟩ | refine ⟨fun _ => ?_, fun h => absurd h (by decide)⟩ | refine ⟨fun _ => ?_, fun h => absurd rfl h⟩ | refine ⟨fun h => absurd rfl h, fun _ => ?_⟩)); try (conv => whnf)
            refine ⟨fun q2 => ?_, fun q2 => ?_⟩
            · rw [if_neg q2] at hK
              (repeat ((conv => whnf); first | refine ⟨_, by assumption, ?_⟩ | refine ⟨_, _, by assumption, ?_⟩ | refine ⟨(show _ ∧ _ by omega), ?_⟩ | refine ⟨(show _ ∨ _ by omega), ?_⟩ | refine ⟨fun h => absurd h (by decide), fun _ => ?_⟩ | refine ⟨fun _ => ?_, fun h => absurd h (by decide)⟩ | refine ⟨fun _ => ?_, fun h => absurd rfl h⟩ | refine ⟨fun h => absurd rfl h, fun _ => ?_⟩)); try (conv => whnf)
              rw [x4]
              exact hK
            · rw [if_pos q2] at hK
              (repeat ((conv => whnf); first | refine ⟨_, by assumption, ?_⟩ | refine ⟨_, _, by assumption, ?_⟩ | refine ⟨(show _ ∧ _ by omega), ?_⟩ | refine ⟨(show _ ∨ _ by omega), ?_⟩ | refine ⟨fun h => absurd h (by decide), fun _ => ?_⟩ | refine ⟨fun _ => ?_, fun h => absurd h (by decide)⟩ | refine ⟨fun _ => ?_, fun h => absurd rfl h⟩ | refine ⟨fun h => absurd rfl h, fun _ => ?_⟩)); try (conv => whnf)
              rw [x3]
              exact hK
          · rw [if_pos q] at hK
            (repeat ((conv => whnf); first | refine ⟨_, by assumption, ?_⟩ | refine ⟨_, _, by assumption, ?_⟩ | refine ⟨(show _ ∧ _ by omega), ?_⟩ | refine ⟨(show _ ∨ _ by omega), ?_⟩ | refine ⟨fun h => absurd h (by decide), fun _ => ?_⟩ | refine ⟨fun _ => ?_, fun h => absurd h (by decide)⟩ | refine ⟨fun _ => ?_, fun h => absurd rfl h⟩ | refine ⟨fun h => absurd rfl h, fun _ => ?_⟩)); try (conv => whnf)
            rw [x2]
            exact hK
        · rw [candL, if_neg (by omega), if_pos g4] at hK
          (repeat ((conv => whnf); first | refine ⟨_, by assumption, ?_⟩ | refine ⟨_, _, by assumption, ?_⟩ | refine ⟨(show _ ∧ _ by omega), ?_⟩ | refine ⟨(show _ ∨ _ by omega), ?_⟩ | refine ⟨fun h => absurd h (by decide), fun _ => ?_⟩ | refine ⟨fun _ => ?_, fun h => absurd h (by decide)⟩ | refine ⟨fun _ => ?_, fun h => absurd rfl h⟩ | refine ⟨fun h => absurd rfl h, fun _ => ?_⟩)); try (conv => whnf)
          exact hK
      · rw [candL, if_pos (by omega)] at hK
        (repeat ((conv => whnf); first | refine ⟨_, by assumption, ?_⟩ | refine ⟨_, _, by assumption, ?_⟩ | refine ⟨(show _ ∧ _ by omega), ?_⟩ | refine ⟨(show _ ∨ _ by omega), ?_⟩ | refine ⟨fun h => absurd h (by decide), fun _ => ?_⟩ | refine ⟨fun _ => ?_, fun h => absurd h (by decide)⟩ | refine ⟨fun _ => ?_, fun h => absurd rfl h⟩ | refine ⟨fun h => absurd rfl h, fun _ => ?_⟩)); try (conv => whnf)
        exact hK
    · (repeat ((conv => whnf); first | refine ⟨_, by assumption, ?_⟩ | refine ⟨_, _, by assumption, ?_⟩ | refine ⟨(show _ ∧ _ by omega), ?_⟩ | refine ⟨(show _ ∨ _ by omega), ?_⟩ | refine ⟨fun h => absurd h (by decide), fun _ => ?_⟩ | refine ⟨fun _ => ?_, fun h => absurd h (by decide)⟩ | refine ⟨fun _ => ?_, fun h => absurd rfl h⟩ | refine ⟨fun h => absurd rfl h, fun _ => ?_⟩)); try (conv => whnf)
      refine hC _ _ _ _ _ _ ?_
      refine ok_in ht (by omega) (by omega) (fun q => absurd q g2) (fun _ => ?_)
      (repeat ((conv => whnf); first | refine ⟨_, by assumption, ?_⟩ | refine ⟨_, _, by assumption, ?_⟩ | refine ⟨(show _ ∧ _ by omega), ?_⟩ | refine ⟨(show _ ∨ _ by omega), ?_⟩ | refine ⟨fun h => absurd h (by decide), fun _ => ?_⟩ | refine ⟨fun _ => ?_, fun h => absurd h (by decide)⟩ | refine ⟨fun _ => ?_, fun h => absurd rfl h⟩ | refine ⟨fun h => absurd rfl h, fun _ => ?_⟩)); try (conv => whnf)
      exact h1 g1 g2
  · (repeat ((conv => whnf); first | refine ⟨_, by assumption, ?_⟩ | refine ⟨_, _, by assumption, ?_⟩ | refine ⟨(show _ ∧ _ by omega), ?_⟩ | refine ⟨(show _ ∨ _ by omega), ?_⟩ | refine ⟨fun h => absurd h (by decide), fun _ => ?_⟩ | refine ⟨fun _ => ?_, fun h => absurd h (by decide)⟩ | refine ⟨fun _ => ?_, fun h => absurd rfl h⟩ | refine ⟨fun h => absurd rfl h, fun _ => ?_⟩)); try (conv => whnf)
    exact h0 g1
def ptL (L : List aT) (i w : Int) : Int := if ¬ (0 ≤ i ∧ i < L.length) then -1000000001 else match L[i.toNat]? with
  | none => 0
  | some x => if w = 0 then x.2.2 else if w = 1 then x.2.1 + 1000000 else -1000000002
theorem ptL_at {L : List aT} {i w : Int} {x : aT} (h : 0 ≤ i ∧ i < L.length) (hx : L[i.toNat]? = some x) : ptL L i w = if w = 0 then x.2.2 else if w = 1 then x.2.1 + 1000000 else -1000000002 := by
  unfold ptL
  rw [if_neg (fun q => q h), hx]
/-- point(i, what) -/
theorem ok_mpoint {P : aP} {d : Nat} {K : aK} {I : aI} {R : aR} {S : aS} {i w : Int} (hM : MS R S) (hW : WF (I 362)) (hi : iR i) (hw : iR w) (hK : ∀ I' L, QF I I' → Fro L (PtsX (I 362)) → K (some (vi (ptL L i w))) I' R S) : Ok P 111 (d + 7) [vr 361, vi i, vi w] I R S K := by
  obtain ⟨m0, r1, m1, r2, m2, r3, m3, r4, m4, r5, m5, r6, m6, r7, m7, r8, m8, r9, m9, r10, m10, r11, m11, r12, m12, r13, m13, r14, m14, r15, m15⟩ := id hM
  refine Ok.of (by decide) rfl (Nat.le_of_ble_eq_true rfl) ?_
  refine Go.walk 400 [] E111 E111_ok (fun G C hG hC => ?_)
  (repeat ((conv => whnf); first | refine ⟨_, by assumption, ?_⟩ | refine ⟨_, _, by assumption, ?_⟩ | refine ⟨(show _ ∧ _ by omega), ?_⟩ | refine ⟨(show _ ∨ _ by omega), ?_⟩ | refine ⟨fun h => absurd h (by decide), fun _ => ?_⟩ | refine ⟨fun _ => ?_, fun h => absurd h (by decide)⟩ | refine ⟨fun _ => ?_, fun h => absurd rfl h⟩ | refine ⟨fun h => absurd rfl h, fun _ => ?_⟩)); try (conv => whnf)
  refine hC _ _ _ _ _ _ ?_
  refine ok_seeksPoints hM hW (fun I' L hF hL e18 hH hlen hB => ?_)
  have hK := hK I' L (QF.mf hF) hL
  have e : I' 361 ((18 : Nat) : Int) = L.length := e18
  (repeat ((conv => whnf); first | refine ⟨_, by assumption, ?_⟩ | refine ⟨_, _, by assumption, ?_⟩ | refine ⟨(show _ ∧ _ by omega), ?_⟩ | refine ⟨(show _ ∨ _ by omega), ?_⟩ | refine ⟨fun h => absurd h (by decide), fun _ => ?_⟩ | refine ⟨fun _ => ?_, fun h => absurd h (by decide)⟩ | refine ⟨fun _ => ?_, fun h => absurd rfl h⟩ | refine ⟨fun h => absurd rfl h, fun _ => ?_⟩)); try (conv => whnf)
  rw [e]
  refine hC _ _ _ _ _ _ ?_
  refine ok_in hi (by omega) (by omega) (fun g3 => ?_) (fun g3 => ?_)
  · obtain ⟨x, x0, x1, x2, x3, x4⟩ := hd_at hH hB (i := i) (by omega)
    obtain ⟨b1, b2, b3⟩ := x1
    rw [ptL_at (by omega) x0] at hK
    (repeat ((conv => whnf); first | refine ⟨_, by assumption, ?_⟩ | refine ⟨_, _, by assumption, ?_⟩ | refine ⟨(show _ ∧ _ by omega), ?_⟩ | refine ⟨(show _ ∨ _ by omega), ?_⟩ | refine ⟨fun h => absurd h (by decide), fun _ => ?_⟩ | refine ⟨fun _ => ?_, fun h => absurd h (by decide)⟩ | refine ⟨fun _ => ?_, fun h => absurd rfl h⟩ | refine ⟨fun h => absurd rfl h, fun _ => ?_⟩)); try (conv => whnf)
    refine ⟨fun q => ?_, fun q => ?_⟩
    · rw [if_neg q] at hK
      (repeat ((conv => whnf); first | refine ⟨_, by assumption, ?_⟩ | refine ⟨_, _, by assumption, ?_⟩ | refine ⟨(show _ ∧ _ by omega), ?_⟩ | refine ⟨(show _ ∨ _ by omega), ?_⟩ | refine ⟨fun h => absurd h (by decide), fun _ => ?_⟩ | refine ⟨fun _ => ?_, fun h => absurd h (by decide)⟩ | refine ⟨fun _ => ?_, fun h => absurd rfl h⟩ | refine ⟨fun h => absurd rfl h, fun _ => ?_⟩)); try (conv => whnf)
      refine ⟨fun q2 => ?_, fun q2 => ?_⟩
      · rw [if_neg q2] at hK
        (repeat ((conv => whnf); first | refine ⟨_, by assumption, ?_⟩ | refine ⟨_, _, by assumption, ?_⟩ | refine ⟨(show _ ∧ _ by omega), ?_⟩ | refine ⟨(show _ ∨ _ by omega), ?_⟩ | refine ⟨fun h => absurd h (by decide), fun _ => ?_⟩ | refine ⟨fun _ => ?_, fun h => absurd h (by decide)⟩ | refine ⟨fun _ => ?_, fun h => absurd rfl h⟩ | refine ⟨fun h => absurd rfl h, fun _ => ?_⟩)); try (conv => whnf)
        exact hK
      · rw [if_pos q2] at hK
        (repeat ((conv => whnf); first | refine ⟨_, by assumption, ?_⟩ | refine ⟨_, _, by assumption, ?_⟩ | refine ⟨(show _ ∧ _ by omega), ?_⟩ | refine ⟨(show _ ∨ _ by omega), ?_⟩ | refine ⟨fun h => absurd h (by decide), fun _ => ?_⟩ | refine ⟨fun _ => ?_, fun h => absurd h (by decide)⟩ | refine ⟨fun _ => ?_, fun h => absurd rfl h⟩ | refine ⟨fun h => absurd rfl h, fun _ => ?_⟩)); try (conv => whnf)
        rw [x3]
        exact hK
    · rw [if_pos q] at hK
      (repeat ((conv => whnf); first | refine ⟨_, by assumption, ?_⟩ | refine ⟨_, _, by assumption, ?_⟩ | refine ⟨(show _ ∧ _ by omega), ?_⟩ | refine ⟨(show _ ∨ _ by omega), ?_⟩ | refine ⟨fun h => absurd h (by decide), fun _ => ?_⟩ | refine ⟨fun _ => ?_, fun h => absurd h (by decide)⟩ | refine ⟨fun _ => ?_, fun h => absurd rfl h⟩ | refine ⟨fun h => absurd rfl h, fun _ => ?_⟩)); try (conv => whnf)
      rw [x4]
      exact hK
  · rw [ptL, if_pos (by omega)] at hK
    (repeat ((conv => whnf); first | refine ⟨_, by assumption, ?_⟩ | refine ⟨_, _, by assumption, ?_⟩ | refine ⟨(show _ ∧ _ by omega), ?_⟩ | refine ⟨(show _ ∨ _ by omega), ?_⟩ | refine ⟨fun h => absurd h (by decide), fun _ => ?_⟩ | refine ⟨fun _ => ?_, fun h => absurd h (by decide)⟩ | refine ⟨fun _ => ?_, fun h => absurd rfl h⟩ | refine ⟨fun h => absurd rfl h, fun _ => ?_⟩)); try (conv => whnf)
    exact hK
def bestS (c : Int) (x : aT) (r : Int) : Int := if x.2.2 ≤ c ∧ r < x.2.1 + 1000000 then x.2.1 + 1000000 else r
def bestL (L : List aT) (c : Int) : Int := L.foldl (fun r x => bestS c x r) (-1)
def leastL (L : List aT) (s : Int) : Int := L.foldr (fun x r => if s ≤ x.2.1 then x.2.2 else r) (-1)
theorem foldl_take {α : Type} {f : α → aT → α} {a : α} {L : List aT} {k : Nat} {x : aT} (h : L[k]? = some x) : (L.take (k + 1)).foldl f a = f ((L.take k).foldl f a) x := by
  rw [List.take_add_one, h, List.foldl_append]
  rfl
theorem foldr_drop {α : Type} {f : aT → α → α} {a : α} {L : List aT} {k : Nat} {x : aT} (h : L[k]? = some x) : (L.drop k).foldr f a = f x ((L.drop (k + 1)).foldr f a) := by
  have hlt : k < L.length := by
    by_cases q : k < L.length
    · exact q
    · rw [List.getElem?_eq_none (by omega)] at h; cases h
  rw [List.drop_eq_getElem_cons hlt]
  rw [List.getElem?_eq_getElem hlt] at h
  injection h with h
  rw [h]
  rfl
/-- best(c) -/
theorem ok_mbest {P : aP} {d : Nat} {K : aK} {I : aI} {R : aR} {S : aS} {c : Int} (hM : MS R S) (hW : WF (I 362)) (hc : iR c) (h0 : c < 0 → K (some (vi (-1000000002))) I R S) (hK : 0 ≤ c → ∀ I' L, QF I I' → Fro L (PtsX (I 362)) → K (some (vi (bestL L c))) I' R S) : Ok P 112 (d + 7) [vr 361, vi c] I R S K := by
  obtain ⟨m0, r1, m1, r2, m2, r3, m3, r4, m4, r5, m5, r6, m6, r7, m7, r8, m8, r9, m9, r10, m10, r11, m11, r12, m12, r13, m13, r14, m14, r15, m15⟩ := id hM
  refine Ok.of (by decide) rfl (Nat.le_of_ble_eq_true rfl) ?_
  refine Go.walk 400 [15] E112 E112_ok (fun G C hG hC => ?_)
  (repeat ((conv => whnf); first | refine ⟨_, by assumption, ?_⟩ | refine ⟨_, _, by assumption, ?_⟩ | refine ⟨(show _ ∧ _ by omega), ?_⟩ | refine ⟨(show _ ∨ _ by omega), ?_⟩ | refine ⟨fun h => absurd h (by decide), fun _ => ?_⟩ | refine ⟨fun _ => ?_, fun h => absurd h (by decide)⟩ | refine ⟨fun _ => ?_, fun h => absurd rfl h⟩ | refine ⟨fun h => absurd rfl h, fun _ => ?_⟩)); try (conv => whnf)
  refine ⟨fun hc0 => ?_, fun hc0 => ?_⟩
  · (repeat ((conv => whnf); first | refine ⟨_, by assumption, ?_⟩ | refine ⟨_, _, by assumption, ?_⟩ | refine ⟨(show _ ∧ _ by omega), ?_⟩ | refine ⟨(show _ ∨ _ by omega), ?_⟩ | refine ⟨fun h => absurd h (by decide), fun _ => ?_⟩ | refine ⟨fun _ => ?_, fun h => absurd h (by decide)⟩ | refine ⟨fun _ => ?_, fun h => absurd rfl h⟩ | refine ⟨fun h => absurd rfl h, fun _ => ?_⟩)); try (conv => whnf)
    refine hC _ _ _ _ _ _ ?_
    refine ok_seeksPoints hM hW (fun I' L hF hL e18 hH hlen hB => ?_)
    have hK := hK hc0 I' L (QF.mf hF) hL
    have e : I' 361 ((18 : Nat) : Int) = L.length := e18
    (repeat ((conv => whnf); first | refine ⟨_, by assumption, ?_⟩ | refine ⟨_, _, by assumption, ?_⟩ | refine ⟨(show _ ∧ _ by omega), ?_⟩ | refine ⟨(show _ ∨ _ by omega), ?_⟩ | refine ⟨fun h => absurd h (by decide), fun _ => ?_⟩ | refine ⟨fun _ => ?_, fun h => absurd h (by decide)⟩ | refine ⟨fun _ => ?_, fun h => absurd rfl h⟩ | refine ⟨fun h => absurd rfl h, fun _ => ?_⟩)); try (conv => whnf)
    refine hG _ _ _ _ _ _ ?_
    have loop : ∀ (m k : Nat) (z : aV), k + m = L.length → iR ((L.take k).foldl (fun r x => bestS c x r) (-1)) → Go P 112 (d + 7) K 15 [vr 361, vi c, vi ((L.take k).foldl (fun r x => bestS c x r) (-1)), vi k, z] [] I' R S := by
      intro m
      induction m with
      | zero =>
        intro k z gm gr
        refine Go.walk 400 [15] E112 E112_ok (fun G C hG hC => ?_)
        (repeat ((conv => whnf); first | refine ⟨_, by assumption, ?_⟩ | refine ⟨_, _, by assumption, ?_⟩ | refine ⟨(show _ ∧ _ by omega), ?_⟩ | refine ⟨(show _ ∨ _ by omega), ?_⟩ | refine ⟨fun h => absurd h (by decide), fun _ => ?_⟩ | refine ⟨fun _ => ?_, fun h => absurd h (by decide)⟩ | refine ⟨fun _ => ?_, fun h => absurd rfl h⟩ | refine ⟨fun h => absurd rfl h, fun _ => ?_⟩)); try (conv => whnf)
        rw [e]
        refine ⟨fun _ => ?_, fun q => absurd (show (L.length : Int) ≤ k by omega) q⟩
        (repeat ((conv => whnf); first | refine ⟨_, by assumption, ?_⟩ | refine ⟨_, _, by assumption, ?_⟩ | refine ⟨(show _ ∧ _ by omega), ?_⟩ | refine ⟨(show _ ∨ _ by omega), ?_⟩ | refine ⟨fun h => absurd h (by decide), fun _ => ?_⟩ | refine ⟨fun _ => ?_, fun h => absurd h (by decide)⟩ | refine ⟨fun _ => ?_, fun h => absurd rfl h⟩ | refine ⟨fun h => absurd rfl h, fun _ => ?_⟩)); try (conv => whnf)
        rw [List.take_of_length_le (by omega)]
        exact hK
      | succ m ih =>
        intro k z gm gr
        obtain ⟨x, x0, x1, x2, x3, x4⟩ := hd_at hH hB (i := (k : Int)) (by omega)
        obtain ⟨b1, b2, b3⟩ := x1
        rw [Int.toNat_natCast] at x0
        have ih2 := ih (k + 1)
        rw [foldl_take x0] at ih2
        have e5 : ((k + 1 : Nat) : Int) = (k : Int) + 1 := by omega
        rw [e5] at ih2
        refine Go.walk 400 [15] E112 E112_ok (fun G C hG hC => ?_)
        (repeat ((conv => whnf); first | refine ⟨_, by assumption, ?_⟩ | refine ⟨_, _, by assumption, ?_⟩ | refine ⟨(show _ ∧ _ by omega), ?_⟩ | refine ⟨(show _ ∨ _ by omega), ?_⟩ | refine ⟨fun h => absurd h (by decide), fun _ => ?_⟩ | refine ⟨fun _ => ?_, fun h => absurd h (by decide)⟩ | refine ⟨fun _ => ?_, fun h => absurd rfl h⟩ | refine ⟨fun h => absurd rfl h, fun _ => ?_⟩)); try (conv => whnf)
        rw [e]
        refine ⟨fun q => absurd q (by omega), fun _ => ?_⟩
        (repeat ((conv => whnf); first | refine ⟨_, by assumption, ?_⟩ | refine ⟨_, _, by assumption, ?_⟩ | refine ⟨(show _ ∧ _ by omega), ?_⟩ | refine ⟨(show _ ∨ _ by omega), ?_⟩ | refine ⟨fun h => absurd h (by decide), fun _ => ?_⟩ | refine ⟨fun _ => ?_, fun h => absurd h (by decide)⟩ | refine ⟨fun _ => ?_, fun h => absurd rfl h⟩ | refine ⟨fun h => absurd rfl h, fun _ => ?_⟩)); try (conv => whnf)
        rw [x3, x4]
        refine ⟨fun q => ?_, fun q => ?_⟩
        · rw [bestS, if_neg (by omega)] at ih2
          (repeat ((conv => whnf); first | refine ⟨_, by assumption, ?_⟩ | refine ⟨_, _, by assumption, ?_⟩ | refine ⟨(show _ ∧ _ by omega), ?_⟩ | refine ⟨(show _ ∨ _ by omega), ?_⟩ | refine ⟨fun h => absurd h (by decide), fun _ => ?_⟩ | refine ⟨fun _ => ?_, fun h => absurd h (by decide)⟩ | refine ⟨fun _ => ?_, fun h => absurd rfl h⟩ | refine ⟨fun h => absurd rfl h, fun _ => ?_⟩)); try (conv => whnf)
          refine hG _ _ _ _ _ _ ?_
          exact ih2 _ (by omega) gr
        · (repeat ((conv => whnf); first | refine ⟨_, by assumption, ?_⟩ | refine ⟨_, _, by assumption, ?_⟩ | refine ⟨(show _ ∧ _ by omega), ?_⟩ | refine ⟨(show _ ∨ _ by omega), ?_⟩ | refine ⟨fun h => absurd h (by decide), fun _ => ?_⟩ | refine ⟨fun _ => ?_, fun h => absurd h (by decide)⟩ | refine ⟨fun _ => ?_, fun h => absurd rfl h⟩ | refine ⟨fun h => absurd rfl h, fun _ => ?_⟩)); try (conv => whnf)
          refine ⟨fun q2 => ?_, fun q2 => ?_⟩
          · rw [bestS, if_neg (by omega)] at ih2
            (repeat ((conv => whnf); first | refine ⟨_, by assumption, ?_⟩ | refine ⟨_, _, by assumption, ?_⟩ | refine ⟨(show _ ∧ _ by omega), ?_⟩ | refine ⟨(show _ ∨ _ by omega), ?_⟩ | refine ⟨fun h => absurd h (by decide), fun _ => ?_⟩ | refine ⟨fun _ => ?_, fun h => absurd h (by decide)⟩ | refine ⟨fun _ => ?_, fun h => absurd rfl h⟩ | refine ⟨fun h => absurd rfl h, fun _ => ?_⟩)); try (conv => whnf)
            refine hG _ _ _ _ _ _ ?_
            exact ih2 _ (by omega) gr
          · rw [bestS, if_pos (by omega)] at ih2
            (repeat ((conv => whnf); first | refine ⟨_, by assumption, ?_⟩ | refine ⟨_, _, by assumption, ?_⟩ | refine ⟨(show _ ∧ _ by omega), ?_⟩ | refine ⟨(show _ ∨ _ by omega), ?_⟩ | refine ⟨fun h => absurd h (by decide), fun _ => ?_⟩ | refine ⟨fun _ => ?_, fun h => absurd h (by decide)⟩ | refine ⟨fun _ => ?_, fun h => absurd rfl h⟩ | refine ⟨fun h => absurd rfl h, fun _ => ?_⟩)); try (conv => whnf)
            refine hG _ _ _ _ _ _ ?_
            exact ih2 _ (by omega) (by omega)
    exact loop L.length 0 vu (by omega) (by show iR (-1); omega)
  · (repeat ((conv => whnf); first | refine ⟨_, by assumption, ?_⟩ | refine ⟨_, _, by assumption, ?_⟩ | refine ⟨(show _ ∧ _ by omega), ?_⟩ | refine ⟨(show _ ∨ _ by omega), ?_⟩ | refine ⟨fun h => absurd h (by decide), fun _ => ?_⟩ | refine ⟨fun _ => ?_, fun h => absurd h (by decide)⟩ | refine ⟨fun _ => ?_, fun h => absurd rfl h⟩ | refine ⟨fun h => absurd rfl h, fun _ => ?_⟩)); try (conv => whnf)
    exact h0 (by omega)
/-- least(s) -/
theorem ok_mleast {P : aP} {d : Nat} {K : aK} {I : aI} {R : aR} {S : aS} {s : Int} (hM : MS R S) (hW : WF (I 362)) (hs : iR s) (hK : ∀ I' L, QF I I' → Fro L (PtsX (I 362)) → K (some (vi (leastL L s))) I' R S) : Ok P 113 (d + 7) [vr 361, vi s] I R S K := by
  obtain ⟨m0, r1, m1, r2, m2, r3, m3, r4, m4, r5, m5, r6, m6, r7, m7, r8, m8, r9, m9, r10, m10, r11, m11, r12, m12, r13, m13, r14, m14, r15, m15⟩ := id hM
  refine Ok.of (by decide) rfl (Nat.le_of_ble_eq_true rfl) ?_
  refine Go.walk 400 [13] E113 E113_ok (fun G C hG hC => ?_)
  (repeat ((conv => whnf); first | refine ⟨_, by assumption, ?_⟩ | refine ⟨_, _, by assumption, ?_⟩ | refine ⟨(show _ ∧ _ by omega), ?_⟩ | refine ⟨(show _ ∨ _ by omega), ?_⟩ | refine ⟨fun h => absurd h (by decide), fun _ => ?_⟩ | refine ⟨fun _ => ?_, fun h => absurd h (by decide)⟩ | refine ⟨fun _ => ?_, fun h => absurd rfl h⟩ | refine ⟨fun h => absurd rfl h, fun _ => ?_⟩)); try (conv => whnf)
  refine hC _ _ _ _ _ _ ?_
  refine ok_seeksPoints hM hW (fun I' L hF hL e18 hH hlen hB => ?_)
  have hK := hK I' L (QF.mf hF) hL
  have e : I' 361 ((18 : Nat) : Int) = L.length := e18
  (repeat ((conv => whnf); first | refine ⟨_, by assumption, ?_⟩ | refine ⟨_, _, by assumption, ?_⟩ | refine ⟨(show _ ∧ _ by omega), ?_⟩ | refine ⟨(show _ ∨ _ by omega), ?_⟩ | refine ⟨fun h => absurd h (by decide), fun _ => ?_⟩ | refine ⟨fun _ => ?_, fun h => absurd h (by decide)⟩ | refine ⟨fun _ => ?_, fun h => absurd rfl h⟩ | refine ⟨fun h => absurd rfl h, fun _ => ?_⟩)); try (conv => whnf)
  rw [e]
  refine hG _ _ _ _ _ _ ?_
  have loop : ∀ (k : Nat), k ≤ L.length → Go P 113 (d + 7) K 13 [vr 361, vi s, vi ((L.drop k).foldr (fun x r => if s ≤ x.2.1 then x.2.2 else r) (-1)), vi ((k : Int) - 1)] [] I' R S := by
    intro k
    induction k with
    | zero =>
      intro gm
      refine Go.walk 400 [13] E113 E113_ok (fun G C hG hC => ?_)
      (repeat ((conv => whnf); first | refine ⟨_, by assumption, ?_⟩ | refine ⟨_, _, by assumption, ?_⟩ | refine ⟨(show _ ∧ _ by omega), ?_⟩ | refine ⟨(show _ ∨ _ by omega), ?_⟩ | refine ⟨fun h => absurd h (by decide), fun _ => ?_⟩ | refine ⟨fun _ => ?_, fun h => absurd h (by decide)⟩ | refine ⟨fun _ => ?_, fun h => absurd rfl h⟩ | refine ⟨fun h => absurd rfl h, fun _ => ?_⟩)); try (conv => whnf)
      exact hK
    | succ k ih =>
      intro gm
      obtain ⟨x, x0, x1, x2, x3, x4⟩ := hd_at hH hB (i := (k : Int)) (by omega)
      obtain ⟨b1, b2, b3⟩ := x1
      rw [Int.toNat_natCast] at x0
      have ih2 := ih (by omega)
      rw [foldr_drop x0] at ih2
      have e5 : ((k + 1 : Nat) : Int) - 1 = (k : Int) := by omega
      rw [e5]
      refine Go.walk 400 [13] E113 E113_ok (fun G C hG hC => ?_)
      (repeat ((conv => whnf); first | refine ⟨_, by assumption, ?_⟩ | refine ⟨_, _, by assumption, ?_⟩ | refine ⟨(show _ ∧ _ by omega), ?_⟩ | refine ⟨(show _ ∨ _ by omega), ?_⟩ | refine ⟨fun h => absurd h (by decide), fun _ => ?_⟩ | refine ⟨fun _ => ?_, fun h => absurd h (by decide)⟩ | refine ⟨fun _ => ?_, fun h => absurd rfl h⟩ | refine ⟨fun h => absurd rfl h, fun _ => ?_⟩)); try (conv => whnf)
      refine ⟨fun q => absurd q (by omega), fun _ => ?_⟩
      (repeat ((conv => whnf); first | refine ⟨_, by assumption, ?_⟩ | refine ⟨_, _, by assumption, ?_⟩ | refine ⟨(show _ ∧ _ by omega), ?_⟩ | refine ⟨(show _ ∨ _ by omega), ?_⟩ | refine ⟨fun h => absurd h (by decide), fun _ => ?_⟩ | refine ⟨fun _ => ?_, fun h => absurd h (by decide)⟩ | refine ⟨fun _ => ?_, fun h => absurd rfl h⟩ | refine ⟨fun h => absurd rfl h, fun _ => ?_⟩)); try (conv => whnf)
      rw [x3]
      refine ⟨fun q => ?_, fun q => ?_⟩
      · rw [if_neg (by omega)] at ih2
        (repeat ((conv => whnf); first | refine ⟨_, by assumption, ?_⟩ | refine ⟨_, _, by assumption, ?_⟩ | refine ⟨(show _ ∧ _ by omega), ?_⟩ | refine ⟨(show _ ∨ _ by omega), ?_⟩ | refine ⟨fun h => absurd h (by decide), fun _ => ?_⟩ | refine ⟨fun _ => ?_, fun h => absurd h (by decide)⟩ | refine ⟨fun _ => ?_, fun h => absurd rfl h⟩ | refine ⟨fun h => absurd rfl h, fun _ => ?_⟩)); try (conv => whnf)
        refine hG _ _ _ _ _ _ ?_
        exact ih2
      · rw [if_pos (by omega)] at ih2
        (repeat ((conv => whnf); first | refine ⟨_, by assumption, ?_⟩ | refine ⟨_, _, by assumption, ?_⟩ | refine ⟨(show _ ∧ _ by omega), ?_⟩ | refine ⟨(show _ ∨ _ by omega), ?_⟩ | refine ⟨fun h => absurd h (by decide), fun _ => ?_⟩ | refine ⟨fun _ => ?_, fun h => absurd h (by decide)⟩ | refine ⟨fun _ => ?_, fun h => absurd rfl h⟩ | refine ⟨fun h => absurd rfl h, fun _ => ?_⟩)); try (conv => whnf)
        rw [x4]
        refine hG _ _ _ _ _ _ ?_
        exact ih2
  have := loop L.length (Nat.le_refl _)
  rw [List.drop_of_length_le (Nat.le_refl _)] at this
  exact this
end
section
/-! the reference: widest, worst, wrongEntry -/
theorem bAnd1 (x : Int) : 0 ≤ bAnd x 1 ∧ bAnd x 1 ≤ 1 := by
  have h : bAnd x 1 = ((Int32.ofInt x).toBitVec &&& 1#32).toInt := rfl
  rw [h, BitVec.and_one_eq_setWidth_ofBool_getLsbD]
  cases ((Int32.ofInt x).toBitVec.getLsbD 0) <;> decide
theorem bShl1_bd {m : Int} (h : 1 ≤ m ∧ m ≤ 6) : 1 ≤ bShl 1 (m - 1) ∧ bShl 1 (m - 1) ≤ 32 := by
  have : m = 1 ∨ m = 2 ∨ m = 3 ∨ m = 4 ∨ m = 5 ∨ m = 6 := by omega
  rcases this with rfl | rfl | rfl | rfl | rfl | rfl <;> decide
def wdS (set : Int) : Int → Int := fun v => 1 + bAnd (bShr set (v - 1)) 1
theorem wdS_ok {n : aN} {set : Int} : WdOk n (wdS set) := fun v _ _ => by
  have := bAnd1 (bShr set (v - 1))
  unfold wdS
  omega
def widS (n : aN) (set r : Int) : Int := if set = 0 ∨ r < sla n (pl0 n) (wdS set) then sla n (pl0 n) (wdS set) else r
def mWid (n : aN) : Int := rf (widS n) 0 0 (bShl 1 (n 0 - 1))
theorem iR_sh (x y : Int) : iR (bShr x y) := iR_t32 _
/-- widest() -/
theorem ok_mwidest {P : aP} {d : Nat} {K : aK} {I : aI} {R : aR} {S : aS} (hM : MS R S) (hW : WF (I 362)) (hK : ∀ I', Fr [368, 369, 370, 371, 372, 373] I I' → K (some (vi (mWid (I 362)))) I' R S) : Ok P 99 (d + 6) [vr 361] I R S K := by
  obtain ⟨m0, r1, m1, r2, m2, r3, m3, r4, m4, r5, m5, r6, m6, r7, m7, r8, m8, r9, m9, r10, m10, r11, m11, r12, m12, r13, m13, r14, m14, r15, m15⟩ := id hM
  have hN := hW.1
  have hb := bShl1_bd (m := I 362 0) (by omega)
  have inner : ∀ (set r : Int), iR set → ∀ (m : Nat) (k : Int) (I' : aI), 1 ≤ k → I 362 0 - k = m → Fr [368, 369, 370, 371, 372, 373] I I' → (∀ v, 0 ≤ v → v < I 362 0 → I' 368 v = pl0 (I 362) v) → (∀ v, 1 ≤ v → v < k → I' 369 v = wdS set v) →
      (∀ I2, Fr [368, 369, 370, 371, 372, 373] I I2 → (∀ v, 0 ≤ v → v < I 362 0 → I2 368 v = pl0 (I 362) v) → (∀ v, 1 ≤ v → v < I 362 0 → I2 369 v = wdS set v) → Go P 99 (d + 6) K 55 [vr 361, vi r, vi set, vi (I 362 0)] [] I2 R S) →
      Go P 99 (d + 6) K 24 [vr 361, vi r, vi set, vi k] [] I' R S := by
    intro set r hset m
    induction m with
    | zero =>
      intro k I' h1 hm hF h8 h9 hk
      have e := hF 362 (by decide)
      have hN' := hN
      rw [← e] at hN'
      have hkN : k = I 362 0 := by omega
      subst hkN
      refine Go.walk 400 [24, 55] E99 E99_ok (fun G C hG hC => ?_)
      (repeat ((conv => whnf); first | refine ⟨_, by assumption, ?_⟩ | refine ⟨_, _, by assumption, ?_⟩ | refine ⟨(show _ ∧ _ by omega), ?_⟩ | refine ⟨(show _ ∨ _ by omega), ?_⟩ | refine ⟨fun h => absurd h (by decide), fun _ => ?_⟩ | refine ⟨fun _ => ?_, fun h => absurd h (by decide)⟩ | refine ⟨fun _ => ?_, fun h => absurd rfl h⟩ | refine ⟨fun h => absurd rfl h, fun _ => ?_⟩)); try (conv => whnf)
      rw [e]
      refine ⟨fun _ => ?_, fun q => absurd (Int.le_refl _) q⟩
      (repeat ((conv => whnf); first | refine ⟨_, by assumption, ?_⟩ | refine ⟨_, _, by assumption, ?_⟩ | refine ⟨(show _ ∧ _ by omega), ?_⟩ | refine ⟨(show _ ∨ _ by omega), ?_⟩ | refine ⟨fun h => absurd h (by decide), fun _ => ?_⟩ | refine ⟨fun _ => ?_, fun h => absurd h (by decide)⟩ | refine ⟨fun _ => ?_, fun h => absurd rfl h⟩ | refine ⟨fun h => absurd rfl h, fun _ => ?_⟩)); try (conv => whnf)
      refine hG _ _ _ _ _ _ ?_
      exact hk I' hF h8 h9
    | succ m ih =>
      intro k I' h1 hm hF h8 h9 hk
      have e := hF 362 (by decide)
      have hN' := hN
      rw [← e] at hN'
      have hsh := iR_sh set (k - 1)
      have h1b := bAnd1 (bShr set (k - 1))
      refine Go.walk 400 [24, 55] E99 E99_ok (fun G C hG hC => ?_)
      (repeat ((conv => whnf); first | refine ⟨_, by assumption, ?_⟩ | refine ⟨_, _, by assumption, ?_⟩ | refine ⟨(show _ ∧ _ by omega), ?_⟩ | refine ⟨(show _ ∨ _ by omega), ?_⟩ | refine ⟨fun h => absurd h (by decide), fun _ => ?_⟩ | refine ⟨fun _ => ?_, fun h => absurd h (by decide)⟩ | refine ⟨fun _ => ?_, fun h => absurd rfl h⟩ | refine ⟨fun h => absurd rfl h, fun _ => ?_⟩)); try (conv => whnf)
      rw [e]
      refine ⟨fun q => absurd q (by omega), fun _ => ?_⟩
      (repeat ((conv => whnf); first | refine ⟨_, by assumption, ?_⟩ | refine ⟨_, _, by assumption, ?_⟩ | refine ⟨(show _ ∧ _ by omega), ?_⟩ | refine ⟨(show _ ∨ _ by omega), ?_⟩ | refine ⟨fun h => absurd h (by decide), fun _ => ?_⟩ | refine ⟨fun _ => ?_, fun h => absurd h (by decide)⟩ | refine ⟨fun _ => ?_, fun h => absurd rfl h⟩ | refine ⟨fun h => absurd rfl h, fun _ => ?_⟩)); try (conv => whnf)
      refine hG _ _ _ _ _ _ ?_
      refine ih (k + 1) _ (by omega) (by omega) (hF.put (by decide)) (fun v a b => ?_) (fun v a b => ?_) hk
      · rw [uI_ne (by omega)]; exact h8 v a b
      · by_cases q : v = k
        · subst q; exact uI_at
        · rw [uI_ne (by omega)]; exact h9 v a (by omega)
  have outer : ∀ (m : Nat) (set : Int) (I' : aI) (z : aV), 0 ≤ set → bShl 1 (I 362 0 - 1) - set = m → Fr [368, 369, 370, 371, 372, 373] I I' → (∀ v, 0 ≤ v → v < I 362 0 → I' 368 v = pl0 (I 362) v) → iR (rf (widS (I 362)) 0 0 set) →
      Go P 99 (d + 6) K 8 [vr 361, vi (rf (widS (I 362)) 0 0 set), vi set, z] [] I' R S := by
    intro m
    induction m with
    | zero =>
      intro set I' z h0 hm hF h8 hr
      have e := hF 362 (by decide)
      have hN' := hN
      have hb' := hb
      rw [← e] at hN' hb'
      have hs : set = bShl 1 (I 362 0 - 1) := by omega
      refine Go.walk 400 [8] E99 E99_ok (fun G C hG hC => ?_)
      (repeat ((conv => whnf); first | refine ⟨_, by assumption, ?_⟩ | refine ⟨_, _, by assumption, ?_⟩ | refine ⟨(show _ ∧ _ by omega), ?_⟩ | refine ⟨(show _ ∨ _ by omega), ?_⟩ | refine ⟨fun h => absurd h (by decide), fun _ => ?_⟩ | refine ⟨fun _ => ?_, fun h => absurd h (by decide)⟩ | refine ⟨fun _ => ?_, fun h => absurd rfl h⟩ | refine ⟨fun h => absurd rfl h, fun _ => ?_⟩)); try (conv => whnf)
      rw [e]
      refine ⟨fun _ => ?_, fun q => absurd (show bShl 1 (I 362 0 - 1) ≤ set by omega) q⟩
      (repeat ((conv => whnf); first | refine ⟨_, by assumption, ?_⟩ | refine ⟨_, _, by assumption, ?_⟩ | refine ⟨(show _ ∧ _ by omega), ?_⟩ | refine ⟨(show _ ∨ _ by omega), ?_⟩ | refine ⟨fun h => absurd h (by decide), fun _ => ?_⟩ | refine ⟨fun _ => ?_, fun h => absurd h (by decide)⟩ | refine ⟨fun _ => ?_, fun h => absurd rfl h⟩ | refine ⟨fun h => absurd rfl h, fun _ => ?_⟩)); try (conv => whnf)
      have := hK I' hF
      rw [mWid, ← hs] at this
      exact this
    | succ m ih =>
      intro set I' z h0 hm hF h8 hr
      have e := hF 362 (by decide)
      have hN' := hN
      have hb' := hb
      rw [← e] at hN' hb'
      refine Go.walk 400 [8, 24] E99 E99_ok (fun G C hG hC => ?_)
      (repeat ((conv => whnf); first | refine ⟨_, by assumption, ?_⟩ | refine ⟨_, _, by assumption, ?_⟩ | refine ⟨(show _ ∧ _ by omega), ?_⟩ | refine ⟨(show _ ∨ _ by omega), ?_⟩ | refine ⟨fun h => absurd h (by decide), fun _ => ?_⟩ | refine ⟨fun _ => ?_, fun h => absurd h (by decide)⟩ | refine ⟨fun _ => ?_, fun h => absurd rfl h⟩ | refine ⟨fun h => absurd rfl h, fun _ => ?_⟩)); try (conv => whnf)
      rw [e]
      refine ⟨fun q => absurd (show bShl 1 (I 362 0 - 1) ≤ set from q) (by omega), fun _ => ?_⟩
      (repeat ((conv => whnf); first | refine ⟨_, by assumption, ?_⟩ | refine ⟨_, _, by assumption, ?_⟩ | refine ⟨(show _ ∧ _ by omega), ?_⟩ | refine ⟨(show _ ∨ _ by omega), ?_⟩ | refine ⟨fun h => absurd h (by decide), fun _ => ?_⟩ | refine ⟨fun _ => ?_, fun h => absurd h (by decide)⟩ | refine ⟨fun _ => ?_, fun h => absurd rfl h⟩ | refine ⟨fun h => absurd rfl h, fun _ => ?_⟩)); try (conv => whnf)
      refine hG _ _ _ _ _ _ ?_
      refine inner set _ (by omega) (I 362 0 - 1).toNat 1 I' (by omega) (by omega) hF h8 (fun v a b => absurd b (by omega)) (fun I2 hF2 g8 g9 => ?_)
      have e2 := hF2 362 (by decide)
      refine Go.walk 400 [8] E99 E99_ok (fun G C hG hC => ?_)
      (repeat ((conv => whnf); first | refine ⟨_, by assumption, ?_⟩ | refine ⟨_, _, by assumption, ?_⟩ | refine ⟨(show _ ∧ _ by omega), ?_⟩ | refine ⟨(show _ ∨ _ by omega), ?_⟩ | refine ⟨fun h => absurd h (by decide), fun _ => ?_⟩ | refine ⟨fun _ => ?_, fun h => absurd h (by decide)⟩ | refine ⟨fun _ => ?_, fun h => absurd rfl h⟩ | refine ⟨fun h => absurd rfl h, fun _ => ?_⟩)); try (conv => whnf)
      refine hC _ _ _ _ _ _ ?_
      refine ok_runsAll2 (pl := pl0 (I 362)) (wd := wdS set) hM (by rw [e2]; exact hW) (by rw [e2]; exact pl0_ok hW) wdS_ok (by rw [e2]; exact g8) (by rw [e2]; exact g9) (fun I3 hF3 g3 => ?_)
      rw [e2] at g3
      have e3 : I3 362 = I 362 := by rw [hF3 362 (by decide), e2]
      (repeat ((conv => whnf); first | refine ⟨_, by assumption, ?_⟩ | refine ⟨_, _, by assumption, ?_⟩ | refine ⟨(show _ ∧ _ by omega), ?_⟩ | refine ⟨(show _ ∨ _ by omega), ?_⟩ | refine ⟨fun h => absurd h (by decide), fun _ => ?_⟩ | refine ⟨fun _ => ?_, fun h => absurd h (by decide)⟩ | refine ⟨fun _ => ?_, fun h => absurd rfl h⟩ | refine ⟨fun h => absurd rfl h, fun _ => ?_⟩)); try (conv => whnf)
      refine hC _ _ _ _ _ _ ?_
      refine ok_slack0 hM e3 hW (pl0_ok hW) wdS_ok g3 ?_
      have hsb := sla_bd hW (pl0_ok hW) (wdS_ok (n := I 362) (set := set))
      have ih2 := ih (set + 1)
      rw [rf_succ h0] at ih2
      have h38 : ∀ v, 0 ≤ v → v < I 362 0 → I3 368 v = pl0 (I 362) v := fun v a b => by rw [hF3 368 (by decide)]; exact g8 v a b
      have hF03 : Fr [368, 369, 370, 371, 372, 373] I I3 := hF2.trans hF3 (by simp <;> omega)
      (repeat ((conv => whnf); first | refine ⟨_, by assumption, ?_⟩ | refine ⟨_, _, by assumption, ?_⟩ | refine ⟨(show _ ∧ _ by omega), ?_⟩ | refine ⟨(show _ ∨ _ by omega), ?_⟩ | refine ⟨fun h => absurd h (by decide), fun _ => ?_⟩ | refine ⟨fun _ => ?_, fun h => absurd h (by decide)⟩ | refine ⟨fun _ => ?_, fun h => absurd rfl h⟩ | refine ⟨fun h => absurd rfl h, fun _ => ?_⟩)); try (conv => whnf)
      refine ⟨fun q => ?_, fun q => ?_⟩
      · rw [widS, if_pos (by omega)] at ih2
        (repeat ((conv => whnf); first | refine ⟨_, by assumption, ?_⟩ | refine ⟨_, _, by assumption, ?_⟩ | refine ⟨(show _ ∧ _ by omega), ?_⟩ | refine ⟨(show _ ∨ _ by omega), ?_⟩ | refine ⟨fun h => absurd h (by decide), fun _ => ?_⟩ | refine ⟨fun _ => ?_, fun h => absurd h (by decide)⟩ | refine ⟨fun _ => ?_, fun h => absurd rfl h⟩ | refine ⟨fun h => absurd rfl h, fun _ => ?_⟩)); try (conv => whnf)
        refine hG _ _ _ _ _ _ ?_
        exact ih2 I3 _ (by omega) (by omega) hF03 h38 (by omega)
      · (repeat ((conv => whnf); first | refine ⟨_, by assumption, ?_⟩ | refine ⟨_, _, by assumption, ?_⟩ | refine ⟨(show _ ∧ _ by omega), ?_⟩ | refine ⟨(show _ ∨ _ by omega), ?_⟩ | refine ⟨fun h => absurd h (by decide), fun _ => ?_⟩ | refine ⟨fun _ => ?_, fun h => absurd h (by decide)⟩ | refine ⟨fun _ => ?_, fun h => absurd rfl h⟩ | refine ⟨fun h => absurd rfl h, fun _ => ?_⟩)); try (conv => whnf)
        refine ⟨fun q2 => ?_, fun q2 => ?_⟩
        · rw [widS, if_neg (by omega)] at ih2
          (repeat ((conv => whnf); first | refine ⟨_, by assumption, ?_⟩ | refine ⟨_, _, by assumption, ?_⟩ | refine ⟨(show _ ∧ _ by omega), ?_⟩ | refine ⟨(show _ ∨ _ by omega), ?_⟩ | refine ⟨fun h => absurd h (by decide), fun _ => ?_⟩ | refine ⟨fun _ => ?_, fun h => absurd h (by decide)⟩ | refine ⟨fun _ => ?_, fun h => absurd rfl h⟩ | refine ⟨fun h => absurd rfl h, fun _ => ?_⟩)); try (conv => whnf)
          refine hG _ _ _ _ _ _ ?_
          exact ih2 I3 _ (by omega) (by omega) hF03 h38 hr
        · rw [widS, if_pos (by omega)] at ih2
          (repeat ((conv => whnf); first | refine ⟨_, by assumption, ?_⟩ | refine ⟨_, _, by assumption, ?_⟩ | refine ⟨(show _ ∧ _ by omega), ?_⟩ | refine ⟨(show _ ∨ _ by omega), ?_⟩ | refine ⟨fun h => absurd h (by decide), fun _ => ?_⟩ | refine ⟨fun _ => ?_, fun h => absurd h (by decide)⟩ | refine ⟨fun _ => ?_, fun h => absurd rfl h⟩ | refine ⟨fun h => absurd rfl h, fun _ => ?_⟩)); try (conv => whnf)
          refine hG _ _ _ _ _ _ ?_
          exact ih2 I3 _ (by omega) (by omega) hF03 h38 (by omega)
  refine Ok.of (by decide) rfl (Nat.le_of_ble_eq_true rfl) ?_
  refine Go.walk 400 [8] E99 E99_ok (fun G C hG hC => ?_)
  (repeat ((conv => whnf); first | refine ⟨_, by assumption, ?_⟩ | refine ⟨_, _, by assumption, ?_⟩ | refine ⟨(show _ ∧ _ by omega), ?_⟩ | refine ⟨(show _ ∨ _ by omega), ?_⟩ | refine ⟨fun h => absurd h (by decide), fun _ => ?_⟩ | refine ⟨fun _ => ?_, fun h => absurd h (by decide)⟩ | refine ⟨fun _ => ?_, fun h => absurd rfl h⟩ | refine ⟨fun h => absurd rfl h, fun _ => ?_⟩)); try (conv => whnf)
  refine hC _ _ _ _ _ _ ?_
  refine ok_asPlaced hM hW (fun I1 hF1 g1 => ?_)
  (repeat ((conv => whnf); first | refine ⟨_, by assumption, ?_⟩ | refine ⟨_, _, by assumption, ?_⟩ | refine ⟨(show _ ∧ _ by omega), ?_⟩ | refine ⟨(show _ ∨ _ by omega), ?_⟩ | refine ⟨fun h => absurd h (by decide), fun _ => ?_⟩ | refine ⟨fun _ => ?_, fun h => absurd h (by decide)⟩ | refine ⟨fun _ => ?_, fun h => absurd rfl h⟩ | refine ⟨fun h => absurd rfl h, fun _ => ?_⟩)); try (conv => whnf)
  refine hG _ _ _ _ _ _ ?_
  exact outer (bShl 1 (I 362 0 - 1)).toNat 0 I1 vu (by omega) (by omega) (hF1.trans (Fr.rf (L := [])) (by simp <;> omega)) (fun v a b => (g1 v a b).1) iR0
def sla0 (n : aN) : Int := sla n (pl0 n) (wd0 n)
def tim0 (n : aN) (v : Int) : Int := tim n (pl0 n) (wd0 n) 0 (src n (pl0 n) (wd0 n)) v
def worF (n : aN) : Nat → Int → Int
  | 0, _ => -1
  | k + 1, v => if mEnd n v = true ∧ nf n v 5 - tim0 n v = sla0 n then v else worF n k (v + 1)
def mWorst (n : aN) : Int := worF n (n 0 - 1).toNat 1
theorem tim0_bd {n : aN} (hW : WF n) {v : Int} (h0 : 0 ≤ v) (h1 : v < n 0) : 0 ≤ tim0 n v ∧ tim0 n v ≤ 920000 := tim_bd hW (Int.le_refl 0) (src_bd hW (pl0_ok hW) (wd0_ok hW)) (pl0_ok hW).1 (pl0_ok hW).2 (wd0_ok hW) h0 h1 (bel0 hW h0 (by have := hW.1; omega))
/-- worst() -/
theorem ok_mworst {P : aP} {d : Nat} {K : aK} {I : aI} {R : aR} {S : aS} (hM : MS R S) (hW : WF (I 362)) (hK : ∀ I', Fr [368, 369, 370, 371, 372, 373] I I' → K (some (vi (mWorst (I 362)))) I' R S) : Ok P 103 (d + 7) [vr 361] I R S K := by
  obtain ⟨m0, r1, m1, r2, m2, r3, m3, r4, m4, r5, m5, r6, m6, r7, m7, r8, m8, r9, m9, r10, m10, r11, m11, r12, m12, r13, m13, r14, m14, r15, m15⟩ := id hM
  have hN := hW.1
  refine Ok.of (by decide) rfl (Nat.le_of_ble_eq_true rfl) ?_
  refine Go.walk 400 [7] E103 E103_ok (fun G C hG hC => ?_)
  (repeat ((conv => whnf); first | refine ⟨_, by assumption, ?_⟩ | refine ⟨_, _, by assumption, ?_⟩ | refine ⟨(show _ ∧ _ by omega), ?_⟩ | refine ⟨(show _ ∨ _ by omega), ?_⟩ | refine ⟨fun h => absurd h (by decide), fun _ => ?_⟩ | refine ⟨fun _ => ?_, fun h => absurd h (by decide)⟩ | refine ⟨fun _ => ?_, fun h => absurd rfl h⟩ | refine ⟨fun h => absurd rfl h, fun _ => ?_⟩)); try (conv => whnf)
  refine hC _ _ _ _ _ _ ?_
  refine ok_slackNow hM hW (fun I1 hF1 ha => ?_)
  have e := hF1 362 (by decide)
  have hs := sla_bd hW (pl0_ok hW) (wd0_ok hW)
  have hN' := hN
  rw [← e] at hN'
  (repeat ((conv => whnf); first | refine ⟨_, by assumption, ?_⟩ | refine ⟨_, _, by assumption, ?_⟩ | refine ⟨(show _ ∧ _ by omega), ?_⟩ | refine ⟨(show _ ∨ _ by omega), ?_⟩ | refine ⟨fun h => absurd h (by decide), fun _ => ?_⟩ | refine ⟨fun _ => ?_, fun h => absurd h (by decide)⟩ | refine ⟨fun _ => ?_, fun h => absurd rfl h⟩ | refine ⟨fun h => absurd rfl h, fun _ => ?_⟩)); try (conv => whnf)
  refine hG _ _ _ _ _ _ ?_
  have loop : ∀ (m : Nat) (v : Int), 1 ≤ v → I 362 0 - v = m → mWorst (I 362) = worF (I 362) m v → Go P 103 (d + 7) K 7 [vr 361, vi (sla0 (I 362)), vi v] [] I1 R S := by
    intro m
    induction m with
    | zero =>
      intro v h1 hm hw
      refine Go.walk 400 [7] E103 E103_ok (fun G C hG hC => ?_)
      (repeat ((conv => whnf); first | refine ⟨_, by assumption, ?_⟩ | refine ⟨_, _, by assumption, ?_⟩ | refine ⟨(show _ ∧ _ by omega), ?_⟩ | refine ⟨(show _ ∨ _ by omega), ?_⟩ | refine ⟨fun h => absurd h (by decide), fun _ => ?_⟩ | refine ⟨fun _ => ?_, fun h => absurd h (by decide)⟩ | refine ⟨fun _ => ?_, fun h => absurd rfl h⟩ | refine ⟨fun h => absurd rfl h, fun _ => ?_⟩)); try (conv => whnf)
      rw [e]
      refine ⟨fun _ => ?_, fun q => absurd (show I 362 0 ≤ v by omega) q⟩
      (repeat ((conv => whnf); first | refine ⟨_, by assumption, ?_⟩ | refine ⟨_, _, by assumption, ?_⟩ | refine ⟨(show _ ∧ _ by omega), ?_⟩ | refine ⟨(show _ ∨ _ by omega), ?_⟩ | refine ⟨fun h => absurd h (by decide), fun _ => ?_⟩ | refine ⟨fun _ => ?_, fun h => absurd h (by decide)⟩ | refine ⟨fun _ => ?_, fun h => absurd rfl h⟩ | refine ⟨fun h => absurd rfl h, fun _ => ?_⟩)); try (conv => whnf)
      have := hK I1 hF1
      rw [hw] at this
      exact this
    | succ m ih =>
      intro v h1 hm hw
      have ht := tim0_bd hW (v := v) (by omega) (by omega)
      have e3 : I1 372 v = tim0 (I 362) v := (ha v (by omega) (by omega)).2.2.1
      have hn5 := hW.2.1 v (by omega) (by omega)
      have hs : -920000 ≤ sla0 (I 362) ∧ sla0 (I 362) ≤ 900000 := hs
      unfold worF at hw
      refine Go.walk 400 [7] E103 E103_ok (fun G C hG hC => ?_)
      (repeat ((conv => whnf); first | refine ⟨_, by assumption, ?_⟩ | refine ⟨_, _, by assumption, ?_⟩ | refine ⟨(show _ ∧ _ by omega), ?_⟩ | refine ⟨(show _ ∨ _ by omega), ?_⟩ | refine ⟨fun h => absurd h (by decide), fun _ => ?_⟩ | refine ⟨fun _ => ?_, fun h => absurd h (by decide)⟩ | refine ⟨fun _ => ?_, fun h => absurd rfl h⟩ | refine ⟨fun h => absurd rfl h, fun _ => ?_⟩)); try (conv => whnf)
      rw [e]
      refine ⟨fun q => absurd q (by omega), fun _ => ?_⟩
      (repeat ((conv => whnf); first | refine ⟨_, by assumption, ?_⟩ | refine ⟨_, _, by assumption, ?_⟩ | refine ⟨(show _ ∧ _ by omega), ?_⟩ | refine ⟨(show _ ∨ _ by omega), ?_⟩ | refine ⟨fun h => absurd h (by decide), fun _ => ?_⟩ | refine ⟨fun _ => ?_, fun h => absurd h (by decide)⟩ | refine ⟨fun _ => ?_, fun h => absurd rfl h⟩ | refine ⟨fun h => absurd rfl h, fun _ => ?_⟩)); try (conv => whnf)
      refine hC _ _ _ _ _ _ ?_
      refine ok_isEnd hM (by rw [e]; exact hW) (by omega) (fun h5 => ?_) (fun h5 => ?_)
      · rw [e] at h5
        (repeat ((conv => whnf); first | refine ⟨_, by assumption, ?_⟩ | refine ⟨_, _, by assumption, ?_⟩ | refine ⟨(show _ ∧ _ by omega), ?_⟩ | refine ⟨(show _ ∨ _ by omega), ?_⟩ | refine ⟨fun h => absurd h (by decide), fun _ => ?_⟩ | refine ⟨fun _ => ?_, fun h => absurd h (by decide)⟩ | refine ⟨fun _ => ?_, fun h => absurd rfl h⟩ | refine ⟨fun h => absurd rfl h, fun _ => ?_⟩)); try (conv => whnf)
        refine hC _ _ _ _ _ _ ?_
        refine ok_of hM (by omega) ?_
        rw [e]
        (repeat ((conv => whnf); first | refine ⟨_, by assumption, ?_⟩ | refine ⟨_, _, by assumption, ?_⟩ | refine ⟨(show _ ∧ _ by omega), ?_⟩ | refine ⟨(show _ ∨ _ by omega), ?_⟩ | refine ⟨fun h => absurd h (by decide), fun _ => ?_⟩ | refine ⟨fun _ => ?_, fun h => absurd h (by decide)⟩ | refine ⟨fun _ => ?_, fun h => absurd rfl h⟩ | refine ⟨fun h => absurd rfl h, fun _ => ?_⟩)); try (conv => whnf)
        rw [e3]
        refine ⟨fun q => ?_, fun q => ?_⟩
        · rw [if_neg (fun z => q z.2)] at hw
          (repeat ((conv => whnf); first | refine ⟨_, by assumption, ?_⟩ | refine ⟨_, _, by assumption, ?_⟩ | refine ⟨(show _ ∧ _ by omega), ?_⟩ | refine ⟨(show _ ∨ _ by omega), ?_⟩ | refine ⟨fun h => absurd h (by decide), fun _ => ?_⟩ | refine ⟨fun _ => ?_, fun h => absurd h (by decide)⟩ | refine ⟨fun _ => ?_, fun h => absurd rfl h⟩ | refine ⟨fun h => absurd rfl h, fun _ => ?_⟩)); try (conv => whnf)
          refine hG _ _ _ _ _ _ ?_
          exact ih (v + 1) (by omega) (by omega) hw
        · rw [if_pos ⟨h5, by omega⟩] at hw
          (repeat ((conv => whnf); first | refine ⟨_, by assumption, ?_⟩ | refine ⟨_, _, by assumption, ?_⟩ | refine ⟨(show _ ∧ _ by omega), ?_⟩ | refine ⟨(show _ ∨ _ by omega), ?_⟩ | refine ⟨fun h => absurd h (by decide), fun _ => ?_⟩ | refine ⟨fun _ => ?_, fun h => absurd h (by decide)⟩ | refine ⟨fun _ => ?_, fun h => absurd rfl h⟩ | refine ⟨fun h => absurd rfl h, fun _ => ?_⟩)); try (conv => whnf)
          have := hK I1 hF1
          rw [hw] at this
          exact this
      · rw [e] at h5
        rw [if_neg (fun z => by rw [h5] at z; exact absurd z.1 Bool.false_ne_true)] at hw
        (repeat ((conv => whnf); first | refine ⟨_, by assumption, ?_⟩ | refine ⟨_, _, by assumption, ?_⟩ | refine ⟨(show _ ∧ _ by omega), ?_⟩ | refine ⟨(show _ ∨ _ by omega), ?_⟩ | refine ⟨fun h => absurd h (by decide), fun _ => ?_⟩ | refine ⟨fun _ => ?_, fun h => absurd h (by decide)⟩ | refine ⟨fun _ => ?_, fun h => absurd rfl h⟩ | refine ⟨fun h => absurd rfl h, fun _ => ?_⟩)); try (conv => whnf)
        refine hG _ _ _ _ _ _ ?_
        exact ih (v + 1) (by omega) (by omega) hw
  exact loop (I 362 0 - 1).toNat 1 (by omega) (by omega) rfl
def badE (n : aN) (x : Int × Int) : Bool := !(decide (0 ≤ x.1 ∧ x.1 < n 0) && decide (tim0 n x.1 = x.2))
theorem badE_no {n : aN} {x : Int × Int} (h : 0 ≤ x.1 ∧ x.1 < n 0) (h2 : tim0 n x.1 = x.2) : badE n x = false := by simp [badE, h, h2]
theorem badE_out {n : aN} {x : Int × Int} (h : ¬ (0 ≤ x.1 ∧ x.1 < n 0)) : badE n x = true := by
  unfold badE
  rw [decide_eq_false h]
  rfl
theorem badE_time {n : aN} {x : Int × Int} (h : ¬ (tim0 n x.1 = x.2)) : badE n x = true := by
  unfold badE
  rw [decide_eq_false h, Bool.and_false]
  rfl
def weL (n : aN) : List (Int × Int) → Int → Int
  | [], _ => -1
  | x :: B, i => if badE n x = true then i else weL n B (i + 1)
theorem weL_drop {n : aN} {B : List (Int × Int)} {k : Nat} {x : Int × Int} (h : B[k]? = some x) {i : Int} : weL n (B.drop k) i = if badE n x = true then i else weL n (B.drop (k + 1)) (i + 1) := by
  have hlt : k < B.length := by
    by_cases q : k < B.length
    · exact q
    · rw [List.getElem?_eq_none (by omega)] at h; cases h
  rw [List.drop_eq_getElem_cons hlt]
  rw [List.getElem?_eq_getElem hlt] at h
  injection h with h
  rw [h]
  rfl
theorem weL_bd {n : aN} : ∀ (B : List (Int × Int)) (i : Int), 0 ≤ i → -1 ≤ weL n B i ∧ weL n B i ≤ i + B.length
  | [], i, h => by simp only [weL, List.length_nil]; omega
  | x :: B, i, h => by
    have := weL_bd (n := n) B (i + 1) (by omega)
    simp only [weL, List.length_cons]
    split <;> omega
/-- wrongEntry() -/
theorem ok_mwrongEntry {P : aP} {d : Nat} {K : aK} {I : aI} {R : aR} {S : aS} {B : List (Int × Int)} (hM : MS R S) (hW : WF (I 362)) (hB : BookM I B) (hBr : ∀ p ∈ B, iR p.1 ∧ iR p.2) (hK : ∀ I', Fr [368, 369, 370, 371, 372, 373] I I' → K (some (vi (weL (I 362) B 0))) I' R S) : Ok P 101 (d + 7) [vr 361] I R S K := by
  obtain ⟨m0, r1, m1, r2, m2, r3, m3, r4, m4, r5, m5, r6, m6, r7, m7, r8, m8, r9, m9, r10, m10, r11, m11, r12, m12, r13, m13, r14, m14, r15, m15⟩ := id hM
  have hN := hW.1
  refine Ok.of (by decide) rfl (Nat.le_of_ble_eq_true rfl) ?_
  refine Go.walk 400 [14] E101 E101_ok (fun G C hG hC => ?_)
  (repeat ((conv => whnf); first | refine ⟨_, by assumption, ?_⟩ | refine ⟨_, _, by assumption, ?_⟩ | refine ⟨(show _ ∧ _ by omega), ?_⟩ | refine ⟨(show _ ∨ _ by omega), ?_⟩ | refine ⟨fun h => absurd h (by decide), fun _ => ?_⟩ | refine ⟨fun _ => ?_, fun h => absurd h (by decide)⟩ | refine ⟨fun _ => ?_, fun h => absurd rfl h⟩ | refine ⟨fun h => absurd rfl h, fun _ => ?_⟩)); try (conv => whnf)
  refine hC _ _ _ _ _ _ ?_
  refine ok_slackNow hM hW (fun I1 hF1 ha => ?_)
  have e := hF1 362 (by decide)
  have e8 : I1 361 ((8 : Nat) : Int) = B.length := by rw [hF1 361 (by decide)]; exact hB.1
  have hl := hB.2.1
  (repeat ((conv => whnf); first | refine ⟨_, by assumption, ?_⟩ | refine ⟨_, _, by assumption, ?_⟩ | refine ⟨(show _ ∧ _ by omega), ?_⟩ | refine ⟨(show _ ∨ _ by omega), ?_⟩ | refine ⟨fun h => absurd h (by decide), fun _ => ?_⟩ | refine ⟨fun _ => ?_, fun h => absurd h (by decide)⟩ | refine ⟨fun _ => ?_, fun h => absurd rfl h⟩ | refine ⟨fun h => absurd rfl h, fun _ => ?_⟩)); try (conv => whnf)
  rw [e8]
  refine hG _ _ _ _ _ _ ?_
  have loop : ∀ (k : Nat), k ≤ B.length → Go P 101 (d + 7) K 14 [vr 361, vi (weL (I 362) (B.drop k) k), vi ((k : Int) - 1)] [] I1 R S := by
    intro k
    induction k with
    | zero =>
      intro gm
      refine Go.walk 400 [14] E101 E101_ok (fun G C hG hC => ?_)
      (repeat ((conv => whnf); first | refine ⟨_, by assumption, ?_⟩ | refine ⟨_, _, by assumption, ?_⟩ | refine ⟨(show _ ∧ _ by omega), ?_⟩ | refine ⟨(show _ ∨ _ by omega), ?_⟩ | refine ⟨fun h => absurd h (by decide), fun _ => ?_⟩ | refine ⟨fun _ => ?_, fun h => absurd h (by decide)⟩ | refine ⟨fun _ => ?_, fun h => absurd rfl h⟩ | refine ⟨fun h => absurd rfl h, fun _ => ?_⟩)); try (conv => whnf)
      exact hK I1 hF1
    | succ k ih =>
      intro gm
      have hlt : k < B.length := by omega
      have hx := List.getElem?_eq_getElem hlt
      have hr := hBr _ (List.getElem_mem hlt)
      generalize B[k] = x at hx hr
      obtain ⟨q1, q2⟩ := hB.2.2 k x hx
      obtain ⟨hr1, hr2⟩ := hr
      have f1 : I1 366 (k : Int) = x.1 := by rw [hF1 366 (by decide)]; exact q1
      have f2 : I1 367 (k : Int) = x.2 := by rw [hF1 367 (by decide)]; exact q2
      have ih2 := ih (by omega)
      rw [weL_drop hx] at ih2
      have wb2 := weL_bd (n := I 362) (B.drop (k + 1)) ((k : Int) + 1) (by omega)
      rw [List.length_drop] at wb2
      have e5 : ((k + 1 : Nat) : Int) - 1 = (k : Int) := by omega
      have e6 : ((k + 1 : Nat) : Int) = (k : Int) + 1 := by omega
      rw [e5, e6]
      refine Go.walk 400 [14] E101 E101_ok (fun G C hG hC => ?_)
      (repeat ((conv => whnf); first | refine ⟨_, by assumption, ?_⟩ | refine ⟨_, _, by assumption, ?_⟩ | refine ⟨(show _ ∧ _ by omega), ?_⟩ | refine ⟨(show _ ∨ _ by omega), ?_⟩ | refine ⟨fun h => absurd h (by decide), fun _ => ?_⟩ | refine ⟨fun _ => ?_, fun h => absurd h (by decide)⟩ | refine ⟨fun _ => ?_, fun h => absurd rfl h⟩ | refine ⟨fun h => absurd rfl h, fun _ => ?_⟩)); try (conv => whnf)
      refine ⟨fun q => absurd q (by omega), fun _ => ?_⟩
      (repeat ((conv => whnf); first | refine ⟨_, by assumption, ?_⟩ | refine ⟨_, _, by assumption, ?_⟩ | refine ⟨(show _ ∧ _ by omega), ?_⟩ | refine ⟨(show _ ∨ _ by omega), ?_⟩ | refine ⟨fun h => absurd h (by decide), fun _ => ?_⟩ | refine ⟨fun _ => ?_, fun h => absurd h (by decide)⟩ | refine ⟨fun _ => ?_, fun h => absurd rfl h⟩ | refine ⟨fun h => absurd rfl h, fun _ => ?_⟩)); try (conv => whnf)
      rw [f1]
      refine hC _ _ _ _ _ _ ?_
      refine ok_isNode hM hr1 (by rw [e]; exact hW) (fun h5 => ?_) (fun h5 => ?_)
      · rw [e] at h5
        have ht := tim0_bd hW (v := x.1) h5.1 h5.2
        have e3 : I1 372 x.1 = tim0 (I 362) x.1 := (ha x.1 h5.1 h5.2).2.2.1
        (repeat ((conv => whnf); first | refine ⟨_, by assumption, ?_⟩ | refine ⟨_, _, by assumption, ?_⟩ | refine ⟨(show _ ∧ _ by omega), ?_⟩ | refine ⟨(show _ ∨ _ by omega), ?_⟩ | refine ⟨fun h => absurd h (by decide), fun _ => ?_⟩ | refine ⟨fun _ => ?_, fun h => absurd h (by decide)⟩ | refine ⟨fun _ => ?_, fun h => absurd rfl h⟩ | refine ⟨fun h => absurd rfl h, fun _ => ?_⟩)); try (conv => whnf)
        rw [f1, f2, e3]
        refine ⟨by omega, fun q => ?_, fun q => ?_⟩
        · rw [badE_no h5 q, if_neg Bool.false_ne_true] at ih2
          (repeat ((conv => whnf); first | refine ⟨_, by assumption, ?_⟩ | refine ⟨_, _, by assumption, ?_⟩ | refine ⟨(show _ ∧ _ by omega), ?_⟩ | refine ⟨(show _ ∨ _ by omega), ?_⟩ | refine ⟨fun h => absurd h (by decide), fun _ => ?_⟩ | refine ⟨fun _ => ?_, fun h => absurd h (by decide)⟩ | refine ⟨fun _ => ?_, fun h => absurd rfl h⟩ | refine ⟨fun h => absurd rfl h, fun _ => ?_⟩)); try (conv => whnf)
          refine hG _ _ _ _ _ _ ?_
          exact ih2
        · rw [badE_time q, if_pos rfl] at ih2
          (repeat ((conv => whnf); first | refine ⟨_, by assumption, ?_⟩ | refine ⟨_, _, by assumption, ?_⟩ | refine ⟨(show _ ∧ _ by omega), ?_⟩ | refine ⟨(show _ ∨ _ by omega), ?_⟩ | refine ⟨fun h => absurd h (by decide), fun _ => ?_⟩ | refine ⟨fun _ => ?_, fun h => absurd h (by decide)⟩ | refine ⟨fun _ => ?_, fun h => absurd rfl h⟩ | refine ⟨fun h => absurd rfl h, fun _ => ?_⟩)); try (conv => whnf)
          refine hG _ _ _ _ _ _ ?_
          exact ih2
      · rw [e] at h5
        rw [badE_out h5, if_pos rfl] at ih2
        (repeat ((conv => whnf); first | refine ⟨_, by assumption, ?_⟩ | refine ⟨_, _, by assumption, ?_⟩ | refine ⟨(show _ ∧ _ by omega), ?_⟩ | refine ⟨(show _ ∨ _ by omega), ?_⟩ | refine ⟨fun h => absurd h (by decide), fun _ => ?_⟩ | refine ⟨fun _ => ?_, fun h => absurd h (by decide)⟩ | refine ⟨fun _ => ?_, fun h => absurd rfl h⟩ | refine ⟨fun h => absurd rfl h, fun _ => ?_⟩)); try (conv => whnf)
        refine hG _ _ _ _ _ _ ?_
        exact ih2
  have := loop B.length (Nat.le_refl _)
  rw [List.drop_of_length_le (Nat.le_refl _)] at this
  exact this
end
section
/-! the reference: changeNow -/
theorem QF.tr {I I1 I2 : aI} (h : QF I I1) (h2 : QF I1 I2) : QF I I2 := h.trans h2 (fun _ h => h.elim id id) (fun _ h => h.elim id id)
abbrev aCh : Type := Int × Int × Int
def chOk (n : aN) (v k : Int) : Bool := decide (k ≠ nf n v 7) && ((decide (k = 0) || isKb n k) && decide (bAnd (wro n (setP (pl0 n) v k)) (bXor (wro n (pl0 n)) (-1)) = 0))
def chOne (n : aN) (v k : Int) (x : aCh) : aCh := if chOk n v k = true ∧ (x.1 = -1 ∨ x.2.1 < sla n (setP (pl0 n) v k) (wd0 n) ∨ (sla n (setP (pl0 n) v k) (wd0 n) = x.2.1 ∧ mCost n (setP (pl0 n) v k) 0 < x.2.2)) then (10 * v + k, sla n (setP (pl0 n) v k) (wd0 n), mCost n (setP (pl0 n) v k) 0) else x
def chAll (n : aN) : aCh := rf (fun v x => rf (fun k y => chOne n v k y) x 0 4) (-1, 0, 0) 1 (n 0)
def mChange (n : aN) : Int := (chAll n).1
def chB (x : aCh) : Prop := (-1 ≤ x.1 ∧ x.1 ≤ 53) ∧ (-920000 ≤ x.2.1 ∧ x.2.1 ≤ 900000) ∧ (0 ≤ x.2.2 ∧ x.2.2 ≤ 495)
theorem chOk_iff {n : aN} {v k : Int} : chOk n v k = true ↔ k ≠ nf n v 7 ∧ (k = 0 ∨ isKb n k = true) ∧ bAnd (wro n (setP (pl0 n) v k)) (bXor (wro n (pl0 n)) (-1)) = 0 := by simp [chOk]
/-- changeNow() -/
theorem ok_mchangeNow {P : aP} {d : Nat} {K : aK} {I : aI} {R : aR} {S : aS} (hM : MS R S) (hW : WF (I 362)) (hK : ∀ I', QF I I' → -1 ≤ mChange (I 362) ∧ mChange (I 362) ≤ 53 → K (some (vi (mChange (I 362)))) I' R S) : Ok P 100 (d + 6) [vr 361] I R S K := by
  obtain ⟨m0, r1, m1, r2, m2, r3, m3, r4, m4, r5, m5, r6, m6, r7, m7, r8, m8, r9, m9, r10, m10, r11, m11, r12, m12, r13, m13, r14, m14, r15, m15⟩ := id hM
  have hN := hW.1
  have hwr : iR (wro (I 362) (pl0 (I 362))) := iR_mWrong
  have inner : ∀ (v : Int) (x0 : aCh), 1 ≤ v → v < I 362 0 → ∀ (m : Nat) (k : Int) (I' : aI) (z6 z7 : aV), 0 ≤ k → 4 - k = m → QF I I' → chB (rf (fun k y => chOne (I 362) v k y) x0 0 k) → ((rf (fun k y => chOne (I 362) v k y) x0 0 k).1 ≠ -1 → I' 361 19 = (rf (fun k y => chOne (I 362) v k y) x0 0 k).2.1) →
      (∀ (I2 : aI) (z5 z6 z7 : aV), QF I I2 → chB (rf (fun k y => chOne (I 362) v k y) x0 0 4) → ((rf (fun k y => chOne (I 362) v k y) x0 0 4).1 ≠ -1 → I2 361 19 = (rf (fun k y => chOne (I 362) v k y) x0 0 4).2.1) → Go P 100 (d + 6) K 175 [vr 361, vi (wro (I 362) (pl0 (I 362))), vi (rf (fun k y => chOne (I 362) v k y) x0 0 4).1, vi (rf (fun k y => chOne (I 362) v k y) x0 0 4).2.2, vi v, z5, z6, z7] [] I2 R S) →
      Go P 100 (d + 6) K 35 [vr 361, vi (wro (I 362) (pl0 (I 362))), vi (rf (fun k y => chOne (I 362) v k y) x0 0 k).1, vi (rf (fun k y => chOne (I 362) v k y) x0 0 k).2.2, vi v, vi k, z6, z7] [] I' R S := by
    intro v x0 hv1 hv2 m
    have hn7 := hW.2.1 v (by omega) (by omega)
    induction m with
    | zero =>
      intro k I' z6 z7 h0 hm hF hcb h19 hk
      have hk4 : k = 4 := by omega
      subst hk4
      refine Go.walk 400 [35, 175] E100 E100_ok (fun G C hG hC => ?_)
      (repeat ((conv => whnf); first | refine ⟨_, by assumption, ?_⟩ | refine ⟨_, _, by assumption, ?_⟩ | refine ⟨(show _ ∧ _ by omega), ?_⟩ | refine ⟨(show _ ∨ _ by omega), ?_⟩ | refine ⟨fun h => absurd h (by decide), fun _ => ?_⟩ | refine ⟨fun _ => ?_, fun h => absurd h (by decide)⟩ | refine ⟨fun _ => ?_, fun h => absurd rfl h⟩ | refine ⟨fun h => absurd rfl h, fun _ => ?_⟩)); try (conv => whnf)
      refine hG _ _ _ _ _ _ ?_
      exact hk I' _ _ _ hF hcb h19
    | succ m ih =>
      intro k I' z6 z7 h0 hm hF hcb h19 hk
      have e := hF.1 362 (by decide)
      have ih2 := ih (k + 1)
      rw [rf_succ h0] at ih2
      generalize hx : rf (fun k y => chOne (I 362) v k y) x0 0 k = x at ih2 hcb h19 ⊢
      -- passed over
      have skip : chOne (I 362) v k x = x → ∀ (I3 : aI) (z6 z7 : aV), QF I I3 → (x.1 ≠ -1 → I3 361 19 = x.2.1) → Go P 100 (d + 6) K 169 [vr 361, vi (wro (I 362) (pl0 (I 362))), vi x.1, vi x.2.2, vi v, vi k, z6, z7] [] I3 R S := by
        intro hc I3 z6 z7 hF3 g19
        rw [hc] at ih2
        refine Go.walk 400 [35] E100 E100_ok (fun G C hG hC => ?_)
        (repeat ((conv => whnf); first | refine ⟨_, by assumption, ?_⟩ | refine ⟨_, _, by assumption, ?_⟩ | refine ⟨(show _ ∧ _ by omega), ?_⟩ | refine ⟨(show _ ∨ _ by omega), ?_⟩ | refine ⟨fun h => absurd h (by decide), fun _ => ?_⟩ | refine ⟨fun _ => ?_, fun h => absurd h (by decide)⟩ | refine ⟨fun _ => ?_, fun h => absurd rfl h⟩ | refine ⟨fun h => absurd rfl h, fun _ => ?_⟩)); try (conv => whnf)
        refine hG _ _ _ _ _ _ ?_
        exact ih2 I3 z6 z7 (by omega) (by omega) hF3 hcb g19 hk
      have hno : chOk (I 362) v k = false → chOne (I 362) v k x = x := fun h => by unfold chOne; rw [if_neg (fun z => by rw [h] at z; exact absurd z.1 Bool.false_ne_true)]
      -- the run
      have run : k ≠ nf (I 362) v 7 → (k = 0 ∨ isKb (I 362) k = true) → Go P 100 (d + 6) K 68 [vr 361, vi (wro (I 362) (pl0 (I 362))), vi x.1, vi x.2.2, vi v, vi k, z6, z7] [] I' R S := by
        intro hk7 hkk
        have hsp := setP_ok hW (v := v) (k := k) (by omega) hkk
        have hsb := sla_bd hW hsp (wd0_ok hW)
        have hcbd := mCost_bd hW (top := 0) hsp
        have hwk : iR (wro (I 362) (setP (pl0 (I 362)) v k)) := iR_mWrong
        have hax : iR (bAnd (wro (I 362) (setP (pl0 (I 362)) v k)) (bXor (wro (I 362) (pl0 (I 362))) (-1))) := iR_t32 _
        have hbx : iR (bXor (wro (I 362) (pl0 (I 362))) (-1)) := iR_t32 _
        refine Go.walk 400 [148, 169] E100 E100_ok (fun G C hG hC => ?_)
        (repeat ((conv => whnf); first | refine ⟨_, by assumption, ?_⟩ | refine ⟨_, _, by assumption, ?_⟩ | refine ⟨(show _ ∧ _ by omega), ?_⟩ | refine ⟨(show _ ∨ _ by omega), ?_⟩ | refine ⟨fun h => absurd h (by decide), fun _ => ?_⟩ | refine ⟨fun _ => ?_, fun h => absurd h (by decide)⟩ | refine ⟨fun _ => ?_, fun h => absurd rfl h⟩ | refine ⟨fun h => absurd rfl h, fun _ => ?_⟩)); try (conv => whnf)
        refine hC _ _ _ _ _ _ ?_
        refine ok_asPlaced hM (by rw [e]; exact hW) (fun I1 hF1 g1 => ?_)
        rw [e] at g1
        have e1 : I1 362 = I 362 := by rw [hF1 362 (by decide), e]
        have e2 : uI I1 368 v k 362 = I 362 := by funext x; rw [uI_ne (by omega), e1]
        (repeat ((conv => whnf); first | refine ⟨_, by assumption, ?_⟩ | refine ⟨_, _, by assumption, ?_⟩ | refine ⟨(show _ ∧ _ by omega), ?_⟩ | refine ⟨(show _ ∨ _ by omega), ?_⟩ | refine ⟨fun h => absurd h (by decide), fun _ => ?_⟩ | refine ⟨fun _ => ?_, fun h => absurd h (by decide)⟩ | refine ⟨fun _ => ?_, fun h => absurd rfl h⟩ | refine ⟨fun h => absurd rfl h, fun _ => ?_⟩)); try (conv => whnf)
        refine hC _ _ _ _ _ _ ?_
        refine ok_runsAll2 (pl := setP (pl0 (I 362)) v k) (wd := wd0 (I 362)) hM (by rw [e2]; exact hW) (by rw [e2]; exact hsp) (by rw [e2]; exact wd0_ok hW) (fun x a b => ?_) (fun x a b => ?_) (fun I3 hF3 g3 => ?_)
        · rw [e2] at b
          unfold setP
          by_cases q : x = v
          · subst q; rw [uI_at, if_pos rfl]
          · rw [uI_ne (by omega), if_neg q]; exact (g1 x a b).1
        · rw [e2] at b
          rw [uI_ne (by omega)]; exact (g1 x (by omega) b).2
        rw [e2] at g3
        have e3 : I3 362 = I 362 := by rw [hF3 362 (by decide), e2]
        have hF02 : QF I (uI I1 368 v k) := MF.put (hF.tr (QF.fr hF1 (by decide) (by simp <;> omega))) (by decide) (by decide)
        have hF03 : QF I I3 := hF02.tr (QF.fr hF3 (by decide) (by simp <;> omega))
        have f19 : I3 361 19 = I' 361 19 := by rw [hF3 361 (by decide), uI_ne (by omega), hF1 361 (by decide)]
        have f8 : ∀ y, 0 ≤ y → y < I 362 0 → I3 368 y = setP (pl0 (I 362)) v k y := by
          intro y a b
          rw [hF3 368 (by decide)]
          unfold setP
          by_cases q : y = v
          · subst q; rw [uI_at, if_pos rfl]
          · rw [uI_ne (by omega), if_neg q]; exact (g1 y a b).1
        (repeat ((conv => whnf); first | refine ⟨_, by assumption, ?_⟩ | refine ⟨_, _, by assumption, ?_⟩ | refine ⟨(show _ ∧ _ by omega), ?_⟩ | refine ⟨(show _ ∨ _ by omega), ?_⟩ | refine ⟨fun h => absurd h (by decide), fun _ => ?_⟩ | refine ⟨fun _ => ?_, fun h => absurd h (by decide)⟩ | refine ⟨fun _ => ?_, fun h => absurd rfl h⟩ | refine ⟨fun h => absurd rfl h, fun _ => ?_⟩)); try (conv => whnf)
        refine hC _ _ _ _ _ _ ?_
        refine ok_slack0 hM e3 hW hsp (wd0_ok hW) g3 ?_
        (repeat ((conv => whnf); first | refine ⟨_, by assumption, ?_⟩ | refine ⟨_, _, by assumption, ?_⟩ | refine ⟨(show _ ∧ _ by omega), ?_⟩ | refine ⟨(show _ ∨ _ by omega), ?_⟩ | refine ⟨fun h => absurd h (by decide), fun _ => ?_⟩ | refine ⟨fun _ => ?_, fun h => absurd h (by decide)⟩ | refine ⟨fun _ => ?_, fun h => absurd rfl h⟩ | refine ⟨fun h => absurd rfl h, fun _ => ?_⟩)); try (conv => whnf)
        refine hC _ _ _ _ _ _ ?_
        refine ok_wrong0 hM e3 hW g3 ?_
        have take : chOk (I 362) v k = true → (x.1 = -1 ∨ x.2.1 < sla (I 362) (setP (pl0 (I 362)) v k) (wd0 (I 362)) ∨ (sla (I 362) (setP (pl0 (I 362)) v k) (wd0 (I 362)) = x.2.1 ∧ mCost (I 362) (setP (pl0 (I 362)) v k) 0 < x.2.2)) → Go P 100 (d + 6) K 148 [vr 361, vi (wro (I 362) (pl0 (I 362))), vi x.1, vi x.2.2, vi v, vi k, vi (sla (I 362) (setP (pl0 (I 362)) v k) (wd0 (I 362))), vi 1] [] I3 R S := by
          intro c1 c2
          have hc : chOne (I 362) v k x = (10 * v + k, sla (I 362) (setP (pl0 (I 362)) v k) (wd0 (I 362)), mCost (I 362) (setP (pl0 (I 362)) v k) 0) := by unfold chOne; rw [if_pos ⟨c1, c2⟩]
          rw [hc] at ih2
          refine Go.walk 400 [35] E100 E100_ok (fun G C hG hC => ?_)
          (repeat ((conv => whnf); first | refine ⟨_, by assumption, ?_⟩ | refine ⟨_, _, by assumption, ?_⟩ | refine ⟨(show _ ∧ _ by omega), ?_⟩ | refine ⟨(show _ ∨ _ by omega), ?_⟩ | refine ⟨fun h => absurd h (by decide), fun _ => ?_⟩ | refine ⟨fun _ => ?_, fun h => absurd h (by decide)⟩ | refine ⟨fun _ => ?_, fun h => absurd rfl h⟩ | refine ⟨fun h => absurd rfl h, fun _ => ?_⟩)); try (conv => whnf)
          refine hC _ _ _ _ _ _ ?_
          refine ok_cost0 hM e3 hW hsp f8 ?_
          (repeat ((conv => whnf); first | refine ⟨_, by assumption, ?_⟩ | refine ⟨_, _, by assumption, ?_⟩ | refine ⟨(show _ ∧ _ by omega), ?_⟩ | refine ⟨(show _ ∨ _ by omega), ?_⟩ | refine ⟨fun h => absurd h (by decide), fun _ => ?_⟩ | refine ⟨fun _ => ?_, fun h => absurd h (by decide)⟩ | refine ⟨fun _ => ?_, fun h => absurd rfl h⟩ | refine ⟨fun h => absurd rfl h, fun _ => ?_⟩)); try (conv => whnf)
          refine hG _ _ _ _ _ _ ?_
          refine ih2 _ _ _ (by omega) (by omega) (hF03.putF (j := 19) (by decide)) ⟨⟨by show -1 ≤ 10 * v + k; omega, by show 10 * v + k ≤ 53; omega⟩, hsb, hcbd⟩ (fun _ => uI_at) hk
        obtain ⟨hcb1, hcb2, hcb3⟩ := id hcb
        (repeat ((conv => whnf); first | refine ⟨_, by assumption, ?_⟩ | refine ⟨_, _, by assumption, ?_⟩ | refine ⟨(show _ ∧ _ by omega), ?_⟩ | refine ⟨(show _ ∨ _ by omega), ?_⟩ | refine ⟨fun h => absurd h (by decide), fun _ => ?_⟩ | refine ⟨fun _ => ?_, fun h => absurd h (by decide)⟩ | refine ⟨fun _ => ?_, fun h => absurd rfl h⟩ | refine ⟨fun h => absurd rfl h, fun _ => ?_⟩)); try (conv => whnf)
        refine ⟨fun q => ?_, fun q => ?_⟩
        · have hf : chOk (I 362) v k = false := by
            cases hq : chOk (I 362) v k with
            | false => rfl
            | true => exact absurd (chOk_iff.mp hq).2.2 q
          (repeat ((conv => whnf); first | refine ⟨_, by assumption, ?_⟩ | refine ⟨_, _, by assumption, ?_⟩ | refine ⟨(show _ ∧ _ by omega), ?_⟩ | refine ⟨(show _ ∨ _ by omega), ?_⟩ | refine ⟨fun h => absurd h (by decide), fun _ => ?_⟩ | refine ⟨fun _ => ?_, fun h => absurd h (by decide)⟩ | refine ⟨fun _ => ?_, fun h => absurd rfl h⟩ | refine ⟨fun h => absurd rfl h, fun _ => ?_⟩)); try (conv => whnf)
          refine hG _ _ _ _ _ _ ?_
          exact skip (hno hf) I3 _ _ hF03 (fun z => by rw [f19]; exact h19 z)
        · have ht : chOk (I 362) v k = true := chOk_iff.mpr ⟨hk7, hkk, q⟩
          (repeat ((conv => whnf); first | refine ⟨_, by assumption, ?_⟩ | refine ⟨_, _, by assumption, ?_⟩ | refine ⟨(show _ ∧ _ by omega), ?_⟩ | refine ⟨(show _ ∨ _ by omega), ?_⟩ | refine ⟨fun h => absurd h (by decide), fun _ => ?_⟩ | refine ⟨fun _ => ?_, fun h => absurd h (by decide)⟩ | refine ⟨fun _ => ?_, fun h => absurd rfl h⟩ | refine ⟨fun h => absurd rfl h, fun _ => ?_⟩)); try (conv => whnf)
          refine ⟨fun q1 => ?_, fun q1 => ?_⟩
          · (repeat ((conv => whnf); first | refine ⟨_, by assumption, ?_⟩ | refine ⟨_, _, by assumption, ?_⟩ | refine ⟨(show _ ∧ _ by omega), ?_⟩ | refine ⟨(show _ ∨ _ by omega), ?_⟩ | refine ⟨fun h => absurd h (by decide), fun _ => ?_⟩ | refine ⟨fun _ => ?_, fun h => absurd h (by decide)⟩ | refine ⟨fun _ => ?_, fun h => absurd rfl h⟩ | refine ⟨fun h => absurd rfl h, fun _ => ?_⟩)); try (conv => whnf)
            refine hG _ _ _ _ _ _ ?_
            exact take ht (Or.inl q1)
          · have e19 : I3 361 ((19 : Nat) : Int) = x.2.1 := by rw [show I3 361 ((19 : Nat) : Int) = I' 361 19 from f19]; exact h19 q1
            (repeat ((conv => whnf); first | refine ⟨_, by assumption, ?_⟩ | refine ⟨_, _, by assumption, ?_⟩ | refine ⟨(show _ ∧ _ by omega), ?_⟩ | refine ⟨(show _ ∨ _ by omega), ?_⟩ | refine ⟨fun h => absurd h (by decide), fun _ => ?_⟩ | refine ⟨fun _ => ?_, fun h => absurd h (by decide)⟩ | refine ⟨fun _ => ?_, fun h => absurd rfl h⟩ | refine ⟨fun h => absurd rfl h, fun _ => ?_⟩)); try (conv => whnf)
            rw [e19]
            refine ⟨fun q2 => ?_, fun q2 => ?_⟩
            · (repeat ((conv => whnf); first | refine ⟨_, by assumption, ?_⟩ | refine ⟨_, _, by assumption, ?_⟩ | refine ⟨(show _ ∧ _ by omega), ?_⟩ | refine ⟨(show _ ∨ _ by omega), ?_⟩ | refine ⟨fun h => absurd h (by decide), fun _ => ?_⟩ | refine ⟨fun _ => ?_, fun h => absurd h (by decide)⟩ | refine ⟨fun _ => ?_, fun h => absurd rfl h⟩ | refine ⟨fun h => absurd rfl h, fun _ => ?_⟩)); try (conv => whnf)
              refine hG _ _ _ _ _ _ ?_
              exact take ht (Or.inr (Or.inl (by omega)))
            · (repeat ((conv => whnf); first | refine ⟨_, by assumption, ?_⟩ | refine ⟨_, _, by assumption, ?_⟩ | refine ⟨(show _ ∧ _ by omega), ?_⟩ | refine ⟨(show _ ∨ _ by omega), ?_⟩ | refine ⟨fun h => absurd h (by decide), fun _ => ?_⟩ | refine ⟨fun _ => ?_, fun h => absurd h (by decide)⟩ | refine ⟨fun _ => ?_, fun h => absurd rfl h⟩ | refine ⟨fun h => absurd rfl h, fun _ => ?_⟩)); try (conv => whnf)
              rw [e19]
              refine ⟨fun q3 => ?_, fun q3 => ?_⟩
              · (repeat ((conv => whnf); first | refine ⟨_, by assumption, ?_⟩ | refine ⟨_, _, by assumption, ?_⟩ | refine ⟨(show _ ∧ _ by omega), ?_⟩ | refine ⟨(show _ ∨ _ by omega), ?_⟩ | refine ⟨fun h => absurd h (by decide), fun _ => ?_⟩ | refine ⟨fun _ => ?_, fun h => absurd h (by decide)⟩ | refine ⟨fun _ => ?_, fun h => absurd rfl h⟩ | refine ⟨fun h => absurd rfl h, fun _ => ?_⟩)); try (conv => whnf)
                refine hG _ _ _ _ _ _ ?_
                exact skip (by unfold chOne; rw [if_neg (by omega)]) I3 _ _ hF03 (fun z => by rw [f19]; exact h19 z)
              · (repeat ((conv => whnf); first | refine ⟨_, by assumption, ?_⟩ | refine ⟨_, _, by assumption, ?_⟩ | refine ⟨(show _ ∧ _ by omega), ?_⟩ | refine ⟨(show _ ∨ _ by omega), ?_⟩ | refine ⟨fun h => absurd h (by decide), fun _ => ?_⟩ | refine ⟨fun _ => ?_, fun h => absurd h (by decide)⟩ | refine ⟨fun _ => ?_, fun h => absurd rfl h⟩ | refine ⟨fun h => absurd rfl h, fun _ => ?_⟩)); try (conv => whnf)
                refine hC _ _ _ _ _ _ ?_
                refine ok_cost0 hM e3 hW hsp f8 ?_
                (repeat ((conv => whnf); first | refine ⟨_, by assumption, ?_⟩ | refine ⟨_, _, by assumption, ?_⟩ | refine ⟨(show _ ∧ _ by omega), ?_⟩ | refine ⟨(show _ ∨ _ by omega), ?_⟩ | refine ⟨fun h => absurd h (by decide), fun _ => ?_⟩ | refine ⟨fun _ => ?_, fun h => absurd h (by decide)⟩ | refine ⟨fun _ => ?_, fun h => absurd rfl h⟩ | refine ⟨fun h => absurd rfl h, fun _ => ?_⟩)); try (conv => whnf)
                refine ⟨fun q4 => ?_, fun q4 => ?_⟩
                · (repeat ((conv => whnf); first | refine ⟨_, by assumption, ?_⟩ | refine ⟨_, _, by assumption, ?_⟩ | refine ⟨(show _ ∧ _ by omega), ?_⟩ | refine ⟨(show _ ∨ _ by omega), ?_⟩ | refine ⟨fun h => absurd h (by decide), fun _ => ?_⟩ | refine ⟨fun _ => ?_, fun h => absurd h (by decide)⟩ | refine ⟨fun _ => ?_, fun h => absurd rfl h⟩ | refine ⟨fun h => absurd rfl h, fun _ => ?_⟩)); try (conv => whnf)
                  refine hG _ _ _ _ _ _ ?_
                  exact skip (by unfold chOne; rw [if_neg (by omega)]) I3 _ _ hF03 (fun z => by rw [f19]; exact h19 z)
                · (repeat ((conv => whnf); first | refine ⟨_, by assumption, ?_⟩ | refine ⟨_, _, by assumption, ?_⟩ | refine ⟨(show _ ∧ _ by omega), ?_⟩ | refine ⟨(show _ ∨ _ by omega), ?_⟩ | refine ⟨fun h => absurd h (by decide), fun _ => ?_⟩ | refine ⟨fun _ => ?_, fun h => absurd h (by decide)⟩ | refine ⟨fun _ => ?_, fun h => absurd rfl h⟩ | refine ⟨fun h => absurd rfl h, fun _ => ?_⟩)); try (conv => whnf)
                  refine hG _ _ _ _ _ _ ?_
                  exact take ht (Or.inr (Or.inr ⟨by omega, by omega⟩))
      refine Go.walk 400 [68, 169] E100 E100_ok (fun G C hG hC => ?_)
      (repeat ((conv => whnf); first | refine ⟨_, by assumption, ?_⟩ | refine ⟨_, _, by assumption, ?_⟩ | refine ⟨(show _ ∧ _ by omega), ?_⟩ | refine ⟨(show _ ∨ _ by omega), ?_⟩ | refine ⟨fun h => absurd h (by decide), fun _ => ?_⟩ | refine ⟨fun _ => ?_, fun h => absurd h (by decide)⟩ | refine ⟨fun _ => ?_, fun h => absurd rfl h⟩ | refine ⟨fun h => absurd rfl h, fun _ => ?_⟩)); try (conv => whnf)
      refine ⟨fun q => absurd q (by omega), fun _ => ?_⟩
      (repeat ((conv => whnf); first | refine ⟨_, by assumption, ?_⟩ | refine ⟨_, _, by assumption, ?_⟩ | refine ⟨(show _ ∧ _ by omega), ?_⟩ | refine ⟨(show _ ∨ _ by omega), ?_⟩ | refine ⟨fun h => absurd h (by decide), fun _ => ?_⟩ | refine ⟨fun _ => ?_, fun h => absurd h (by decide)⟩ | refine ⟨fun _ => ?_, fun h => absurd rfl h⟩ | refine ⟨fun h => absurd rfl h, fun _ => ?_⟩)); try (conv => whnf)
      refine hC _ _ _ _ _ _ ?_
      refine ok_of hM (by omega) ?_
      rw [e]
      (repeat ((conv => whnf); first | refine ⟨_, by assumption, ?_⟩ | refine ⟨_, _, by assumption, ?_⟩ | refine ⟨(show _ ∧ _ by omega), ?_⟩ | refine ⟨(show _ ∨ _ by omega), ?_⟩ | refine ⟨fun h => absurd h (by decide), fun _ => ?_⟩ | refine ⟨fun _ => ?_, fun h => absurd h (by decide)⟩ | refine ⟨fun _ => ?_, fun h => absurd rfl h⟩ | refine ⟨fun h => absurd rfl h, fun _ => ?_⟩)); try (conv => whnf)
      refine ⟨fun q => ?_, fun q => ?_⟩
      · have hf : chOk (I 362) v k = false := by
          cases hq : chOk (I 362) v k with
          | false => rfl
          | true => exact absurd q (chOk_iff.mp hq).1
        (repeat ((conv => whnf); first | refine ⟨_, by assumption, ?_⟩ | refine ⟨_, _, by assumption, ?_⟩ | refine ⟨(show _ ∧ _ by omega), ?_⟩ | refine ⟨(show _ ∨ _ by omega), ?_⟩ | refine ⟨fun h => absurd h (by decide), fun _ => ?_⟩ | refine ⟨fun _ => ?_, fun h => absurd h (by decide)⟩ | refine ⟨fun _ => ?_, fun h => absurd rfl h⟩ | refine ⟨fun h => absurd rfl h, fun _ => ?_⟩)); try (conv => whnf)
        refine hG _ _ _ _ _ _ ?_
        exact skip (hno hf) I' _ _ hF h19
      · (repeat ((conv => whnf); first | refine ⟨_, by assumption, ?_⟩ | refine ⟨_, _, by assumption, ?_⟩ | refine ⟨(show _ ∧ _ by omega), ?_⟩ | refine ⟨(show _ ∨ _ by omega), ?_⟩ | refine ⟨fun h => absurd h (by decide), fun _ => ?_⟩ | refine ⟨fun _ => ?_, fun h => absurd h (by decide)⟩ | refine ⟨fun _ => ?_, fun h => absurd rfl h⟩ | refine ⟨fun h => absurd rfl h, fun _ => ?_⟩)); try (conv => whnf)
        refine ⟨fun q2 => ?_, fun q2 => ?_⟩
        · (repeat ((conv => whnf); first | refine ⟨_, by assumption, ?_⟩ | refine ⟨_, _, by assumption, ?_⟩ | refine ⟨(show _ ∧ _ by omega), ?_⟩ | refine ⟨(show _ ∨ _ by omega), ?_⟩ | refine ⟨fun h => absurd h (by decide), fun _ => ?_⟩ | refine ⟨fun _ => ?_, fun h => absurd h (by decide)⟩ | refine ⟨fun _ => ?_, fun h => absurd rfl h⟩ | refine ⟨fun h => absurd rfl h, fun _ => ?_⟩)); try (conv => whnf)
          refine hG _ _ _ _ _ _ ?_
          exact run q (Or.inl q2)
        · (repeat ((conv => whnf); first | refine ⟨_, by assumption, ?_⟩ | refine ⟨_, _, by assumption, ?_⟩ | refine ⟨(show _ ∧ _ by omega), ?_⟩ | refine ⟨(show _ ∨ _ by omega), ?_⟩ | refine ⟨fun h => absurd h (by decide), fun _ => ?_⟩ | refine ⟨fun _ => ?_, fun h => absurd h (by decide)⟩ | refine ⟨fun _ => ?_, fun h => absurd rfl h⟩ | refine ⟨fun h => absurd rfl h, fun _ => ?_⟩)); try (conv => whnf)
          refine hC _ _ _ _ _ _ ?_
          refine ok_isKind hM (by omega) (by rw [e]; exact hW) (fun h5 => ?_) (fun h5 => ?_)
          · rw [e] at h5
            (repeat ((conv => whnf); first | refine ⟨_, by assumption, ?_⟩ | refine ⟨_, _, by assumption, ?_⟩ | refine ⟨(show _ ∧ _ by omega), ?_⟩ | refine ⟨(show _ ∨ _ by omega), ?_⟩ | refine ⟨fun h => absurd h (by decide), fun _ => ?_⟩ | refine ⟨fun _ => ?_, fun h => absurd h (by decide)⟩ | refine ⟨fun _ => ?_, fun h => absurd rfl h⟩ | refine ⟨fun h => absurd rfl h, fun _ => ?_⟩)); try (conv => whnf)
            refine hG _ _ _ _ _ _ ?_
            exact run q (Or.inr (isKb_iff.mpr h5))
          · rw [e] at h5
            have hf : chOk (I 362) v k = false := by
              cases hq : chOk (I 362) v k with
              | false => rfl
              | true =>
                rcases (chOk_iff.mp hq).2.1 with z | z
                · exact absurd z q2
                · exact absurd (isKb_iff.mp z) h5
            (repeat ((conv => whnf); first | refine ⟨_, by assumption, ?_⟩ | refine ⟨_, _, by assumption, ?_⟩ | refine ⟨(show _ ∧ _ by omega), ?_⟩ | refine ⟨(show _ ∨ _ by omega), ?_⟩ | refine ⟨fun h => absurd h (by decide), fun _ => ?_⟩ | refine ⟨fun _ => ?_, fun h => absurd h (by decide)⟩ | refine ⟨fun _ => ?_, fun h => absurd rfl h⟩ | refine ⟨fun h => absurd rfl h, fun _ => ?_⟩)); try (conv => whnf)
            refine hG _ _ _ _ _ _ ?_
            exact skip (hno hf) I' _ _ hF h19
  have outer : ∀ (m : Nat) (v : Int) (I' : aI) (z5 z6 z7 : aV), 1 ≤ v → I 362 0 - v = m → QF I I' → chB (rf (fun v x => rf (fun k y => chOne (I 362) v k y) x 0 4) (-1, 0, 0) 1 v) → ((rf (fun v x => rf (fun k y => chOne (I 362) v k y) x 0 4) (-1, 0, 0) 1 v).1 ≠ -1 → I' 361 19 = (rf (fun v x => rf (fun k y => chOne (I 362) v k y) x 0 4) (-1, 0, 0) 1 v).2.1) →
      Go P 100 (d + 6) K 21 [vr 361, vi (wro (I 362) (pl0 (I 362))), vi (rf (fun v x => rf (fun k y => chOne (I 362) v k y) x 0 4) (-1, 0, 0) 1 v).1, vi (rf (fun v x => rf (fun k y => chOne (I 362) v k y) x 0 4) (-1, 0, 0) 1 v).2.2, vi v, z5, z6, z7] [] I' R S := by
    intro m
    induction m with
    | zero =>
      intro v I' z5 z6 z7 h1 hm hF hcb h19
      have e := hF.1 362 (by decide)
      have hN' := hN
      rw [← e] at hN'
      have hv : v = I 362 0 := by omega
      refine Go.walk 400 [21] E100 E100_ok (fun G C hG hC => ?_)
      (repeat ((conv => whnf); first | refine ⟨_, by assumption, ?_⟩ | refine ⟨_, _, by assumption, ?_⟩ | refine ⟨(show _ ∧ _ by omega), ?_⟩ | refine ⟨(show _ ∨ _ by omega), ?_⟩ | refine ⟨fun h => absurd h (by decide), fun _ => ?_⟩ | refine ⟨fun _ => ?_, fun h => absurd h (by decide)⟩ | refine ⟨fun _ => ?_, fun h => absurd rfl h⟩ | refine ⟨fun h => absurd rfl h, fun _ => ?_⟩)); try (conv => whnf)
      rw [e]
      refine ⟨fun _ => ?_, fun q => absurd (show I 362 0 ≤ v by omega) q⟩
      (repeat ((conv => whnf); first | refine ⟨_, by assumption, ?_⟩ | refine ⟨_, _, by assumption, ?_⟩ | refine ⟨(show _ ∧ _ by omega), ?_⟩ | refine ⟨(show _ ∨ _ by omega), ?_⟩ | refine ⟨fun h => absurd h (by decide), fun _ => ?_⟩ | refine ⟨fun _ => ?_, fun h => absurd h (by decide)⟩ | refine ⟨fun _ => ?_, fun h => absurd rfl h⟩ | refine ⟨fun h => absurd rfl h, fun _ => ?_⟩)); try (conv => whnf)
      rw [hv] at hcb
      have := hK I' hF hcb.1
      rw [mChange, chAll, ← hv] at this
      exact this
    | succ m ih =>
      intro v I' z5 z6 z7 h1 hm hF hcb h19
      have e := hF.1 362 (by decide)
      have hN' := hN
      rw [← e] at hN'
      have ih2 := ih (v + 1)
      rw [rf_succ h1] at ih2
      generalize hx : rf (fun v x => rf (fun k y => chOne (I 362) v k y) x 0 4) (-1, 0, 0) 1 v = x at ih2 hcb h19 ⊢
      refine Go.walk 400 [21, 35] E100 E100_ok (fun G C hG hC => ?_)
      (repeat ((conv => whnf); first | refine ⟨_, by assumption, ?_⟩ | refine ⟨_, _, by assumption, ?_⟩ | refine ⟨(show _ ∧ _ by omega), ?_⟩ | refine ⟨(show _ ∨ _ by omega), ?_⟩ | refine ⟨fun h => absurd h (by decide), fun _ => ?_⟩ | refine ⟨fun _ => ?_, fun h => absurd h (by decide)⟩ | refine ⟨fun _ => ?_, fun h => absurd rfl h⟩ | refine ⟨fun h => absurd rfl h, fun _ => ?_⟩)); try (conv => whnf)
      rw [e]
      refine ⟨fun q => absurd q (by omega), fun _ => ?_⟩
      (repeat ((conv => whnf); first | refine ⟨_, by assumption, ?_⟩ | refine ⟨_, _, by assumption, ?_⟩ | refine ⟨(show _ ∧ _ by omega), ?_⟩ | refine ⟨(show _ ∨ _ by omega), ?_⟩ | refine ⟨fun h => absurd h (by decide), fun _ => ?_⟩ | refine ⟨fun _ => ?_, fun h => absurd h (by decide)⟩ | refine ⟨fun _ => ?_, fun h => absurd rfl h⟩ | refine ⟨fun h => absurd rfl h, fun _ => ?_⟩)); try (conv => whnf)
      refine hG _ _ _ _ _ _ ?_
      have hin := inner v x h1 (by omega) 4 0 I' z6 z7 (by omega) (by omega) hF
      rw [rf_nil (Int.le_refl 0)] at hin
      refine hin hcb h19 (fun I2 y5 y6 y7 hF2 hcb2 h192 => ?_)
      refine Go.walk 400 [21] E100 E100_ok (fun G C hG hC => ?_)
      (repeat ((conv => whnf); first | refine ⟨_, by assumption, ?_⟩ | refine ⟨_, _, by assumption, ?_⟩ | refine ⟨(show _ ∧ _ by omega), ?_⟩ | refine ⟨(show _ ∨ _ by omega), ?_⟩ | refine ⟨fun h => absurd h (by decide), fun _ => ?_⟩ | refine ⟨fun _ => ?_, fun h => absurd h (by decide)⟩ | refine ⟨fun _ => ?_, fun h => absurd rfl h⟩ | refine ⟨fun h => absurd rfl h, fun _ => ?_⟩)); try (conv => whnf)
      refine hG _ _ _ _ _ _ ?_
      exact ih2 I2 y5 y6 y7 (by omega) (by omega) hF2 hcb2 h192
  refine Ok.of (by decide) rfl (Nat.le_of_ble_eq_true rfl) ?_
  refine Go.walk 400 [21] E100 E100_ok (fun G C hG hC => ?_)
  (repeat ((conv => whnf); first | refine ⟨_, by assumption, ?_⟩ | refine ⟨_, _, by assumption, ?_⟩ | refine ⟨(show _ ∧ _ by omega), ?_⟩ | refine ⟨(show _ ∨ _ by omega), ?_⟩ | refine ⟨fun h => absurd h (by decide), fun _ => ?_⟩ | refine ⟨fun _ => ?_, fun h => absurd h (by decide)⟩ | refine ⟨fun _ => ?_, fun h => absurd rfl h⟩ | refine ⟨fun h => absurd rfl h, fun _ => ?_⟩)); try (conv => whnf)
  refine hC _ _ _ _ _ _ ?_
  refine ok_asPlaced hM hW (fun I1 hF1 g1 => ?_)
  have e1 := hF1 362 (by decide)
  (repeat ((conv => whnf); first | refine ⟨_, by assumption, ?_⟩ | refine ⟨_, _, by assumption, ?_⟩ | refine ⟨(show _ ∧ _ by omega), ?_⟩ | refine ⟨(show _ ∨ _ by omega), ?_⟩ | refine ⟨fun h => absurd h (by decide), fun _ => ?_⟩ | refine ⟨fun _ => ?_, fun h => absurd h (by decide)⟩ | refine ⟨fun _ => ?_, fun h => absurd rfl h⟩ | refine ⟨fun h => absurd rfl h, fun _ => ?_⟩)); try (conv => whnf)
  refine hC _ _ _ _ _ _ ?_
  refine ok_runsAll2 (pl := pl0 (I 362)) (wd := wd0 (I 362)) hM (by rw [e1]; exact hW) (by rw [e1]; exact pl0_ok hW) (by rw [e1]; exact wd0_ok hW) (by rw [e1]; exact fun v h0 h2 => (g1 v h0 h2).1) (by rw [e1]; exact fun v h0 h2 => (g1 v (by omega) h2).2) (fun I2 hF2 g2 => ?_)
  rw [e1] at g2
  have e2 : I2 362 = I 362 := by rw [hF2 362 (by decide), e1]
  (repeat ((conv => whnf); first | refine ⟨_, by assumption, ?_⟩ | refine ⟨_, _, by assumption, ?_⟩ | refine ⟨(show _ ∧ _ by omega), ?_⟩ | refine ⟨(show _ ∨ _ by omega), ?_⟩ | refine ⟨fun h => absurd h (by decide), fun _ => ?_⟩ | refine ⟨fun _ => ?_, fun h => absurd h (by decide)⟩ | refine ⟨fun _ => ?_, fun h => absurd rfl h⟩ | refine ⟨fun h => absurd rfl h, fun _ => ?_⟩)); try (conv => whnf)
  refine hC _ _ _ _ _ _ ?_
  refine ok_wrong0 hM e2 hW g2 ?_
  (repeat ((conv => whnf); first | refine ⟨_, by assumption, ?_⟩ | refine ⟨_, _, by assumption, ?_⟩ | refine ⟨(show _ ∧ _ by omega), ?_⟩ | refine ⟨(show _ ∨ _ by omega), ?_⟩ | refine ⟨fun h => absurd h (by decide), fun _ => ?_⟩ | refine ⟨fun _ => ?_, fun h => absurd h (by decide)⟩ | refine ⟨fun _ => ?_, fun h => absurd rfl h⟩ | refine ⟨fun h => absurd rfl h, fun _ => ?_⟩)); try (conv => whnf)
  refine hG _ _ _ _ _ _ ?_
  have := outer (I 362 0 - 1).toNat 1 I2 vu vu vu (by omega) (by omega) ((QF.fr hF1 (by decide) (by simp <;> omega)).tr (QF.fr hF2 (by decide) (by simp <;> omega)))
  rw [rf_nil (Int.le_refl 1)] at this
  exact this ⟨⟨by show (-1 : Int) ≤ -1; omega, by show (-1 : Int) ≤ 53; omega⟩, ⟨by show (-920000 : Int) ≤ 0; omega, by show (0 : Int) ≤ 900000; omega⟩, ⟨Int.le_refl 0, by show (0 : Int) ≤ 495; omega⟩⟩ (fun q => absurd rfl q)
end
section
/-! the reference: change, told -/
theorem HistM.cg {I I' : aI} {h : List aN} (hH : HistM I h) (h1 : I' 361 3 = I 361 3) (h2 : I' 363 = I 363) : HistM I' h := by
  obtain ⟨a, b, c⟩ := hH
  exact ⟨by rw [h1]; exact a, b, fun j m hj k g0 g1 => by rw [h2]; exact c j m hj k g0 g1⟩
theorem chAll_what {n : aN} (hN : 1 ≤ n 0) : (chAll n).1 = -1 ∨ ∃ v k, 1 ≤ v ∧ v < n 0 ∧ 0 ≤ k ∧ k ≤ 3 ∧ chOk n v k = true ∧ (chAll n).1 = 10 * v + k := by
  unfold chAll
  have := rf_inv (f := fun v x => rf (fun k y => chOne n v k y) x 0 4) (a := ((-1, 0, 0) : aCh)) (lo := 1) (fun u x => u ≤ n 0 → (x.1 = -1 ∨ ∃ v k, 1 ≤ v ∧ v < n 0 ∧ 0 ≤ k ∧ k ≤ 3 ∧ chOk n v k = true ∧ x.1 = 10 * v + k)) (fun _ => Or.inl rfl) (n 0 - 1).toNat (n 0) (by omega) (fun u x h1 h2 h3 h4 => by
    refine rf_inv (f := fun k y => chOne n u k y) (a := x) (lo := 0) (fun _ y => (y.1 = -1 ∨ ∃ v k, 1 ≤ v ∧ v < n 0 ∧ 0 ≤ k ∧ k ≤ 3 ∧ chOk n v k = true ∧ y.1 = 10 * v + k)) (h3 (by omega)) 4 4 (by omega) (fun k y g1 g2 g3 => ?_)
    show (chOne n u k y).1 = -1 ∨ _
    unfold chOne
    split
    · rename_i hc
      exact Or.inr ⟨u, k, h1, h2, g1, by omega, hc.1, rfl⟩
    · exact g3)
  exact this (Int.le_refl _)
def changeF (n : aN) : Int × Option aN := if mChange n = -1 then (-1000000003, none) else (sla0 (st n (mChange n / 10) 7 (mChange n % 10)) + 1000000, some (st n (mChange n / 10) 7 (mChange n % 10)))
theorem wf_change {n : aN} (hW : WF n) (h : mChange n ≠ -1) : (1 ≤ mChange n / 10 ∧ mChange n / 10 < 6) ∧ WF (st n (mChange n / 10) 7 (mChange n % 10)) := by
  have hN := hW.1
  rcases chAll_what (n := n) (by omega) with q | ⟨v, k, h1, h2, h3, h4, h5, h6⟩
  · exact absurd q h
  · have e : mChange n = 10 * v + k := h6
    have e1 : mChange n / 10 = v := by omega
    have e2 : mChange n % 10 = k := by omega
    rw [e1, e2]
    refine ⟨by omega, wf_st hW h1 (by omega) ⟨by omega, by omega, by omega, by omega, by omega, by omega, by omega, by omega⟩ (fun _ h7 => ?_)⟩
    rcases (chOk_iff.mp h5).2.1 with q | q
    · omega
    · exact (isKb_iff.mp q).2.2
/-- change() -/
theorem ok_mchange {P : aP} {d : Nat} {K : aK} {I : aI} {R : aR} {S : aS} {h : List aN} (hM : MS R S) (hW : WF (I 362)) (hH : HistM I h) (hK : DeedM (changeF (I 362)) h I R S K) : Ok P 127 (d + 7) [vr 361] I R S K := by
  obtain ⟨m0, r1, m1, r2, m2, r3, m3, r4, m4, r5, m5, r6, m6, r7, m7, r8, m8, r9, m9, r10, m10, r11, m11, r12, m12, r13, m13, r14, m14, r15, m15⟩ := id hM
  have hN := hW.1
  refine Ok.of (by decide) rfl (Nat.le_of_ble_eq_true rfl) ?_
  refine Go.walk 400 [] E127 E127_ok (fun G C hG hC => ?_)
  (repeat ((conv => whnf); first | refine ⟨_, by assumption, ?_⟩ | refine ⟨_, _, by assumption, ?_⟩ | refine ⟨(show _ ∧ _ by omega), ?_⟩ | refine ⟨(show _ ∨ _ by omega), ?_⟩ | refine ⟨fun h => absurd h (by decide), fun _ => ?_⟩ | refine ⟨fun _ => ?_, fun h => absurd h (by decide)⟩ | refine ⟨fun _ => ?_, fun h => absurd rfl h⟩ | refine ⟨fun h => absurd rfl h, fun _ => ?_⟩)); try (conv => whnf)
  refine hC _ _ _ _ _ _ ?_
  refine ok_mchangeNow hM hW (fun I1 hF1 hb => ?_)
  have e1 := hF1.1 362 (by decide)
  (repeat ((conv => whnf); first | refine ⟨_, by assumption, ?_⟩ | refine ⟨_, _, by assumption, ?_⟩ | refine ⟨(show _ ∧ _ by omega), ?_⟩ | refine ⟨(show _ ∨ _ by omega), ?_⟩ | refine ⟨fun h => absurd h (by decide), fun _ => ?_⟩ | refine ⟨fun _ => ?_, fun h => absurd h (by decide)⟩ | refine ⟨fun _ => ?_, fun h => absurd rfl h⟩ | refine ⟨fun h => absurd rfl h, fun _ => ?_⟩)); try (conv => whnf)
  refine ⟨fun q => ?_, fun q => ?_⟩
  · obtain ⟨c1, c2⟩ := wf_change hW q
    have hH1 : HistM I1 h := hH.cg (hF1.2 3 (by decide)) (hF1.1 363 (by decide))
    (repeat ((conv => whnf); first | refine ⟨_, by assumption, ?_⟩ | refine ⟨_, _, by assumption, ?_⟩ | refine ⟨(show _ ∧ _ by omega), ?_⟩ | refine ⟨(show _ ∨ _ by omega), ?_⟩ | refine ⟨fun h => absurd h (by decide), fun _ => ?_⟩ | refine ⟨fun _ => ?_, fun h => absurd h (by decide)⟩ | refine ⟨fun _ => ?_, fun h => absurd rfl h⟩ | refine ⟨fun h => absurd rfl h, fun _ => ?_⟩)); try (conv => whnf)
    refine hC _ _ _ _ _ _ ?_
    refine ok_deed hM hH1 (fun I2 hF2 hH2 => ?_)
    rw [e1] at hH2
    have e2 : I2 362 = I 362 := by rw [hF2.1 362 (by decide), e1]
    (repeat ((conv => whnf); first | refine ⟨_, by assumption, ?_⟩ | refine ⟨_, _, by assumption, ?_⟩ | refine ⟨(show _ ∧ _ by omega), ?_⟩ | refine ⟨(show _ ∨ _ by omega), ?_⟩ | refine ⟨fun h => absurd h (by decide), fun _ => ?_⟩ | refine ⟨fun _ => ?_, fun h => absurd h (by decide)⟩ | refine ⟨fun _ => ?_, fun h => absurd rfl h⟩ | refine ⟨fun h => absurd rfl h, fun _ => ?_⟩)); try (conv => whnf)
    refine hC _ _ _ _ _ _ ?_
    refine ok_sets hM (by omega) ?_
    have e3 : uI I2 362 (20 + 8 * (mChange (I 362) / 10) + 7) (mChange (I 362) % 10) 362 = st (I 362) (mChange (I 362) / 10) 7 (mChange (I 362) % 10) := by rw [uI_up, e2]; rfl
    generalize hI3 : uI I2 362 (20 + 8 * (mChange (I 362) / 10) + 7) (mChange (I 362) % 10) = I3 at e3 ⊢
    have hF3 : MF [362] [] I2 I3 := by rw [← hI3]; exact MF.rf.put (by decide) (by decide)
    (repeat ((conv => whnf); first | refine ⟨_, by assumption, ?_⟩ | refine ⟨_, _, by assumption, ?_⟩ | refine ⟨(show _ ∧ _ by omega), ?_⟩ | refine ⟨(show _ ∨ _ by omega), ?_⟩ | refine ⟨fun h => absurd h (by decide), fun _ => ?_⟩ | refine ⟨fun _ => ?_, fun h => absurd h (by decide)⟩ | refine ⟨fun _ => ?_, fun h => absurd rfl h⟩ | refine ⟨fun h => absurd rfl h, fun _ => ?_⟩)); try (conv => whnf)
    refine hC _ _ _ _ _ _ ?_
    refine ok_slackNow hM (by rw [e3]; exact c2) (fun I4 hF4 ha => ?_)
    rw [e3]
    have hs := sla_bd c2 (pl0_ok c2) (wd0_ok c2)
    (repeat ((conv => whnf); first | refine ⟨_, by assumption, ?_⟩ | refine ⟨_, _, by assumption, ?_⟩ | refine ⟨(show _ ∧ _ by omega), ?_⟩ | refine ⟨(show _ ∨ _ by omega), ?_⟩ | refine ⟨fun h => absurd h (by decide), fun _ => ?_⟩ | refine ⟨fun _ => ?_, fun h => absurd h (by decide)⟩ | refine ⟨fun _ => ?_, fun h => absurd rfl h⟩ | refine ⟨fun h => absurd rfl h, fun _ => ?_⟩)); try (conv => whnf)
    have hF04 : MF [362, 363, 368, 369, 370, 371, 372, 373, 374, 375, 376] [3, 18, 19] I I4 := (hF1.trans (hF2.trans (hF3.trans (QF.fr6 hF4) (L := [362, 368, 369, 370, 371, 372, 373, 374, 375, 376]) (J := [18, 19]) (by simp <;> omega) (by simp <;> omega)) (L := [362, 363, 368, 369, 370, 371, 372, 373, 374, 375, 376]) (J := [3, 18, 19]) (by simp <;> omega) (by simp <;> omega)) (by simp <;> omega) (by simp <;> omega))
    have := hK.2 _ (by rw [changeF, if_neg q]) I4 hF04 (by rw [hF4 362 (by decide)]; exact e3) (hH2.cg (by rw [hF4 361 (by decide)]; exact hF3.2 3 (by decide)) (by rw [hF4 363 (by decide)]; exact hF3.1 363 (by decide)))
    rw [changeF, if_neg q] at this
    exact this
  · (repeat ((conv => whnf); first | refine ⟨_, by assumption, ?_⟩ | refine ⟨_, _, by assumption, ?_⟩ | refine ⟨(show _ ∧ _ by omega), ?_⟩ | refine ⟨(show _ ∨ _ by omega), ?_⟩ | refine ⟨fun h => absurd h (by decide), fun _ => ?_⟩ | refine ⟨fun _ => ?_, fun h => absurd h (by decide)⟩ | refine ⟨fun _ => ?_, fun h => absurd rfl h⟩ | refine ⟨fun h => absurd rfl h, fun _ => ?_⟩)); try (conv => whnf)
    have := hK.1 (by rw [changeF, if_pos q]) I1 hF1
    rw [changeF, if_pos q] at this
    exact this
theorem mWid_bd {n : aN} (hW : WF n) : -920000 ≤ mWid n ∧ mWid n ≤ 900000 := by
  have hN := hW.1
  have hb := bShl1_bd (m := n 0) (by omega)
  unfold mWid
  refine rf_inv (f := widS n) (a := (0 : Int)) (lo := 0) (fun _ x => -920000 ≤ x ∧ x ≤ 900000) (by omega) (bShl 1 (n 0 - 1)).toNat (bShl 1 (n 0 - 1)) (by omega) (fun u x _ _ h => ?_)
  have := sla_bd hW (pl0_ok hW) (wdS_ok (n := n) (set := u))
  unfold widS
  split
  · exact this
  · exact h
def toldMF (n : aN) (B : List (Int × Int)) (kn sd w : Int) : Int := if w = 10 then mChange n else if w = 11 then B.length else if w = 12 then weL n B 0 else if w = 13 then kn else if w = 14 then sd else -1000000002
def toldF (n : aN) (B : List (Int × Int)) (kn sd w : Int) : Int := if w = 0 then n 0 else if w = 1 then mEnds n else if w = 2 then n 1 else if w = 3 then mKinds n else if w = 4 then mCost n (pl0 n) 0 else if w = 5 then sla0 n + 1000000 else if w = 6 then mWorst n else if w = 7 then wro n (pl0 n) else if w = 9 then mWid n + 1000000 else toldMF n B kn sd w
/-- toldMore(what) -/
theorem ok_mtoldMore {P : aP} {d : Nat} {K : aK} {I : aI} {R : aR} {S : aS} {B : List (Int × Int)} {w : Int} (hM : MS R S) (hW : WF (I 362)) (hB : BookM I B) (hBr : ∀ p ∈ B, iR p.1 ∧ iR p.2) (hw : iR w) (hK : ∀ I', QF I I' → K (some (vi (toldMF (I 362) B (I 361 3) (I 361 1) w))) I' R S) : Ok P 106 (d + 8) [vr 361, vi w] I R S K := by
  obtain ⟨m0, r1, m1, r2, m2, r3, m3, r4, m4, r5, m5, r6, m6, r7, m7, r8, m8, r9, m9, r10, m10, r11, m11, r12, m12, r13, m13, r14, m14, r15, m15⟩ := id hM
  have e8 : I 361 ((8 : Nat) : Int) = B.length := hB.1
  unfold toldMF at hK
  refine Ok.of (by decide) rfl (Nat.le_of_ble_eq_true rfl) ?_
  refine Go.walk 400 [] E106 E106_ok (fun G C hG hC => ?_)
  (repeat ((conv => whnf); first | refine ⟨_, by assumption, ?_⟩ | refine ⟨_, _, by assumption, ?_⟩ | refine ⟨(show _ ∧ _ by omega), ?_⟩ | refine ⟨(show _ ∨ _ by omega), ?_⟩ | refine ⟨fun h => absurd h (by decide), fun _ => ?_⟩ | refine ⟨fun _ => ?_, fun h => absurd h (by decide)⟩ | refine ⟨fun _ => ?_, fun h => absurd rfl h⟩ | refine ⟨fun h => absurd rfl h, fun _ => ?_⟩)); try (conv => whnf)
  refine ⟨fun q => ?_, fun q => ?_, fun q => ?_, fun q => ?_, fun q => ?_, fun q => ?_, trivial⟩
  · have q : w < 10 ∨ 10 + (5 : Int) ≤ w := q
    rw [if_neg (by omega), if_neg (by omega), if_neg (by omega), if_neg (by omega), if_neg (by omega)] at hK
    (repeat ((conv => whnf); first | refine ⟨_, by assumption, ?_⟩ | refine ⟨_, _, by assumption, ?_⟩ | refine ⟨(show _ ∧ _ by omega), ?_⟩ | refine ⟨(show _ ∨ _ by omega), ?_⟩ | refine ⟨fun h => absurd h (by decide), fun _ => ?_⟩ | refine ⟨fun _ => ?_, fun h => absurd h (by decide)⟩ | refine ⟨fun _ => ?_, fun h => absurd rfl h⟩ | refine ⟨fun h => absurd rfl h, fun _ => ?_⟩)); try (conv => whnf)
    exact hK I MF.rf
  · rw [if_pos (by omega)] at hK
    (repeat ((conv => whnf); first | refine ⟨_, by assumption, ?_⟩ | refine ⟨_, _, by assumption, ?_⟩ | refine ⟨(show _ ∧ _ by omega), ?_⟩ | refine ⟨(show _ ∨ _ by omega), ?_⟩ | refine ⟨fun h => absurd h (by decide), fun _ => ?_⟩ | refine ⟨fun _ => ?_, fun h => absurd h (by decide)⟩ | refine ⟨fun _ => ?_, fun h => absurd rfl h⟩ | refine ⟨fun h => absurd rfl h, fun _ => ?_⟩)); try (conv => whnf)
    refine hC _ _ _ _ _ _ ?_
    refine ok_mchangeNow hM hW (fun I1 hF1 _ => ?_)
    (repeat ((conv => whnf); first | refine ⟨_, by assumption, ?_⟩ | refine ⟨_, _, by assumption, ?_⟩ | refine ⟨(show _ ∧ _ by omega), ?_⟩ | refine ⟨(show _ ∨ _ by omega), ?_⟩ | refine ⟨fun h => absurd h (by decide), fun _ => ?_⟩ | refine ⟨fun _ => ?_, fun h => absurd h (by decide)⟩ | refine ⟨fun _ => ?_, fun h => absurd rfl h⟩ | refine ⟨fun h => absurd rfl h, fun _ => ?_⟩)); try (conv => whnf)
    exact hK I1 hF1
  · rw [if_neg (by omega), if_pos (by omega)] at hK
    (repeat ((conv => whnf); first | refine ⟨_, by assumption, ?_⟩ | refine ⟨_, _, by assumption, ?_⟩ | refine ⟨(show _ ∧ _ by omega), ?_⟩ | refine ⟨(show _ ∨ _ by omega), ?_⟩ | refine ⟨fun h => absurd h (by decide), fun _ => ?_⟩ | refine ⟨fun _ => ?_, fun h => absurd h (by decide)⟩ | refine ⟨fun _ => ?_, fun h => absurd rfl h⟩ | refine ⟨fun h => absurd rfl h, fun _ => ?_⟩)); try (conv => whnf)
    rw [e8]
    exact hK I MF.rf
  · rw [if_neg (by omega), if_neg (by omega), if_pos (by omega)] at hK
    (repeat ((conv => whnf); first | refine ⟨_, by assumption, ?_⟩ | refine ⟨_, _, by assumption, ?_⟩ | refine ⟨(show _ ∧ _ by omega), ?_⟩ | refine ⟨(show _ ∨ _ by omega), ?_⟩ | refine ⟨fun h => absurd h (by decide), fun _ => ?_⟩ | refine ⟨fun _ => ?_, fun h => absurd h (by decide)⟩ | refine ⟨fun _ => ?_, fun h => absurd rfl h⟩ | refine ⟨fun h => absurd rfl h, fun _ => ?_⟩)); try (conv => whnf)
    refine hC _ _ _ _ _ _ ?_
    refine ok_mwrongEntry hM hW hB hBr (fun I1 hF1 => ?_)
    (repeat ((conv => whnf); first | refine ⟨_, by assumption, ?_⟩ | refine ⟨_, _, by assumption, ?_⟩ | refine ⟨(show _ ∧ _ by omega), ?_⟩ | refine ⟨(show _ ∨ _ by omega), ?_⟩ | refine ⟨fun h => absurd h (by decide), fun _ => ?_⟩ | refine ⟨fun _ => ?_, fun h => absurd h (by decide)⟩ | refine ⟨fun _ => ?_, fun h => absurd rfl h⟩ | refine ⟨fun h => absurd rfl h, fun _ => ?_⟩)); try (conv => whnf)
    exact hK I1 (QF.fr6 hF1)
  · rw [if_neg (by omega), if_neg (by omega), if_neg (by omega), if_pos (by omega)] at hK
    (repeat ((conv => whnf); first | refine ⟨_, by assumption, ?_⟩ | refine ⟨_, _, by assumption, ?_⟩ | refine ⟨(show _ ∧ _ by omega), ?_⟩ | refine ⟨(show _ ∨ _ by omega), ?_⟩ | refine ⟨fun h => absurd h (by decide), fun _ => ?_⟩ | refine ⟨fun _ => ?_, fun h => absurd h (by decide)⟩ | refine ⟨fun _ => ?_, fun h => absurd rfl h⟩ | refine ⟨fun h => absurd rfl h, fun _ => ?_⟩)); try (conv => whnf)
    exact hK I MF.rf
  · rw [if_neg (by omega), if_neg (by omega), if_neg (by omega), if_neg (by omega), if_pos (by omega)] at hK
    (repeat ((conv => whnf); first | refine ⟨_, by assumption, ?_⟩ | refine ⟨_, _, by assumption, ?_⟩ | refine ⟨(show _ ∧ _ by omega), ?_⟩ | refine ⟨(show _ ∨ _ by omega), ?_⟩ | refine ⟨fun h => absurd h (by decide), fun _ => ?_⟩ | refine ⟨fun _ => ?_, fun h => absurd h (by decide)⟩ | refine ⟨fun _ => ?_, fun h => absurd rfl h⟩ | refine ⟨fun h => absurd rfl h, fun _ => ?_⟩)); try (conv => whnf)
    exact hK I MF.rf
/-- told(what) -/
theorem ok_mtold {P : aP} {d : Nat} {K : aK} {I : aI} {R : aR} {S : aS} {B : List (Int × Int)} {w : Int} (hM : MS R S) (hW : WF (I 362)) (hB : BookM I B) (hBr : ∀ p ∈ B, iR p.1 ∧ iR p.2) (hw : iR w) (h8 : w = 8 → ∀ I' L, QF I I' → Fro L (PtsX (I 362)) → K (some (vi L.length)) I' R S) (hK : w ≠ 8 → ∀ I', QF I I' → K (some (vi (toldF (I 362) B (I 361 3) (I 361 1) w))) I' R S) : Ok P 105 (d + 9) [vr 361, vi w] I R S K := by
  obtain ⟨m0, r1, m1, r2, m2, r3, m3, r4, m4, r5, m5, r6, m6, r7, m7, r8, m8, r9, m9, r10, m10, r11, m11, r12, m12, r13, m13, r14, m14, r15, m15⟩ := id hM
  have hN := hW.1
  unfold toldF at hK
  refine Ok.of (by decide) rfl (Nat.le_of_ble_eq_true rfl) ?_
  refine Go.walk 400 [] E105 E105_ok (fun G C hG hC => ?_)
  (repeat ((conv => whnf); first | refine ⟨_, by assumption, ?_⟩ | refine ⟨_, _, by assumption, ?_⟩ | refine ⟨(show _ ∧ _ by omega), ?_⟩ | refine ⟨(show _ ∨ _ by omega), ?_⟩ | refine ⟨fun h => absurd h (by decide), fun _ => ?_⟩ | refine ⟨fun _ => ?_, fun h => absurd h (by decide)⟩ | refine ⟨fun _ => ?_, fun h => absurd rfl h⟩ | refine ⟨fun h => absurd rfl h, fun _ => ?_⟩)); try (conv => whnf)
  refine ⟨fun q => ?_, fun q => ?_, fun q => ?_, fun q => ?_, fun q => ?_, fun q => ?_, fun q => ?_, fun q => ?_, fun q => ?_, fun q => ?_, fun q => ?_, trivial⟩
  · have q : w < 0 ∨ 0 + (10 : Int) ≤ w := q
    have hK := hK (by omega)
    rw [if_neg (by omega), if_neg (by omega), if_neg (by omega), if_neg (by omega), if_neg (by omega), if_neg (by omega), if_neg (by omega), if_neg (by omega), if_neg (by omega)] at hK
    (repeat ((conv => whnf); first | refine ⟨_, by assumption, ?_⟩ | refine ⟨_, _, by assumption, ?_⟩ | refine ⟨(show _ ∧ _ by omega), ?_⟩ | refine ⟨(show _ ∨ _ by omega), ?_⟩ | refine ⟨fun h => absurd h (by decide), fun _ => ?_⟩ | refine ⟨fun _ => ?_, fun h => absurd h (by decide)⟩ | refine ⟨fun _ => ?_, fun h => absurd rfl h⟩ | refine ⟨fun h => absurd rfl h, fun _ => ?_⟩)); try (conv => whnf)
    refine hC _ _ _ _ _ _ ?_
    refine ok_mtoldMore hM hW hB hBr hw (fun I1 hF1 => ?_)
    (repeat ((conv => whnf); first | refine ⟨_, by assumption, ?_⟩ | refine ⟨_, _, by assumption, ?_⟩ | refine ⟨(show _ ∧ _ by omega), ?_⟩ | refine ⟨(show _ ∨ _ by omega), ?_⟩ | refine ⟨fun h => absurd h (by decide), fun _ => ?_⟩ | refine ⟨fun _ => ?_, fun h => absurd h (by decide)⟩ | refine ⟨fun _ => ?_, fun h => absurd rfl h⟩ | refine ⟨fun h => absurd rfl h, fun _ => ?_⟩)); try (conv => whnf)
    exact hK I1 hF1
  · have hK := hK (by omega) I MF.rf
    rw [if_pos (by omega)] at hK
    (repeat ((conv => whnf); first | refine ⟨_, by assumption, ?_⟩ | refine ⟨_, _, by assumption, ?_⟩ | refine ⟨(show _ ∧ _ by omega), ?_⟩ | refine ⟨(show _ ∨ _ by omega), ?_⟩ | refine ⟨fun h => absurd h (by decide), fun _ => ?_⟩ | refine ⟨fun _ => ?_, fun h => absurd h (by decide)⟩ | refine ⟨fun _ => ?_, fun h => absurd rfl h⟩ | refine ⟨fun h => absurd rfl h, fun _ => ?_⟩)); try (conv => whnf)
    exact hK
  · have hK := hK (by omega) I MF.rf
    rw [if_neg (by omega), if_pos (by omega)] at hK
    (repeat ((conv => whnf); first | refine ⟨_, by assumption, ?_⟩ | refine ⟨_, _, by assumption, ?_⟩ | refine ⟨(show _ ∧ _ by omega), ?_⟩ | refine ⟨(show _ ∨ _ by omega), ?_⟩ | refine ⟨fun h => absurd h (by decide), fun _ => ?_⟩ | refine ⟨fun _ => ?_, fun h => absurd h (by decide)⟩ | refine ⟨fun _ => ?_, fun h => absurd rfl h⟩ | refine ⟨fun h => absurd rfl h, fun _ => ?_⟩)); try (conv => whnf)
    refine hC _ _ _ _ _ _ ?_
    refine ok_mends hM hW ?_
    (repeat ((conv => whnf); first | refine ⟨_, by assumption, ?_⟩ | refine ⟨_, _, by assumption, ?_⟩ | refine ⟨(show _ ∧ _ by omega), ?_⟩ | refine ⟨(show _ ∨ _ by omega), ?_⟩ | refine ⟨fun h => absurd h (by decide), fun _ => ?_⟩ | refine ⟨fun _ => ?_, fun h => absurd h (by decide)⟩ | refine ⟨fun _ => ?_, fun h => absurd rfl h⟩ | refine ⟨fun h => absurd rfl h, fun _ => ?_⟩)); try (conv => whnf)
    exact hK
  · have hK := hK (by omega) I MF.rf
    rw [if_neg (by omega), if_neg (by omega), if_pos (by omega)] at hK
    (repeat ((conv => whnf); first | refine ⟨_, by assumption, ?_⟩ | refine ⟨_, _, by assumption, ?_⟩ | refine ⟨(show _ ∧ _ by omega), ?_⟩ | refine ⟨(show _ ∨ _ by omega), ?_⟩ | refine ⟨fun h => absurd h (by decide), fun _ => ?_⟩ | refine ⟨fun _ => ?_, fun h => absurd h (by decide)⟩ | refine ⟨fun _ => ?_, fun h => absurd rfl h⟩ | refine ⟨fun h => absurd rfl h, fun _ => ?_⟩)); try (conv => whnf)
    exact hK
  · have hK := hK (by omega) I MF.rf
    rw [if_neg (by omega), if_neg (by omega), if_neg (by omega), if_pos (by omega)] at hK
    (repeat ((conv => whnf); first | refine ⟨_, by assumption, ?_⟩ | refine ⟨_, _, by assumption, ?_⟩ | refine ⟨(show _ ∧ _ by omega), ?_⟩ | refine ⟨(show _ ∨ _ by omega), ?_⟩ | refine ⟨fun h => absurd h (by decide), fun _ => ?_⟩ | refine ⟨fun _ => ?_, fun h => absurd h (by decide)⟩ | refine ⟨fun _ => ?_, fun h => absurd rfl h⟩ | refine ⟨fun h => absurd rfl h, fun _ => ?_⟩)); try (conv => whnf)
    refine hC _ _ _ _ _ _ ?_
    refine ok_kindsThere hM hW ?_
    (repeat ((conv => whnf); first | refine ⟨_, by assumption, ?_⟩ | refine ⟨_, _, by assumption, ?_⟩ | refine ⟨(show _ ∧ _ by omega), ?_⟩ | refine ⟨(show _ ∨ _ by omega), ?_⟩ | refine ⟨fun h => absurd h (by decide), fun _ => ?_⟩ | refine ⟨fun _ => ?_, fun h => absurd h (by decide)⟩ | refine ⟨fun _ => ?_, fun h => absurd rfl h⟩ | refine ⟨fun h => absurd rfl h, fun _ => ?_⟩)); try (conv => whnf)
    exact hK
  · have hK := hK (by omega)
    rw [if_neg (by omega), if_neg (by omega), if_neg (by omega), if_neg (by omega), if_pos (by omega)] at hK
    (repeat ((conv => whnf); first | refine ⟨_, by assumption, ?_⟩ | refine ⟨_, _, by assumption, ?_⟩ | refine ⟨(show _ ∧ _ by omega), ?_⟩ | refine ⟨(show _ ∨ _ by omega), ?_⟩ | refine ⟨fun h => absurd h (by decide), fun _ => ?_⟩ | refine ⟨fun _ => ?_, fun h => absurd h (by decide)⟩ | refine ⟨fun _ => ?_, fun h => absurd rfl h⟩ | refine ⟨fun h => absurd rfl h, fun _ => ?_⟩)); try (conv => whnf)
    refine hC _ _ _ _ _ _ ?_
    refine ok_asPlaced hM hW (fun I1 hF1 g1 => ?_)
    have e1 := hF1 362 (by decide)
    (repeat ((conv => whnf); first | refine ⟨_, by assumption, ?_⟩ | refine ⟨_, _, by assumption, ?_⟩ | refine ⟨(show _ ∧ _ by omega), ?_⟩ | refine ⟨(show _ ∨ _ by omega), ?_⟩ | refine ⟨fun h => absurd h (by decide), fun _ => ?_⟩ | refine ⟨fun _ => ?_, fun h => absurd h (by decide)⟩ | refine ⟨fun _ => ?_, fun h => absurd rfl h⟩ | refine ⟨fun h => absurd rfl h, fun _ => ?_⟩)); try (conv => whnf)
    refine hC _ _ _ _ _ _ ?_
    refine ok_cost0 hM e1 hW (pl0_ok hW) (fun v a b => (g1 v a b).1) ?_
    (repeat ((conv => whnf); first | refine ⟨_, by assumption, ?_⟩ | refine ⟨_, _, by assumption, ?_⟩ | refine ⟨(show _ ∧ _ by omega), ?_⟩ | refine ⟨(show _ ∨ _ by omega), ?_⟩ | refine ⟨fun h => absurd h (by decide), fun _ => ?_⟩ | refine ⟨fun _ => ?_, fun h => absurd h (by decide)⟩ | refine ⟨fun _ => ?_, fun h => absurd rfl h⟩ | refine ⟨fun h => absurd rfl h, fun _ => ?_⟩)); try (conv => whnf)
    exact hK I1 (QF.fr hF1 (by decide) (by simp <;> omega))
  · have hK := hK (by omega)
    rw [if_neg (by omega), if_neg (by omega), if_neg (by omega), if_neg (by omega), if_neg (by omega), if_pos (by omega)] at hK
    have hs := sla_bd hW (pl0_ok hW) (wd0_ok hW)
    (repeat ((conv => whnf); first | refine ⟨_, by assumption, ?_⟩ | refine ⟨_, _, by assumption, ?_⟩ | refine ⟨(show _ ∧ _ by omega), ?_⟩ | refine ⟨(show _ ∨ _ by omega), ?_⟩ | refine ⟨fun h => absurd h (by decide), fun _ => ?_⟩ | refine ⟨fun _ => ?_, fun h => absurd h (by decide)⟩ | refine ⟨fun _ => ?_, fun h => absurd rfl h⟩ | refine ⟨fun h => absurd rfl h, fun _ => ?_⟩)); try (conv => whnf)
    refine hC _ _ _ _ _ _ ?_
    refine ok_slackNow hM hW (fun I1 hF1 g1 => ?_)
    (repeat ((conv => whnf); first | refine ⟨_, by assumption, ?_⟩ | refine ⟨_, _, by assumption, ?_⟩ | refine ⟨(show _ ∧ _ by omega), ?_⟩ | refine ⟨(show _ ∨ _ by omega), ?_⟩ | refine ⟨fun h => absurd h (by decide), fun _ => ?_⟩ | refine ⟨fun _ => ?_, fun h => absurd h (by decide)⟩ | refine ⟨fun _ => ?_, fun h => absurd rfl h⟩ | refine ⟨fun h => absurd rfl h, fun _ => ?_⟩)); try (conv => whnf)
    exact hK I1 (QF.fr6 hF1)
  · have hK := hK (by omega)
    rw [if_neg (by omega), if_neg (by omega), if_neg (by omega), if_neg (by omega), if_neg (by omega), if_neg (by omega), if_pos (by omega)] at hK
    (repeat ((conv => whnf); first | refine ⟨_, by assumption, ?_⟩ | refine ⟨_, _, by assumption, ?_⟩ | refine ⟨(show _ ∧ _ by omega), ?_⟩ | refine ⟨(show _ ∨ _ by omega), ?_⟩ | refine ⟨fun h => absurd h (by decide), fun _ => ?_⟩ | refine ⟨fun _ => ?_, fun h => absurd h (by decide)⟩ | refine ⟨fun _ => ?_, fun h => absurd rfl h⟩ | refine ⟨fun h => absurd rfl h, fun _ => ?_⟩)); try (conv => whnf)
    refine hC _ _ _ _ _ _ ?_
    refine ok_mworst hM hW (fun I1 hF1 => ?_)
    (repeat ((conv => whnf); first | refine ⟨_, by assumption, ?_⟩ | refine ⟨_, _, by assumption, ?_⟩ | refine ⟨(show _ ∧ _ by omega), ?_⟩ | refine ⟨(show _ ∨ _ by omega), ?_⟩ | refine ⟨fun h => absurd h (by decide), fun _ => ?_⟩ | refine ⟨fun _ => ?_, fun h => absurd h (by decide)⟩ | refine ⟨fun _ => ?_, fun h => absurd rfl h⟩ | refine ⟨fun h => absurd rfl h, fun _ => ?_⟩)); try (conv => whnf)
    exact hK I1 (QF.fr6 hF1)
  · have hK := hK (by omega)
    rw [if_neg (by omega), if_neg (by omega), if_neg (by omega), if_neg (by omega), if_neg (by omega), if_neg (by omega), if_neg (by omega), if_pos (by omega)] at hK
    (repeat ((conv => whnf); first | refine ⟨_, by assumption, ?_⟩ | refine ⟨_, _, by assumption, ?_⟩ | refine ⟨(show _ ∧ _ by omega), ?_⟩ | refine ⟨(show _ ∨ _ by omega), ?_⟩ | refine ⟨fun h => absurd h (by decide), fun _ => ?_⟩ | refine ⟨fun _ => ?_, fun h => absurd h (by decide)⟩ | refine ⟨fun _ => ?_, fun h => absurd rfl h⟩ | refine ⟨fun h => absurd rfl h, fun _ => ?_⟩)); try (conv => whnf)
    refine hC _ _ _ _ _ _ ?_
    refine ok_slackNow hM hW (fun I1 hF1 g1 => ?_)
    have e1 := hF1 362 (by decide)
    (repeat ((conv => whnf); first | refine ⟨_, by assumption, ?_⟩ | refine ⟨_, _, by assumption, ?_⟩ | refine ⟨(show _ ∧ _ by omega), ?_⟩ | refine ⟨(show _ ∨ _ by omega), ?_⟩ | refine ⟨fun h => absurd h (by decide), fun _ => ?_⟩ | refine ⟨fun _ => ?_, fun h => absurd h (by decide)⟩ | refine ⟨fun _ => ?_, fun h => absurd rfl h⟩ | refine ⟨fun h => absurd rfl h, fun _ => ?_⟩)); try (conv => whnf)
    refine hC _ _ _ _ _ _ ?_
    refine ok_wrong0 hM e1 hW g1 ?_
    (repeat ((conv => whnf); first | refine ⟨_, by assumption, ?_⟩ | refine ⟨_, _, by assumption, ?_⟩ | refine ⟨(show _ ∧ _ by omega), ?_⟩ | refine ⟨(show _ ∨ _ by omega), ?_⟩ | refine ⟨fun h => absurd h (by decide), fun _ => ?_⟩ | refine ⟨fun _ => ?_, fun h => absurd h (by decide)⟩ | refine ⟨fun _ => ?_, fun h => absurd rfl h⟩ | refine ⟨fun h => absurd rfl h, fun _ => ?_⟩)); try (conv => whnf)
    exact hK I1 (QF.fr6 hF1)
  · (repeat ((conv => whnf); first | refine ⟨_, by assumption, ?_⟩ | refine ⟨_, _, by assumption, ?_⟩ | refine ⟨(show _ ∧ _ by omega), ?_⟩ | refine ⟨(show _ ∨ _ by omega), ?_⟩ | refine ⟨fun h => absurd h (by decide), fun _ => ?_⟩ | refine ⟨fun _ => ?_, fun h => absurd h (by decide)⟩ | refine ⟨fun _ => ?_, fun h => absurd rfl h⟩ | refine ⟨fun h => absurd rfl h, fun _ => ?_⟩)); try (conv => whnf)
    refine hC _ _ _ _ _ _ ?_
    refine ok_seeksPoints hM hW (fun I1 L hF1 hL e18 _ _ _ => ?_)
    have e : I1 361 ((18 : Nat) : Int) = L.length := e18
    (repeat ((conv => whnf); first | refine ⟨_, by assumption, ?_⟩ | refine ⟨_, _, by assumption, ?_⟩ | refine ⟨(show _ ∧ _ by omega), ?_⟩ | refine ⟨(show _ ∨ _ by omega), ?_⟩ | refine ⟨fun h => absurd h (by decide), fun _ => ?_⟩ | refine ⟨fun _ => ?_, fun h => absurd h (by decide)⟩ | refine ⟨fun _ => ?_, fun h => absurd rfl h⟩ | refine ⟨fun h => absurd rfl h, fun _ => ?_⟩)); try (conv => whnf)
    rw [e]
    exact h8 (by omega) I1 L (QF.mf hF1) hL
  · have hK := hK (by omega)
    rw [if_neg (by omega), if_neg (by omega), if_neg (by omega), if_neg (by omega), if_neg (by omega), if_neg (by omega), if_neg (by omega), if_neg (by omega), if_pos (by omega)] at hK
    have hs := mWid_bd hW
    (repeat ((conv => whnf); first | refine ⟨_, by assumption, ?_⟩ | refine ⟨_, _, by assumption, ?_⟩ | refine ⟨(show _ ∧ _ by omega), ?_⟩ | refine ⟨(show _ ∨ _ by omega), ?_⟩ | refine ⟨fun h => absurd h (by decide), fun _ => ?_⟩ | refine ⟨fun _ => ?_, fun h => absurd h (by decide)⟩ | refine ⟨fun _ => ?_, fun h => absurd rfl h⟩ | refine ⟨fun h => absurd rfl h, fun _ => ?_⟩)); try (conv => whnf)
    refine hC _ _ _ _ _ _ ?_
    refine ok_mwidest hM hW (fun I1 hF1 => ?_)
    (repeat ((conv => whnf); first | refine ⟨_, by assumption, ?_⟩ | refine ⟨_, _, by assumption, ?_⟩ | refine ⟨(show _ ∧ _ by omega), ?_⟩ | refine ⟨(show _ ∨ _ by omega), ?_⟩ | refine ⟨fun h => absurd h (by decide), fun _ => ?_⟩ | refine ⟨fun _ => ?_, fun h => absurd h (by decide)⟩ | refine ⟨fun _ => ?_, fun h => absurd rfl h⟩ | refine ⟨fun h => absurd rfl h, fun _ => ?_⟩)); try (conv => whnf)
    exact hK I1 (QF.fr6 hF1)
end
section
/-! the bounds stand through every deed -/
theorem nf_up {n : aN} {j z v w : Int} (h : 20 + 8 * v + w ≠ j) : nf (up n j z) v w = nf n v w := up_ne h
theorem kf_up {n : aN} {j z k w : Int} (h : 2 + 6 * (k - 1) + w ≠ j) : kf (up n j z) k w = kf n k w := up_ne h
theorem wf_up0 {n : aN} (hW : WF n) {m : Int} (hm : 1 ≤ m ∧ m ≤ 6) (hx : ∀ v, 1 ≤ v → n 0 ≤ v → v < m → (1 ≤ nf n v 3 ∧ 1 ≤ nf n v 4) ∧ (1 ≤ nf n v 7 → kf n (nf n v 7) 0 = 1)) : WF (up n 0 m) := by
  obtain ⟨h1, h2, h3, h4, h5, h6⟩ := hW
  have e0 : up n 0 m 0 = m := up_at
  have e1 : up n 0 m 1 = n 1 := up_ne (by omega)
  have en : ∀ x y : Int, 0 ≤ x → 0 ≤ y → nf (up n 0 m) x y = nf n x y := fun x y g1 g2 => nf_up (by omega)
  have ek : ∀ k y : Int, 1 ≤ k → 0 ≤ y → kf (up n 0 m) k y = kf n k y := fun k y g1 g2 => kf_up (by omega)
  refine ⟨by rw [e0, e1]; omega, fun v a b => ?_, fun v a b => ?_, fun v a b c => ?_, ?_, fun k a b => ?_⟩
  · rw [en v 0 a (by omega), en v 1 a (by omega), en v 2 a (by omega), en v 3 a (by omega), en v 4 a (by omega), en v 5 a (by omega), en v 6 a (by omega), en v 7 a (by omega)]
    exact h2 v a b
  · rw [e0] at b
    rw [en v 3 (by omega) (by omega), en v 4 (by omega) (by omega)]
    by_cases q : v < n 0
    · exact h3 v a q
    · exact (hx v a (by omega) b).1
  · rw [e0] at b
    rw [en v 7 (by omega) (by omega)] at c ⊢
    rw [ek _ 0 c (by omega)]
    by_cases q : v < n 0
    · exact h4 v a q c
    · exact (hx v a (by omega) b).2 c
  · rw [en 0 7 (by omega) (by omega)]; exact h5
  · rw [ek k 0 a (by omega), ek k 1 a (by omega), ek k 2 a (by omega), ek k 3 a (by omega), ek k 4 a (by omega), ek k 5 a (by omega)]
    exact h6 k a b
theorem wf_take {n n' : aN} {r : Int} (hW : WF n) (h : takeF n = (r, some n')) : WF n' := by
  have hN := hW.1
  unfold takeF at h
  split at h
  · cases h
  · cases h
    exact wf_up0 hW (by omega) (fun v _ _ _ => by omega)
theorem wf_pull {n n' : aN} {r p : Int} (hW : WF n) (h : pullF n p = (r, some n')) : WF n' := by
  obtain ⟨h1, h2, h3, h4, h5, h6⟩ := hW
  unfold pullF at h
  split at h
  · cases h
  · rename_i hp
    cases h
    have e0 : up n 1 p 0 = n 0 := up_ne (by omega)
    have e1 : up n 1 p 1 = p := up_at
    have en : ∀ x y : Int, 0 ≤ x → 0 ≤ y → nf (up n 1 p) x y = nf n x y := fun x y g1 g2 => nf_up (by omega)
    have ek : ∀ k y : Int, 1 ≤ k → 0 ≤ y → kf (up n 1 p) k y = kf n k y := fun k y g1 g2 => kf_up (by omega)
    refine ⟨by rw [e0, e1]; omega, fun v a b => ?_, fun v a b => ?_, fun v a b c => ?_, ?_, fun k a b => ?_⟩
    · rw [en v 0 a (by omega), en v 1 a (by omega), en v 2 a (by omega), en v 3 a (by omega), en v 4 a (by omega), en v 5 a (by omega), en v 6 a (by omega), en v 7 a (by omega)]
      exact h2 v a b
    · rw [e0] at b
      rw [en v 3 (by omega) (by omega), en v 4 (by omega) (by omega)]
      exact h3 v a b
    · rw [e0] at b
      rw [en v 7 (by omega) (by omega)] at c ⊢
      rw [ek _ 0 c (by omega)]
      exact h4 v a b c
    · rw [en 0 7 (by omega) (by omega)]; exact h5
    · rw [ek k 0 a (by omega), ek k 1 a (by omega), ek k 2 a (by omega), ek k 3 a (by omega), ek k 4 a (by omega), ek k 5 a (by omega)]
      exact h6 k a b
/-- one number of a kind -/
theorem wf_sk {n : aN} (hW : WF n) {k w z : Int} (hk : 1 ≤ k ∧ k ≤ 3) (hw : 0 ≤ w ∧ w < 6) (hz : (w = 0 → 0 ≤ z ∧ z ≤ 1) ∧ (w = 1 → 0 ≤ z ∧ z ≤ 9) ∧ (w = 2 → 0 ≤ z ∧ z ≤ 9) ∧ (w = 3 → 0 ≤ z ∧ z ≤ 99) ∧ (w = 4 → 0 ≤ z ∧ z ≤ 99) ∧ (w = 5 → 0 ≤ z ∧ z ≤ 1)) (hp : w = 0 → z = 1 ∨ ∀ v, 1 ≤ v → v < n 0 → nf n v 7 ≠ k) : WF (sk n k w z) := by
  obtain ⟨h1, h2, h3, h4, h5, h6⟩ := hW
  have e0 : sk n k w z 0 = n 0 := up_ne (by omega)
  have e1 : sk n k w z 1 = n 1 := up_ne (by omega)
  have en : ∀ x y : Int, 0 ≤ x → 0 ≤ y → nf (sk n k w z) x y = nf n x y := fun x y g1 g2 => nf_up (by omega)
  have ek : ∀ x y : Int, 0 ≤ y → y < 6 → kf (sk n k w z) x y = if x = k ∧ y = w then z else kf n x y := by
    intro x y g1 g2
    unfold kf sk up
    by_cases q : x = k ∧ y = w
    · rw [if_pos q, if_pos (by omega)]
    · rw [if_neg q, if_neg (by omega)]
  refine ⟨by rw [e0, e1]; exact h1, fun v a b => ?_, fun v a b => ?_, fun v a b c => ?_, ?_, fun x a b => ?_⟩
  · rw [en v 0 a (by omega), en v 1 a (by omega), en v 2 a (by omega), en v 3 a (by omega), en v 4 a (by omega), en v 5 a (by omega), en v 6 a (by omega), en v 7 a (by omega)]
    exact h2 v a b
  · rw [e0] at b
    rw [en v 3 (by omega) (by omega), en v 4 (by omega) (by omega)]
    exact h3 v a b
  · rw [e0] at b
    rw [en v 7 (by omega) (by omega)] at c ⊢
    rw [ek _ 0 (by omega) (by omega)]
    split
    · rename_i q
      rcases hp q.2.symm with r | r
      · exact r
      · exact absurd q.1 (r v a b)
    · exact h4 v a b c
  · rw [en 0 7 (by omega) (by omega)]; exact h5
  · have h6 := h6 x a b
    rw [ek x 0 (by omega) (by omega), ek x 1 (by omega) (by omega), ek x 2 (by omega) (by omega), ek x 3 (by omega) (by omega), ek x 4 (by omega) (by omega), ek x 5 (by omega) (by omega)]
    refine ⟨?_, ?_, ?_, ?_, ?_, ?_⟩ <;> (split <;> omega)
theorem wf_kind {n n' : aN} {e k i p o c t : Int} (hW : WF n) (h : kindF n k i p o c t = (e, some n')) : WF n' := by
  unfold kindF at h
  split at h
  · cases h
  · split at h
    · cases h
    · rename_i h1 h2
      cases h
      unfold kindN
      have h1 : 1 ≤ k ∧ k ≤ 3 := by omega
      refine wf_sk (wf_sk (wf_sk (wf_sk (wf_sk (wf_sk hW h1 (by omega) ?_ (fun _ => Or.inl rfl)) h1 (by omega) ?_ (by omega)) h1 (by omega) ?_ (by omega)) h1 (by omega) ?_ (by omega)) h1 (by omega) ?_ (by omega)) h1 (by omega) ?_ (by omega) <;> (refine ⟨?_, ?_, ?_, ?_, ?_, ?_⟩ <;> omega)
theorem wf_drop {n n' : aN} {e k : Int} (hW : WF n) (h : dropF n k = (e, some n')) : WF n' := by
  unfold dropF at h
  split at h
  · cases h
  · split at h
    · cases h
    · rename_i h1 h2
      cases h
      have h3 := isKb_iff.mp (show isKb n k = true by cases hq : isKb n k with
        | true => rfl
        | false => exact absurd hq (by intro z; exact h1 (by rw [z]; exact Bool.false_ne_true)))
      refine wf_sk hW ⟨h3.1, h3.2.1⟩ (by omega) (by omega) (fun _ => Or.inr (fun v a b c => h2 (plc_mono a b c)))
theorem wf_place {n n' : aN} {e v k : Int} (hW : WF n) (h : placeF n v k = (e, some n')) : WF n' := by
  have hN := hW.1
  unfold placeF at h
  split at h
  · cases h
  · split at h
    · cases h
    · rename_i h1 h2
      cases h
      have h1 : (0 ≤ v ∧ v < n 0) ∧ (k = 0 ∨ isKb n k = true) := Classical.byContradiction h1
      have hk3 : 0 ≤ k ∧ k ≤ 3 ∧ (1 ≤ k → kf n k 0 = 1) := by
        rcases h1.2 with q | q
        · omega
        · have := isKb_iff.mp q
          exact ⟨by have := this.1; omega, this.2.1, fun _ => this.2.2⟩
      exact wf_st hW (by omega) (by omega) ⟨by omega, by omega, by omega, by omega, by omega, by omega, by omega, by omega⟩ (fun _ => hk3.2.2)
theorem wf_grow {n : aN} (hW : WF n) {a r c : Int} (h6 : n 0 < 6) (ha : 0 ≤ a ∧ a < n 0) (hr : 0 ≤ r ∧ r ≤ 9) (hc : 0 ≤ c ∧ c ≤ 9) : WF (growF n a r c) := by
  have hN := hW.1
  have hv : 1 ≤ n 0 := hN.1
  unfold growF
  have hst : WF (st (st (st (st (st (st (st (st n (n 0) 0 a) (n 0) 1 r) (n 0) 2 c) (n 0) 3 1) (n 0) 4 1) (n 0) 5 100) (n 0) 6 0) (n 0) 7 0) := by
    refine wf_st (wf_st (wf_st (wf_st (wf_st (wf_st (wf_st (wf_st hW hv (by omega) ?_ (by omega)) hv (by omega) ?_ (by omega)) hv (by omega) ?_ (by omega)) hv (by omega) ?_ (by omega)) hv (by omega) ?_ (by omega)) hv (by omega) ?_ (by omega)) hv (by omega) ?_ (by omega)) hv (by omega) ?_ (by omega) <;> (refine ⟨?_, ?_, ?_, ?_, ?_, ?_, ?_, ?_⟩ <;> omega)
  have e0 : st (st (st (st (st (st (st (st n (n 0) 0 a) (n 0) 1 r) (n 0) 2 c) (n 0) 3 1) (n 0) 4 1) (n 0) 5 100) (n 0) 6 0) (n 0) 7 0 0 = n 0 := by
    unfold st
    rw [up_ne (by omega), up_ne (by omega), up_ne (by omega), up_ne (by omega), up_ne (by omega), up_ne (by omega), up_ne (by omega), up_ne (by omega)]
  refine wf_up0 hst (by omega) (fun v g1 g2 g3 => ?_)
  rw [e0] at g2
  have hvv : v = n 0 := by omega
  subst hvv
  have e3 : nf (st (st (st (st (st (st (st (st n (n 0) 0 a) (n 0) 1 r) (n 0) 2 c) (n 0) 3 1) (n 0) 4 1) (n 0) 5 100) (n 0) 6 0) (n 0) 7 0) (n 0) 3 = 1 := by
    rw [nf_st (by omega) (by omega), if_neg (by omega), nf_st (by omega) (by omega), if_neg (by omega), nf_st (by omega) (by omega), if_neg (by omega), nf_st (by omega) (by omega), if_neg (by omega), nf_st (by omega) (by omega), if_pos ⟨rfl, rfl⟩]
  have e4 : nf (st (st (st (st (st (st (st (st n (n 0) 0 a) (n 0) 1 r) (n 0) 2 c) (n 0) 3 1) (n 0) 4 1) (n 0) 5 100) (n 0) 6 0) (n 0) 7 0) (n 0) 4 = 1 := by
    rw [nf_st (by omega) (by omega), if_neg (by omega), nf_st (by omega) (by omega), if_neg (by omega), nf_st (by omega) (by omega), if_neg (by omega), nf_st (by omega) (by omega), if_pos ⟨rfl, rfl⟩]
  have e7 : nf (st (st (st (st (st (st (st (st n (n 0) 0 a) (n 0) 1 r) (n 0) 2 c) (n 0) 3 1) (n 0) 4 1) (n 0) 5 100) (n 0) 6 0) (n 0) 7 0) (n 0) 7 = 0 := by
    rw [nf_st (by omega) (by omega), if_pos ⟨rfl, rfl⟩]
  rw [e3, e4, e7]
  exact ⟨by omega, by omega⟩
theorem wf_node {n n' : aN} {e a r c : Int} (hW : WF n) (h : nodeF n a r c = (e, some n')) : WF n' := by
  have hN := hW.1
  unfold nodeF at h
  split at h
  · cases h
  · split at h
    · cases h
    · split at h
      · cases h
      · cases h
        exact wf_grow hW (by omega) (by omega) (by omega) (by omega)
theorem wf_drift {n : aN} (hW : WF n) {s : Int} (h6 : n 0 < 6) : WF (driftN n s) := by
  have hN := hW.1
  have hv : 1 ≤ n 0 := hN.1
  have d1 := dr1_bd (s := s) (m := n 0) (by omega)
  have d2 := dr1_bd (s := sdN s) (m := 10) (by omega)
  have d3 := dr1_bd (s := sdN (sdN s)) (m := 10) (by omega)
  have d4 := dr1_bd (s := sdN (sdN (sdN s))) (m := 9) (by omega)
  have d5 := dr1_bd (s := sdN (sdN (sdN (sdN s)))) (m := 300) (by omega)
  have d6 := dr1_bd (s := sdN (sdN (sdN (sdN (sdN s))))) (m := 2) (by omega)
  have hg := wf_grow hW h6 d1 (r := dr1 (sdN s) 10) (c := dr1 (sdN (sdN s)) 10) (by omega) (by omega)
  unfold driftN
  refine wf_st (wf_st (wf_st hg hv (by omega) ?_ (by omega)) hv (by omega) ?_ (by omega)) hv (by omega) ?_ (by omega) <;> (refine ⟨?_, ?_, ?_, ?_, ?_, ?_, ?_, ?_⟩ <;> omega)
theorem wf_endF {n n' : aN} {x v l e w : Int} (hW : WF n) (h : endF n v l e w = (x, some n')) : WF n' := by
  unfold endF at h
  split at h
  · cases h
  · split at h
    · cases h
    · split at h
      · cases h
      · cases h
        exact wf_end hW (by omega) (by omega)
theorem wf_wireF {n n' : aN} {x v r c w : Int} (hW : WF n) (h : wireF n v r c w = (x, some n')) : WF n' := by
  unfold wireF at h
  split at h
  · cases h
  · split at h
    · cases h
    · split at h
      · cases h
      · cases h
        exact wf_wire hW (by omega) (by omega)
theorem wf_changeF {n n' : aN} {x : Int} (hW : WF n) (h : changeF n = (x, some n')) : WF n' := by
  unfold changeF at h
  split at h
  · cases h
  · rename_i q
    cases h
    exact (wf_change hW q).2
end
section
/-! bits of whole numbers -/
def tb (x : Int) (i : Nat) : Bool := (BitVec.ofInt 32 x).getLsbD i
theorem tb_bv {b : BitVec 32} {i : Nat} : tb b.toInt i = b.getLsbD i := by
  unfold tb
  rw [BitVec.ofInt_toInt]
theorem tb_or {x y : Int} {i : Nat} : tb (bOr x y) i = (tb x i || tb y i) := by
  have h : bOr x y = (BitVec.ofInt 32 x ||| BitVec.ofInt 32 y).toInt := rfl
  rw [h, tb_bv, BitVec.getLsbD_or]
  rfl
theorem tb_and {x y : Int} {i : Nat} : tb (bAnd x y) i = (tb x i && tb y i) := by
  have h : bAnd x y = (BitVec.ofInt 32 x &&& BitVec.ofInt 32 y).toInt := rfl
  rw [h, tb_bv, BitVec.getLsbD_and]
  rfl
theorem tb_not {x : Int} {i : Nat} (hi : i < 32) : tb (bXor x (-1)) i = !tb x i := by
  have h : bXor x (-1) = (BitVec.ofInt 32 x ^^^ BitVec.ofInt 32 (-1)).toInt := rfl
  have h2 : BitVec.ofInt 32 (-1) = BitVec.allOnes 32 := by decide
  rw [h, tb_bv, BitVec.getLsbD_xor, h2, BitVec.getLsbD_allOnes, decide_eq_true hi]
  simp [tb]
theorem tb_zero {i : Nat} : tb 0 i = false := by
  have h : BitVec.ofInt 32 0 = 0#32 := by decide
  unfold tb
  rw [h, BitVec.getLsbD_zero]
theorem tb_shl {v : Int} {i : Nat} (hv : 0 ≤ v ∧ v < 6) : tb (bShl 1 v) i = decide ((i : Int) = v) := by
  have : v = 0 ∨ v = 1 ∨ v = 2 ∨ v = 3 ∨ v = 4 ∨ v = 5 := by omega
  have key : ∀ k : Nat, k < 6 → BitVec.ofInt 32 (bShl 1 (k : Int)) = BitVec.twoPow 32 k := by decide
  have h := key v.toNat (by omega)
  rw [Int.toNat_of_nonneg hv.1] at h
  unfold tb
  rw [h, BitVec.getLsbD_twoPow, decide_eq_true (show v.toNat < 32 by omega), Bool.true_and]
  apply decide_eq_decide.mpr
  omega
theorem iR_bv {x : Int} (h : iR x) : (BitVec.ofInt 32 x).toInt = x := by
  have := Int32.toInt_ofInt_of_le (n := x) (by omega) (by omega)
  exact this
theorem tb_ext {x y : Int} (hx : iR x) (hy : iR y) (h : ∀ i, i < 32 → tb x i = tb y i) : x = y := by
  have e : BitVec.ofInt 32 x = BitVec.ofInt 32 y := BitVec.eq_of_getLsbD_eq (fun i hi => h i hi)
  rw [← iR_bv hx, ← iR_bv hy, e]
theorem iR_or {x y : Int} : iR (bOr x y) := iR_t32 _
theorem iR_and {x y : Int} : iR (bAnd x y) := iR_t32 _
theorem iR_xor {x y : Int} : iR (bXor x y) := iR_t32 _
theorem iR_shl {x y : Int} : iR (bShl x y) := iR_t32 _
/-- one bit, moved down and cut out -/
theorem bit_at {x v : Int} (hv : 0 ≤ v ∧ v < 6) : bAnd (bShr x v) 1 = b2i (tb x v.toNat) := by
  have h : bAnd (bShr x v) 1 = (BitVec.ofInt 32 (bShr x v) &&& 1#32).toInt := rfl
  have h1 : (BitVec.ofInt 32 (bShr x v)).getLsbD 0 = tb x v.toNat := by
    have h2 : BitVec.ofInt 32 (bShr x v) = (Int32.ofInt x >>> (Int32.ofInt v &&& 31)).toBitVec := BitVec.ofInt_toInt
    rw [h2]
    have : v = 0 ∨ v = 1 ∨ v = 2 ∨ v = 3 ∨ v = 4 ∨ v = 5 := by omega
    have key : ∀ k : Nat, k < 6 → ((Int32.ofInt (k : Int) &&& 31).toBitVec.smod 32).toNat = k := by decide
    have hk := key v.toNat (by omega)
    rw [Int.toNat_of_nonneg hv.1] at hk
    have h3 : (Int32.ofInt x >>> (Int32.ofInt v &&& 31)).toBitVec = (BitVec.ofInt 32 x).sshiftRight' ((Int32.ofInt v &&& 31).toBitVec.smod 32) := rfl
    rw [h3]
    show ((BitVec.ofInt 32 x).sshiftRight ((Int32.ofInt v &&& 31).toBitVec.smod 32).toNat).getLsbD 0 = tb x v.toNat
    rw [hk, BitVec.getLsbD_sshiftRight]
    simp [tb]
    omega
  rw [h, BitVec.and_one_eq_setWidth_ofBool_getLsbD, h1]
  cases tb x v.toNat <;> decide
/-- the bit of a gathering -/
theorem tb_rf {f : Int → Int → Int} {g : Int → Bool} {i : Nat} {a lo : Int} : ∀ (k : Nat) (hi : Int), hi - lo = k → (∀ u x, lo ≤ u → u < hi → tb (f u x) i = (tb x i || g u)) → (tb (rf f a lo hi) i = true ↔ (tb a i = true ∨ ∃ u, lo ≤ u ∧ u < hi ∧ g u = true))
  | 0, hi, h, hs => by
    rw [rf_nil (by omega)]
    constructor
    · exact Or.inl
    · rintro (q | ⟨u, h1, h2, -⟩)
      · exact q
      · omega
  | k + 1, hi, h, hs => by
    have ih := tb_rf (f := f) (g := g) (i := i) (a := a) (lo := lo) k (hi - 1) (by omega) (fun u x h1 h2 => hs u x h1 (by omega))
    have e : hi = hi - 1 + 1 := by omega
    rw [e, rf_succ (by omega), hs (hi - 1) _ (by omega) (by omega), Bool.or_eq_true, ih]
    constructor
    · rintro ((q | ⟨u, h1, h2, h3⟩) | q)
      · exact Or.inl q
      · exact Or.inr ⟨u, h1, by omega, h3⟩
      · exact Or.inr ⟨hi - 1, by omega, by omega, q⟩
    · rintro (q | ⟨u, h1, h2, h3⟩)
      · exact Or.inl (Or.inl q)
      · by_cases q : u = hi - 1
        · subst q; exact Or.inr h3
        · exact Or.inl (Or.inr ⟨u, h1, by omega, h3⟩)
theorem mEnd_iff {n : aN} (hN : 1 ≤ n 0) {v : Int} : mEnd n v = true ↔ 0 < v ∧ ∀ u, 1 ≤ u → u < n 0 → nf n u 0 ≠ v := by
  unfold mEnd
  have key : ∀ (k : Nat) (hi : Int), hi - 1 = k → (rf (fun u b => b && decide (nf n u 0 ≠ v)) (decide (0 < v)) 1 hi = true ↔ 0 < v ∧ ∀ u, 1 ≤ u → u < hi → nf n u 0 ≠ v) := by
    intro k
    induction k with
    | zero =>
      intro hi h
      rw [rf_nil (by omega), decide_eq_true_eq]
      exact ⟨fun q => ⟨q, fun u h1 h2 => by omega⟩, fun q => q.1⟩
    | succ k ih =>
      intro hi h
      have e : hi = hi - 1 + 1 := by omega
      rw [e, rf_succ (by omega), Bool.and_eq_true, ih (hi - 1) (by omega), decide_eq_true_eq]
      constructor
      · rintro ⟨⟨a, b⟩, c⟩
        refine ⟨a, fun u h1 h2 => ?_⟩
        by_cases q : u = hi - 1
        · subst q; exact c
        · exact b u h1 (by omega)
      · rintro ⟨a, b⟩
        exact ⟨⟨a, fun u h1 h2 => b u h1 (by omega)⟩, b (hi - 1) (by omega) (by omega)⟩
  exact key (n 0 - 1).toNat (n 0) (by omega)
/-- the ends, as a set -/
theorem tb_mEnds {n : aN} (hW : WF n) {i : Nat} : tb (mEnds n) i = true ↔ 1 ≤ (i : Int) ∧ (i : Int) < n 0 ∧ mEnd n i = true := by
  have hN := hW.1
  unfold mEnds
  rw [tb_rf (g := fun u => mEnd n u && decide ((i : Int) = u)) (n 0 - 1).toNat (n 0) (by omega) (fun u x h1 h2 => by
    rw [tb_or]
    split
    · rename_i h
      rw [tb_shl (by omega), h, Bool.true_and]
    · rename_i h
      rw [tb_zero]
      cases hq : mEnd n u with
      | true => exact absurd hq h
      | false => rfl)]
  rw [tb_zero]
  constructor
  · rintro (q | ⟨u, h1, h2, h3⟩)
    · cases q
    · rw [Bool.and_eq_true, decide_eq_true_eq] at h3
      obtain ⟨h3, h4⟩ := h3
      subst h4
      exact ⟨h1, h2, h3⟩
  · rintro ⟨h1, h2, h3⟩
    refine Or.inr ⟨i, h1, h2, ?_⟩
    rw [h3, decide_eq_true rfl]
    rfl
/-- all that are there, less those that are above one -/
def cEnds (n : aN) : Int := bAnd (rf (fun v s => bOr s (bShl 1 v)) 0 1 (n 0)) (bXor (rf (fun v s => bOr s (bShl 1 (nf n v 0))) 0 1 (n 0)) (-1))
theorem iR_mEnds {n : aN} (hN : 1 ≤ n 0) : iR (mEnds n) := by
  unfold mEnds
  exact rf_inv (fun _ x => iR x) iR0 (n 0 - 1).toNat (n 0) (by omega) (fun u x _ _ _ => iR_t32 _)
theorem cEnds_eq {n : aN} (hW : WF n) : cEnds n = mEnds n := by
  have hN := hW.1
  refine tb_ext iR_and (iR_mEnds hN.1) (fun i hi => ?_)
  apply Bool.eq_iff_iff.mpr
  rw [tb_mEnds hW, cEnds, tb_and, tb_not hi, Bool.and_eq_true]
  have k1 := tb_rf (f := fun v s => bOr s (bShl 1 v)) (g := fun u => decide ((i : Int) = u)) (i := i) (a := 0) (lo := 1) (n 0 - 1).toNat (n 0) (by omega) (fun u x h1 h2 => by rw [tb_or, tb_shl (by omega)])
  have k2 := tb_rf (f := fun v s => bOr s (bShl 1 (nf n v 0))) (g := fun u => decide ((i : Int) = nf n u 0)) (i := i) (a := 0) (lo := 1) (n 0 - 1).toNat (n 0) (by omega) (fun u x h1 h2 => by
    have := hW.2.1 u (by omega) (by omega)
    rw [tb_or, tb_shl (by omega)])
  rw [tb_zero] at k1 k2
  rw [k1, Bool.not_eq_true', ← Bool.not_eq_true, k2, mEnd_iff hN.1]
  constructor
  · rintro ⟨h1, h2⟩
    rcases h1 with q | ⟨u, g1, g2, g3⟩
    · cases q
    · have g3 := of_decide_eq_true g3
      refine ⟨by omega, by omega, by omega, fun w a b c => h2 (Or.inr ⟨w, a, b, ?_⟩)⟩
      exact decide_eq_true c.symm
  · rintro ⟨h1, h2, h3, h4⟩
    refine ⟨Or.inr ⟨i, h1, h2, decide_eq_true rfl⟩, ?_⟩
    rintro (q | ⟨w, a, b, c⟩)
    · cases q
    · exact h4 w a b (of_decide_eq_true c).symm
end
section
/-! a net of the class -/
def NetS (R : aR) (S : aS) (a : Nat) : Prop := S[a]? = some (4, 16) ∧ R a 3 = some (a + 1) ∧ S[a + 1]? = some (9, 6) ∧ R a 4 = some (a + 2) ∧ S[a + 2]? = some (9, 6) ∧ R a 5 = some (a + 3) ∧ S[a + 3]? = some (9, 6) ∧ R a 6 = some (a + 4) ∧ S[a + 4]? = some (9, 6) ∧ R a 7 = some (a + 5) ∧ S[a + 5]? = some (9, 6) ∧ R a 8 = some (a + 6) ∧ S[a + 6]? = some (9, 6) ∧ R a 9 = some (a + 7) ∧ S[a + 7]? = some (9, 6) ∧ R a 10 = some (a + 8) ∧ S[a + 8]? = some (9, 6) ∧ R a 11 = some (a + 9) ∧ S[a + 9]? = some (9, 4) ∧ R a 12 = some (a + 10) ∧ S[a + 10]? = some (9, 4) ∧ R a 13 = some (a + 11) ∧ S[a + 11]? = some (9, 4) ∧ R a 14 = some (a + 12) ∧ S[a + 12]? = some (9, 4) ∧ R a 15 = some (a + 13) ∧ S[a + 13]? = some (9, 4)
/-- the numbers of a net of the class are those of n -/
def NetR (I : aI) (a : Nat) (n : aN) : Prop := (I a 0 = n 0 ∧ I a 1 = n 1 ∧ I a 2 = mKinds n) ∧ (∀ v : Int, 0 ≤ v → v < 6 → I (a + 1) v = nf n v 0 ∧ I (a + 2) v = nf n v 1 ∧ I (a + 3) v = nf n v 2 ∧ I (a + 4) v = nf n v 3 ∧ I (a + 5) v = nf n v 4 ∧ I (a + 6) v = nf n v 5 ∧ I (a + 7) v = nf n v 6 ∧ I (a + 8) v = nf n v 7) ∧ (∀ k : Int, 1 ≤ k → k ≤ 3 → I (a + 9) k = kf n k 1 ∧ I (a + 10) k = kf n k 2 ∧ I (a + 11) k = kf n k 3 ∧ I (a + 12) k = kf n k 4 ∧ I (a + 13) k = kf n k 5) ∧ (I (a + 9) 0 = 0 ∧ I (a + 10) 0 = 0 ∧ I (a + 11) 0 = 0 ∧ I (a + 12) 0 = 0 ∧ I (a + 13) 0 = 0)
/-- hasNode(v) -/
theorem ok_hasNode {P : aP} {d : Nat} {K : aK} {I : aI} {R : aR} {S : aS} {a : Nat} {n : aN} {v : Int} (hS : NetS R S a) (hR : NetR I a n) (hW : WF n) (hv : iR v) (h1 : 0 ≤ v ∧ v < n 0 → K (some (vi 1)) I R S) (h0 : ¬ (0 ≤ v ∧ v < n 0) → K (some (vi 0)) I R S) : Ok P 24 (d + 1) [vr a, vi v] I R S K := by
  obtain ⟨s0, sr1, sm1, sr2, sm2, sr3, sm3, sr4, sm4, sr5, sm5, sr6, sm6, sr7, sm7, sr8, sm8, sr9, sm9, sr10, sm10, sr11, sm11, sr12, sm12, sr13, sm13⟩ := id hS
  have hN := hW.1
  have e0 : I a ((0 : Nat) : Int) = n 0 := hR.1.1
  refine Ok.of (by decide) rfl (Nat.le_of_ble_eq_true rfl) ?_
  refine Go.walk 400 [] E24 E24_ok (fun G C hG hC => ?_)
  (repeat ((conv => whnf); first | refine ⟨_, by assumption, ?_⟩ | refine ⟨_, _, by assumption, ?_⟩ | refine ⟨(show _ ∧ _ by omega), ?_⟩ | refine ⟨(show _ ∨ _ by omega), ?_⟩ | refine ⟨fun h => absurd h (by decide), fun _ => ?_⟩ | refine ⟨fun _ => ?_, fun h => absurd h (by decide)⟩ | refine ⟨fun _ => ?_, fun h => absurd rfl h⟩ | refine ⟨fun h => absurd rfl h, fun _ => ?_⟩)); try (conv => whnf)
  refine ⟨fun q => ?_, fun q => ?_⟩
  · (repeat ((conv => whnf); first | refine ⟨_, by assumption, ?_⟩ | refine ⟨_, _, by assumption, ?_⟩ | refine ⟨(show _ ∧ _ by omega), ?_⟩ | refine ⟨(show _ ∨ _ by omega), ?_⟩ | refine ⟨fun h => absurd h (by decide), fun _ => ?_⟩ | refine ⟨fun _ => ?_, fun h => absurd h (by decide)⟩ | refine ⟨fun _ => ?_, fun h => absurd rfl h⟩ | refine ⟨fun h => absurd rfl h, fun _ => ?_⟩)); try (conv => whnf)
    exact h0 (by omega)
  · (repeat ((conv => whnf); first | refine ⟨_, by assumption, ?_⟩ | refine ⟨_, _, by assumption, ?_⟩ | refine ⟨(show _ ∧ _ by omega), ?_⟩ | refine ⟨(show _ ∨ _ by omega), ?_⟩ | refine ⟨fun h => absurd h (by decide), fun _ => ?_⟩ | refine ⟨fun _ => ?_, fun h => absurd h (by decide)⟩ | refine ⟨fun _ => ?_, fun h => absurd rfl h⟩ | refine ⟨fun h => absurd rfl h, fun _ => ?_⟩)); try (conv => whnf)
    rw [e0]
    refine ⟨fun q2 => ?_, fun q2 => ?_⟩
    · (repeat ((conv => whnf); first | refine ⟨_, by assumption, ?_⟩ | refine ⟨_, _, by assumption, ?_⟩ | refine ⟨(show _ ∧ _ by omega), ?_⟩ | refine ⟨(show _ ∨ _ by omega), ?_⟩ | refine ⟨fun h => absurd h (by decide), fun _ => ?_⟩ | refine ⟨fun _ => ?_, fun h => absurd h (by decide)⟩ | refine ⟨fun _ => ?_, fun h => absurd rfl h⟩ | refine ⟨fun h => absurd rfl h, fun _ => ?_⟩)); try (conv => whnf)
      exact h0 (by omega)
    · (repeat ((conv => whnf); first | refine ⟨_, by assumption, ?_⟩ | refine ⟨_, _, by assumption, ?_⟩ | refine ⟨(show _ ∧ _ by omega), ?_⟩ | refine ⟨(show _ ∨ _ by omega), ?_⟩ | refine ⟨fun h => absurd h (by decide), fun _ => ?_⟩ | refine ⟨fun _ => ?_, fun h => absurd h (by decide)⟩ | refine ⟨fun _ => ?_, fun h => absurd rfl h⟩ | refine ⟨fun h => absurd rfl h, fun _ => ?_⟩)); try (conv => whnf)
      exact h1 (by omega)
theorem kinds_bit {n : aN} {k : Int} (hk : 1 ≤ k ∧ k ≤ 3) : bAnd (bShr (mKinds n) k) 1 = 1 ↔ kf n k 0 = 1 := by
  have : k = 1 ∨ k = 2 ∨ k = 3 := by omega
  unfold mKinds
  rcases this with rfl | rfl | rfl <;> by_cases h1 : kf n 1 0 = 1 <;> by_cases h2 : kf n 2 0 = 1 <;> by_cases h3 : kf n 3 0 = 1 <;> simp only [h1, h2, h3, if_true, if_false, iff_true, iff_false] <;> decide
theorem iR_mKinds {n : aN} : iR (mKinds n) := iR_t32 _
/-- hasKind(k) -/
theorem ok_hasKind {P : aP} {d : Nat} {K : aK} {I : aI} {R : aR} {S : aS} {a : Nat} {n : aN} {k : Int} (hS : NetS R S a) (hR : NetR I a n) (hk : iR k) (h1 : isK n k → K (some (vi 1)) I R S) (h0 : ¬ isK n k → K (some (vi 0)) I R S) : Ok P 25 (d + 1) [vr a, vi k] I R S K := by
  obtain ⟨s0, sr1, sm1, sr2, sm2, sr3, sm3, sr4, sm4, sr5, sm5, sr6, sm6, sr7, sm7, sr8, sm8, sr9, sm9, sr10, sm10, sr11, sm11, sr12, sm12, sr13, sm13⟩ := id hS
  have e2 : I a ((2 : Nat) : Int) = mKinds n := hR.1.2.2
  have hr := iR_mKinds (n := n)
  have hx := bAnd1 (bShr (mKinds n) k)
  have hy := iR_sh (mKinds n) k
  refine Ok.of (by decide) rfl (Nat.le_of_ble_eq_true rfl) ?_
  refine Go.walk 400 [] E25 E25_ok (fun G C hG hC => ?_)
  (repeat ((conv => whnf); first | refine ⟨_, by assumption, ?_⟩ | refine ⟨_, _, by assumption, ?_⟩ | refine ⟨(show _ ∧ _ by omega), ?_⟩ | refine ⟨(show _ ∨ _ by omega), ?_⟩ | refine ⟨fun h => absurd h (by decide), fun _ => ?_⟩ | refine ⟨fun _ => ?_, fun h => absurd h (by decide)⟩ | refine ⟨fun _ => ?_, fun h => absurd rfl h⟩ | refine ⟨fun h => absurd rfl h, fun _ => ?_⟩)); try (conv => whnf)
  refine ⟨fun q => ?_, fun q => ?_⟩
  · (repeat ((conv => whnf); first | refine ⟨_, by assumption, ?_⟩ | refine ⟨_, _, by assumption, ?_⟩ | refine ⟨(show _ ∧ _ by omega), ?_⟩ | refine ⟨(show _ ∨ _ by omega), ?_⟩ | refine ⟨fun h => absurd h (by decide), fun _ => ?_⟩ | refine ⟨fun _ => ?_, fun h => absurd h (by decide)⟩ | refine ⟨fun _ => ?_, fun h => absurd rfl h⟩ | refine ⟨fun h => absurd rfl h, fun _ => ?_⟩)); try (conv => whnf)
    exact h0 (fun z => by have := z.1; omega)
  · (repeat ((conv => whnf); first | refine ⟨_, by assumption, ?_⟩ | refine ⟨_, _, by assumption, ?_⟩ | refine ⟨(show _ ∧ _ by omega), ?_⟩ | refine ⟨(show _ ∨ _ by omega), ?_⟩ | refine ⟨fun h => absurd h (by decide), fun _ => ?_⟩ | refine ⟨fun _ => ?_, fun h => absurd h (by decide)⟩ | refine ⟨fun _ => ?_, fun h => absurd rfl h⟩ | refine ⟨fun h => absurd rfl h, fun _ => ?_⟩)); try (conv => whnf)
    refine ⟨fun q2 => ?_, fun q2 => ?_⟩
    · (repeat ((conv => whnf); first | refine ⟨_, by assumption, ?_⟩ | refine ⟨_, _, by assumption, ?_⟩ | refine ⟨(show _ ∧ _ by omega), ?_⟩ | refine ⟨(show _ ∨ _ by omega), ?_⟩ | refine ⟨fun h => absurd h (by decide), fun _ => ?_⟩ | refine ⟨fun _ => ?_, fun h => absurd h (by decide)⟩ | refine ⟨fun _ => ?_, fun h => absurd rfl h⟩ | refine ⟨fun h => absurd rfl h, fun _ => ?_⟩)); try (conv => whnf)
      exact h0 (fun z => by have := z.2.1; omega)
    · have hb := kinds_bit (n := n) (k := k) (by omega)
      (repeat ((conv => whnf); first | refine ⟨_, by assumption, ?_⟩ | refine ⟨_, _, by assumption, ?_⟩ | refine ⟨(show _ ∧ _ by omega), ?_⟩ | refine ⟨(show _ ∨ _ by omega), ?_⟩ | refine ⟨fun h => absurd h (by decide), fun _ => ?_⟩ | refine ⟨fun _ => ?_, fun h => absurd h (by decide)⟩ | refine ⟨fun _ => ?_, fun h => absurd rfl h⟩ | refine ⟨fun h => absurd rfl h, fun _ => ?_⟩)); try (conv => whnf)
      rw [e2]
      (try refine ⟨by omega, ?_⟩)
      (try (repeat ((conv => whnf); first | refine ⟨_, by assumption, ?_⟩ | refine ⟨_, _, by assumption, ?_⟩ | refine ⟨(show _ ∧ _ by omega), ?_⟩ | refine ⟨(show _ ∨ _ by omega), ?_⟩ | refine ⟨fun h => absurd h (by decide), fun _ => ?_⟩ | refine ⟨fun _ => ?_, fun h => absurd h (by decide)⟩ | refine ⟨fun _ => ?_, fun h => absurd rfl h⟩ | refine ⟨fun h => absurd rfl h, fun _ => ?_⟩)); try (conv => whnf))
      refine ⟨fun q3 => ?_, fun q3 => ?_⟩
      · (repeat ((conv => whnf); first | refine ⟨_, by assumption, ?_⟩ | refine ⟨_, _, by assumption, ?_⟩ | refine ⟨(show _ ∧ _ by omega), ?_⟩ | refine ⟨(show _ ∨ _ by omega), ?_⟩ | refine ⟨fun h => absurd h (by decide), fun _ => ?_⟩ | refine ⟨fun _ => ?_, fun h => absurd h (by decide)⟩ | refine ⟨fun _ => ?_, fun h => absurd rfl h⟩ | refine ⟨fun h => absurd rfl h, fun _ => ?_⟩)); try (conv => whnf)
        exact h0 (fun z => q3 (hb.mpr z.2.2))
      · (repeat ((conv => whnf); first | refine ⟨_, by assumption, ?_⟩ | refine ⟨_, _, by assumption, ?_⟩ | refine ⟨(show _ ∧ _ by omega), ?_⟩ | refine ⟨(show _ ∨ _ by omega), ?_⟩ | refine ⟨fun h => absurd h (by decide), fun _ => ?_⟩ | refine ⟨fun _ => ?_, fun h => absurd h (by decide)⟩ | refine ⟨fun _ => ?_, fun h => absurd rfl h⟩ | refine ⟨fun h => absurd rfl h, fun _ => ?_⟩)); try (conv => whnf)
        exact h1 ⟨by omega, by omega, hb.mp q3⟩
/-- canBePlaced(k) -/
theorem ok_canBePlaced {P : aP} {d : Nat} {K : aK} {I : aI} {R : aR} {S : aS} {a : Nat} {n : aN} {k : Int} (hS : NetS R S a) (hR : NetR I a n) (hk : iR k) (h1 : k = 0 ∨ isK n k → K (some (vi 1)) I R S) (h0 : ¬ (k = 0 ∨ isK n k) → K (some (vi 0)) I R S) : Ok P 26 (d + 2) [vr a, vi k] I R S K := by
  obtain ⟨s0, sr1, sm1, sr2, sm2, sr3, sm3, sr4, sm4, sr5, sm5, sr6, sm6, sr7, sm7, sr8, sm8, sr9, sm9, sr10, sm10, sr11, sm11, sr12, sm12, sr13, sm13⟩ := id hS
  refine Ok.of (by decide) rfl (Nat.le_of_ble_eq_true rfl) ?_
  refine Go.walk 400 [] E26 E26_ok (fun G C hG hC => ?_)
  (repeat ((conv => whnf); first | refine ⟨_, by assumption, ?_⟩ | refine ⟨_, _, by assumption, ?_⟩ | refine ⟨(show _ ∧ _ by omega), ?_⟩ | refine ⟨(show _ ∨ _ by omega), ?_⟩ | refine ⟨fun h => absurd h (by decide), fun _ => ?_⟩ | refine ⟨fun _ => ?_, fun h => absurd h (by decide)⟩ | refine ⟨fun _ => ?_, fun h => absurd rfl h⟩ | refine ⟨fun h => absurd rfl h, fun _ => ?_⟩)); try (conv => whnf)
  refine ⟨fun q => ?_, fun q => ?_⟩
  · (repeat ((conv => whnf); first | refine ⟨_, by assumption, ?_⟩ | refine ⟨_, _, by assumption, ?_⟩ | refine ⟨(show _ ∧ _ by omega), ?_⟩ | refine ⟨(show _ ∨ _ by omega), ?_⟩ | refine ⟨fun h => absurd h (by decide), fun _ => ?_⟩ | refine ⟨fun _ => ?_, fun h => absurd h (by decide)⟩ | refine ⟨fun _ => ?_, fun h => absurd rfl h⟩ | refine ⟨fun h => absurd rfl h, fun _ => ?_⟩)); try (conv => whnf)
    exact h1 (Or.inl q)
  · (repeat ((conv => whnf); first | refine ⟨_, by assumption, ?_⟩ | refine ⟨_, _, by assumption, ?_⟩ | refine ⟨(show _ ∧ _ by omega), ?_⟩ | refine ⟨(show _ ∨ _ by omega), ?_⟩ | refine ⟨fun h => absurd h (by decide), fun _ => ?_⟩ | refine ⟨fun _ => ?_, fun h => absurd h (by decide)⟩ | refine ⟨fun _ => ?_, fun h => absurd rfl h⟩ | refine ⟨fun h => absurd rfl h, fun _ => ?_⟩)); try (conv => whnf)
    refine hC _ _ _ _ _ _ ?_
    refine ok_hasKind hS hR hk (fun g => ?_) (fun g => ?_)
    · (repeat ((conv => whnf); first | refine ⟨_, by assumption, ?_⟩ | refine ⟨_, _, by assumption, ?_⟩ | refine ⟨(show _ ∧ _ by omega), ?_⟩ | refine ⟨(show _ ∨ _ by omega), ?_⟩ | refine ⟨fun h => absurd h (by decide), fun _ => ?_⟩ | refine ⟨fun _ => ?_, fun h => absurd h (by decide)⟩ | refine ⟨fun _ => ?_, fun h => absurd rfl h⟩ | refine ⟨fun h => absurd rfl h, fun _ => ?_⟩)); try (conv => whnf)
      exact h1 (Or.inr g)
    · (repeat ((conv => whnf); first | refine ⟨_, by assumption, ?_⟩ | refine ⟨_, _, by assumption, ?_⟩ | refine ⟨(show _ ∧ _ by omega), ?_⟩ | refine ⟨(show _ ∨ _ by omega), ?_⟩ | refine ⟨fun h => absurd h (by decide), fun _ => ?_⟩ | refine ⟨fun _ => ?_, fun h => absurd h (by decide)⟩ | refine ⟨fun _ => ?_, fun h => absurd rfl h⟩ | refine ⟨fun h => absurd rfl h, fun _ => ?_⟩)); try (conv => whnf)
      exact h0 (fun z => z.elim q g)
/-- hasRoom() -/
theorem ok_hasRoom {P : aP} {d : Nat} {K : aK} {I : aI} {R : aR} {S : aS} {a : Nat} {n : aN} (hS : NetS R S a) (hR : NetR I a n) (hW : WF n) (h1 : n 0 < 6 → K (some (vi 1)) I R S) (h0 : ¬ n 0 < 6 → K (some (vi 0)) I R S) : Ok P 27 (d + 1) [vr a] I R S K := by
  obtain ⟨s0, sr1, sm1, sr2, sm2, sr3, sm3, sr4, sm4, sr5, sm5, sr6, sm6, sr7, sm7, sr8, sm8, sr9, sm9, sr10, sm10, sr11, sm11, sr12, sm12, sr13, sm13⟩ := id hS
  have hN := hW.1
  have e0 : I a ((0 : Nat) : Int) = n 0 := hR.1.1
  refine Ok.of (by decide) rfl (Nat.le_of_ble_eq_true rfl) ?_
  refine Go.walk 400 [] E27 E27_ok (fun G C hG hC => ?_)
  (repeat ((conv => whnf); first | refine ⟨_, by assumption, ?_⟩ | refine ⟨_, _, by assumption, ?_⟩ | refine ⟨(show _ ∧ _ by omega), ?_⟩ | refine ⟨(show _ ∨ _ by omega), ?_⟩ | refine ⟨fun h => absurd h (by decide), fun _ => ?_⟩ | refine ⟨fun _ => ?_, fun h => absurd h (by decide)⟩ | refine ⟨fun _ => ?_, fun h => absurd rfl h⟩ | refine ⟨fun h => absurd rfl h, fun _ => ?_⟩)); try (conv => whnf)
  rw [e0]
  refine ⟨fun q => ?_, fun q => ?_⟩
  · (repeat ((conv => whnf); first | refine ⟨_, by assumption, ?_⟩ | refine ⟨_, _, by assumption, ?_⟩ | refine ⟨(show _ ∧ _ by omega), ?_⟩ | refine ⟨(show _ ∨ _ by omega), ?_⟩ | refine ⟨fun h => absurd h (by decide), fun _ => ?_⟩ | refine ⟨fun _ => ?_, fun h => absurd h (by decide)⟩ | refine ⟨fun _ => ?_, fun h => absurd rfl h⟩ | refine ⟨fun h => absurd rfl h, fun _ => ?_⟩)); try (conv => whnf)
    exact h0 (by omega)
  · (repeat ((conv => whnf); first | refine ⟨_, by assumption, ?_⟩ | refine ⟨_, _, by assumption, ?_⟩ | refine ⟨(show _ ∧ _ by omega), ?_⟩ | refine ⟨(show _ ∨ _ by omega), ?_⟩ | refine ⟨fun h => absurd h (by decide), fun _ => ?_⟩ | refine ⟨fun _ => ?_, fun h => absurd h (by decide)⟩ | refine ⟨fun _ => ?_, fun h => absurd rfl h⟩ | refine ⟨fun h => absurd rfl h, fun _ => ?_⟩)); try (conv => whnf)
    exact h1 (by omega)
/-- ends() -/
theorem ok_ends {P : aP} {d : Nat} {K : aK} {I : aI} {R : aR} {S : aS} {a : Nat} {n : aN} (hS : NetS R S a) (hR : NetR I a n) (hW : WF n) (hK : K (some (vi (mEnds n))) I R S) : Ok P 28 (d + 1) [vr a] I R S K := by
  obtain ⟨s0, sr1, sm1, sr2, sm2, sr3, sm3, sr4, sm4, sr5, sm5, sr6, sm6, sr7, sm7, sr8, sm8, sr9, sm9, sr10, sm10, sr11, sm11, sr12, sm12, sr13, sm13⟩ := id hS
  have hN := hW.1
  have e0 : I a ((0 : Nat) : Int) = n 0 := hR.1.1
  rw [← cEnds_eq hW] at hK
  have loop : ∀ (m : Nat) (v : Int), 1 ≤ v → n 0 - v = m → Go P 28 (d + 1) K 6 [vr a, vi (rf (fun v s => bOr s (bShl 1 v)) 0 1 v), vi (rf (fun v s => bOr s (bShl 1 (nf n v 0))) 0 1 v), vi v] [] I R S := by
    intro m
    induction m with
    | zero =>
      intro v h1 hm
      have hv : v = n 0 := by omega
      refine Go.walk 400 [6] E28 E28_ok (fun G C hG hC => ?_)
      (repeat ((conv => whnf); first | refine ⟨_, by assumption, ?_⟩ | refine ⟨_, _, by assumption, ?_⟩ | refine ⟨(show _ ∧ _ by omega), ?_⟩ | refine ⟨(show _ ∨ _ by omega), ?_⟩ | refine ⟨fun h => absurd h (by decide), fun _ => ?_⟩ | refine ⟨fun _ => ?_, fun h => absurd h (by decide)⟩ | refine ⟨fun _ => ?_, fun h => absurd rfl h⟩ | refine ⟨fun h => absurd rfl h, fun _ => ?_⟩)); try (conv => whnf)
      rw [e0]
      refine ⟨fun _ => ?_, fun q => absurd (show n 0 ≤ v by omega) q⟩
      (repeat ((conv => whnf); first | refine ⟨_, by assumption, ?_⟩ | refine ⟨_, _, by assumption, ?_⟩ | refine ⟨(show _ ∧ _ by omega), ?_⟩ | refine ⟨(show _ ∨ _ by omega), ?_⟩ | refine ⟨fun h => absurd h (by decide), fun _ => ?_⟩ | refine ⟨fun _ => ?_, fun h => absurd h (by decide)⟩ | refine ⟨fun _ => ?_, fun h => absurd rfl h⟩ | refine ⟨fun h => absurd rfl h, fun _ => ?_⟩)); try (conv => whnf)
      rw [hv]
      exact hK
    | succ m ih =>
      intro v h1 hm
      have ea := (hR.2.1 v (by omega) (by omega)).1
      have ih2 := ih (v + 1) (by omega) (by omega)
      rw [rf_succ h1, rf_succ h1] at ih2
      refine Go.walk 400 [6] E28 E28_ok (fun G C hG hC => ?_)
      (repeat ((conv => whnf); first | refine ⟨_, by assumption, ?_⟩ | refine ⟨_, _, by assumption, ?_⟩ | refine ⟨(show _ ∧ _ by omega), ?_⟩ | refine ⟨(show _ ∨ _ by omega), ?_⟩ | refine ⟨fun h => absurd h (by decide), fun _ => ?_⟩ | refine ⟨fun _ => ?_, fun h => absurd h (by decide)⟩ | refine ⟨fun _ => ?_, fun h => absurd rfl h⟩ | refine ⟨fun h => absurd rfl h, fun _ => ?_⟩)); try (conv => whnf)
      rw [e0]
      refine ⟨fun q => absurd q (by omega), fun _ => ?_⟩
      (repeat ((conv => whnf); first | refine ⟨_, by assumption, ?_⟩ | refine ⟨_, _, by assumption, ?_⟩ | refine ⟨(show _ ∧ _ by omega), ?_⟩ | refine ⟨(show _ ∨ _ by omega), ?_⟩ | refine ⟨fun h => absurd h (by decide), fun _ => ?_⟩ | refine ⟨fun _ => ?_, fun h => absurd h (by decide)⟩ | refine ⟨fun _ => ?_, fun h => absurd rfl h⟩ | refine ⟨fun h => absurd rfl h, fun _ => ?_⟩)); try (conv => whnf)
      rw [ea]
      refine hG _ _ _ _ _ _ ?_
      exact ih2
  refine Ok.of (by decide) rfl (Nat.le_of_ble_eq_true rfl) ?_
  refine Go.walk 400 [6] E28 E28_ok (fun G C hG hC => ?_)
  (repeat ((conv => whnf); first | refine ⟨_, by assumption, ?_⟩ | refine ⟨_, _, by assumption, ?_⟩ | refine ⟨(show _ ∧ _ by omega), ?_⟩ | refine ⟨(show _ ∨ _ by omega), ?_⟩ | refine ⟨fun h => absurd h (by decide), fun _ => ?_⟩ | refine ⟨fun _ => ?_, fun h => absurd h (by decide)⟩ | refine ⟨fun _ => ?_, fun h => absurd rfl h⟩ | refine ⟨fun h => absurd rfl h, fun _ => ?_⟩)); try (conv => whnf)
  refine hG _ _ _ _ _ _ ?_
  exact loop (n 0 - 1).toNat 1 (by omega) (by omega)
/-- isEnd(v) -/
theorem ok_cisEnd {P : aP} {d : Nat} {K : aK} {I : aI} {R : aR} {S : aS} {a : Nat} {n : aN} {v : Int} (hS : NetS R S a) (hR : NetR I a n) (hW : WF n) (hv : 0 ≤ v ∧ v < n 0) (h1 : mEnd n v = true → K (some (vi 1)) I R S) (h0 : mEnd n v = false → K (some (vi 0)) I R S) : Ok P 29 (d + 2) [vr a, vi v] I R S K := by
  obtain ⟨s0, sr1, sm1, sr2, sm2, sr3, sm3, sr4, sm4, sr5, sm5, sr6, sm6, sr7, sm7, sr8, sm8, sr9, sm9, sr10, sm10, sr11, sm11, sr12, sm12, sr13, sm13⟩ := id hS
  have hN := hW.1
  have hb := bit_at (x := mEnds n) (v := v) (by omega)
  have ht := tb_mEnds hW (i := v.toNat)
  rw [Int.toNat_of_nonneg hv.1] at ht
  have hx := bAnd1 (bShr (mEnds n) v)
  have hy := iR_sh (mEnds n) v
  have hz := iR_mEnds (n := n) hN.1
  refine Ok.of (by decide) rfl (Nat.le_of_ble_eq_true rfl) ?_
  refine Go.walk 400 [] E29 E29_ok (fun G C hG hC => ?_)
  (repeat ((conv => whnf); first | refine ⟨_, by assumption, ?_⟩ | refine ⟨_, _, by assumption, ?_⟩ | refine ⟨(show _ ∧ _ by omega), ?_⟩ | refine ⟨(show _ ∨ _ by omega), ?_⟩ | refine ⟨fun h => absurd h (by decide), fun _ => ?_⟩ | refine ⟨fun _ => ?_, fun h => absurd h (by decide)⟩ | refine ⟨fun _ => ?_, fun h => absurd rfl h⟩ | refine ⟨fun h => absurd rfl h, fun _ => ?_⟩)); try (conv => whnf)
  refine hC _ _ _ _ _ _ ?_
  refine ok_ends hS hR hW ?_
  (repeat ((conv => whnf); first | refine ⟨_, by assumption, ?_⟩ | refine ⟨_, _, by assumption, ?_⟩ | refine ⟨(show _ ∧ _ by omega), ?_⟩ | refine ⟨(show _ ∨ _ by omega), ?_⟩ | refine ⟨fun h => absurd h (by decide), fun _ => ?_⟩ | refine ⟨fun _ => ?_, fun h => absurd h (by decide)⟩ | refine ⟨fun _ => ?_, fun h => absurd rfl h⟩ | refine ⟨fun h => absurd rfl h, fun _ => ?_⟩)); try (conv => whnf)
  refine ⟨fun q => ?_, fun q => ?_⟩
  · (repeat ((conv => whnf); first | refine ⟨_, by assumption, ?_⟩ | refine ⟨_, _, by assumption, ?_⟩ | refine ⟨(show _ ∧ _ by omega), ?_⟩ | refine ⟨(show _ ∨ _ by omega), ?_⟩ | refine ⟨fun h => absurd h (by decide), fun _ => ?_⟩ | refine ⟨fun _ => ?_, fun h => absurd h (by decide)⟩ | refine ⟨fun _ => ?_, fun h => absurd rfl h⟩ | refine ⟨fun h => absurd rfl h, fun _ => ?_⟩)); try (conv => whnf)
    refine h0 ?_
    cases hq : mEnd n v with
    | false => rfl
    | true =>
      have := (mEnd_iff hN.1).mp hq
      rw [ht.mpr ⟨by omega, hv.2, hq⟩] at hb
      exact absurd hb q
  · (repeat ((conv => whnf); first | refine ⟨_, by assumption, ?_⟩ | refine ⟨_, _, by assumption, ?_⟩ | refine ⟨(show _ ∧ _ by omega), ?_⟩ | refine ⟨(show _ ∨ _ by omega), ?_⟩ | refine ⟨fun h => absurd h (by decide), fun _ => ?_⟩ | refine ⟨fun _ => ?_, fun h => absurd h (by decide)⟩ | refine ⟨fun _ => ?_, fun h => absurd rfl h⟩ | refine ⟨fun h => absurd rfl h, fun _ => ?_⟩)); try (conv => whnf)
    refine h1 ?_
    cases hq : tb (mEnds n) v.toNat with
    | true => exact (ht.mp hq).2.2
    | false =>
      rw [hq] at hb
      rw [hb] at q
      exact absurd q (by decide)
end
section
/-! a net of the class: changes -/
def FN (a : Nat) (I I' : aI) : Prop := ∀ x, (x < a ∨ a + 13 < x) → I' x = I x
theorem FN.rf {a : Nat} {I : aI} : FN a I I := fun _ _ => rfl
theorem FN.put {a b : Nat} {I I' : aI} {j z : Int} (h : FN a I I') (hb : a ≤ b ∧ b ≤ a + 13) : FN a I (uI I' b j z) := by
  intro x hx
  funext k
  rw [uI_ne (by omega), h x hx]
theorem FN.trans {a : Nat} {I I1 I2 : aI} (h : FN a I I1) (h2 : FN a I1 I2) : FN a I I2 := fun x hx => (h2 x hx).trans (h x hx)
theorem net_row {I : aI} {a b : Nat} {n : aN} {v w z x : Int} {i j : Nat} (hb : (b : Int) = a + 1 + w) (hw : 0 ≤ w ∧ w < 8) (hi : i < 8) (hj : j = 1 + i) (h : I (a + j) x = nf n x i) : uI I b v z (a + j) x = nf (st n v w z) x i := by
  rw [nf_st hw (by omega)]
  by_cases q : x = v ∧ (i : Int) = w
  · rw [if_pos q]
    obtain ⟨q1, q2⟩ := q
    have e : a + j = b := by omega
    subst e
    subst q1
    exact uI_at
  · rw [if_neg q, uI_ne (by omega)]
    exact h
def mK3 (x y z : Int) : Int := bOr (bOr (bOr 0 (if x = 1 then bShl 1 1 else 0)) (if y = 1 then bShl 1 2 else 0)) (if z = 1 then bShl 1 3 else 0)
theorem mKinds_3 (n : aN) : mKinds n = mK3 (kf n 1 0) (kf n 2 0) (kf n 3 0) := rfl
theorem mKinds_cong {n n' : aN} (h : ∀ k : Int, 1 ≤ k → k ≤ 3 → kf n' k 0 = kf n k 0) : mKinds n' = mKinds n := by
  have e1 := h 1 (by omega) (by omega)
  have e2 := h 2 (by omega) (by omega)
  have e3 := h 3 (by omega) (by omega)
  rw [mKinds_3 n', mKinds_3 n]
  exact congr (congr (congrArg mK3 e1) e2) e3
theorem NetR.st {I : aI} {a b : Nat} {n : aN} {v w z : Int} (hR : NetR I a n) (hb : (b : Int) = a + 1 + w) (hw : 0 ≤ w ∧ w < 8) (hv : 0 ≤ v) : NetR (uI I b v z) a (st n v w z) := by
  obtain ⟨⟨h0, h1, h2⟩, h3, h4, h5⟩ := hR
  refine ⟨⟨?_, ?_, ?_⟩, fun x g0 g1 => ?_, fun k g0 g1 => ?_, ?_⟩
  · rw [uI_ne (by omega), st_lo hv (by omega) (by omega)]; exact h0
  · rw [uI_ne (by omega), st_lo hv (by omega) (by omega)]; exact h1
  · rw [uI_ne (by omega), mKinds_cong (fun k _ q => kf_st hv (by omega) q (by omega))]; exact h2
  · obtain ⟨r0, r1, r2, r3, r4, r5, r6, r7⟩ := h3 x g0 g1
    exact ⟨net_row (i := 0) hb hw (by omega) rfl r0, net_row (i := 1) hb hw (by omega) rfl r1, net_row (i := 2) hb hw (by omega) rfl r2, net_row (i := 3) hb hw (by omega) rfl r3, net_row (i := 4) hb hw (by omega) rfl r4, net_row (i := 5) hb hw (by omega) rfl r5, net_row (i := 6) hb hw (by omega) rfl r6, net_row (i := 7) hb hw (by omega) rfl r7⟩
  · obtain ⟨r1, r2, r3, r4, r5⟩ := h4 k g0 g1
    refine ⟨?_, ?_, ?_, ?_, ?_⟩
    · rw [uI_ne (by omega), kf_st hv (by omega) g1 (by omega)]; exact r1
    · rw [uI_ne (by omega), kf_st hv (by omega) g1 (by omega)]; exact r2
    · rw [uI_ne (by omega), kf_st hv (by omega) g1 (by omega)]; exact r3
    · rw [uI_ne (by omega), kf_st hv (by omega) g1 (by omega)]; exact r4
    · rw [uI_ne (by omega), kf_st hv (by omega) g1 (by omega)]; exact r5
  · obtain ⟨r1, r2, r3, r4, r5⟩ := h5
    refine ⟨?_, ?_, ?_, ?_, ?_⟩
    · rw [uI_ne (by omega)]; exact r1
    · rw [uI_ne (by omega)]; exact r2
    · rw [uI_ne (by omega)]; exact r3
    · rw [uI_ne (by omega)]; exact r4
    · rw [uI_ne (by omega)]; exact r5
/-- the same numbers in other rows of the class, the same cells' numbers -/
theorem NetR.cg {I I' : aI} {a : Nat} {n : aN} (hR : NetR I a n) (h : ∀ x, a ≤ x → x ≤ a + 13 → I' x = I x) : NetR I' a n := by
  unfold NetR at hR ⊢
  rw [h a (by omega) (by omega), h (a + 1) (by omega) (by omega), h (a + 2) (by omega) (by omega), h (a + 3) (by omega) (by omega), h (a + 4) (by omega) (by omega), h (a + 5) (by omega) (by omega), h (a + 6) (by omega) (by omega), h (a + 7) (by omega) (by omega), h (a + 8) (by omega) (by omega), h (a + 9) (by omega) (by omega), h (a + 10) (by omega) (by omega), h (a + 11) (by omega) (by omega), h (a + 12) (by omega) (by omega), h (a + 13) (by omega) (by omega)]
  exact hR
theorem NetR.up1 {I : aI} {a : Nat} {n : aN} {j z : Int} (hR : NetR I a n) (hj : 0 ≤ j ∧ j ≤ 1) : NetR (uI I a j z) a (up n j z) := by
  obtain ⟨⟨h0, h1, h2⟩, h3, h4, h5⟩ := hR
  have en : ∀ x y : Int, 0 ≤ x → 0 ≤ y → nf (up n j z) x y = nf n x y := fun x y g1 g2 => nf_up (by omega)
  have ek : ∀ k y : Int, 1 ≤ k → 0 ≤ y → kf (up n j z) k y = kf n k y := fun k y g1 g2 => kf_up (by omega)
  have er : ∀ (i : Nat) (x : Int), 1 ≤ i → uI I a j z (a + i) x = I (a + i) x := fun i x g => uI_ne (by omega)
  have e01 : ∀ k : Int, 0 ≤ k → k ≤ 1 → I a k = n k → uI I a j z a k = up n j z k := by
    intro k g0 g1 h
    by_cases q : k = j
    · subst q; rw [uI_at, up_at]
    · rw [uI_ne (by omega), up_ne q]; exact h
  refine ⟨⟨e01 0 (by omega) (by omega) h0, e01 1 (by omega) (by omega) h1, ?_⟩, fun x g0 g1 => ?_, fun k g0 g1 => ?_, ?_⟩
  · rw [uI_ne (by omega), mKinds_cong (fun k q _ => ek k 0 q (by omega))]; exact h2
  · rw [er 1 x (by omega), er 2 x (by omega), er 3 x (by omega), er 4 x (by omega), er 5 x (by omega), er 6 x (by omega), er 7 x (by omega), er 8 x (by omega), en x 0 g0 (by omega), en x 1 g0 (by omega), en x 2 g0 (by omega), en x 3 g0 (by omega), en x 4 g0 (by omega), en x 5 g0 (by omega), en x 6 g0 (by omega), en x 7 g0 (by omega)]
    exact h3 x g0 g1
  · rw [er 9 k (by omega), er 10 k (by omega), er 11 k (by omega), er 12 k (by omega), er 13 k (by omega), ek k 1 g0 (by omega), ek k 2 g0 (by omega), ek k 3 g0 (by omega), ek k 4 g0 (by omega), ek k 5 g0 (by omega)]
    exact h4 k g0 g1
  · rw [er 9 0 (by omega), er 10 0 (by omega), er 11 0 (by omega), er 12 0 (by omega), er 13 0 (by omega)]
    exact h5
/-- tellEnd(v, load, need, wants) -/
theorem ok_tellEnd {P : aP} {d : Nat} {K : aK} {I : aI} {R : aR} {S : aS} {a : Nat} {n : aN} {v l e w : Int} (hS : NetS R S a) (hR : NetR I a n) (hv : 0 ≤ v ∧ v < 6) (hK : ∀ I', FN a I I' → NetR I' a (endN n v l e w) → K none I' R S) : Ok P 33 (d + 1) [vr a, vi v, vi l, vi e, vi w] I R S K := by
  obtain ⟨s0, sr1, sm1, sr2, sm2, sr3, sm3, sr4, sm4, sr5, sm5, sr6, sm6, sr7, sm7, sr8, sm8, sr9, sm9, sr10, sm10, sr11, sm11, sr12, sm12, sr13, sm13⟩ := id hS
  refine Ok.of (by decide) rfl (Nat.le_of_ble_eq_true rfl) ?_
  refine Go.walk 400 [] E33 E33_ok (fun G C hG hC => ?_)
  (repeat ((conv => whnf); first | refine ⟨_, by assumption, ?_⟩ | refine ⟨_, _, by assumption, ?_⟩ | refine ⟨(show _ ∧ _ by omega), ?_⟩ | refine ⟨(show _ ∨ _ by omega), ?_⟩ | refine ⟨fun h => absurd h (by decide), fun _ => ?_⟩ | refine ⟨fun _ => ?_, fun h => absurd h (by decide)⟩ | refine ⟨fun _ => ?_, fun h => absurd rfl h⟩ | refine ⟨fun h => absurd rfl h, fun _ => ?_⟩)); try (conv => whnf)
  exact hK _ (((FN.rf.put (by omega)).put (by omega)).put (by omega)) (((hR.st (b := a + 5) (w := 4) (by omega) (by omega) hv.1).st (b := a + 6) (w := 5) (by omega) (by omega) hv.1).st (b := a + 7) (w := 6) (by omega) (by omega) hv.1)
theorem up_comm {n : aN} {i j x y : Int} (h : i ≠ j) : up (up n i x) j y = up (up n j y) i x := by
  funext k
  unfold up
  by_cases h1 : k = j
  · rw [if_pos h1, if_neg (by omega), if_pos h1]
  · rw [if_neg h1]
    by_cases h2 : k = i
    · rw [if_pos h2, if_pos h2]
    · rw [if_neg h2, if_neg h2, if_neg h1]
theorem grow_eq {n : aN} {aa r c : Int} (h0 : 0 ≤ n 0) : endN (st (st (st (st (st (up n 0 (n 0 + 1)) (n 0) 0 aa) (n 0) 1 r) (n 0) 2 c) (n 0) 3 1) (n 0) 7 0) (n 0) 1 100 0 = growF n aa r c := by
  unfold growF endN st
  rw [up_comm (i := 0) (j := 20 + 8 * n 0 + 0) (by omega), up_comm (i := 0) (j := 20 + 8 * n 0 + 1) (by omega), up_comm (i := 0) (j := 20 + 8 * n 0 + 2) (by omega), up_comm (i := 0) (j := 20 + 8 * n 0 + 3) (by omega), up_comm (i := 0) (j := 20 + 8 * n 0 + 7) (by omega), up_comm (i := 0) (j := 20 + 8 * n 0 + 4) (by omega), up_comm (i := 0) (j := 20 + 8 * n 0 + 5) (by omega), up_comm (i := 0) (j := 20 + 8 * n 0 + 6) (by omega)]
  rw [up_comm (i := 20 + 8 * n 0 + 7) (j := 20 + 8 * n 0 + 4) (by omega), up_comm (i := 20 + 8 * n 0 + 7) (j := 20 + 8 * n 0 + 5) (by omega), up_comm (i := 20 + 8 * n 0 + 7) (j := 20 + 8 * n 0 + 6) (by omega)]
/-- grow(above, r, c) -/
theorem ok_grow {P : aP} {d : Nat} {K : aK} {I : aI} {R : aR} {S : aS} {a : Nat} {n : aN} {aa r c : Int} (hS : NetS R S a) (hR : NetR I a n) (hW : WF n) (h6 : n 0 < 6) (hK : ∀ I', FN a I I' → NetR I' a (growF n aa r c) → K (some (vi (n 0))) I' R S) : Ok P 32 (d + 2) [vr a, vi aa, vi r, vi c] I R S K := by
  obtain ⟨s0, sr1, sm1, sr2, sm2, sr3, sm3, sr4, sm4, sr5, sm5, sr6, sm6, sr7, sm7, sr8, sm8, sr9, sm9, sr10, sm10, sr11, sm11, sr12, sm12, sr13, sm13⟩ := id hS
  have hN := hW.1
  have e0 : I a ((0 : Nat) : Int) = n 0 := hR.1.1
  have hg := (((((hR.up1 (j := 0) (z := n 0 + 1) (by omega)).st (b := a + 1) (v := n 0) (w := 0) (z := aa) (by omega) (by omega) (by omega)).st (b := a + 2) (v := n 0) (w := 1) (z := r) (by omega) (by omega) (by omega)).st (b := a + 3) (v := n 0) (w := 2) (z := c) (by omega) (by omega) (by omega)).st (b := a + 4) (v := n 0) (w := 3) (z := 1) (by omega) (by omega) (by omega)).st (b := a + 8) (v := n 0) (w := 7) (z := 0) (by omega) (by omega) (by omega)
  refine Ok.of (by decide) rfl (Nat.le_of_ble_eq_true rfl) ?_
  refine Go.walk 400 [] E32 E32_ok (fun G C hG hC => ?_)
  (repeat ((conv => whnf); first | refine ⟨_, by assumption, ?_⟩ | refine ⟨_, _, by assumption, ?_⟩ | refine ⟨(show _ ∧ _ by omega), ?_⟩ | refine ⟨(show _ ∨ _ by omega), ?_⟩ | refine ⟨fun h => absurd h (by decide), fun _ => ?_⟩ | refine ⟨fun _ => ?_, fun h => absurd h (by decide)⟩ | refine ⟨fun _ => ?_, fun h => absurd rfl h⟩ | refine ⟨fun h => absurd rfl h, fun _ => ?_⟩)); try (conv => whnf)
  rw [e0]
  refine hC _ _ _ _ _ _ ?_
  refine ok_tellEnd hS hg (by omega) (fun I' hF hR' => ?_)
  rw [grow_eq (by omega)] at hR'
  (repeat ((conv => whnf); first | refine ⟨_, by assumption, ?_⟩ | refine ⟨_, _, by assumption, ?_⟩ | refine ⟨(show _ ∧ _ by omega), ?_⟩ | refine ⟨(show _ ∨ _ by omega), ?_⟩ | refine ⟨fun h => absurd h (by decide), fun _ => ?_⟩ | refine ⟨fun _ => ?_, fun h => absurd h (by decide)⟩ | refine ⟨fun _ => ?_, fun h => absurd rfl h⟩ | refine ⟨fun h => absurd rfl h, fun _ => ?_⟩)); try (conv => whnf)
  refine hK I' (FN.trans ?_ hF) hR'
  exact (((((FN.rf.put (by omega)).put (by omega)).put (by omega)).put (by omega)).put (by omega)).put (by omega)
/-- isPlaced(k) -/
theorem ok_isPlaced {P : aP} {d : Nat} {K : aK} {I : aI} {R : aR} {S : aS} {a : Nat} {n : aN} {k : Int} (hS : NetS R S a) (hR : NetR I a n) (hW : WF n) (hk : iR k) (h1 : plc n k = true → K (some (vi 1)) I R S) (h0 : (∀ v, 1 ≤ v → v < n 0 → nf n v 7 ≠ k) → K (some (vi 0)) I R S) : Ok P 30 (d + 1) [vr a, vi k] I R S K := by
  obtain ⟨s0, sr1, sm1, sr2, sm2, sr3, sm3, sr4, sm4, sr5, sm5, sr6, sm6, sr7, sm7, sr8, sm8, sr9, sm9, sr10, sm10, sr11, sm11, sr12, sm12, sr13, sm13⟩ := id hS
  have hN := hW.1
  have e0 : I a ((0 : Nat) : Int) = n 0 := hR.1.1
  have loop : ∀ (m : Nat) (v : Int), 1 ≤ v → n 0 - v = m → (∀ u, 1 ≤ u → u < v → nf n u 7 ≠ k) → Go P 30 (d + 1) K 2 [vr a, vi k, vi v] [] I R S := by
    intro m
    induction m with
    | zero =>
      intro v g1 hm hx
      have hv : v = n 0 := by omega
      refine Go.walk 400 [2] E30 E30_ok (fun G C hG hC => ?_)
      (repeat ((conv => whnf); first | refine ⟨_, by assumption, ?_⟩ | refine ⟨_, _, by assumption, ?_⟩ | refine ⟨(show _ ∧ _ by omega), ?_⟩ | refine ⟨(show _ ∨ _ by omega), ?_⟩ | refine ⟨fun h => absurd h (by decide), fun _ => ?_⟩ | refine ⟨fun _ => ?_, fun h => absurd h (by decide)⟩ | refine ⟨fun _ => ?_, fun h => absurd rfl h⟩ | refine ⟨fun h => absurd rfl h, fun _ => ?_⟩)); try (conv => whnf)
      rw [e0]
      refine ⟨fun _ => ?_, fun q => absurd (show n 0 ≤ v by omega) q⟩
      (repeat ((conv => whnf); first | refine ⟨_, by assumption, ?_⟩ | refine ⟨_, _, by assumption, ?_⟩ | refine ⟨(show _ ∧ _ by omega), ?_⟩ | refine ⟨(show _ ∨ _ by omega), ?_⟩ | refine ⟨fun h => absurd h (by decide), fun _ => ?_⟩ | refine ⟨fun _ => ?_, fun h => absurd h (by decide)⟩ | refine ⟨fun _ => ?_, fun h => absurd rfl h⟩ | refine ⟨fun h => absurd rfl h, fun _ => ?_⟩)); try (conv => whnf)
      exact h0 (by rw [← hv]; exact hx)
    | succ m ih =>
      intro v g1 hm hx
      have e7 := (hR.2.1 v (by omega) (by omega)).2.2.2.2.2.2.2
      have b7 := (hW.2.1 v (by omega) (by omega)).2.2.2.2.2.2.2
      refine Go.walk 400 [2] E30 E30_ok (fun G C hG hC => ?_)
      (repeat ((conv => whnf); first | refine ⟨_, by assumption, ?_⟩ | refine ⟨_, _, by assumption, ?_⟩ | refine ⟨(show _ ∧ _ by omega), ?_⟩ | refine ⟨(show _ ∨ _ by omega), ?_⟩ | refine ⟨fun h => absurd h (by decide), fun _ => ?_⟩ | refine ⟨fun _ => ?_, fun h => absurd h (by decide)⟩ | refine ⟨fun _ => ?_, fun h => absurd rfl h⟩ | refine ⟨fun h => absurd rfl h, fun _ => ?_⟩)); try (conv => whnf)
      rw [e0]
      refine ⟨fun q => absurd q (by omega), fun _ => ?_⟩
      (repeat ((conv => whnf); first | refine ⟨_, by assumption, ?_⟩ | refine ⟨_, _, by assumption, ?_⟩ | refine ⟨(show _ ∧ _ by omega), ?_⟩ | refine ⟨(show _ ∨ _ by omega), ?_⟩ | refine ⟨fun h => absurd h (by decide), fun _ => ?_⟩ | refine ⟨fun _ => ?_, fun h => absurd h (by decide)⟩ | refine ⟨fun _ => ?_, fun h => absurd rfl h⟩ | refine ⟨fun h => absurd rfl h, fun _ => ?_⟩)); try (conv => whnf)
      rw [e7]
      refine ⟨fun q => ?_, fun q => ?_⟩
      · (repeat ((conv => whnf); first | refine ⟨_, by assumption, ?_⟩ | refine ⟨_, _, by assumption, ?_⟩ | refine ⟨(show _ ∧ _ by omega), ?_⟩ | refine ⟨(show _ ∨ _ by omega), ?_⟩ | refine ⟨fun h => absurd h (by decide), fun _ => ?_⟩ | refine ⟨fun _ => ?_, fun h => absurd h (by decide)⟩ | refine ⟨fun _ => ?_, fun h => absurd rfl h⟩ | refine ⟨fun h => absurd rfl h, fun _ => ?_⟩)); try (conv => whnf)
        refine hG _ _ _ _ _ _ ?_
        refine ih (v + 1) (by omega) (by omega) (fun u p1 p2 => ?_)
        by_cases z : u = v
        · subst z; exact q
        · exact hx u p1 (by omega)
      · (repeat ((conv => whnf); first | refine ⟨_, by assumption, ?_⟩ | refine ⟨_, _, by assumption, ?_⟩ | refine ⟨(show _ ∧ _ by omega), ?_⟩ | refine ⟨(show _ ∨ _ by omega), ?_⟩ | refine ⟨fun h => absurd h (by decide), fun _ => ?_⟩ | refine ⟨fun _ => ?_, fun h => absurd h (by decide)⟩ | refine ⟨fun _ => ?_, fun h => absurd rfl h⟩ | refine ⟨fun h => absurd rfl h, fun _ => ?_⟩)); try (conv => whnf)
        exact h1 (plc_mono g1 (by omega) q)
  refine Ok.of (by decide) rfl (Nat.le_of_ble_eq_true rfl) ?_
  refine Go.walk 400 [2] E30 E30_ok (fun G C hG hC => ?_)
  (repeat ((conv => whnf); first | refine ⟨_, by assumption, ?_⟩ | refine ⟨_, _, by assumption, ?_⟩ | refine ⟨(show _ ∧ _ by omega), ?_⟩ | refine ⟨(show _ ∨ _ by omega), ?_⟩ | refine ⟨fun h => absurd h (by decide), fun _ => ?_⟩ | refine ⟨fun _ => ?_, fun h => absurd h (by decide)⟩ | refine ⟨fun _ => ?_, fun h => absurd rfl h⟩ | refine ⟨fun h => absurd rfl h, fun _ => ?_⟩)); try (conv => whnf)
  refine hG _ _ _ _ _ _ ?_
  exact loop (n 0 - 1).toNat 1 (by omega) (by omega) (fun u p1 p2 => by omega)
end
section
/-! a net of the class: costOfAll, wireTime -/
/-- costOfAll() -/
theorem ok_costOfAll {P : aP} {d : Nat} {K : aK} {I : aI} {R : aR} {S : aS} {a : Nat} {n : aN} (hS : NetS R S a) (hR : NetR I a n) (hW : WF n) (hK : K (some (vi (mCost n (pl0 n) 0))) I R S) : Ok P 31 (d + 1) [vr a] I R S K := by
  obtain ⟨s0, sr1, sm1, sr2, sm2, sr3, sm3, sr4, sm4, sr5, sm5, sr6, sm6, sr7, sm7, sr8, sm8, sr9, sm9, sr10, sm10, sr11, sm11, sr12, sm12, sr13, sm13⟩ := id hS
  have hN := hW.1
  have e0 : I a ((0 : Nat) : Int) = n 0 := hR.1.1
  have loop : ∀ (m : Nat) (v : Int), 1 ≤ v → n 0 - v = m → 0 ≤ rf (fun v s => s + (if (bel n v 0 && decide (0 < pl0 n v)) = true then kf n (pl0 n v) 4 else 0)) 0 1 v ∧ rf (fun v s => s + (if (bel n v 0 && decide (0 < pl0 n v)) = true then kf n (pl0 n v) 4 else 0)) 0 1 v ≤ 99 * (v - 1) → Go P 31 (d + 1) K 4 [vr a, vi (rf (fun v s => s + (if (bel n v 0 && decide (0 < pl0 n v)) = true then kf n (pl0 n v) 4 else 0)) 0 1 v), vi v] [] I R S := by
    intro m
    induction m with
    | zero =>
      intro v g1 hm hx
      have hv : v = n 0 := by omega
      refine Go.walk 400 [4] E31 E31_ok (fun G C hG hC => ?_)
      (repeat ((conv => whnf); first | refine ⟨_, by assumption, ?_⟩ | refine ⟨_, _, by assumption, ?_⟩ | refine ⟨(show _ ∧ _ by omega), ?_⟩ | refine ⟨(show _ ∨ _ by omega), ?_⟩ | refine ⟨fun h => absurd h (by decide), fun _ => ?_⟩ | refine ⟨fun _ => ?_, fun h => absurd h (by decide)⟩ | refine ⟨fun _ => ?_, fun h => absurd rfl h⟩ | refine ⟨fun h => absurd rfl h, fun _ => ?_⟩)); try (conv => whnf)
      rw [e0]
      refine ⟨fun _ => ?_, fun q => absurd (show n 0 ≤ v by omega) q⟩
      (repeat ((conv => whnf); first | refine ⟨_, by assumption, ?_⟩ | refine ⟨_, _, by assumption, ?_⟩ | refine ⟨(show _ ∧ _ by omega), ?_⟩ | refine ⟨(show _ ∨ _ by omega), ?_⟩ | refine ⟨fun h => absurd h (by decide), fun _ => ?_⟩ | refine ⟨fun _ => ?_, fun h => absurd h (by decide)⟩ | refine ⟨fun _ => ?_, fun h => absurd rfl h⟩ | refine ⟨fun h => absurd rfl h, fun _ => ?_⟩)); try (conv => whnf)
      rw [hv]
      exact hK
    | succ m ih =>
      intro v g1 hm hx
      have e7 := (hR.2.1 v (by omega) (by omega)).2.2.2.2.2.2.2
      have b7 := (hW.2.1 v (by omega) (by omega)).2.2.2.2.2.2.2
      have ih2 := ih (v + 1) (by omega) (by omega)
      rw [rf_succ g1] at ih2
      have hc : I (a + 12) (nf n v 7) = (if (bel n v 0 && decide (0 < pl0 n v)) = true then kf n (pl0 n v) 4 else 0) ∧ 0 ≤ I (a + 12) (nf n v 7) ∧ I (a + 12) (nf n v 7) ≤ 99 := by
        rw [bel0 hW (by omega) (by omega), Bool.true_and]
        have ep : pl0 n v = nf n v 7 := rfl
        rw [ep]
        by_cases q : 0 < nf n v 7
        · rw [if_pos (decide_eq_true q), (hR.2.2.1 (nf n v 7) (by omega) (by omega)).2.2.2.1]
          have := (hW.2.2.2.2.2 (nf n v 7) (by omega) (by omega)).2.2.2.2.1
          exact ⟨rfl, this.1, this.2⟩
        · rw [if_neg (fun z => q (of_decide_eq_true z))]
          have z : nf n v 7 = 0 := by omega
          rw [z, hR.2.2.2.2.2.2.1]
          exact ⟨rfl, by omega, by omega⟩
      obtain ⟨hc1, hc2, hc3⟩ := hc
      rw [← hc1] at ih2
      generalize rf (fun v s => s + (if (bel n v 0 && decide (0 < pl0 n v)) = true then kf n (pl0 n v) 4 else 0)) 0 1 v = x at hx ih2 ⊢
      refine Go.walk 400 [4] E31 E31_ok (fun G C hG hC => ?_)
      (repeat ((conv => whnf); first | refine ⟨_, by assumption, ?_⟩ | refine ⟨_, _, by assumption, ?_⟩ | refine ⟨(show _ ∧ _ by omega), ?_⟩ | refine ⟨(show _ ∨ _ by omega), ?_⟩ | refine ⟨fun h => absurd h (by decide), fun _ => ?_⟩ | refine ⟨fun _ => ?_, fun h => absurd h (by decide)⟩ | refine ⟨fun _ => ?_, fun h => absurd rfl h⟩ | refine ⟨fun h => absurd rfl h, fun _ => ?_⟩)); try (conv => whnf)
      rw [e0]
      refine ⟨fun q => absurd q (by omega), fun _ => ?_⟩
      (repeat ((conv => whnf); first | refine ⟨_, by assumption, ?_⟩ | refine ⟨_, _, by assumption, ?_⟩ | refine ⟨(show _ ∧ _ by omega), ?_⟩ | refine ⟨(show _ ∨ _ by omega), ?_⟩ | refine ⟨fun h => absurd h (by decide), fun _ => ?_⟩ | refine ⟨fun _ => ?_, fun h => absurd h (by decide)⟩ | refine ⟨fun _ => ?_, fun h => absurd rfl h⟩ | refine ⟨fun h => absurd rfl h, fun _ => ?_⟩)); try (conv => whnf)
      (try refine ⟨by omega, ?_⟩)
      (try rw [e7])
      (try refine ⟨by omega, ?_⟩)
      (try (repeat ((conv => whnf); first | refine ⟨_, by assumption, ?_⟩ | refine ⟨_, _, by assumption, ?_⟩ | refine ⟨(show _ ∧ _ by omega), ?_⟩ | refine ⟨(show _ ∨ _ by omega), ?_⟩ | refine ⟨fun h => absurd h (by decide), fun _ => ?_⟩ | refine ⟨fun _ => ?_, fun h => absurd h (by decide)⟩ | refine ⟨fun _ => ?_, fun h => absurd rfl h⟩ | refine ⟨fun h => absurd rfl h, fun _ => ?_⟩)); try (conv => whnf))
      (try refine ⟨by omega, ?_⟩)
      (try (repeat ((conv => whnf); first | refine ⟨_, by assumption, ?_⟩ | refine ⟨_, _, by assumption, ?_⟩ | refine ⟨(show _ ∧ _ by omega), ?_⟩ | refine ⟨(show _ ∨ _ by omega), ?_⟩ | refine ⟨fun h => absurd h (by decide), fun _ => ?_⟩ | refine ⟨fun _ => ?_, fun h => absurd h (by decide)⟩ | refine ⟨fun _ => ?_, fun h => absurd rfl h⟩ | refine ⟨fun h => absurd rfl h, fun _ => ?_⟩)); try (conv => whnf))
      refine hG _ _ _ _ _ _ ?_
      exact ih2 (by omega)
  refine Ok.of (by decide) rfl (Nat.le_of_ble_eq_true rfl) ?_
  refine Go.walk 400 [4] E31 E31_ok (fun G C hG hC => ?_)
  (repeat ((conv => whnf); first | refine ⟨_, by assumption, ?_⟩ | refine ⟨_, _, by assumption, ?_⟩ | refine ⟨(show _ ∧ _ by omega), ?_⟩ | refine ⟨(show _ ∨ _ by omega), ?_⟩ | refine ⟨fun h => absurd h (by decide), fun _ => ?_⟩ | refine ⟨fun _ => ?_, fun h => absurd h (by decide)⟩ | refine ⟨fun _ => ?_, fun h => absurd rfl h⟩ | refine ⟨fun h => absurd rfl h, fun _ => ?_⟩)); try (conv => whnf)
  refine hG _ _ _ _ _ _ ?_
  exact loop (n 0 - 1).toNat 1 (by omega) (by omega) (by rw [rf_nil (by omega)]; omega)
end
section
/-! wireTime -/
/-- wireTime(v, shown) -/
theorem ok_wireTime {P : aP} {d : Nat} {K : aK} {I : aI} {R : aR} {S : aS} {a : Nat} {n : aN} {v sh : Int} (hS : NetS R S a) (hR : NetR I a n) (hW : WF n) (hv : 1 ≤ v ∧ v < n 0) (hs : 0 ≤ sh ∧ sh ≤ 15000) (hK : K (some (vi (nf n v 1 * nf n v 2 + 2 / nf n v 3 * nf n v 1 * sh))) I R S) : Ok P 34 (d + 1) [vr a, vi v, vi sh] I R S K := by
  obtain ⟨s0, sr1, sm1, sr2, sm2, sr3, sm3, sr4, sm4, sr5, sm5, sr6, sm6, sr7, sm7, sr8, sm8, sr9, sm9, sr10, sm10, sr11, sm11, sr12, sm12, sr13, sm13⟩ := id hS
  have hN := hW.1
  obtain ⟨-, e1, e2, e3, -⟩ := hR.2.1 v (by omega) (by omega)
  obtain ⟨-, b1, b2, b3, -⟩ := hW.2.1 v (by omega) (by omega)
  have b4 := (hW.2.2.1 v hv.1 hv.2).1
  have p1 : 0 ≤ nf n v 1 * nf n v 2 := Int.mul_nonneg b1.1 b2.1
  have p2 : nf n v 1 * nf n v 2 ≤ 9 * 9 := Int.mul_le_mul b1.2 b2.2 b2.1 (by omega)
  have p3 : 0 ≤ nf n v 1 * sh := Int.mul_nonneg b1.1 hs.1
  have p4 : nf n v 1 * sh ≤ 9 * 15000 := Int.mul_le_mul b1.2 hs.2 hs.1 (by omega)
  have p5 : 2 * nf n v 1 * sh = 2 * (nf n v 1 * sh) := Int.mul_assoc _ _ _
  have p6 : 1 * nf n v 1 * sh = 1 * (nf n v 1 * sh) := Int.mul_assoc _ _ _
  have q1 : I (a + 2) v * I (a + 3) v = nf n v 1 * nf n v 2 := by rw [e1, e2]
  have q2 : ∀ x : Int, x * I (a + 2) v * sh = x * (nf n v 1 * sh) := fun x => by rw [e1, Int.mul_assoc]
  have q3 := q2 2
  have q4 := q2 1
  refine Ok.of (by decide) rfl (Nat.le_of_ble_eq_true rfl) ?_
  refine Go.walk 400 [] E34 E34_ok (fun G C hG hC => ?_)
  (repeat ((conv => whnf); first | refine ⟨_, by assumption, ?_⟩ | refine ⟨_, _, by assumption, ?_⟩ | refine ⟨(show _ ∧ _ by omega), ?_⟩ | refine ⟨(show _ ∨ _ by omega), ?_⟩ | refine ⟨fun h => absurd h (by decide), fun _ => ?_⟩ | refine ⟨fun _ => ?_, fun h => absurd h (by decide)⟩ | refine ⟨fun _ => ?_, fun h => absurd rfl h⟩ | refine ⟨fun h => absurd rfl h, fun _ => ?_⟩)); try (conv => whnf)
  refine ⟨fun q => ?_, fun q => ?_⟩
  · have e : nf n v 3 = 2 := by omega
    rw [e] at hK
    (repeat ((conv => whnf); first | refine ⟨_, by assumption, ?_⟩ | refine ⟨_, _, by assumption, ?_⟩ | refine ⟨(show _ ∧ _ by omega), ?_⟩ | refine ⟨(show _ ∨ _ by omega), ?_⟩ | refine ⟨fun h => absurd h (by decide), fun _ => ?_⟩ | refine ⟨fun _ => ?_, fun h => absurd h (by decide)⟩ | refine ⟨fun _ => ?_, fun h => absurd rfl h⟩ | refine ⟨fun h => absurd rfl h, fun _ => ?_⟩)); try (conv => whnf)
    (try refine ⟨by omega, ?_⟩)
    (try (repeat ((conv => whnf); first | refine ⟨_, by assumption, ?_⟩ | refine ⟨_, _, by assumption, ?_⟩ | refine ⟨(show _ ∧ _ by omega), ?_⟩ | refine ⟨(show _ ∨ _ by omega), ?_⟩ | refine ⟨fun h => absurd h (by decide), fun _ => ?_⟩ | refine ⟨fun _ => ?_, fun h => absurd h (by decide)⟩ | refine ⟨fun _ => ?_, fun h => absurd rfl h⟩ | refine ⟨fun h => absurd rfl h, fun _ => ?_⟩)); try (conv => whnf))
    rw [e1, e2]
    exact hK
  · have e : nf n v 3 = 1 := by omega
    rw [e] at hK
    (repeat ((conv => whnf); first | refine ⟨_, by assumption, ?_⟩ | refine ⟨_, _, by assumption, ?_⟩ | refine ⟨(show _ ∧ _ by omega), ?_⟩ | refine ⟨(show _ ∨ _ by omega), ?_⟩ | refine ⟨fun h => absurd h (by decide), fun _ => ?_⟩ | refine ⟨fun _ => ?_, fun h => absurd h (by decide)⟩ | refine ⟨fun _ => ?_, fun h => absurd rfl h⟩ | refine ⟨fun h => absurd rfl h, fun _ => ?_⟩)); try (conv => whnf)
    (try refine ⟨by omega, ?_⟩)
    (try (repeat ((conv => whnf); first | refine ⟨_, by assumption, ?_⟩ | refine ⟨_, _, by assumption, ?_⟩ | refine ⟨(show _ ∧ _ by omega), ?_⟩ | refine ⟨(show _ ∨ _ by omega), ?_⟩ | refine ⟨fun h => absurd h (by decide), fun _ => ?_⟩ | refine ⟨fun _ => ?_, fun h => absurd h (by decide)⟩ | refine ⟨fun _ => ?_, fun h => absurd rfl h⟩ | refine ⟨fun h => absurd rfl h, fun _ => ?_⟩)); try (conv => whnf))
    rw [e1, e2]
    exact hK
end
section
/-! a net of the class: copyFrom -/
theorem cI_ne {I : aI} {x t y : Nat} {sp dp n : Int} (h : y ≠ t) : cI I x sp t dp n y = I y := by
  funext j
  simp [cI, h]
theorem cI_at {I : aI} {x t : Nat} {n j : Int} (h : 0 ≤ j ∧ j < n) : cI I x 0 t 0 n t j = I x j := by
  simp [cI, h]
end
section
/-! a net of the class: copyFrom, the walk -/
/-- copyFrom(other) -/
theorem ok_copyFrom {P : aP} {d : Nat} {K : aK} {I : aI} {R : aR} {S : aS} {a b : Nat} {n : aN} (hS : NetS R S a) (hT : NetS R S b) (hR : NetR I b n) (hd : a + 13 < b ∨ b + 13 < a) (hK : ∀ I', FN a I I' → NetR I' a n → K none I' R S) : Ok P 23 (d + 1) [vr a, vr b] I R S K := by
  obtain ⟨s0, sr1, sm1, sr2, sm2, sr3, sm3, sr4, sm4, sr5, sm5, sr6, sm6, sr7, sm7, sr8, sm8, sr9, sm9, sr10, sm10, sr11, sm11, sr12, sm12, sr13, sm13⟩ := id hS
  obtain ⟨t0, tr1, tm1, tr2, tm2, tr3, tm3, tr4, tm4, tr5, tm5, tr6, tm6, tr7, tm7, tr8, tm8, tr9, tm9, tr10, tm10, tr11, tm11, tr12, tm12, tr13, tm13⟩ := id hT
  have g0 : uI I a ((0 : Nat) : Int) (I b ((0 : Nat) : Int)) b = I b := by funext j; rw [uI_ne (by omega)]
  have g1 : ∀ z, uI (uI I a ((0 : Nat) : Int) (I b ((0 : Nat) : Int))) a ((1 : Nat) : Int) z b = I b := fun z => by funext j; rw [uI_ne (by omega), g0]
  refine Ok.of (by decide) rfl (Nat.le_of_ble_eq_true rfl) ?_
  refine Go.walk 400 [] E23 E23_ok (fun G C hG hC => ?_)
  (repeat ((conv => whnf); first | refine ⟨_, by assumption, ?_⟩ | refine ⟨_, _, by assumption, ?_⟩ | refine ⟨(show _ ∧ _ by omega), ?_⟩ | refine ⟨(show _ ∨ _ by omega), ?_⟩ | refine ⟨fun h => absurd h (by decide), fun _ => ?_⟩ | refine ⟨fun _ => ?_, fun h => absurd h (by decide)⟩ | refine ⟨fun _ => ?_, fun h => absurd rfl h⟩ | refine ⟨fun h => absurd rfl h, fun _ => ?_⟩)); try (conv => whnf)
  refine ⟨_, _, by assumption, by assumption, by omega, ?_⟩
  (repeat ((conv => whnf); first | refine ⟨_, by assumption, ?_⟩ | refine ⟨_, _, by assumption, ?_⟩ | refine ⟨(show _ ∧ _ by omega), ?_⟩ | refine ⟨(show _ ∨ _ by omega), ?_⟩ | refine ⟨fun h => absurd h (by decide), fun _ => ?_⟩ | refine ⟨fun _ => ?_, fun h => absurd h (by decide)⟩ | refine ⟨fun _ => ?_, fun h => absurd rfl h⟩ | refine ⟨fun h => absurd rfl h, fun _ => ?_⟩)); try (conv => whnf)
  refine ⟨_, _, by assumption, by assumption, by omega, ?_⟩
  (repeat ((conv => whnf); first | refine ⟨_, by assumption, ?_⟩ | refine ⟨_, _, by assumption, ?_⟩ | refine ⟨(show _ ∧ _ by omega), ?_⟩ | refine ⟨(show _ ∨ _ by omega), ?_⟩ | refine ⟨fun h => absurd h (by decide), fun _ => ?_⟩ | refine ⟨fun _ => ?_, fun h => absurd h (by decide)⟩ | refine ⟨fun _ => ?_, fun h => absurd rfl h⟩ | refine ⟨fun h => absurd rfl h, fun _ => ?_⟩)); try (conv => whnf)
  refine ⟨_, _, by assumption, by assumption, by omega, ?_⟩
  (repeat ((conv => whnf); first | refine ⟨_, by assumption, ?_⟩ | refine ⟨_, _, by assumption, ?_⟩ | refine ⟨(show _ ∧ _ by omega), ?_⟩ | refine ⟨(show _ ∨ _ by omega), ?_⟩ | refine ⟨fun h => absurd h (by decide), fun _ => ?_⟩ | refine ⟨fun _ => ?_, fun h => absurd h (by decide)⟩ | refine ⟨fun _ => ?_, fun h => absurd rfl h⟩ | refine ⟨fun h => absurd rfl h, fun _ => ?_⟩)); try (conv => whnf)
  refine ⟨_, _, by assumption, by assumption, by omega, ?_⟩
  (repeat ((conv => whnf); first | refine ⟨_, by assumption, ?_⟩ | refine ⟨_, _, by assumption, ?_⟩ | refine ⟨(show _ ∧ _ by omega), ?_⟩ | refine ⟨(show _ ∨ _ by omega), ?_⟩ | refine ⟨fun h => absurd h (by decide), fun _ => ?_⟩ | refine ⟨fun _ => ?_, fun h => absurd h (by decide)⟩ | refine ⟨fun _ => ?_, fun h => absurd rfl h⟩ | refine ⟨fun h => absurd rfl h, fun _ => ?_⟩)); try (conv => whnf)
  refine ⟨_, _, by assumption, by assumption, by omega, ?_⟩
  (repeat ((conv => whnf); first | refine ⟨_, by assumption, ?_⟩ | refine ⟨_, _, by assumption, ?_⟩ | refine ⟨(show _ ∧ _ by omega), ?_⟩ | refine ⟨(show _ ∨ _ by omega), ?_⟩ | refine ⟨fun h => absurd h (by decide), fun _ => ?_⟩ | refine ⟨fun _ => ?_, fun h => absurd h (by decide)⟩ | refine ⟨fun _ => ?_, fun h => absurd rfl h⟩ | refine ⟨fun h => absurd rfl h, fun _ => ?_⟩)); try (conv => whnf)
  refine ⟨_, _, by assumption, by assumption, by omega, ?_⟩
  (repeat ((conv => whnf); first | refine ⟨_, by assumption, ?_⟩ | refine ⟨_, _, by assumption, ?_⟩ | refine ⟨(show _ ∧ _ by omega), ?_⟩ | refine ⟨(show _ ∨ _ by omega), ?_⟩ | refine ⟨fun h => absurd h (by decide), fun _ => ?_⟩ | refine ⟨fun _ => ?_, fun h => absurd h (by decide)⟩ | refine ⟨fun _ => ?_, fun h => absurd rfl h⟩ | refine ⟨fun h => absurd rfl h, fun _ => ?_⟩)); try (conv => whnf)
  refine ⟨_, _, by assumption, by assumption, by omega, ?_⟩
  (repeat ((conv => whnf); first | refine ⟨_, by assumption, ?_⟩ | refine ⟨_, _, by assumption, ?_⟩ | refine ⟨(show _ ∧ _ by omega), ?_⟩ | refine ⟨(show _ ∨ _ by omega), ?_⟩ | refine ⟨fun h => absurd h (by decide), fun _ => ?_⟩ | refine ⟨fun _ => ?_, fun h => absurd h (by decide)⟩ | refine ⟨fun _ => ?_, fun h => absurd rfl h⟩ | refine ⟨fun h => absurd rfl h, fun _ => ?_⟩)); try (conv => whnf)
  refine ⟨_, _, by assumption, by assumption, by omega, ?_⟩
  (repeat ((conv => whnf); first | refine ⟨_, by assumption, ?_⟩ | refine ⟨_, _, by assumption, ?_⟩ | refine ⟨(show _ ∧ _ by omega), ?_⟩ | refine ⟨(show _ ∨ _ by omega), ?_⟩ | refine ⟨fun h => absurd h (by decide), fun _ => ?_⟩ | refine ⟨fun _ => ?_, fun h => absurd h (by decide)⟩ | refine ⟨fun _ => ?_, fun h => absurd rfl h⟩ | refine ⟨fun h => absurd rfl h, fun _ => ?_⟩)); try (conv => whnf)
  refine ⟨_, _, by assumption, by assumption, by omega, ?_⟩
  (repeat ((conv => whnf); first | refine ⟨_, by assumption, ?_⟩ | refine ⟨_, _, by assumption, ?_⟩ | refine ⟨(show _ ∧ _ by omega), ?_⟩ | refine ⟨(show _ ∨ _ by omega), ?_⟩ | refine ⟨fun h => absurd h (by decide), fun _ => ?_⟩ | refine ⟨fun _ => ?_, fun h => absurd h (by decide)⟩ | refine ⟨fun _ => ?_, fun h => absurd rfl h⟩ | refine ⟨fun h => absurd rfl h, fun _ => ?_⟩)); try (conv => whnf)
  refine ⟨_, _, by assumption, by assumption, by omega, ?_⟩
  (repeat ((conv => whnf); first | refine ⟨_, by assumption, ?_⟩ | refine ⟨_, _, by assumption, ?_⟩ | refine ⟨(show _ ∧ _ by omega), ?_⟩ | refine ⟨(show _ ∨ _ by omega), ?_⟩ | refine ⟨fun h => absurd h (by decide), fun _ => ?_⟩ | refine ⟨fun _ => ?_, fun h => absurd h (by decide)⟩ | refine ⟨fun _ => ?_, fun h => absurd rfl h⟩ | refine ⟨fun h => absurd rfl h, fun _ => ?_⟩)); try (conv => whnf)
  refine ⟨_, _, by assumption, by assumption, by omega, ?_⟩
  (repeat ((conv => whnf); first | refine ⟨_, by assumption, ?_⟩ | refine ⟨_, _, by assumption, ?_⟩ | refine ⟨(show _ ∧ _ by omega), ?_⟩ | refine ⟨(show _ ∨ _ by omega), ?_⟩ | refine ⟨fun h => absurd h (by decide), fun _ => ?_⟩ | refine ⟨fun _ => ?_, fun h => absurd h (by decide)⟩ | refine ⟨fun _ => ?_, fun h => absurd rfl h⟩ | refine ⟨fun h => absurd rfl h, fun _ => ?_⟩)); try (conv => whnf)
  refine ⟨_, _, by assumption, by assumption, by omega, ?_⟩
  (repeat ((conv => whnf); first | refine ⟨_, by assumption, ?_⟩ | refine ⟨_, _, by assumption, ?_⟩ | refine ⟨(show _ ∧ _ by omega), ?_⟩ | refine ⟨(show _ ∨ _ by omega), ?_⟩ | refine ⟨fun h => absurd h (by decide), fun _ => ?_⟩ | refine ⟨fun _ => ?_, fun h => absurd h (by decide)⟩ | refine ⟨fun _ => ?_, fun h => absurd rfl h⟩ | refine ⟨fun h => absurd rfl h, fun _ => ?_⟩)); try (conv => whnf)
  refine ⟨_, _, by assumption, by assumption, by omega, ?_⟩
  (repeat ((conv => whnf); first | refine ⟨_, by assumption, ?_⟩ | refine ⟨_, _, by assumption, ?_⟩ | refine ⟨(show _ ∧ _ by omega), ?_⟩ | refine ⟨(show _ ∨ _ by omega), ?_⟩ | refine ⟨fun h => absurd h (by decide), fun _ => ?_⟩ | refine ⟨fun _ => ?_, fun h => absurd h (by decide)⟩ | refine ⟨fun _ => ?_, fun h => absurd rfl h⟩ | refine ⟨fun h => absurd rfl h, fun _ => ?_⟩)); try (conv => whnf)
  rw [g1, g0]
  obtain ⟨⟨h0, h1, h2⟩, h3, h4, h5⟩ := hR
  refine hK _ (fun x hx => ?_) ⟨⟨?_, ?_, ?_⟩, fun x p0 p1 => ?_, fun k p0 p1 => ?_, ?_⟩
  · rw [cI_ne (by omega), cI_ne (by omega), cI_ne (by omega), cI_ne (by omega), cI_ne (by omega), cI_ne (by omega), cI_ne (by omega), cI_ne (by omega), cI_ne (by omega), cI_ne (by omega), cI_ne (by omega), cI_ne (by omega), cI_ne (by omega)]; funext j; rw [uI_ne (by omega), uI_ne (by omega), uI_ne (by omega)]
  · rw [cI_ne (by omega), cI_ne (by omega), cI_ne (by omega), cI_ne (by omega), cI_ne (by omega), cI_ne (by omega), cI_ne (by omega), cI_ne (by omega), cI_ne (by omega), cI_ne (by omega), cI_ne (by omega), cI_ne (by omega), cI_ne (by omega)]; rw [uI_ne (by omega), uI_ne (by omega)]; exact (uI_at).trans h0
  · rw [cI_ne (by omega), cI_ne (by omega), cI_ne (by omega), cI_ne (by omega), cI_ne (by omega), cI_ne (by omega), cI_ne (by omega), cI_ne (by omega), cI_ne (by omega), cI_ne (by omega), cI_ne (by omega), cI_ne (by omega), cI_ne (by omega)]; rw [uI_ne (by omega)]; exact (uI_at).trans h1
  · rw [cI_ne (by omega), cI_ne (by omega), cI_ne (by omega), cI_ne (by omega), cI_ne (by omega), cI_ne (by omega), cI_ne (by omega), cI_ne (by omega), cI_ne (by omega), cI_ne (by omega), cI_ne (by omega), cI_ne (by omega), cI_ne (by omega)]; exact (uI_at).trans h2
  · obtain ⟨r0, r1, r2, r3, r4, r5, r6, r7⟩ := h3 x p0 p1
    refine ⟨?_, ?_, ?_, ?_, ?_, ?_, ?_, ?_⟩
    · rw [cI_ne (by omega), cI_ne (by omega), cI_ne (by omega), cI_ne (by omega), cI_ne (by omega), cI_ne (by omega), cI_ne (by omega), cI_ne (by omega), cI_ne (by omega), cI_ne (by omega), cI_ne (by omega), cI_ne (by omega), cI_at (by omega), uI_ne (by omega), uI_ne (by omega), uI_ne (by omega)]; exact r0
    · rw [cI_ne (by omega), cI_ne (by omega), cI_ne (by omega), cI_ne (by omega), cI_ne (by omega), cI_ne (by omega), cI_ne (by omega), cI_ne (by omega), cI_ne (by omega), cI_ne (by omega), cI_ne (by omega), cI_at (by omega), cI_ne (by omega), uI_ne (by omega), uI_ne (by omega), uI_ne (by omega)]; exact r1
    · rw [cI_ne (by omega), cI_ne (by omega), cI_ne (by omega), cI_ne (by omega), cI_ne (by omega), cI_ne (by omega), cI_ne (by omega), cI_ne (by omega), cI_ne (by omega), cI_ne (by omega), cI_at (by omega), cI_ne (by omega), cI_ne (by omega), uI_ne (by omega), uI_ne (by omega), uI_ne (by omega)]; exact r2
    · rw [cI_ne (by omega), cI_ne (by omega), cI_ne (by omega), cI_ne (by omega), cI_ne (by omega), cI_ne (by omega), cI_ne (by omega), cI_ne (by omega), cI_ne (by omega), cI_at (by omega), cI_ne (by omega), cI_ne (by omega), cI_ne (by omega), uI_ne (by omega), uI_ne (by omega), uI_ne (by omega)]; exact r3
    · rw [cI_ne (by omega), cI_ne (by omega), cI_ne (by omega), cI_ne (by omega), cI_ne (by omega), cI_ne (by omega), cI_ne (by omega), cI_ne (by omega), cI_at (by omega), cI_ne (by omega), cI_ne (by omega), cI_ne (by omega), cI_ne (by omega), uI_ne (by omega), uI_ne (by omega), uI_ne (by omega)]; exact r4
    · rw [cI_ne (by omega), cI_ne (by omega), cI_ne (by omega), cI_ne (by omega), cI_ne (by omega), cI_ne (by omega), cI_ne (by omega), cI_at (by omega), cI_ne (by omega), cI_ne (by omega), cI_ne (by omega), cI_ne (by omega), cI_ne (by omega), uI_ne (by omega), uI_ne (by omega), uI_ne (by omega)]; exact r5
    · rw [cI_ne (by omega), cI_ne (by omega), cI_ne (by omega), cI_ne (by omega), cI_ne (by omega), cI_ne (by omega), cI_at (by omega), cI_ne (by omega), cI_ne (by omega), cI_ne (by omega), cI_ne (by omega), cI_ne (by omega), cI_ne (by omega), uI_ne (by omega), uI_ne (by omega), uI_ne (by omega)]; exact r6
    · rw [cI_ne (by omega), cI_ne (by omega), cI_ne (by omega), cI_ne (by omega), cI_ne (by omega), cI_at (by omega), cI_ne (by omega), cI_ne (by omega), cI_ne (by omega), cI_ne (by omega), cI_ne (by omega), cI_ne (by omega), cI_ne (by omega), uI_ne (by omega), uI_ne (by omega), uI_ne (by omega)]; exact r7
  · obtain ⟨r0, r1, r2, r3, r4⟩ := h4 k p0 p1
    refine ⟨?_, ?_, ?_, ?_, ?_⟩
    · rw [cI_ne (by omega), cI_ne (by omega), cI_ne (by omega), cI_ne (by omega), cI_at (by omega), cI_ne (by omega), cI_ne (by omega), cI_ne (by omega), cI_ne (by omega), cI_ne (by omega), cI_ne (by omega), cI_ne (by omega), cI_ne (by omega), uI_ne (by omega), uI_ne (by omega), uI_ne (by omega)]; exact r0
    · rw [cI_ne (by omega), cI_ne (by omega), cI_ne (by omega), cI_at (by omega), cI_ne (by omega), cI_ne (by omega), cI_ne (by omega), cI_ne (by omega), cI_ne (by omega), cI_ne (by omega), cI_ne (by omega), cI_ne (by omega), cI_ne (by omega), uI_ne (by omega), uI_ne (by omega), uI_ne (by omega)]; exact r1
    · rw [cI_ne (by omega), cI_ne (by omega), cI_at (by omega), cI_ne (by omega), cI_ne (by omega), cI_ne (by omega), cI_ne (by omega), cI_ne (by omega), cI_ne (by omega), cI_ne (by omega), cI_ne (by omega), cI_ne (by omega), cI_ne (by omega), uI_ne (by omega), uI_ne (by omega), uI_ne (by omega)]; exact r2
    · rw [cI_ne (by omega), cI_at (by omega), cI_ne (by omega), cI_ne (by omega), cI_ne (by omega), cI_ne (by omega), cI_ne (by omega), cI_ne (by omega), cI_ne (by omega), cI_ne (by omega), cI_ne (by omega), cI_ne (by omega), cI_ne (by omega), uI_ne (by omega), uI_ne (by omega), uI_ne (by omega)]; exact r3
    · rw [cI_at (by omega), cI_ne (by omega), cI_ne (by omega), cI_ne (by omega), cI_ne (by omega), cI_ne (by omega), cI_ne (by omega), cI_ne (by omega), cI_ne (by omega), cI_ne (by omega), cI_ne (by omega), cI_ne (by omega), cI_ne (by omega), uI_ne (by omega), uI_ne (by omega), uI_ne (by omega)]; exact r4
  · obtain ⟨r0, r1, r2, r3, r4⟩ := h5
    refine ⟨?_, ?_, ?_, ?_, ?_⟩
    · rw [cI_ne (by omega), cI_ne (by omega), cI_ne (by omega), cI_ne (by omega), cI_at (by omega), cI_ne (by omega), cI_ne (by omega), cI_ne (by omega), cI_ne (by omega), cI_ne (by omega), cI_ne (by omega), cI_ne (by omega), cI_ne (by omega), uI_ne (by omega), uI_ne (by omega), uI_ne (by omega)]; exact r0
    · rw [cI_ne (by omega), cI_ne (by omega), cI_ne (by omega), cI_at (by omega), cI_ne (by omega), cI_ne (by omega), cI_ne (by omega), cI_ne (by omega), cI_ne (by omega), cI_ne (by omega), cI_ne (by omega), cI_ne (by omega), cI_ne (by omega), uI_ne (by omega), uI_ne (by omega), uI_ne (by omega)]; exact r1
    · rw [cI_ne (by omega), cI_ne (by omega), cI_at (by omega), cI_ne (by omega), cI_ne (by omega), cI_ne (by omega), cI_ne (by omega), cI_ne (by omega), cI_ne (by omega), cI_ne (by omega), cI_ne (by omega), cI_ne (by omega), cI_ne (by omega), uI_ne (by omega), uI_ne (by omega), uI_ne (by omega)]; exact r2
    · rw [cI_ne (by omega), cI_at (by omega), cI_ne (by omega), cI_ne (by omega), cI_ne (by omega), cI_ne (by omega), cI_ne (by omega), cI_ne (by omega), cI_ne (by omega), cI_ne (by omega), cI_ne (by omega), cI_ne (by omega), cI_ne (by omega), uI_ne (by omega), uI_ne (by omega), uI_ne (by omega)]; exact r3
    · rw [cI_at (by omega), cI_ne (by omega), cI_ne (by omega), cI_ne (by omega), cI_ne (by omega), cI_ne (by omega), cI_ne (by omega), cI_ne (by omega), cI_ne (by omega), cI_ne (by omega), cI_ne (by omega), cI_ne (by omega), cI_ne (by omega), uI_ne (by omega), uI_ne (by omega), uI_ne (by omega)]; exact r4
end
section
/-! the book of the class -/
def BkS (R : aR) (S : aS) : Prop := S[326]? = some (0, 3) ∧ R 326 0 = some 327 ∧ S[327]? = some (9, 20) ∧ R 326 1 = some 328 ∧ S[328]? = some (9, 20)
def BkR (I : aI) (b : List (Int × Int)) : Prop := I 326 2 = b.length ∧ b.length ≤ 20 ∧ ∀ (j : Nat) (p : Int × Int), b[j]? = some p → I 327 j = p.1 ∧ I 328 j = p.2
/-- add(node, time) -/
theorem ok_bookAdd {P : aP} {d : Nat} {K : aK} {I : aI} {R : aR} {S : aS} {v t : Int} {b : List (Int × Int)} (hS : BkS R S) (hB : BkR I b) (h20 : b.length < 20) (hK : ∀ I', Fr [326, 327, 328] I I' → BkR I' (b ++ [(v, t)]) → K none I' R S) : Ok P 1 (d + 1) [vr 326, vi v, vi t] I R S K := by
  obtain ⟨s0, r1, s1, r2, s2⟩ := id hS
  obtain ⟨b0, b1, b2⟩ := hB
  have e : I 326 ((2 : Nat) : Int) = b.length := b0
  have e1 : uI I 327 (I 326 ((2 : Nat) : Int)) v 326 ((2 : Nat) : Int) = b.length := by rw [uI_ne (by omega)]; exact b0
  refine Ok.of (by decide) rfl (Nat.le_of_ble_eq_true rfl) ?_
  refine Go.walk 400 [] E1 E1_ok (fun G C hG hC => ?_)
  (repeat ((conv => whnf); first | refine ⟨_, by assumption, ?_⟩ | refine ⟨_, _, by assumption, ?_⟩ | refine ⟨(show _ ∧ _ by omega), ?_⟩ | refine ⟨(show _ ∨ _ by omega), ?_⟩ | refine ⟨fun h => absurd h (by decide), fun _ => ?_⟩ | refine ⟨fun _ => ?_, fun h => absurd h (by decide)⟩ | refine ⟨fun _ => ?_, fun h => absurd rfl h⟩ | refine ⟨fun h => absurd rfl h, fun _ => ?_⟩)); try (conv => whnf)
  have e2 : uI (uI I 327 (I 326 ((2 : Nat) : Int)) v) 328 (uI I 327 (I 326 ((2 : Nat) : Int)) v 326 ((2 : Nat) : Int)) t 326 ((2 : Nat) : Int) = b.length := by rw [uI_ne (by omega), e1]
  rw [e2, e1, e]
  refine hK _ (((Fr.rf.put (by decide)).put (by decide)).put (by decide)) ⟨?_, by rw [List.length_append, List.length_singleton]; omega, fun j p hj => ?_⟩
  · rw [List.length_append, List.length_singleton]
    exact uI_at
  · by_cases q : j < b.length
    · rw [List.getElem?_append_left q] at hj
      obtain ⟨c1, c2⟩ := b2 j p hj
      refine ⟨?_, ?_⟩
      · rw [uI_ne (by omega), uI_ne (by omega), uI_ne (by omega)]; exact c1
      · rw [uI_ne (by omega), uI_ne (by omega), uI_ne (by omega)]; exact c2
    · have hj2 : j = b.length := by
        by_cases z : j < b.length + 1
        · omega
        · rw [List.getElem?_eq_none (by rw [List.length_append, List.length_singleton]; omega)] at hj
          cases hj
      subst hj2
      rw [List.getElem?_concat_length] at hj
      injection hj with hj
      subst hj
      refine ⟨?_, ?_⟩
      · rw [uI_ne (by omega), uI_ne (by omega)]; exact uI_at
      · rw [uI_ne (by omega)]; exact uI_at
end
section
/-! the book of the class: wrongEntry -/
theorem ok_bookWrong {P : aP} {d : Nat} {K : aK} {I : aI} {R : aR} {S : aS} {t : Nat} {n : aN} {B : List (Int × Int)} (hS : BkS R S) (hB : BkR I B) (hBr : ∀ p ∈ B, (0 ≤ p.1 ∧ p.1 < 6) ∧ iR p.2) (hW : WF n) (hT : S[t]? = some (9, 6)) (ht : ∀ v, 0 ≤ v → v < n 0 → I t v = tim0 n v) (hK : K (some (vi (weL n B 0))) I R S) : Ok P 2 (d + 1) [vr 326, vi (n 0), vr t] I R S K := by
  obtain ⟨s0, r1, s1, r2, s2⟩ := id hS
  obtain ⟨b0, b1, b2⟩ := hB
  have hN := hW.1
  have e : I 326 ((2 : Nat) : Int) = B.length := b0
  have loop : ∀ (m k : Nat) (z : aV), k + m = B.length → weL n B 0 = weL n (B.drop k) k → Go P 2 (d + 1) K 2 [vr 326, vi (n 0), vr t, vi k, z] [] I R S := by
    intro m
    induction m with
    | zero =>
      intro k z gm hx
      rw [List.drop_of_length_le (by omega)] at hx
      refine Go.walk 400 [2] E2 E2_ok (fun G C hG hC => ?_)
      (repeat ((conv => whnf); first | refine ⟨_, by assumption, ?_⟩ | refine ⟨_, _, by assumption, ?_⟩ | refine ⟨(show _ ∧ _ by omega), ?_⟩ | refine ⟨(show _ ∨ _ by omega), ?_⟩ | refine ⟨fun h => absurd h (by decide), fun _ => ?_⟩ | refine ⟨fun _ => ?_, fun h => absurd h (by decide)⟩ | refine ⟨fun _ => ?_, fun h => absurd rfl h⟩ | refine ⟨fun h => absurd rfl h, fun _ => ?_⟩)); try (conv => whnf)
      rw [e]
      refine ⟨fun _ => ?_, fun q => absurd (show (B.length : Int) ≤ k by omega) q⟩
      (repeat ((conv => whnf); first | refine ⟨_, by assumption, ?_⟩ | refine ⟨_, _, by assumption, ?_⟩ | refine ⟨(show _ ∧ _ by omega), ?_⟩ | refine ⟨(show _ ∨ _ by omega), ?_⟩ | refine ⟨fun h => absurd h (by decide), fun _ => ?_⟩ | refine ⟨fun _ => ?_, fun h => absurd h (by decide)⟩ | refine ⟨fun _ => ?_, fun h => absurd rfl h⟩ | refine ⟨fun h => absurd rfl h, fun _ => ?_⟩)); try (conv => whnf)
      rw [hx] at hK
      exact hK
    | succ m ih =>
      intro k z gm hx
      have hlt : k < B.length := by omega
      have hp := List.getElem?_eq_getElem hlt
      have hr := hBr _ (List.getElem_mem hlt)
      generalize B[k] = p at hp hr
      obtain ⟨q1, q2⟩ := b2 k p hp
      obtain ⟨hr1, hr2⟩ := hr
      rw [weL_drop hp] at hx
      have ih2 := ih (k + 1)
      have e6 : ((k + 1 : Nat) : Int) = (k : Int) + 1 := by omega
      rw [e6] at ih2
      refine Go.walk 400 [2] E2 E2_ok (fun G C hG hC => ?_)
      (repeat ((conv => whnf); first | refine ⟨_, by assumption, ?_⟩ | refine ⟨_, _, by assumption, ?_⟩ | refine ⟨(show _ ∧ _ by omega), ?_⟩ | refine ⟨(show _ ∨ _ by omega), ?_⟩ | refine ⟨fun h => absurd h (by decide), fun _ => ?_⟩ | refine ⟨fun _ => ?_, fun h => absurd h (by decide)⟩ | refine ⟨fun _ => ?_, fun h => absurd rfl h⟩ | refine ⟨fun h => absurd rfl h, fun _ => ?_⟩)); try (conv => whnf)
      rw [e]
      refine ⟨fun q => absurd q (by omega), fun _ => ?_⟩
      (repeat ((conv => whnf); first | refine ⟨_, by assumption, ?_⟩ | refine ⟨_, _, by assumption, ?_⟩ | refine ⟨(show _ ∧ _ by omega), ?_⟩ | refine ⟨(show _ ∨ _ by omega), ?_⟩ | refine ⟨fun h => absurd h (by decide), fun _ => ?_⟩ | refine ⟨fun _ => ?_, fun h => absurd h (by decide)⟩ | refine ⟨fun _ => ?_, fun h => absurd rfl h⟩ | refine ⟨fun h => absurd rfl h, fun _ => ?_⟩)); try (conv => whnf)
      rw [q1]
      refine ⟨fun q => ?_, fun q => ?_⟩
      · rw [badE_out (by omega), if_pos rfl] at hx
        (repeat ((conv => whnf); first | refine ⟨_, by assumption, ?_⟩ | refine ⟨_, _, by assumption, ?_⟩ | refine ⟨(show _ ∧ _ by omega), ?_⟩ | refine ⟨(show _ ∨ _ by omega), ?_⟩ | refine ⟨fun h => absurd h (by decide), fun _ => ?_⟩ | refine ⟨fun _ => ?_, fun h => absurd h (by decide)⟩ | refine ⟨fun _ => ?_, fun h => absurd rfl h⟩ | refine ⟨fun h => absurd rfl h, fun _ => ?_⟩)); try (conv => whnf)
        rw [hx] at hK
        exact hK
      · have e3 := ht p.1 hr1.1 (by omega)
        have htb := tim0_bd hW (v := p.1) hr1.1 (by omega)
        (repeat ((conv => whnf); first | refine ⟨_, by assumption, ?_⟩ | refine ⟨_, _, by assumption, ?_⟩ | refine ⟨(show _ ∧ _ by omega), ?_⟩ | refine ⟨(show _ ∨ _ by omega), ?_⟩ | refine ⟨fun h => absurd h (by decide), fun _ => ?_⟩ | refine ⟨fun _ => ?_, fun h => absurd h (by decide)⟩ | refine ⟨fun _ => ?_, fun h => absurd rfl h⟩ | refine ⟨fun h => absurd rfl h, fun _ => ?_⟩)); try (conv => whnf)
        rw [e3, q2]
        refine ⟨fun q3 => ?_, fun q3 => ?_⟩
        · rw [badE_no (by omega) q3, if_neg Bool.false_ne_true] at hx
          (repeat ((conv => whnf); first | refine ⟨_, by assumption, ?_⟩ | refine ⟨_, _, by assumption, ?_⟩ | refine ⟨(show _ ∧ _ by omega), ?_⟩ | refine ⟨(show _ ∨ _ by omega), ?_⟩ | refine ⟨fun h => absurd h (by decide), fun _ => ?_⟩ | refine ⟨fun _ => ?_, fun h => absurd h (by decide)⟩ | refine ⟨fun _ => ?_, fun h => absurd rfl h⟩ | refine ⟨fun h => absurd rfl h, fun _ => ?_⟩)); try (conv => whnf)
          refine hG _ _ _ _ _ _ ?_
          exact ih2 _ (by omega) hx
        · rw [badE_time q3, if_pos rfl] at hx
          (repeat ((conv => whnf); first | refine ⟨_, by assumption, ?_⟩ | refine ⟨_, _, by assumption, ?_⟩ | refine ⟨(show _ ∧ _ by omega), ?_⟩ | refine ⟨(show _ ∨ _ by omega), ?_⟩ | refine ⟨fun h => absurd h (by decide), fun _ => ?_⟩ | refine ⟨fun _ => ?_, fun h => absurd h (by decide)⟩ | refine ⟨fun _ => ?_, fun h => absurd rfl h⟩ | refine ⟨fun h => absurd rfl h, fun _ => ?_⟩)); try (conv => whnf)
          rw [hx] at hK
          exact hK
  refine Ok.of (by decide) rfl (Nat.le_of_ble_eq_true rfl) ?_
  refine Go.walk 400 [2] E2 E2_ok (fun G C hG hC => ?_)
  (repeat ((conv => whnf); first | refine ⟨_, by assumption, ?_⟩ | refine ⟨_, _, by assumption, ?_⟩ | refine ⟨(show _ ∧ _ by omega), ?_⟩ | refine ⟨(show _ ∨ _ by omega), ?_⟩ | refine ⟨fun h => absurd h (by decide), fun _ => ?_⟩ | refine ⟨fun _ => ?_, fun h => absurd h (by decide)⟩ | refine ⟨fun _ => ?_, fun h => absurd rfl h⟩ | refine ⟨fun h => absurd rfl h, fun _ => ?_⟩)); try (conv => whnf)
  refine hG _ _ _ _ _ _ ?_
  exact loop B.length 0 vu (by omega) rfl
end
section
/-! the draws of the class -/
theorem land31 {x : Int} (hx : 0 ≤ x) : bLand x 2147483647 = x % 2147483648 := by
  have h : bLand x 2147483647 = (BitVec.ofInt 64 x &&& 2147483647#64).toInt := rfl
  have hn : (BitVec.ofInt 64 x &&& 2147483647#64).toNat = x.toNat % 2147483648 := by
    rw [BitVec.toNat_and]
    show (BitVec.ofInt 64 x).toNat &&& (2 ^ 31 - 1) = _
    rw [Nat.and_two_pow_sub_one_eq_mod, BitVec.toNat_ofInt]
    omega
  rw [h, BitVec.toInt_eq_toNat_of_lt (by rw [hn]; omega), hn]
  omega
/-- next(n) -/
theorem ok_next {P : aP} {d : Nat} {K : aK} {I : aI} {R : aR} {S : aS} {m : Int} (hS : S[329]? = some (2, 1)) (hs : 0 ≤ I 329 0 ∧ I 329 0 < 2147483648) (hm : 1 ≤ m ∧ m < 2147483648) (hK : K (some (vi (dr1 (I 329 0) m))) (uI I 329 0 (sdN (I 329 0))) R S) : Ok P 13 (d + 1) [vr 329, vi m] I R S K := by
  have hb := sdN_bd (s := I 329 0)
  have hs2 : 0 ≤ I 329 ((0 : Nat) : Int) ∧ I 329 ((0 : Nat) : Int) < 2147483648 := hs
  have e2 : bLand (I 329 ((0 : Nat) : Int) * 1103515245 + 12345) 2147483647 = sdN (I 329 0) := (land31 (by omega)).trans rfl
  have e : uI I 329 ((0 : Nat) : Int) (sdN (I 329 0)) 329 ((0 : Nat) : Int) = sdN (I 329 0) := uI_at
  refine Ok.of (by decide) rfl (Nat.le_of_ble_eq_true rfl) ?_
  refine Go.walk 400 [] E13 E13_ok (fun G C hG hC => ?_)
  (repeat ((conv => whnf); first | refine ⟨_, by assumption, ?_⟩ | refine ⟨_, _, by assumption, ?_⟩ | refine ⟨(show _ ∧ _ by omega), ?_⟩ | refine ⟨(show _ ∨ _ by omega), ?_⟩ | refine ⟨fun h => absurd h (by decide), fun _ => ?_⟩ | refine ⟨fun _ => ?_, fun h => absurd h (by decide)⟩ | refine ⟨fun _ => ?_, fun h => absurd rfl h⟩ | refine ⟨fun h => absurd rfl h, fun _ => ?_⟩)); try (conv => whnf)
  rw [e2]
  refine ⟨fun _ => ?_, fun q => absurd hm.1 (by omega)⟩
  (repeat ((conv => whnf); first | refine ⟨_, by assumption, ?_⟩ | refine ⟨_, _, by assumption, ?_⟩ | refine ⟨(show _ ∧ _ by omega), ?_⟩ | refine ⟨(show _ ∨ _ by omega), ?_⟩ | refine ⟨fun h => absurd h (by decide), fun _ => ?_⟩ | refine ⟨fun _ => ?_, fun h => absurd h (by decide)⟩ | refine ⟨fun _ => ?_, fun h => absurd rfl h⟩ | refine ⟨fun h => absurd rfl h, fun _ => ?_⟩)); try (conv => whnf)
  rw [e]
  exact hK
end
section
/-! max, min -/
theorem ok_max {P : aP} {d : Nat} {K : aK} {I : aI} {R : aR} {S : aS} {x y : Int} (hx : iR x) (hy : iR y) (hK : K (some (vi (if y ≤ x then x else y))) I R S) : Ok P 137 (d + 1) [vi x, vi y] I R S K := by
  refine Ok.of (by decide) rfl (Nat.le_of_ble_eq_true rfl) ?_
  refine Go.walk 400 [] E137 E137_ok (fun G C hG hC => ?_)
  (repeat ((conv => whnf); first | refine ⟨_, by assumption, ?_⟩ | refine ⟨_, _, by assumption, ?_⟩ | refine ⟨(show _ ∧ _ by omega), ?_⟩ | refine ⟨(show _ ∨ _ by omega), ?_⟩ | refine ⟨fun h => absurd h (by decide), fun _ => ?_⟩ | refine ⟨fun _ => ?_, fun h => absurd h (by decide)⟩ | refine ⟨fun _ => ?_, fun h => absurd rfl h⟩ | refine ⟨fun h => absurd rfl h, fun _ => ?_⟩)); try (conv => whnf)
  refine ⟨fun q => ?_, fun q => ?_⟩
  · rw [if_neg (by omega)] at hK
    (repeat ((conv => whnf); first | refine ⟨_, by assumption, ?_⟩ | refine ⟨_, _, by assumption, ?_⟩ | refine ⟨(show _ ∧ _ by omega), ?_⟩ | refine ⟨(show _ ∨ _ by omega), ?_⟩ | refine ⟨fun h => absurd h (by decide), fun _ => ?_⟩ | refine ⟨fun _ => ?_, fun h => absurd h (by decide)⟩ | refine ⟨fun _ => ?_, fun h => absurd rfl h⟩ | refine ⟨fun h => absurd rfl h, fun _ => ?_⟩)); try (conv => whnf)
    exact hK
  · rw [if_pos (by omega)] at hK
    (repeat ((conv => whnf); first | refine ⟨_, by assumption, ?_⟩ | refine ⟨_, _, by assumption, ?_⟩ | refine ⟨(show _ ∧ _ by omega), ?_⟩ | refine ⟨(show _ ∨ _ by omega), ?_⟩ | refine ⟨fun h => absurd h (by decide), fun _ => ?_⟩ | refine ⟨fun _ => ?_, fun h => absurd h (by decide)⟩ | refine ⟨fun _ => ?_, fun h => absurd rfl h⟩ | refine ⟨fun h => absurd rfl h, fun _ => ?_⟩)); try (conv => whnf)
    exact hK
theorem ok_min {P : aP} {d : Nat} {K : aK} {I : aI} {R : aR} {S : aS} {x y : Int} (hx : iR x) (hy : iR y) (hK : K (some (vi (if x ≤ y then x else y))) I R S) : Ok P 138 (d + 1) [vi x, vi y] I R S K := by
  refine Ok.of (by decide) rfl (Nat.le_of_ble_eq_true rfl) ?_
  refine Go.walk 400 [] E138 E138_ok (fun G C hG hC => ?_)
  (repeat ((conv => whnf); first | refine ⟨_, by assumption, ?_⟩ | refine ⟨_, _, by assumption, ?_⟩ | refine ⟨(show _ ∧ _ by omega), ?_⟩ | refine ⟨(show _ ∨ _ by omega), ?_⟩ | refine ⟨fun h => absurd h (by decide), fun _ => ?_⟩ | refine ⟨fun _ => ?_, fun h => absurd h (by decide)⟩ | refine ⟨fun _ => ?_, fun h => absurd rfl h⟩ | refine ⟨fun h => absurd rfl h, fun _ => ?_⟩)); try (conv => whnf)
  refine ⟨fun q => ?_, fun q => ?_⟩
  · rw [if_neg (by omega)] at hK
    (repeat ((conv => whnf); first | refine ⟨_, by assumption, ?_⟩ | refine ⟨_, _, by assumption, ?_⟩ | refine ⟨(show _ ∧ _ by omega), ?_⟩ | refine ⟨(show _ ∨ _ by omega), ?_⟩ | refine ⟨fun h => absurd h (by decide), fun _ => ?_⟩ | refine ⟨fun _ => ?_, fun h => absurd h (by decide)⟩ | refine ⟨fun _ => ?_, fun h => absurd rfl h⟩ | refine ⟨fun h => absurd rfl h, fun _ => ?_⟩)); try (conv => whnf)
    exact hK
  · rw [if_pos (by omega)] at hK
    (repeat ((conv => whnf); first | refine ⟨_, by assumption, ?_⟩ | refine ⟨_, _, by assumption, ?_⟩ | refine ⟨(show _ ∧ _ by omega), ?_⟩ | refine ⟨(show _ ∨ _ by omega), ?_⟩ | refine ⟨fun h => absurd h (by decide), fun _ => ?_⟩ | refine ⟨fun _ => ?_, fun h => absurd h (by decide)⟩ | refine ⟨fun _ => ?_, fun h => absurd rfl h⟩ | refine ⟨fun h => absurd rfl h, fun _ => ?_⟩)); try (conv => whnf)
    exact hK
end
section
/-! sums taken from either end -/
theorem rf_sum0 {f : Int → Int} {a lo : Int} : ∀ (k : Nat) (hi : Int), hi - lo = k → rf (fun u s => s + f u) a lo hi = a + rf (fun u s => s + f u) 0 lo hi
  | 0, hi, h => by rw [rf_nil (by omega), rf_nil (by omega)]; omega
  | k + 1, hi, h => by
    have ih := rf_sum0 (f := f) (a := a) (lo := lo) k (hi - 1) (by omega)
    have e : hi = hi - 1 + 1 := by omega
    rw [e, rf_succ (by omega), rf_succ (by omega), ih]
    omega
theorem rf_low {f : Int → Int} {a lo : Int} : ∀ (k : Nat) (hi : Int), hi - lo = k + 1 → rf (fun u s => s + f u) a lo hi = f lo + rf (fun u s => s + f u) a (lo + 1) hi
  | 0, hi, h => by
    have e : hi = lo + 1 := by omega
    subst e
    rw [rf_succ (by omega), rf_nil (by omega), rf_nil (by omega)]
    omega
  | k + 1, hi, h => by
    have ih := rf_low (f := f) (a := a) (lo := lo) k (hi - 1) (by omega)
    have e : hi = hi - 1 + 1 := by omega
    rw [e, rf_succ (by omega), rf_succ (by omega), ih]
    omega
end
section
/-! the timing of the class -/
def TiS (R : aR) (S : aS) : Prop := S[29]? = some (6, 7) ∧ R 29 0 = some 30 ∧ S[30]? = some (9, 6) ∧ R 29 1 = some 31 ∧ S[31]? = some (9, 6) ∧ R 29 2 = some 32 ∧ S[32]? = some (9, 6) ∧ R 29 3 = some 33 ∧ S[33]? = some (9, 6)
theorem ends_bit {n : aN} (hW : WF n) {v : Int} (hv : 0 ≤ v ∧ v < n 0) : bAnd (bShr (mEnds n) v) 1 = b2i (mEnd n v) := by
  have hN := hW.1
  rw [bit_at (by omega)]
  have ht := tb_mEnds hW (i := v.toNat)
  rw [Int.toNat_of_nonneg hv.1] at ht
  congr 1
  apply Bool.eq_iff_iff.mpr
  rw [ht]
  constructor
  · exact fun h => h.2.2
  · intro h
    have := (mEnd_iff hN.1).mp h
    exact ⟨by omega, hv.2, h⟩
/-- the first loop of weigh: what each bears by itself -/
theorem go_weigh1 {P : aP} {d : Nat} {K : aK} {I : aI} {R : aR} {S : aS} {a : Nat} {n : aN} (hT : TiS R S) (hS : NetS R S a) (hR : NetR I a n) (hW : WF n) (ha : a + 13 < 29 ∨ 33 < a) (z : aV)
    (hK : ∀ I', Fr [30] I I' → (∀ v, 0 ≤ v → v < n 0 → I' 30 v = if mEnd n v = true then nf n v 4 else 0) → Go P 40 (d + 1) K 41 [vr 29, vr a, vi (mEnds n), vi (n 0), z] [] I' R S) : Go P 40 (d + 1) K 2 [vr 29, vr a, vi (mEnds n), vi 0, z] [] I R S := by
  obtain ⟨t0, q1, t1, q2, t2, q3, t3, q4, t4⟩ := id hT
  obtain ⟨s0, sr1, sm1, sr2, sm2, sr3, sm3, sr4, sm4, sr5, sm5, sr6, sm6, sr7, sm7, sr8, sm8, sr9, sm9, sr10, sm10, sr11, sm11, sr12, sm12, sr13, sm13⟩ := id hS
  have hN := hW.1
  have hz := iR_mEnds (n := n) hN.1
  have loop : ∀ (m : Nat) (v : Int) (I' : aI), 0 ≤ v → n 0 - v = m → Fr [30] I I' → (∀ u, 0 ≤ u → u < v → I' 30 u = if mEnd n u = true then nf n u 4 else 0) → Go P 40 (d + 1) K 2 [vr 29, vr a, vi (mEnds n), vi v, z] [] I' R S := by
    intro m
    induction m with
    | zero =>
      intro v I' g0 gm hF hx
      have hv : v = n 0 := by omega
      have e0 : I' a ((0 : Nat) : Int) = n 0 := by rw [hF a (by simp; omega)]; exact hR.1.1
      refine Go.walk 400 [2, 41] E40 E40_ok (fun G C hG hC => ?_)
      (repeat ((conv => whnf); first | refine ⟨_, by assumption, ?_⟩ | refine ⟨_, _, by assumption, ?_⟩ | refine ⟨(show _ ∧ _ by omega), ?_⟩ | refine ⟨(show _ ∨ _ by omega), ?_⟩ | refine ⟨fun h => absurd h (by decide), fun _ => ?_⟩ | refine ⟨fun _ => ?_, fun h => absurd h (by decide)⟩ | refine ⟨fun _ => ?_, fun h => absurd rfl h⟩ | refine ⟨fun h => absurd rfl h, fun _ => ?_⟩)); try (conv => whnf)
      rw [e0]
      refine ⟨fun _ => ?_, fun q => absurd (show n 0 ≤ v by omega) q⟩
      (repeat ((conv => whnf); first | refine ⟨_, by assumption, ?_⟩ | refine ⟨_, _, by assumption, ?_⟩ | refine ⟨(show _ ∧ _ by omega), ?_⟩ | refine ⟨(show _ ∨ _ by omega), ?_⟩ | refine ⟨fun h => absurd h (by decide), fun _ => ?_⟩ | refine ⟨fun _ => ?_, fun h => absurd h (by decide)⟩ | refine ⟨fun _ => ?_, fun h => absurd rfl h⟩ | refine ⟨fun h => absurd rfl h, fun _ => ?_⟩)); try (conv => whnf)
      refine hG _ _ _ _ _ _ ?_
      rw [hv] at hx ⊢
      exact hK I' hF hx
    | succ m ih =>
      intro v I' g0 gm hF hx
      have e0 : I' a ((0 : Nat) : Int) = n 0 := by rw [hF a (by simp; omega)]; exact hR.1.1
      have e4 : I' (a + 5) v = nf n v 4 := by rw [hF (a + 5) (by simp; omega)]; exact (hR.2.1 v g0 (by omega)).2.2.2.2.1
      have hb := ends_bit hW (v := v) (by omega)
      have hb1 := bAnd1 (bShr (mEnds n) v)
      have hy := iR_sh (mEnds n) v
      refine Go.walk 400 [2, 41] E40 E40_ok (fun G C hG hC => ?_)
      (repeat ((conv => whnf); first | refine ⟨_, by assumption, ?_⟩ | refine ⟨_, _, by assumption, ?_⟩ | refine ⟨(show _ ∧ _ by omega), ?_⟩ | refine ⟨(show _ ∨ _ by omega), ?_⟩ | refine ⟨fun h => absurd h (by decide), fun _ => ?_⟩ | refine ⟨fun _ => ?_, fun h => absurd h (by decide)⟩ | refine ⟨fun _ => ?_, fun h => absurd rfl h⟩ | refine ⟨fun h => absurd rfl h, fun _ => ?_⟩)); try (conv => whnf)
      rw [e0]
      refine ⟨fun q => absurd q (by omega), fun _ => ?_⟩
      (repeat ((conv => whnf); first | refine ⟨_, by assumption, ?_⟩ | refine ⟨_, _, by assumption, ?_⟩ | refine ⟨(show _ ∧ _ by omega), ?_⟩ | refine ⟨(show _ ∨ _ by omega), ?_⟩ | refine ⟨fun h => absurd h (by decide), fun _ => ?_⟩ | refine ⟨fun _ => ?_, fun h => absurd h (by decide)⟩ | refine ⟨fun _ => ?_, fun h => absurd rfl h⟩ | refine ⟨fun h => absurd rfl h, fun _ => ?_⟩)); try (conv => whnf)
      refine ⟨fun q => ?_, fun q => ?_⟩
      · have hf : mEnd n v = false := by
          cases hq : mEnd n v with
          | false => rfl
          | true => rw [hq] at hb; exact absurd hb q
        (repeat ((conv => whnf); first | refine ⟨_, by assumption, ?_⟩ | refine ⟨_, _, by assumption, ?_⟩ | refine ⟨(show _ ∧ _ by omega), ?_⟩ | refine ⟨(show _ ∨ _ by omega), ?_⟩ | refine ⟨fun h => absurd h (by decide), fun _ => ?_⟩ | refine ⟨fun _ => ?_, fun h => absurd h (by decide)⟩ | refine ⟨fun _ => ?_, fun h => absurd rfl h⟩ | refine ⟨fun h => absurd rfl h, fun _ => ?_⟩)); try (conv => whnf)
        refine hG _ _ _ _ _ _ ?_
        refine ih (v + 1) _ (by omega) (by omega) (hF.put (by decide)) (fun u p0 p1 => ?_)
        by_cases w : u = v
        · subst w; rw [uI_at, if_neg (by rw [hf]; exact Bool.false_ne_true)]
        · rw [uI_ne (by omega)]; exact hx u p0 (by omega)
      · have ht : mEnd n v = true := by
          cases hq : mEnd n v with
          | true => rfl
          | false => rw [hq] at hb; rw [hb] at q; exact absurd q (by decide)
        (repeat ((conv => whnf); first | refine ⟨_, by assumption, ?_⟩ | refine ⟨_, _, by assumption, ?_⟩ | refine ⟨(show _ ∧ _ by omega), ?_⟩ | refine ⟨(show _ ∨ _ by omega), ?_⟩ | refine ⟨fun h => absurd h (by decide), fun _ => ?_⟩ | refine ⟨fun _ => ?_, fun h => absurd h (by decide)⟩ | refine ⟨fun _ => ?_, fun h => absurd rfl h⟩ | refine ⟨fun h => absurd rfl h, fun _ => ?_⟩)); try (conv => whnf)
        rw [e4]
        refine hG _ _ _ _ _ _ ?_
        refine ih (v + 1) _ (by omega) (by omega) (hF.put (by decide)) (fun u p0 p1 => ?_)
        by_cases w : u = v
        · subst w; rw [uI_at, if_pos ht]
        · rw [uI_ne (by omega)]; exact hx u p0 (by omega)
  exact loop (n 0).toNat 0 I (by omega) (by omega) Fr.rf (fun u p0 p1 => by omega)
end
