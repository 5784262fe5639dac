/-- a private method of a class that the tables say can be made, by its rows of tables_1 -/
def lw_okq (q : MethodName × Nat) : Prop := (q.1.cls ≠ "java/lang/invoke/MethodHandle" ∧ q.1.cls ≠ "java/lang/invoke/VarHandle") ∧ Cond.instantiable q.1.cls q.2 ∈ tables_1 ∧ Cond.privateMethod q.1 ∈ tables_1 ∧ Cond.instanceMethod q.1 ∈ tables_1
theorem lw_p0 : lw_okq (⟨"AdderChooser", "timesHaveChanged", "()V"⟩, 9) := ⟨⟨by decide +kernel, by decide +kernel⟩, List.mem_of_getElem? (i := 16) (by decide +kernel), List.mem_of_getElem? (i := 373) (by decide +kernel), List.mem_of_getElem? (i := 374) (by decide +kernel)⟩
theorem lw_p1 : lw_okq (⟨"AdderChooser$Known", "placeOf", "(J)I"⟩, 2) := ⟨⟨by decide +kernel, by decide +kernel⟩, List.mem_of_getElem? (i := 63) (by decide +kernel), List.mem_of_getElem? (i := 396) (by decide +kernel), List.mem_of_getElem? (i := 397) (by decide +kernel)⟩
theorem lw_p2 : lw_okq (⟨"AdderChooser", "buildNetOf", "(I)V"⟩, 9) := ⟨⟨by decide +kernel, by decide +kernel⟩, List.mem_of_getElem? (i := 16) (by decide +kernel), List.mem_of_getElem? (i := 400) (by decide +kernel), List.mem_of_getElem? (i := 401) (by decide +kernel)⟩
theorem lw_p3 : lw_okq (⟨"AdderChooser$Net", "xor", "(II)I"⟩, 15) := ⟨⟨by decide +kernel, by decide +kernel⟩, List.mem_of_getElem? (i := 77) (by decide +kernel), List.mem_of_getElem? (i := 419) (by decide +kernel), List.mem_of_getElem? (i := 420) (by decide +kernel)⟩
theorem lw_p4 : lw_okq (⟨"AdderChooser$Net", "made", "(III)I"⟩, 15) := ⟨⟨by decide +kernel, by decide +kernel⟩, List.mem_of_getElem? (i := 77) (by decide +kernel), List.mem_of_getElem? (i := 423) (by decide +kernel), List.mem_of_getElem? (i := 424) (by decide +kernel)⟩
theorem lw_p5 : lw_okq (⟨"AdderChooser$Net", "and", "(II)I"⟩, 15) := ⟨⟨by decide +kernel, by decide +kernel⟩, List.mem_of_getElem? (i := 77) (by decide +kernel), List.mem_of_getElem? (i := 427) (by decide +kernel), List.mem_of_getElem? (i := 428) (by decide +kernel)⟩
theorem lw_p6 : lw_okq (⟨"AdderChooser$Net", "laySkip", "(II)I"⟩, 15) := ⟨⟨by decide +kernel, by decide +kernel⟩, List.mem_of_getElem? (i := 77) (by decide +kernel), List.mem_of_getElem? (i := 431) (by decide +kernel), List.mem_of_getElem? (i := 432) (by decide +kernel)⟩
theorem lw_p7 : lw_okq (⟨"AdderChooser$Net", "ripple", "(III[I)I"⟩, 15) := ⟨⟨by decide +kernel, by decide +kernel⟩, List.mem_of_getElem? (i := 77) (by decide +kernel), List.mem_of_getElem? (i := 435) (by decide +kernel), List.mem_of_getElem? (i := 436) (by decide +kernel)⟩
theorem lw_p8 : lw_okq (⟨"AdderChooser$Net", "or", "(II)I"⟩, 15) := ⟨⟨by decide +kernel, by decide +kernel⟩, List.mem_of_getElem? (i := 77) (by decide +kernel), List.mem_of_getElem? (i := 439) (by decide +kernel), List.mem_of_getElem? (i := 440) (by decide +kernel)⟩
theorem lw_p9 : lw_okq (⟨"AdderChooser$Net", "laySelect", "(II)I"⟩, 15) := ⟨⟨by decide +kernel, by decide +kernel⟩, List.mem_of_getElem? (i := 77) (by decide +kernel), List.mem_of_getElem? (i := 443) (by decide +kernel), List.mem_of_getElem? (i := 444) (by decide +kernel)⟩
theorem lw_p10 : lw_okq (⟨"AdderChooser$Net", "not", "(I)I"⟩, 15) := ⟨⟨by decide +kernel, by decide +kernel⟩, List.mem_of_getElem? (i := 77) (by decide +kernel), List.mem_of_getElem? (i := 447) (by decide +kernel), List.mem_of_getElem? (i := 448) (by decide +kernel)⟩
theorem lw_p11 : lw_okq (⟨"AdderChooser$Net", "layAhead", "(II)I"⟩, 15) := ⟨⟨by decide +kernel, by decide +kernel⟩, List.mem_of_getElem? (i := 77) (by decide +kernel), List.mem_of_getElem? (i := 451) (by decide +kernel), List.mem_of_getElem? (i := 452) (by decide +kernel)⟩
theorem lw_p12 : lw_okq (⟨"AdderChooser", "hasOutcome", "(II)Z"⟩, 9) := ⟨⟨by decide +kernel, by decide +kernel⟩, List.mem_of_getElem? (i := 16) (by decide +kernel), List.mem_of_getElem? (i := 474) (by decide +kernel), List.mem_of_getElem? (i := 475) (by decide +kernel)⟩
theorem lw_p13 : lw_okq (⟨"AdderChooser$Timing", "inputsArrive", "()V"⟩, 6) := ⟨⟨by decide +kernel, by decide +kernel⟩, List.mem_of_getElem? (i := 140) (by decide +kernel), List.mem_of_getElem? (i := 482) (by decide +kernel), List.mem_of_getElem? (i := 483) (by decide +kernel)⟩
theorem lw_p14 : lw_okq (⟨"AdderChooser$Timing", "laterPart", "(LAdderChooser$Net;I)I"⟩, 6) := ⟨⟨by decide +kernel, by decide +kernel⟩, List.mem_of_getElem? (i := 140) (by decide +kernel), List.mem_of_getElem? (i := 486) (by decide +kernel), List.mem_of_getElem? (i := 487) (by decide +kernel)⟩
theorem lw_p15 : lw_okq (⟨"AdderChooser$Timing", "lastOutcome", "(LAdderChooser$Net;)I"⟩, 6) := ⟨⟨by decide +kernel, by decide +kernel⟩, List.mem_of_getElem? (i := 140) (by decide +kernel), List.mem_of_getElem? (i := 497) (by decide +kernel), List.mem_of_getElem? (i := 498) (by decide +kernel)⟩
def lw_privs_1 : List (MethodName × Nat) := [(⟨"AdderChooser", "timesHaveChanged", "()V"⟩, 9), (⟨"AdderChooser$Known", "placeOf", "(J)I"⟩, 2), (⟨"AdderChooser", "buildNetOf", "(I)V"⟩, 9), (⟨"AdderChooser$Net", "xor", "(II)I"⟩, 15), (⟨"AdderChooser$Net", "made", "(III)I"⟩, 15), (⟨"AdderChooser$Net", "and", "(II)I"⟩, 15), (⟨"AdderChooser$Net", "laySkip", "(II)I"⟩, 15), (⟨"AdderChooser$Net", "ripple", "(III[I)I"⟩, 15), (⟨"AdderChooser$Net", "or", "(II)I"⟩, 15), (⟨"AdderChooser$Net", "laySelect", "(II)I"⟩, 15), (⟨"AdderChooser$Net", "not", "(I)I"⟩, 15), (⟨"AdderChooser$Net", "layAhead", "(II)I"⟩, 15), (⟨"AdderChooser", "hasOutcome", "(II)Z"⟩, 9), (⟨"AdderChooser$Timing", "inputsArrive", "()V"⟩, 6), (⟨"AdderChooser$Timing", "laterPart", "(LAdderChooser$Net;I)I"⟩, 6), (⟨"AdderChooser$Timing", "lastOutcome", "(LAdderChooser$Net;)I"⟩, 6)]
theorem lw_r1 : ∀ q ∈ lw_privs_1, lw_okq q := List.forall_mem_cons.mpr ⟨lw_p0, List.forall_mem_cons.mpr ⟨lw_p1, List.forall_mem_cons.mpr ⟨lw_p2, List.forall_mem_cons.mpr ⟨lw_p3, List.forall_mem_cons.mpr ⟨lw_p4, List.forall_mem_cons.mpr ⟨lw_p5, List.forall_mem_cons.mpr ⟨lw_p6, List.forall_mem_cons.mpr ⟨lw_p7, List.forall_mem_cons.mpr ⟨lw_p8, List.forall_mem_cons.mpr ⟨lw_p9, List.forall_mem_cons.mpr ⟨lw_p10, List.forall_mem_cons.mpr ⟨lw_p11, List.forall_mem_cons.mpr ⟨lw_p12, List.forall_mem_cons.mpr ⟨lw_p13, List.forall_mem_cons.mpr ⟨lw_p14, List.forall_mem_cons.mpr ⟨lw_p15, fun _ h => absurd h List.not_mem_nil⟩⟩⟩⟩⟩⟩⟩⟩⟩⟩⟩⟩⟩⟩⟩⟩
theorem lw_p16 : lw_okq (⟨"AdderChooser$Timing", "depthBelow", "(LAdderChooser$Net;II)I"⟩, 6) := ⟨⟨by decide +kernel, by decide +kernel⟩, List.mem_of_getElem? (i := 140) (by decide +kernel), List.mem_of_getElem? (i := 510) (by decide +kernel), List.mem_of_getElem? (i := 511) (by decide +kernel)⟩
theorem lw_p17 : lw_okq (⟨"AdderChooser$Timing", "isHeldUpBy", "(LAdderChooser$Net;II)Z"⟩, 6) := ⟨⟨by decide +kernel, by decide +kernel⟩, List.mem_of_getElem? (i := 140) (by decide +kernel), List.mem_of_getElem? (i := 514) (by decide +kernel), List.mem_of_getElem? (i := 515) (by decide +kernel)⟩
theorem lw_p18 : lw_okq (⟨"AdderChooser$Timing", "valueOf", "(LAdderChooser$Net;I)I"⟩, 6) := ⟨⟨by decide +kernel, by decide +kernel⟩, List.mem_of_getElem? (i := 140) (by decide +kernel), List.mem_of_getElem? (i := 550) (by decide +kernel), List.mem_of_getElem? (i := 551) (by decide +kernel)⟩
theorem lw_p19 : lw_okq (⟨"AdderChooser$Timing", "rulingPart", "(LAdderChooser$Net;I)I"⟩, 6) := ⟨⟨by decide +kernel, by decide +kernel⟩, List.mem_of_getElem? (i := 140) (by decide +kernel), List.mem_of_getElem? (i := 557) (by decide +kernel), List.mem_of_getElem? (i := 558) (by decide +kernel)⟩
theorem lw_p20 : lw_okq (⟨"AdderChooser$Sweep", "amount", "()I"⟩, 4) := ⟨⟨by decide +kernel, by decide +kernel⟩, List.mem_of_getElem? (i := 167) (by decide +kernel), List.mem_of_getElem? (i := 583) (by decide +kernel), List.mem_of_getElem? (i := 584) (by decide +kernel)⟩
theorem lw_p21 : lw_okq (⟨"AdderChooser$Sweep", "numberA", "(I)I"⟩, 4) := ⟨⟨by decide +kernel, by decide +kernel⟩, List.mem_of_getElem? (i := 167) (by decide +kernel), List.mem_of_getElem? (i := 587) (by decide +kernel), List.mem_of_getElem? (i := 588) (by decide +kernel)⟩
theorem lw_p22 : lw_okq (⟨"AdderChooser$Sweep", "numberB", "(I)I"⟩, 4) := ⟨⟨by decide +kernel, by decide +kernel⟩, List.mem_of_getElem? (i := 167) (by decide +kernel), List.mem_of_getElem? (i := 591) (by decide +kernel), List.mem_of_getElem? (i := 592) (by decide +kernel)⟩
theorem lw_p23 : lw_okq (⟨"AdderChooser$Search", "weigh", "(LAdderChooser$Net;LAdderChooser$Timing;J)V"⟩, 8) := ⟨⟨by decide +kernel, by decide +kernel⟩, List.mem_of_getElem? (i := 187) (by decide +kernel), List.mem_of_getElem? (i := 653) (by decide +kernel), List.mem_of_getElem? (i := 654) (by decide +kernel)⟩
theorem lw_p24 : lw_okq (⟨"AdderChooser", "filledShelves", "()I"⟩, 9) := ⟨⟨by decide +kernel, by decide +kernel⟩, List.mem_of_getElem? (i := 16) (by decide +kernel), List.mem_of_getElem? (i := 741) (by decide +kernel), List.mem_of_getElem? (i := 742) (by decide +kernel)⟩
theorem lw_p25 : lw_okq (⟨"AdderChooserModel", "readsName", "()V"⟩, 47) := ⟨⟨by decide +kernel, by decide +kernel⟩, List.mem_of_getElem? (i := 761) (by decide +kernel), List.mem_of_getElem? (i := 922) (by decide +kernel), List.mem_of_getElem? (i := 923) (by decide +kernel)⟩
theorem lw_p26 : lw_okq (⟨"AdderChooserModel", "here", "()I"⟩, 47) := ⟨⟨by decide +kernel, by decide +kernel⟩, List.mem_of_getElem? (i := 761) (by decide +kernel), List.mem_of_getElem? (i := 926) (by decide +kernel), List.mem_of_getElem? (i := 927) (by decide +kernel)⟩
theorem lw_p27 : lw_okq (⟨"AdderChooserModel", "areBlocks", "()Z"⟩, 47) := ⟨⟨by decide +kernel, by decide +kernel⟩, List.mem_of_getElem? (i := 761) (by decide +kernel), List.mem_of_getElem? (i := 932) (by decide +kernel), List.mem_of_getElem? (i := 933) (by decide +kernel)⟩
theorem lw_p28 : lw_okq (⟨"AdderChooserModel", "becomes", "([II)I"⟩, 47) := ⟨⟨by decide +kernel, by decide +kernel⟩, List.mem_of_getElem? (i := 761) (by decide +kernel), List.mem_of_getElem? (i := 940) (by decide +kernel), List.mem_of_getElem? (i := 941) (by decide +kernel)⟩
theorem lw_p29 : lw_okq (⟨"AdderChooserModel", "planNamed", "()I"⟩, 47) := ⟨⟨by decide +kernel, by decide +kernel⟩, List.mem_of_getElem? (i := 761) (by decide +kernel), List.mem_of_getElem? (i := 944) (by decide +kernel), List.mem_of_getElem? (i := 945) (by decide +kernel)⟩
theorem lw_p30 : lw_okq (⟨"AdderChooserModel", "isNamed", "()Z"⟩, 47) := ⟨⟨by decide +kernel, by decide +kernel⟩, List.mem_of_getElem? (i := 761) (by decide +kernel), List.mem_of_getElem? (i := 955) (by decide +kernel), List.mem_of_getElem? (i := 956) (by decide +kernel)⟩
theorem lw_p31 : lw_okq (⟨"AdderChooserModel", "isPlan", "(I)Z"⟩, 47) := ⟨⟨by decide +kernel, by decide +kernel⟩, List.mem_of_getElem? (i := 761) (by decide +kernel), List.mem_of_getElem? (i := 963) (by decide +kernel), List.mem_of_getElem? (i := 964) (by decide +kernel)⟩
def lw_privs_2 : List (MethodName × Nat) := [(⟨"AdderChooser$Timing", "depthBelow", "(LAdderChooser$Net;II)I"⟩, 6), (⟨"AdderChooser$Timing", "isHeldUpBy", "(LAdderChooser$Net;II)Z"⟩, 6), (⟨"AdderChooser$Timing", "valueOf", "(LAdderChooser$Net;I)I"⟩, 6), (⟨"AdderChooser$Timing", "rulingPart", "(LAdderChooser$Net;I)I"⟩, 6), (⟨"AdderChooser$Sweep", "amount", "()I"⟩, 4), (⟨"AdderChooser$Sweep", "numberA", "(I)I"⟩, 4), (⟨"AdderChooser$Sweep", "numberB", "(I)I"⟩, 4), (⟨"AdderChooser$Search", "weigh", "(LAdderChooser$Net;LAdderChooser$Timing;J)V"⟩, 8), (⟨"AdderChooser", "filledShelves", "()I"⟩, 9), (⟨"AdderChooserModel", "readsName", "()V"⟩, 47), (⟨"AdderChooserModel", "here", "()I"⟩, 47), (⟨"AdderChooserModel", "areBlocks", "()Z"⟩, 47), (⟨"AdderChooserModel", "becomes", "([II)I"⟩, 47), (⟨"AdderChooserModel", "planNamed", "()I"⟩, 47), (⟨"AdderChooserModel", "isNamed", "()Z"⟩, 47), (⟨"AdderChooserModel", "isPlan", "(I)Z"⟩, 47)]
theorem lw_r2 : ∀ q ∈ lw_privs_2, lw_okq q := List.forall_mem_cons.mpr ⟨lw_p16, List.forall_mem_cons.mpr ⟨lw_p17, List.forall_mem_cons.mpr ⟨lw_p18, List.forall_mem_cons.mpr ⟨lw_p19, List.forall_mem_cons.mpr ⟨lw_p20, List.forall_mem_cons.mpr ⟨lw_p21, List.forall_mem_cons.mpr ⟨lw_p22, List.forall_mem_cons.mpr ⟨lw_p23, List.forall_mem_cons.mpr ⟨lw_p24, List.forall_mem_cons.mpr ⟨lw_p25, List.forall_mem_cons.mpr ⟨lw_p26, List.forall_mem_cons.mpr ⟨lw_p27, List.forall_mem_cons.mpr ⟨lw_p28, List.forall_mem_cons.mpr ⟨lw_p29, List.forall_mem_cons.mpr ⟨lw_p30, List.forall_mem_cons.mpr ⟨lw_p31, fun _ h => absurd h List.not_mem_nil⟩⟩⟩⟩⟩⟩⟩⟩⟩⟩⟩⟩⟩⟩⟩⟩
theorem lw_p32 : lw_okq (⟨"AdderChooserModel", "width", "(I)I"⟩, 47) := ⟨⟨by decide +kernel, by decide +kernel⟩, List.mem_of_getElem? (i := 761) (by decide +kernel), List.mem_of_getElem? (i := 971) (by decide +kernel), List.mem_of_getElem? (i := 972) (by decide +kernel)⟩
theorem lw_p33 : lw_okq (⟨"AdderChooserModel", "placeKnown", "([III)I"⟩, 47) := ⟨⟨by decide +kernel, by decide +kernel⟩, List.mem_of_getElem? (i := 761) (by decide +kernel), List.mem_of_getElem? (i := 986) (by decide +kernel), List.mem_of_getElem? (i := 987) (by decide +kernel)⟩
theorem lw_p34 : lw_okq (⟨"AdderChooserModel", "knows", "(I)V"⟩, 47) := ⟨⟨by decide +kernel, by decide +kernel⟩, List.mem_of_getElem? (i := 761) (by decide +kernel), List.mem_of_getElem? (i := 1014) (by decide +kernel), List.mem_of_getElem? (i := 1015) (by decide +kernel)⟩
theorem lw_p35 : lw_okq (⟨"AdderChooserModel", "leaves", "(I)V"⟩, 47) := ⟨⟨by decide +kernel, by decide +kernel⟩, List.mem_of_getElem? (i := 761) (by decide +kernel), List.mem_of_getElem? (i := 1018) (by decide +kernel), List.mem_of_getElem? (i := 1019) (by decide +kernel)⟩
theorem lw_p36 : lw_okq (⟨"AdderChooserModel", "laysPlan", "(I)V"⟩, 47) := ⟨⟨by decide +kernel, by decide +kernel⟩, List.mem_of_getElem? (i := 761) (by decide +kernel), List.mem_of_getElem? (i := 1022) (by decide +kernel), List.mem_of_getElem? (i := 1023) (by decide +kernel)⟩
theorem lw_p37 : lw_okq (⟨"AdderChooserModel", "lays", "([III)V"⟩, 47) := ⟨⟨by decide +kernel, by decide +kernel⟩, List.mem_of_getElem? (i := 761) (by decide +kernel), List.mem_of_getElem? (i := 1026) (by decide +kernel), List.mem_of_getElem? (i := 1027) (by decide +kernel)⟩
theorem lw_p38 : lw_okq (⟨"AdderChooserModel", "clears", "()V"⟩, 47) := ⟨⟨by decide +kernel, by decide +kernel⟩, List.mem_of_getElem? (i := 761) (by decide +kernel), List.mem_of_getElem? (i := 1030) (by decide +kernel), List.mem_of_getElem? (i := 1031) (by decide +kernel)⟩
theorem lw_p39 : lw_okq (⟨"AdderChooserModel", "builds", "([III)V"⟩, 47) := ⟨⟨by decide +kernel, by decide +kernel⟩, List.mem_of_getElem? (i := 761) (by decide +kernel), List.mem_of_getElem? (i := 1034) (by decide +kernel), List.mem_of_getElem? (i := 1035) (by decide +kernel)⟩
theorem lw_p40 : lw_okq (⟨"AdderChooserModel", "ripples", "(III[I)I"⟩, 47) := ⟨⟨by decide +kernel, by decide +kernel⟩, List.mem_of_getElem? (i := 761) (by decide +kernel), List.mem_of_getElem? (i := 1038) (by decide +kernel), List.mem_of_getElem? (i := 1039) (by decide +kernel)⟩
theorem lw_p41 : lw_okq (⟨"AdderChooserModel", "p", "(I)I"⟩, 47) := ⟨⟨by decide +kernel, by decide +kernel⟩, List.mem_of_getElem? (i := 761) (by decide +kernel), List.mem_of_getElem? (i := 1042) (by decide +kernel), List.mem_of_getElem? (i := 1043) (by decide +kernel)⟩
theorem lw_p42 : lw_okq (⟨"AdderChooserModel", "xor", "(II)I"⟩, 47) := ⟨⟨by decide +kernel, by decide +kernel⟩, List.mem_of_getElem? (i := 761) (by decide +kernel), List.mem_of_getElem? (i := 1046) (by decide +kernel), List.mem_of_getElem? (i := 1047) (by decide +kernel)⟩
theorem lw_p43 : lw_okq (⟨"AdderChooserModel", "not", "(I)I"⟩, 47) := ⟨⟨by decide +kernel, by decide +kernel⟩, List.mem_of_getElem? (i := 761) (by decide +kernel), List.mem_of_getElem? (i := 1050) (by decide +kernel), List.mem_of_getElem? (i := 1051) (by decide +kernel)⟩
theorem lw_p44 : lw_okq (⟨"AdderChooserModel", "gate", "(III)I"⟩, 47) := ⟨⟨by decide +kernel, by decide +kernel⟩, List.mem_of_getElem? (i := 761) (by decide +kernel), List.mem_of_getElem? (i := 1054) (by decide +kernel), List.mem_of_getElem? (i := 1055) (by decide +kernel)⟩
theorem lw_p45 : lw_okq (⟨"AdderChooserModel", "g", "(I)I"⟩, 47) := ⟨⟨by decide +kernel, by decide +kernel⟩, List.mem_of_getElem? (i := 761) (by decide +kernel), List.mem_of_getElem? (i := 1058) (by decide +kernel), List.mem_of_getElem? (i := 1059) (by decide +kernel)⟩
theorem lw_p46 : lw_okq (⟨"AdderChooserModel", "and", "(II)I"⟩, 47) := ⟨⟨by decide +kernel, by decide +kernel⟩, List.mem_of_getElem? (i := 761) (by decide +kernel), List.mem_of_getElem? (i := 1062) (by decide +kernel), List.mem_of_getElem? (i := 1063) (by decide +kernel)⟩
theorem lw_p47 : lw_okq (⟨"AdderChooserModel", "or", "(II)I"⟩, 47) := ⟨⟨by decide +kernel, by decide +kernel⟩, List.mem_of_getElem? (i := 761) (by decide +kernel), List.mem_of_getElem? (i := 1066) (by decide +kernel), List.mem_of_getElem? (i := 1067) (by decide +kernel)⟩
def lw_privs_3 : List (MethodName × Nat) := [(⟨"AdderChooserModel", "width", "(I)I"⟩, 47), (⟨"AdderChooserModel", "placeKnown", "([III)I"⟩, 47), (⟨"AdderChooserModel", "knows", "(I)V"⟩, 47), (⟨"AdderChooserModel", "leaves", "(I)V"⟩, 47), (⟨"AdderChooserModel", "laysPlan", "(I)V"⟩, 47), (⟨"AdderChooserModel", "lays", "([III)V"⟩, 47), (⟨"AdderChooserModel", "clears", "()V"⟩, 47), (⟨"AdderChooserModel", "builds", "([III)V"⟩, 47), (⟨"AdderChooserModel", "ripples", "(III[I)I"⟩, 47), (⟨"AdderChooserModel", "p", "(I)I"⟩, 47), (⟨"AdderChooserModel", "xor", "(II)I"⟩, 47), (⟨"AdderChooserModel", "not", "(I)I"⟩, 47), (⟨"AdderChooserModel", "gate", "(III)I"⟩, 47), (⟨"AdderChooserModel", "g", "(I)I"⟩, 47), (⟨"AdderChooserModel", "and", "(II)I"⟩, 47), (⟨"AdderChooserModel", "or", "(II)I"⟩, 47)]
theorem lw_r3 : ∀ q ∈ lw_privs_3, lw_okq q := List.forall_mem_cons.mpr ⟨lw_p32, List.forall_mem_cons.mpr ⟨lw_p33, List.forall_mem_cons.mpr ⟨lw_p34, List.forall_mem_cons.mpr ⟨lw_p35, List.forall_mem_cons.mpr ⟨lw_p36, List.forall_mem_cons.mpr ⟨lw_p37, List.forall_mem_cons.mpr ⟨lw_p38, List.forall_mem_cons.mpr ⟨lw_p39, List.forall_mem_cons.mpr ⟨lw_p40, List.forall_mem_cons.mpr ⟨lw_p41, List.forall_mem_cons.mpr ⟨lw_p42, List.forall_mem_cons.mpr ⟨lw_p43, List.forall_mem_cons.mpr ⟨lw_p44, List.forall_mem_cons.mpr ⟨lw_p45, List.forall_mem_cons.mpr ⟨lw_p46, List.forall_mem_cons.mpr ⟨lw_p47, fun _ h => absurd h List.not_mem_nil⟩⟩⟩⟩⟩⟩⟩⟩⟩⟩⟩⟩⟩⟩⟩⟩
theorem lw_p48 : lw_okq (⟨"AdderChooserModel", "skips", "(III)I"⟩, 47) := ⟨⟨by decide +kernel, by decide +kernel⟩, List.mem_of_getElem? (i := 761) (by decide +kernel), List.mem_of_getElem? (i := 1070) (by decide +kernel), List.mem_of_getElem? (i := 1071) (by decide +kernel)⟩
theorem lw_p49 : lw_okq (⟨"AdderChooserModel", "selects", "(III)I"⟩, 47) := ⟨⟨by decide +kernel, by decide +kernel⟩, List.mem_of_getElem? (i := 761) (by decide +kernel), List.mem_of_getElem? (i := 1074) (by decide +kernel), List.mem_of_getElem? (i := 1075) (by decide +kernel)⟩
theorem lw_p50 : lw_okq (⟨"AdderChooserModel", "looksAhead", "(III)I"⟩, 47) := ⟨⟨by decide +kernel, by decide +kernel⟩, List.mem_of_getElem? (i := 761) (by decide +kernel), List.mem_of_getElem? (i := 1078) (by decide +kernel), List.mem_of_getElem? (i := 1079) (by decide +kernel)⟩
theorem lw_p51 : lw_okq (⟨"AdderChooserModel", "spanG", "(II)I"⟩, 47) := ⟨⟨by decide +kernel, by decide +kernel⟩, List.mem_of_getElem? (i := 761) (by decide +kernel), List.mem_of_getElem? (i := 1082) (by decide +kernel), List.mem_of_getElem? (i := 1083) (by decide +kernel)⟩
theorem lw_p52 : lw_okq (⟨"AdderChooserModel", "spanP", "(II)I"⟩, 47) := ⟨⟨by decide +kernel, by decide +kernel⟩, List.mem_of_getElem? (i := 761) (by decide +kernel), List.mem_of_getElem? (i := 1086) (by decide +kernel), List.mem_of_getElem? (i := 1087) (by decide +kernel)⟩
theorem lw_p53 : lw_okq (⟨"AdderChooserModel", "marks", "(I)V"⟩, 47) := ⟨⟨by decide +kernel, by decide +kernel⟩, List.mem_of_getElem? (i := 761) (by decide +kernel), List.mem_of_getElem? (i := 1090) (by decide +kernel), List.mem_of_getElem? (i := 1091) (by decide +kernel)⟩
theorem lw_p54 : lw_okq (⟨"AdderChooserModel", "tellsTimes", "()V"⟩, 47) := ⟨⟨by decide +kernel, by decide +kernel⟩, List.mem_of_getElem? (i := 761) (by decide +kernel), List.mem_of_getElem? (i := 1094) (by decide +kernel), List.mem_of_getElem? (i := 1095) (by decide +kernel)⟩
theorem lw_p55 : lw_okq (⟨"AdderChooserModel", "manyUsed", "(II)I"⟩, 47) := ⟨⟨by decide +kernel, by decide +kernel⟩, List.mem_of_getElem? (i := 761) (by decide +kernel), List.mem_of_getElem? (i := 1098) (by decide +kernel), List.mem_of_getElem? (i := 1099) (by decide +kernel)⟩
theorem lw_p56 : lw_okq (⟨"AdderChooserModel", "lastOut", "()I"⟩, 47) := ⟨⟨by decide +kernel, by decide +kernel⟩, List.mem_of_getElem? (i := 761) (by decide +kernel), List.mem_of_getElem? (i := 1106) (by decide +kernel), List.mem_of_getElem? (i := 1107) (by decide +kernel)⟩
theorem lw_p57 : lw_okq (⟨"AdderChooserModel", "areNumbers", "(IIII)Z"⟩, 47) := ⟨⟨by decide +kernel, by decide +kernel⟩, List.mem_of_getElem? (i := 761) (by decide +kernel), List.mem_of_getElem? (i := 1129) (by decide +kernel), List.mem_of_getElem? (i := 1130) (by decide +kernel)⟩
theorem lw_p58 : lw_okq (⟨"AdderChooserModel", "evaluates", "(III)V"⟩, 47) := ⟨⟨by decide +kernel, by decide +kernel⟩, List.mem_of_getElem? (i := 761) (by decide +kernel), List.mem_of_getElem? (i := 1133) (by decide +kernel), List.mem_of_getElem? (i := 1134) (by decide +kernel)⟩
theorem lw_p59 : lw_okq (⟨"AdderChooserModel", "settlesAll", "()V"⟩, 47) := ⟨⟨by decide +kernel, by decide +kernel⟩, List.mem_of_getElem? (i := 761) (by decide +kernel), List.mem_of_getElem? (i := 1141) (by decide +kernel), List.mem_of_getElem? (i := 1142) (by decide +kernel)⟩
theorem lw_p60 : lw_okq (⟨"AdderChooserModel", "goesThrough", "(II)I"⟩, 47) := ⟨⟨by decide +kernel, by decide +kernel⟩, List.mem_of_getElem? (i := 761) (by decide +kernel), List.mem_of_getElem? (i := 1149) (by decide +kernel), List.mem_of_getElem? (i := 1150) (by decide +kernel)⟩
theorem lw_p61 : lw_okq (⟨"AdderChooserModel", "chooses", "(III)V"⟩, 47) := ⟨⟨by decide +kernel, by decide +kernel⟩, List.mem_of_getElem? (i := 761) (by decide +kernel), List.mem_of_getElem? (i := 1175) (by decide +kernel), List.mem_of_getElem? (i := 1176) (by decide +kernel)⟩
theorem lw_p62 : lw_okq (⟨"AdderChooserModel", "goesOn", "(IIII)V"⟩, 47) := ⟨⟨by decide +kernel, by decide +kernel⟩, List.mem_of_getElem? (i := 761) (by decide +kernel), List.mem_of_getElem? (i := 1179) (by decide +kernel), List.mem_of_getElem? (i := 1180) (by decide +kernel)⟩
theorem lw_p63 : lw_okq (⟨"AdderChooserModel", "judges", "(II)V"⟩, 47) := ⟨⟨by decide +kernel, by decide +kernel⟩, List.mem_of_getElem? (i := 761) (by decide +kernel), List.mem_of_getElem? (i := 1183) (by decide +kernel), List.mem_of_getElem? (i := 1184) (by decide +kernel)⟩
def lw_privs_4 : List (MethodName × Nat) := [(⟨"AdderChooserModel", "skips", "(III)I"⟩, 47), (⟨"AdderChooserModel", "selects", "(III)I"⟩, 47), (⟨"AdderChooserModel", "looksAhead", "(III)I"⟩, 47), (⟨"AdderChooserModel", "spanG", "(II)I"⟩, 47), (⟨"AdderChooserModel", "spanP", "(II)I"⟩, 47), (⟨"AdderChooserModel", "marks", "(I)V"⟩, 47), (⟨"AdderChooserModel", "tellsTimes", "()V"⟩, 47), (⟨"AdderChooserModel", "manyUsed", "(II)I"⟩, 47), (⟨"AdderChooserModel", "lastOut", "()I"⟩, 47), (⟨"AdderChooserModel", "areNumbers", "(IIII)Z"⟩, 47), (⟨"AdderChooserModel", "evaluates", "(III)V"⟩, 47), (⟨"AdderChooserModel", "settlesAll", "()V"⟩, 47), (⟨"AdderChooserModel", "goesThrough", "(II)I"⟩, 47), (⟨"AdderChooserModel", "chooses", "(III)V"⟩, 47), (⟨"AdderChooserModel", "goesOn", "(IIII)V"⟩, 47), (⟨"AdderChooserModel", "judges", "(II)V"⟩, 47)]
theorem lw_r4 : ∀ q ∈ lw_privs_4, lw_okq q := List.forall_mem_cons.mpr ⟨lw_p48, List.forall_mem_cons.mpr ⟨lw_p49, List.forall_mem_cons.mpr ⟨lw_p50, List.forall_mem_cons.mpr ⟨lw_p51, List.forall_mem_cons.mpr ⟨lw_p52, List.forall_mem_cons.mpr ⟨lw_p53, List.forall_mem_cons.mpr ⟨lw_p54, List.forall_mem_cons.mpr ⟨lw_p55, List.forall_mem_cons.mpr ⟨lw_p56, List.forall_mem_cons.mpr ⟨lw_p57, List.forall_mem_cons.mpr ⟨lw_p58, List.forall_mem_cons.mpr ⟨lw_p59, List.forall_mem_cons.mpr ⟨lw_p60, List.forall_mem_cons.mpr ⟨lw_p61, List.forall_mem_cons.mpr ⟨lw_p62, List.forall_mem_cons.mpr ⟨lw_p63, fun _ h => absurd h List.not_mem_nil⟩⟩⟩⟩⟩⟩⟩⟩⟩⟩⟩⟩⟩⟩⟩⟩
theorem lw_p64 : lw_okq (⟨"AdderChooserModel", "meets", "(II)V"⟩, 47) := ⟨⟨by decide +kernel, by decide +kernel⟩, List.mem_of_getElem? (i := 761) (by decide +kernel), List.mem_of_getElem? (i := 1196) (by decide +kernel), List.mem_of_getElem? (i := 1197) (by decide +kernel)⟩
theorem lw_p65 : lw_okq (⟨"AdderChooserModel", "unlike", "()I"⟩, 47) := ⟨⟨by decide +kernel, by decide +kernel⟩, List.mem_of_getElem? (i := 761) (by decide +kernel), List.mem_of_getElem? (i := 1240) (by decide +kernel), List.mem_of_getElem? (i := 1241) (by decide +kernel)⟩
def lw_privs_5 : List (MethodName × Nat) := [(⟨"AdderChooserModel", "meets", "(II)V"⟩, 47), (⟨"AdderChooserModel", "unlike", "()I"⟩, 47)]
theorem lw_r5 : ∀ q ∈ lw_privs_5, lw_okq q := List.forall_mem_cons.mpr ⟨lw_p64, List.forall_mem_cons.mpr ⟨lw_p65, fun _ h => absurd h List.not_mem_nil⟩⟩
def lw_privs : List (MethodName × Nat) := lw_privs_1 ++ (lw_privs_2 ++ (lw_privs_3 ++ (lw_privs_4 ++ (lw_privs_5))))
def lw_tbl : List Cond := k2_sels lw_privs ++ tables_1
theorem lw_privs_ok : ∀ q ∈ lw_privs, lw_okq q := by
  show ∀ q ∈ lw_privs_1 ++ (lw_privs_2 ++ (lw_privs_3 ++ (lw_privs_4 ++ (lw_privs_5)))), lw_okq q
  exact List.forall_mem_append.mpr ⟨lw_r1, List.forall_mem_append.mpr ⟨lw_r2, List.forall_mem_append.mpr ⟨lw_r3, List.forall_mem_append.mpr ⟨lw_r4, lw_r5⟩⟩⟩⟩
def RX0 : String := "AdderChooser$Blocks"
def TX0 : u_T := fun k => match k with
  | _ => ("", "", "", false)
def tyX0 : Nat → FieldType := fun k => match k with
  | _ => .int
abbrev wsX00 : List Cond := u_ws RX0 TX0 0
theorem nmX0 : ∀ a, a < 0 → ∀ b, b < 0 → a ≠ b → (TX0 a).2.1 ≠ (TX0 b).2.1 := by decide +kernel
theorem tyX0_ok : ∀ k, k < 0 → parseFieldDescriptor (TX0 k).2.2.1 = some (tyX0 k) := by decide +kernel
abbrev cX0_amount : ByteArray := prog_2_method_2_code
def yX0_amount : MethodName := ⟨RX0, "amount", "(J)I"⟩
abbrev cX0_width : ByteArray := prog_2_method_3_code
def yX0_width : MethodName := ⟨RX0, "width", "(J)I"⟩
abbrev cX0_codeAt : ByteArray := prog_2_method_4_code
def yX0_codeAt : MethodName := ⟨RX0, "codeAt", "(JI)I"⟩
abbrev cX0_kindAt : ByteArray := prog_2_method_5_code
def yX0_kindAt : MethodName := ⟨RX0, "kindAt", "(JI)I"⟩
abbrev cX0_widthAt : ByteArray := prog_2_method_6_code
def yX0_widthAt : MethodName := ⟨RX0, "widthAt", "(JI)I"⟩
abbrev cX0_figureOf : ByteArray := prog_2_method_7_code
def yX0_figureOf : MethodName := ⟨RX0, "figureOf", "(JI)I"⟩
abbrev cX0_with : ByteArray := prog_2_method_8_code
def yX0_with : MethodName := ⟨RX0, "with", "(JIII)J"⟩
def RX1 : String := "AdderChooser$Known"
def TX1 : u_T := fun k => match k with
  | 0 => ("AdderChooser$Known", "asked", "[J", true)
  | _ => ("AdderChooser$Known", "size", "I", false)
def tyX1 : Nat → FieldType := fun k => match k with
  | 0 => .array .long
  | _ => .int
abbrev wsX10 : List Cond := u_ws RX1 TX1 2
theorem nmX1 : ∀ a, a < 2 → ∀ b, b < 2 → a ≠ b → (TX1 a).2.1 ≠ (TX1 b).2.1 := by decide +kernel
theorem tyX1_ok : ∀ k, k < 2 → parseFieldDescriptor (TX1 k).2.2.1 = some (tyX1 k) := by decide +kernel
abbrev cX1_init : ByteArray := prog_3_method_1_code
def yX1_init : MethodName := ⟨RX1, "<init>", "()V"⟩
abbrev cX1_holds : ByteArray := prog_3_method_2_code
def yX1_holds : MethodName := ⟨RX1, "holds", "(J)Z"⟩
abbrev cX1_ask : ByteArray := prog_3_method_3_code
def yX1_ask : MethodName := ⟨RX1, "ask", "(J)V"⟩
abbrev cX1_placeOf : ByteArray := prog_3_method_4_code
def yX1_placeOf : MethodName := ⟨RX1, "placeOf", "(J)I"⟩
def RX2 : String := "AdderChooser$Net"
def TX2 : u_T := fun k => match k with
  | 0 => ("AdderChooser$Net", "sort", "[I", true)
  | 1 => ("AdderChooser$Net", "lower", "[I", true)
  | 2 => ("AdderChooser$Net", "upper", "[I", true)
  | 3 => ("AdderChooser$Net", "used", "[Z", true)
  | 4 => ("AdderChooser$Net", "sums", "[I", true)
  | 5 => ("AdderChooser$Net", "size", "I", false)
  | 6 => ("AdderChooser$Net", "width", "I", false)
  | 7 => ("AdderChooser$Net", "carry", "I", false)
  | 8 => ("AdderChooser$Net", "newest", "[I", true)
  | 9 => ("AdderChooser$Net", "before", "[I", true)
  | 10 => ("AdderChooser$Net", "usedByFirst", "[Z", true)
  | 11 => ("AdderChooser$Net", "onlyOne", "[I", true)
  | 12 => ("AdderChooser$Net", "bothOf", "[I", true)
  | 13 => ("AdderChooser$Net", "sumsByZero", "[I", true)
  | _ => ("AdderChooser$Net", "sumsByOne", "[I", true)
def tyX2 : Nat → FieldType := fun k => match k with
  | 0 => .array .int
  | 1 => .array .int
  | 2 => .array .int
  | 3 => .array .boolean
  | 4 => .array .int
  | 5 => .int
  | 6 => .int
  | 7 => .int
  | 8 => .array .int
  | 9 => .array .int
  | 10 => .array .boolean
  | 11 => .array .int
  | 12 => .array .int
  | 13 => .array .int
  | _ => .array .int
abbrev wsX20 : List Cond := u_ws RX2 TX2 15
theorem nmX2 : ∀ a, a < 15 → ∀ b, b < 15 → a ≠ b → (TX2 a).2.1 ≠ (TX2 b).2.1 := by decide +kernel
theorem tyX2_ok : ∀ k, k < 15 → parseFieldDescriptor (TX2 k).2.2.1 = some (tyX2 k) := by decide +kernel
abbrev cX2_init : ByteArray := prog_4_method_1_code
def yX2_init : MethodName := ⟨RX2, "<init>", "()V"⟩
abbrev cX2_clear : ByteArray := prog_4_method_2_code
def yX2_clear : MethodName := ⟨RX2, "clear", "()V"⟩
abbrev cX2_cutBack : ByteArray := prog_4_method_3_code
def yX2_cutBack : MethodName := ⟨RX2, "cutBack", "(III)V"⟩
abbrev cX2_build : ByteArray := prog_4_method_4_code
def yX2_build : MethodName := ⟨RX2, "build", "(J)V"⟩
abbrev cX2_lay : ByteArray := prog_4_method_5_code
def yX2_lay : MethodName := ⟨RX2, "lay", "(II)V"⟩
abbrev cX2_outcomeGate : ByteArray := prog_4_method_6_code
def yX2_outcomeGate : MethodName := ⟨RX2, "outcomeGate", "(I)I"⟩
abbrev cX2_markUsed : ByteArray := prog_4_method_7_code
def yX2_markUsed : MethodName := ⟨RX2, "markUsed", "()V"⟩
abbrev cX2_usedGates : ByteArray := prog_4_method_8_code
def yX2_usedGates : MethodName := ⟨RX2, "usedGates", "(I)I"⟩
abbrev cX2_gatesOfBoth : ByteArray := prog_4_method_9_code
def yX2_gatesOfBoth : MethodName := ⟨RX2, "gatesOfBoth", "(JJ)I"⟩
abbrev cX2_ripple : ByteArray := prog_4_method_10_code
def yX2_ripple : MethodName := ⟨RX2, "ripple", "(III[I)I"⟩
abbrev cX2_laySkip : ByteArray := prog_4_method_11_code
def yX2_laySkip : MethodName := ⟨RX2, "laySkip", "(II)I"⟩
abbrev cX2_laySelect : ByteArray := prog_4_method_12_code
def yX2_laySelect : MethodName := ⟨RX2, "laySelect", "(II)I"⟩
abbrev cX2_layAhead : ByteArray := prog_4_method_13_code
def yX2_layAhead : MethodName := ⟨RX2, "layAhead", "(II)I"⟩
abbrev cX2_span : ByteArray := prog_4_method_14_code
def yX2_span : MethodName := ⟨RX2, "span", "(LAdderChooser$Net;IIZ)I"⟩
abbrev cX2_not : ByteArray := prog_4_method_15_code
def yX2_not : MethodName := ⟨RX2, "not", "(I)I"⟩
abbrev cX2_and : ByteArray := prog_4_method_16_code
def yX2_and : MethodName := ⟨RX2, "and", "(II)I"⟩
abbrev cX2_or : ByteArray := prog_4_method_17_code
def yX2_or : MethodName := ⟨RX2, "or", "(II)I"⟩
abbrev cX2_xor : ByteArray := prog_4_method_18_code
def yX2_xor : MethodName := ⟨RX2, "xor", "(II)I"⟩
abbrev cX2_made : ByteArray := prog_4_method_19_code
def yX2_made : MethodName := ⟨RX2, "made", "(III)I"⟩
def RX3 : String := "AdderChooser$Plans"
def TX3 : u_T := fun k => match k with
  | 0 => ("AdderChooser$Plans", "names", "[I", true)
  | 1 => ("AdderChooser$Plans", "blocks", "[J", true)
  | _ => ("AdderChooser$Plans", "amount", "I", false)
def tyX3 : Nat → FieldType := fun k => match k with
  | 0 => .array .int
  | 1 => .array .long
  | _ => .int
abbrev wsX30 : List Cond := u_ws RX3 TX3 3
theorem nmX3 : ∀ a, a < 3 → ∀ b, b < 3 → a ≠ b → (TX3 a).2.1 ≠ (TX3 b).2.1 := by decide +kernel
theorem tyX3_ok : ∀ k, k < 3 → parseFieldDescriptor (TX3 k).2.2.1 = some (tyX3 k) := by decide +kernel
abbrev cX3_init : ByteArray := prog_5_method_1_code
def yX3_init : MethodName := ⟨RX3, "<init>", "()V"⟩
abbrev cX3_has : ByteArray := prog_5_method_2_code
def yX3_has : MethodName := ⟨RX3, "has", "(I)Z"⟩
abbrev cX3_numberOf : ByteArray := prog_5_method_3_code
def yX3_numberOf : MethodName := ⟨RX3, "numberOf", "(I)I"⟩
abbrev cX3_tell : ByteArray := prog_5_method_4_code
def yX3_tell : MethodName := ⟨RX3, "tell", "(IJ)I"⟩
abbrev cX3_remove : ByteArray := prog_5_method_5_code
def yX3_remove : MethodName := ⟨RX3, "remove", "(I)V"⟩
abbrev cX3_nameLength : ByteArray := prog_5_method_6_code
def yX3_nameLength : MethodName := ⟨RX3, "nameLength", "(I)I"⟩
abbrev cX3_amountWith : ByteArray := prog_5_method_7_code
def yX3_amountWith : MethodName := ⟨RX3, "amountWith", "(J)I"⟩
abbrev cX3_amountOfBlocks : ByteArray := prog_5_method_8_code
def yX3_amountOfBlocks : MethodName := ⟨RX3, "amountOfBlocks", "()I"⟩
abbrev cX3_unlikeBlocks : ByteArray := prog_5_method_9_code
def yX3_unlikeBlocks : MethodName := ⟨RX3, "unlikeBlocks", "()I"⟩
def RX4 : String := "AdderChooser$Search"
def TX4 : u_T := fun k => match k with
  | 0 => ("AdderChooser$Search", "done", "Z", false)
  | 1 => ("AdderChooser$Search", "inTime", "I", false)
  | 2 => ("AdderChooser$Search", "fewest", "I", false)
  | 3 => ("AdderChooser$Search", "when", "I", false)
  | 4 => ("AdderChooser$Search", "best", "J", false)
  | 5 => ("AdderChooser$Search", "width", "I", false)
  | 6 => ("AdderChooser$Search", "kinds", "I", false)
  | _ => ("AdderChooser$Search", "limit", "I", false)
def tyX4 : Nat → FieldType := fun k => match k with
  | 0 => .boolean
  | 1 => .int
  | 2 => .int
  | 3 => .int
  | 4 => .long
  | 5 => .int
  | 6 => .int
  | _ => .int
abbrev wsX40 : List Cond := u_ws RX4 TX4 8
theorem nmX4 : ∀ a, a < 8 → ∀ b, b < 8 → a ≠ b → (TX4 a).2.1 ≠ (TX4 b).2.1 := by decide +kernel
theorem tyX4_ok : ∀ k, k < 8 → parseFieldDescriptor (TX4 k).2.2.1 = some (tyX4 k) := by decide +kernel
abbrev cX4_init : ByteArray := prog_6_method_1_code
def yX4_init : MethodName := ⟨RX4, "<init>", "()V"⟩
abbrev cX4_run : ByteArray := prog_6_method_2_code
def yX4_run : MethodName := ⟨RX4, "run", "(LAdderChooser$Net;LAdderChooser$Timing;III)V"⟩
abbrev cX4_grow : ByteArray := prog_6_method_3_code
def yX4_grow : MethodName := ⟨RX4, "grow", "(LAdderChooser$Search;LAdderChooser$Net;LAdderChooser$Timing;JI)V"⟩
abbrev cX4_weigh : ByteArray := prog_6_method_4_code
def yX4_weigh : MethodName := ⟨RX4, "weigh", "(LAdderChooser$Net;LAdderChooser$Timing;J)V"⟩
def RX5 : String := "AdderChooser$Shelf"
def TX5 : u_T := fun k => match k with
  | 0 => ("AdderChooser$Shelf", "items", "[J", true)
  | 1 => ("AdderChooser$Shelf", "sort", "I", false)
  | 2 => ("AdderChooser$Shelf", "size", "I", false)
  | _ => ("AdderChooser$Shelf", "blocks", "J", false)
def tyX5 : Nat → FieldType := fun k => match k with
  | 0 => .array .long
  | 1 => .int
  | 2 => .int
  | _ => .long
abbrev wsX50 : List Cond := u_ws RX5 TX5 4
theorem nmX5 : ∀ a, a < 4 → ∀ b, b < 4 → a ≠ b → (TX5 a).2.1 ≠ (TX5 b).2.1 := by decide +kernel
theorem tyX5_ok : ∀ k, k < 4 → parseFieldDescriptor (TX5 k).2.2.1 = some (tyX5 k) := by decide +kernel
abbrev cX5_init : ByteArray := prog_7_method_1_code
def yX5_init : MethodName := ⟨RX5, "<init>", "()V"⟩
abbrev cX5_holdBlocks : ByteArray := prog_7_method_2_code
def yX5_holdBlocks : MethodName := ⟨RX5, "holdBlocks", "(J)V"⟩
abbrev cX5_holdRow : ByteArray := prog_7_method_3_code
def yX5_holdRow : MethodName := ⟨RX5, "holdRow", "(II)V"⟩
abbrev cX5_isRow : ByteArray := prog_7_method_4_code
def yX5_isRow : MethodName := ⟨RX5, "isRow", "()Z"⟩
abbrev cX5_leadingArrivals : ByteArray := prog_7_method_5_code
def yX5_leadingArrivals : MethodName := ⟨RX5, "leadingArrivals", "()I"⟩
def RX6 : String := "AdderChooser$Sweep"
def TX6 : u_T := fun k => match k with
  | 0 => ("AdderChooser$Sweep", "done", "Z", false)
  | 1 => ("AdderChooser$Sweep", "settled", "[I", true)
  | 2 => ("AdderChooser$Sweep", "swept", "J", false)
  | _ => ("AdderChooser$Sweep", "width", "I", false)
def tyX6 : Nat → FieldType := fun k => match k with
  | 0 => .boolean
  | 1 => .array .int
  | 2 => .long
  | _ => .int
abbrev wsX60 : List Cond := u_ws RX6 TX6 4
theorem nmX6 : ∀ a, a < 4 → ∀ b, b < 4 → a ≠ b → (TX6 a).2.1 ≠ (TX6 b).2.1 := by decide +kernel
theorem tyX6_ok : ∀ k, k < 4 → parseFieldDescriptor (TX6 k).2.2.1 = some (tyX6 k) := by decide +kernel
abbrev cX6_init : ByteArray := prog_8_method_1_code
def yX6_init : MethodName := ⟨RX6, "<init>", "()V"⟩
abbrev cX6_over : ByteArray := prog_8_method_2_code
def yX6_over : MethodName := ⟨RX6, "over", "(LAdderChooser$Net;LAdderChooser$Timing;J)V"⟩
abbrev cX6_worst : ByteArray := prog_8_method_3_code
def yX6_worst : MethodName := ⟨RX6, "worst", "(I)I"⟩
abbrev cX6_settledBy : ByteArray := prog_8_method_4_code
def yX6_settledBy : MethodName := ⟨RX6, "settledBy", "(I)I"⟩
abbrev cX6_amount : ByteArray := prog_8_method_5_code
def yX6_amount : MethodName := ⟨RX6, "amount", "()I"⟩
abbrev cX6_numberA : ByteArray := prog_8_method_6_code
def yX6_numberA : MethodName := ⟨RX6, "numberA", "(I)I"⟩
abbrev cX6_numberB : ByteArray := prog_8_method_7_code
def yX6_numberB : MethodName := ⟨RX6, "numberB", "(I)I"⟩
def RX7 : String := "AdderChooser$Tape"
def TX7 : u_T := fun k => match k with
  | 0 => ("AdderChooser$Tape", "bytes", "[I", true)
  | 1 => ("AdderChooser$Tape", "length", "I", false)
  | _ => ("AdderChooser$Tape", "told", "J", false)
def tyX7 : Nat → FieldType := fun k => match k with
  | 0 => .array .int
  | 1 => .int
  | _ => .long
abbrev wsX70 : List Cond := u_ws RX7 TX7 3
theorem nmX7 : ∀ a, a < 3 → ∀ b, b < 3 → a ≠ b → (TX7 a).2.1 ≠ (TX7 b).2.1 := by decide +kernel
theorem tyX7_ok : ∀ k, k < 3 → parseFieldDescriptor (TX7 k).2.2.1 = some (tyX7 k) := by decide +kernel
abbrev cX7_init : ByteArray := prog_9_method_1_code
def yX7_init : MethodName := ⟨RX7, "<init>", "()V"⟩
abbrev cX7_append : ByteArray := prog_9_method_2_code
def yX7_append : MethodName := ⟨RX7, "append", "(I)Z"⟩
abbrev cX7_letters : ByteArray := prog_9_method_3_code
def yX7_letters : MethodName := ⟨RX7, "letters", "()I"⟩
abbrev cX7_nameCode : ByteArray := prog_9_method_4_code
def yX7_nameCode : MethodName := ⟨RX7, "nameCode", "(I)I"⟩
abbrev cX7_takeName : ByteArray := prog_9_method_5_code
def yX7_takeName : MethodName := ⟨RX7, "takeName", "()I"⟩
abbrev cX7_parse : ByteArray := prog_9_method_6_code
def yX7_parse : MethodName := ⟨RX7, "parse", "()I"⟩
abbrev cX7_isLetter : ByteArray := prog_9_method_7_code
def yX7_isLetter : MethodName := ⟨RX7, "isLetter", "(I)Z"⟩
abbrev cX7_kindOf : ByteArray := prog_9_method_8_code
def yX7_kindOf : MethodName := ⟨RX7, "kindOf", "(I)I"⟩
def RX8 : String := "AdderChooser$Timing"
def TX8 : u_T := fun k => match k with
  | 0 => ("AdderChooser$Timing", "delays", "[I", true)
  | 1 => ("AdderChooser$Timing", "arrivals", "[I", true)
  | 2 => ("AdderChooser$Timing", "when", "[I", true)
  | 3 => ("AdderChooser$Timing", "value", "[I", true)
  | 4 => ("AdderChooser$Timing", "hanging", "[Z", true)
  | _ => ("AdderChooser$Timing", "depth", "[I", true)
def tyX8 : Nat → FieldType := fun k => match k with
  | 0 => .array .int
  | 1 => .array .int
  | 2 => .array .int
  | 3 => .array .int
  | 4 => .array .boolean
  | _ => .array .int
abbrev wsX80 : List Cond := u_ws RX8 TX8 6
theorem nmX8 : ∀ a, a < 6 → ∀ b, b < 6 → a ≠ b → (TX8 a).2.1 ≠ (TX8 b).2.1 := by decide +kernel
theorem tyX8_ok : ∀ k, k < 6 → parseFieldDescriptor (TX8 k).2.2.1 = some (tyX8 k) := by decide +kernel
abbrev cX8_init : ByteArray := prog_10_method_1_code
def yX8_init : MethodName := ⟨RX8, "<init>", "()V"⟩
abbrev cX8_come : ByteArray := prog_10_method_2_code
def yX8_come : MethodName := ⟨RX8, "come", "(LAdderChooser$Net;)V"⟩
abbrev cX8_settle : ByteArray := prog_10_method_3_code
def yX8_settle : MethodName := ⟨RX8, "settle", "(LAdderChooser$Net;III)V"⟩
abbrev cX8_ofOutcome : ByteArray := prog_10_method_4_code
def yX8_ofOutcome : MethodName := ⟨RX8, "ofOutcome", "(LAdderChooser$Net;I)I"⟩
abbrev cX8_outcomeBits : ByteArray := prog_10_method_5_code
def yX8_outcomeBits : MethodName := ⟨RX8, "outcomeBits", "(LAdderChooser$Net;)I"⟩
abbrev cX8_unlikeTimes : ByteArray := prog_10_method_6_code
def yX8_unlikeTimes : MethodName := ⟨RX8, "unlikeTimes", "(LAdderChooser$Net;)I"⟩
abbrev cX8_markHanging : ByteArray := prog_10_method_7_code
def yX8_markHanging : MethodName := ⟨RX8, "markHanging", "(LAdderChooser$Net;)V"⟩
abbrev cX8_hangingInputs : ByteArray := prog_10_method_8_code
def yX8_hangingInputs : MethodName := ⟨RX8, "hangingInputs", "()I"⟩
abbrev cX8_deepest : ByteArray := prog_10_method_9_code
def yX8_deepest : MethodName := ⟨RX8, "deepest", "(LAdderChooser$Net;)I"⟩
abbrev cX8_inputsArrive : ByteArray := prog_10_method_10_code
def yX8_inputsArrive : MethodName := ⟨RX8, "inputsArrive", "()V"⟩
abbrev cX8_lastOutcome : ByteArray := prog_10_method_11_code
def yX8_lastOutcome : MethodName := ⟨RX8, "lastOutcome", "(LAdderChooser$Net;)I"⟩
abbrev cX8_laterPart : ByteArray := prog_10_method_12_code
def yX8_laterPart : MethodName := ⟨RX8, "laterPart", "(LAdderChooser$Net;I)I"⟩
abbrev cX8_isRuled : ByteArray := prog_10_method_13_code
def yX8_isRuled : MethodName := ⟨RX8, "isRuled", "(II)Z"⟩
abbrev cX8_rulingPart : ByteArray := prog_10_method_14_code
def yX8_rulingPart : MethodName := ⟨RX8, "rulingPart", "(LAdderChooser$Net;I)I"⟩
abbrev cX8_valueOf : ByteArray := prog_10_method_15_code
def yX8_valueOf : MethodName := ⟨RX8, "valueOf", "(LAdderChooser$Net;I)I"⟩
abbrev cX8_isHeldUpBy : ByteArray := prog_10_method_16_code
def yX8_isHeldUpBy : MethodName := ⟨RX8, "isHeldUpBy", "(LAdderChooser$Net;II)Z"⟩
abbrev cX8_depthBelow : ByteArray := prog_10_method_17_code
def yX8_depthBelow : MethodName := ⟨RX8, "depthBelow", "(LAdderChooser$Net;II)I"⟩
def RX9 : String := "AdderChooser"
def TX9 : u_T := fun k => match k with
  | 0 => ("AdderChooser", "tape", "LAdderChooser$Tape;", true)
  | 1 => ("AdderChooser", "plans", "LAdderChooser$Plans;", true)
  | 2 => ("AdderChooser", "memory", "LAdderChooser$Known;", true)
  | 3 => ("AdderChooser", "net", "LAdderChooser$Net;", true)
  | 4 => ("AdderChooser", "timing", "LAdderChooser$Timing;", true)
  | 5 => ("AdderChooser", "sweep", "LAdderChooser$Sweep;", true)
  | 6 => ("AdderChooser", "search", "LAdderChooser$Search;", true)
  | 7 => ("AdderChooser", "shelves", "[LAdderChooser$Shelf;", true)
  | _ => ("AdderChooser", "live", "[J", true)
def tyX9 : Nat → FieldType := fun k => match k with
  | 0 => .object "AdderChooser$Tape"
  | 1 => .object "AdderChooser$Plans"
  | 2 => .object "AdderChooser$Known"
  | 3 => .object "AdderChooser$Net"
  | 4 => .object "AdderChooser$Timing"
  | 5 => .object "AdderChooser$Sweep"
  | 6 => .object "AdderChooser$Search"
  | 7 => .array (.object "AdderChooser$Shelf")
  | _ => .array .long
abbrev wsX90 : List Cond := u_ws RX9 TX9 9
theorem nmX9 : ∀ a, a < 9 → ∀ b, b < 9 → a ≠ b → (TX9 a).2.1 ≠ (TX9 b).2.1 := by decide +kernel
theorem tyX9_ok : ∀ k, k < 9 → parseFieldDescriptor (TX9 k).2.2.1 = some (tyX9 k) := by decide +kernel
abbrev cX9_init : ByteArray := prog_1_method_1_code
def yX9_init : MethodName := ⟨RX9, "<init>", "()V"⟩
abbrev cX9_feed : ByteArray := prog_1_method_2_code
def yX9_feed : MethodName := ⟨RX9, "feed", "(I)I"⟩
abbrev cX9_read : ByteArray := prog_1_method_3_code
def yX9_read : MethodName := ⟨RX9, "read", "()I"⟩
abbrev cX9_find : ByteArray := prog_1_method_4_code
def yX9_find : MethodName := ⟨RX9, "find", "()I"⟩
abbrev cX9_forget : ByteArray := prog_1_method_5_code
def yX9_forget : MethodName := ⟨RX9, "forget", "(I)I"⟩
abbrev cX9_plan : ByteArray := prog_1_method_6_code
def yX9_plan : MethodName := ⟨RX9, "plan", "(II)I"⟩
abbrev cX9_name : ByteArray := prog_1_method_7_code
def yX9_name : MethodName := ⟨RX9, "name", "(II)I"⟩
abbrev cX9_delay : ByteArray := prog_1_method_8_code
def yX9_delay : MethodName := ⟨RX9, "delay", "(II)I"⟩
abbrev cX9_arrival : ByteArray := prog_1_method_9_code
def yX9_arrival : MethodName := ⟨RX9, "arrival", "(III)I"⟩
abbrev cX9_arrives : ByteArray := prog_1_method_10_code
def yX9_arrives : MethodName := ⟨RX9, "arrives", "(II)I"⟩
abbrev cX9_gates : ByteArray := prog_1_method_11_code
def yX9_gates : MethodName := ⟨RX9, "gates", "(II)I"⟩
abbrev cX9_latest : ByteArray := prog_1_method_12_code
def yX9_latest : MethodName := ⟨RX9, "latest", "(II)I"⟩
abbrev cX9_deep : ByteArray := prog_1_method_13_code
def yX9_deep : MethodName := ⟨RX9, "deep", "(I)I"⟩
abbrev cX9_hangs : ByteArray := prog_1_method_14_code
def yX9_hangs : MethodName := ⟨RX9, "hangs", "(I)I"⟩
abbrev cX9_times : ByteArray := prog_1_method_15_code
def yX9_times : MethodName := ⟨RX9, "times", "(I)I"⟩
abbrev cX9_adds : ByteArray := prog_1_method_16_code
def yX9_adds : MethodName := ⟨RX9, "adds", "(IIII)I"⟩
abbrev cX9_settles : ByteArray := prog_1_method_17_code
def yX9_settles : MethodName := ⟨RX9, "settles", "(IIIII)I"⟩
abbrev cX9_slowest : ByteArray := prog_1_method_18_code
def yX9_slowest : MethodName := ⟨RX9, "slowest", "(II)I"⟩
abbrev cX9_intime : ByteArray := prog_1_method_19_code
def yX9_intime : MethodName := ⟨RX9, "intime", "(II)I"⟩
abbrev cX9_shared : ByteArray := prog_1_method_20_code
def yX9_shared : MethodName := ⟨RX9, "shared", "(II)I"⟩
abbrev cX9_alike : ByteArray := prog_1_method_21_code
def yX9_alike : MethodName := ⟨RX9, "alike", "(II)I"⟩
abbrev cX9_known : ByteArray := prog_1_method_22_code
def yX9_known : MethodName := ⟨RX9, "known", "(I)I"⟩
abbrev cX9_choose : ByteArray := prog_1_method_23_code
def yX9_choose : MethodName := ⟨RX9, "choose", "(IIII)I"⟩
abbrev cX9_chosen : ByteArray := prog_1_method_24_code
def yX9_chosen : MethodName := ⟨RX9, "chosen", "(III)I"⟩
abbrev cX9_longest : ByteArray := prog_1_method_25_code
def yX9_longest : MethodName := ⟨RX9, "longest", "(IIIII)I"⟩
abbrev cX9_runs : ByteArray := prog_1_method_26_code
def yX9_runs : MethodName := ⟨RX9, "runs", "(II)J"⟩
abbrev cX9_shelve : ByteArray := prog_1_method_27_code
def yX9_shelve : MethodName := ⟨RX9, "shelve", "(II)I"⟩
abbrev cX9_taken : ByteArray := prog_1_method_28_code
def yX9_taken : MethodName := ⟨RX9, "taken", "(II)I"⟩
abbrev cX9_row : ByteArray := prog_1_method_29_code
def yX9_row : MethodName := ⟨RX9, "row", "(III)I"⟩
abbrev cX9_put : ByteArray := prog_1_method_30_code
def yX9_put : MethodName := ⟨RX9, "put", "(IIJ)I"⟩
abbrev cX9_get : ByteArray := prog_1_method_31_code
def yX9_get : MethodName := ⟨RX9, "get", "(II)J"⟩
abbrev cX9_into : ByteArray := prog_1_method_32_code
def yX9_into : MethodName := ⟨RX9, "into", "(II)I"⟩
abbrev cX9_from : ByteArray := prog_1_method_33_code
def yX9_from : MethodName := ⟨RX9, "from", "(II)I"⟩
abbrev cX9_count : ByteArray := prog_1_method_34_code
def yX9_count : MethodName := ⟨RX9, "count", "(I)I"⟩
abbrev cX9_timesHaveChanged : ByteArray := prog_1_method_35_code
def yX9_timesHaveChanged : MethodName := ⟨RX9, "timesHaveChanged", "()V"⟩
abbrev cX9_buildNetOf : ByteArray := prog_1_method_36_code
def yX9_buildNetOf : MethodName := ⟨RX9, "buildNetOf", "(I)V"⟩
abbrev cX9_hasOutcome : ByteArray := prog_1_method_37_code
def yX9_hasOutcome : MethodName := ⟨RX9, "hasOutcome", "(II)Z"⟩
abbrev cX9_filledShelves : ByteArray := prog_1_method_38_code
def yX9_filledShelves : MethodName := ⟨RX9, "filledShelves", "()I"⟩
abbrev cX9_isInput : ByteArray := prog_1_method_39_code
def yX9_isInput : MethodName := ⟨RX9, "isInput", "(II)Z"⟩
abbrev cX9_areNumbers : ByteArray := prog_1_method_40_code
def yX9_areNumbers : MethodName := ⟨RX9, "areNumbers", "(IIII)Z"⟩
abbrev cX9_canChoose : ByteArray := prog_1_method_41_code
def yX9_canChoose : MethodName := ⟨RX9, "canChoose", "(III)Z"⟩
abbrev cX9_isShelf : ByteArray := prog_1_method_42_code
def yX9_isShelf : MethodName := ⟨RX9, "isShelf", "(I)Z"⟩
def RX10 : String := "AdderChooserModel"
def TX10 : u_T := fun k => match k with
  | 0 => ("AdderChooserModel", "names", "[I", true)
  | 1 => ("AdderChooserModel", "nameLong", "[I", true)
  | 2 => ("AdderChooserModel", "blocks", "[I", true)
  | 3 => ("AdderChooserModel", "blockMany", "[I", true)
  | 4 => ("AdderChooserModel", "plans", "I", false)
  | 5 => ("AdderChooserModel", "tape", "[I", true)
  | 6 => ("AdderChooserModel", "named", "[I", true)
  | 7 => ("AdderChooserModel", "told", "[I", true)
  | 8 => ("AdderChooserModel", "fed", "I", false)
  | 9 => ("AdderChooserModel", "namedLong", "I", false)
  | 10 => ("AdderChooserModel", "toldMany", "I", false)
  | 11 => ("AdderChooserModel", "at", "I", false)
  | 12 => ("AdderChooserModel", "knownBlocks", "[I", true)
  | 13 => ("AdderChooserModel", "knownMany", "[I", true)
  | 14 => ("AdderChooserModel", "known", "I", false)
  | 15 => ("AdderChooserModel", "delays", "[I", true)
  | 16 => ("AdderChooserModel", "arrivals", "[I", true)
  | 17 => ("AdderChooserModel", "kinds", "[I", true)
  | 18 => ("AdderChooserModel", "lefts", "[I", true)
  | 19 => ("AdderChooserModel", "rights", "[I", true)
  | 20 => ("AdderChooserModel", "used", "[I", true)
  | 21 => ("AdderChooserModel", "comes", "[I", true)
  | 22 => ("AdderChooserModel", "values", "[I", true)
  | 23 => ("AdderChooserModel", "chains", "[I", true)
  | 24 => ("AdderChooserModel", "outs", "[I", true)
  | 25 => ("AdderChooserModel", "zeros", "[I", true)
  | 26 => ("AdderChooserModel", "others", "[I", true)
  | 27 => ("AdderChooserModel", "gates", "I", false)
  | 28 => ("AdderChooserModel", "outMany", "I", false)
  | 29 => ("AdderChooserModel", "slowestA", "I", false)
  | 30 => ("AdderChooserModel", "slowestB", "I", false)
  | 31 => ("AdderChooserModel", "slowestC", "I", false)
  | 32 => ("AdderChooserModel", "slowestBy", "I", false)
  | 33 => ("AdderChooserModel", "row", "[I", true)
  | 34 => ("AdderChooserModel", "best", "[I", true)
  | 35 => ("AdderChooserModel", "bestMany", "I", false)
  | 36 => ("AdderChooserModel", "bestGates", "I", false)
  | 37 => ("AdderChooserModel", "bestLatest", "I", false)
  | 38 => ("AdderChooserModel", "inTime", "I", false)
  | 39 => ("AdderChooserModel", "runMost", "I", false)
  | 40 => ("AdderChooserModel", "runFrom", "I", false)
  | 41 => ("AdderChooserModel", "ways", "[J", true)
  | 42 => ("AdderChooserModel", "then", "[J", true)
  | 43 => ("AdderChooserModel", "sorts", "[I", true)
  | 44 => ("AdderChooserModel", "sizes", "[I", true)
  | 45 => ("AdderChooserModel", "shelved", "[I", true)
  | _ => ("AdderChooserModel", "items", "[J", true)
def tyX10 : Nat → FieldType := fun k => match k with
  | 0 => .array .int
  | 1 => .array .int
  | 2 => .array .int
  | 3 => .array .int
  | 4 => .int
  | 5 => .array .int
  | 6 => .array .int
  | 7 => .array .int
  | 8 => .int
  | 9 => .int
  | 10 => .int
  | 11 => .int
  | 12 => .array .int
  | 13 => .array .int
  | 14 => .int
  | 15 => .array .int
  | 16 => .array .int
  | 17 => .array .int
  | 18 => .array .int
  | 19 => .array .int
  | 20 => .array .int
  | 21 => .array .int
  | 22 => .array .int
  | 23 => .array .int
  | 24 => .array .int
  | 25 => .array .int
  | 26 => .array .int
  | 27 => .int
  | 28 => .int
  | 29 => .int
  | 30 => .int
  | 31 => .int
  | 32 => .int
  | 33 => .array .int
  | 34 => .array .int
  | 35 => .int
  | 36 => .int
  | 37 => .int
  | 38 => .int
  | 39 => .int
  | 40 => .int
  | 41 => .array .long
  | 42 => .array .long
  | 43 => .array .int
  | 44 => .array .int
  | 45 => .array .int
  | _ => .array .long
abbrev wsX100 : List Cond := u_ws RX10 TX10 47
theorem nmX10 : ∀ a, a < 47 → ∀ b, b < 47 → a ≠ b → (TX10 a).2.1 ≠ (TX10 b).2.1 := by decide +kernel
theorem tyX10_ok : ∀ k, k < 47 → parseFieldDescriptor (TX10 k).2.2.1 = some (tyX10 k) := by decide +kernel
abbrev cX10_init : ByteArray := prog_12_method_1_code
def yX10_init : MethodName := ⟨RX10, "<init>", "()V"⟩
abbrev cX10_in : ByteArray := prog_12_method_2_code
def yX10_in : MethodName := ⟨RX10, "in", "(JJJ)Z"⟩
abbrev cX10_has : ByteArray := prog_12_method_3_code
def yX10_has : MethodName := ⟨RX10, "has", "(II)Z"⟩
abbrev cX10_isPlan : ByteArray := prog_12_method_4_code
def yX10_isPlan : MethodName := ⟨RX10, "isPlan", "(I)Z"⟩
abbrev cX10_widthOf : ByteArray := prog_12_method_5_code
def yX10_widthOf : MethodName := ⟨RX10, "widthOf", "([III)I"⟩
abbrev cX10_width : ByteArray := prog_12_method_6_code
def yX10_width : MethodName := ⟨RX10, "width", "(I)I"⟩
abbrev cX10_areAlike : ByteArray := prog_12_method_7_code
def yX10_areAlike : MethodName := ⟨RX10, "areAlike", "([III[III)Z"⟩
abbrev cX10_feed : ByteArray := prog_12_method_8_code
def yX10_feed : MethodName := ⟨RX10, "feed", "(I)I"⟩
abbrev cX10_here : ByteArray := prog_12_method_9_code
def yX10_here : MethodName := ⟨RX10, "here", "()I"⟩
abbrev cX10_readsName : ByteArray := prog_12_method_10_code
def yX10_readsName : MethodName := ⟨RX10, "readsName", "()V"⟩
abbrev cX10_kindOf : ByteArray := prog_12_method_11_code
def yX10_kindOf : MethodName := ⟨RX10, "kindOf", "(I)I"⟩
abbrev cX10_areBlocks : ByteArray := prog_12_method_12_code
def yX10_areBlocks : MethodName := ⟨RX10, "areBlocks", "()Z"⟩
abbrev cX10_planNamed : ByteArray := prog_12_method_13_code
def yX10_planNamed : MethodName := ⟨RX10, "planNamed", "()I"⟩
abbrev cX10_becomes : ByteArray := prog_12_method_14_code
def yX10_becomes : MethodName := ⟨RX10, "becomes", "([II)I"⟩
abbrev cX10_read : ByteArray := prog_12_method_15_code
def yX10_read : MethodName := ⟨RX10, "read", "()I"⟩
abbrev cX10_isNamed : ByteArray := prog_12_method_16_code
def yX10_isNamed : MethodName := ⟨RX10, "isNamed", "()Z"⟩
abbrev cX10_find : ByteArray := prog_12_method_17_code
def yX10_find : MethodName := ⟨RX10, "find", "()I"⟩
abbrev cX10_forget : ByteArray := prog_12_method_18_code
def yX10_forget : MethodName := ⟨RX10, "forget", "(I)I"⟩
abbrev cX10_plan : ByteArray := prog_12_method_19_code
def yX10_plan : MethodName := ⟨RX10, "plan", "(II)I"⟩
abbrev cX10_name : ByteArray := prog_12_method_20_code
def yX10_name : MethodName := ⟨RX10, "name", "(II)I"⟩
abbrev cX10_placeKnown : ByteArray := prog_12_method_21_code
def yX10_placeKnown : MethodName := ⟨RX10, "placeKnown", "([III)I"⟩
abbrev cX10_leaves : ByteArray := prog_12_method_22_code
def yX10_leaves : MethodName := ⟨RX10, "leaves", "(I)V"⟩
abbrev cX10_knows : ByteArray := prog_12_method_23_code
def yX10_knows : MethodName := ⟨RX10, "knows", "(I)V"⟩
abbrev cX10_known : ByteArray := prog_12_method_24_code
def yX10_known : MethodName := ⟨RX10, "known", "(I)I"⟩
abbrev cX10_sideAt : ByteArray := prog_12_method_25_code
def yX10_sideAt : MethodName := ⟨RX10, "sideAt", "(II)I"⟩
abbrev cX10_delay : ByteArray := prog_12_method_26_code
def yX10_delay : MethodName := ⟨RX10, "delay", "(II)I"⟩
abbrev cX10_arrival : ByteArray := prog_12_method_27_code
def yX10_arrival : MethodName := ⟨RX10, "arrival", "(III)I"⟩
abbrev cX10_arrives : ByteArray := prog_12_method_28_code
def yX10_arrives : MethodName := ⟨RX10, "arrives", "(II)I"⟩
abbrev cX10_clears : ByteArray := prog_12_method_29_code
def yX10_clears : MethodName := ⟨RX10, "clears", "()V"⟩
abbrev cX10_gate : ByteArray := prog_12_method_30_code
def yX10_gate : MethodName := ⟨RX10, "gate", "(III)I"⟩
abbrev cX10_not : ByteArray := prog_12_method_31_code
def yX10_not : MethodName := ⟨RX10, "not", "(I)I"⟩
abbrev cX10_and : ByteArray := prog_12_method_32_code
def yX10_and : MethodName := ⟨RX10, "and", "(II)I"⟩
abbrev cX10_or : ByteArray := prog_12_method_33_code
def yX10_or : MethodName := ⟨RX10, "or", "(II)I"⟩
abbrev cX10_xor : ByteArray := prog_12_method_34_code
def yX10_xor : MethodName := ⟨RX10, "xor", "(II)I"⟩
abbrev cX10_p : ByteArray := prog_12_method_35_code
def yX10_p : MethodName := ⟨RX10, "p", "(I)I"⟩
abbrev cX10_g : ByteArray := prog_12_method_36_code
def yX10_g : MethodName := ⟨RX10, "g", "(I)I"⟩
abbrev cX10_ripples : ByteArray := prog_12_method_37_code
def yX10_ripples : MethodName := ⟨RX10, "ripples", "(III[I)I"⟩
abbrev cX10_skips : ByteArray := prog_12_method_38_code
def yX10_skips : MethodName := ⟨RX10, "skips", "(III)I"⟩
abbrev cX10_selects : ByteArray := prog_12_method_39_code
def yX10_selects : MethodName := ⟨RX10, "selects", "(III)I"⟩
abbrev cX10_spanP : ByteArray := prog_12_method_40_code
def yX10_spanP : MethodName := ⟨RX10, "spanP", "(II)I"⟩
abbrev cX10_spanG : ByteArray := prog_12_method_41_code
def yX10_spanG : MethodName := ⟨RX10, "spanG", "(II)I"⟩
abbrev cX10_looksAhead : ByteArray := prog_12_method_42_code
def yX10_looksAhead : MethodName := ⟨RX10, "looksAhead", "(III)I"⟩
abbrev cX10_builds : ByteArray := prog_12_method_43_code
def yX10_builds : MethodName := ⟨RX10, "builds", "([III)V"⟩
abbrev cX10_marks : ByteArray := prog_12_method_44_code
def yX10_marks : MethodName := ⟨RX10, "marks", "(I)V"⟩
abbrev cX10_manyUsed : ByteArray := prog_12_method_45_code
def yX10_manyUsed : MethodName := ⟨RX10, "manyUsed", "(II)I"⟩
abbrev cX10_tellsTimes : ByteArray := prog_12_method_46_code
def yX10_tellsTimes : MethodName := ⟨RX10, "tellsTimes", "()V"⟩
abbrev cX10_lastOut : ByteArray := prog_12_method_47_code
def yX10_lastOut : MethodName := ⟨RX10, "lastOut", "()I"⟩
abbrev cX10_lays : ByteArray := prog_12_method_48_code
def yX10_lays : MethodName := ⟨RX10, "lays", "([III)V"⟩
abbrev cX10_laysPlan : ByteArray := prog_12_method_49_code
def yX10_laysPlan : MethodName := ⟨RX10, "laysPlan", "(I)V"⟩
abbrev cX10_gates : ByteArray := prog_12_method_50_code
def yX10_gates : MethodName := ⟨RX10, "gates", "(II)I"⟩
abbrev cX10_latest : ByteArray := prog_12_method_51_code
def yX10_latest : MethodName := ⟨RX10, "latest", "(II)I"⟩
abbrev cX10_deep : ByteArray := prog_12_method_52_code
def yX10_deep : MethodName := ⟨RX10, "deep", "(I)I"⟩
abbrev cX10_hangs : ByteArray := prog_12_method_53_code
def yX10_hangs : MethodName := ⟨RX10, "hangs", "(I)I"⟩
abbrev cX10_times : ByteArray := prog_12_method_54_code
def yX10_times : MethodName := ⟨RX10, "times", "(I)I"⟩
abbrev cX10_evaluates : ByteArray := prog_12_method_55_code
def yX10_evaluates : MethodName := ⟨RX10, "evaluates", "(III)V"⟩
abbrev cX10_settlesAll : ByteArray := prog_12_method_56_code
def yX10_settlesAll : MethodName := ⟨RX10, "settlesAll", "()V"⟩
abbrev cX10_areNumbers : ByteArray := prog_12_method_57_code
def yX10_areNumbers : MethodName := ⟨RX10, "areNumbers", "(IIII)Z"⟩
abbrev cX10_adds : ByteArray := prog_12_method_58_code
def yX10_adds : MethodName := ⟨RX10, "adds", "(IIII)I"⟩
abbrev cX10_settles : ByteArray := prog_12_method_59_code
def yX10_settles : MethodName := ⟨RX10, "settles", "(IIIII)I"⟩
abbrev cX10_goesThrough : ByteArray := prog_12_method_60_code
def yX10_goesThrough : MethodName := ⟨RX10, "goesThrough", "(II)I"⟩
abbrev cX10_slowest : ByteArray := prog_12_method_61_code
def yX10_slowest : MethodName := ⟨RX10, "slowest", "(II)I"⟩
abbrev cX10_intime : ByteArray := prog_12_method_62_code
def yX10_intime : MethodName := ⟨RX10, "intime", "(II)I"⟩
abbrev cX10_shared : ByteArray := prog_12_method_63_code
def yX10_shared : MethodName := ⟨RX10, "shared", "(II)I"⟩
abbrev cX10_alike : ByteArray := prog_12_method_64_code
def yX10_alike : MethodName := ⟨RX10, "alike", "(II)I"⟩
abbrev cX10_judges : ByteArray := prog_12_method_65_code
def yX10_judges : MethodName := ⟨RX10, "judges", "(II)V"⟩
abbrev cX10_goesOn : ByteArray := prog_12_method_66_code
def yX10_goesOn : MethodName := ⟨RX10, "goesOn", "(IIII)V"⟩
abbrev cX10_isWanted : ByteArray := prog_12_method_67_code
def yX10_isWanted : MethodName := ⟨RX10, "isWanted", "(III)Z"⟩
abbrev cX10_chooses : ByteArray := prog_12_method_68_code
def yX10_chooses : MethodName := ⟨RX10, "chooses", "(III)V"⟩
abbrev cX10_choose : ByteArray := prog_12_method_69_code
def yX10_choose : MethodName := ⟨RX10, "choose", "(IIII)I"⟩
abbrev cX10_chosen : ByteArray := prog_12_method_70_code
def yX10_chosen : MethodName := ⟨RX10, "chosen", "(III)I"⟩
abbrev cX10_meets : ByteArray := prog_12_method_71_code
def yX10_meets : MethodName := ⟨RX10, "meets", "(II)V"⟩
abbrev cX10_longest : ByteArray := prog_12_method_72_code
def yX10_longest : MethodName := ⟨RX10, "longest", "(IIIII)I"⟩
abbrev cX10_runs : ByteArray := prog_12_method_73_code
def yX10_runs : MethodName := ⟨RX10, "runs", "(II)J"⟩
abbrev cX10_isShelf : ByteArray := prog_12_method_74_code
def yX10_isShelf : MethodName := ⟨RX10, "isShelf", "(I)Z"⟩
abbrev cX10_shelve : ByteArray := prog_12_method_75_code
def yX10_shelve : MethodName := ⟨RX10, "shelve", "(II)I"⟩
abbrev cX10_taken : ByteArray := prog_12_method_76_code
def yX10_taken : MethodName := ⟨RX10, "taken", "(II)I"⟩
abbrev cX10_row : ByteArray := prog_12_method_77_code
def yX10_row : MethodName := ⟨RX10, "row", "(III)I"⟩
abbrev cX10_put : ByteArray := prog_12_method_78_code
def yX10_put : MethodName := ⟨RX10, "put", "(IIJ)I"⟩
abbrev cX10_get : ByteArray := prog_12_method_79_code
def yX10_get : MethodName := ⟨RX10, "get", "(II)J"⟩
abbrev cX10_into : ByteArray := prog_12_method_80_code
def yX10_into : MethodName := ⟨RX10, "into", "(II)I"⟩
abbrev cX10_from : ByteArray := prog_12_method_81_code
def yX10_from : MethodName := ⟨RX10, "from", "(II)I"⟩
abbrev cX10_unlike : ByteArray := prog_12_method_82_code
def yX10_unlike : MethodName := ⟨RX10, "unlike", "()I"⟩
abbrev cX10_count : ByteArray := prog_12_method_83_code
def yX10_count : MethodName := ⟨RX10, "count", "(I)I"⟩
def RJ6 : String := "java/lang/Integer"
def TJ6 : u_T := fun k => match k with
  | _ => ("", "", "", false)
def tyJ6 : Nat → FieldType := fun k => match k with
  | _ => .int
abbrev wsJ60 : List Cond := u_ws RJ6 TJ6 0
theorem nmJ6 : ∀ a, a < 0 → ∀ b, b < 0 → a ≠ b → (TJ6 a).2.1 ≠ (TJ6 b).2.1 := by decide +kernel
theorem tyJ6_ok : ∀ k, k < 0 → parseFieldDescriptor (TJ6 k).2.2.1 = some (tyJ6 k) := by decide +kernel
abbrev cJ6_bitCount_0f7a4 : ByteArray := prog_13_method_49_code
def yJ6_bitCount_0f7a4 : MethodName := ⟨RJ6, "bitCount", "(I)I"⟩
def RJ13 : String := "java/lang/Long"
def TJ13 : u_T := fun k => match k with
  | _ => ("", "", "", false)
def tyJ13 : Nat → FieldType := fun k => match k with
  | _ => .int
abbrev wsJ130 : List Cond := u_ws RJ13 TJ13 0
theorem nmJ13 : ∀ a, a < 0 → ∀ b, b < 0 → a ≠ b → (TJ13 a).2.1 ≠ (TJ13 b).2.1 := by decide +kernel
theorem tyJ13_ok : ∀ k, k < 0 → parseFieldDescriptor (TJ13 k).2.2.1 = some (tyJ13 k) := by decide +kernel
abbrev cJ13_bitCount_95d88 : ByteArray := prog_14_method_50_code
def yJ13_bitCount_95d88 : MethodName := ⟨RJ13, "bitCount", "(J)I"⟩
def RJ9 : String := "java/lang/Math"
def TJ9 : u_T := fun k => match k with
  | _ => ("", "", "", false)
def tyJ9 : Nat → FieldType := fun k => match k with
  | _ => .int
abbrev wsJ90 : List Cond := u_ws RJ9 TJ9 0
theorem nmJ9 : ∀ a, a < 0 → ∀ b, b < 0 → a ≠ b → (TJ9 a).2.1 ≠ (TJ9 b).2.1 := by decide +kernel
theorem tyJ9_ok : ∀ k, k < 0 → parseFieldDescriptor (TJ9 k).2.2.1 = some (tyJ9 k) := by decide +kernel
abbrev cJ9_max_7cf53 : ByteArray := prog_15_method_65_code
def yJ9_max_7cf53 : MethodName := ⟨RJ9, "max", "(II)I"⟩
abbrev cJ9_min_7cf53 : ByteArray := prog_15_method_69_code
def yJ9_min_7cf53 : MethodName := ⟨RJ9, "min", "(II)I"⟩
def RL : String := "AdderChooserLaw"
abbrev cL_law : ByteArray := code
def yL_law : MethodName := ⟨RL, "law", "([I)Z"⟩
theorem inX0 : ∀ w ∈ wsX00, w ∈ lw_tbl := by decide +kernel
theorem inX1 : ∀ w ∈ wsX10, w ∈ lw_tbl := by decide +kernel
theorem inX2 : ∀ w ∈ wsX20, w ∈ lw_tbl := by decide +kernel
theorem inX3 : ∀ w ∈ wsX30, w ∈ lw_tbl := by decide +kernel
theorem inX4 : ∀ w ∈ wsX40, w ∈ lw_tbl := by decide +kernel
theorem inX5 : ∀ w ∈ wsX50, w ∈ lw_tbl := by decide +kernel
theorem inX6 : ∀ w ∈ wsX60, w ∈ lw_tbl := by decide +kernel
theorem inX7 : ∀ w ∈ wsX70, w ∈ lw_tbl := by decide +kernel
theorem inX8 : ∀ w ∈ wsX80, w ∈ lw_tbl := by decide +kernel
theorem inX9 : ∀ w ∈ wsX90, w ∈ lw_tbl := by decide +kernel
theorem inX10 : ∀ w ∈ wsX100, w ∈ lw_tbl := by decide +kernel
