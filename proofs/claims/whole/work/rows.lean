section
/-- a private method of a class that the tables say can be made, by its rows of tables_1 -/
def lw_okq (q : MethodName × Nat) : Prop := (q.1.cls ≠ "java/lang/invoke/MethodHandle" ∧ q.1.cls ≠ "java/lang/invoke/VarHandle") ∧ Cond.instantiable q.1.cls q.2 ∈ tables_1 ∧ Cond.privateMethod q.1 ∈ tables_1 ∧ Cond.instanceMethod q.1 ∈ tables_1
theorem lw_p0 : lw_okq (⟨"AdderChooser", "timesHaveChanged", "()V"⟩, 9) := ⟨⟨by decide +kernel, by decide +kernel⟩, List.mem_of_getElem? (i := 16) (by decide +kernel), List.mem_of_getElem? (i := 373) (by decide +kernel), List.mem_of_getElem? (i := 374) (by decide +kernel)⟩
theorem lw_p1 : lw_okq (⟨"AdderChooser$Known", "placeOf", "(J)I"⟩, 2) := ⟨⟨by decide +kernel, by decide +kernel⟩, List.mem_of_getElem? (i := 63) (by decide +kernel), List.mem_of_getElem? (i := 396) (by decide +kernel), List.mem_of_getElem? (i := 397) (by decide +kernel)⟩
theorem lw_p2 : lw_okq (⟨"AdderChooser", "buildNetOf", "(I)V"⟩, 9) := ⟨⟨by decide +kernel, by decide +kernel⟩, List.mem_of_getElem? (i := 16) (by decide +kernel), List.mem_of_getElem? (i := 400) (by decide +kernel), List.mem_of_getElem? (i := 401) (by decide +kernel)⟩
theorem lw_p3 : lw_okq (⟨"AdderChooser$Net", "xor", "(II)I"⟩, 15) := ⟨⟨by decide +kernel, by decide +kernel⟩, List.mem_of_getElem? (i := 77) (by decide +kernel), List.mem_of_getElem? (i := 419) (by decide +kernel), List.mem_of_getElem? (i := 420) (by decide +kernel)⟩
theorem lw_p4 : lw_okq (⟨"AdderChooser$Net", "made", "(III)I"⟩, 15) := ⟨⟨by decide +kernel, by decide +kernel⟩, List.mem_of_getElem? (i := 77) (by decide +kernel), List.mem_of_getElem? (i := 423) (by decide +kernel), List.mem_of_getElem? (i := 424) (by decide +kernel)⟩
theorem lw_p5 : lw_okq (⟨"AdderChooser$Net", "and", "(II)I"⟩, 15) := ⟨⟨by decide +kernel, by decide +kernel⟩, List.mem_of_getElem? (i := 77) (by decide +kernel), List.mem_of_getElem? (i := 427) (by decide +kernel), List.mem_of_getElem? (i := 428) (by decide +kernel)⟩
theorem lw_p6 : lw_okq (⟨"AdderChooser$Net", "laySkip", "(II)I"⟩, 15) := ⟨⟨by decide +kernel, by decide +kernel⟩, List.mem_of_getElem? (i := 77) (by decide +kernel), List.mem_of_getElem? (i := 431) (by decide +kernel), List.mem_of_getElem? (i := 432) (by decide +kernel)⟩
theorem lw_p7 : lw_okq (⟨"AdderChooser$Net", "ripple", "(III[I)I"⟩, 15) := ⟨⟨by decide +kernel, by decide +kernel⟩, List.mem_of_getElem? (i := 77) (by decide +kernel), List.mem_of_getElem? (i := 435) (by decide +kernel), List.mem_of_getElem? (i := 436) (by decide +kernel)⟩
theorem lw_p8 : lw_okq (⟨"AdderChooser$Net", "or", "(II)I"⟩, 15) := ⟨⟨by decide +kernel, by decide +kernel⟩, List.mem_of_getElem? (i := 77) (by decide +kernel), List.mem_of_getElem? (i := 439) (by decide +kernel), List.mem_of_getElem? (i := 440) (by decide +kernel)⟩
theorem lw_p9 : lw_okq (⟨"AdderChooser$Net", "laySelect", "(II)I"⟩, 15) := ⟨⟨by decide +kernel, by decide +kernel⟩, List.mem_of_getElem? (i := 77) (by decide +kernel), List.mem_of_getElem? (i := 443) (by decide +kernel), List.mem_of_getElem? (i := 444) (by decide +kernel)⟩
theorem lw_p10 : lw_okq (⟨"AdderChooser$Net", "not", "(I)I"⟩, 15) := ⟨⟨by decide +kernel, by decide +kernel⟩, List.mem_of_getElem? (i := 77) (by decide +kernel), List.mem_of_getElem? (i := 447) (by decide +kernel), List.mem_of_getElem? (i := 448) (by decide +kernel)⟩
theorem lw_p11 : lw_okq (⟨"AdderChooser$Net", "layAhead", "(II)I"⟩, 15) := ⟨⟨by decide +kernel, by decide +kernel⟩, List.mem_of_getElem? (i := 77) (by decide +kernel), List.mem_of_getElem? (i := 451) (by decide +kernel), List.mem_of_getElem? (i := 452) (by decide +kernel)⟩
theorem lw_p12 : lw_okq (⟨"AdderChooser", "hasOutcome", "(II)Z"⟩, 9) := ⟨⟨by decide +kernel, by decide +kernel⟩, List.mem_of_getElem? (i := 16) (by decide +kernel), List.mem_of_getElem? (i := 474) (by decide +kernel), List.mem_of_getElem? (i := 475) (by decide +kernel)⟩
theorem lw_p13 : lw_okq (⟨"AdderChooser$Timing", "inputsArrive", "()V"⟩, 6) := ⟨⟨by decide +kernel, by decide +kernel⟩, List.mem_of_getElem? (i := 140) (by decide +kernel), List.mem_of_getElem? (i := 482) (by decide +kernel), List.mem_of_getElem? (i := 483) (by decide +kernel)⟩
theorem lw_p14 : lw_okq (⟨"AdderChooser$Timing", "laterPart", "(LAdderChooser$Net;I)I"⟩, 6) := ⟨⟨by decide +kernel, by decide +kernel⟩, List.mem_of_getElem? (i := 140) (by decide +kernel), List.mem_of_getElem? (i := 486) (by decide +kernel), List.mem_of_getElem? (i := 487) (by decide +kernel)⟩
theorem lw_p15 : lw_okq (⟨"AdderChooser$Timing", "lastOutcome", "(LAdderChooser$Net;)I"⟩, 6) := ⟨⟨by decide +kernel, by decide +kernel⟩, List.mem_of_getElem? (i := 140) (by decide +kernel), List.mem_of_getElem? (i := 497) (by decide +kernel), List.mem_of_getElem? (i := 498) (by decide +kernel)⟩
def lw_privs_1 : List (MethodName × Nat) := [(⟨"AdderChooser", "timesHaveChanged", "()V"⟩, 9), (⟨"AdderChooser$Known", "placeOf", "(J)I"⟩, 2), (⟨"AdderChooser", "buildNetOf", "(I)V"⟩, 9), (⟨"AdderChooser$Net", "xor", "(II)I"⟩, 15), (⟨"AdderChooser$Net", "made", "(III)I"⟩, 15), (⟨"AdderChooser$Net", "and", "(II)I"⟩, 15), (⟨"AdderChooser$Net", "laySkip", "(II)I"⟩, 15), (⟨"AdderChooser$Net", "ripple", "(III[I)I"⟩, 15), (⟨"AdderChooser$Net", "or", "(II)I"⟩, 15), (⟨"AdderChooser$Net", "laySelect", "(II)I"⟩, 15), (⟨"AdderChooser$Net", "not", "(I)I"⟩, 15), (⟨"AdderChooser$Net", "layAhead", "(II)I"⟩, 15), (⟨"AdderChooser", "hasOutcome", "(II)Z"⟩, 9), (⟨"AdderChooser$Timing", "inputsArrive", "()V"⟩, 6), (⟨"AdderChooser$Timing", "laterPart", "(LAdderChooser$Net;I)I"⟩, 6), (⟨"AdderChooser$Timing", "lastOutcome", "(LAdderChooser$Net;)I"⟩, 6)]
theorem lw_r1 : ∀ q ∈ lw_privs_1, lw_okq q := List.forall_mem_cons.mpr ⟨lw_p0, List.forall_mem_cons.mpr ⟨lw_p1, List.forall_mem_cons.mpr ⟨lw_p2, List.forall_mem_cons.mpr ⟨lw_p3, List.forall_mem_cons.mpr ⟨lw_p4, List.forall_mem_cons.mpr ⟨lw_p5, List.forall_mem_cons.mpr ⟨lw_p6, List.forall_mem_cons.mpr ⟨lw_p7, List.forall_mem_cons.mpr ⟨lw_p8, List.forall_mem_cons.mpr ⟨lw_p9, List.forall_mem_cons.mpr ⟨lw_p10, List.forall_mem_cons.mpr ⟨lw_p11, List.forall_mem_cons.mpr ⟨lw_p12, List.forall_mem_cons.mpr ⟨lw_p13, List.forall_mem_cons.mpr ⟨lw_p14, List.forall_mem_cons.mpr ⟨lw_p15, fun _ h => absurd h List.not_mem_nil⟩⟩⟩⟩⟩⟩⟩⟩⟩⟩⟩⟩⟩⟩⟩⟩
theorem lw_p16 : lw_okq (⟨"AdderChooser$Timing", "depthBelow", "(LAdderChooser$Net;II)I"⟩, 6) := ⟨⟨by decide +kernel, by decide +kernel⟩, List.mem_of_getElem? (i := 140) (by decide +kernel), List.mem_of_getElem? (i := 510) (by decide +kernel), List.mem_of_getElem? (i := 511) (by decide +kernel)⟩
theorem lw_p17 : lw_okq (⟨"AdderChooser$Timing", "isHeldUpBy", "(LAdderChooser$Net;II)Z"⟩, 6) := ⟨⟨by decide +kernel, by decide +kernel⟩, List.mem_of_getElem? (i := 140) (by decide +kernel), List.mem_of_getElem? (i := 514) (by decide +kernel), List.mem_of_getElem? (i := 515) (by decide +kernel)⟩
theorem lw_p18 : lw_okq (⟨"AdderChooser$Timing", "valueOf", "(LAdderChooser$Net;I)I"⟩, 6) := ⟨⟨by decide +kernel, by decide +kernel⟩, List.mem_of_getElem? (i := 140) (by decide +kernel), List.mem_of_getElem? (i := 550) (by decide +kernel), List.mem_of_getElem? (i := 551) (by decide +kernel)⟩
theorem lw_p19 : lw_okq (⟨"AdderChooser$Timing", "rulingPart", "(LAdderChooser$Net;I)I"⟩, 6) := ⟨⟨by decide +kernel, by decide +kernel⟩, List.mem_of_getElem? (i := 140) (by decide +kernel), List.mem_of_getElem? (i := 557) (by decide +kernel), List.mem_of_getElem? (i := 558) (by decide +kernel)⟩
theorem lw_p20 : lw_okq (⟨"AdderChooser$Sweep", "amount", "()I"⟩, 4) := ⟨⟨by decide +kernel, by decide +kernel⟩, List.mem_of_getElem? (i := 167) (by decide +kernel), List.mem_of_getElem? (i := 583) (by decide +kernel), List.mem_of_getElem? (i := 584) (by decide +kernel)⟩
theorem lw_p21 : lw_okq (⟨"AdderChooser$Sweep", "numberA", "(I)I"⟩, 4) := ⟨⟨by decide +kernel, by decide +kernel⟩, List.mem_of_getElem? (i := 167) (by decide +kernel), List.mem_of_getElem? (i := 587) (by decide +kernel), List.mem_of_getElem? (i := 588) (by decide +kernel)⟩
theorem lw_p22 : lw_okq (⟨"AdderChooser$Sweep", "numberB", "(I)I"⟩, 4) := ⟨⟨by decide +kernel, by decide +kernel⟩, List.mem_of_getElem? (i := 167) (by decide +kernel), List.mem_of_getElem? (i := 591) (by decide +kernel), List.mem_of_getElem? (i := 592) (by decide +kernel)⟩
theorem lw_p23 : lw_okq (⟨"AdderChooser$Search", "weigh", "(LAdderChooser$Net;LAdderChooser$Timing;J)V"⟩, 8) := ⟨⟨by decide +kernel, by decide +kernel⟩, List.mem_of_getElem? (i := 187) (by decide +kernel), List.mem_of_getElem? (i := 653) (by decide +kernel), List.mem_of_getElem? (i := 654) (by decide +kernel)⟩
theorem lw_p24 : lw_okq (⟨"AdderChooser", "filledShelves", "()I"⟩, 9) := ⟨⟨by decide +kernel, by decide +kernel⟩, List.mem_of_getElem? (i := 16) (by decide +kernel), List.mem_of_getElem? (i := 741) (by decide +kernel), List.mem_of_getElem? (i := 742) (by decide +kernel)⟩
theorem lw_p25 : lw_okq (⟨"AdderChooserModel", "readsName", "()V"⟩, 47) := ⟨⟨by decide +kernel, by decide +kernel⟩, List.mem_of_getElem? (i := 761) (by decide +kernel), List.mem_of_getElem? (i := 922) (by decide +kernel), List.mem_of_getElem? (i := 923) (by decide +kernel)⟩
theorem lw_p26 : lw_okq (⟨"AdderChooserModel", "here", "()I"⟩, 47) := ⟨⟨by decide +kernel, by decide +kernel⟩, List.mem_of_getElem? (i := 761) (by decide +kernel), List.mem_of_getElem? (i := 926) (by decide +kernel), List.mem_of_getElem? (i := 927) (by decide +kernel)⟩
theorem lw_p27 : lw_okq (⟨"AdderChooserModel", "areBlocks", "()Z"⟩, 47) := ⟨⟨by decide +kernel, by decide +kernel⟩, List.mem_of_getElem? (i := 761) (by decide +kernel), List.mem_of_getElem? (i := 932) (by decide +kernel), List.mem_of_getElem? (i := 933) (by decide +kernel)⟩
theorem lw_p28 : lw_okq (⟨"AdderChooserModel", "becomes", "([II)I"⟩, 47) := ⟨⟨by decide +kernel, by decide +kernel⟩, List.mem_of_getElem? (i := 761) (by decide +kernel), List.mem_of_getElem? (i := 940) (by decide +kernel), List.mem_of_getElem? (i := 941) (by decide +kernel)⟩
theorem lw_p29 : lw_okq (⟨"AdderChooserModel", "planNamed", "()I"⟩, 47) := ⟨⟨by decide +kernel, by decide +kernel⟩, List.mem_of_getElem? (i := 761) (by decide +kernel), List.mem_of_getElem? (i := 944) (by decide +kernel), List.mem_of_getElem? (i := 945) (by decide +kernel)⟩
theorem lw_p30 : lw_okq (⟨"AdderChooserModel", "isNamed", "()Z"⟩, 47) := ⟨⟨by decide +kernel, by decide +kernel⟩, List.mem_of_getElem? (i := 761) (by decide +kernel), List.mem_of_getElem? (i := 955) (by decide +kernel), List.mem_of_getElem? (i := 956) (by decide +kernel)⟩
theorem lw_p31 : lw_okq (⟨"AdderChooserModel", "isPlan", "(I)Z"⟩, 47) := ⟨⟨by decide +kernel, by decide +kernel⟩, List.mem_of_getElem? (i := 761) (by decide +kernel), List.mem_of_getElem? (i := 963) (by decide +kernel), List.mem_of_getElem? (i := 964) (by decide +kernel)⟩
def lw_privs_2 : List (MethodName × Nat) := [(⟨"AdderChooser$Timing", "depthBelow", "(LAdderChooser$Net;II)I"⟩, 6), (⟨"AdderChooser$Timing", "isHeldUpBy", "(LAdderChooser$Net;II)Z"⟩, 6), (⟨"AdderChooser$Timing", "valueOf", "(LAdderChooser$Net;I)I"⟩, 6), (⟨"AdderChooser$Timing", "rulingPart", "(LAdderChooser$Net;I)I"⟩, 6), (⟨"AdderChooser$Sweep", "amount", "()I"⟩, 4), (⟨"AdderChooser$Sweep", "numberA", "(I)I"⟩, 4), (⟨"AdderChooser$Sweep", "numberB", "(I)I"⟩, 4), (⟨"AdderChooser$Search", "weigh", "(LAdderChooser$Net;LAdderChooser$Timing;J)V"⟩, 8), (⟨"AdderChooser", "filledShelves", "()I"⟩, 9), (⟨"AdderChooserModel", "readsName", "()V"⟩, 47), (⟨"AdderChooserModel", "here", "()I"⟩, 47), (⟨"AdderChooserModel", "areBlocks", "()Z"⟩, 47), (⟨"AdderChooserModel", "becomes", "([II)I"⟩, 47), (⟨"AdderChooserModel", "planNamed", "()I"⟩, 47), (⟨"AdderChooserModel", "isNamed", "()Z"⟩, 47), (⟨"AdderChooserModel", "isPlan", "(I)Z"⟩, 47)]
theorem lw_r2 : ∀ q ∈ lw_privs_2, lw_okq q := List.forall_mem_cons.mpr ⟨lw_p16, List.forall_mem_cons.mpr ⟨lw_p17, List.forall_mem_cons.mpr ⟨lw_p18, List.forall_mem_cons.mpr ⟨lw_p19, List.forall_mem_cons.mpr ⟨lw_p20, List.forall_mem_cons.mpr ⟨lw_p21, List.forall_mem_cons.mpr ⟨lw_p22, List.forall_mem_cons.mpr ⟨lw_p23, List.forall_mem_cons.mpr ⟨lw_p24, List.forall_mem_cons.mpr ⟨lw_p25, List.forall_mem_cons.mpr ⟨lw_p26, List.forall_mem_cons.mpr ⟨lw_p27, List.forall_mem_cons.mpr ⟨lw_p28, List.forall_mem_cons.mpr ⟨lw_p29, List.forall_mem_cons.mpr ⟨lw_p30, List.forall_mem_cons.mpr ⟨lw_p31, fun _ h => absurd h List.not_mem_nil⟩⟩⟩⟩⟩⟩⟩⟩⟩⟩⟩⟩⟩⟩⟩⟩
theorem lw_p32 : lw_okq (⟨"AdderChooserModel", "width", "(I)I"⟩, 47) := ⟨⟨by decide +kernel, by decide +kernel⟩, List.mem_of_getElem? (i := 761) (by decide +kernel), List.mem_of_getElem? (i := 971) (by decide +kernel), List.mem_of_getElem? (i := 972) (by decide +kernel)⟩
theorem lw_p33 : lw_okq (⟨"AdderChooserModel", "placeKnown", "([III)I"⟩, 47) := ⟨⟨by decide +kernel, by decide +kernel⟩, List.mem_of_getElem? (i := 761) (by decide +kernel), List.mem_of_getElem? (i := 986) (by decide +kernel), List.mem_of_getElem? (i := 987) (by decide +kernel)⟩
theorem lw_p34 : lw_okq (⟨"AdderChooserModel", "knows", "(I)V"⟩, 47) := ⟨⟨by decide +kernel, by decide +kernel⟩, List.mem_of_getElem? (i := 761) (by decide +kernel), List.mem_of_getElem? (i := 1014) (by decide +kernel), List.mem_of_getElem? (i := 1015) (by decide +kernel)⟩
theorem lw_p35 : lw_okq (⟨"AdderChooserModel", "leaves", "(I)V"⟩, 47) := ⟨⟨by decide +kernel, by decide +kernel⟩, List.mem_of_getElem? (i := 761) (by decide +kernel), List.mem_of_getElem? (i := 1018) (by decide +kernel), List.mem_of_getElem? (i := 1019) (by decide +kernel)⟩
theorem lw_p36 : lw_okq (⟨"AdderChooserModel", "laysPlan", "(I)V"⟩, 47) := ⟨⟨by decide +kernel, by decide +kernel⟩, List.mem_of_getElem? (i := 761) (by decide +kernel), List.mem_of_getElem? (i := 1022) (by decide +kernel), List.mem_of_getElem? (i := 1023) (by decide +kernel)⟩
theorem lw_p37 : lw_okq (⟨"AdderChooserModel", "lays", "([III)V"⟩, 47) := ⟨⟨by decide +kernel, by decide +kernel⟩, List.mem_of_getElem? (i := 761) (by decide +kernel), List.mem_of_getElem? (i := 1026) (by decide +kernel), List.mem_of_getElem? (i := 1027) (by decide +kernel)⟩
theorem lw_p38 : lw_okq (⟨"AdderChooserModel", "clears", "()V"⟩, 47) := ⟨⟨by decide +kernel, by decide +kernel⟩, List.mem_of_getElem? (i := 761) (by decide +kernel), List.mem_of_getElem? (i := 1030) (by decide +kernel), List.mem_of_getElem? (i := 1031) (by decide +kernel)⟩
theorem lw_p39 : lw_okq (⟨"AdderChooserModel", "builds", "([III)V"⟩, 47) := ⟨⟨by decide +kernel, by decide +kernel⟩, List.mem_of_getElem? (i := 761) (by decide +kernel), List.mem_of_getElem? (i := 1034) (by decide +kernel), List.mem_of_getElem? (i := 1035) (by decide +kernel)⟩
theorem lw_p40 : lw_okq (⟨"AdderChooserModel", "ripples", "(III[I)I"⟩, 47) := ⟨⟨by decide +kernel, by decide +kernel⟩, List.mem_of_getElem? (i := 761) (by decide +kernel), List.mem_of_getElem? (i := 1038) (by decide +kernel), List.mem_of_getElem? (i := 1039) (by decide +kernel)⟩
theorem lw_p41 : lw_okq (⟨"AdderChooserModel", "p", "(I)I"⟩, 47) := ⟨⟨by decide +kernel, by decide +kernel⟩, List.mem_of_getElem? (i := 761) (by decide +kernel), List.mem_of_getElem? (i := 1042) (by decide +kernel), List.mem_of_getElem? (i := 1043) (by decide +kernel)⟩
theorem lw_p42 : lw_okq (⟨"AdderChooserModel", "xor", "(II)I"⟩, 47) := ⟨⟨by decide +kernel, by decide +kernel⟩, List.mem_of_getElem? (i := 761) (by decide +kernel), List.mem_of_getElem? (i := 1046) (by decide +kernel), List.mem_of_getElem? (i := 1047) (by decide +kernel)⟩
theorem lw_p43 : lw_okq (⟨"AdderChooserModel", "not", "(I)I"⟩, 47) := ⟨⟨by decide +kernel, by decide +kernel⟩, List.mem_of_getElem? (i := 761) (by decide +kernel), List.mem_of_getElem? (i := 1050) (by decide +kernel), List.mem_of_getElem? (i := 1051) (by decide +kernel)⟩
theorem lw_p44 : lw_okq (⟨"AdderChooserModel", "gate", "(III)I"⟩, 47) := ⟨⟨by decide +kernel, by decide +kernel⟩, List.mem_of_getElem? (i := 761) (by decide +kernel), List.mem_of_getElem? (i := 1054) (by decide +kernel), List.mem_of_getElem? (i := 1055) (by decide +kernel)⟩
theorem lw_p45 : lw_okq (⟨"AdderChooserModel", "g", "(I)I"⟩, 47) := ⟨⟨by decide +kernel, by decide +kernel⟩, List.mem_of_getElem? (i := 761) (by decide +kernel), List.mem_of_getElem? (i := 1058) (by decide +kernel), List.mem_of_getElem? (i := 1059) (by decide +kernel)⟩
theorem lw_p46 : lw_okq (⟨"AdderChooserModel", "and", "(II)I"⟩, 47) := ⟨⟨by decide +kernel, by decide +kernel⟩, List.mem_of_getElem? (i := 761) (by decide +kernel), List.mem_of_getElem? (i := 1062) (by decide +kernel), List.mem_of_getElem? (i := 1063) (by decide +kernel)⟩
theorem lw_p47 : lw_okq (⟨"AdderChooserModel", "or", "(II)I"⟩, 47) := ⟨⟨by decide +kernel, by decide +kernel⟩, List.mem_of_getElem? (i := 761) (by decide +kernel), List.mem_of_getElem? (i := 1066) (by decide +kernel), List.mem_of_getElem? (i := 1067) (by decide +kernel)⟩
def lw_privs_3 : List (MethodName × Nat) := [(⟨"AdderChooserModel", "width", "(I)I"⟩, 47), (⟨"AdderChooserModel", "placeKnown", "([III)I"⟩, 47), (⟨"AdderChooserModel", "knows", "(I)V"⟩, 47), (⟨"AdderChooserModel", "leaves", "(I)V"⟩, 47), (⟨"AdderChooserModel", "laysPlan", "(I)V"⟩, 47), (⟨"AdderChooserModel", "lays", "([III)V"⟩, 47), (⟨"AdderChooserModel", "clears", "()V"⟩, 47), (⟨"AdderChooserModel", "builds", "([III)V"⟩, 47), (⟨"AdderChooserModel", "ripples", "(III[I)I"⟩, 47), (⟨"AdderChooserModel", "p", "(I)I"⟩, 47), (⟨"AdderChooserModel", "xor", "(II)I"⟩, 47), (⟨"AdderChooserModel", "not", "(I)I"⟩, 47), (⟨"AdderChooserModel", "gate", "(III)I"⟩, 47), (⟨"AdderChooserModel", "g", "(I)I"⟩, 47), (⟨"AdderChooserModel", "and", "(II)I"⟩, 47), (⟨"AdderChooserModel", "or", "(II)I"⟩, 47)]
theorem lw_r3 : ∀ q ∈ lw_privs_3, lw_okq q := List.forall_mem_cons.mpr ⟨lw_p32, List.forall_mem_cons.mpr ⟨lw_p33, List.forall_mem_cons.mpr ⟨lw_p34, List.forall_mem_cons.mpr ⟨lw_p35, List.forall_mem_cons.mpr ⟨lw_p36, List.forall_mem_cons.mpr ⟨lw_p37, List.forall_mem_cons.mpr ⟨lw_p38, List.forall_mem_cons.mpr ⟨lw_p39, List.forall_mem_cons.mpr ⟨lw_p40, List.forall_mem_cons.mpr ⟨lw_p41, List.forall_mem_cons.mpr ⟨lw_p42, List.forall_mem_cons.mpr ⟨lw_p43, List.forall_mem_cons.mpr ⟨lw_p44, List.forall_mem_cons.mpr ⟨lw_p45, List.forall_mem_cons.mpr ⟨lw_p46, List.forall_mem_cons.mpr ⟨lw_p47, fun _ h => absurd h List.not_mem_nil⟩⟩⟩⟩⟩⟩⟩⟩⟩⟩⟩⟩⟩⟩⟩⟩
theorem lw_p48 : lw_okq (⟨"AdderChooserModel", "skips", "(III)I"⟩, 47) := ⟨⟨by decide +kernel, by decide +kernel⟩, List.mem_of_getElem? (i := 761) (by decide +kernel), List.mem_of_getElem? (i := 1070) (by decide +kernel), List.mem_of_getElem? (i := 1071) (by decide +kernel)⟩
theorem lw_p49 : lw_okq (⟨"AdderChooserModel", "selects", "(III)I"⟩, 47) := ⟨⟨by decide +kernel, by decide +kernel⟩, List.mem_of_getElem? (i := 761) (by decide +kernel), List.mem_of_getElem? (i := 1074) (by decide +kernel), List.mem_of_getElem? (i := 1075) (by decide +kernel)⟩
theorem lw_p50 : lw_okq (⟨"AdderChooserModel", "looksAhead", "(III)I"⟩, 47) := ⟨⟨by decide +kernel, by decide +kernel⟩, List.mem_of_getElem? (i := 761) (by decide +kernel), List.mem_of_getElem? (i := 1078) (by decide +kernel), List.mem_of_getElem? (i := 1079) (by decide +kernel)⟩
theorem lw_p51 : lw_okq (⟨"AdderChooserModel", "spanG", "(II)I"⟩, 47) := ⟨⟨by decide +kernel, by decide +kernel⟩, List.mem_of_getElem? (i := 761) (by decide +kernel), List.mem_of_getElem? (i := 1082) (by decide +kernel), List.mem_of_getElem? (i := 1083) (by decide +kernel)⟩
theorem lw_p52 : lw_okq (⟨"AdderChooserModel", "spanP", "(II)I"⟩, 47) := ⟨⟨by decide +kernel, by decide +kernel⟩, List.mem_of_getElem? (i := 761) (by decide +kernel), List.mem_of_getElem? (i := 1086) (by decide +kernel), List.mem_of_getElem? (i := 1087) (by decide +kernel)⟩
theorem lw_p53 : lw_okq (⟨"AdderChooserModel", "marks", "(I)V"⟩, 47) := ⟨⟨by decide +kernel, by decide +kernel⟩, List.mem_of_getElem? (i := 761) (by decide +kernel), List.mem_of_getElem? (i := 1090) (by decide +kernel), List.mem_of_getElem? (i := 1091) (by decide +kernel)⟩
theorem lw_p54 : lw_okq (⟨"AdderChooserModel", "tellsTimes", "()V"⟩, 47) := ⟨⟨by decide +kernel, by decide +kernel⟩, List.mem_of_getElem? (i := 761) (by decide +kernel), List.mem_of_getElem? (i := 1094) (by decide +kernel), List.mem_of_getElem? (i := 1095) (by decide +kernel)⟩
theorem lw_p55 : lw_okq (⟨"AdderChooserModel", "manyUsed", "(II)I"⟩, 47) := ⟨⟨by decide +kernel, by decide +kernel⟩, List.mem_of_getElem? (i := 761) (by decide +kernel), List.mem_of_getElem? (i := 1098) (by decide +kernel), List.mem_of_getElem? (i := 1099) (by decide +kernel)⟩
theorem lw_p56 : lw_okq (⟨"AdderChooserModel", "lastOut", "()I"⟩, 47) := ⟨⟨by decide +kernel, by decide +kernel⟩, List.mem_of_getElem? (i := 761) (by decide +kernel), List.mem_of_getElem? (i := 1106) (by decide +kernel), List.mem_of_getElem? (i := 1107) (by decide +kernel)⟩
theorem lw_p57 : lw_okq (⟨"AdderChooserModel", "areNumbers", "(IIII)Z"⟩, 47) := ⟨⟨by decide +kernel, by decide +kernel⟩, List.mem_of_getElem? (i := 761) (by decide +kernel), List.mem_of_getElem? (i := 1129) (by decide +kernel), List.mem_of_getElem? (i := 1130) (by decide +kernel)⟩
theorem lw_p58 : lw_okq (⟨"AdderChooserModel", "evaluates", "(III)V"⟩, 47) := ⟨⟨by decide +kernel, by decide +kernel⟩, List.mem_of_getElem? (i := 761) (by decide +kernel), List.mem_of_getElem? (i := 1133) (by decide +kernel), List.mem_of_getElem? (i := 1134) (by decide +kernel)⟩
theorem lw_p59 : lw_okq (⟨"AdderChooserModel", "settlesAll", "()V"⟩, 47) := ⟨⟨by decide +kernel, by decide +kernel⟩, List.mem_of_getElem? (i := 761) (by decide +kernel), List.mem_of_getElem? (i := 1141) (by decide +kernel), List.mem_of_getElem? (i := 1142) (by decide +kernel)⟩
theorem lw_p60 : lw_okq (⟨"AdderChooserModel", "goesThrough", "(II)I"⟩, 47) := ⟨⟨by decide +kernel, by decide +kernel⟩, List.mem_of_getElem? (i := 761) (by decide +kernel), List.mem_of_getElem? (i := 1149) (by decide +kernel), List.mem_of_getElem? (i := 1150) (by decide +kernel)⟩
theorem lw_p61 : lw_okq (⟨"AdderChooserModel", "chooses", "(III)V"⟩, 47) := ⟨⟨by decide +kernel, by decide +kernel⟩, List.mem_of_getElem? (i := 761) (by decide +kernel), List.mem_of_getElem? (i := 1175) (by decide +kernel), List.mem_of_getElem? (i := 1176) (by decide +kernel)⟩
theorem lw_p62 : lw_okq (⟨"AdderChooserModel", "goesOn", "(IIII)V"⟩, 47) := ⟨⟨by decide +kernel, by decide +kernel⟩, List.mem_of_getElem? (i := 761) (by decide +kernel), List.mem_of_getElem? (i := 1179) (by decide +kernel), List.mem_of_getElem? (i := 1180) (by decide +kernel)⟩
theorem lw_p63 : lw_okq (⟨"AdderChooserModel", "judges", "(II)V"⟩, 47) := ⟨⟨by decide +kernel, by decide +kernel⟩, List.mem_of_getElem? (i := 761) (by decide +kernel), List.mem_of_getElem? (i := 1183) (by decide +kernel), List.mem_of_getElem? (i := 1184) (by decide +kernel)⟩
def lw_privs_4 : List (MethodName × Nat) := [(⟨"AdderChooserModel", "skips", "(III)I"⟩, 47), (⟨"AdderChooserModel", "selects", "(III)I"⟩, 47), (⟨"AdderChooserModel", "looksAhead", "(III)I"⟩, 47), (⟨"AdderChooserModel", "spanG", "(II)I"⟩, 47), (⟨"AdderChooserModel", "spanP", "(II)I"⟩, 47), (⟨"AdderChooserModel", "marks", "(I)V"⟩, 47), (⟨"AdderChooserModel", "tellsTimes", "()V"⟩, 47), (⟨"AdderChooserModel", "manyUsed", "(II)I"⟩, 47), (⟨"AdderChooserModel", "lastOut", "()I"⟩, 47), (⟨"AdderChooserModel", "areNumbers", "(IIII)Z"⟩, 47), (⟨"AdderChooserModel", "evaluates", "(III)V"⟩, 47), (⟨"AdderChooserModel", "settlesAll", "()V"⟩, 47), (⟨"AdderChooserModel", "goesThrough", "(II)I"⟩, 47), (⟨"AdderChooserModel", "chooses", "(III)V"⟩, 47), (⟨"AdderChooserModel", "goesOn", "(IIII)V"⟩, 47), (⟨"AdderChooserModel", "judges", "(II)V"⟩, 47)]
theorem lw_r4 : ∀ q ∈ lw_privs_4, lw_okq q := List.forall_mem_cons.mpr ⟨lw_p48, List.forall_mem_cons.mpr ⟨lw_p49, List.forall_mem_cons.mpr ⟨lw_p50, List.forall_mem_cons.mpr ⟨lw_p51, List.forall_mem_cons.mpr ⟨lw_p52, List.forall_mem_cons.mpr ⟨lw_p53, List.forall_mem_cons.mpr ⟨lw_p54, List.forall_mem_cons.mpr ⟨lw_p55, List.forall_mem_cons.mpr ⟨lw_p56, List.forall_mem_cons.mpr ⟨lw_p57, List.forall_mem_cons.mpr ⟨lw_p58, List.forall_mem_cons.mpr ⟨lw_p59, List.forall_mem_cons.mpr ⟨lw_p60, List.forall_mem_cons.mpr ⟨lw_p61, List.forall_mem_cons.mpr ⟨lw_p62, List.forall_mem_cons.mpr ⟨lw_p63, fun _ h => absurd h List.not_mem_nil⟩⟩⟩⟩⟩⟩⟩⟩⟩⟩⟩⟩⟩⟩⟩⟩
theorem lw_p64 : lw_okq (⟨"AdderChooserModel", "meets", "(II)V"⟩, 47) := ⟨⟨by decide +kernel, by decide +kernel⟩, List.mem_of_getElem? (i := 761) (by decide +kernel), List.mem_of_getElem? (i := 1196) (by decide +kernel), List.mem_of_getElem? (i := 1197) (by decide +kernel)⟩
theorem lw_p65 : lw_okq (⟨"AdderChooserModel", "unlike", "()I"⟩, 47) := ⟨⟨by decide +kernel, by decide +kernel⟩, List.mem_of_getElem? (i := 761) (by decide +kernel), List.mem_of_getElem? (i := 1240) (by decide +kernel), List.mem_of_getElem? (i := 1241) (by decide +kernel)⟩
def lw_privs_5 : List (MethodName × Nat) := [(⟨"AdderChooserModel", "meets", "(II)V"⟩, 47), (⟨"AdderChooserModel", "unlike", "()I"⟩, 47)]
theorem lw_r5 : ∀ q ∈ lw_privs_5, lw_okq q := List.forall_mem_cons.mpr ⟨lw_p64, List.forall_mem_cons.mpr ⟨lw_p65, fun _ h => absurd h List.not_mem_nil⟩⟩
def lw_privs : List (MethodName × Nat) := lw_privs_1 ++ (lw_privs_2 ++ (lw_privs_3 ++ (lw_privs_4 ++ (lw_privs_5))))
def lw_tbl : List Cond := k2_sels lw_privs ++ tables_1
theorem lw_privs_ok : ∀ q ∈ lw_privs, lw_okq q := by
  show ∀ q ∈ lw_privs_1 ++ (lw_privs_2 ++ (lw_privs_3 ++ (lw_privs_4 ++ (lw_privs_5)))), lw_okq q
  exact List.forall_mem_append.mpr ⟨lw_r1, List.forall_mem_append.mpr ⟨lw_r2, List.forall_mem_append.mpr ⟨lw_r3, List.forall_mem_append.mpr ⟨lw_r4, lw_r5⟩⟩⟩⟩
def RX0 : String := "AdderChooser$Blocks"
def TX0 : u_T := fun k => match k with
  | _ => ("", "", "", false)
def tyX0 : Nat → FieldType := fun k => match k with
  | _ => .int
abbrev wsX00 : List Cond := u_ws RX0 TX0 0
theorem nmX0 : ∀ a, a < 0 → ∀ b, b < 0 → a ≠ b → (TX0 a).2.1 ≠ (TX0 b).2.1 := by decide +kernel
theorem tyX0_ok : ∀ k, k < 0 → parseFieldDescriptor (TX0 k).2.2.1 = some (tyX0 k) := by decide +kernel
abbrev cX0_amount : ByteArray := prog_2_method_2_code
def yX0_amount : MethodName := ⟨RX0, "amount", "(J)I"⟩
abbrev cX0_width : ByteArray := prog_2_method_3_code
def yX0_width : MethodName := ⟨RX0, "width", "(J)I"⟩
abbrev cX0_codeAt : ByteArray := prog_2_method_4_code
def yX0_codeAt : MethodName := ⟨RX0, "codeAt", "(JI)I"⟩
abbrev cX0_kindAt : ByteArray := prog_2_method_5_code
def yX0_kindAt : MethodName := ⟨RX0, "kindAt", "(JI)I"⟩
abbrev cX0_widthAt : ByteArray := prog_2_method_6_code
def yX0_widthAt : MethodName := ⟨RX0, "widthAt", "(JI)I"⟩
abbrev cX0_figureOf : ByteArray := prog_2_method_7_code
def yX0_figureOf : MethodName := ⟨RX0, "figureOf", "(JI)I"⟩
abbrev cX0_with : ByteArray := prog_2_method_8_code
def yX0_with : MethodName := ⟨RX0, "with", "(JIII)J"⟩
def RX1 : String := "AdderChooser$Known"
def TX1 : u_T := fun k => match k with
  | 0 => ("AdderChooser$Known", "asked", "[J", true)
  | _ => ("AdderChooser$Known", "size", "I", false)
def tyX1 : Nat → FieldType := fun k => match k with
  | 0 => .array .long
  | _ => .int
abbrev wsX10 : List Cond := u_ws RX1 TX1 2
theorem nmX1 : ∀ a, a < 2 → ∀ b, b < 2 → a ≠ b → (TX1 a).2.1 ≠ (TX1 b).2.1 := by decide +kernel
theorem tyX1_ok : ∀ k, k < 2 → parseFieldDescriptor (TX1 k).2.2.1 = some (tyX1 k) := by decide +kernel
abbrev cX1_init : ByteArray := prog_3_method_1_code
def yX1_init : MethodName := ⟨RX1, "<init>", "()V"⟩
abbrev cX1_holds : ByteArray := prog_3_method_2_code
def yX1_holds : MethodName := ⟨RX1, "holds", "(J)Z"⟩
abbrev cX1_ask : ByteArray := prog_3_method_3_code
def yX1_ask : MethodName := ⟨RX1, "ask", "(J)V"⟩
abbrev cX1_placeOf : ByteArray := prog_3_method_4_code
def yX1_placeOf : MethodName := ⟨RX1, "placeOf", "(J)I"⟩
def RX2 : String := "AdderChooser$Net"
def TX2 : u_T := fun k => match k with
  | 0 => ("AdderChooser$Net", "sort", "[I", true)
  | 1 => ("AdderChooser$Net", "lower", "[I", true)
  | 2 => ("AdderChooser$Net", "upper", "[I", true)
  | 3 => ("AdderChooser$Net", "used", "[Z", true)
  | 4 => ("AdderChooser$Net", "sums", "[I", true)
  | 5 => ("AdderChooser$Net", "size", "I", false)
  | 6 => ("AdderChooser$Net", "width", "I", false)
  | 7 => ("AdderChooser$Net", "carry", "I", false)
  | 8 => ("AdderChooser$Net", "newest", "[I", true)
  | 9 => ("AdderChooser$Net", "before", "[I", true)
  | 10 => ("AdderChooser$Net", "usedByFirst", "[Z", true)
  | 11 => ("AdderChooser$Net", "onlyOne", "[I", true)
  | 12 => ("AdderChooser$Net", "bothOf", "[I", true)
  | 13 => ("AdderChooser$Net", "sumsByZero", "[I", true)
  | _ => ("AdderChooser$Net", "sumsByOne", "[I", true)
def tyX2 : Nat → FieldType := fun k => match k with
  | 0 => .array .int
  | 1 => .array .int
  | 2 => .array .int
  | 3 => .array .boolean
  | 4 => .array .int
  | 5 => .int
  | 6 => .int
  | 7 => .int
  | 8 => .array .int
  | 9 => .array .int
  | 10 => .array .boolean
  | 11 => .array .int
  | 12 => .array .int
  | 13 => .array .int
  | _ => .array .int
abbrev wsX20 : List Cond := u_ws RX2 TX2 15
theorem nmX2 : ∀ a, a < 15 → ∀ b, b < 15 → a ≠ b → (TX2 a).2.1 ≠ (TX2 b).2.1 := by decide +kernel
theorem tyX2_ok : ∀ k, k < 15 → parseFieldDescriptor (TX2 k).2.2.1 = some (tyX2 k) := by decide +kernel
abbrev cX2_init : ByteArray := prog_4_method_1_code
def yX2_init : MethodName := ⟨RX2, "<init>", "()V"⟩
abbrev cX2_clear : ByteArray := prog_4_method_2_code
def yX2_clear : MethodName := ⟨RX2, "clear", "()V"⟩
abbrev cX2_cutBack : ByteArray := prog_4_method_3_code
def yX2_cutBack : MethodName := ⟨RX2, "cutBack", "(III)V"⟩
abbrev cX2_build : ByteArray := prog_4_method_4_code
def yX2_build : MethodName := ⟨RX2, "build", "(J)V"⟩
abbrev cX2_lay : ByteArray := prog_4_method_5_code
def yX2_lay : MethodName := ⟨RX2, "lay", "(II)V"⟩
abbrev cX2_outcomeGate : ByteArray := prog_4_method_6_code
def yX2_outcomeGate : MethodName := ⟨RX2, "outcomeGate", "(I)I"⟩
abbrev cX2_markUsed : ByteArray := prog_4_method_7_code
def yX2_markUsed : MethodName := ⟨RX2, "markUsed", "()V"⟩
abbrev cX2_usedGates : ByteArray := prog_4_method_8_code
def yX2_usedGates : MethodName := ⟨RX2, "usedGates", "(I)I"⟩
abbrev cX2_gatesOfBoth : ByteArray := prog_4_method_9_code
def yX2_gatesOfBoth : MethodName := ⟨RX2, "gatesOfBoth", "(JJ)I"⟩
abbrev cX2_ripple : ByteArray := prog_4_method_10_code
def yX2_ripple : MethodName := ⟨RX2, "ripple", "(III[I)I"⟩
abbrev cX2_laySkip : ByteArray := prog_4_method_11_code
def yX2_laySkip : MethodName := ⟨RX2, "laySkip", "(II)I"⟩
abbrev cX2_laySelect : ByteArray := prog_4_method_12_code
def yX2_laySelect : MethodName := ⟨RX2, "laySelect", "(II)I"⟩
abbrev cX2_layAhead : ByteArray := prog_4_method_13_code
def yX2_layAhead : MethodName := ⟨RX2, "layAhead", "(II)I"⟩
abbrev cX2_span : ByteArray := prog_4_method_14_code
def yX2_span : MethodName := ⟨RX2, "span", "(LAdderChooser$Net;IIZ)I"⟩
abbrev cX2_not : ByteArray := prog_4_method_15_code
def yX2_not : MethodName := ⟨RX2, "not", "(I)I"⟩
abbrev cX2_and : ByteArray := prog_4_method_16_code
def yX2_and : MethodName := ⟨RX2, "and", "(II)I"⟩
abbrev cX2_or : ByteArray := prog_4_method_17_code
def yX2_or : MethodName := ⟨RX2, "or", "(II)I"⟩
abbrev cX2_xor : ByteArray := prog_4_method_18_code
def yX2_xor : MethodName := ⟨RX2, "xor", "(II)I"⟩
abbrev cX2_made : ByteArray := prog_4_method_19_code
def yX2_made : MethodName := ⟨RX2, "made", "(III)I"⟩
def RX3 : String := "AdderChooser$Plans"
def TX3 : u_T := fun k => match k with
  | 0 => ("AdderChooser$Plans", "names", "[I", true)
  | 1 => ("AdderChooser$Plans", "blocks", "[J", true)
  | _ => ("AdderChooser$Plans", "amount", "I", false)
def tyX3 : Nat → FieldType := fun k => match k with
  | 0 => .array .int
  | 1 => .array .long
  | _ => .int
abbrev wsX30 : List Cond := u_ws RX3 TX3 3
theorem nmX3 : ∀ a, a < 3 → ∀ b, b < 3 → a ≠ b → (TX3 a).2.1 ≠ (TX3 b).2.1 := by decide +kernel
theorem tyX3_ok : ∀ k, k < 3 → parseFieldDescriptor (TX3 k).2.2.1 = some (tyX3 k) := by decide +kernel
abbrev cX3_init : ByteArray := prog_5_method_1_code
def yX3_init : MethodName := ⟨RX3, "<init>", "()V"⟩
abbrev cX3_has : ByteArray := prog_5_method_2_code
def yX3_has : MethodName := ⟨RX3, "has", "(I)Z"⟩
abbrev cX3_numberOf : ByteArray := prog_5_method_3_code
def yX3_numberOf : MethodName := ⟨RX3, "numberOf", "(I)I"⟩
abbrev cX3_tell : ByteArray := prog_5_method_4_code
def yX3_tell : MethodName := ⟨RX3, "tell", "(IJ)I"⟩
abbrev cX3_remove : ByteArray := prog_5_method_5_code
def yX3_remove : MethodName := ⟨RX3, "remove", "(I)V"⟩
abbrev cX3_nameLength : ByteArray := prog_5_method_6_code
def yX3_nameLength : MethodName := ⟨RX3, "nameLength", "(I)I"⟩
abbrev cX3_amountWith : ByteArray := prog_5_method_7_code
def yX3_amountWith : MethodName := ⟨RX3, "amountWith", "(J)I"⟩
abbrev cX3_amountOfBlocks : ByteArray := prog_5_method_8_code
def yX3_amountOfBlocks : MethodName := ⟨RX3, "amountOfBlocks", "()I"⟩
abbrev cX3_unlikeBlocks : ByteArray := prog_5_method_9_code
def yX3_unlikeBlocks : MethodName := ⟨RX3, "unlikeBlocks", "()I"⟩
def RX4 : String := "AdderChooser$Search"
def TX4 : u_T := fun k => match k with
  | 0 => ("AdderChooser$Search", "done", "Z", false)
  | 1 => ("AdderChooser$Search", "inTime", "I", false)
  | 2 => ("AdderChooser$Search", "fewest", "I", false)
  | 3 => ("AdderChooser$Search", "when", "I", false)
  | 4 => ("AdderChooser$Search", "best", "J", false)
  | 5 => ("AdderChooser$Search", "width", "I", false)
  | 6 => ("AdderChooser$Search", "kinds", "I", false)
  | _ => ("AdderChooser$Search", "limit", "I", false)
def tyX4 : Nat → FieldType := fun k => match k with
  | 0 => .boolean
  | 1 => .int
  | 2 => .int
  | 3 => .int
  | 4 => .long
  | 5 => .int
  | 6 => .int
  | _ => .int
abbrev wsX40 : List Cond := u_ws RX4 TX4 8
theorem nmX4 : ∀ a, a < 8 → ∀ b, b < 8 → a ≠ b → (TX4 a).2.1 ≠ (TX4 b).2.1 := by decide +kernel
theorem tyX4_ok : ∀ k, k < 8 → parseFieldDescriptor (TX4 k).2.2.1 = some (tyX4 k) := by decide +kernel
abbrev cX4_init : ByteArray := prog_6_method_1_code
def yX4_init : MethodName := ⟨RX4, "<init>", "()V"⟩
abbrev cX4_run : ByteArray := prog_6_method_2_code
def yX4_run : MethodName := ⟨RX4, "run", "(LAdderChooser$Net;LAdderChooser$Timing;III)V"⟩
abbrev cX4_grow : ByteArray := prog_6_method_3_code
def yX4_grow : MethodName := ⟨RX4, "grow", "(LAdderChooser$Search;LAdderChooser$Net;LAdderChooser$Timing;JI)V"⟩
abbrev cX4_weigh : ByteArray := prog_6_method_4_code
def yX4_weigh : MethodName := ⟨RX4, "weigh", "(LAdderChooser$Net;LAdderChooser$Timing;J)V"⟩
def RX5 : String := "AdderChooser$Shelf"
def TX5 : u_T := fun k => match k with
  | 0 => ("AdderChooser$Shelf", "items", "[J", true)
  | 1 => ("AdderChooser$Shelf", "sort", "I", false)
  | 2 => ("AdderChooser$Shelf", "size", "I", false)
  | _ => ("AdderChooser$Shelf", "blocks", "J", false)
def tyX5 : Nat → FieldType := fun k => match k with
  | 0 => .array .long
  | 1 => .int
  | 2 => .int
  | _ => .long
abbrev wsX50 : List Cond := u_ws RX5 TX5 4
theorem nmX5 : ∀ a, a < 4 → ∀ b, b < 4 → a ≠ b → (TX5 a).2.1 ≠ (TX5 b).2.1 := by decide +kernel
theorem tyX5_ok : ∀ k, k < 4 → parseFieldDescriptor (TX5 k).2.2.1 = some (tyX5 k) := by decide +kernel
abbrev cX5_init : ByteArray := prog_7_method_1_code
def yX5_init : MethodName := ⟨RX5, "<init>", "()V"⟩
abbrev cX5_holdBlocks : ByteArray := prog_7_method_2_code
def yX5_holdBlocks : MethodName := ⟨RX5, "holdBlocks", "(J)V"⟩
abbrev cX5_holdRow : ByteArray := prog_7_method_3_code
def yX5_holdRow : MethodName := ⟨RX5, "holdRow", "(II)V"⟩
abbrev cX5_isRow : ByteArray := prog_7_method_4_code
def yX5_isRow : MethodName := ⟨RX5, "isRow", "()Z"⟩
abbrev cX5_leadingArrivals : ByteArray := prog_7_method_5_code
def yX5_leadingArrivals : MethodName := ⟨RX5, "leadingArrivals", "()I"⟩
def RX6 : String := "AdderChooser$Sweep"
def TX6 : u_T := fun k => match k with
  | 0 => ("AdderChooser$Sweep", "done", "Z", false)
  | 1 => ("AdderChooser$Sweep", "settled", "[I", true)
  | 2 => ("AdderChooser$Sweep", "swept", "J", false)
  | _ => ("AdderChooser$Sweep", "width", "I", false)
def tyX6 : Nat → FieldType := fun k => match k with
  | 0 => .boolean
  | 1 => .array .int
  | 2 => .long
  | _ => .int
abbrev wsX60 : List Cond := u_ws RX6 TX6 4
theorem nmX6 : ∀ a, a < 4 → ∀ b, b < 4 → a ≠ b → (TX6 a).2.1 ≠ (TX6 b).2.1 := by decide +kernel
theorem tyX6_ok : ∀ k, k < 4 → parseFieldDescriptor (TX6 k).2.2.1 = some (tyX6 k) := by decide +kernel
abbrev cX6_init : ByteArray := prog_8_method_1_code
def yX6_init : MethodName := ⟨RX6, "<init>", "()V"⟩
abbrev cX6_over : ByteArray := prog_8_method_2_code
def yX6_over : MethodName := ⟨RX6, "over", "(LAdderChooser$Net;LAdderChooser$Timing;J)V"⟩
abbrev cX6_worst : ByteArray := prog_8_method_3_code
def yX6_worst : MethodName := ⟨RX6, "worst", "(I)I"⟩
abbrev cX6_settledBy : ByteArray := prog_8_method_4_code
def yX6_settledBy : MethodName := ⟨RX6, "settledBy", "(I)I"⟩
abbrev cX6_amount : ByteArray := prog_8_method_5_code
def yX6_amount : MethodName := ⟨RX6, "amount", "()I"⟩
abbrev cX6_numberA : ByteArray := prog_8_method_6_code
def yX6_numberA : MethodName := ⟨RX6, "numberA", "(I)I"⟩
abbrev cX6_numberB : ByteArray := prog_8_method_7_code
def yX6_numberB : MethodName := ⟨RX6, "numberB", "(I)I"⟩
def RX7 : String := "AdderChooser$Tape"
def TX7 : u_T := fun k => match k with
  | 0 => ("AdderChooser$Tape", "bytes", "[I", true)
  | 1 => ("AdderChooser$Tape", "length", "I", false)
  | _ => ("AdderChooser$Tape", "told", "J", false)
def tyX7 : Nat → FieldType := fun k => match k with
  | 0 => .array .int
  | 1 => .int
  | _ => .long
abbrev wsX70 : List Cond := u_ws RX7 TX7 3
theorem nmX7 : ∀ a, a < 3 → ∀ b, b < 3 → a ≠ b → (TX7 a).2.1 ≠ (TX7 b).2.1 := by decide +kernel
theorem tyX7_ok : ∀ k, k < 3 → parseFieldDescriptor (TX7 k).2.2.1 = some (tyX7 k) := by decide +kernel
abbrev cX7_init : ByteArray := prog_9_method_1_code
def yX7_init : MethodName := ⟨RX7, "<init>", "()V"⟩
abbrev cX7_append : ByteArray := prog_9_method_2_code
def yX7_append : MethodName := ⟨RX7, "append", "(I)Z"⟩
abbrev cX7_letters : ByteArray := prog_9_method_3_code
def yX7_letters : MethodName := ⟨RX7, "letters", "()I"⟩
abbrev cX7_nameCode : ByteArray := prog_9_method_4_code
def yX7_nameCode : MethodName := ⟨RX7, "nameCode", "(I)I"⟩
abbrev cX7_takeName : ByteArray := prog_9_method_5_code
def yX7_takeName : MethodName := ⟨RX7, "takeName", "()I"⟩
abbrev cX7_parse : ByteArray := prog_9_method_6_code
def yX7_parse : MethodName := ⟨RX7, "parse", "()I"⟩
abbrev cX7_isLetter : ByteArray := prog_9_method_7_code
def yX7_isLetter : MethodName := ⟨RX7, "isLetter", "(I)Z"⟩
abbrev cX7_kindOf : ByteArray := prog_9_method_8_code
def yX7_kindOf : MethodName := ⟨RX7, "kindOf", "(I)I"⟩
def RX8 : String := "AdderChooser$Timing"
def TX8 : u_T := fun k => match k with
  | 0 => ("AdderChooser$Timing", "delays", "[I", true)
  | 1 => ("AdderChooser$Timing", "arrivals", "[I", true)
  | 2 => ("AdderChooser$Timing", "when", "[I", true)
  | 3 => ("AdderChooser$Timing", "value", "[I", true)
  | 4 => ("AdderChooser$Timing", "hanging", "[Z", true)
  | _ => ("AdderChooser$Timing", "depth", "[I", true)
def tyX8 : Nat → FieldType := fun k => match k with
  | 0 => .array .int
  | 1 => .array .int
  | 2 => .array .int
  | 3 => .array .int
  | 4 => .array .boolean
  | _ => .array .int
abbrev wsX80 : List Cond := u_ws RX8 TX8 6
theorem nmX8 : ∀ a, a < 6 → ∀ b, b < 6 → a ≠ b → (TX8 a).2.1 ≠ (TX8 b).2.1 := by decide +kernel
theorem tyX8_ok : ∀ k, k < 6 → parseFieldDescriptor (TX8 k).2.2.1 = some (tyX8 k) := by decide +kernel
abbrev cX8_init : ByteArray := prog_10_method_1_code
def yX8_init : MethodName := ⟨RX8, "<init>", "()V"⟩
abbrev cX8_come : ByteArray := prog_10_method_2_code
def yX8_come : MethodName := ⟨RX8, "come", "(LAdderChooser$Net;)V"⟩
abbrev cX8_settle : ByteArray := prog_10_method_3_code
def yX8_settle : MethodName := ⟨RX8, "settle", "(LAdderChooser$Net;III)V"⟩
abbrev cX8_ofOutcome : ByteArray := prog_10_method_4_code
def yX8_ofOutcome : MethodName := ⟨RX8, "ofOutcome", "(LAdderChooser$Net;I)I"⟩
abbrev cX8_outcomeBits : ByteArray := prog_10_method_5_code
def yX8_outcomeBits : MethodName := ⟨RX8, "outcomeBits", "(LAdderChooser$Net;)I"⟩
abbrev cX8_unlikeTimes : ByteArray := prog_10_method_6_code
def yX8_unlikeTimes : MethodName := ⟨RX8, "unlikeTimes", "(LAdderChooser$Net;)I"⟩
abbrev cX8_markHanging : ByteArray := prog_10_method_7_code
def yX8_markHanging : MethodName := ⟨RX8, "markHanging", "(LAdderChooser$Net;)V"⟩
abbrev cX8_hangingInputs : ByteArray := prog_10_method_8_code
def yX8_hangingInputs : MethodName := ⟨RX8, "hangingInputs", "()I"⟩
abbrev cX8_deepest : ByteArray := prog_10_method_9_code
def yX8_deepest : MethodName := ⟨RX8, "deepest", "(LAdderChooser$Net;)I"⟩
abbrev cX8_inputsArrive : ByteArray := prog_10_method_10_code
def yX8_inputsArrive : MethodName := ⟨RX8, "inputsArrive", "()V"⟩
abbrev cX8_lastOutcome : ByteArray := prog_10_method_11_code
def yX8_lastOutcome : MethodName := ⟨RX8, "lastOutcome", "(LAdderChooser$Net;)I"⟩
abbrev cX8_laterPart : ByteArray := prog_10_method_12_code
def yX8_laterPart : MethodName := ⟨RX8, "laterPart", "(LAdderChooser$Net;I)I"⟩
abbrev cX8_isRuled : ByteArray := prog_10_method_13_code
def yX8_isRuled : MethodName := ⟨RX8, "isRuled", "(II)Z"⟩
abbrev cX8_rulingPart : ByteArray := prog_10_method_14_code
def yX8_rulingPart : MethodName := ⟨RX8, "rulingPart", "(LAdderChooser$Net;I)I"⟩
abbrev cX8_valueOf : ByteArray := prog_10_method_15_code
def yX8_valueOf : MethodName := ⟨RX8, "valueOf", "(LAdderChooser$Net;I)I"⟩
abbrev cX8_isHeldUpBy : ByteArray := prog_10_method_16_code
def yX8_isHeldUpBy : MethodName := ⟨RX8, "isHeldUpBy", "(LAdderChooser$Net;II)Z"⟩
abbrev cX8_depthBelow : ByteArray := prog_10_method_17_code
def yX8_depthBelow : MethodName := ⟨RX8, "depthBelow", "(LAdderChooser$Net;II)I"⟩
def RX9 : String := "AdderChooser"
def TX9 : u_T := fun k => match k with
  | 0 => ("AdderChooser", "tape", "LAdderChooser$Tape;", true)
  | 1 => ("AdderChooser", "plans", "LAdderChooser$Plans;", true)
  | 2 => ("AdderChooser", "memory", "LAdderChooser$Known;", true)
  | 3 => ("AdderChooser", "net", "LAdderChooser$Net;", true)
  | 4 => ("AdderChooser", "timing", "LAdderChooser$Timing;", true)
  | 5 => ("AdderChooser", "sweep", "LAdderChooser$Sweep;", true)
  | 6 => ("AdderChooser", "search", "LAdderChooser$Search;", true)
  | 7 => ("AdderChooser", "shelves", "[LAdderChooser$Shelf;", true)
  | _ => ("AdderChooser", "live", "[J", true)
def tyX9 : Nat → FieldType := fun k => match k with
  | 0 => .object "AdderChooser$Tape"
  | 1 => .object "AdderChooser$Plans"
  | 2 => .object "AdderChooser$Known"
  | 3 => .object "AdderChooser$Net"
  | 4 => .object "AdderChooser$Timing"
  | 5 => .object "AdderChooser$Sweep"
  | 6 => .object "AdderChooser$Search"
  | 7 => .array (.object "AdderChooser$Shelf")
  | _ => .array .long
abbrev wsX90 : List Cond := u_ws RX9 TX9 9
theorem nmX9 : ∀ a, a < 9 → ∀ b, b < 9 → a ≠ b → (TX9 a).2.1 ≠ (TX9 b).2.1 := by decide +kernel
theorem tyX9_ok : ∀ k, k < 9 → parseFieldDescriptor (TX9 k).2.2.1 = some (tyX9 k) := by decide +kernel
abbrev cX9_init : ByteArray := prog_1_method_1_code
def yX9_init : MethodName := ⟨RX9, "<init>", "()V"⟩
abbrev cX9_feed : ByteArray := prog_1_method_2_code
def yX9_feed : MethodName := ⟨RX9, "feed", "(I)I"⟩
abbrev cX9_read : ByteArray := prog_1_method_3_code
def yX9_read : MethodName := ⟨RX9, "read", "()I"⟩
abbrev cX9_find : ByteArray := prog_1_method_4_code
def yX9_find : MethodName := ⟨RX9, "find", "()I"⟩
abbrev cX9_forget : ByteArray := prog_1_method_5_code
def yX9_forget : MethodName := ⟨RX9, "forget", "(I)I"⟩
abbrev cX9_plan : ByteArray := prog_1_method_6_code
def yX9_plan : MethodName := ⟨RX9, "plan", "(II)I"⟩
abbrev cX9_name : ByteArray := prog_1_method_7_code
def yX9_name : MethodName := ⟨RX9, "name", "(II)I"⟩
abbrev cX9_delay : ByteArray := prog_1_method_8_code
def yX9_delay : MethodName := ⟨RX9, "delay", "(II)I"⟩
abbrev cX9_arrival : ByteArray := prog_1_method_9_code
def yX9_arrival : MethodName := ⟨RX9, "arrival", "(III)I"⟩
abbrev cX9_arrives : ByteArray := prog_1_method_10_code
def yX9_arrives : MethodName := ⟨RX9, "arrives", "(II)I"⟩
abbrev cX9_gates : ByteArray := prog_1_method_11_code
def yX9_gates : MethodName := ⟨RX9, "gates", "(II)I"⟩
abbrev cX9_latest : ByteArray := prog_1_method_12_code
def yX9_latest : MethodName := ⟨RX9, "latest", "(II)I"⟩
abbrev cX9_deep : ByteArray := prog_1_method_13_code
def yX9_deep : MethodName := ⟨RX9, "deep", "(I)I"⟩
abbrev cX9_hangs : ByteArray := prog_1_method_14_code
def yX9_hangs : MethodName := ⟨RX9, "hangs", "(I)I"⟩
abbrev cX9_times : ByteArray := prog_1_method_15_code
def yX9_times : MethodName := ⟨RX9, "times", "(I)I"⟩
abbrev cX9_adds : ByteArray := prog_1_method_16_code
def yX9_adds : MethodName := ⟨RX9, "adds", "(IIII)I"⟩
abbrev cX9_settles : ByteArray := prog_1_method_17_code
def yX9_settles : MethodName := ⟨RX9, "settles", "(IIIII)I"⟩
abbrev cX9_slowest : ByteArray := prog_1_method_18_code
def yX9_slowest : MethodName := ⟨RX9, "slowest", "(II)I"⟩
abbrev cX9_intime : ByteArray := prog_1_method_19_code
def yX9_intime : MethodName := ⟨RX9, "intime", "(II)I"⟩
abbrev cX9_shared : ByteArray := prog_1_method_20_code
def yX9_shared : MethodName := ⟨RX9, "shared", "(II)I"⟩
abbrev cX9_alike : ByteArray := prog_1_method_21_code
def yX9_alike : MethodName := ⟨RX9, "alike", "(II)I"⟩
abbrev cX9_known : ByteArray := prog_1_method_22_code
def yX9_known : MethodName := ⟨RX9, "known", "(I)I"⟩
abbrev cX9_choose : ByteArray := prog_1_method_23_code
def yX9_choose : MethodName := ⟨RX9, "choose", "(IIII)I"⟩
abbrev cX9_chosen : ByteArray := prog_1_method_24_code
def yX9_chosen : MethodName := ⟨RX9, "chosen", "(III)I"⟩
abbrev cX9_longest : ByteArray := prog_1_method_25_code
def yX9_longest : MethodName := ⟨RX9, "longest", "(IIIII)I"⟩
abbrev cX9_runs : ByteArray := prog_1_method_26_code
def yX9_runs : MethodName := ⟨RX9, "runs", "(II)J"⟩
abbrev cX9_shelve : ByteArray := prog_1_method_27_code
def yX9_shelve : MethodName := ⟨RX9, "shelve", "(II)I"⟩
abbrev cX9_taken : ByteArray := prog_1_method_28_code
def yX9_taken : MethodName := ⟨RX9, "taken", "(II)I"⟩
abbrev cX9_row : ByteArray := prog_1_method_29_code
def yX9_row : MethodName := ⟨RX9, "row", "(III)I"⟩
abbrev cX9_put : ByteArray := prog_1_method_30_code
def yX9_put : MethodName := ⟨RX9, "put", "(IIJ)I"⟩
abbrev cX9_get : ByteArray := prog_1_method_31_code
def yX9_get : MethodName := ⟨RX9, "get", "(II)J"⟩
abbrev cX9_into : ByteArray := prog_1_method_32_code
def yX9_into : MethodName := ⟨RX9, "into", "(II)I"⟩
abbrev cX9_from : ByteArray := prog_1_method_33_code
def yX9_from : MethodName := ⟨RX9, "from", "(II)I"⟩
abbrev cX9_count : ByteArray := prog_1_method_34_code
def yX9_count : MethodName := ⟨RX9, "count", "(I)I"⟩
abbrev cX9_timesHaveChanged : ByteArray := prog_1_method_35_code
def yX9_timesHaveChanged : MethodName := ⟨RX9, "timesHaveChanged", "()V"⟩
abbrev cX9_buildNetOf : ByteArray := prog_1_method_36_code
def yX9_buildNetOf : MethodName := ⟨RX9, "buildNetOf", "(I)V"⟩
abbrev cX9_hasOutcome : ByteArray := prog_1_method_37_code
def yX9_hasOutcome : MethodName := ⟨RX9, "hasOutcome", "(II)Z"⟩
abbrev cX9_filledShelves : ByteArray := prog_1_method_38_code
def yX9_filledShelves : MethodName := ⟨RX9, "filledShelves", "()I"⟩
abbrev cX9_isInput : ByteArray := prog_1_method_39_code
def yX9_isInput : MethodName := ⟨RX9, "isInput", "(II)Z"⟩
abbrev cX9_areNumbers : ByteArray := prog_1_method_40_code
def yX9_areNumbers : MethodName := ⟨RX9, "areNumbers", "(IIII)Z"⟩
abbrev cX9_canChoose : ByteArray := prog_1_method_41_code
def yX9_canChoose : MethodName := ⟨RX9, "canChoose", "(III)Z"⟩
abbrev cX9_isShelf : ByteArray := prog_1_method_42_code
def yX9_isShelf : MethodName := ⟨RX9, "isShelf", "(I)Z"⟩
def RX10 : String := "AdderChooserModel"
def TX10 : u_T := fun k => match k with
  | 0 => ("AdderChooserModel", "names", "[I", true)
  | 1 => ("AdderChooserModel", "nameLong", "[I", true)
  | 2 => ("AdderChooserModel", "blocks", "[I", true)
  | 3 => ("AdderChooserModel", "blockMany", "[I", true)
  | 4 => ("AdderChooserModel", "plans", "I", false)
  | 5 => ("AdderChooserModel", "tape", "[I", true)
  | 6 => ("AdderChooserModel", "named", "[I", true)
  | 7 => ("AdderChooserModel", "told", "[I", true)
  | 8 => ("AdderChooserModel", "fed", "I", false)
  | 9 => ("AdderChooserModel", "namedLong", "I", false)
  | 10 => ("AdderChooserModel", "toldMany", "I", false)
  | 11 => ("AdderChooserModel", "at", "I", false)
  | 12 => ("AdderChooserModel", "knownBlocks", "[I", true)
  | 13 => ("AdderChooserModel", "knownMany", "[I", true)
  | 14 => ("AdderChooserModel", "known", "I", false)
  | 15 => ("AdderChooserModel", "delays", "[I", true)
  | 16 => ("AdderChooserModel", "arrivals", "[I", true)
  | 17 => ("AdderChooserModel", "kinds", "[I", true)
  | 18 => ("AdderChooserModel", "lefts", "[I", true)
  | 19 => ("AdderChooserModel", "rights", "[I", true)
  | 20 => ("AdderChooserModel", "used", "[I", true)
  | 21 => ("AdderChooserModel", "comes", "[I", true)
  | 22 => ("AdderChooserModel", "values", "[I", true)
  | 23 => ("AdderChooserModel", "chains", "[I", true)
  | 24 => ("AdderChooserModel", "outs", "[I", true)
  | 25 => ("AdderChooserModel", "zeros", "[I", true)
  | 26 => ("AdderChooserModel", "others", "[I", true)
  | 27 => ("AdderChooserModel", "gates", "I", false)
  | 28 => ("AdderChooserModel", "outMany", "I", false)
  | 29 => ("AdderChooserModel", "slowestA", "I", false)
  | 30 => ("AdderChooserModel", "slowestB", "I", false)
  | 31 => ("AdderChooserModel", "slowestC", "I", false)
  | 32 => ("AdderChooserModel", "slowestBy", "I", false)
  | 33 => ("AdderChooserModel", "row", "[I", true)
  | 34 => ("AdderChooserModel", "best", "[I", true)
  | 35 => ("AdderChooserModel", "bestMany", "I", false)
  | 36 => ("AdderChooserModel", "bestGates", "I", false)
  | 37 => ("AdderChooserModel", "bestLatest", "I", false)
  | 38 => ("AdderChooserModel", "inTime", "I", false)
  | 39 => ("AdderChooserModel", "runMost", "I", false)
  | 40 => ("AdderChooserModel", "runFrom", "I", false)
  | 41 => ("AdderChooserModel", "ways", "[J", true)
  | 42 => ("AdderChooserModel", "then", "[J", true)
  | 43 => ("AdderChooserModel", "sorts", "[I", true)
  | 44 => ("AdderChooserModel", "sizes", "[I", true)
  | 45 => ("AdderChooserModel", "shelved", "[I", true)
  | _ => ("AdderChooserModel", "items", "[J", true)
def tyX10 : Nat → FieldType := fun k => match k with
  | 0 => .array .int
  | 1 => .array .int
  | 2 => .array .int
  | 3 => .array .int
  | 4 => .int
  | 5 => .array .int
  | 6 => .array .int
  | 7 => .array .int
  | 8 => .int
  | 9 => .int
  | 10 => .int
  | 11 => .int
  | 12 => .array .int
  | 13 => .array .int
  | 14 => .int
  | 15 => .array .int
  | 16 => .array .int
  | 17 => .array .int
  | 18 => .array .int
  | 19 => .array .int
  | 20 => .array .int
  | 21 => .array .int
  | 22 => .array .int
  | 23 => .array .int
  | 24 => .array .int
  | 25 => .array .int
  | 26 => .array .int
  | 27 => .int
  | 28 => .int
  | 29 => .int
  | 30 => .int
  | 31 => .int
  | 32 => .int
  | 33 => .array .int
  | 34 => .array .int
  | 35 => .int
  | 36 => .int
  | 37 => .int
  | 38 => .int
  | 39 => .int
  | 40 => .int
  | 41 => .array .long
  | 42 => .array .long
  | 43 => .array .int
  | 44 => .array .int
  | 45 => .array .int
  | _ => .array .long
abbrev wsX100 : List Cond := u_ws RX10 TX10 47
theorem nmX10 : ∀ a, a < 47 → ∀ b, b < 47 → a ≠ b → (TX10 a).2.1 ≠ (TX10 b).2.1 := by decide +kernel
theorem tyX10_ok : ∀ k, k < 47 → parseFieldDescriptor (TX10 k).2.2.1 = some (tyX10 k) := by decide +kernel
abbrev cX10_init : ByteArray := prog_12_method_1_code
def yX10_init : MethodName := ⟨RX10, "<init>", "()V"⟩
abbrev cX10_in : ByteArray := prog_12_method_2_code
def yX10_in : MethodName := ⟨RX10, "in", "(JJJ)Z"⟩
abbrev cX10_has : ByteArray := prog_12_method_3_code
def yX10_has : MethodName := ⟨RX10, "has", "(II)Z"⟩
abbrev cX10_isPlan : ByteArray := prog_12_method_4_code
def yX10_isPlan : MethodName := ⟨RX10, "isPlan", "(I)Z"⟩
abbrev cX10_widthOf : ByteArray := prog_12_method_5_code
def yX10_widthOf : MethodName := ⟨RX10, "widthOf", "([III)I"⟩
abbrev cX10_width : ByteArray := prog_12_method_6_code
def yX10_width : MethodName := ⟨RX10, "width", "(I)I"⟩
abbrev cX10_areAlike : ByteArray := prog_12_method_7_code
def yX10_areAlike : MethodName := ⟨RX10, "areAlike", "([III[III)Z"⟩
abbrev cX10_feed : ByteArray := prog_12_method_8_code
def yX10_feed : MethodName := ⟨RX10, "feed", "(I)I"⟩
abbrev cX10_here : ByteArray := prog_12_method_9_code
def yX10_here : MethodName := ⟨RX10, "here", "()I"⟩
abbrev cX10_readsName : ByteArray := prog_12_method_10_code
def yX10_readsName : MethodName := ⟨RX10, "readsName", "()V"⟩
abbrev cX10_kindOf : ByteArray := prog_12_method_11_code
def yX10_kindOf : MethodName := ⟨RX10, "kindOf", "(I)I"⟩
abbrev cX10_areBlocks : ByteArray := prog_12_method_12_code
def yX10_areBlocks : MethodName := ⟨RX10, "areBlocks", "()Z"⟩
abbrev cX10_planNamed : ByteArray := prog_12_method_13_code
def yX10_planNamed : MethodName := ⟨RX10, "planNamed", "()I"⟩
abbrev cX10_becomes : ByteArray := prog_12_method_14_code
def yX10_becomes : MethodName := ⟨RX10, "becomes", "([II)I"⟩
abbrev cX10_read : ByteArray := prog_12_method_15_code
def yX10_read : MethodName := ⟨RX10, "read", "()I"⟩
abbrev cX10_isNamed : ByteArray := prog_12_method_16_code
def yX10_isNamed : MethodName := ⟨RX10, "isNamed", "()Z"⟩
abbrev cX10_find : ByteArray := prog_12_method_17_code
def yX10_find : MethodName := ⟨RX10, "find", "()I"⟩
abbrev cX10_forget : ByteArray := prog_12_method_18_code
def yX10_forget : MethodName := ⟨RX10, "forget", "(I)I"⟩
abbrev cX10_plan : ByteArray := prog_12_method_19_code
def yX10_plan : MethodName := ⟨RX10, "plan", "(II)I"⟩
abbrev cX10_name : ByteArray := prog_12_method_20_code
def yX10_name : MethodName := ⟨RX10, "name", "(II)I"⟩
abbrev cX10_placeKnown : ByteArray := prog_12_method_21_code
def yX10_placeKnown : MethodName := ⟨RX10, "placeKnown", "([III)I"⟩
abbrev cX10_leaves : ByteArray := prog_12_method_22_code
def yX10_leaves : MethodName := ⟨RX10, "leaves", "(I)V"⟩
abbrev cX10_knows : ByteArray := prog_12_method_23_code
def yX10_knows : MethodName := ⟨RX10, "knows", "(I)V"⟩
abbrev cX10_known : ByteArray := prog_12_method_24_code
def yX10_known : MethodName := ⟨RX10, "known", "(I)I"⟩
abbrev cX10_sideAt : ByteArray := prog_12_method_25_code
def yX10_sideAt : MethodName := ⟨RX10, "sideAt", "(II)I"⟩
abbrev cX10_delay : ByteArray := prog_12_method_26_code
def yX10_delay : MethodName := ⟨RX10, "delay", "(II)I"⟩
abbrev cX10_arrival : ByteArray := prog_12_method_27_code
def yX10_arrival : MethodName := ⟨RX10, "arrival", "(III)I"⟩
abbrev cX10_arrives : ByteArray := prog_12_method_28_code
def yX10_arrives : MethodName := ⟨RX10, "arrives", "(II)I"⟩
abbrev cX10_clears : ByteArray := prog_12_method_29_code
def yX10_clears : MethodName := ⟨RX10, "clears", "()V"⟩
abbrev cX10_gate : ByteArray := prog_12_method_30_code
def yX10_gate : MethodName := ⟨RX10, "gate", "(III)I"⟩
abbrev cX10_not : ByteArray := prog_12_method_31_code
def yX10_not : MethodName := ⟨RX10, "not", "(I)I"⟩
abbrev cX10_and : ByteArray := prog_12_method_32_code
def yX10_and : MethodName := ⟨RX10, "and", "(II)I"⟩
abbrev cX10_or : ByteArray := prog_12_method_33_code
def yX10_or : MethodName := ⟨RX10, "or", "(II)I"⟩
abbrev cX10_xor : ByteArray := prog_12_method_34_code
def yX10_xor : MethodName := ⟨RX10, "xor", "(II)I"⟩
abbrev cX10_p : ByteArray := prog_12_method_35_code
def yX10_p : MethodName := ⟨RX10, "p", "(I)I"⟩
abbrev cX10_g : ByteArray := prog_12_method_36_code
def yX10_g : MethodName := ⟨RX10, "g", "(I)I"⟩
abbrev cX10_ripples : ByteArray := prog_12_method_37_code
def yX10_ripples : MethodName := ⟨RX10, "ripples", "(III[I)I"⟩
abbrev cX10_skips : ByteArray := prog_12_method_38_code
def yX10_skips : MethodName := ⟨RX10, "skips", "(III)I"⟩
abbrev cX10_selects : ByteArray := prog_12_method_39_code
def yX10_selects : MethodName := ⟨RX10, "selects", "(III)I"⟩
abbrev cX10_spanP : ByteArray := prog_12_method_40_code
def yX10_spanP : MethodName := ⟨RX10, "spanP", "(II)I"⟩
abbrev cX10_spanG : ByteArray := prog_12_method_41_code
def yX10_spanG : MethodName := ⟨RX10, "spanG", "(II)I"⟩
abbrev cX10_looksAhead : ByteArray := prog_12_method_42_code
def yX10_looksAhead : MethodName := ⟨RX10, "looksAhead", "(III)I"⟩
abbrev cX10_builds : ByteArray := prog_12_method_43_code
def yX10_builds : MethodName := ⟨RX10, "builds", "([III)V"⟩
abbrev cX10_marks : ByteArray := prog_12_method_44_code
def yX10_marks : MethodName := ⟨RX10, "marks", "(I)V"⟩
abbrev cX10_manyUsed : ByteArray := prog_12_method_45_code
def yX10_manyUsed : MethodName := ⟨RX10, "manyUsed", "(II)I"⟩
abbrev cX10_tellsTimes : ByteArray := prog_12_method_46_code
def yX10_tellsTimes : MethodName := ⟨RX10, "tellsTimes", "()V"⟩
abbrev cX10_lastOut : ByteArray := prog_12_method_47_code
def yX10_lastOut : MethodName := ⟨RX10, "lastOut", "()I"⟩
abbrev cX10_lays : ByteArray := prog_12_method_48_code
def yX10_lays : MethodName := ⟨RX10, "lays", "([III)V"⟩
abbrev cX10_laysPlan : ByteArray := prog_12_method_49_code
def yX10_laysPlan : MethodName := ⟨RX10, "laysPlan", "(I)V"⟩
abbrev cX10_gates : ByteArray := prog_12_method_50_code
def yX10_gates : MethodName := ⟨RX10, "gates", "(II)I"⟩
abbrev cX10_latest : ByteArray := prog_12_method_51_code
def yX10_latest : MethodName := ⟨RX10, "latest", "(II)I"⟩
abbrev cX10_deep : ByteArray := prog_12_method_52_code
def yX10_deep : MethodName := ⟨RX10, "deep", "(I)I"⟩
abbrev cX10_hangs : ByteArray := prog_12_method_53_code
def yX10_hangs : MethodName := ⟨RX10, "hangs", "(I)I"⟩
abbrev cX10_times : ByteArray := prog_12_method_54_code
def yX10_times : MethodName := ⟨RX10, "times", "(I)I"⟩
abbrev cX10_evaluates : ByteArray := prog_12_method_55_code
def yX10_evaluates : MethodName := ⟨RX10, "evaluates", "(III)V"⟩
abbrev cX10_settlesAll : ByteArray := prog_12_method_56_code
def yX10_settlesAll : MethodName := ⟨RX10, "settlesAll", "()V"⟩
abbrev cX10_areNumbers : ByteArray := prog_12_method_57_code
def yX10_areNumbers : MethodName := ⟨RX10, "areNumbers", "(IIII)Z"⟩
abbrev cX10_adds : ByteArray := prog_12_method_58_code
def yX10_adds : MethodName := ⟨RX10, "adds", "(IIII)I"⟩
abbrev cX10_settles : ByteArray := prog_12_method_59_code
def yX10_settles : MethodName := ⟨RX10, "settles", "(IIIII)I"⟩
abbrev cX10_goesThrough : ByteArray := prog_12_method_60_code
def yX10_goesThrough : MethodName := ⟨RX10, "goesThrough", "(II)I"⟩
abbrev cX10_slowest : ByteArray := prog_12_method_61_code
def yX10_slowest : MethodName := ⟨RX10, "slowest", "(II)I"⟩
abbrev cX10_intime : ByteArray := prog_12_method_62_code
def yX10_intime : MethodName := ⟨RX10, "intime", "(II)I"⟩
abbrev cX10_shared : ByteArray := prog_12_method_63_code
def yX10_shared : MethodName := ⟨RX10, "shared", "(II)I"⟩
abbrev cX10_alike : ByteArray := prog_12_method_64_code
def yX10_alike : MethodName := ⟨RX10, "alike", "(II)I"⟩
abbrev cX10_judges : ByteArray := prog_12_method_65_code
def yX10_judges : MethodName := ⟨RX10, "judges", "(II)V"⟩
abbrev cX10_goesOn : ByteArray := prog_12_method_66_code
def yX10_goesOn : MethodName := ⟨RX10, "goesOn", "(IIII)V"⟩
abbrev cX10_isWanted : ByteArray := prog_12_method_67_code
def yX10_isWanted : MethodName := ⟨RX10, "isWanted", "(III)Z"⟩
abbrev cX10_chooses : ByteArray := prog_12_method_68_code
def yX10_chooses : MethodName := ⟨RX10, "chooses", "(III)V"⟩
abbrev cX10_choose : ByteArray := prog_12_method_69_code
def yX10_choose : MethodName := ⟨RX10, "choose", "(IIII)I"⟩
abbrev cX10_chosen : ByteArray := prog_12_method_70_code
def yX10_chosen : MethodName := ⟨RX10, "chosen", "(III)I"⟩
abbrev cX10_meets : ByteArray := prog_12_method_71_code
def yX10_meets : MethodName := ⟨RX10, "meets", "(II)V"⟩
abbrev cX10_longest : ByteArray := prog_12_method_72_code
def yX10_longest : MethodName := ⟨RX10, "longest", "(IIIII)I"⟩
abbrev cX10_runs : ByteArray := prog_12_method_73_code
def yX10_runs : MethodName := ⟨RX10, "runs", "(II)J"⟩
abbrev cX10_isShelf : ByteArray := prog_12_method_74_code
def yX10_isShelf : MethodName := ⟨RX10, "isShelf", "(I)Z"⟩
abbrev cX10_shelve : ByteArray := prog_12_method_75_code
def yX10_shelve : MethodName := ⟨RX10, "shelve", "(II)I"⟩
abbrev cX10_taken : ByteArray := prog_12_method_76_code
def yX10_taken : MethodName := ⟨RX10, "taken", "(II)I"⟩
abbrev cX10_row : ByteArray := prog_12_method_77_code
def yX10_row : MethodName := ⟨RX10, "row", "(III)I"⟩
abbrev cX10_put : ByteArray := prog_12_method_78_code
def yX10_put : MethodName := ⟨RX10, "put", "(IIJ)I"⟩
abbrev cX10_get : ByteArray := prog_12_method_79_code
def yX10_get : MethodName := ⟨RX10, "get", "(II)J"⟩
abbrev cX10_into : ByteArray := prog_12_method_80_code
def yX10_into : MethodName := ⟨RX10, "into", "(II)I"⟩
abbrev cX10_from : ByteArray := prog_12_method_81_code
def yX10_from : MethodName := ⟨RX10, "from", "(II)I"⟩
abbrev cX10_unlike : ByteArray := prog_12_method_82_code
def yX10_unlike : MethodName := ⟨RX10, "unlike", "()I"⟩
abbrev cX10_count : ByteArray := prog_12_method_83_code
def yX10_count : MethodName := ⟨RX10, "count", "(I)I"⟩
def RJ6 : String := "java/lang/Integer"
def TJ6 : u_T := fun k => match k with
  | _ => ("", "", "", false)
def tyJ6 : Nat → FieldType := fun k => match k with
  | _ => .int
abbrev wsJ60 : List Cond := u_ws RJ6 TJ6 0
theorem nmJ6 : ∀ a, a < 0 → ∀ b, b < 0 → a ≠ b → (TJ6 a).2.1 ≠ (TJ6 b).2.1 := by decide +kernel
theorem tyJ6_ok : ∀ k, k < 0 → parseFieldDescriptor (TJ6 k).2.2.1 = some (tyJ6 k) := by decide +kernel
abbrev cJ6_bitCount_0f7a4 : ByteArray := prog_13_method_49_code
def yJ6_bitCount_0f7a4 : MethodName := ⟨RJ6, "bitCount", "(I)I"⟩
def RJ13 : String := "java/lang/Long"
def TJ13 : u_T := fun k => match k with
  | _ => ("", "", "", false)
def tyJ13 : Nat → FieldType := fun k => match k with
  | _ => .int
abbrev wsJ130 : List Cond := u_ws RJ13 TJ13 0
theorem nmJ13 : ∀ a, a < 0 → ∀ b, b < 0 → a ≠ b → (TJ13 a).2.1 ≠ (TJ13 b).2.1 := by decide +kernel
theorem tyJ13_ok : ∀ k, k < 0 → parseFieldDescriptor (TJ13 k).2.2.1 = some (tyJ13 k) := by decide +kernel
abbrev cJ13_bitCount_95d88 : ByteArray := prog_14_method_50_code
def yJ13_bitCount_95d88 : MethodName := ⟨RJ13, "bitCount", "(J)I"⟩
def RJ9 : String := "java/lang/Math"
def TJ9 : u_T := fun k => match k with
  | _ => ("", "", "", false)
def tyJ9 : Nat → FieldType := fun k => match k with
  | _ => .int
abbrev wsJ90 : List Cond := u_ws RJ9 TJ9 0
theorem nmJ9 : ∀ a, a < 0 → ∀ b, b < 0 → a ≠ b → (TJ9 a).2.1 ≠ (TJ9 b).2.1 := by decide +kernel
theorem tyJ9_ok : ∀ k, k < 0 → parseFieldDescriptor (TJ9 k).2.2.1 = some (tyJ9 k) := by decide +kernel
abbrev cJ9_max_7cf53 : ByteArray := prog_15_method_65_code
def yJ9_max_7cf53 : MethodName := ⟨RJ9, "max", "(II)I"⟩
abbrev cJ9_min_7cf53 : ByteArray := prog_15_method_69_code
def yJ9_min_7cf53 : MethodName := ⟨RJ9, "min", "(II)I"⟩
def RL : String := "AdderChooserLaw"
abbrev cL_law : ByteArray := code
def yL_law : MethodName := ⟨RL, "law", "([I)Z"⟩
theorem inX0 : ∀ w ∈ wsX00, w ∈ lw_tbl := by decide +kernel
theorem inX1 : ∀ w ∈ wsX10, w ∈ lw_tbl := by decide +kernel
theorem inX2 : ∀ w ∈ wsX20, w ∈ lw_tbl := by decide +kernel
theorem inX3 : ∀ w ∈ wsX30, w ∈ lw_tbl := by decide +kernel
theorem inX4 : ∀ w ∈ wsX40, w ∈ lw_tbl := by decide +kernel
theorem inX5 : ∀ w ∈ wsX50, w ∈ lw_tbl := by decide +kernel
theorem inX6 : ∀ w ∈ wsX60, w ∈ lw_tbl := by decide +kernel
theorem inX7 : ∀ w ∈ wsX70, w ∈ lw_tbl := by decide +kernel
theorem inX8 : ∀ w ∈ wsX80, w ∈ lw_tbl := by decide +kernel
theorem inX9 : ∀ w ∈ wsX90, w ∈ lw_tbl := by decide +kernel
theorem inX10 : ∀ w ∈ wsX100, w ∈ lw_tbl := by decide +kernel
end
section
/-! A small machine over pure worlds: cells by number, ints and longs by cell and place; what it computes, the machine does (xsound). -/
def WT : List Cond := lw_tbl.filter goodWord
def inT (w : Cond) : Bool := decide (w ∈ lw_tbl) && goodWord w
theorem inT_mem {w : Cond} (h : inT w = true) : w ∈ WT := by
  simp only [inT, Bool.and_eq_true, decide_eq_true_eq] at h
  exact List.mem_filter.mpr h
theorem wt_good {w : Cond} (h : w ∈ WT) : (w.onTables && w.keeps) = true ∨ ∃ ty, w = .arrayClass ty := good_of_word (List.mem_filter.mp h).2
theorem gi_wt {ws : List Cond} (h : ∀ w ∈ ws, w ∈ WT) : GoodIn WT ws := fun w hw => ⟨h w hw, wt_good (h w hw)⟩
theorem inW {ws : List Cond} (h : ∀ w ∈ ws, w ∈ lw_tbl) (hg : ws.all goodWord = true) : ∀ w ∈ ws, w ∈ WT := fun w hw => List.mem_filter.mpr ⟨h w hw, List.all_eq_true.mp hg w hw⟩
-- worlds
abbrev Wd : Type := (Nat → Nat → Int32) × (Nat → Nat → Int64)
def sF (σ : Wd) (k n : Nat) (x : Int32) : Wd := (fun a b => if a = k then (if b = n then x else σ.1 a b) else σ.1 a b, σ.2)
def sG (σ : Wd) (k n : Nat) (x : Int64) : Wd := (σ.1, fun a b => if a = k then (if b = n then x else σ.2 a b) else σ.2 a b)
abbrev ShE : Type := (Nat × List Nat) ⊕ (Nat × Nat)
def clsL : List vw_C := [(RX1, TX1, 2), (RX2, TX2, 15), (RX3, TX3, 3), (RX4, TX4, 8), (RX5, TX5, 4), (RX6, TX6, 4), (RX7, TX7, 3), (RX8, TX8, 6), (RX9, TX9, 9), (RX10, TX10, 47)]
/-! cells: 0 X, 1 Tape, 2 Plans, 3 Known, 4 Net, 5 Timing, 6 Sweep, 7 Search, 8 X.shelves, 9 Shelf0, 10 Shelf1, 11 Shelf2, 12 Shelf3, 13 X.live, 14 Tape.bytes, 15 Plans.names, 16 Plans.blocks, 17 Known.asked, 18 Net.sort, 19 Net.lower, 20 Net.upper, 21 Net.used, 22 Net.sums, 23 Net.newest, 24 Net.before, 25 Net.usedByFirst, 26 Net.onlyOne, 27 Net.bothOf, 28 Net.sumsByZero, 29 Net.sumsByOne, 30 Timing.delays, 31 Timing.arrivals, 32 Timing.when, 33 Timing.value, 34 Timing.hanging, 35 Timing.depth, 36 Sweep.settled, 37 Shelf0.items, 38 Shelf1.items, 39 Shelf2.items, 40 Shelf3.items, 41 M, 42 M.names, 43 M.nameLong, 44 M.blocks, 45 M.blockMany, 46 M.tape, 47 M.named, 48 M.told, 49 M.knownBlocks, 50 M.knownMany, 51 M.delays, 52 M.arrivals, 53 M.kinds, 54 M.lefts, 55 M.rights, 56 M.used, 57 M.comes, 58 M.values, 59 M.chains, 60 M.outs, 61 M.zeros, 62 M.others, 63 M.row, 64 M.best, 65 M.ways, 66 M.then, 67 M.sorts, 68 M.sizes, 69 M.shelved, 70 M.items -/
def SH : List ShE := [.inl (8, [4, 5, 6, 7, 8, 9, 10, 11, 16]), .inl (6, [17, 0, 1]), .inl (2, [18, 19, 0]), .inl (0, [20, 0]), .inl (1, [21, 22, 23, 24, 25, 0, 0, 0, 26, 27, 28, 29, 30, 31, 32]), .inl (7, [33, 34, 35, 36, 37, 38]), .inl (5, [2, 39, 1, 0]), .inl (3, [2, 0, 0, 0, 1, 0, 0, 0]), .inr (3, 4), .inl (4, [40, 0, 0, 1]), .inl (4, [41, 0, 0, 1]), .inl (4, [42, 0, 0, 1]), .inl (4, [43, 0, 0, 1]), .inr (1, 13), .inr (0, 40), .inr (0, 12), .inr (1, 12), .inr (1, 20), .inr (0, 512), .inr (0, 512), .inr (0, 512), .inr (2, 512), .inr (0, 12), .inr (0, 512), .inr (0, 512), .inr (2, 512), .inr (0, 12), .inr (0, 12), .inr (0, 12), .inr (0, 12), .inr (0, 4), .inr (0, 25), .inr (0, 512), .inr (0, 512), .inr (2, 512), .inr (0, 512), .inr (0, 512), .inr (1, 20), .inr (1, 20), .inr (1, 20), .inr (1, 20), .inl (9, [45, 46, 47, 48, 0, 49, 50, 51, 0, 0, 0, 0, 52, 53, 0, 54, 55, 56, 57, 58, 59, 60, 61, 62, 63, 64, 65, 0, 0, 0, 0, 0, 0, 66, 67, 0, 0, 0, 0, 0, 0, 68, 69, 70, 71, 72, 73]), .inr (0, 48), .inr (0, 12), .inr (0, 96), .inr (0, 12), .inr (0, 40), .inr (0, 4), .inr (0, 8), .inr (0, 168), .inr (0, 21), .inr (0, 4), .inr (0, 25), .inr (0, 2048), .inr (0, 2048), .inr (0, 2048), .inr (0, 2048), .inr (0, 2048), .inr (0, 2048), .inr (0, 2048), .inr (0, 13), .inr (0, 12), .inr (0, 12), .inr (0, 8), .inr (0, 8), .inr (1, 14), .inr (1, 14), .inr (0, 4), .inr (0, 4), .inr (0, 32), .inr (1, 80)]
abbrev NC : Nat := 71
def tysL (cy : Nat → ClassId) : List (ClassId × FieldType) := [(cy 0, .int), (cy 1, .long), (cy 2, .boolean), (cy 3, .object "AdderChooser$Shelf")]
theorem cls_ok : ∀ (ci : Nat) (C : String) (T : u_T) (N : Nat), clsL[ci]? = some (C, T, N) → ∃ ty : Nat → FieldType, (∀ w ∈ u_ws C T N, w ∈ WT) ∧ (∀ k, k < N → parseFieldDescriptor (T k).2.2.1 = some (ty k)) ∧ (∀ a, a < N → ∀ b, b < N → a ≠ b → (T a).2.1 ≠ (T b).2.1) := by
  intro ci C T N h
  match ci, h with
  | 0, h => cases h; exact ⟨tyX1, inW inX1 (by decide +kernel), tyX1_ok, nmX1⟩
  | 1, h => cases h; exact ⟨tyX2, inW inX2 (by decide +kernel), tyX2_ok, nmX2⟩
  | 2, h => cases h; exact ⟨tyX3, inW inX3 (by decide +kernel), tyX3_ok, nmX3⟩
  | 3, h => cases h; exact ⟨tyX4, inW inX4 (by decide +kernel), tyX4_ok, nmX4⟩
  | 4, h => cases h; exact ⟨tyX5, inW inX5 (by decide +kernel), tyX5_ok, nmX5⟩
  | 5, h => cases h; exact ⟨tyX6, inW inX6 (by decide +kernel), tyX6_ok, nmX6⟩
  | 6, h => cases h; exact ⟨tyX7, inW inX7 (by decide +kernel), tyX7_ok, nmX7⟩
  | 7, h => cases h; exact ⟨tyX8, inW inX8 (by decide +kernel), tyX8_ok, nmX8⟩
  | 8, h => cases h; exact ⟨tyX9, inW inX9 (by decide +kernel), tyX9_ok, nmX9⟩
  | 9, h => cases h; exact ⟨tyX10, inW inX10 (by decide +kernel), tyX10_ok, nmX10⟩
  | n + 10, h => simp [clsL] at h
-- the cells of a world
def fdv (q : Nat → Nat) (σ : Wd) (k j : Nat) : Nat → Value
  | 0 => .int (σ.1 k j)
  | 1 => .long (σ.2 k j)
  | 2 => .int (σ.1 k j)
  | r + 3 => .ref (q r)
def fvs (q : Nat → Nat) (σ : Wd) (k : Nat) : Nat → List Nat → List Value
  | _, [] => []
  | j, d :: ds => fdv q σ k j d :: fvs q σ k (j + 1) ds
def celle (q : Nat → Nat) (cy : Nat → ClassId) (σ : Wd) (k : Nat) : ShE → va_E
  | .inl (ci, fds) => .inr (ci, fvs q σ k 0 fds)
  | .inr (0, n) => .inl (cy 0, n, .inl (σ.1 k))
  | .inr (1, n) => .inl (cy 1, n, .inr (.inl (σ.2 k)))
  | .inr (2, n) => .inl (cy 2, n, .inl (σ.1 k))
  | .inr (_ + 3, n) => .inl (cy 3, n, .inr (.inr (.inr (.inr (fun j => some (q (9 + j)))))))
def wl (q : Nat → Nat) (cy : Nat → ClassId) (σ : Wd) : Nat → List ShE → va_W
  | _, [] => []
  | k, e :: es => (q k, celle q cy σ k e) :: wl q cy σ (k + 1) es
def wls (q : Nat → Nat) (cy : Nat → ClassId) (σ : Wd) : va_W := wl q cy σ 0 SH
theorem fvs_get (q : Nat → Nat) (σ : Wd) (k : Nat) : ∀ (ds : List Nat) (b i : Nat), (fvs q σ k b ds)[i]? = (ds[i]?).map (fdv q σ k (b + i))
  | [], _, _ => by simp [fvs]
  | d :: ds, b, 0 => by simp [fvs]
  | d :: ds, b, i + 1 => by
    have h := fvs_get q σ k ds (b + 1) i
    simp only [fvs, List.getElem?_cons_succ]
    rw [h, show b + 1 + i = b + (i + 1) by omega]
theorem fvs_len (q : Nat → Nat) (σ : Wd) (k : Nat) : ∀ (ds : List Nat) (b : Nat), (fvs q σ k b ds).length = ds.length
  | [], _ => rfl
  | d :: ds, b => by simp [fvs, fvs_len q σ k ds (b + 1)]
theorem wl_get (q : Nat → Nat) (cy : Nat → ClassId) (σ : Wd) : ∀ (es : List ShE) (b i : Nat), (wl q cy σ b es)[i]? = (es[i]?).map (fun e => (q (b + i), celle q cy σ (b + i) e))
  | [], _, _ => by simp [wl]
  | e :: es, b, 0 => by simp [wl]
  | e :: es, b, i + 1 => by
    have h := wl_get q cy σ es (b + 1) i
    simp only [wl, List.getElem?_cons_succ]
    rw [h, show b + 1 + i = b + (i + 1) by omega]
theorem wls_get (q : Nat → Nat) (cy : Nat → ClassId) (σ : Wd) (i : Nat) : (wls q cy σ)[i]? = (SH[i]?).map (fun e => (q i, celle q cy σ i e)) := by
  unfold wls
  rw [wl_get, Nat.zero_add]
theorem celle_F {q : Nat → Nat} {cy : Nat → ClassId} {σ : Wd} {k n i : Nat} {x : Int32} (h : i ≠ k) (e : ShE) : celle q cy (sF σ k n x) i e = celle q cy σ i e := by
  have h1 : (sF σ k n x).1 i = σ.1 i := by funext b; simp [sF, h]
  have h2 : ∀ (ds : List Nat) (b : Nat), fvs q (sF σ k n x) i b ds = fvs q σ i b ds := by
    intro ds
    induction ds with
    | nil => intro b; rfl
    | cons d ds ih => intro b; rw [fvs, fvs, ih]; congr 1; match d with
      | 0 => show Value.int ((sF σ k n x).1 i b) = _; rw [h1]; rfl
      | 1 => rfl
      | 2 => show Value.int ((sF σ k n x).1 i b) = _; rw [h1]; rfl
      | r + 3 => rfl
  match e with
  | .inl (ci, fds) => show Sum.inr (ci, _) = Sum.inr (ci, _); rw [h2]
  | .inr (0, m) => show Sum.inl (cy 0, m, Sum.inl ((sF σ k n x).1 i)) = _; rw [h1]; rfl
  | .inr (1, m) => rfl
  | .inr (2, m) => show Sum.inl (cy 2, m, Sum.inl ((sF σ k n x).1 i)) = _; rw [h1]; rfl
  | .inr (t + 3, m) => rfl
theorem celle_G {q : Nat → Nat} {cy : Nat → ClassId} {σ : Wd} {k n i : Nat} {x : Int64} (h : i ≠ k) (e : ShE) : celle q cy (sG σ k n x) i e = celle q cy σ i e := by
  have h1 : (sG σ k n x).2 i = σ.2 i := by funext b; simp [sG, h]
  have h2 : ∀ (ds : List Nat) (b : Nat), fvs q (sG σ k n x) i b ds = fvs q σ i b ds := by
    intro ds
    induction ds with
    | nil => intro b; rfl
    | cons d ds ih => intro b; rw [fvs, fvs, ih]; congr 1; match d with
      | 0 => rfl
      | 1 => show Value.long ((sG σ k n x).2 i b) = _; rw [h1]; rfl
      | 2 => rfl
      | r + 3 => rfl
  match e with
  | .inl (ci, fds) => show Sum.inr (ci, _) = Sum.inr (ci, _); rw [h2]
  | .inr (0, m) => rfl
  | .inr (1, m) => show Sum.inl (cy 1, m, Sum.inr (Sum.inl ((sG σ k n x).2 i))) = _; rw [h1]; rfl
  | .inr (2, m) => rfl
  | .inr (t + 3, m) => rfl
theorem wls_set {q : Nat → Nat} {cy : Nat → ClassId} {σ τ : Wd} {k : Nat} {e : ShE} {w : va_E} (hs : SH[k]? = some e) (ho : ∀ i, i ≠ k → ∀ e, celle q cy τ i e = celle q cy σ i e) (hk : celle q cy τ k e = w) : (wls q cy σ).set k (q k, w) = wls q cy τ := by
  apply List.ext_getElem?
  intro i
  rw [List.getElem?_set, wls_get, wls_get]
  by_cases hi : k = i
  · subst hi
    have hl : k < (wls q cy σ).length := by
      have h := wls_get q cy σ k
      rw [hs] at h
      exact (List.getElem?_eq_some_iff.mp h).1
    rw [if_pos rfl, if_pos hl, hs]
    simp [hk]
  · rw [if_neg hi]
    cases hh : SH[i]? with
    | none => rfl
    | some e2 => simp [ho i (Ne.symm hi)]
-- locals
def cv (q : Nat → Nat) : Value → Value
  | .ref k => .ref (q k)
  | v => v
def cat2 : Value → Bool
  | .long _ => true
  | .double _ => true
  | _ => false
theorem cv_cat (q : Nat → Nat) (v : Value) : (cv q v).category = v.category := by cases v <;> rfl
theorem cat2_iff (v : Value) : cat2 v = true ↔ v.category = 2 := by cases v <;> simp [cat2, Value.category]
def st1 : List Value → Nat → Value → List Value
  | [], _, _ => []
  | _ :: vs, 0, v => v :: vs
  | w :: vs, i + 1, v => cond (Nat.beq i 0 && cat2 w) .null w :: st1 vs i v
def st2 : List Value → Nat → Value → List Value
  | [], _, _ => []
  | _ :: [], 0, v => [v]
  | _ :: _ :: vs, 0, v => v :: .null :: vs
  | w :: vs, i + 1, v => cond (Nat.beq i 0 && cat2 w) .null w :: st2 vs i v
theorem st1_get : ∀ (vs : List Value) (i : Nat) (v : Value) (j : Nat) (w : Value), (st1 vs i v)[j]? = some w → w ≠ .null → (j = i ∧ w = v) ∨ (j ≠ i ∧ vs[j]? = some w ∧ ¬ (j + 1 = i ∧ w.category = 2))
  | [], i, v, j, w, h, hn => by simp [st1] at h
  | a :: vs, 0, v, 0, w, h, hn => by simp [st1] at h; exact Or.inl ⟨rfl, h.symm⟩
  | a :: vs, 0, v, j + 1, w, h, hn => by simp [st1] at h; exact Or.inr ⟨by omega, by simpa using h, by omega⟩
  | a :: vs, i + 1, v, 0, w, h, hn => by
    simp only [st1, List.getElem?_cons_zero, Option.some.injEq] at h
    cases hb : (Nat.beq i 0 && cat2 a) with
    | true => rw [hb] at h; exact absurd h.symm hn
    | false =>
      rw [hb] at h
      refine Or.inr ⟨by omega, by simpa using h, fun hx => ?_⟩
      have h1 : i = 0 := by omega
      have h2 : a = w := h
      subst h1; subst h2
      rw [(cat2_iff a).mpr hx.2] at hb
      simp at hb
  | a :: vs, i + 1, v, j + 1, w, h, hn => by
    simp only [st1, List.getElem?_cons_succ] at h
    rcases st1_get vs i v j w h hn with ⟨h1, h2⟩ | ⟨h1, h2, h3⟩
    · exact Or.inl ⟨by omega, h2⟩
    · exact Or.inr ⟨by omega, by simpa using h2, by omega⟩
theorem st2_get : ∀ (vs : List Value) (i : Nat) (v : Value) (j : Nat) (w : Value), (st2 vs i v)[j]? = some w → w ≠ .null → (j = i ∧ w = v) ∨ (j ≠ i ∧ j ≠ i + 1 ∧ vs[j]? = some w ∧ ¬ (j + 1 = i ∧ w.category = 2))
  | [], i, v, j, w, h, hn => by simp [st2] at h
  | [a], 0, v, j, w, h, hn => by
    match j, h with
    | 0, h => simp [st2] at h; exact Or.inl ⟨rfl, h.symm⟩
    | j + 1, h => simp [st2] at h
  | a :: b :: vs, 0, v, j, w, h, hn => by
    match j, h with
    | 0, h => simp [st2] at h; exact Or.inl ⟨rfl, h.symm⟩
    | 1, h => simp [st2] at h; exact absurd h.symm hn
    | j + 2, h => simp [st2] at h; exact Or.inr ⟨by omega, by omega, by simpa using h, by omega⟩
  | a :: vs, i + 1, v, 0, w, h, hn => by
    simp only [st2, List.getElem?_cons_zero, Option.some.injEq] at h
    cases hb : (Nat.beq i 0 && cat2 a) with
    | true => rw [hb] at h; exact absurd h.symm hn
    | false =>
      rw [hb] at h
      refine Or.inr ⟨by omega, by omega, by simpa using h, fun hx => ?_⟩
      have h1 : i = 0 := by omega
      have h2 : a = w := h
      subst h1; subst h2
      rw [(cat2_iff a).mpr hx.2] at hb
      simp at hb
  | a :: vs, i + 1, v, j + 1, w, h, hn => by
    simp only [st2, List.getElem?_cons_succ] at h
    rcases st2_get vs i v j w h hn with ⟨h1, h2⟩ | ⟨h1, h2, h3, h4⟩
    · exact Or.inl ⟨by omega, h2⟩
    · exact Or.inr ⟨by omega, by omega, by simpa using h3, by omega⟩
def LH (q : Nat → Nat) (ls : Array Slot) (nL : Nat) (vs : List Value) : Prop := ls.size = nL ∧ lv_wf ls ∧ ∀ (i : Nat) (v : Value), vs[i]? = some v → v ≠ .null → ls[i]? = some (.val (cv q v))
def lhl (q : Nat → Nat) (vs : List Value) : List (Nat × Value) := (List.range vs.length).filterMap (fun i => match vs[i]? with | some v => if v = .null then none else some (i, cv q v) | none => none)
theorem lhl_mem {q : Nat → Nat} {vs : List Value} {z : Nat × Value} : z ∈ lhl q vs ↔ ∃ v, vs[z.1]? = some v ∧ v ≠ .null ∧ z.2 = cv q v := by
  unfold lhl
  rw [List.mem_filterMap]
  constructor
  · rintro ⟨i, -, hi⟩
    cases hv : vs[i]? with
    | none => rw [hv] at hi; cases hi
    | some v =>
      rw [hv] at hi
      dsimp only at hi
      by_cases hn : v = .null
      · rw [if_pos hn] at hi; cases hi
      · rw [if_neg hn] at hi
        cases hi
        exact ⟨v, hv, hn, rfl⟩
  · rintro ⟨v, h1, h2, h3⟩
    refine ⟨z.1, List.mem_range.mpr (List.getElem?_eq_some_iff.mp h1).1, ?_⟩
    rw [h1]
    dsimp only
    rw [if_neg h2, ← h3]
theorem LH.has {q : Nat → Nat} {ls : Array Slot} {nL : Nat} {vs : List Value} (h : LH q ls nL vs) : lv_has ls nL (lhl q vs) := ⟨h.1, h.2.1, fun z hz => by
  obtain ⟨v, h1, h2, h3⟩ := lhl_mem.mp hz
  rw [h3]
  exact h.2.2 z.1 v h1 h2⟩
theorem LH.s1 {q : Nat → Nat} {ls' : Array Slot} {nL i : Nat} {vs : List Value} {v : Value} (h : lv_has ls' nL ((i, cv q v) :: (lhl q vs).filter (fun z => !(z.1 == i) && !(z.1 + 1 == i && z.2.category == 2)))) : LH q ls' nL (st1 vs i v) := by
  refine ⟨h.1, h.2.1, fun j w hj hn => ?_⟩
  rcases st1_get vs i v j w hj hn with ⟨rfl, rfl⟩ | ⟨h1, h2, h3⟩
  · exact h.2.2 (j, cv q w) List.mem_cons_self
  · refine h.2.2 (j, cv q w) (List.mem_cons_of_mem _ (List.mem_filter.mpr ⟨lhl_mem.mpr ⟨w, h2, hn, rfl⟩, ?_⟩))
    simp only [Bool.and_eq_true, Bool.not_eq_true', beq_eq_false_iff_ne, ne_eq, Bool.and_eq_false_imp, beq_iff_eq, cv_cat]
    exact ⟨h1, fun a b => h3 ⟨a, b⟩⟩
theorem LH.s2 {q : Nat → Nat} {ls' : Array Slot} {nL i : Nat} {vs : List Value} {v : Value} (h : lv_has ls' nL ((i, cv q v) :: (lhl q vs).filter (fun z => !(z.1 == i) && (!(z.1 == i + 1) && !(z.1 + 1 == i && z.2.category == 2))))) : LH q ls' nL (st2 vs i v) := by
  refine ⟨h.1, h.2.1, fun j w hj hn => ?_⟩
  rcases st2_get vs i v j w hj hn with ⟨rfl, rfl⟩ | ⟨h1, h2, h3, h4⟩
  · exact h.2.2 (j, cv q w) List.mem_cons_self
  · refine h.2.2 (j, cv q w) (List.mem_cons_of_mem _ (List.mem_filter.mpr ⟨lhl_mem.mpr ⟨w, h3, hn, rfl⟩, ?_⟩))
    simp only [Bool.and_eq_true, Bool.not_eq_true', beq_eq_false_iff_ne, ne_eq, Bool.and_eq_false_imp, beq_iff_eq, cv_cat]
    exact ⟨h1, h2, fun a b => h4 ⟨a, b⟩⟩
/-- the first locals of a call -/
def lay : List Value → List Value
  | [] => []
  | v :: vs => cond (cat2 v) (v :: .null :: lay vs) (v :: lay vs)
theorem lay_get (q : Nat → Nat) : ∀ (as : List Value) (b j : Nat) (w : Value), (lay as)[j]? = some w → w ≠ .null → (b + j, cv q w) ∈ lv_args b (as.map (cv q))
  | [], b, j, w, h, hn => by simp [lay] at h
  | v :: vs, b, j, w, h, hn => by
    cases hc : cat2 v with
    | true =>
      have hc2 := (cat2_iff v).mp hc
      simp only [lay, hc, cond_true] at h
      simp only [List.map_cons, lv_args, cv_cat, hc2, if_true]
      match j, h with
      | 0, h => simp at h; subst h; simp
      | 1, h => simp at h; exact absurd h.symm hn
      | j + 2, h =>
        have h' : (lay vs)[j]? = some w := by simpa using h
        have := lay_get q vs (b + 2) j w h' hn
        rw [show b + (j + 2) = b + 2 + j by omega]
        exact List.mem_cons_of_mem _ this
    | false =>
      have hc2 : ¬ v.category = 2 := fun z => by rw [(cat2_iff v).mpr z] at hc; cases hc
      simp only [lay, hc, cond_false] at h
      simp only [List.map_cons, lv_args, cv_cat, hc2, if_false]
      match j, h with
      | 0, h => simp at h; subst h; simp
      | j + 1, h =>
        have h' : (lay vs)[j]? = some w := by simpa using h
        have := lay_get q vs (b + 1) j w h' hn
        rw [show b + (j + 1) = b + 1 + j by omega]
        exact List.mem_cons_of_mem _ this
def pad : Nat → List Value → List Value
  | 0, vs => vs
  | n + 1, [] => .null :: pad n []
  | n + 1, v :: vs => v :: pad n vs
theorem pad_get : ∀ (n : Nat) (vs : List Value) (j : Nat) (w : Value), (pad n vs)[j]? = some w → w ≠ .null → vs[j]? = some w
  | 0, vs, j, w, h, hn => h
  | n + 1, [], 0, w, h, hn => by simp [pad] at h; exact absurd h.symm hn
  | n + 1, [], j + 1, w, h, hn => by
    simp only [pad, List.getElem?_cons_succ] at h
    have := pad_get n [] j w h hn
    simp at this
  | n + 1, v :: vs, 0, w, h, hn => by simpa [pad] using h
  | n + 1, v :: vs, j + 1, w, h, hn => by
    simp only [pad, List.getElem?_cons_succ] at h
    simpa using pad_get n vs j w h hn
theorem LH.entry {q : Nat → Nat} {as : List Value} {n : Nat} {ls : Array Slot} (h : lv_has ls n (lv_args 0 (as.map (cv q)))) : LH q ls n (pad n (lay as)) := by
  refine ⟨h.1, h.2.1, fun j w hj hn => ?_⟩
  have h1 := lay_get q as 0 j w (pad_get n _ j w hj hn) hn
  rw [Nat.zero_add] at h1
  exact h.2.2 (j, cv q w) h1
/-- some places forgotten -/
def msk : List Bool → List Value → List Value
  | b :: bs, v :: vs => cond b v .null :: msk bs vs
  | _, _ => []
theorem msk_get : ∀ (bs : List Bool) (vs : List Value) (j : Nat) (w : Value), (msk bs vs)[j]? = some w → w ≠ .null → vs[j]? = some w
  | [], vs, j, w, h, hn => by simp [msk] at h
  | b :: bs, [], j, w, h, hn => by simp [msk] at h
  | b :: bs, v :: vs, 0, w, h, hn => by
    simp only [msk, List.getElem?_cons_zero, Option.some.injEq] at h
    cases b with
    | true => simpa using h
    | false => exact absurd h.symm hn
  | b :: bs, v :: vs, j + 1, w, h, hn => by
    simp only [msk, List.getElem?_cons_succ] at h
    simpa using msk_get bs vs j w h hn
theorem LH.mask {q : Nat → Nat} {ls : Array Slot} {nL : Nat} {vs : List Value} (h : LH q ls nL vs) (bs : List Bool) : LH q ls nL (msk bs vs) := ⟨h.1, h.2.1, fun j w hj hn => h.2.2 j w (msk_get bs vs j w hj hn) hn⟩
end
section
-- one instruction, and runs of them
def fnd {α : Type} : List (Nat × α) → Nat → Option α
  | [], _ => none
  | (k, a) :: t, n => cond (Nat.beq k n) (some a) (fnd t n)
theorem fnd_mem {α : Type} : ∀ (t : List (Nat × α)) (n : Nat) (a : α), fnd t n = some a → (n, a) ∈ t
  | [], n, a, h => by cases h
  | (k, b) :: t, n, a, h => by
    simp only [fnd] at h
    cases hb : Nat.beq k n with
    | true =>
      rw [hb] at h
      have h1 : b = a := Option.some.inj h
      rw [← Nat.eq_of_beq_eq_true hb, h1]
      exact List.mem_cons_self
    | false => rw [hb] at h; exact List.mem_cons_of_mem _ (fnd_mem t n a h)
abbrev Ent : Type := Instr × Nat × List Nat
abbrev FTE : Type := Nat × Nat × Nat
abbrev Cal : Type := Nat × Nat × ((List Value → Wd → Option (Int32 × Wd)) ⊕ (List Value → Wd → Option (Int64 × Wd)) ⊕ (List Value → Wd → Option Wd))
abbrev Scr : Type := Nat × (Nat → Int32)
abbrev PK (β : Type) : Type := Nat → List Value → List Value → Wd → Option β
def arrn (k t : Nat) : Option Nat := match SH[k]? with
  | some (.inr (t', n)) => cond (Nat.beq t' t) (some n) none
  | _ => none
def objf (k ci : Nat) : Option (List Nat) := match SH[k]? with
  | some (.inl (c, fds)) => cond (Nat.beq c ci) (some fds) none
  | _ => none
theorem arrn_sh {k t n : Nat} (h : arrn k t = some n) : SH[k]? = some (.inr (t, n)) := by
  unfold arrn at h
  split at h
  · rename_i t' n' hs
    cases hb : Nat.beq t' t with
    | true => rw [hb] at h; rw [hs, Nat.eq_of_beq_eq_true hb, Option.some.inj h]
    | false => rw [hb] at h; cases h
  · cases h
theorem objf_sh {k ci : Nat} {fds : List Nat} (h : objf k ci = some fds) : SH[k]? = some (.inl (ci, fds)) := by
  unfold objf at h
  split at h
  · rename_i t' n' hs
    cases hb : Nat.beq t' ci with
    | true => rw [hb] at h; rw [hs, Nat.eq_of_beq_eq_true hb, Option.some.inj h]
    | false => rw [hb] at h; cases h
  · cases h
def xld (σ : Wd) (k n : Nat) (i : Int32) : Option Int32 := if i < 0 ∨ n ≤ i.toNatClampNeg then none else some (σ.1 k i.toNatClampNeg)
def xldL (σ : Wd) (k n : Nat) (i : Int32) : Option Int64 := if i < 0 ∨ n ≤ i.toNatClampNeg then none else some (σ.2 k i.toNatClampNeg)
def xsc (sc : Scr) (i : Int32) : Option Int32 := if i < 0 ∨ sc.1 - 1 ≤ i.toNatClampNeg then none else some (sc.2 i.toNatClampNeg)
def xst (σ : Wd) (k n : Nat) (i x : Int32) : Option Wd := if i < 0 ∨ n ≤ i.toNatClampNeg then none else some (sF σ k i.toNatClampNeg x)
def xstL (σ : Wd) (k n : Nat) (i : Int32) (x : Int64) : Option Wd := if i < 0 ∨ n ≤ i.toNatClampNeg then none else some (sG σ k i.toNatClampNeg x)
def xstZ (σ : Wd) (k n : Nat) (i x : Int32) : Option Wd := if x = 0 ∨ x = 1 then xst σ k n i x else none
theorem xld_s {σ : Wd} {k n : Nat} {i v : Int32} (h : xld σ k n i = some v) : vp_in i n ∧ v = σ.1 k i.toNatClampNeg := by
  unfold xld at h
  by_cases c : i < 0 ∨ n ≤ i.toNatClampNeg
  · rw [if_pos c] at h; cases h
  · rw [if_neg c] at h; exact ⟨c, (Option.some.inj h).symm⟩
theorem xldL_s {σ : Wd} {k n : Nat} {i : Int32} {v : Int64} (h : xldL σ k n i = some v) : vp_in i n ∧ v = σ.2 k i.toNatClampNeg := by
  unfold xldL at h
  by_cases c : i < 0 ∨ n ≤ i.toNatClampNeg
  · rw [if_pos c] at h; cases h
  · rw [if_neg c] at h; exact ⟨c, (Option.some.inj h).symm⟩
theorem xsc_s {sc : Scr} {i v : Int32} (h : xsc sc i = some v) : vp_in i (sc.1 - 1) ∧ v = sc.2 i.toNatClampNeg := by
  unfold xsc at h
  by_cases c : i < 0 ∨ sc.1 - 1 ≤ i.toNatClampNeg
  · rw [if_pos c] at h; cases h
  · rw [if_neg c] at h; exact ⟨c, (Option.some.inj h).symm⟩
theorem xst_s {σ τ : Wd} {k n : Nat} {i x : Int32} (h : xst σ k n i x = some τ) : vp_in i n ∧ τ = sF σ k i.toNatClampNeg x := by
  unfold xst at h
  by_cases c : i < 0 ∨ n ≤ i.toNatClampNeg
  · rw [if_pos c] at h; cases h
  · rw [if_neg c] at h; exact ⟨c, (Option.some.inj h).symm⟩
theorem xstL_s {σ τ : Wd} {k n : Nat} {i : Int32} {x : Int64} (h : xstL σ k n i x = some τ) : vp_in i n ∧ τ = sG σ k i.toNatClampNeg x := by
  unfold xstL at h
  by_cases c : i < 0 ∨ n ≤ i.toNatClampNeg
  · rw [if_pos c] at h; cases h
  · rw [if_neg c] at h; exact ⟨c, (Option.some.inj h).symm⟩
theorem xstZ_s {σ τ : Wd} {k n : Nat} {i x : Int32} (h : xstZ σ k n i x = some τ) : (x = 0 ∨ x = 1) ∧ vp_in i n ∧ τ = sF σ k i.toNatClampNeg x := by
  unfold xstZ at h
  by_cases c : x = 0 ∨ x = 1
  · rw [if_pos c] at h; exact ⟨c, xst_s h⟩
  · rw [if_neg c] at h; cases h
section POP
variable {β : Type}
def pI (st : List Value) (k : Int32 → List Value → Option β) : Option β := match st with
  | .int x :: r => k x r
  | _ => none
def pII (st : List Value) (k : Int32 → Int32 → List Value → Option β) : Option β := match st with
  | .int y :: .int x :: r => k x y r
  | _ => none
def pJ (st : List Value) (k : Int64 → List Value → Option β) : Option β := match st with
  | .long x :: r => k x r
  | _ => none
def pJJ (st : List Value) (k : Int64 → Int64 → List Value → Option β) : Option β := match st with
  | .long y :: .long x :: r => k x y r
  | _ => none
def pJI (st : List Value) (k : Int64 → Int32 → List Value → Option β) : Option β := match st with
  | .int y :: .long x :: r => k x y r
  | _ => none
def pA (st : List Value) (k : Nat → List Value → Option β) : Option β := match st with
  | .ref a :: r => k a r
  | _ => none
def pAI (st : List Value) (k : Nat → Int32 → List Value → Option β) : Option β := match st with
  | .int i :: .ref a :: r => k a i r
  | _ => none
def pAII (st : List Value) (k : Nat → Int32 → Int32 → List Value → Option β) : Option β := match st with
  | .int x :: .int i :: .ref a :: r => k a i x r
  | _ => none
def pAIJ (st : List Value) (k : Nat → Int32 → Int64 → List Value → Option β) : Option β := match st with
  | .long x :: .int i :: .ref a :: r => k a i x r
  | _ => none
def pVA (st : List Value) (k : Value → Nat → List Value → Option β) : Option β := match st with
  | v :: .ref a :: r => k v a r
  | _ => none
def pV (st : List Value) (k : Value → List Value → Option β) : Option β := match st with
  | v :: r => cond (cat2 v) none (k v r)
  | _ => none
def pVV (st : List Value) (k : Value → Value → List Value → Option β) : Option β := match st with
  | v :: w :: r => cond (cat2 v || cat2 w) none (k v w r)
  | _ => none
def oV (v : Option Value) (k : Value → Option β) : Option β := match v with
  | some v => k v
  | none => none
def vI (v : Value) (k : Int32 → Option β) : Option β := match v with
  | .int x => k x
  | _ => none
def vJ (v : Value) (k : Int64 → Option β) : Option β := match v with
  | .long x => k x
  | _ => none
def vA (v : Value) (k : Nat → Option β) : Option β := match v with
  | .ref x => k x
  | _ => none
def oN {α : Type} (v : Option α) (k : α → Option β) : Option β := match v with
  | some v => k v
  | none => none
def t1 (ts : List Nat) (k : Nat → Option β) : Option β := match ts with
  | t :: _ => k t
  | [] => none
theorem pI_s {st : List Value} {k : Int32 → List Value → Option β} {r : β} (h : pI st k = some r) : ∃ x rs, st = .int x :: rs ∧ k x rs = some r := by
  unfold pI at h; split at h
  · exact ⟨_, _, rfl, h⟩
  · cases h
theorem pII_s {st : List Value} {k : Int32 → Int32 → List Value → Option β} {r : β} (h : pII st k = some r) : ∃ x y rs, st = .int y :: .int x :: rs ∧ k x y rs = some r := by
  unfold pII at h; split at h
  · exact ⟨_, _, _, rfl, h⟩
  · cases h
theorem pJ_s {st : List Value} {k : Int64 → List Value → Option β} {r : β} (h : pJ st k = some r) : ∃ x rs, st = .long x :: rs ∧ k x rs = some r := by
  unfold pJ at h; split at h
  · exact ⟨_, _, rfl, h⟩
  · cases h
theorem pJJ_s {st : List Value} {k : Int64 → Int64 → List Value → Option β} {r : β} (h : pJJ st k = some r) : ∃ x y rs, st = .long y :: .long x :: rs ∧ k x y rs = some r := by
  unfold pJJ at h; split at h
  · exact ⟨_, _, _, rfl, h⟩
  · cases h
theorem pJI_s {st : List Value} {k : Int64 → Int32 → List Value → Option β} {r : β} (h : pJI st k = some r) : ∃ x y rs, st = .int y :: .long x :: rs ∧ k x y rs = some r := by
  unfold pJI at h; split at h
  · exact ⟨_, _, _, rfl, h⟩
  · cases h
theorem pA_s {st : List Value} {k : Nat → List Value → Option β} {r : β} (h : pA st k = some r) : ∃ a rs, st = .ref a :: rs ∧ k a rs = some r := by
  unfold pA at h; split at h
  · exact ⟨_, _, rfl, h⟩
  · cases h
theorem pAI_s {st : List Value} {k : Nat → Int32 → List Value → Option β} {r : β} (h : pAI st k = some r) : ∃ a i rs, st = .int i :: .ref a :: rs ∧ k a i rs = some r := by
  unfold pAI at h; split at h
  · exact ⟨_, _, _, rfl, h⟩
  · cases h
theorem pAII_s {st : List Value} {k : Nat → Int32 → Int32 → List Value → Option β} {r : β} (h : pAII st k = some r) : ∃ a i x rs, st = .int x :: .int i :: .ref a :: rs ∧ k a i x rs = some r := by
  unfold pAII at h; split at h
  · exact ⟨_, _, _, _, rfl, h⟩
  · cases h
theorem pAIJ_s {st : List Value} {k : Nat → Int32 → Int64 → List Value → Option β} {r : β} (h : pAIJ st k = some r) : ∃ a i x rs, st = .long x :: .int i :: .ref a :: rs ∧ k a i x rs = some r := by
  unfold pAIJ at h; split at h
  · exact ⟨_, _, _, _, rfl, h⟩
  · cases h
theorem pVA_s {st : List Value} {k : Value → Nat → List Value → Option β} {r : β} (h : pVA st k = some r) : ∃ v a rs, st = v :: .ref a :: rs ∧ k v a rs = some r := by
  unfold pVA at h; split at h
  · exact ⟨_, _, _, rfl, h⟩
  · cases h
theorem cat1_of {v : Value} (h : cat2 v = false) : v.category = 1 := by cases v <;> first | rfl | cases h
theorem pV_s {st : List Value} {k : Value → List Value → Option β} {r : β} (h : pV st k = some r) : ∃ v rs, st = v :: rs ∧ v.category = 1 ∧ k v rs = some r := by
  unfold pV at h; split at h
  · rename_i v rs
    cases hc : cat2 v with
    | true => rw [hc] at h; cases h
    | false => rw [hc] at h; exact ⟨_, _, rfl, cat1_of hc, h⟩
  · cases h
theorem pVV_s {st : List Value} {k : Value → Value → List Value → Option β} {r : β} (h : pVV st k = some r) : ∃ v w rs, st = v :: w :: rs ∧ v.category = 1 ∧ w.category = 1 ∧ k v w rs = some r := by
  unfold pVV at h; split at h
  · rename_i v w rs
    cases hc : cat2 v with
    | true => rw [hc] at h; cases h
    | false =>
      cases hd : cat2 w with
      | true => rw [hc, hd] at h; cases h
      | false => rw [hc, hd] at h; exact ⟨_, _, _, rfl, cat1_of hc, cat1_of hd, h⟩
  · cases h
theorem oV_s {v : Option Value} {k : Value → Option β} {r : β} (h : oV v k = some r) : ∃ w, v = some w ∧ k w = some r := by
  unfold oV at h; split at h
  · exact ⟨_, rfl, h⟩
  · cases h
theorem vI_s {v : Value} {k : Int32 → Option β} {r : β} (h : vI v k = some r) : ∃ x, v = .int x ∧ k x = some r := by
  unfold vI at h; split at h
  · exact ⟨_, rfl, h⟩
  · cases h
theorem vJ_s {v : Value} {k : Int64 → Option β} {r : β} (h : vJ v k = some r) : ∃ x, v = .long x ∧ k x = some r := by
  unfold vJ at h; split at h
  · exact ⟨_, rfl, h⟩
  · cases h
theorem vA_s {v : Value} {k : Nat → Option β} {r : β} (h : vA v k = some r) : ∃ x, v = .ref x ∧ k x = some r := by
  unfold vA at h; split at h
  · exact ⟨_, rfl, h⟩
  · cases h
theorem oN_s {α : Type} {v : Option α} {k : α → Option β} {r : β} (h : oN v k = some r) : ∃ w, v = some w ∧ k w = some r := by
  unfold oN at h; split at h
  · exact ⟨_, rfl, h⟩
  · cases h
theorem t1_s {ts : List Nat} {k : Nat → Option β} {r : β} (h : t1 ts k = some r) : ∃ t l, ts = t :: l ∧ k t = some r := by
  unfold t1 at h; split at h
  · exact ⟨_, _, rfl, h⟩
  · cases h
theorem bnd_s {α : Type} {v : Option α} {k : α → Option β} {r : β} (h : v.bind k = some r) : ∃ w, v = some w ∧ k w = some r := by
  cases v with
  | none => cases h
  | some w => exact ⟨w, rfl, h⟩
def swT (x : Int32) (k : Nat → Option β) (d : Nat) : Int → List Nat → Option β
  | _, [] => k d
  | v, t :: ts => if x = Int32.ofInt v then k t else swT x k d (v + 1) ts
def swL (x : Int32) (k : Nat → Option β) (d : Nat) : List (Int × Int) → List Nat → Option β
  | (a, _) :: ps, t :: ts => if x = Int32.ofInt a then k t else swL x k d ps ts
  | _, _ => k d
end POP
/-- what a field or a place of an object is, as a value -/
def fdx (σ : Wd) (k j : Nat) : Nat → Value
  | 0 => .int (σ.1 k j)
  | 1 => .long (σ.2 k j)
  | 2 => .int (σ.1 k j)
  | r + 3 => .ref r
theorem fdx_v (q : Nat → Nat) (σ : Wd) (k j d : Nat) : cv q (fdx σ k j d) = fdv q σ k j d := by
  match d with
  | 0 => rfl
  | 1 => rfl
  | 2 => rfl
  | r + 3 => rfl
section RUN
variable {β : Type}
def recOK (stat : Bool) (kd : Nat) (as : List Value) : Bool := match stat with
  | true => Nat.beq kd 0
  | false => (match as with
    | .ref a :: _ => Nat.blt 0 kd && (objf a (kd - 1)).isSome
    | _ => false)
def xcall (ct : List (Nat × Cal)) (sc : Scr) (nx : Nat) (vs st : List Value) (σ : Wd) (k : PK β) (ix : Nat) (stat : Bool) : Option β :=
  oN (fnd ct ix) fun e =>
    cond (Nat.ble e.1 st.length && Nat.ble ((st.drop e.1).map fun v => v.category).sum 8 && recOK stat e.2.1 (st.take e.1).reverse)
    (match e.2.2 with
      | .inl f => (f (st.take e.1).reverse σ).bind fun p => k nx vs (.int p.1 :: st.drop e.1) p.2
      | .inr (.inl f) => (f (st.take e.1).reverse σ).bind fun p => k nx vs (.long p.1 :: st.drop e.1) p.2
      | .inr (.inr f) => (f (st.take e.1).reverse σ).bind fun τ => k nx vs (st.drop e.1) τ)
    none
def xstep (ft : List (Nat × FTE)) (lt : List (Nat × Int64)) (ct : List (Nat × Cal)) (sc : Scr) (RI : Int32 → Wd → Option β) (RL : Int64 → Wd → Option β) (RV : Wd → Option β) (k : PK β) (ins : Instr) (nx : Nat) (ts : List Nat) (vs st : List Value) (σ : Wd) : Option β :=
  match ins with
  | .iconst n => k nx vs (.int (Int32.ofInt n) :: st) σ
  | .bipush n => k nx vs (.int (Int8.ofInt n).toInt32 :: st) σ
  | .sipush n => k nx vs (.int (Int16.ofInt n).toInt32 :: st) σ
  | .lconst n => k nx vs (.long (Int64.ofNat n) :: st) σ
  | .ldc2_w ix => cond (Nat.blt ix 100000) (oN (fnd lt ix) fun v => k nx vs (.long v :: st) σ) none
  | .ldc_w ix => oN (fnd lt (ix + 100000)) fun v => k nx vs (.int v.toInt32 :: st) σ
  | .iload n => oV vs[n]? fun v => vI v fun x => k nx vs (.int x :: st) σ
  | .iload_n n => oV vs[n.val]? fun v => vI v fun x => k nx vs (.int x :: st) σ
  | .lload n => oV vs[n]? fun v => vJ v fun x => k nx vs (.long x :: st) σ
  | .lload_n n => oV vs[n.val]? fun v => vJ v fun x => k nx vs (.long x :: st) σ
  | .aload n => oV vs[n]? fun v => vA v fun x => k nx vs (.ref x :: st) σ
  | .aload_n n => oV vs[n.val]? fun v => vA v fun x => k nx vs (.ref x :: st) σ
  | .istore n => pI st fun x r => cond (Nat.blt n vs.length) (k nx (st1 vs n (.int x)) r σ) none
  | .istore_n n => pI st fun x r => cond (Nat.blt n.val vs.length) (k nx (st1 vs n.val (.int x)) r σ) none
  | .lstore n => pJ st fun x r => cond (Nat.blt (n + 1) vs.length) (k nx (st2 vs n (.long x)) r σ) none
  | .lstore_n n => pJ st fun x r => cond (Nat.blt (n.val + 1) vs.length) (k nx (st2 vs n.val (.long x)) r σ) none
  | .astore n => pA st fun x r => cond (Nat.blt n vs.length) (k nx (st1 vs n (.ref x)) r σ) none
  | .astore_n n => pA st fun x r => cond (Nat.blt n.val vs.length) (k nx (st1 vs n.val (.ref x)) r σ) none
  | .iinc n d => oV vs[n]? fun v => vI v fun x => cond (Nat.blt n vs.length) (k nx (st1 vs n (.int (x + Int32.ofInt d))) st σ) none
  | .iadd => pII st fun x y r => k nx vs (.int (x + y) :: r) σ
  | .isub => pII st fun x y r => k nx vs (.int (x - y) :: r) σ
  | .imul => pII st fun x y r => k nx vs (.int (x * y) :: r) σ
  | .idiv => pII st fun x y r => if y = 0 then none else k nx vs (.int (x / y) :: r) σ
  | .irem => pII st fun x y r => if y = 0 then none else k nx vs (.int (x - x / y * y) :: r) σ
  | .iand => pII st fun x y r => k nx vs (.int (x &&& y) :: r) σ
  | .ior => pII st fun x y r => k nx vs (.int (x ||| y) :: r) σ
  | .ixor => pII st fun x y r => k nx vs (.int (x ^^^ y) :: r) σ
  | .ishl => pII st fun x y r => k nx vs (.int (x <<< (y &&& 31)) :: r) σ
  | .ishr => pII st fun x y r => k nx vs (.int (x >>> (y &&& 31)) :: r) σ
  | .iushr => pII st fun x y r => k nx vs (.int (x.toUInt32 >>> (y.toUInt32 &&& Int32.toUInt32 31)).toInt32 :: r) σ
  | .ladd => pJJ st fun x y r => k nx vs (.long (x + y) :: r) σ
  | .lsub => pJJ st fun x y r => k nx vs (.long (x - y) :: r) σ
  | .lmul => pJJ st fun x y r => k nx vs (.long (x * y) :: r) σ
  | .land => pJJ st fun x y r => k nx vs (.long (x &&& y) :: r) σ
  | .lor => pJJ st fun x y r => k nx vs (.long (x ||| y) :: r) σ
  | .lcmp => pJJ st fun x y r => k nx vs (.int (lg_cmp x y) :: r) σ
  | .lshl => pJI st fun x y r => k nx vs (.long (x <<< (y.toInt64 &&& 63)) :: r) σ
  | .lushr => pJI st fun x y r => k nx vs (.long (x.toUInt64 >>> (y.toInt64.toUInt64 &&& Int64.toUInt64 63)).toInt64 :: r) σ
  | .i2l => pI st fun x r => k nx vs (.long x.toInt64 :: r) σ
  | .l2i => pJ st fun x r => k nx vs (.int x.toInt32 :: r) σ
  | .i2b => pI st fun x r => k nx vs (.int x.toInt8.toInt32 :: r) σ
  | .dup => pV st fun v r => k nx vs (v :: v :: r) σ
  | .dup2 => pVV st fun v w r => k nx vs (v :: w :: v :: w :: r) σ
  | .goto _ => t1 ts fun t => k t vs st σ
  | .ifCond c _ => t1 ts fun t => pI st fun x r => match c with
    | .eq => if x = 0 then k t vs r σ else k nx vs r σ
    | .ne => if x = 0 then k nx vs r σ else k t vs r σ
    | .lt => if x < 0 then k t vs r σ else k nx vs r σ
    | .ge => if 0 ≤ x then k t vs r σ else k nx vs r σ
    | .gt => if 0 < x then k t vs r σ else k nx vs r σ
    | .le => if x ≤ 0 then k t vs r σ else k nx vs r σ
  | .if_icmp c _ => t1 ts fun t => pII st fun x y r => match c with
    | .eq => if x = y then k t vs r σ else k nx vs r σ
    | .ne => if x = y then k nx vs r σ else k t vs r σ
    | .lt => if x < y then k t vs r σ else k nx vs r σ
    | .ge => if y ≤ x then k t vs r σ else k nx vs r σ
    | .gt => if y < x then k t vs r σ else k nx vs r σ
    | .le => if x ≤ y then k t vs r σ else k nx vs r σ
  | .tableswitch _ lo _ _ => pI st fun x r => (match ts with
    | d :: tl => swT x (fun t => k t vs r σ) d lo tl
    | [] => none)
  | .lookupswitch _ ps => pI st fun x r => (match ts with
    | d :: tl => swL x (fun t => k t vs r σ) d ps.toList tl
    | [] => none)
  | .getfield ix => oN (fnd ft ix) fun e => pA st fun a r => oN (objf a e.1) fun fds => oN fds[e.2.1]? fun d => k nx vs (fdx σ a e.2.1 d :: r) σ
  | .putfield ix => oN (fnd ft ix) fun e => pVA st fun v a r => oN (objf a e.1) fun fds => oN fds[e.2.1]? fun d => (match d with
    | 0 => vI v fun x => k nx vs r (sF σ a e.2.1 x)
    | 1 => vJ v fun x => k nx vs r (sG σ a e.2.1 x)
    | 2 => vI v fun x => if x = 0 ∨ x = 1 then k nx vs r (sF σ a e.2.1 x) else none
    | _ + 3 => none)
  | .iaload => pAI st fun a i r => (match arrn a 0 with
    | some n => (xld σ a n i).bind fun v => k nx vs (.int v :: r) σ
    | none => cond (Nat.beq a 999) ((xsc sc i).bind fun v => k nx vs (.int v :: r) σ) none)
  | .baload => pAI st fun a i r => oN (arrn a 2) fun n => (xld σ a n i).bind fun v => k nx vs (.int v :: r) σ
  | .laload => pAI st fun a i r => oN (arrn a 1) fun n => (xldL σ a n i).bind fun v => k nx vs (.long v :: r) σ
  | .aaload => pAI st fun a i r => oN (arrn a 3) fun _ => if i = 0 then k nx vs (.ref 9 :: r) σ else if i = 1 then k nx vs (.ref 10 :: r) σ else if i = 2 then k nx vs (.ref 11 :: r) σ else if i = 3 then k nx vs (.ref 12 :: r) σ else none
  | .iastore => pAII st fun a i x r => oN (arrn a 0) fun n => (xst σ a n i x).bind fun τ => k nx vs r τ
  | .bastore => pAII st fun a i x r => oN (arrn a 2) fun n => (xstZ σ a n i x).bind fun τ => k nx vs r τ
  | .lastore => pAIJ st fun a i x r => oN (arrn a 1) fun n => (xstL σ a n i x).bind fun τ => k nx vs r τ
  | .arraylength => pA st fun a r => cond (Nat.beq a 999 && Nat.blt 0 sc.1) (k nx vs (.int (Int32.ofNat (sc.1 - 1)) :: r) σ) none
  | .invokevirtual ix => xcall ct sc nx vs st σ k ix false
  | .invokestatic ix => xcall ct sc nx vs st σ k ix true
  | .ireturn => (match st with
    | [.int v] => RI v σ
    | _ => none)
  | .lreturn => (match st with
    | [.long v] => RL v σ
    | _ => none)
  | .return_ => (match st with
    | [] => RV σ
    | _ => none)
  | _ => none
def inC (cuts : List Nat) (pc : Nat) : Bool := cuts.any (Nat.beq pc)
def xrun (T : List (Nat × Ent)) (ft : List (Nat × FTE)) (lt : List (Nat × Int64)) (ct : List (Nat × Cal)) (sc : Scr) (RI : Int32 → Wd → Option β) (RL : Int64 → Wd → Option β) (RV : Wd → Option β) (cuts : List Nat) (K : PK β) : Nat → PK β
  | 0 => fun _ _ _ _ => none
  | n + 1 => fun pc vs st σ => oN (fnd T pc) fun e => xstep ft lt ct sc RI RL RV (fun pc' vs' st' σ' => cond (inC cuts pc') (K pc' vs' st' σ') (xrun T ft lt ct sc RI RL RV cuts K n pc' vs' st' σ')) e.1 e.2.1 e.2.2 vs st σ
end RUN
end
section
-- what the small machine computes, the machine does
def AQ (q : Nat → Nat) : Nat → Prop := fun a => ∃ k, k < NC ∧ a = q k
def QI (q : Nat → Nat) : Prop := ∀ i j, i < NC → j < NC → q i = q j → i = j
theorem sh_lt {k : Nat} {e : ShE} (h : SH[k]? = some e) : k < NC := (List.getElem?_eq_some_iff.mp h).1
theorem wls_at {q : Nat → Nat} {cy : Nat → ClassId} {σ : Wd} {k : Nat} {e : ShE} (h : SH[k]? = some e) : (wls q cy σ)[k]? = some (q k, celle q cy σ k e) := by rw [wls_get, h]; rfl
theorem wls_D {q : Nat → Nat} (hq : QI q) (cy : Nat → ClassId) (σ : Wd) : va_D (AQ q) (wls q cy σ) := by
  have g : ∀ (i : Nat) (p : Nat × va_E), (wls q cy σ)[i]? = some p → i < NC ∧ p.1 = q i := by
    intro i p h
    rw [wls_get] at h
    cases hs : SH[i]? with
    | none => rw [hs] at h; cases h
    | some e => rw [hs] at h; cases h; exact ⟨sh_lt hs, rfl⟩
  refine ⟨fun i j p r h1 h2 he => ?_, fun k p h => ?_⟩
  · obtain ⟨a1, a2⟩ := g i p h1
    obtain ⟨b1, b2⟩ := g j r h2
    exact hq i j a1 b1 (by rw [← a2, ← b2, he])
  · obtain ⟨a1, a2⟩ := g k p h
    exact ⟨k, a1, a2⟩
def rmL (lvl : Nat) : Room := { frames := lvl, cells := 0, slots := 0, locals := 64 * lvl }
def wsM (y : MethodName) (bytes : ByteArray) (maxL : Nat) (ret : Option FieldType) : List Cond := .code y bytes maxL ret :: WT
def PcX (D : va_G) (q : Nat → Nat) (cy : Nat → ClassId) (as : List Value) (σ : Wd) : Array Value → State → Prop := va_Pc (as.map (cv q)) (fun U => va_P D clsL (wls q cy σ) U.heap ∧ va_K D clsL (tysL cy) U)
def BX (D : va_G) (q : Nat → Nat) (cy : Nat → ClassId) (u : Wd) (t : State) : Prop := va_P D clsL (wls q cy u) t.heap ∧ va_K D clsL (tysL cy) t
theorem PcX_blind {D : va_G} {q : Nat → Nat} {cy : Nat → ClassId} {as : List Value} {σ : Wd} : FrameBlind (PcX D q cy as σ) := fun a U g mk h => ⟨h.1, h.2.1, va_K.moved (u := U) (U := U.calling g mk a) (Vm.Alike.refl U.vm) h.2.2⟩
def CTI (lvl : Nat) (y : MethodName) (bytes : ByteArray) (maxL : Nat) (ret : Option FieldType) (f : List Value → Wd → Option (Int32 × Wd)) : Prop :=
  ∀ (l : Launch) (D : va_G) (q : Nat → Nat) (cy : Nat → ClassId), QI q → ∀ (as : List Value) (σ : Wd) (r : Int32) (τ : Wd), f as σ = some (r, τ) → Met l y (wsM y bytes maxL ret) (rmL lvl) (PcX D q cy as σ) (va_Qi (fun (r' : Int32) (u : Wd) => r' = r ∧ u = τ) (BX D q cy) (AQ q)) 0 0 (AQ q)
def CTL (lvl : Nat) (y : MethodName) (bytes : ByteArray) (maxL : Nat) (ret : Option FieldType) (f : List Value → Wd → Option (Int64 × Wd)) : Prop :=
  ∀ (l : Launch) (D : va_G) (q : Nat → Nat) (cy : Nat → ClassId), QI q → ∀ (as : List Value) (σ : Wd) (r : Int64) (τ : Wd), f as σ = some (r, τ) → Met l y (wsM y bytes maxL ret) (rmL lvl) (PcX D q cy as σ) (va_Ql (fun (r' : Int64) (u : Wd) => r' = r ∧ u = τ) (BX D q cy) (AQ q)) 0 0 (AQ q)
def CTV (lvl : Nat) (y : MethodName) (bytes : ByteArray) (maxL : Nat) (ret : Option FieldType) (f : List Value → Wd → Option Wd) : Prop :=
  ∀ (l : Launch) (D : va_G) (q : Nat → Nat) (cy : Nat → ClassId), QI q → ∀ (as : List Value) (σ τ : Wd), f as σ = some τ → Met l y (wsM y bytes maxL ret) (rmL lvl) (PcX D q cy as σ) (va_Qv (fun u : Wd => u = τ) (BX D q cy) (AQ q)) 0 0 (AQ q)
def ltchk (own : String) (e : Nat × Int64) : Bool := cond (Nat.blt e.1 100000) (inT (.constantLong own e.1 e.2)) (inT (.constant own (e.1 - 100000) e.2.toInt32))
def nar : Nat → Nat → Nat
  | 0, na => na
  | _ + 1, na => na - 1
def calchk (own : String) (ix na kd : Nat) (y : MethodName) (bytes : ByteArray) (maxL : Nat) (ret : Option FieldType) : Bool :=
  inT (.methodLink own ix y) && inT (.code y bytes maxL ret) && inT (.initialized y.cls) && (match kd with
    | 0 => inT (.static y)
    | c + 1 => inT (.instanceMethod y) && inT (.selects y.cls y y) && decide (clsL[c]?.map (·.1) = some y.cls)) && Nat.ble maxL 45 && decide (y.cls ≠ "java/lang/invoke/MethodHandle") && decide (y.cls ≠ "java/lang/invoke/VarHandle") && decide ((parseMethodDescriptor y.desc).map (fun d => d.parameters.length) = some (nar kd na)) && (match kd with | 0 => true | _ + 1 => Nat.blt 0 na)
def imax (x y : Int32) : Int32 := if x < y then y else x
def imin (x y : Int32) : Int32 := if y < x then y else x
def amax : List Value → Wd → Option (Int32 × Wd) := fun as σ => match as with
  | [.int x, .int y] => some (imax x y, σ)
  | _ => none
def amin : List Value → Wd → Option (Int32 × Wd) := fun as σ => match as with
  | [.int x, .int y] => some (imin x y, σ)
  | _ => none
def mmchk (own : String) (ix : Nat) (y : MethodName) (bytes : ByteArray) : Bool := inT (.methodLink own ix y) && inT (.code y bytes 2 (some .int)) && inT (.initialized "java/lang/Math") && inT (.static y)
def CalG (lvl : Nat) (own : String) (e : Nat × Cal) : Prop := ∃ (y : MethodName) (bytes : ByteArray) (maxL : Nat) (ret : Option FieldType) (lv : Nat), calchk own e.1 e.2.1 e.2.2.1 y bytes maxL ret = true ∧ lv + 1 ≤ lvl ∧ (match e.2.2.2 with
  | .inl f => CTI lv y bytes maxL ret f
  | .inr (.inl f) => CTL lv y bytes maxL ret f
  | .inr (.inr f) => CTV lv y bytes maxL ret f)
def CalOK (lvl : Nat) (own : String) (e : Nat × Cal) : Prop := CalG lvl own e ∨ (e.2 = (2, 0, .inl amax) ∧ mmchk own e.1 Lib.Math.max.name Lib.Math.max.code = true ∧ 1 ≤ lvl) ∨ (e.2 = (2, 0, .inl amin) ∧ mmchk own e.1 Lib.Math.min.name Lib.Math.min.code = true ∧ 1 ≤ lvl)
def lenOf : Instr → Nat
  | .iconst _ => 1 | .bipush _ => 2 | .sipush _ => 3 | .lconst _ => 1 | .ldc2_w _ => 3 | .ldc_w _ => 3
  | .iload _ => 2 | .iload_n _ => 1 | .lload _ => 2 | .lload_n _ => 1 | .aload _ => 2 | .aload_n _ => 1
  | .istore _ => 2 | .istore_n _ => 1 | .lstore _ => 2 | .lstore_n _ => 1 | .astore _ => 2 | .astore_n _ => 1
  | .iinc _ _ => 3 | .goto _ => 3 | .ifCond _ _ => 3 | .if_icmp _ _ => 3
  | .getfield _ => 3 | .putfield _ => 3 | .invokevirtual _ => 3 | .invokestatic _ => 3
  | .tableswitch _ _ _ _ => 0 | .lookupswitch _ _ => 0
  | _ => 1
def zipok (pc : Nat) : List Int → List Nat → Bool
  | [], [] => true
  | o :: os, t :: ts => decide ((pc : Int) + o = (t : Int)) && zipok pc os ts
  | _, _ => false
def chk (cc : ByteArray) (e : Nat × Ent) : Bool := match e.2.1 with
  | .tableswitch d lo hi offs => decide (decode cc e.1 = .ok (e.2.1, e.2.2.1 - e.1)) && zipok e.1 (d :: offs.toList) e.2.2.2 && decide (-100 ≤ lo) && decide (hi ≤ 1000) && decide ((offs.size : Int) = hi - lo + 1)
  | .lookupswitch d ps => decide (decode cc e.1 = .ok (e.2.1, e.2.2.1 - e.1)) && zipok e.1 (d :: ps.toList.map (·.2)) e.2.2.2 && (ps.toList.zip (ps.toList.drop 1)).all (fun (a, next) => a.1 < next.1) && ps.toList.all (fun z => decide (-100 ≤ z.1) && decide (z.1 ≤ 1000))
  | .goto o => decide (decode cc e.1 = .ok (e.2.1, lenOf e.2.1)) && Nat.beq e.2.2.1 (e.1 + lenOf e.2.1) && zipok e.1 [o] e.2.2.2
  | .ifCond _ o => decide (decode cc e.1 = .ok (e.2.1, lenOf e.2.1)) && Nat.beq e.2.2.1 (e.1 + lenOf e.2.1) && zipok e.1 [o] e.2.2.2
  | .if_icmp _ o => decide (decode cc e.1 = .ok (e.2.1, lenOf e.2.1)) && Nat.beq e.2.2.1 (e.1 + lenOf e.2.1) && zipok e.1 [o] e.2.2.2
  | _ => decide (decode cc e.1 = .ok (e.2.1, lenOf e.2.1)) && Nat.beq e.2.2.1 (e.1 + lenOf e.2.1)
/-- a row of the field table: its link, its class and place, whether it can be written (0 int, 1 long, 2 boolean; 3: no) -/
def fldchk (own : String) (e : Nat × FTE) : Bool := match clsL[e.2.1]? with
  | none => false
  | some r => Nat.blt e.2.2.1 r.2.2 && inT (.fieldLink own e.1 (r.2.1 e.2.2.1).1 (r.2.1 e.2.2.1).2.1 (r.2.1 e.2.2.1).2.2.1) && (match e.2.2.2 with
    | 0 => decide ((r.2.1 e.2.2.1).2.2.1 = "I") && !(r.2.1 e.2.2.1).2.2.2
    | 1 => decide ((r.2.1 e.2.2.1).2.2.1 = "J") && !(r.2.1 e.2.2.1).2.2.2
    | 2 => decide ((r.2.1 e.2.2.1).2.2.1 = "Z") && !(r.2.1 e.2.2.1).2.2.2
    | _ + 3 => true)
/-- the shape's codes fit the field table's: place j of a cell of class ci has that code, if the table's is below 3 -/
def shchk (e : Nat × FTE) : Bool := SH.all fun s => match s with
  | .inl (c, fds) => !(Nat.beq c e.2.1) || (match fds[e.2.2.1]? with
    | none => false
    | some d => (Nat.ble 3 d && Nat.ble 3 e.2.2.2) || Nat.beq d e.2.2.2)
  | .inr _ => true
end
section
section SOUND
variable {β : Type} {p : Program} {l : Launch} {e : Env} {R : Room} {s : State} {m : MethodId} {args : Array Value} {below : List Frame} {meth : Method} {c : Code} {cells slots : Nat} {Q : State → Prop}
/-- what holds all through a method -/
def XC (p : Program) (R : Room) (s : State) (m : MethodId) (args : Array Value) (c : Code) (cc : ByteArray) (own : String) (nL : Nat) (D : va_G) (q : Nat → Nat) (cy : Nat → ClassId) (sc : Scr) (lvl cells slots : Nat) : Prop :=
  p.tables.exec = Jvm.exec ∧ c.code = cc ∧ c.maxLocals = nL ∧ s.vm.findClass own = some m.cls ∧ (∀ w ∈ WT, w.before args s = true) ∧ va_K D clsL (tysL cy) s ∧ QI q ∧ (sc.1 = 0 ∨ (va_X (q 999) (sc.1 - 1) sc.2 s s.heap ∧ q 999 < s.heap.size ∧ ¬ AQ q (q 999))) ∧ lvl ≤ R.frames ∧ 64 * lvl ≤ R.locals ∧ cells ≤ R.cells ∧ slots ≤ R.slots
def WG (p : Program) (l : Launch) (e : Env) (R : Room) (s : State) (m : MethodId) (args : Array Value) (below : List Frame) (meth : Method) (c : Code) (nL : Nat) (D : va_G) (q : Nat → Nat) (cy : Nat → ClassId) (cells slots : Nat) (Q : State → Prop) (r0 : β) (o : Option β) (pc : Nat) (vs st : List Value) (σ : Wd) : Prop :=
  o = some r0 → ∀ (H : Heap) (locs : List Loc) (ls : Array Slot), va_P D clsL (wls q cy σ) H → va_S (AQ q) s.heap H locs → LH q ls nL vs → W p l e R s m args below meth c H locs cells slots Q (F0 m pc ls (st.map (cv q)))
theorem toI {n : Int} (h1 : -100 ≤ n) (h2 : n ≤ 1000) : (Int32.ofInt n).toInt = n := by
  rw [Int32.toInt_ofInt]
  have hs : (Int32.size : Int) = 4294967296 := by decide
  exact Int.bmod_eq_of_le (by omega) (by omega)
theorem zip_get {pc : Nat} : ∀ {os : List Int} {ts : List Nat} {i t : Nat}, zipok pc os ts = true → ts[i]? = some t → ∃ o, os[i]? = some o ∧ (pc : Int) + o = (t : Int)
  | [], [], i, t, h, ht => by simp at ht
  | [], _ :: _, i, t, h, ht => by simp [zipok] at h
  | _ :: _, [], i, t, h, ht => by simp at ht
  | o :: os, u :: ts, 0, t, h, ht => by
    simp only [zipok, Bool.and_eq_true, decide_eq_true_eq] at h
    simp at ht
    exact ⟨o, rfl, by rw [← ht]; exact h.1⟩
  | o :: os, u :: ts, i + 1, t, h, ht => by
    simp only [zipok, Bool.and_eq_true, decide_eq_true_eq] at h
    rw [List.getElem?_cons_succ] at ht ⊢
    exact zip_get (i := i) h.2 ht
theorem zip_len {pc : Nat} : ∀ {os : List Int} {ts : List Nat}, zipok pc os ts = true → os.length = ts.length
  | [], [], h => rfl
  | [], _ :: _, h => by simp [zipok] at h
  | _ :: _, [], h => by simp [zipok] at h
  | o :: os, u :: ts, h => by
    simp only [zipok, Bool.and_eq_true, decide_eq_true_eq] at h
    simp [zip_len h.2]
theorem swT_ok {x : Int32} {k : Nat → Option β} {d : Nat} {r : β} : ∀ (tl : List Nat) (v : Int), -100 ≤ v → v + tl.length ≤ 1001 → swT x k d v tl = some r → (∃ (i t : Nat), tl[i]? = some t ∧ x.toInt = v + i ∧ k t = some r) ∨ ((∀ i : Nat, i < tl.length → x.toInt ≠ v + i) ∧ k d = some r)
  | [], v, h1, h2, h => Or.inr ⟨fun i hi => absurd hi (Nat.not_lt_zero i), h⟩
  | t :: tl, v, h1, h2, h => by
    simp only [List.length_cons] at h2
    unfold swT at h
    by_cases hx : x = Int32.ofInt v
    · rw [if_pos hx] at h
      exact Or.inl ⟨0, t, rfl, by rw [hx, toI h1 (by omega)]; simp, h⟩
    · rw [if_neg hx] at h
      rcases swT_ok tl (v + 1) (by omega) (by omega) h with ⟨i, t', a1, a2, a3⟩ | ⟨a1, a2⟩
      · exact Or.inl ⟨i + 1, t', by simpa using a1, by rw [a2]; push_cast; omega, a3⟩
      · refine Or.inr ⟨fun i hi => ?_, a2⟩
        match i with
        | 0 =>
          intro he
          apply hx
          apply Int32.toInt_inj.mp
          rw [toI h1 (by omega), he]; simp
        | i + 1 =>
          have := a1 i (by simp at hi; omega)
          intro he
          apply this
          rw [he]; push_cast; omega
theorem swL_ok {x : Int32} {k : Nat → Option β} {d pc : Nat} {dflt : Int} {r : β} (hd : (pc : Int) + dflt = (d : Int)) : ∀ (ps : List (Int × Int)) (tl : List Nat), (ps.all (fun z => decide (-100 ≤ z.1) && decide (z.1 ≤ 1000))) = true → zipok pc (ps.map (·.2)) tl = true → swL x k d ps tl = some r → ∃ (off : Int) (t : Nat), Op.lookupswitch.offset ps dflt x.toInt = off ∧ (pc : Int) + off = (t : Int) ∧ k t = some r
  | [], [], h1, h2, h => ⟨dflt, d, Op.lookupswitch.offset_nil _ _, hd, h⟩
  | [], _ :: _, h1, h2, h => by simp [zipok] at h2
  | _ :: _, [], h1, h2, h => by simp [zipok] at h2
  | (a, o) :: ps, t :: tl, h1, h2, h => by
    simp only [List.all_cons, Bool.and_eq_true, decide_eq_true_eq] at h1
    simp only [List.map_cons, zipok, Bool.and_eq_true, decide_eq_true_eq] at h2
    unfold swL at h
    rw [Op.lookupswitch.offset_cons]
    by_cases hx : x = Int32.ofInt a
    · rw [if_pos hx] at h
      exact ⟨o, t, by rw [if_pos (by rw [hx, toI h1.1.1 h1.1.2])], h2.1, h⟩
    · rw [if_neg hx] at h
      rw [if_neg (fun he => hx (Int32.toInt_inj.mp (by rw [toI h1.1.1 h1.1.2, he])))]
      exact swL_ok hd ps tl h1.2 h2.2 h
variable {cc : ByteArray} {own : String} {nL : Nat} {D : va_G} {q : Nat → Nat} {cy : Nat → ClassId} {sc : Scr} {lvl : Nat} {r0 : β}
theorem LH.at {q : Nat → Nat} {ls : Array Slot} {nL : Nat} {vs : List Value} {n : Nat} {v : Value} (h : LH q ls nL vs) (hv : vs[n]? = some v) (hn : v ≠ .null) : ls[n]? = some (.val (cv q v)) := h.2.2 n v hv hn
theorem blt_of {a b : Nat} (h : Nat.blt a b = true) : a < b := Nat.le_of_ble_eq_true h
/-- a stored int or reference -/
theorem xs_call {ct : List (Nat × Cal)} (C : XC p R s m args c cc own nL D q cy sc lvl cells slots) (hct : ∀ e ∈ ct, CalOK lvl own e) {k : PK β} (hk : ∀ pc vs st σ, vs.length = nL → WG p l e R s m args below meth c nL D q cy cells slots Q r0 (k pc vs st σ) pc vs st σ) {pc ix : Nat} {stat : Bool} {vs st : List Value} {σ : Wd} (hnL : vs.length = nL) (hd : decode cc pc = .ok (cond stat (.invokestatic ix) (.invokevirtual ix), 3)) : WG p l e R s m args below meth c nL D q cy cells slots Q r0 (xcall ct sc (pc + 3) vs st σ k ix stat) pc vs st σ := by
  intro h H locs ls hP hS hL
  obtain ⟨hx, hb, hml, hown, hts, hK, hq, -, hfr, hlo, hce, hsl⟩ := C
  unfold xcall at h
  obtain ⟨⟨na, kd, fn⟩, hf, h1⟩ := oN_s h
  clear h
  cases hcnd : (Nat.ble na st.length && Nat.ble ((st.drop na).map fun v => v.category).sum 8 && recOK stat kd (st.take na).reverse) with
  | false => dsimp only at h1; rw [hcnd] at h1; cases h1
  | true =>
    dsimp only at h1
    rw [hcnd, cond_true] at h1
    simp only [Bool.and_eq_true] at hcnd
    obtain ⟨⟨hna, hcat⟩, hrec⟩ := hcnd
    have hna := Nat.le_of_ble_eq_true hna
    have hcat := Nat.le_of_ble_eq_true hcat
    have hsize : ls.size = nL := hL.1
    rcases hct _ (fnd_mem _ _ _ hf) with hG | ⟨he, hm, hl1⟩ | ⟨he, hm, hl1⟩
    rotate_left
    · cases he
      dsimp only at h1
      obtain ⟨⟨r, τ⟩, hr, h2⟩ := bnd_s h1
      have hstk : st = (st.take 2).reverse.reverse ++ st.drop 2 := by rw [List.reverse_reverse, List.take_append_drop]
      generalize (st.take 2).reverse = as at hr hstk
      generalize st.drop 2 = rest at h2 hstk hcat
      unfold amax at hr
      split at hr
      · rename_i x y
        cases hr
        subst hstk
        have hcat2 : ((rest.map (cv q)).map fun v => v.category).sum ≤ 8 := by
          rw [List.map_map, show ((fun v : Value => v.category) ∘ cv q) = (fun v : Value => v.category) from funext fun v => cv_cat q v]
          exact Nat.le_of_ble_eq_true hcat
        simp only [mmchk, Bool.and_eq_true] at hm
        cases stat with
        | false => simp [recOK] at hrec
        | true => exact va_mmax (rest := rest.map (cv q)) hx hb (hml.trans hsize.symm) hown (hts _ (inT_mem hm.1.1.1)) (hts _ (inT_mem hm.2)) (hts _ (inT_mem hm.1.2)) (hts _ (inT_mem hm.1.1.2)) (by omega) (by omega) (by omega) (by omega) hd (hk _ _ _ _ hnL h2 H locs ls hP hS hL)
      · cases hr
    · cases he
      dsimp only at h1
      obtain ⟨⟨r, τ⟩, hr, h2⟩ := bnd_s h1
      have hstk : st = (st.take 2).reverse.reverse ++ st.drop 2 := by rw [List.reverse_reverse, List.take_append_drop]
      generalize (st.take 2).reverse = as at hr hstk
      generalize st.drop 2 = rest at h2 hstk hcat
      unfold amin at hr
      split at hr
      · rename_i x y
        cases hr
        subst hstk
        have hcat2 : ((rest.map (cv q)).map fun v => v.category).sum ≤ 8 := by
          rw [List.map_map, show ((fun v : Value => v.category) ∘ cv q) = (fun v : Value => v.category) from funext fun v => cv_cat q v]
          exact Nat.le_of_ble_eq_true hcat
        simp only [mmchk, Bool.and_eq_true] at hm
        cases stat with
        | false => simp [recOK] at hrec
        | true => exact va_mmin (rest := rest.map (cv q)) hx hb (hml.trans hsize.symm) hown (hts _ (inT_mem hm.1.1.1)) (hts _ (inT_mem hm.2)) (hts _ (inT_mem hm.1.2)) (hts _ (inT_mem hm.1.1.2)) (by omega) (by omega) (by omega) (by omega) hd (hk _ _ _ _ hnL h2 H locs ls hP hS hL)
      · cases hr
    obtain ⟨y, bytes, maxL, ret, lv, hchk, hlv, hCT⟩ := hG
    dsimp only at hchk hCT
    simp only [calchk, Bool.and_eq_true, decide_eq_true_eq] at hchk
    obtain ⟨⟨⟨⟨⟨⟨⟨⟨w1, w2⟩, w3⟩, w4⟩, w5⟩, w6⟩, w7⟩, w8⟩, w9⟩ := hchk
    have w5 := Nat.le_of_ble_eq_true w5
    generalize has : (st.take na).reverse = as at h1 hrec
    have hlen : as.length = na := by rw [← has, List.length_reverse, List.length_take]; omega
    have hst : st = as.reverse ++ st.drop na := by rw [← has, List.reverse_reverse, List.take_append_drop]
    generalize st.drop na = rest at h1 hst hcat
    have hcat2 : ((rest.map (cv q)).map fun v => v.category).sum ≤ 8 := by
      rw [List.map_map, show ((fun v : Value => v.category) ∘ cv q) = (fun v : Value => v.category) from funext fun v => cv_cat q v]
      exact hcat
    have hwsm : ∀ w ∈ wsM y bytes maxL ret, w ∈ WT := fun w hw => by
      rcases List.mem_cons.mp hw with rfl | hw
      · exact inT_mem w2
      · exact hw
    have hlvl1 : (rmL lv).frames + 1 ≤ R.frames := Nat.le_trans hlv hfr
    have hlvl2 : 8 + (maxL + 11) + (rmL lv).locals ≤ R.locals := by
      show 8 + (maxL + 11) + 64 * lv ≤ R.locals
      omega
    have hHS := hS.1
    have hpre : ∀ (U : State), U.heap = H → s.WarmedH U.vm → PcX D q cy as σ (as.map (cv q)).toArray U := fun U hU hW => ⟨rfl, by rw [hU]; exact hP, va_K.moved hW.alike hK⟩
    have hcb : (hdp : (parseMethodDescriptor y.desc).map (fun d => d.parameters.length) = some (nar kd na)) → CallB R s args own ix y bytes maxL ret (wsM y bytes maxL ret) (rmL lv) 0 0 (nar kd na) := fun hdp =>
      callB_of _ hts (gi_wt hwsm) rfl rfl rfl (hts _ (inT_mem w3)) (hts _ (inT_mem w1)) ⟨w6, w7, hdp⟩ ⟨hlvl1, hlvl2⟩
    cases stat with
    | true =>
      have hkd : kd = 0 := Nat.eq_of_beq_eq_true hrec
      subst hkd
      dsimp only at w4 w8
      have hstk : st.map (cv q) = (as.map (cv q)).reverse ++ rest.map (cv q) := by rw [hst, List.map_append, List.map_reverse]
      match fn, h1, hCT with
      | .inl f, h2, hCT =>
        obtain ⟨⟨r, τ⟩, hr, h3⟩ := bnd_s h2
        refine va_calli (va_runS (As := as.map (cv q)) (rest := rest.map (cv q)) ⟨hx, hb, hml, hown, hts⟩ (hCT l D q cy hq as σ r τ hr) ⟨hcb w8, hts _ (inT_mem w4)⟩ ⟨PcX_blind, hpre⟩ rfl (by rw [List.length_map]; exact hlen) hsize hstk (lv_room hcat2) hd ⟨hce, hsl⟩) hS (fun _ _ z => z) (fun _ z => z) (fun r' u t H1 locs1 ht hvm hp hB hz hk1 hS1 => ?_)
        obtain ⟨rfl, rfl⟩ := hp
        exact hk _ _ _ _ hnL h3 H1 locs1 ls (by rw [← ht]; exact hB.1) hS1 hL
      | .inr (.inl f), h2, hCT =>
        obtain ⟨⟨r, τ⟩, hr, h3⟩ := bnd_s h2
        refine va_calll (va_runS (As := as.map (cv q)) (rest := rest.map (cv q)) ⟨hx, hb, hml, hown, hts⟩ (hCT l D q cy hq as σ r τ hr) ⟨hcb w8, hts _ (inT_mem w4)⟩ ⟨PcX_blind, hpre⟩ rfl (by rw [List.length_map]; exact hlen) hsize hstk (lv_room hcat2) hd ⟨hce, hsl⟩) hS (fun _ _ z => z) (fun _ z => z) (fun r' u t H1 locs1 ht hvm hp hB hz hk1 hS1 => ?_)
        obtain ⟨rfl, rfl⟩ := hp
        exact hk _ _ _ _ hnL h3 H1 locs1 ls (by rw [← ht]; exact hB.1) hS1 hL
      | .inr (.inr f), h2, hCT =>
        obtain ⟨τ, hr, h3⟩ := bnd_s h2
        refine va_callv (va_runS (As := as.map (cv q)) (rest := rest.map (cv q)) ⟨hx, hb, hml, hown, hts⟩ (hCT l D q cy hq as σ τ hr) ⟨hcb w8, hts _ (inT_mem w4)⟩ ⟨PcX_blind, hpre⟩ rfl (by rw [List.length_map]; exact hlen) hsize hstk (lv_room hcat2) hd ⟨hce, hsl⟩) hS (fun _ _ z => z) (fun _ z => z) (fun u t H1 locs1 ht hvm hp hB hz hk1 hS1 => ?_)
        subst hp
        exact hk _ _ _ _ hnL h3 H1 locs1 ls (by rw [← ht]; exact hB.1) hS1 hL
    | false =>
      match as, hrec with
      | .ref a :: as', hrec =>
        simp only [recOK, Bool.and_eq_true] at hrec
        obtain ⟨hk0, hob⟩ := hrec
        obtain ⟨ci, rfl⟩ : ∃ ci, kd = ci + 1 := ⟨kd - 1, by have := blt_of hk0; omega⟩
        obtain ⟨fds, hfd⟩ := Option.isSome_iff_exists.mp hob
        have hsh := objf_sh hfd
        simp only [Nat.add_sub_cancel] at hsh
        dsimp only at w4 w8
        simp only [Bool.and_eq_true, decide_eq_true_eq] at w4
        obtain ⟨⟨w4a, w4b⟩, w4c⟩ := w4
        have hlen' : as'.length = na - 1 := by simp at hlen; omega
        have hstk : st.map (cv q) = (as'.map (cv q)).reverse ++ .ref (q a) :: rest.map (cv q) := by
          rw [hst]
          simp [cv]
        obtain ⟨rc, hrc, hrn⟩ : ∃ rc, clsL[ci]? = some rc ∧ rc.1 = y.cls := by
          cases hcl : clsL[ci]? with
          | none => rw [hcl] at w4c; cases w4c
          | some rc => rw [hcl] at w4c; exact ⟨rc, rfl, Option.some.inj w4c⟩
        have hcell := wls_at (q := q) (cy := cy) (σ := σ) hsh
        have hrecv := va_recv hK hP hrc hcell
        rw [hrn] at hrecv
        match fn, h1, hCT with
        | .inl f, h2, hCT =>
          obtain ⟨⟨r, τ⟩, hr, h3⟩ := bnd_s h2
          refine va_calli (va_runV (C := y.cls) (b := q a) (As := as'.map (cv q)) (rest := rest.map (cv q)) ⟨hx, hb, hml, hown, hts⟩ (hCT l D q cy hq _ σ r τ hr) ⟨hcb w8, hts _ (inT_mem w4a), hts _ (inT_mem w4b)⟩ ⟨PcX_blind, hrecv, hpre⟩ rfl (by rw [List.length_map]; exact hlen') hsize hstk (lv_room hcat2) hd ⟨hce, hsl⟩) hS (fun _ _ z => z) (fun _ z => z) (fun r' u t H1 locs1 ht hvm hp hB hz hk1 hS1 => ?_)
          obtain ⟨rfl, rfl⟩ := hp
          exact hk _ _ _ _ hnL h3 H1 locs1 ls (by rw [← ht]; exact hB.1) hS1 hL
        | .inr (.inl f), h2, hCT =>
          obtain ⟨⟨r, τ⟩, hr, h3⟩ := bnd_s h2
          refine va_calll (va_runV (C := y.cls) (b := q a) (As := as'.map (cv q)) (rest := rest.map (cv q)) ⟨hx, hb, hml, hown, hts⟩ (hCT l D q cy hq _ σ r τ hr) ⟨hcb w8, hts _ (inT_mem w4a), hts _ (inT_mem w4b)⟩ ⟨PcX_blind, hrecv, hpre⟩ rfl (by rw [List.length_map]; exact hlen') hsize hstk (lv_room hcat2) hd ⟨hce, hsl⟩) hS (fun _ _ z => z) (fun _ z => z) (fun r' u t H1 locs1 ht hvm hp hB hz hk1 hS1 => ?_)
          obtain ⟨rfl, rfl⟩ := hp
          exact hk _ _ _ _ hnL h3 H1 locs1 ls (by rw [← ht]; exact hB.1) hS1 hL
        | .inr (.inr f), h2, hCT =>
          obtain ⟨τ, hr, h3⟩ := bnd_s h2
          refine va_callv (va_runV (C := y.cls) (b := q a) (As := as'.map (cv q)) (rest := rest.map (cv q)) ⟨hx, hb, hml, hown, hts⟩ (hCT l D q cy hq _ σ τ hr) ⟨hcb w8, hts _ (inT_mem w4a), hts _ (inT_mem w4b)⟩ ⟨PcX_blind, hrecv, hpre⟩ rfl (by rw [List.length_map]; exact hlen') hsize hstk (lv_room hcat2) hd ⟨hce, hsl⟩) hS (fun _ _ z => z) (fun _ z => z) (fun u t H1 locs1 ht hvm hp hB hz hk1 hS1 => ?_)
          subst hp
          exact hk _ _ _ _ hnL h3 H1 locs1 ls (by rw [← ht]; exact hB.1) hS1 hL
end SOUND
end
section
section SOUND2
variable {β : Type} {p : Program} {l : Launch} {e : Env} {R : Room} {s : State} {m : MethodId} {args : Array Value} {below : List Frame} {meth : Method} {c : Code} {cells slots : Nat} {Q : State → Prop}
variable {cc : ByteArray} {own : String} {nL : Nat} {D : va_G} {q : Nat → Nat} {cy : Nat → ClassId} {sc : Scr} {lvl : Nat} {r0 : β}
theorem ifs {P : Prop} [Decidable P] {a b : Option β} {r : β} {X : Prop} (h : (if P then a else b) = some r) (f : P → a = some r → X) (g : ¬ P → b = some r → X) : X := by
  by_cases hp : P
  · rw [if_pos hp] at h; exact f hp h
  · rw [if_neg hp] at h; exact g hp h
theorem cnd_s {b : Bool} {a : Option β} {r : β} (h : cond b a none = some r) : b = true ∧ a = some r := by
  cases b with
  | true => exact ⟨rfl, h⟩
  | false => cases h
theorem chk_d {e : Nat × Ent} (h : chk cc e = true) (h1 : lenOf e.2.1 ≠ 0) : decode cc e.1 = .ok (e.2.1, lenOf e.2.1) ∧ e.2.2.1 = e.1 + lenOf e.2.1 := by
  obtain ⟨pc, ins, nx, ts⟩ := e
  unfold chk at h
  dsimp only at h h1 ⊢
  split at h
  · exact absurd rfl h1
  · exact absurd rfl h1
  all_goals
    simp only [Bool.and_eq_true, decide_eq_true_eq] at h
  · exact ⟨h.1.1, Nat.eq_of_beq_eq_true h.1.2⟩
  · exact ⟨h.1.1, Nat.eq_of_beq_eq_true h.1.2⟩
  · exact ⟨h.1.1, Nat.eq_of_beq_eq_true h.1.2⟩
  · exact ⟨h.1, Nat.eq_of_beq_eq_true h.2⟩
theorem fld_ok {ft : List (Nat × FTE)} (hft : ft.all (fun e => fldchk own e && shchk e) = true) {ix : Nat} {fe : FTE} (hf : fnd ft ix = some fe) {a : Nat} {fds : List Nat} (hs : SH[a]? = some (.inl (fe.1, fds))) {d : Nat} (hd : fds[fe.2.1]? = some d) : ∃ (C : String) (T : u_T) (N : Nat), clsL[fe.1]? = some (C, T, N) ∧ fe.2.1 < N ∧ Cond.fieldLink own ix (T fe.2.1).1 (T fe.2.1).2.1 (T fe.2.1).2.2.1 ∈ WT ∧ (d = 0 → (T fe.2.1).2.2.1 = "I" ∧ (T fe.2.1).2.2.2 = false) ∧ (d = 1 → (T fe.2.1).2.2.1 = "J" ∧ (T fe.2.1).2.2.2 = false) ∧ (d = 2 → (T fe.2.1).2.2.1 = "Z" ∧ (T fe.2.1).2.2.2 = false) := by
  have h := List.all_eq_true.mp hft _ (fnd_mem _ _ _ hf)
  obtain ⟨ci, j, cd⟩ := fe
  rw [Bool.and_eq_true] at h
  obtain ⟨h1, h2⟩ := h
  have h3 := List.all_eq_true.mp h2 _ (List.mem_of_getElem? hs)
  dsimp only at h3 hd hs ⊢
  have hb : Nat.beq ci ci = true := Nat.beq_refl ci
  rw [hb, hd] at h3
  simp only [Bool.not_true, Bool.false_or, Bool.or_eq_true, Bool.and_eq_true] at h3
  unfold fldchk at h1
  cases hcl : clsL[ci]? with
  | none => dsimp only at h1; rw [hcl] at h1; cases h1
  | some r =>
    obtain ⟨C, T, N⟩ := r
    dsimp only at h1
    rw [hcl] at h1
    simp only [Bool.and_eq_true] at h1
    obtain ⟨⟨g1, g2⟩, g3⟩ := h1
    refine ⟨C, T, N, rfl, blt_of g1, inT_mem g2, fun hd0 => ?_, fun hd0 => ?_, fun hd0 => ?_⟩
    all_goals
      subst hd0
      rcases h3 with ⟨h4, -⟩ | h4
      · exact absurd (Nat.le_of_ble_eq_true h4) (by decide)
      · have h5 := Nat.eq_of_beq_eq_true h4
        subst h5
        simpa using g3
theorem setF_obj {σ : Wd} {k ci j : Nat} {fds : List Nat} {x : Int32} (hs : SH[k]? = some (.inl (ci, fds))) (hd : fds[j]? = some 0 ∨ fds[j]? = some 2) : (wls q cy σ).set k (q k, .inr (ci, (fvs q σ k 0 fds).set j (.int x))) = wls q cy (sF σ k j x) := by
  refine wls_set hs (fun i hi e => celle_F hi e) ?_
  show Sum.inr (ci, _) = Sum.inr (ci, _)
  congr 2
  apply List.ext_getElem?
  intro i
  rw [List.getElem?_set, fvs_get, fvs_get]
  by_cases hi : j = i
  · subst hi
    have hl : j < (fvs q σ k 0 fds).length := by
      rw [fvs_len]
      rcases hd with h | h <;> exact (List.getElem?_eq_some_iff.mp h).1
    rw [if_pos rfl, if_pos hl]
    rcases hd with h | h <;> rw [h] <;> simp [fdv, sF]
  · rw [if_neg hi]
    cases hh : fds[i]? with
    | none => rfl
    | some d =>
      simp only [Option.map_some, Option.some.injEq, Nat.zero_add]
      match d with
      | 0 => simp [fdv, sF, Ne.symm hi]
      | 1 => rfl
      | 2 => simp [fdv, sF, Ne.symm hi]
      | r + 3 => rfl
theorem setG_obj {σ : Wd} {k ci j : Nat} {fds : List Nat} {x : Int64} (hs : SH[k]? = some (.inl (ci, fds))) (hd : fds[j]? = some 1) : (wls q cy σ).set k (q k, .inr (ci, (fvs q σ k 0 fds).set j (.long x))) = wls q cy (sG σ k j x) := by
  refine wls_set hs (fun i hi e => celle_G hi e) ?_
  show Sum.inr (ci, _) = Sum.inr (ci, _)
  congr 2
  apply List.ext_getElem?
  intro i
  rw [List.getElem?_set, fvs_get, fvs_get]
  by_cases hi : j = i
  · subst hi
    have hl : j < (fvs q σ k 0 fds).length := by
      rw [fvs_len]
      exact (List.getElem?_eq_some_iff.mp hd).1
    rw [if_pos rfl, if_pos hl, hd]
    simp [fdv, sG]
  · rw [if_neg hi]
    cases hh : fds[i]? with
    | none => rfl
    | some d =>
      simp only [Option.map_some, Option.some.injEq, Nat.zero_add]
      match d with
      | 0 => rfl
      | 1 => simp [fdv, sG, Ne.symm hi]
      | 2 => rfl
      | r + 3 => rfl
theorem setF_arr {σ : Wd} {k t n j : Nat} {x : Int32} (ht : t = 0 ∨ t = 2) (hs : SH[k]? = some (.inr (t, n))) : (wls q cy σ).set k (q k, .inl (cy t, n, .inl (upd (σ.1 k) j x))) = wls q cy (sF σ k j x) := by
  refine wls_set hs (fun i hi e => celle_F hi e) ?_
  have h1 : (sF σ k j x).1 k = upd (σ.1 k) j x := by funext b; simp [sF, upd]
  rcases ht with rfl | rfl
  · show Sum.inl (cy 0, n, Sum.inl ((sF σ k j x).1 k)) = _; rw [h1]
  · show Sum.inl (cy 2, n, Sum.inl ((sF σ k j x).1 k)) = _; rw [h1]
theorem setG_arr {σ : Wd} {k n j : Nat} {x : Int64} (hs : SH[k]? = some (.inr (1, n))) : (wls q cy σ).set k (q k, .inl (cy 1, n, .inr (.inl (vp_updL (σ.2 k) j x)))) = wls q cy (sG σ k j x) := by
  refine wls_set hs (fun i hi e => celle_G hi e) ?_
  have h1 : (sG σ k j x).2 k = vp_updL (σ.2 k) j x := by funext b; simp [sG, vp_updL]
  show Sum.inl (cy 1, n, Sum.inr (Sum.inl ((sG σ k j x).2 k))) = _; rw [h1]
theorem nar_bool {x : Int32} (h : x = 0 ∨ x = 1) : vp_nar .boolean x = x ∧ narrow .boolean (.int x) = .int x ∧ fits .boolean (.int x) = true := by
  rcases h with rfl | rfl <;> decide +kernel
theorem st1_len : ∀ (vs : List Value) (i : Nat) (v : Value), (st1 vs i v).length = vs.length
  | [], i, v => rfl
  | a :: vs, 0, v => rfl
  | a :: vs, i + 1, v => by simp [st1, st1_len vs i v]
theorem st2_len : ∀ (vs : List Value) (i : Nat) (v : Value), (st2 vs i v).length = vs.length
  | [], i, v => rfl
  | [a], 0, v => rfl
  | a :: b :: vs, 0, v => rfl
  | a :: vs, i + 1, v => by simp [st2, st2_len vs i v]
theorem ift {P : Prop} [Decidable P] {a b o : Option β} (h : (if P then a else b) = o) (z : P) : a = o := by rw [if_pos z] at h; exact h
theorem iff {P : Prop} [Decidable P] {a b o : Option β} (h : (if P then a else b) = o) (z : ¬ P) : b = o := by rw [if_neg z] at h; exact h
theorem arr3 {a n : Nat} (h : arrn a 3 = some n) : a = 8 ∧ n = 4 := by
  have h1 := arrn_sh h
  have h2 : ((List.range NC).all fun k => match SH[k]? with | some (.inr (t, z)) => !(Nat.beq t 3) || (Nat.beq k 8 && Nat.beq z 4) | _ => true) = true := by decide +kernel
  have h3 := List.all_eq_true.mp h2 a (List.mem_range.mpr (sh_lt h1))
  rw [h1] at h3
  simp only [Nat.beq_refl, Bool.not_true, Bool.false_or, Bool.and_eq_true] at h3
  exact ⟨Nat.eq_of_beq_eq_true h3.1, Nat.eq_of_beq_eq_true h3.2⟩
theorem xstep_ok {RI : Int32 → Wd → Option β} {RL : Int64 → Wd → Option β} {RV : Wd → Option β} {ft : List (Nat × FTE)} {lt : List (Nat × Int64)} {ct : List (Nat × Cal)} (C : XC p R s m args c cc own nL D q cy sc lvl cells slots) (hft : ft.all (fun e => fldchk own e && shchk e) = true) (hlt : lt.all (ltchk own) = true) (hct : ∀ e ∈ ct, CalOK lvl own e)
    (hRI : ∀ (v : Int32) (σ : Wd), RI v σ = some r0 → ∀ (pc : Nat) (ls : Array Slot) (H : Heap) (locs : List Loc), decode cc pc = .ok (.ireturn, 1) → va_P D clsL (wls q cy σ) H → va_S (AQ q) s.heap H locs → W p l e R s m args below meth c H locs cells slots Q (F0 m pc ls [.int v]))
    (hRL : ∀ (v : Int64) (σ : Wd), RL v σ = some r0 → ∀ (pc : Nat) (ls : Array Slot) (H : Heap) (locs : List Loc), decode cc pc = .ok (.lreturn, 1) → va_P D clsL (wls q cy σ) H → va_S (AQ q) s.heap H locs → W p l e R s m args below meth c H locs cells slots Q (F0 m pc ls [.long v]))
    (hRV : ∀ (σ : Wd), RV σ = some r0 → ∀ (pc : Nat) (ls : Array Slot) (H : Heap) (locs : List Loc), decode cc pc = .ok (.return_, 1) → va_P D clsL (wls q cy σ) H → va_S (AQ q) s.heap H locs → W p l e R s m args below meth c H locs cells slots Q (F0 m pc ls []))
    {k : PK β} (hk : ∀ pc vs st σ, vs.length = nL → WG p l e R s m args below meth c nL D q cy cells slots Q r0 (k pc vs st σ) pc vs st σ) {pc nx : Nat} {ins : Instr} {ts : List Nat} (hc : chk cc (pc, ins, nx, ts) = true) {vs st : List Value} {σ : Wd} (hn : vs.length = nL) : WG p l e R s m args below meth c nL D q cy cells slots Q r0 (xstep ft lt ct sc RI RL RV k ins nx ts vs st σ) pc vs st σ := by
  have hcd : lenOf ins ≠ 0 → decode cc pc = .ok (ins, lenOf ins) ∧ nx = pc + lenOf ins := fun h1 => chk_d (e := (pc, ins, nx, ts)) hc h1
  obtain ⟨hx, hb, hml, hown, hts, hK, hq, hsc, hfr, hlo, hce, hsl⟩ := id C
  have jmp : ∀ {o : Int} {t : Nat} {tl : List Nat}, zipok pc [o] ts = true → ts = t :: tl → (pc : Int) + o = (t : Int) := fun {o t tl} hz ht => by
    subst ht
    simp only [zipok, Bool.and_eq_true, decide_eq_true_eq] at hz
    exact hz.1
  intro h H locs ls hP hS hL
  have hs1 : ∀ (i : Nat) (v : Value), (st1 vs i v).length = nL := fun i v => by rw [st1_len]; exact hn
  have hs2 : ∀ (i : Nat) (v : Value), (st2 vs i v).length = nL := fun i v => by rw [st2_len]; exact hn
  cases ins with
  | iconst n =>
    obtain ⟨hd, rfl⟩ := hcd (Nat.succ_ne_zero _)
    exact lv_iconst hx hb hd rfl (hk _ _ _ _ hn h H locs ls hP hS hL)
  | bipush n =>
    obtain ⟨hd, rfl⟩ := hcd (Nat.succ_ne_zero _)
    exact lv_bipush hx hb hd rfl (hk _ _ _ _ hn h H locs ls hP hS hL)
  | sipush n =>
    obtain ⟨hd, rfl⟩ := hcd (Nat.succ_ne_zero _)
    exact lv_sipush hx hb hd rfl (hk _ _ _ _ hn h H locs ls hP hS hL)
  | lconst n =>
    obtain ⟨hd, rfl⟩ := hcd (Nat.succ_ne_zero _)
    exact lv_lconst hx hb hd rfl (hk _ _ _ _ hn h H locs ls hP hS hL)
  | ldc2_w ix =>
    obtain ⟨hd, rfl⟩ := hcd (Nat.succ_ne_zero _)
    obtain ⟨hbl, h⟩ := cnd_s h
    obtain ⟨v, hf, h⟩ := oN_s h
    have hw := List.all_eq_true.mp hlt _ (fnd_mem _ _ _ hf)
    unfold ltchk at hw
    dsimp only at hw
    rw [hbl, cond_true] at hw
    exact lv_ldc2 hx hb hown (hts _ (inT_mem hw)) hd (hk _ _ _ _ hn h H locs ls hP hS hL)
  | ldc_w ix =>
    obtain ⟨hd, rfl⟩ := hcd (Nat.succ_ne_zero _)
    obtain ⟨v, hf, h⟩ := oN_s h
    have hw := List.all_eq_true.mp hlt _ (fnd_mem _ _ _ hf)
    unfold ltchk at hw
    dsimp only at hw
    have hbl : Nat.blt (ix + 100000) 100000 = false := by
      cases hb9 : Nat.blt (ix + 100000) 100000 with
      | false => rfl
      | true => have := blt_of hb9; omega
    rw [hbl, cond_false, Nat.add_sub_cancel] at hw
    exact lv_ldcw hx hb hown (hts _ (inT_mem hw)) hd (hk _ _ _ _ hn h H locs ls hP hS hL)
  | iload n =>
    obtain ⟨hd, rfl⟩ := hcd (Nat.succ_ne_zero _)
    obtain ⟨v, hv, h⟩ := oV_s h
    obtain ⟨x, rfl, h⟩ := vI_s h
    exact lv_iload hx hb hd (hL.at hv (by intro z; cases z)) (hk _ _ _ _ hn h H locs ls hP hS hL)
  | iload_n n =>
    obtain ⟨hd, rfl⟩ := hcd (Nat.succ_ne_zero _)
    obtain ⟨v, hv, h⟩ := oV_s h
    obtain ⟨x, rfl, h⟩ := vI_s h
    exact lv_iload_n hx hb hd rfl (hL.at hv (by intro z; cases z)) (hk _ _ _ _ hn h H locs ls hP hS hL)
  | lload n =>
    obtain ⟨hd, rfl⟩ := hcd (Nat.succ_ne_zero _)
    obtain ⟨v, hv, h⟩ := oV_s h
    obtain ⟨x, rfl, h⟩ := vJ_s h
    exact lv_lload hx hb hd (hL.at hv (by intro z; cases z)) (hk _ _ _ _ hn h H locs ls hP hS hL)
  | lload_n n =>
    obtain ⟨hd, rfl⟩ := hcd (Nat.succ_ne_zero _)
    obtain ⟨v, hv, h⟩ := oV_s h
    obtain ⟨x, rfl, h⟩ := vJ_s h
    exact lv_lload_n hx hb hd rfl (hL.at hv (by intro z; cases z)) (hk _ _ _ _ hn h H locs ls hP hS hL)
  | aload n =>
    obtain ⟨hd, rfl⟩ := hcd (Nat.succ_ne_zero _)
    obtain ⟨v, hv, h⟩ := oV_s h
    obtain ⟨x, rfl, h⟩ := vA_s h
    exact lv_aload hx hb hd (hL.at hv (by intro z; cases z)) (hk _ _ _ _ hn h H locs ls hP hS hL)
  | aload_n n =>
    obtain ⟨hd, rfl⟩ := hcd (Nat.succ_ne_zero _)
    obtain ⟨v, hv, h⟩ := oV_s h
    obtain ⟨x, rfl, h⟩ := vA_s h
    exact lv_aload_n hx hb hd rfl (hL.at hv (by intro z; cases z)) (hk _ _ _ _ hn h H locs ls hP hS hL)
  | istore n =>
    obtain ⟨hd, rfl⟩ := hcd (Nat.succ_ne_zero _)
    obtain ⟨x, r, rfl, h⟩ := pI_s h
    obtain ⟨hb1, h⟩ := cnd_s h
    exact lv_istore hx hb hd hL.has (by rw [← hn]; exact blt_of hb1) rfl (fun ls2 hl2 => hk _ _ _ _ (hs1 _ _) h H locs ls2 hP hS (LH.s1 (v := .int x) hl2))
  | istore_n n =>
    obtain ⟨hd, rfl⟩ := hcd (Nat.succ_ne_zero _)
    obtain ⟨x, r, rfl, h⟩ := pI_s h
    obtain ⟨hb1, h⟩ := cnd_s h
    exact lv_istore_n hx hb hd rfl hL.has (by rw [← hn]; exact blt_of hb1) rfl (fun ls2 hl2 => hk _ _ _ _ (hs1 _ _) h H locs ls2 hP hS (LH.s1 (v := .int x) hl2))
  | astore n =>
    obtain ⟨hd, rfl⟩ := hcd (Nat.succ_ne_zero _)
    obtain ⟨x, r, rfl, h⟩ := pA_s h
    obtain ⟨hb1, h⟩ := cnd_s h
    exact lv_astore hx hb hd hL.has (by rw [← hn]; exact blt_of hb1) rfl (fun ls2 hl2 => hk _ _ _ _ (hs1 _ _) h H locs ls2 hP hS (LH.s1 (v := .ref x) hl2))
  | astore_n n =>
    obtain ⟨hd, rfl⟩ := hcd (Nat.succ_ne_zero _)
    obtain ⟨x, r, rfl, h⟩ := pA_s h
    obtain ⟨hb1, h⟩ := cnd_s h
    exact lv_astore_n hx hb hd rfl hL.has (by rw [← hn]; exact blt_of hb1) rfl (fun ls2 hl2 => hk _ _ _ _ (hs1 _ _) h H locs ls2 hP hS (LH.s1 (v := .ref x) hl2))
  | lstore n =>
    obtain ⟨hd, rfl⟩ := hcd (Nat.succ_ne_zero _)
    obtain ⟨x, r, rfl, h⟩ := pJ_s h
    obtain ⟨hb1, h⟩ := cnd_s h
    exact lv_lstore hx hb hd hL.has (by rw [← hn]; exact blt_of hb1) rfl (fun ls2 hl2 => hk _ _ _ _ (hs2 _ _) h H locs ls2 hP hS (LH.s2 (v := .long x) hl2))
  | lstore_n n =>
    obtain ⟨hd, rfl⟩ := hcd (Nat.succ_ne_zero _)
    obtain ⟨x, r, rfl, h⟩ := pJ_s h
    obtain ⟨hb1, h⟩ := cnd_s h
    exact lv_lstore_n hx hb hd rfl hL.has (by rw [← hn]; exact blt_of hb1) rfl (fun ls2 hl2 => hk _ _ _ _ (hs2 _ _) h H locs ls2 hP hS (LH.s2 (v := .long x) hl2))
  | iinc n d =>
    obtain ⟨hd, rfl⟩ := hcd (Nat.succ_ne_zero _)
    obtain ⟨v, hv, h⟩ := oV_s h
    obtain ⟨x, rfl, h⟩ := vI_s h
    obtain ⟨hb1, h⟩ := cnd_s h
    obtain ⟨kk, hkk⟩ := List.getElem?_of_mem (lhl_mem (q := q) (vs := vs) (z := (n, .int x)) |>.mpr ⟨_, hv, (by intro z; cases z), rfl⟩)
    exact lv_iinc (k := kk) hx hb hd hL.has hkk rfl (by rw [← hn]; exact blt_of hb1) rfl (fun ls2 hl2 => hk _ _ _ _ (hs1 _ _) h H locs ls2 hP hS (LH.s1 (v := .int (x + Int32.ofInt d)) hl2))
  | iadd =>
    obtain ⟨hd, rfl⟩ := hcd (Nat.succ_ne_zero _)
    obtain ⟨x, y, r, rfl, h⟩ := pII_s h
    exact lv_iadd hx hb hd (hk _ _ _ _ hn h H locs ls hP hS hL)
  | isub =>
    obtain ⟨hd, rfl⟩ := hcd (Nat.succ_ne_zero _)
    obtain ⟨x, y, r, rfl, h⟩ := pII_s h
    exact lv_isub hx hb hd (hk _ _ _ _ hn h H locs ls hP hS hL)
  | imul =>
    obtain ⟨hd, rfl⟩ := hcd (Nat.succ_ne_zero _)
    obtain ⟨x, y, r, rfl, h⟩ := pII_s h
    exact lv_imul hx hb hd (hk _ _ _ _ hn h H locs ls hP hS hL)
  | iand =>
    obtain ⟨hd, rfl⟩ := hcd (Nat.succ_ne_zero _)
    obtain ⟨x, y, r, rfl, h⟩ := pII_s h
    exact lv_iand hx hb hd (hk _ _ _ _ hn h H locs ls hP hS hL)
  | ior =>
    obtain ⟨hd, rfl⟩ := hcd (Nat.succ_ne_zero _)
    obtain ⟨x, y, r, rfl, h⟩ := pII_s h
    exact lv_ior hx hb hd (hk _ _ _ _ hn h H locs ls hP hS hL)
  | ixor =>
    obtain ⟨hd, rfl⟩ := hcd (Nat.succ_ne_zero _)
    obtain ⟨x, y, r, rfl, h⟩ := pII_s h
    exact lv_ixor hx hb hd (hk _ _ _ _ hn h H locs ls hP hS hL)
  | ishl =>
    obtain ⟨hd, rfl⟩ := hcd (Nat.succ_ne_zero _)
    obtain ⟨x, y, r, rfl, h⟩ := pII_s h
    exact lv_ishl hx hb hd (hk _ _ _ _ hn h H locs ls hP hS hL)
  | ishr =>
    obtain ⟨hd, rfl⟩ := hcd (Nat.succ_ne_zero _)
    obtain ⟨x, y, r, rfl, h⟩ := pII_s h
    exact lv_ishr hx hb hd (hk _ _ _ _ hn h H locs ls hP hS hL)
  | iushr =>
    obtain ⟨hd, rfl⟩ := hcd (Nat.succ_ne_zero _)
    obtain ⟨x, y, r, rfl, h⟩ := pII_s h
    exact lv_iushr hx hb hd rfl (hk _ _ _ _ hn h H locs ls hP hS hL)
  | idiv =>
    obtain ⟨hd, rfl⟩ := hcd (Nat.succ_ne_zero _)
    obtain ⟨x, y, r, rfl, h⟩ := pII_s h
    exact ifs h (fun _ z => by cases z) (fun hz h => lv_idiv hx hb hd hz (hk _ _ _ _ hn h H locs ls hP hS hL))
  | irem =>
    obtain ⟨hd, rfl⟩ := hcd (Nat.succ_ne_zero _)
    obtain ⟨x, y, r, rfl, h⟩ := pII_s h
    exact ifs h (fun _ z => by cases z) (fun hz h => lv_irem hx hb hd hz (hk _ _ _ _ hn h H locs ls hP hS hL))
  | ladd =>
    obtain ⟨hd, rfl⟩ := hcd (Nat.succ_ne_zero _)
    obtain ⟨x, y, r, rfl, h⟩ := pJJ_s h
    exact lv_ladd hx hb hd (hk _ _ _ _ hn h H locs ls hP hS hL)
  | lsub =>
    obtain ⟨hd, rfl⟩ := hcd (Nat.succ_ne_zero _)
    obtain ⟨x, y, r, rfl, h⟩ := pJJ_s h
    exact lv_lsub hx hb hd (hk _ _ _ _ hn h H locs ls hP hS hL)
  | lmul =>
    obtain ⟨hd, rfl⟩ := hcd (Nat.succ_ne_zero _)
    obtain ⟨x, y, r, rfl, h⟩ := pJJ_s h
    exact lv_lmul hx hb hd (hk _ _ _ _ hn h H locs ls hP hS hL)
  | land =>
    obtain ⟨hd, rfl⟩ := hcd (Nat.succ_ne_zero _)
    obtain ⟨x, y, r, rfl, h⟩ := pJJ_s h
    exact lv_land hx hb hd (hk _ _ _ _ hn h H locs ls hP hS hL)
  | lor =>
    obtain ⟨hd, rfl⟩ := hcd (Nat.succ_ne_zero _)
    obtain ⟨x, y, r, rfl, h⟩ := pJJ_s h
    exact lv_lor hx hb hd (hk _ _ _ _ hn h H locs ls hP hS hL)
  | lcmp =>
    obtain ⟨hd, rfl⟩ := hcd (Nat.succ_ne_zero _)
    obtain ⟨x, y, r, rfl, h⟩ := pJJ_s h
    exact W.lcmp hx hb hd (hk _ _ _ _ hn h H locs ls hP hS hL)
  | lshl =>
    obtain ⟨hd, rfl⟩ := hcd (Nat.succ_ne_zero _)
    obtain ⟨x, y, r, rfl, h⟩ := pJI_s h
    exact lv_lshl hx hb hd rfl (hk _ _ _ _ hn h H locs ls hP hS hL)
  | lushr =>
    obtain ⟨hd, rfl⟩ := hcd (Nat.succ_ne_zero _)
    obtain ⟨x, y, r, rfl, h⟩ := pJI_s h
    exact lv_lushr hx hb hd rfl (hk _ _ _ _ hn h H locs ls hP hS hL)
  | i2l =>
    obtain ⟨hd, rfl⟩ := hcd (Nat.succ_ne_zero _)
    obtain ⟨x, r, rfl, h⟩ := pI_s h
    exact lv_i2l hx hb hd rfl (hk _ _ _ _ hn h H locs ls hP hS hL)
  | i2b =>
    obtain ⟨hd, rfl⟩ := hcd (Nat.succ_ne_zero _)
    obtain ⟨x, r, rfl, h⟩ := pI_s h
    exact lv_i2b hx hb hd rfl (hk _ _ _ _ hn h H locs ls hP hS hL)
  | l2i =>
    obtain ⟨hd, rfl⟩ := hcd (Nat.succ_ne_zero _)
    obtain ⟨x, r, rfl, h⟩ := pJ_s h
    exact lv_l2i hx hb hd rfl (hk _ _ _ _ hn h H locs ls hP hS hL)
  | dup =>
    obtain ⟨hd, rfl⟩ := hcd (Nat.succ_ne_zero _)
    obtain ⟨v, r, rfl, hv, h⟩ := pV_s h
    exact lv_dup hx hb hd (by rw [cv_cat]; exact hv) (hk _ _ _ _ hn h H locs ls hP hS hL)
  | dup2 =>
    obtain ⟨hd, rfl⟩ := hcd (Nat.succ_ne_zero _)
    obtain ⟨v, w, r, rfl, hv, hw, h⟩ := pVV_s h
    exact lv_dup2_11 hx hb hd (by rw [cv_cat]; exact hv) (by rw [cv_cat]; exact hw) (hk _ _ _ _ hn h H locs ls hP hS hL)
  | goto o =>
    obtain ⟨hd, rfl⟩ := hcd (Nat.succ_ne_zero _)
    obtain ⟨t, tl, ht, h⟩ := t1_s h
    have hz : zipok pc [o] ts = true := by unfold chk at hc; simp only [Bool.and_eq_true] at hc; exact hc.2
    exact lv_goto hx hb hd (jmp hz ht) (hk _ _ _ _ hn h H locs ls hP hS hL)
  | ifCond cc2 o =>
    obtain ⟨hd, rfl⟩ := hcd (Nat.succ_ne_zero _)
    obtain ⟨t, tl, ht, h⟩ := t1_s h
    have hz : zipok pc [o] ts = true := by unfold chk at hc; simp only [Bool.and_eq_true] at hc; exact hc.2
    have hj := jmp hz ht
    obtain ⟨x, r, rfl, h⟩ := pI_s h
    cases cc2 with
    | eq => exact lv_if_eq hx hb hd hj (fun z => hk _ _ _ _ hn (ift h z) H locs ls hP hS hL) (fun z => hk _ _ _ _ hn (iff h z) H locs ls hP hS hL)
    | ne => exact lv_if_ne hx hb hd hj (fun z => hk _ _ _ _ hn (iff h z) H locs ls hP hS hL) (fun z => hk _ _ _ _ hn (ift h z) H locs ls hP hS hL)
    | lt => exact lv_if_lt hx hb hd hj (fun z => hk _ _ _ _ hn (ift h z) H locs ls hP hS hL) (fun z => hk _ _ _ _ hn (iff h z) H locs ls hP hS hL)
    | ge => exact lv_if_ge hx hb hd hj (fun z => hk _ _ _ _ hn (ift h z) H locs ls hP hS hL) (fun z => hk _ _ _ _ hn (iff h z) H locs ls hP hS hL)
    | gt => exact lv_if_gt hx hb hd hj (fun z => hk _ _ _ _ hn (ift h z) H locs ls hP hS hL) (fun z => hk _ _ _ _ hn (iff h z) H locs ls hP hS hL)
    | le => exact lv_if_le hx hb hd hj (fun z => hk _ _ _ _ hn (ift h z) H locs ls hP hS hL) (fun z => hk _ _ _ _ hn (iff h z) H locs ls hP hS hL)
  | if_icmp cc2 o =>
    obtain ⟨hd, rfl⟩ := hcd (Nat.succ_ne_zero _)
    obtain ⟨t, tl, ht, h⟩ := t1_s h
    have hz : zipok pc [o] ts = true := by unfold chk at hc; simp only [Bool.and_eq_true] at hc; exact hc.2
    have hj := jmp hz ht
    obtain ⟨x, y, r, rfl, h⟩ := pII_s h
    cases cc2 with
    | eq => exact lv_icmp_eq hx hb hd hj (fun z => hk _ _ _ _ hn (ift h z) H locs ls hP hS hL) (fun z => hk _ _ _ _ hn (iff h z) H locs ls hP hS hL)
    | ne => exact lv_icmp_ne hx hb hd hj (fun z => hk _ _ _ _ hn (iff h z) H locs ls hP hS hL) (fun z => hk _ _ _ _ hn (ift h z) H locs ls hP hS hL)
    | lt => exact lv_icmp_lt hx hb hd hj (fun z => hk _ _ _ _ hn (ift h z) H locs ls hP hS hL) (fun z => hk _ _ _ _ hn (iff h z) H locs ls hP hS hL)
    | ge => exact lv_icmp_ge hx hb hd hj (fun z => hk _ _ _ _ hn (ift h z) H locs ls hP hS hL) (fun z => hk _ _ _ _ hn (iff h z) H locs ls hP hS hL)
    | gt => exact lv_icmp_gt hx hb hd hj (fun z => hk _ _ _ _ hn (ift h z) H locs ls hP hS hL) (fun z => hk _ _ _ _ hn (iff h z) H locs ls hP hS hL)
    | le => exact lv_icmp_le hx hb hd hj (fun z => hk _ _ _ _ hn (ift h z) H locs ls hP hS hL) (fun z => hk _ _ _ _ hn (iff h z) H locs ls hP hS hL)
  | tableswitch df lo hi offs =>
    obtain ⟨x, r, rfl, h⟩ := pI_s h
    unfold chk at hc
    simp only [Bool.and_eq_true, decide_eq_true_eq] at hc
    obtain ⟨⟨⟨⟨hd, hz⟩, hl1⟩, hl2⟩, hl3⟩ := hc
    match ts, h, hz with
    | d :: tl, h, hz =>
      have hzl := zip_len hz
      simp only [zipok, Bool.and_eq_true, decide_eq_true_eq] at hz
      simp only [List.length_cons, Array.length_toList] at hzl
      rcases swT_ok tl lo hl1 (by omega) h with ⟨i, t, h1, h2, h3⟩ | ⟨h1, h2⟩
      · obtain ⟨o, ho1, ho2⟩ := zip_get hz.2 h1
        have hi := (List.getElem?_eq_some_iff.mp h1).1
        exact lv_tableIn (off := o) hx hb hd (by omega) (by omega) (by rw [h2, show (lo + (i : Int) - lo).toNat = i by omega, ← Array.getElem?_toList]; exact ho1) ho2 (hk _ _ _ _ hn h3 H locs ls hP hS hL)
      · refine lv_tableOut hx hb hd ?_ hz.1 (hk _ _ _ _ hn h2 H locs ls hP hS hL)
        by_cases q1 : x.toInt < lo
        · exact Or.inl q1
        · refine Or.inr ?_
          have := h1 (x.toInt - lo).toNat
          omega
  | lookupswitch df ps =>
    obtain ⟨x, r, rfl, h⟩ := pI_s h
    unfold chk at hc
    simp only [Bool.and_eq_true, decide_eq_true_eq] at hc
    obtain ⟨⟨⟨hd, hz⟩, hl1⟩, hl2⟩ := hc
    match ts, h, hz with
    | d :: tl, h, hz =>
      simp only [zipok, Bool.and_eq_true, decide_eq_true_eq] at hz
      obtain ⟨off, t, h1, h2, h3⟩ := swL_ok hz.1 ps.toList tl (by simpa only [Bool.and_eq_true, decide_eq_true_eq] using hl2) hz.2 h
      exact lv_lookup hx hb hd hl1 h1 h2 (hk _ _ _ _ hn h3 H locs ls hP hS hL)
  | getfield ix =>
    obtain ⟨hd, rfl⟩ := hcd (Nat.succ_ne_zero _)
    obtain ⟨fe, hf, h⟩ := oN_s h
    obtain ⟨a, r, rfl, h⟩ := pA_s h
    obtain ⟨fds, hfo, h⟩ := oN_s h
    obtain ⟨d, hfd, h⟩ := oN_s h
    have hsh := objf_sh hfo
    obtain ⟨C0, T0, N0, g1, g2, g3, -, -, -⟩ := fld_ok hft hf hsh hfd
    obtain ⟨ty, k1, k2, k3⟩ := cls_ok _ _ _ _ g1
    refine va_get (D := D) (v := fdv q σ a fe.2.1 d) hx hb hts k1 hown hK hP a (wls_at hsh) g1 fe.2.1 g2 (hts _ g3) (fun _ z => z) (by rw [fvs_get, hfd]; simp) hd ?_
    have hh := hk _ _ _ _ hn h H locs ls hP hS hL
    rw [List.map_cons, fdx_v] at hh
    exact hh
  | putfield ix =>
    obtain ⟨hd, rfl⟩ := hcd (Nat.succ_ne_zero _)
    obtain ⟨fe, hf, h⟩ := oN_s h
    obtain ⟨v, a, r, rfl, h⟩ := pVA_s h
    obtain ⟨fds, hfo, h⟩ := oN_s h
    obtain ⟨d, hfd, h⟩ := oN_s h
    have hsh := objf_sh hfo
    obtain ⟨C0, T0, N0, g1, g2, g3, g4, g5, g6⟩ := fld_ok hft hf hsh hfd
    obtain ⟨ty, k1, k2, k3⟩ := cls_ok _ _ _ _ g1
    have hln : fe.2.1 < (fvs q σ a 0 fds).length := by rw [fvs_len]; exact (List.getElem?_eq_some_iff.mp hfd).1
    match d, h, hfd, g4, g5, g6 with
    | 0, h, hfd, g4, g5, g6 =>
      obtain ⟨x, rfl, h⟩ := vI_s h
      refine va_put (D := D) (v := .int x) (ty := .int) hx hb hts k1 ty k2 k3 hown hK hP (wls_D hq cy σ) hS a (wls_at hsh) g1 fe.2.1 g2 (hts _ g3) (fun _ z => z) (g4 rfl).2 (by rw [(g4 rfl).1]; decide +kernel) rfl rfl hln hd (fun H1 locs1 hP1 hD1 hS1 => ?_)
      rw [setF_obj hsh (Or.inl hfd)] at hP1
      exact hk _ _ _ _ hn h H1 locs1 ls hP1 hS1 hL
    | 1, h, hfd, g4, g5, g6 =>
      obtain ⟨x, rfl, h⟩ := vJ_s h
      refine va_put (D := D) (v := .long x) (ty := .long) hx hb hts k1 ty k2 k3 hown hK hP (wls_D hq cy σ) hS a (wls_at hsh) g1 fe.2.1 g2 (hts _ g3) (fun _ z => z) (g5 rfl).2 (by rw [(g5 rfl).1]; decide +kernel) rfl rfl hln hd (fun H1 locs1 hP1 hD1 hS1 => ?_)
      rw [setG_obj hsh hfd] at hP1
      exact hk _ _ _ _ hn h H1 locs1 ls hP1 hS1 hL
    | 2, h, hfd, g4, g5, g6 =>
      obtain ⟨x, rfl, h⟩ := vI_s h
      refine ifs h (fun hx01 h => ?_) (fun _ z => by cases z)
      refine va_put (D := D) (v := .int x) (ty := .boolean) hx hb hts k1 ty k2 k3 hown hK hP (wls_D hq cy σ) hS a (wls_at hsh) g1 fe.2.1 g2 (hts _ g3) (fun _ z => z) (g6 rfl).2 (by rw [(g6 rfl).1]; decide +kernel) (nar_bool hx01).2.1 (nar_bool hx01).2.2 hln hd (fun H1 locs1 hP1 hD1 hS1 => ?_)
      rw [setF_obj hsh (Or.inr hfd)] at hP1
      exact hk _ _ _ _ hn h H1 locs1 ls hP1 hS1 hL
    | r3 + 3, h, hfd, g4, g5, g6 => exact absurd h (by intro z; cases z)
  | iaload =>
    obtain ⟨hd, rfl⟩ := hcd (Nat.succ_ne_zero _)
    obtain ⟨a, i, r, rfl, h1⟩ := pAI_s h
    cases ha : arrn a 0 with
    | some n =>
      rw [ha] at h1
      obtain ⟨v, hv, h3⟩ := bnd_s h1
      obtain ⟨hi, rfl⟩ := xld_s hv
      exact va_iald (D := D) hx hb hK hP a 0 (wls_at (arrn_sh ha)) rfl hi hd (hk _ _ _ _ hn h3 H locs ls hP hS hL)
    | none =>
      rw [ha] at h1
      obtain ⟨hb9, h2⟩ := cnd_s h1
      have ha9 := Nat.eq_of_beq_eq_true hb9
      subst ha9
      obtain ⟨v, hv, h3⟩ := bnd_s h2
      obtain ⟨hi, rfl⟩ := xsc_s hv
      rcases hsc with h0 | ⟨q1, q2, q3⟩
      · rw [h0] at hi; exact absurd (Or.inr (Nat.zero_le _)) hi
      · exact va_sld hx hb q1 q2 q3 hS hi hd (hk _ _ _ _ hn h3 H locs ls hP hS hL)
  | baload =>
    obtain ⟨hd, rfl⟩ := hcd (Nat.succ_ne_zero _)
    obtain ⟨a, i, r, rfl, h⟩ := pAI_s h
    obtain ⟨n, ha, h⟩ := oN_s h
    obtain ⟨v, hv, h⟩ := bnd_s h
    obtain ⟨hi, rfl⟩ := xld_s hv
    exact va_zald (D := D) hx hb hK hP a 2 (wls_at (arrn_sh ha)) rfl hi hd (hk _ _ _ _ hn h H locs ls hP hS hL)
  | laload =>
    obtain ⟨hd, rfl⟩ := hcd (Nat.succ_ne_zero _)
    obtain ⟨a, i, r, rfl, h⟩ := pAI_s h
    obtain ⟨n, ha, h⟩ := oN_s h
    obtain ⟨v, hv, h⟩ := bnd_s h
    obtain ⟨hi, rfl⟩ := xldL_s hv
    exact va_lald (D := D) hx hb hK hP a 1 (wls_at (arrn_sh ha)) rfl hi hd (hk _ _ _ _ hn h H locs ls hP hS hL)
  | aaload =>
    obtain ⟨hd, rfl⟩ := hcd (Nat.succ_ne_zero _)
    obtain ⟨a, i, r, rfl, h⟩ := pAI_s h
    obtain ⟨n, ha, h⟩ := oN_s h
    have hn4 : a = 8 ∧ n = 4 := arr3 ha
    obtain ⟨rfl, rfl⟩ := hn4
    have key : ∀ j : Nat, j < 4 → i = nI j → k (pc + lenOf .aaload) vs (.ref (9 + j) :: r) σ = some r0 → W p l e R s m args below meth c H locs cells slots Q (F0 m pc ls ((Value.int i :: .ref 8 :: r).map (cv q))) := fun j hj hij hkj => by
      have hi : vp_in i 4 := by rw [hij]; exact vp_in_nI hj (by decide)
      have hjn : i.toNatClampNeg = j := by rw [hij]; exact nI_clamp (by omega)
      refine va_aldq (D := D) hx hb hK hP 8 3 (wls_at (arrn_sh ha)) rfl hi hd ?_
      rw [hjn]
      exact hk _ _ _ _ hn hkj H locs ls hP hS hL
    refine ifs h (fun z h => key 0 (by decide) z h) (fun _ h => ifs h (fun z h => key 1 (by decide) z h) (fun _ h => ifs h (fun z h => key 2 (by decide) z h) (fun _ h => ifs h (fun z h => key 3 (by decide) z h) (fun _ z => by cases z))))
  | iastore =>
    obtain ⟨hd, rfl⟩ := hcd (Nat.succ_ne_zero _)
    obtain ⟨a, i, x, r, rfl, h⟩ := pAII_s h
    obtain ⟨n, ha, h⟩ := oN_s h
    obtain ⟨τ, hv, h⟩ := bnd_s h
    obtain ⟨hi, rfl⟩ := xst_s hv
    refine va_iast (D := D) hx hb hK hP (wls_D hq cy σ) hS a 0 (wls_at (arrn_sh ha)) rfl hi hd (fun H1 locs1 hP1 hD1 hS1 => ?_)
    rw [setF_arr (Or.inl rfl) (arrn_sh ha)] at hP1
    exact hk _ _ _ _ hn h H1 locs1 ls hP1 hS1 hL
  | bastore =>
    obtain ⟨hd, rfl⟩ := hcd (Nat.succ_ne_zero _)
    obtain ⟨a, i, x, r, rfl, h⟩ := pAII_s h
    obtain ⟨n, ha, h⟩ := oN_s h
    obtain ⟨τ, hv, h⟩ := bnd_s h
    obtain ⟨hx01, hi, rfl⟩ := xstZ_s hv
    refine va_zast (D := D) hx hb hK hP (wls_D hq cy σ) hS a 2 (wls_at (arrn_sh ha)) rfl hi hd (fun H1 locs1 hP1 hD1 hS1 => ?_)
    rw [(nar_bool hx01).1, setF_arr (Or.inr rfl) (arrn_sh ha)] at hP1
    exact hk _ _ _ _ hn h H1 locs1 ls hP1 hS1 hL
  | lastore =>
    obtain ⟨hd, rfl⟩ := hcd (Nat.succ_ne_zero _)
    obtain ⟨a, i, x, r, rfl, h⟩ := pAIJ_s h
    obtain ⟨n, ha, h⟩ := oN_s h
    obtain ⟨τ, hv, h⟩ := bnd_s h
    obtain ⟨hi, rfl⟩ := xstL_s hv
    refine va_last (D := D) hx hb hK hP (wls_D hq cy σ) hS a 1 (wls_at (arrn_sh ha)) rfl hi hd (fun H1 locs1 hP1 hD1 hS1 => ?_)
    rw [setG_arr (arrn_sh ha)] at hP1
    exact hk _ _ _ _ hn h H1 locs1 ls hP1 hS1 hL
  | arraylength =>
    obtain ⟨hd, rfl⟩ := hcd (Nat.succ_ne_zero _)
    obtain ⟨a, r, rfl, h1⟩ := pA_s h
    obtain ⟨hb9, h2⟩ := cnd_s h1
    rw [Bool.and_eq_true] at hb9
    have ha9 := Nat.eq_of_beq_eq_true hb9.1
    subst ha9
    have hpos := blt_of hb9.2
    rcases hsc with h0 | ⟨q1, q2, q3⟩
    · omega
    · exact va_slen hx hb q1 q2 q3 hS hd (hk _ _ _ _ hn h2 H locs ls hP hS hL)
  | invokevirtual ix =>
    obtain ⟨hd, rfl⟩ := hcd (Nat.succ_ne_zero _)
    exact xs_call C hct hk (stat := false) hn hd h H locs ls hP hS hL
  | invokestatic ix =>
    obtain ⟨hd, rfl⟩ := hcd (Nat.succ_ne_zero _)
    exact xs_call C hct hk (stat := true) hn hd h H locs ls hP hS hL
  | ireturn =>
    obtain ⟨hd, rfl⟩ := hcd (Nat.succ_ne_zero _)
    match st, h with
    | [.int v], h => exact hRI v σ h pc ls H locs hd hP hS
  | lreturn =>
    obtain ⟨hd, rfl⟩ := hcd (Nat.succ_ne_zero _)
    match st, h with
    | [.long v], h => exact hRL v σ h pc ls H locs hd hP hS
  | return_ =>
    obtain ⟨hd, rfl⟩ := hcd (Nat.succ_ne_zero _)
    match st, h with
    | [], h => exact hRV σ h pc ls H locs hd hP hS
  | _ =>
    exact absurd (show (none : Option β) = some r0 from h) (fun z => by cases z)
end SOUND2
end
section
-- methods over the small machine
section METH
variable {β : Type}
/-- 'o' is what the method's code comes to from there, in every context -/
def GO (cc : ByteArray) (own : String) (nL lvl : Nat) (sc : Scr) (RI : Int32 → Wd → Option β) (RL : Int64 → Wd → Option β) (RV : Wd → Option β) (o : Option β) (pc : Nat) (vs st : List Value) (σ : Wd) : Prop :=
  ∀ (p : Program) (l : Launch) (e : Env) (R : Room) (s : State) (m : MethodId) (args : Array Value) (below : List Frame) (meth : Method) (c : Code) (cells slots : Nat) (Q : State → Prop) (D : va_G) (q : Nat → Nat) (cy : Nat → ClassId) (r0 : β),
    XC p R s m args c cc own nL D q cy sc lvl cells slots →
    (∀ (v : Int32) (σ : Wd), RI v σ = some r0 → ∀ (pc : Nat) (ls : Array Slot) (H : Heap) (locs : List Loc), decode cc pc = .ok (.ireturn, 1) → va_P D clsL (wls q cy σ) H → va_S (AQ q) s.heap H locs → W p l e R s m args below meth c H locs cells slots Q (F0 m pc ls [.int v])) →
    (∀ (v : Int64) (σ : Wd), RL v σ = some r0 → ∀ (pc : Nat) (ls : Array Slot) (H : Heap) (locs : List Loc), decode cc pc = .ok (.lreturn, 1) → va_P D clsL (wls q cy σ) H → va_S (AQ q) s.heap H locs → W p l e R s m args below meth c H locs cells slots Q (F0 m pc ls [.long v])) →
    (∀ (σ : Wd), RV σ = some r0 → ∀ (pc : Nat) (ls : Array Slot) (H : Heap) (locs : List Loc), decode cc pc = .ok (.return_, 1) → va_P D clsL (wls q cy σ) H → va_S (AQ q) s.heap H locs → W p l e R s m args below meth c H locs cells slots Q (F0 m pc ls [])) →
    WG p l e R s m args below meth c nL D q cy cells slots Q r0 o pc vs st σ
def MDOK (T : List (Nat × Ent)) (ft : List (Nat × FTE)) (lt : List (Nat × Int64)) (ct : List (Nat × Cal)) (cc : ByteArray) (own : String) (lvl : Nat) : Prop :=
  T.all (chk cc) = true ∧ ft.all (fun e => fldchk own e && shchk e) = true ∧ lt.all (ltchk own) = true ∧ ∀ e ∈ ct, CalOK lvl own e
def pick (kl : List (Nat × (List Value → List Value → Wd → Option β))) : PK β := fun pc vs st σ => oN (fnd kl pc) fun f => f vs st σ
variable {cc : ByteArray} {own : String} {nL lvl : Nat} {sc : Scr} {RI : Int32 → Wd → Option β} {RL : Int64 → Wd → Option β} {RV : Wd → Option β} {T : List (Nat × Ent)} {ft : List (Nat × FTE)} {lt : List (Nat × Int64)} {ct : List (Nat × Cal)}
theorem GO.none {pc : Nat} {vs st : List Value} {σ : Wd} : GO cc own nL lvl sc RI RL RV (none : Option β) pc vs st σ := by
  intro p l e R s m args below meth c cells slots Q D q cy r0 _ _ _ _ h
  cases h
theorem GO.mask {o : Option β} {pc : Nat} {vs st : List Value} {σ : Wd} (bs : List Bool) (h : GO cc own nL lvl sc RI RL RV o pc (msk bs vs) st σ) : GO cc own nL lvl sc RI RL RV o pc vs st σ := by
  intro p l e R s m args below meth c cells slots Q D q cy r0 C h1 h2 h3 ho H locs ls hP hS hL
  exact h p l e R s m args below meth c cells slots Q D q cy r0 C h1 h2 h3 ho H locs ls hP hS (hL.mask bs)
theorem GO.cnd {o : Option β} {pc : Nat} {vs st : List Value} {σ : Wd} {b : Bool} (h : b = true → GO cc own nL lvl sc RI RL RV o pc vs st σ) : GO cc own nL lvl sc RI RL RV (cond b o .none) pc vs st σ := by
  cases b with
  | true => exact h rfl
  | false => exact GO.none
theorem GO.run (M : MDOK T ft lt ct cc own lvl) {kl : List (Nat × (List Value → List Value → Wd → Option β))} (hkl : ∀ z ∈ kl, ∀ vs st σ, GO cc own nL lvl sc RI RL RV (z.2 vs st σ) z.1 vs st σ) : ∀ (N : Nat) {pc : Nat} {vs st : List Value} {σ : Wd}, vs.length = nL → GO cc own nL lvl sc RI RL RV (xrun T ft lt ct sc RI RL RV (kl.map (·.1)) (pick kl) N pc vs st σ) pc vs st σ
  | 0, pc, vs, st, σ, hn => GO.none
  | N + 1, pc, vs, st, σ, hn => by
    intro p l e R s m args below meth c cells slots Q D q cy r0 C h1 h2 h3 ho H locs ls hP hS hL
    obtain ⟨hT, hft, hlt, hct⟩ := M
    unfold xrun at ho
    obtain ⟨⟨ins, nx, ts⟩, hf, ho2⟩ := oN_s ho
    have hc := List.all_eq_true.mp hT _ (fnd_mem _ _ _ hf)
    refine xstep_ok C hft hlt hct h1 h2 h3 (fun pc2 vs2 st2 σ2 hn2 => ?_) hc hn ho2 H locs ls hP hS hL
    cases hcut : inC (kl.map (·.1)) pc2 with
    | false => rw [cond_false]; exact GO.run ⟨hT, hft, hlt, hct⟩ hkl N hn2 p l e R s m args below meth c cells slots Q D q cy r0 C h1 h2 h3
    | true =>
      rw [cond_true]
      intro hpick
      obtain ⟨f, hff, hfo⟩ := oN_s hpick
      exact hkl _ (fnd_mem _ _ _ hff) vs2 st2 σ2 p l e R s m args below meth c cells slots Q D q cy r0 C h1 h2 h3 hfo
theorem GO.to (M : MDOK T ft lt ct cc own lvl) {kl : List (Nat × (List Value → List Value → Wd → Option β))} (hkl : ∀ z ∈ kl, ∀ vs st σ, GO cc own nL lvl sc RI RL RV (z.2 vs st σ) z.1 vs st σ) (N : Nat) {pc : Nat} {vs st : List Value} {σ : Wd} (hn : vs.length = nL) {o : Option β} (ho : o = xrun T ft lt ct sc RI RL RV (kl.map (·.1)) (pick kl) N pc vs st σ) : GO cc own nL lvl sc RI RL RV o pc vs st σ := ho ▸ GO.run M hkl N hn
end METH
def sc0 : Scr := (0, fun _ => 0)
def rI (v : Int32) (σ : Wd) : Option (Int32 × Wd) := some (v, σ)
def rZ (v : Int32) (σ : Wd) : Option (Int32 × Wd) := if v = 0 ∨ v = 1 then some (v, σ) else none
def rJ (v : Int64) (σ : Wd) : Option (Int64 × Wd) := some (v, σ)
def nI0 {β : Type} (_ : Int32) (_ : Wd) : Option β := none
def nJ0 {β : Type} (_ : Int64) (_ : Wd) : Option β := none
def nV0 {β : Type} (_ : Wd) : Option β := none
section CT
variable {cc : ByteArray} {own : String} {nL lvl : Nat} {y : MethodName}
theorem XC.of {l : Launch} {p : Program} {e : Env} {s : State} {m : MethodId} {args : Array Value} {below : List Frame} {meth : Method} {c : Code} {s₁ : State} {ret : Option FieldType} {D : va_G} {q : Nat → Nat} {cy : Nat → ClassId} (B : BodyLoose p l y (headSpec (wsM y cc nL ret) (rmL lvl)) cc nL ret e s m args below meth c s₁) (hml : c.maxLocals = nL) (ho : y.cls = own) (hK : va_K D clsL (tysL cy) s) (hq : QI q) : XC p (headSpec (wsM y cc nL ret) (rmL lvl)).room s m args c cc own nL D q cy sc0 lvl 0 0 := by
  have hts := atoms_spec (ws := wsM y cc nL ret) B.pre
  exact ⟨B.exec, B.bytes, hml, by rw [← ho]; exact findClass_of_methodNamed B.named, fun w hw => hts w (List.mem_cons_of_mem _ hw), hK, hq, Or.inl rfl, Nat.le_refl _, Nat.le_refl _, Nat.le_refl _, Nat.le_refl _⟩
theorem slen {q : Nat → Nat} {as : List Value} {nL : Nat} (h : (lg_sl as).length ≤ nL) : (lg_sl (as.map (cv q))).length ≤ nL := by
  rw [show (lg_sl (as.map (cv q))).length = (lg_sl as).length from ?_]
  · exact h
  · simp only [lg_sl, List.length_flatMap, List.map_map]
    congr 1
    apply List.map_congr_left
    intro v _
    simp only [Function.comp, cv_cat]
    split <;> rfl
theorem CTI.of {f : List Value → Wd → Option (Int32 × Wd)} (hy : plainName y.cls = true) (ho : y.cls = own) (hf : ∀ (as : List Value) (σ : Wd) (r : (Int32 × Wd)), f as σ = some r → (lg_sl as).length ≤ nL ∧ GO cc own nL lvl sc0 rI nJ0 nV0 (f as σ) 0 (pad nL (lay as)) [] σ) : CTI lvl y cc nL (some .int) f := by
  intro l D q cy hq as σ r τ hr
  refine Met.ofW (cc := cc) (maxL := nL) (ret := (some .int)) hy rfl ?_
  intro p e s m args below meth c s₁ B hml hv
  obtain ⟨rfl, hP, hK⟩ := hv
  obtain ⟨hlen, hgo⟩ := hf as σ _ hr
  have hl := lv_entry (as.map (cv q)) (slen hlen)
  rw [lg_entry_eq]
  refine hgo p l e _ s m _ below meth c 0 0 _ D q cy _ (XC.of B hml ho hK hq) (fun v σ2 h1 pc ls H locs hd hP1 hS1 => ?_) (fun v σ2 h1 => by cases h1) (fun σ2 h1 => by cases h1) hr s.heap [] _ hP va_S.rf (LH.entry hl)
  obtain ⟨rfl, rfl⟩ : v = r ∧ σ2 = τ := by
    have h2 := Option.some.inj h1
    exact ⟨congrArg Prod.fst h2, congrArg Prod.snd h2⟩
  exact W.iret (v := v) B.exec B.bytes B.returns (fun t ht hW => ⟨⟨v, σ2, rfl, ⟨rfl, rfl⟩, by rw [ht]; exact hP1, va_K.moved hW.alike hK⟩, hS1.F ht⟩) hS1.2.2 hd B.notSynchronized
theorem CTZ.of {f : List Value → Wd → Option (Int32 × Wd)} (hy : plainName y.cls = true) (ho : y.cls = own) (hf : ∀ (as : List Value) (σ : Wd) (r : (Int32 × Wd)), f as σ = some r → (lg_sl as).length ≤ nL ∧ GO cc own nL lvl sc0 rZ nJ0 nV0 (f as σ) 0 (pad nL (lay as)) [] σ) : CTI lvl y cc nL (some .boolean) f := by
  intro l D q cy hq as σ r τ hr
  refine Met.ofW (cc := cc) (maxL := nL) (ret := (some .boolean)) hy rfl ?_
  intro p e s m args below meth c s₁ B hml hv
  obtain ⟨rfl, hP, hK⟩ := hv
  obtain ⟨hlen, hgo⟩ := hf as σ _ hr
  have hl := lv_entry (as.map (cv q)) (slen hlen)
  rw [lg_entry_eq]
  refine hgo p l e _ s m _ below meth c 0 0 _ D q cy _ (XC.of B hml ho hK hq) (fun v σ2 h1 pc ls H locs hd hP1 hS1 => ?_) (fun v σ2 h1 => by cases h1) (fun σ2 h1 => by cases h1) hr s.heap [] _ hP va_S.rf (LH.entry hl)
  by_cases h01 : v = 0 ∨ v = 1
  · unfold rZ at h1
    rw [if_pos h01] at h1
    obtain ⟨rfl, rfl⟩ : v = r ∧ σ2 = τ := by
      have h2 := Option.some.inj h1
      exact ⟨congrArg Prod.fst h2, congrArg Prod.snd h2⟩
    exact W.zret (v := v) B.exec B.bytes B.returns (nar_bool h01).2.1 (fun t ht hW => ⟨⟨v, σ2, rfl, ⟨rfl, rfl⟩, by rw [ht]; exact hP1, va_K.moved hW.alike hK⟩, hS1.F ht⟩) hS1.2.2 hd B.notSynchronized
  · unfold rZ at h1
    rw [if_neg h01] at h1
    cases h1
theorem CTL.of {f : List Value → Wd → Option (Int64 × Wd)} (hy : plainName y.cls = true) (ho : y.cls = own) (hf : ∀ (as : List Value) (σ : Wd) (r : (Int64 × Wd)), f as σ = some r → (lg_sl as).length ≤ nL ∧ GO cc own nL lvl sc0 nI0 rJ nV0 (f as σ) 0 (pad nL (lay as)) [] σ) : CTL lvl y cc nL (some .long) f := by
  intro l D q cy hq as σ r τ hr
  refine Met.ofW (cc := cc) (maxL := nL) (ret := (some .long)) hy rfl ?_
  intro p e s m args below meth c s₁ B hml hv
  obtain ⟨rfl, hP, hK⟩ := hv
  obtain ⟨hlen, hgo⟩ := hf as σ _ hr
  have hl := lv_entry (as.map (cv q)) (slen hlen)
  rw [lg_entry_eq]
  refine hgo p l e _ s m _ below meth c 0 0 _ D q cy _ (XC.of B hml ho hK hq) (fun v σ2 h1 => by cases h1) (fun v σ2 h1 pc ls H locs hd hP1 hS1 => ?_) (fun σ2 h1 => by cases h1) hr s.heap [] _ hP va_S.rf (LH.entry hl)
  obtain ⟨rfl, rfl⟩ : v = r ∧ σ2 = τ := by
    have h2 := Option.some.inj h1
    exact ⟨congrArg Prod.fst h2, congrArg Prod.snd h2⟩
  exact W.lret (v := v) B.exec B.bytes B.returns (fun t ht hW => ⟨⟨v, σ2, rfl, ⟨rfl, rfl⟩, by rw [ht]; exact hP1, va_K.moved hW.alike hK⟩, hS1.F ht⟩) hS1.2.2 hd B.notSynchronized
theorem CTV.of {f : List Value → Wd → Option Wd} (hy : plainName y.cls = true) (ho : y.cls = own) (hf : ∀ (as : List Value) (σ : Wd) (r : Wd), f as σ = some r → (lg_sl as).length ≤ nL ∧ GO cc own nL lvl sc0 nI0 nJ0 some (f as σ) 0 (pad nL (lay as)) [] σ) : CTV lvl y cc nL none f := by
  intro l D q cy hq as σ τ hr
  refine Met.ofW (cc := cc) (maxL := nL) (ret := none) hy rfl ?_
  intro p e s m args below meth c s₁ B hml hv
  obtain ⟨rfl, hP, hK⟩ := hv
  obtain ⟨hlen, hgo⟩ := hf as σ _ hr
  have hl := lv_entry (as.map (cv q)) (slen hlen)
  rw [lg_entry_eq]
  refine hgo p l e _ s m _ below meth c 0 0 _ D q cy _ (XC.of B hml ho hK hq) (fun v σ2 h1 => by cases h1) (fun v σ2 h1 => by cases h1) (fun σ2 h1 pc ls H locs hd hP1 hS1 => ?_) hr s.heap [] _ hP va_S.rf (LH.entry hl)
  obtain rfl : σ2 = τ := Option.some.inj h1
  exact W.vret B.exec B.bytes B.returns (fun t ht hW => ⟨⟨σ2, rfl, rfl, by rw [ht]; exact hP1, va_K.moved hW.alike hK⟩, hS1.F ht⟩) hS1.2.2 hd B.notSynchronized
end CT
end
section
-- places of locals and stacks by pattern
def lookv : List (Nat × Value) → Nat → Value
  | [], _ => .null
  | (k, a) :: t, n => cond (Nat.beq k n) a (lookv t n)
def mkp : Nat → Nat → List (Nat × Value) → List Value
  | _, 0, _ => []
  | i, n + 1, l => lookv l i :: mkp (i + 1) n l
def allP : List (Nat × Value) → List Value → Prop
  | [], _ => True
  | z :: l, vs => vs[z.1]? = some z.2 ∧ allP l vs
theorem lookv_mem : ∀ (l : List (Nat × Value)) (n : Nat) (v : Value), lookv l n = v → v ≠ .null → (n, v) ∈ l
  | [], n, v, h, hn => absurd h.symm hn
  | (k, a) :: t, n, v, h, hn => by
    simp only [lookv] at h
    cases hb : Nat.beq k n with
    | true => rw [hb, cond_true] at h; rw [← Nat.eq_of_beq_eq_true hb, h]; exact List.mem_cons_self
    | false => rw [hb, cond_false] at h; exact List.mem_cons_of_mem _ (lookv_mem t n v h hn)
theorem mkp_get : ∀ (n i j : Nat) (l : List (Nat × Value)) (v : Value), (mkp i n l)[j]? = some v → v ≠ .null → (i + j, v) ∈ l
  | 0, i, j, l, v, h, hn => by simp [mkp] at h
  | n + 1, i, 0, l, v, h, hn => by
    simp only [mkp, List.getElem?_cons_zero, Option.some.injEq] at h
    exact lookv_mem l i v h hn
  | n + 1, i, j + 1, l, v, h, hn => by
    simp only [mkp, List.getElem?_cons_succ] at h
    have := mkp_get n (i + 1) j l v h hn
    rw [show i + (j + 1) = i + 1 + j by omega]
    exact this
theorem allP_mem : ∀ {l : List (Nat × Value)} {vs : List Value} {z : Nat × Value}, allP l vs → z ∈ l → vs[z.1]? = some z.2
  | [], vs, z, h, hz => by cases hz
  | a :: l, vs, z, h, hz => by
    rcases List.mem_cons.mp hz with rfl | hz
    · exact h.1
    · exact allP_mem h.2 hz
section PATS
variable {β : Type}
def kI (i : Nat) (vs : List Value) (k : Int32 → Option β) : Option β := match vs[i]? with
  | some (.int x) => k x
  | _ => none
def kJ (i : Nat) (vs : List Value) (k : Int64 → Option β) : Option β := match vs[i]? with
  | some (.long x) => k x
  | _ => none
def kA (i c : Nat) (vs : List Value) (k : Option β) : Option β := match vs[i]? with
  | some (.ref x) => cond (Nat.beq x c) k none
  | _ => none
def kS0 (st : List Value) (k : Option β) : Option β := match st with
  | [] => k
  | _ => none
def kSI (st : List Value) (k : Int32 → List Value → Option β) : Option β := match st with
  | .int x :: r => k x r
  | _ => none
def kSJ (st : List Value) (k : Int64 → List Value → Option β) : Option β := match st with
  | .long x :: r => k x r
  | _ => none
def kSA (c : Nat) (st : List Value) (k : List Value → Option β) : Option β := match st with
  | .ref x :: r => cond (Nat.beq x c) (k r) none
  | _ => none
theorem kS0_s {st : List Value} {k : Option β} {r : β} (h : kS0 st k = some r) : st = [] ∧ k = some r := by
  unfold kS0 at h; split at h
  · exact ⟨rfl, h⟩
  · cases h
theorem kSI_s {st : List Value} {k : Int32 → List Value → Option β} {r : β} (h : kSI st k = some r) : ∃ x rs, st = .int x :: rs ∧ k x rs = some r := by
  unfold kSI at h; split at h
  · exact ⟨_, _, rfl, h⟩
  · cases h
theorem kSJ_s {st : List Value} {k : Int64 → List Value → Option β} {r : β} (h : kSJ st k = some r) : ∃ x rs, st = .long x :: rs ∧ k x rs = some r := by
  unfold kSJ at h; split at h
  · exact ⟨_, _, rfl, h⟩
  · cases h
theorem kSA_s {c : Nat} {st : List Value} {k : List Value → Option β} {r : β} (h : kSA c st k = some r) : ∃ rs, st = .ref c :: rs ∧ k rs = some r := by
  unfold kSA at h; split at h
  · rename_i x rs
    cases hb : Nat.beq x c with
    | true => rw [hb] at h; have := Nat.eq_of_beq_eq_true hb; subst this; exact ⟨_, rfl, h⟩
    | false => rw [hb] at h; cases h
  · cases h
variable {cc : ByteArray} {own : String} {nL lvl : Nat} {sc : Scr} {RI : Int32 → Wd → Option β} {RL : Int64 → Wd → Option β} {RV : Wd → Option β} {o : Option β} {pc : Nat} {vs st : List Value} {σ : Wd}
theorem GO.pat (l : List (Nat × Value)) (hl : allP l vs) (h : GO cc own nL lvl sc RI RL RV o pc (mkp 0 nL l) st σ) : GO cc own nL lvl sc RI RL RV o pc vs st σ := by
  intro p l2 e R s m args below meth c cells slots Q D q cy r0 C h1 h2 h3 ho H locs ls hP hS hL
  refine h p l2 e R s m args below meth c cells slots Q D q cy r0 C h1 h2 h3 ho H locs ls hP hS ⟨hL.1, hL.2.1, fun j w hj hn => ?_⟩
  have h9 := mkp_get nL 0 j l w hj hn
  rw [Nat.zero_add] at h9
  exact hL.2.2 j w (allP_mem hl h9) hn
theorem go_kI {i : Nat} {k : Int32 → Option β} (h : ∀ x, vs[i]? = some (.int x) → GO cc own nL lvl sc RI RL RV (k x) pc vs st σ) : GO cc own nL lvl sc RI RL RV (kI i vs k) pc vs st σ := by
  unfold kI
  split
  · rename_i x hx; exact h x hx
  · exact GO.none
theorem go_kJ {i : Nat} {k : Int64 → Option β} (h : ∀ x, vs[i]? = some (.long x) → GO cc own nL lvl sc RI RL RV (k x) pc vs st σ) : GO cc own nL lvl sc RI RL RV (kJ i vs k) pc vs st σ := by
  unfold kJ
  split
  · rename_i x hx; exact h x hx
  · exact GO.none
theorem go_kA {i a : Nat} {k : Option β} (h : vs[i]? = some (.ref a) → GO cc own nL lvl sc RI RL RV k pc vs st σ) : GO cc own nL lvl sc RI RL RV (kA i a vs k) pc vs st σ := by
  unfold kA
  split
  · rename_i x hx
    refine GO.cnd (fun hb => ?_)
    have := Nat.eq_of_beq_eq_true hb
    subst this
    exact h hx
  · exact GO.none
theorem go_kS0 {k : Option β} (h : GO cc own nL lvl sc RI RL RV k pc vs [] σ) : GO cc own nL lvl sc RI RL RV (kS0 st k) pc vs st σ := by
  unfold kS0
  split
  · exact h
  · exact GO.none
end PATS
section PATS2
variable {β : Type}
def kSE (c : Nat) (st : List Value) (k : List Value → Option β) (e : Option β) : Option β := match st with
  | .ref x :: r => cond (Nat.beq x c) (k r) e
  | _ => none
def kAE (i c : Nat) (vs : List Value) (k e : Option β) : Option β := match vs[i]? with
  | some (.ref x) => cond (Nat.beq x c) k e
  | _ => none
theorem kSE_s {c : Nat} {st : List Value} {k : List Value → Option β} {e : Option β} {r : β} (h : kSE c st k e = some r) : (∃ rs, st = .ref c :: rs ∧ k rs = some r) ∨ e = some r := by
  unfold kSE at h; split at h
  · rename_i x rs
    cases hb : Nat.beq x c with
    | true => rw [hb] at h; have := Nat.eq_of_beq_eq_true hb; subst this; exact Or.inl ⟨_, rfl, h⟩
    | false => rw [hb] at h; exact Or.inr h
  · cases h
def kSti (st : List Value) (k : Int32 → Option β) : Option β := match st with
  | [.int x] => k x
  | _ => none
def kStii (st : List Value) (k : Int32 → Int32 → Option β) : Option β := match st with
  | [.int y, .int x] => k x y
  | _ => none
def kStai (c : Nat) (st : List Value) (k : Int32 → Option β) : Option β := match st with
  | [.int y, .ref x] => cond (Nat.beq x c) (k y) none
  | _ => none
def kStaii (c : Nat) (st : List Value) (k : Int32 → Int32 → Option β) : Option β := match st with
  | [.int z, .int y, .ref x] => cond (Nat.beq x c) (k y z) none
  | _ => none
def kStaiii (c : Nat) (st : List Value) (k : Int32 → Int32 → Int32 → Option β) : Option β := match st with
  | [.int w, .int z, .int y, .ref x] => cond (Nat.beq x c) (k y z w) none
  | _ => none
def kStj (st : List Value) (k : Int64 → Option β) : Option β := match st with
  | [.long x] => k x
  | _ => none
def xsh (i : Int32) (k : Nat → Option β) : Option β := if i = 0 then k 9 else if i = 1 then k 10 else if i = 2 then k 11 else if i = 3 then k 12 else none
variable {cc : ByteArray} {own : String} {nL lvl : Nat} {sc : Scr} {RI : Int32 → Wd → Option β} {RL : Int64 → Wd → Option β} {RV : Wd → Option β} {o : Option β} {pc : Nat} {vs st : List Value} {σ : Wd}
theorem go_kSti {k : Int32 → Option β} (h : ∀ x, GO cc own nL lvl sc RI RL RV (k x) pc vs [.int x] σ) : GO cc own nL lvl sc RI RL RV (kSti st k) pc vs st σ := by
  unfold kSti; split
  · exact h _
  · exact GO.none
theorem go_kStii {k : Int32 → Int32 → Option β} (h : ∀ x y, GO cc own nL lvl sc RI RL RV (k x y) pc vs [.int y, .int x] σ) : GO cc own nL lvl sc RI RL RV (kStii st k) pc vs st σ := by
  unfold kStii; split
  · exact h _ _
  · exact GO.none
theorem go_kStai {c : Nat} {k : Int32 → Option β} (h : ∀ y, GO cc own nL lvl sc RI RL RV (k y) pc vs [.int y, .ref c] σ) : GO cc own nL lvl sc RI RL RV (kStai c st k) pc vs st σ := by
  unfold kStai; split
  · refine GO.cnd (fun hb => ?_)
    have := Nat.eq_of_beq_eq_true hb
    subst this
    exact h _
  · exact GO.none
theorem go_kStaii {c : Nat} {k : Int32 → Int32 → Option β} (h : ∀ y z, GO cc own nL lvl sc RI RL RV (k y z) pc vs [.int z, .int y, .ref c] σ) : GO cc own nL lvl sc RI RL RV (kStaii c st k) pc vs st σ := by
  unfold kStaii; split
  · refine GO.cnd (fun hb => ?_)
    have := Nat.eq_of_beq_eq_true hb
    subst this
    exact h _ _
  · exact GO.none
theorem go_kStaiii {c : Nat} {k : Int32 → Int32 → Int32 → Option β} (h : ∀ y z w, GO cc own nL lvl sc RI RL RV (k y z w) pc vs [.int w, .int z, .int y, .ref c] σ) : GO cc own nL lvl sc RI RL RV (kStaiii c st k) pc vs st σ := by
  unfold kStaiii; split
  · refine GO.cnd (fun hb => ?_)
    have := Nat.eq_of_beq_eq_true hb
    subst this
    exact h _ _ _
  · exact GO.none
theorem go_kStj {k : Int64 → Option β} (h : ∀ x, GO cc own nL lvl sc RI RL RV (k x) pc vs [.long x] σ) : GO cc own nL lvl sc RI RL RV (kStj st k) pc vs st σ := by
  unfold kStj; split
  · exact h _
  · exact GO.none
theorem go_kAE {i a : Nat} {k e : Option β} (h : vs[i]? = some (.ref a) → GO cc own nL lvl sc RI RL RV k pc vs st σ) (h2 : GO cc own nL lvl sc RI RL RV e pc vs st σ) : GO cc own nL lvl sc RI RL RV (kAE i a vs k e) pc vs st σ := by
  unfold kAE; split
  · rename_i x hx
    cases hb : Nat.beq x a with
    | true => have := Nat.eq_of_beq_eq_true hb; subst this; exact h hx
    | false => exact h2
  · exact GO.none
end PATS2
end
section
def ft_X0 : List (Nat × FTE) := []
def lt_X0 : List (Nat × Int64) := []
theorem fc_X0 : ft_X0.all (fun e => fldchk RX0 e && shchk e) = true := by decide +kernel
theorem lc_X0 : lt_X0.all (ltchk RX0) = true := by decide +kernel
def T_X0_codeAt : List (Nat × Ent) := [(0, .lload_n 0, 1, []), (1, .bipush 6, 3, []), (3, .iload_n 2, 4, []), (4, .imul, 5, []), (5, .lushr, 6, []), (6, .l2i, 7, []), (7, .bipush 63, 9, []), (9, .iand, 10, []), (10, .ireturn, 11, [])]
set_option maxRecDepth 20000 in
theorem tc_X0_codeAt : T_X0_codeAt.all (chk cX0_codeAt) = true := by decide +kernel
def f_X0_codeAt (N : Nat) (a0 : Int64) (a2 : Int32) (σ : Wd) : Option (Int32 × Wd) :=
  some ((Int64.toInt32 ((Int64.toUInt64 a0 >>> (Int64.toUInt64 (Int32.toInt64 (6 * a2)) &&& Int64.toUInt64 63)).toInt64)) &&& 63, σ)
def a_X0_codeAt (N : Nat) : List Value → Wd → Option (Int32 × Wd) := fun as σ => kSJ as (fun b0 r0 => kSI r0 (fun b1 r1 => kS0 r1 (f_X0_codeAt N b0 b1 σ)))
def ct_X0_codeAt (N : Nat) : List (Nat × Cal) := []
set_option maxRecDepth 20000 in
theorem md_X0_codeAt (N : Nat) : MDOK T_X0_codeAt ft_X0 lt_X0 (ct_X0_codeAt N) cX0_codeAt RX0 1 := ⟨tc_X0_codeAt, fc_X0, lc_X0, (fun _ z => absurd z List.not_mem_nil)⟩
set_option maxRecDepth 20000 in
theorem C_X0_codeAt (N : Nat) : CTI 1 yX0_codeAt cX0_codeAt 3 (some .int) (a_X0_codeAt N) := by
  refine CTI.of (own := RX0) (by decide) rfl (fun as σ r h => ?_)
  unfold a_X0_codeAt at h
  obtain ⟨b0, r0, rfl, h0⟩ := kSJ_s h
  obtain ⟨b1, r1, rfl, h1⟩ := kSI_s h0
  obtain ⟨rfl, h9⟩ := kS0_s h1
  exact ⟨Nat.le_of_ble_eq_true rfl, by refine GO.to (md_X0_codeAt N) (kl := []) ((fun _ z => absurd z List.not_mem_nil)) 14 ?_ ?_ <;> rfl⟩
def T_X0_with : List (Nat × Ent) := [(0, .lload_n 0, 1, []), (1, .iload_n 3, 2, []), (2, .iconst 3, 3, []), (3, .ishl, 4, []), (4, .iload 4, 6, []), (6, .ior, 7, []), (7, .i2l, 8, []), (8, .bipush 6, 10, []), (10, .iload_n 2, 11, []), (11, .imul, 12, []), (12, .lshl, 13, []), (13, .lor, 14, []), (14, .lreturn, 15, [])]
set_option maxRecDepth 20000 in
theorem tc_X0_with : T_X0_with.all (chk cX0_with) = true := by decide +kernel
def f_X0_with (N : Nat) (a0 : Int64) (a2 : Int32) (a3 : Int32) (a4 : Int32) (σ : Wd) : Option (Int64 × Wd) :=
  some (a0 ||| ((Int32.toInt64 ((a3 <<< (3 &&& 31)) ||| a4)) <<< (Int32.toInt64 (6 * a2) &&& 63)), σ)
def a_X0_with (N : Nat) : List Value → Wd → Option (Int64 × Wd) := fun as σ => kSJ as (fun b0 r0 => kSI r0 (fun b1 r1 => kSI r1 (fun b2 r2 => kSI r2 (fun b3 r3 => kS0 r3 (f_X0_with N b0 b1 b2 b3 σ)))))
def ct_X0_with (N : Nat) : List (Nat × Cal) := []
set_option maxRecDepth 20000 in
theorem md_X0_with (N : Nat) : MDOK T_X0_with ft_X0 lt_X0 (ct_X0_with N) cX0_with RX0 1 := ⟨tc_X0_with, fc_X0, lc_X0, (fun _ z => absurd z List.not_mem_nil)⟩
set_option maxRecDepth 20000 in
theorem C_X0_with (N : Nat) : CTL 1 yX0_with cX0_with 5 (some .long) (a_X0_with N) := by
  refine CTL.of (own := RX0) (by decide) rfl (fun as σ r h => ?_)
  unfold a_X0_with at h
  obtain ⟨b0, r0, rfl, h0⟩ := kSJ_s h
  obtain ⟨b1, r1, rfl, h1⟩ := kSI_s h0
  obtain ⟨b2, r2, rfl, h2⟩ := kSI_s h1
  obtain ⟨b3, r3, rfl, h3⟩ := kSI_s h2
  obtain ⟨rfl, h9⟩ := kS0_s h3
  exact ⟨Nat.le_of_ble_eq_true rfl, by refine GO.to (md_X0_with N) (kl := []) ((fun _ z => absurd z List.not_mem_nil)) 18 ?_ ?_ <;> rfl⟩
def T_X0_amount : List (Nat × Ent) := [(0, .iconst 0, 1, []), (1, .istore_n 2, 2, []), (2, .iload_n 2, 3, []), (3, .bipush 8, 5, []), (5, .if_icmp .ge 17, 8, [22]), (8, .lload_n 0, 9, []), (9, .iload_n 2, 10, []), (10, .invokestatic 9, 13, []), (13, .ifCond .eq 9, 16, [22]), (16, .iinc 2 1, 19, []), (19, .goto (-17), 22, [2]), (22, .iload_n 2, 23, []), (23, .ireturn, 24, [])]
set_option maxRecDepth 20000 in
theorem tc_X0_amount : T_X0_amount.all (chk cX0_amount) = true := by decide +kernel
def f_X0_amount_L2 (N : Nat) (KO22 : Int32 → Wd → Option (Int32 × Wd)) : Nat → Int64 → Int32 → Wd → Option (Int32 × Wd)
  | 0, _, _, _ => none
  | n + 1, x0, x2, σ => if 8 ≤ x2 then (KO22 x2 σ) else ((f_X0_codeAt N x0 x2 σ).bind fun p1 => if p1.1 = 0 then (KO22 x2 p1.2) else (f_X0_amount_L2 N KO22 n x0 (x2 + 1) p1.2))
def f_X0_amount_J22 (N : Nat) (x2 : Int32) (σ : Wd) : Option (Int32 × Wd) :=
  some (x2, σ)
def f_X0_amount (N : Nat) (a0 : Int64) (σ : Wd) : Option (Int32 × Wd) :=
  f_X0_amount_L2 N (f_X0_amount_J22 N) N a0 0 σ
def a_X0_amount (N : Nat) : List Value → Wd → Option (Int32 × Wd) := fun as σ => kSJ as (fun b0 r0 => kS0 r0 (f_X0_amount N b0 σ))
set_option maxRecDepth 20000 in
theorem k_X0_9 : calchk RX0 9 2 0 yX0_codeAt cX0_codeAt 3 (some .int) = true := by decide +kernel
def ct_X0_amount (N : Nat) : List (Nat × Cal) := [(9, 2, 0, .inl (a_X0_codeAt N))]
set_option maxRecDepth 20000 in
theorem md_X0_amount (N : Nat) : MDOK T_X0_amount ft_X0 lt_X0 (ct_X0_amount N) cX0_amount RX0 2 := ⟨tc_X0_amount, fc_X0, lc_X0, List.forall_mem_cons.mpr ⟨Or.inl ⟨yX0_codeAt, cX0_codeAt, 3, (some .int), 1, k_X0_9, Nat.le_of_ble_eq_true rfl, C_X0_codeAt N⟩, (fun _ z => absurd z List.not_mem_nil)⟩⟩
set_option maxRecDepth 20000 in
theorem g_X0_amount_L2 (N : Nat) (KO22 : Int32 → Wd → Option (Int32 × Wd)) (hKO22 : ∀ (x2 : Int32) (σ : Wd), GO cX0_amount RX0 3 2 sc0 rI nJ0 nV0 (KO22 x2 σ) 22 (mkp 0 3 [(2, .int x2)]) [] σ) : ∀ (n : Nat), ∀ (x0 : Int64) (x2 : Int32) (σ : Wd), GO cX0_amount RX0 3 2 sc0 rI nJ0 nV0 (f_X0_amount_L2 N KO22 n x0 x2 σ) 2 (mkp 0 3 [(0, .long x0), (2, .int x2)]) [] σ
  | 0, x0, x2, σ => GO.none
  | n + 1, x0, x2, σ => by
    exact (by refine GO.to (md_X0_amount N) (kl := [(22, fun vs st σ => kS0 st (kI 2 vs (fun x2 => KO22 x2 σ))), (2, fun vs st σ => kS0 st (kJ 0 vs (fun x0 => kI 2 vs (fun x2 => f_X0_amount_L2 N KO22 n x0 x2 σ))))]) (List.forall_mem_cons.mpr ⟨fun vs st σ => go_kS0 (go_kI (fun x2 h2 => GO.pat [(2, .int x2)] ⟨h2, trivial⟩ (hKO22 x2 σ))), List.forall_mem_cons.mpr ⟨fun vs st σ => go_kS0 (go_kJ (fun x0 h0 => go_kI (fun x2 h2 => GO.pat [(0, .long x0), (2, .int x2)] ⟨h0, h2, trivial⟩ (g_X0_amount_L2 N KO22 hKO22 n x0 x2 σ)))), (fun _ z => absurd z List.not_mem_nil)⟩⟩) 18 ?_ ?_ <;> rfl)
theorem g_X0_amount_J22 (N : Nat) (x2 : Int32) (σ : Wd) : GO cX0_amount RX0 3 2 sc0 rI nJ0 nV0 (f_X0_amount_J22 N x2 σ) 22 (mkp 0 3 [(2, .int x2)]) [] σ := by
  exact (by refine GO.to (md_X0_amount N) (kl := []) ((fun _ z => absurd z List.not_mem_nil)) 18 ?_ ?_ <;> rfl)
set_option maxRecDepth 20000 in
theorem C_X0_amount (N : Nat) : CTI 2 yX0_amount cX0_amount 3 (some .int) (a_X0_amount N) := by
  refine CTI.of (own := RX0) (by decide) rfl (fun as σ r h => ?_)
  unfold a_X0_amount at h
  obtain ⟨b0, r0, rfl, h0⟩ := kSJ_s h
  obtain ⟨rfl, h9⟩ := kS0_s h0
  exact ⟨Nat.le_of_ble_eq_true rfl, by refine GO.to (md_X0_amount N) (kl := [(2, fun vs st σ => kS0 st (kJ 0 vs (fun x0 => kI 2 vs (fun x2 => f_X0_amount_L2 N (f_X0_amount_J22 N) N x0 x2 σ))))]) (List.forall_mem_cons.mpr ⟨fun vs st σ => go_kS0 (go_kJ (fun x0 h0 => go_kI (fun x2 h2 => GO.pat [(0, .long x0), (2, .int x2)] ⟨h0, h2, trivial⟩ (g_X0_amount_L2 N (f_X0_amount_J22 N) (g_X0_amount_J22 N) N x0 x2 σ)))), (fun _ z => absurd z List.not_mem_nil)⟩) 18 ?_ ?_ <;> rfl⟩
def T_X0_kindAt : List (Nat × Ent) := [(0, .lload_n 0, 1, []), (1, .iload_n 2, 2, []), (2, .invokestatic 9, 5, []), (5, .iconst 3, 6, []), (6, .ishr, 7, []), (7, .ireturn, 8, [])]
set_option maxRecDepth 20000 in
theorem tc_X0_kindAt : T_X0_kindAt.all (chk cX0_kindAt) = true := by decide +kernel
def f_X0_kindAt (N : Nat) (a0 : Int64) (a2 : Int32) (σ : Wd) : Option (Int32 × Wd) :=
  (f_X0_codeAt N a0 a2 σ).bind fun p1 => some (p1.1 >>> (3 &&& 31), p1.2)
def a_X0_kindAt (N : Nat) : List Value → Wd → Option (Int32 × Wd) := fun as σ => kSJ as (fun b0 r0 => kSI r0 (fun b1 r1 => kS0 r1 (f_X0_kindAt N b0 b1 σ)))
def ct_X0_kindAt (N : Nat) : List (Nat × Cal) := [(9, 2, 0, .inl (a_X0_codeAt N))]
set_option maxRecDepth 20000 in
theorem md_X0_kindAt (N : Nat) : MDOK T_X0_kindAt ft_X0 lt_X0 (ct_X0_kindAt N) cX0_kindAt RX0 2 := ⟨tc_X0_kindAt, fc_X0, lc_X0, List.forall_mem_cons.mpr ⟨Or.inl ⟨yX0_codeAt, cX0_codeAt, 3, (some .int), 1, k_X0_9, Nat.le_of_ble_eq_true rfl, C_X0_codeAt N⟩, (fun _ z => absurd z List.not_mem_nil)⟩⟩
set_option maxRecDepth 20000 in
theorem C_X0_kindAt (N : Nat) : CTI 2 yX0_kindAt cX0_kindAt 3 (some .int) (a_X0_kindAt N) := by
  refine CTI.of (own := RX0) (by decide) rfl (fun as σ r h => ?_)
  unfold a_X0_kindAt at h
  obtain ⟨b0, r0, rfl, h0⟩ := kSJ_s h
  obtain ⟨b1, r1, rfl, h1⟩ := kSI_s h0
  obtain ⟨rfl, h9⟩ := kS0_s h1
  exact ⟨Nat.le_of_ble_eq_true rfl, by refine GO.to (md_X0_kindAt N) (kl := []) ((fun _ z => absurd z List.not_mem_nil)) 11 ?_ ?_ <;> rfl⟩
def T_X0_widthAt : List (Nat × Ent) := [(0, .lload_n 0, 1, []), (1, .iload_n 2, 2, []), (2, .invokestatic 9, 5, []), (5, .bipush 7, 7, []), (7, .iand, 8, []), (8, .ireturn, 9, [])]
set_option maxRecDepth 20000 in
theorem tc_X0_widthAt : T_X0_widthAt.all (chk cX0_widthAt) = true := by decide +kernel
def f_X0_widthAt (N : Nat) (a0 : Int64) (a2 : Int32) (σ : Wd) : Option (Int32 × Wd) :=
  (f_X0_codeAt N a0 a2 σ).bind fun p1 => some (p1.1 &&& 7, p1.2)
def a_X0_widthAt (N : Nat) : List Value → Wd → Option (Int32 × Wd) := fun as σ => kSJ as (fun b0 r0 => kSI r0 (fun b1 r1 => kS0 r1 (f_X0_widthAt N b0 b1 σ)))
def ct_X0_widthAt (N : Nat) : List (Nat × Cal) := [(9, 2, 0, .inl (a_X0_codeAt N))]
set_option maxRecDepth 20000 in
theorem md_X0_widthAt (N : Nat) : MDOK T_X0_widthAt ft_X0 lt_X0 (ct_X0_widthAt N) cX0_widthAt RX0 2 := ⟨tc_X0_widthAt, fc_X0, lc_X0, List.forall_mem_cons.mpr ⟨Or.inl ⟨yX0_codeAt, cX0_codeAt, 3, (some .int), 1, k_X0_9, Nat.le_of_ble_eq_true rfl, C_X0_codeAt N⟩, (fun _ z => absurd z List.not_mem_nil)⟩⟩
set_option maxRecDepth 20000 in
theorem C_X0_widthAt (N : Nat) : CTI 2 yX0_widthAt cX0_widthAt 3 (some .int) (a_X0_widthAt N) := by
  refine CTI.of (own := RX0) (by decide) rfl (fun as σ r h => ?_)
  unfold a_X0_widthAt at h
  obtain ⟨b0, r0, rfl, h0⟩ := kSJ_s h
  obtain ⟨b1, r1, rfl, h1⟩ := kSI_s h0
  obtain ⟨rfl, h9⟩ := kS0_s h1
  exact ⟨Nat.le_of_ble_eq_true rfl, by refine GO.to (md_X0_widthAt N) (kl := []) ((fun _ z => absurd z List.not_mem_nil)) 11 ?_ ?_ <;> rfl⟩
def T_X0_width : List (Nat × Ent) := [(0, .iconst 0, 1, []), (1, .istore_n 2, 2, []), (2, .iconst 0, 3, []), (3, .istore_n 3, 4, []), (4, .iload_n 3, 5, []), (5, .bipush 8, 7, []), (7, .if_icmp .ge 17, 10, [24]), (10, .iload_n 2, 11, []), (11, .lload_n 0, 12, []), (12, .iload_n 3, 13, []), (13, .invokestatic 15, 16, []), (16, .iadd, 17, []), (17, .istore_n 2, 18, []), (18, .iinc 3 1, 21, []), (21, .goto (-17), 24, [4]), (24, .iload_n 2, 25, []), (25, .ireturn, 26, [])]
set_option maxRecDepth 20000 in
theorem tc_X0_width : T_X0_width.all (chk cX0_width) = true := by decide +kernel
def f_X0_width_L4 (N : Nat) (KO24 : Int32 → Wd → Option (Int32 × Wd)) : Nat → Int64 → Int32 → Int32 → Wd → Option (Int32 × Wd)
  | 0, _, _, _, _ => none
  | n + 1, x0, x2, x3, σ => if 8 ≤ x3 then (KO24 x2 σ) else ((f_X0_widthAt N x0 x3 σ).bind fun p1 => f_X0_width_L4 N KO24 n x0 (x2 + p1.1) (x3 + 1) p1.2)
def f_X0_width_J24 (N : Nat) (x2 : Int32) (σ : Wd) : Option (Int32 × Wd) :=
  some (x2, σ)
def f_X0_width (N : Nat) (a0 : Int64) (σ : Wd) : Option (Int32 × Wd) :=
  f_X0_width_L4 N (f_X0_width_J24 N) N a0 0 0 σ
def a_X0_width (N : Nat) : List Value → Wd → Option (Int32 × Wd) := fun as σ => kSJ as (fun b0 r0 => kS0 r0 (f_X0_width N b0 σ))
set_option maxRecDepth 20000 in
theorem k_X0_15 : calchk RX0 15 2 0 yX0_widthAt cX0_widthAt 3 (some .int) = true := by decide +kernel
def ct_X0_width (N : Nat) : List (Nat × Cal) := [(15, 2, 0, .inl (a_X0_widthAt N))]
set_option maxRecDepth 20000 in
theorem md_X0_width (N : Nat) : MDOK T_X0_width ft_X0 lt_X0 (ct_X0_width N) cX0_width RX0 3 := ⟨tc_X0_width, fc_X0, lc_X0, List.forall_mem_cons.mpr ⟨Or.inl ⟨yX0_widthAt, cX0_widthAt, 3, (some .int), 2, k_X0_15, Nat.le_of_ble_eq_true rfl, C_X0_widthAt N⟩, (fun _ z => absurd z List.not_mem_nil)⟩⟩
set_option maxRecDepth 20000 in
theorem g_X0_width_L4 (N : Nat) (KO24 : Int32 → Wd → Option (Int32 × Wd)) (hKO24 : ∀ (x2 : Int32) (σ : Wd), GO cX0_width RX0 4 3 sc0 rI nJ0 nV0 (KO24 x2 σ) 24 (mkp 0 4 [(2, .int x2)]) [] σ) : ∀ (n : Nat), ∀ (x0 : Int64) (x2 : Int32) (x3 : Int32) (σ : Wd), GO cX0_width RX0 4 3 sc0 rI nJ0 nV0 (f_X0_width_L4 N KO24 n x0 x2 x3 σ) 4 (mkp 0 4 [(0, .long x0), (2, .int x2), (3, .int x3)]) [] σ
  | 0, x0, x2, x3, σ => GO.none
  | n + 1, x0, x2, x3, σ => by
    exact (by refine GO.to (md_X0_width N) (kl := [(24, fun vs st σ => kS0 st (kI 2 vs (fun x2 => KO24 x2 σ))), (4, fun vs st σ => kS0 st (kJ 0 vs (fun x0 => kI 2 vs (fun x2 => kI 3 vs (fun x3 => f_X0_width_L4 N KO24 n x0 x2 x3 σ)))))]) (List.forall_mem_cons.mpr ⟨fun vs st σ => go_kS0 (go_kI (fun x2 h2 => GO.pat [(2, .int x2)] ⟨h2, trivial⟩ (hKO24 x2 σ))), List.forall_mem_cons.mpr ⟨fun vs st σ => go_kS0 (go_kJ (fun x0 h0 => go_kI (fun x2 h2 => go_kI (fun x3 h3 => GO.pat [(0, .long x0), (2, .int x2), (3, .int x3)] ⟨h0, h2, h3, trivial⟩ (g_X0_width_L4 N KO24 hKO24 n x0 x2 x3 σ))))), (fun _ z => absurd z List.not_mem_nil)⟩⟩) 22 ?_ ?_ <;> rfl)
theorem g_X0_width_J24 (N : Nat) (x2 : Int32) (σ : Wd) : GO cX0_width RX0 4 3 sc0 rI nJ0 nV0 (f_X0_width_J24 N x2 σ) 24 (mkp 0 4 [(2, .int x2)]) [] σ := by
  exact (by refine GO.to (md_X0_width N) (kl := []) ((fun _ z => absurd z List.not_mem_nil)) 22 ?_ ?_ <;> rfl)
set_option maxRecDepth 20000 in
theorem C_X0_width (N : Nat) : CTI 3 yX0_width cX0_width 4 (some .int) (a_X0_width N) := by
  refine CTI.of (own := RX0) (by decide) rfl (fun as σ r h => ?_)
  unfold a_X0_width at h
  obtain ⟨b0, r0, rfl, h0⟩ := kSJ_s h
  obtain ⟨rfl, h9⟩ := kS0_s h0
  exact ⟨Nat.le_of_ble_eq_true rfl, by refine GO.to (md_X0_width N) (kl := [(4, fun vs st σ => kS0 st (kJ 0 vs (fun x0 => kI 2 vs (fun x2 => kI 3 vs (fun x3 => f_X0_width_L4 N (f_X0_width_J24 N) N x0 x2 x3 σ)))))]) (List.forall_mem_cons.mpr ⟨fun vs st σ => go_kS0 (go_kJ (fun x0 h0 => go_kI (fun x2 h2 => go_kI (fun x3 h3 => GO.pat [(0, .long x0), (2, .int x2), (3, .int x3)] ⟨h0, h2, h3, trivial⟩ (g_X0_width_L4 N (f_X0_width_J24 N) (g_X0_width_J24 N) N x0 x2 x3 σ))))), (fun _ z => absurd z List.not_mem_nil)⟩) 22 ?_ ?_ <;> rfl⟩
def T_X0_figureOf : List (Nat × Ent) := [(0, .iload_n 2, 1, []), (1, .bipush 8, 3, []), (3, .if_icmp .ge 11, 6, [14]), (6, .lload_n 0, 7, []), (7, .iload_n 2, 8, []), (8, .invokestatic 9, 11, []), (11, .ifCond .ne 6, 14, [17]), (14, .bipush (-2), 16, []), (16, .ireturn, 17, []), (17, .bipush 10, 19, []), (19, .lload_n 0, 20, []), (20, .iload_n 2, 21, []), (21, .invokestatic 18, 24, []), (24, .imul, 25, []), (25, .lload_n 0, 26, []), (26, .iload_n 2, 27, []), (27, .invokestatic 15, 30, []), (30, .iadd, 31, []), (31, .ireturn, 32, [])]
set_option maxRecDepth 20000 in
theorem tc_X0_figureOf : T_X0_figureOf.all (chk cX0_figureOf) = true := by decide +kernel
def f_X0_figureOf (N : Nat) (a0 : Int64) (a2 : Int32) (σ : Wd) : Option (Int32 × Wd) :=
  if 8 ≤ a2 then (some ((-2), σ)) else ((f_X0_codeAt N a0 a2 σ).bind fun p1 => if p1.1 = 0 then (some ((-2), p1.2)) else ((f_X0_kindAt N a0 a2 p1.2).bind fun p2 => (f_X0_widthAt N a0 a2 p2.2).bind fun p3 => some ((10 * p2.1) + p3.1, p3.2)))
def a_X0_figureOf (N : Nat) : List Value → Wd → Option (Int32 × Wd) := fun as σ => kSJ as (fun b0 r0 => kSI r0 (fun b1 r1 => kS0 r1 (f_X0_figureOf N b0 b1 σ)))
set_option maxRecDepth 20000 in
theorem k_X0_18 : calchk RX0 18 2 0 yX0_kindAt cX0_kindAt 3 (some .int) = true := by decide +kernel
def ct_X0_figureOf (N : Nat) : List (Nat × Cal) := [(9, 2, 0, .inl (a_X0_codeAt N)), (18, 2, 0, .inl (a_X0_kindAt N)), (15, 2, 0, .inl (a_X0_widthAt N))]
set_option maxRecDepth 20000 in
theorem md_X0_figureOf (N : Nat) : MDOK T_X0_figureOf ft_X0 lt_X0 (ct_X0_figureOf N) cX0_figureOf RX0 3 := ⟨tc_X0_figureOf, fc_X0, lc_X0, List.forall_mem_cons.mpr ⟨Or.inl ⟨yX0_codeAt, cX0_codeAt, 3, (some .int), 1, k_X0_9, Nat.le_of_ble_eq_true rfl, C_X0_codeAt N⟩, List.forall_mem_cons.mpr ⟨Or.inl ⟨yX0_kindAt, cX0_kindAt, 3, (some .int), 2, k_X0_18, Nat.le_of_ble_eq_true rfl, C_X0_kindAt N⟩, List.forall_mem_cons.mpr ⟨Or.inl ⟨yX0_widthAt, cX0_widthAt, 3, (some .int), 2, k_X0_15, Nat.le_of_ble_eq_true rfl, C_X0_widthAt N⟩, (fun _ z => absurd z List.not_mem_nil)⟩⟩⟩⟩
set_option maxRecDepth 20000 in
theorem C_X0_figureOf (N : Nat) : CTI 3 yX0_figureOf cX0_figureOf 3 (some .int) (a_X0_figureOf N) := by
  refine CTI.of (own := RX0) (by decide) rfl (fun as σ r h => ?_)
  unfold a_X0_figureOf at h
  obtain ⟨b0, r0, rfl, h0⟩ := kSJ_s h
  obtain ⟨b1, r1, rfl, h1⟩ := kSI_s h0
  obtain ⟨rfl, h9⟩ := kS0_s h1
  exact ⟨Nat.le_of_ble_eq_true rfl, by refine GO.to (md_X0_figureOf N) (kl := []) ((fun _ z => absurd z List.not_mem_nil)) 24 ?_ ?_ <;> rfl⟩
def ft_J6 : List (Nat × FTE) := []
def lt_J6 : List (Nat × Int64) := [(100265, 1431655765), (100266, 858993459), (100267, 252645135)]
theorem fc_J6 : ft_J6.all (fun e => fldchk RJ6 e && shchk e) = true := by decide +kernel
theorem lc_J6 : lt_J6.all (ltchk RJ6) = true := by decide +kernel
def T_J6_bitCount_0f7a4 : List (Nat × Ent) := [(0, .iload_n 0, 1, []), (1, .iload_n 0, 2, []), (2, .iconst 1, 3, []), (3, .iushr, 4, []), (4, .ldc_w 265, 7, []), (7, .iand, 8, []), (8, .isub, 9, []), (9, .istore_n 0, 10, []), (10, .iload_n 0, 11, []), (11, .ldc_w 266, 14, []), (14, .iand, 15, []), (15, .iload_n 0, 16, []), (16, .iconst 2, 17, []), (17, .iushr, 18, []), (18, .ldc_w 266, 21, []), (21, .iand, 22, []), (22, .iadd, 23, []), (23, .istore_n 0, 24, []), (24, .iload_n 0, 25, []), (25, .iload_n 0, 26, []), (26, .iconst 4, 27, []), (27, .iushr, 28, []), (28, .iadd, 29, []), (29, .ldc_w 267, 32, []), (32, .iand, 33, []), (33, .istore_n 0, 34, []), (34, .iload_n 0, 35, []), (35, .iload_n 0, 36, []), (36, .bipush 8, 38, []), (38, .iushr, 39, []), (39, .iadd, 40, []), (40, .istore_n 0, 41, []), (41, .iload_n 0, 42, []), (42, .iload_n 0, 43, []), (43, .bipush 16, 45, []), (45, .iushr, 46, []), (46, .iadd, 47, []), (47, .istore_n 0, 48, []), (48, .iload_n 0, 49, []), (49, .bipush 63, 51, []), (51, .iand, 52, []), (52, .ireturn, 53, [])]
set_option maxRecDepth 20000 in
theorem tc_J6_bitCount_0f7a4 : T_J6_bitCount_0f7a4.all (chk cJ6_bitCount_0f7a4) = true := by decide +kernel
def f_J6_bitCount_0f7a4 (N : Nat) (a0 : Int32) (σ : Wd) : Option (Int32 × Wd) :=
  some ((((((((a0 - (((Int32.toUInt32 a0 >>> (Int32.toUInt32 1 &&& Int32.toUInt32 31)).toInt32) &&& 1431655765)) &&& 858993459) + (((Int32.toUInt32 (a0 - (((Int32.toUInt32 a0 >>> (Int32.toUInt32 1 &&& Int32.toUInt32 31)).toInt32) &&& 1431655765)) >>> (Int32.toUInt32 2 &&& Int32.toUInt32 31)).toInt32) &&& 858993459)) + ((Int32.toUInt32 (((a0 - (((Int32.toUInt32 a0 >>> (Int32.toUInt32 1 &&& Int32.toUInt32 31)).toInt32) &&& 1431655765)) &&& 858993459) + (((Int32.toUInt32 (a0 - (((Int32.toUInt32 a0 >>> (Int32.toUInt32 1 &&& Int32.toUInt32 31)).toInt32) &&& 1431655765)) >>> (Int32.toUInt32 2 &&& Int32.toUInt32 31)).toInt32) &&& 858993459)) >>> (Int32.toUInt32 4 &&& Int32.toUInt32 31)).toInt32)) &&& 252645135) + ((Int32.toUInt32 (((((a0 - (((Int32.toUInt32 a0 >>> (Int32.toUInt32 1 &&& Int32.toUInt32 31)).toInt32) &&& 1431655765)) &&& 858993459) + (((Int32.toUInt32 (a0 - (((Int32.toUInt32 a0 >>> (Int32.toUInt32 1 &&& Int32.toUInt32 31)).toInt32) &&& 1431655765)) >>> (Int32.toUInt32 2 &&& Int32.toUInt32 31)).toInt32) &&& 858993459)) + ((Int32.toUInt32 (((a0 - (((Int32.toUInt32 a0 >>> (Int32.toUInt32 1 &&& Int32.toUInt32 31)).toInt32) &&& 1431655765)) &&& 858993459) + (((Int32.toUInt32 (a0 - (((Int32.toUInt32 a0 >>> (Int32.toUInt32 1 &&& Int32.toUInt32 31)).toInt32) &&& 1431655765)) >>> (Int32.toUInt32 2 &&& Int32.toUInt32 31)).toInt32) &&& 858993459)) >>> (Int32.toUInt32 4 &&& Int32.toUInt32 31)).toInt32)) &&& 252645135) >>> (Int32.toUInt32 8 &&& Int32.toUInt32 31)).toInt32)) + ((Int32.toUInt32 ((((((a0 - (((Int32.toUInt32 a0 >>> (Int32.toUInt32 1 &&& Int32.toUInt32 31)).toInt32) &&& 1431655765)) &&& 858993459) + (((Int32.toUInt32 (a0 - (((Int32.toUInt32 a0 >>> (Int32.toUInt32 1 &&& Int32.toUInt32 31)).toInt32) &&& 1431655765)) >>> (Int32.toUInt32 2 &&& Int32.toUInt32 31)).toInt32) &&& 858993459)) + ((Int32.toUInt32 (((a0 - (((Int32.toUInt32 a0 >>> (Int32.toUInt32 1 &&& Int32.toUInt32 31)).toInt32) &&& 1431655765)) &&& 858993459) + (((Int32.toUInt32 (a0 - (((Int32.toUInt32 a0 >>> (Int32.toUInt32 1 &&& Int32.toUInt32 31)).toInt32) &&& 1431655765)) >>> (Int32.toUInt32 2 &&& Int32.toUInt32 31)).toInt32) &&& 858993459)) >>> (Int32.toUInt32 4 &&& Int32.toUInt32 31)).toInt32)) &&& 252645135) + ((Int32.toUInt32 (((((a0 - (((Int32.toUInt32 a0 >>> (Int32.toUInt32 1 &&& Int32.toUInt32 31)).toInt32) &&& 1431655765)) &&& 858993459) + (((Int32.toUInt32 (a0 - (((Int32.toUInt32 a0 >>> (Int32.toUInt32 1 &&& Int32.toUInt32 31)).toInt32) &&& 1431655765)) >>> (Int32.toUInt32 2 &&& Int32.toUInt32 31)).toInt32) &&& 858993459)) + ((Int32.toUInt32 (((a0 - (((Int32.toUInt32 a0 >>> (Int32.toUInt32 1 &&& Int32.toUInt32 31)).toInt32) &&& 1431655765)) &&& 858993459) + (((Int32.toUInt32 (a0 - (((Int32.toUInt32 a0 >>> (Int32.toUInt32 1 &&& Int32.toUInt32 31)).toInt32) &&& 1431655765)) >>> (Int32.toUInt32 2 &&& Int32.toUInt32 31)).toInt32) &&& 858993459)) >>> (Int32.toUInt32 4 &&& Int32.toUInt32 31)).toInt32)) &&& 252645135) >>> (Int32.toUInt32 8 &&& Int32.toUInt32 31)).toInt32)) >>> (Int32.toUInt32 16 &&& Int32.toUInt32 31)).toInt32)) &&& 63, σ)
def a_J6_bitCount_0f7a4 (N : Nat) : List Value → Wd → Option (Int32 × Wd) := fun as σ => kSI as (fun b0 r0 => kS0 r0 (f_J6_bitCount_0f7a4 N b0 σ))
def ct_J6_bitCount_0f7a4 (N : Nat) : List (Nat × Cal) := []
set_option maxRecDepth 20000 in
theorem md_J6_bitCount_0f7a4 (N : Nat) : MDOK T_J6_bitCount_0f7a4 ft_J6 lt_J6 (ct_J6_bitCount_0f7a4 N) cJ6_bitCount_0f7a4 RJ6 1 := ⟨tc_J6_bitCount_0f7a4, fc_J6, lc_J6, (fun _ z => absurd z List.not_mem_nil)⟩
set_option maxRecDepth 20000 in
theorem C_J6_bitCount_0f7a4 (N : Nat) : CTI 1 yJ6_bitCount_0f7a4 cJ6_bitCount_0f7a4 1 (some .int) (a_J6_bitCount_0f7a4 N) := by
  refine CTI.of (own := RJ6) (by decide) rfl (fun as σ r h => ?_)
  unfold a_J6_bitCount_0f7a4 at h
  obtain ⟨b0, r0, rfl, h0⟩ := kSI_s h
  obtain ⟨rfl, h9⟩ := kS0_s h0
  exact ⟨Nat.le_of_ble_eq_true rfl, by refine GO.to (md_J6_bitCount_0f7a4 N) (kl := []) ((fun _ z => absurd z List.not_mem_nil)) 47 ?_ ?_ <;> rfl⟩
def ft_J13 : List (Nat × FTE) := []
def lt_J13 : List (Nat × Int64) := [(314, 6148914691236517205), (316, 3689348814741910323), (318, 1085102592571150095)]
theorem fc_J13 : ft_J13.all (fun e => fldchk RJ13 e && shchk e) = true := by decide +kernel
theorem lc_J13 : lt_J13.all (ltchk RJ13) = true := by decide +kernel
def T_J13_bitCount_95d88 : List (Nat × Ent) := [(0, .lload_n 0, 1, []), (1, .lload_n 0, 2, []), (2, .iconst 1, 3, []), (3, .lushr, 4, []), (4, .ldc2_w 314, 7, []), (7, .land, 8, []), (8, .lsub, 9, []), (9, .lstore_n 0, 10, []), (10, .lload_n 0, 11, []), (11, .ldc2_w 316, 14, []), (14, .land, 15, []), (15, .lload_n 0, 16, []), (16, .iconst 2, 17, []), (17, .lushr, 18, []), (18, .ldc2_w 316, 21, []), (21, .land, 22, []), (22, .ladd, 23, []), (23, .lstore_n 0, 24, []), (24, .lload_n 0, 25, []), (25, .lload_n 0, 26, []), (26, .iconst 4, 27, []), (27, .lushr, 28, []), (28, .ladd, 29, []), (29, .ldc2_w 318, 32, []), (32, .land, 33, []), (33, .lstore_n 0, 34, []), (34, .lload_n 0, 35, []), (35, .lload_n 0, 36, []), (36, .bipush 8, 38, []), (38, .lushr, 39, []), (39, .ladd, 40, []), (40, .lstore_n 0, 41, []), (41, .lload_n 0, 42, []), (42, .lload_n 0, 43, []), (43, .bipush 16, 45, []), (45, .lushr, 46, []), (46, .ladd, 47, []), (47, .lstore_n 0, 48, []), (48, .lload_n 0, 49, []), (49, .lload_n 0, 50, []), (50, .bipush 32, 52, []), (52, .lushr, 53, []), (53, .ladd, 54, []), (54, .lstore_n 0, 55, []), (55, .lload_n 0, 56, []), (56, .l2i, 57, []), (57, .bipush 127, 59, []), (59, .iand, 60, []), (60, .ireturn, 61, [])]
set_option maxRecDepth 20000 in
theorem tc_J13_bitCount_95d88 : T_J13_bitCount_95d88.all (chk cJ13_bitCount_95d88) = true := by decide +kernel
def f_J13_bitCount_95d88 (N : Nat) (a0 : Int64) (σ : Wd) : Option (Int32 × Wd) :=
  some ((Int64.toInt32 ((((((((a0 - (((Int64.toUInt64 a0 >>> (Int64.toUInt64 (Int32.toInt64 1) &&& Int64.toUInt64 63)).toInt64) &&& 6148914691236517205)) &&& 3689348814741910323) + (((Int64.toUInt64 (a0 - (((Int64.toUInt64 a0 >>> (Int64.toUInt64 (Int32.toInt64 1) &&& Int64.toUInt64 63)).toInt64) &&& 6148914691236517205)) >>> (Int64.toUInt64 (Int32.toInt64 2) &&& Int64.toUInt64 63)).toInt64) &&& 3689348814741910323)) + ((Int64.toUInt64 (((a0 - (((Int64.toUInt64 a0 >>> (Int64.toUInt64 (Int32.toInt64 1) &&& Int64.toUInt64 63)).toInt64) &&& 6148914691236517205)) &&& 3689348814741910323) + (((Int64.toUInt64 (a0 - (((Int64.toUInt64 a0 >>> (Int64.toUInt64 (Int32.toInt64 1) &&& Int64.toUInt64 63)).toInt64) &&& 6148914691236517205)) >>> (Int64.toUInt64 (Int32.toInt64 2) &&& Int64.toUInt64 63)).toInt64) &&& 3689348814741910323)) >>> (Int64.toUInt64 (Int32.toInt64 4) &&& Int64.toUInt64 63)).toInt64)) &&& 1085102592571150095) + ((Int64.toUInt64 (((((a0 - (((Int64.toUInt64 a0 >>> (Int64.toUInt64 (Int32.toInt64 1) &&& Int64.toUInt64 63)).toInt64) &&& 6148914691236517205)) &&& 3689348814741910323) + (((Int64.toUInt64 (a0 - (((Int64.toUInt64 a0 >>> (Int64.toUInt64 (Int32.toInt64 1) &&& Int64.toUInt64 63)).toInt64) &&& 6148914691236517205)) >>> (Int64.toUInt64 (Int32.toInt64 2) &&& Int64.toUInt64 63)).toInt64) &&& 3689348814741910323)) + ((Int64.toUInt64 (((a0 - (((Int64.toUInt64 a0 >>> (Int64.toUInt64 (Int32.toInt64 1) &&& Int64.toUInt64 63)).toInt64) &&& 6148914691236517205)) &&& 3689348814741910323) + (((Int64.toUInt64 (a0 - (((Int64.toUInt64 a0 >>> (Int64.toUInt64 (Int32.toInt64 1) &&& Int64.toUInt64 63)).toInt64) &&& 6148914691236517205)) >>> (Int64.toUInt64 (Int32.toInt64 2) &&& Int64.toUInt64 63)).toInt64) &&& 3689348814741910323)) >>> (Int64.toUInt64 (Int32.toInt64 4) &&& Int64.toUInt64 63)).toInt64)) &&& 1085102592571150095) >>> (Int64.toUInt64 (Int32.toInt64 8) &&& Int64.toUInt64 63)).toInt64)) + ((Int64.toUInt64 ((((((a0 - (((Int64.toUInt64 a0 >>> (Int64.toUInt64 (Int32.toInt64 1) &&& Int64.toUInt64 63)).toInt64) &&& 6148914691236517205)) &&& 3689348814741910323) + (((Int64.toUInt64 (a0 - (((Int64.toUInt64 a0 >>> (Int64.toUInt64 (Int32.toInt64 1) &&& Int64.toUInt64 63)).toInt64) &&& 6148914691236517205)) >>> (Int64.toUInt64 (Int32.toInt64 2) &&& Int64.toUInt64 63)).toInt64) &&& 3689348814741910323)) + ((Int64.toUInt64 (((a0 - (((Int64.toUInt64 a0 >>> (Int64.toUInt64 (Int32.toInt64 1) &&& Int64.toUInt64 63)).toInt64) &&& 6148914691236517205)) &&& 3689348814741910323) + (((Int64.toUInt64 (a0 - (((Int64.toUInt64 a0 >>> (Int64.toUInt64 (Int32.toInt64 1) &&& Int64.toUInt64 63)).toInt64) &&& 6148914691236517205)) >>> (Int64.toUInt64 (Int32.toInt64 2) &&& Int64.toUInt64 63)).toInt64) &&& 3689348814741910323)) >>> (Int64.toUInt64 (Int32.toInt64 4) &&& Int64.toUInt64 63)).toInt64)) &&& 1085102592571150095) + ((Int64.toUInt64 (((((a0 - (((Int64.toUInt64 a0 >>> (Int64.toUInt64 (Int32.toInt64 1) &&& Int64.toUInt64 63)).toInt64) &&& 6148914691236517205)) &&& 3689348814741910323) + (((Int64.toUInt64 (a0 - (((Int64.toUInt64 a0 >>> (Int64.toUInt64 (Int32.toInt64 1) &&& Int64.toUInt64 63)).toInt64) &&& 6148914691236517205)) >>> (Int64.toUInt64 (Int32.toInt64 2) &&& Int64.toUInt64 63)).toInt64) &&& 3689348814741910323)) + ((Int64.toUInt64 (((a0 - (((Int64.toUInt64 a0 >>> (Int64.toUInt64 (Int32.toInt64 1) &&& Int64.toUInt64 63)).toInt64) &&& 6148914691236517205)) &&& 3689348814741910323) + (((Int64.toUInt64 (a0 - (((Int64.toUInt64 a0 >>> (Int64.toUInt64 (Int32.toInt64 1) &&& Int64.toUInt64 63)).toInt64) &&& 6148914691236517205)) >>> (Int64.toUInt64 (Int32.toInt64 2) &&& Int64.toUInt64 63)).toInt64) &&& 3689348814741910323)) >>> (Int64.toUInt64 (Int32.toInt64 4) &&& Int64.toUInt64 63)).toInt64)) &&& 1085102592571150095) >>> (Int64.toUInt64 (Int32.toInt64 8) &&& Int64.toUInt64 63)).toInt64)) >>> (Int64.toUInt64 (Int32.toInt64 16) &&& Int64.toUInt64 63)).toInt64)) + ((Int64.toUInt64 (((((((a0 - (((Int64.toUInt64 a0 >>> (Int64.toUInt64 (Int32.toInt64 1) &&& Int64.toUInt64 63)).toInt64) &&& 6148914691236517205)) &&& 3689348814741910323) + (((Int64.toUInt64 (a0 - (((Int64.toUInt64 a0 >>> (Int64.toUInt64 (Int32.toInt64 1) &&& Int64.toUInt64 63)).toInt64) &&& 6148914691236517205)) >>> (Int64.toUInt64 (Int32.toInt64 2) &&& Int64.toUInt64 63)).toInt64) &&& 3689348814741910323)) + ((Int64.toUInt64 (((a0 - (((Int64.toUInt64 a0 >>> (Int64.toUInt64 (Int32.toInt64 1) &&& Int64.toUInt64 63)).toInt64) &&& 6148914691236517205)) &&& 3689348814741910323) + (((Int64.toUInt64 (a0 - (((Int64.toUInt64 a0 >>> (Int64.toUInt64 (Int32.toInt64 1) &&& Int64.toUInt64 63)).toInt64) &&& 6148914691236517205)) >>> (Int64.toUInt64 (Int32.toInt64 2) &&& Int64.toUInt64 63)).toInt64) &&& 3689348814741910323)) >>> (Int64.toUInt64 (Int32.toInt64 4) &&& Int64.toUInt64 63)).toInt64)) &&& 1085102592571150095) + ((Int64.toUInt64 (((((a0 - (((Int64.toUInt64 a0 >>> (Int64.toUInt64 (Int32.toInt64 1) &&& Int64.toUInt64 63)).toInt64) &&& 6148914691236517205)) &&& 3689348814741910323) + (((Int64.toUInt64 (a0 - (((Int64.toUInt64 a0 >>> (Int64.toUInt64 (Int32.toInt64 1) &&& Int64.toUInt64 63)).toInt64) &&& 6148914691236517205)) >>> (Int64.toUInt64 (Int32.toInt64 2) &&& Int64.toUInt64 63)).toInt64) &&& 3689348814741910323)) + ((Int64.toUInt64 (((a0 - (((Int64.toUInt64 a0 >>> (Int64.toUInt64 (Int32.toInt64 1) &&& Int64.toUInt64 63)).toInt64) &&& 6148914691236517205)) &&& 3689348814741910323) + (((Int64.toUInt64 (a0 - (((Int64.toUInt64 a0 >>> (Int64.toUInt64 (Int32.toInt64 1) &&& Int64.toUInt64 63)).toInt64) &&& 6148914691236517205)) >>> (Int64.toUInt64 (Int32.toInt64 2) &&& Int64.toUInt64 63)).toInt64) &&& 3689348814741910323)) >>> (Int64.toUInt64 (Int32.toInt64 4) &&& Int64.toUInt64 63)).toInt64)) &&& 1085102592571150095) >>> (Int64.toUInt64 (Int32.toInt64 8) &&& Int64.toUInt64 63)).toInt64)) + ((Int64.toUInt64 ((((((a0 - (((Int64.toUInt64 a0 >>> (Int64.toUInt64 (Int32.toInt64 1) &&& Int64.toUInt64 63)).toInt64) &&& 6148914691236517205)) &&& 3689348814741910323) + (((Int64.toUInt64 (a0 - (((Int64.toUInt64 a0 >>> (Int64.toUInt64 (Int32.toInt64 1) &&& Int64.toUInt64 63)).toInt64) &&& 6148914691236517205)) >>> (Int64.toUInt64 (Int32.toInt64 2) &&& Int64.toUInt64 63)).toInt64) &&& 3689348814741910323)) + ((Int64.toUInt64 (((a0 - (((Int64.toUInt64 a0 >>> (Int64.toUInt64 (Int32.toInt64 1) &&& Int64.toUInt64 63)).toInt64) &&& 6148914691236517205)) &&& 3689348814741910323) + (((Int64.toUInt64 (a0 - (((Int64.toUInt64 a0 >>> (Int64.toUInt64 (Int32.toInt64 1) &&& Int64.toUInt64 63)).toInt64) &&& 6148914691236517205)) >>> (Int64.toUInt64 (Int32.toInt64 2) &&& Int64.toUInt64 63)).toInt64) &&& 3689348814741910323)) >>> (Int64.toUInt64 (Int32.toInt64 4) &&& Int64.toUInt64 63)).toInt64)) &&& 1085102592571150095) + ((Int64.toUInt64 (((((a0 - (((Int64.toUInt64 a0 >>> (Int64.toUInt64 (Int32.toInt64 1) &&& Int64.toUInt64 63)).toInt64) &&& 6148914691236517205)) &&& 3689348814741910323) + (((Int64.toUInt64 (a0 - (((Int64.toUInt64 a0 >>> (Int64.toUInt64 (Int32.toInt64 1) &&& Int64.toUInt64 63)).toInt64) &&& 6148914691236517205)) >>> (Int64.toUInt64 (Int32.toInt64 2) &&& Int64.toUInt64 63)).toInt64) &&& 3689348814741910323)) + ((Int64.toUInt64 (((a0 - (((Int64.toUInt64 a0 >>> (Int64.toUInt64 (Int32.toInt64 1) &&& Int64.toUInt64 63)).toInt64) &&& 6148914691236517205)) &&& 3689348814741910323) + (((Int64.toUInt64 (a0 - (((Int64.toUInt64 a0 >>> (Int64.toUInt64 (Int32.toInt64 1) &&& Int64.toUInt64 63)).toInt64) &&& 6148914691236517205)) >>> (Int64.toUInt64 (Int32.toInt64 2) &&& Int64.toUInt64 63)).toInt64) &&& 3689348814741910323)) >>> (Int64.toUInt64 (Int32.toInt64 4) &&& Int64.toUInt64 63)).toInt64)) &&& 1085102592571150095) >>> (Int64.toUInt64 (Int32.toInt64 8) &&& Int64.toUInt64 63)).toInt64)) >>> (Int64.toUInt64 (Int32.toInt64 16) &&& Int64.toUInt64 63)).toInt64)) >>> (Int64.toUInt64 (Int32.toInt64 32) &&& Int64.toUInt64 63)).toInt64))) &&& 127, σ)
def a_J13_bitCount_95d88 (N : Nat) : List Value → Wd → Option (Int32 × Wd) := fun as σ => kSJ as (fun b0 r0 => kS0 r0 (f_J13_bitCount_95d88 N b0 σ))
def ct_J13_bitCount_95d88 (N : Nat) : List (Nat × Cal) := []
set_option maxRecDepth 20000 in
theorem md_J13_bitCount_95d88 (N : Nat) : MDOK T_J13_bitCount_95d88 ft_J13 lt_J13 (ct_J13_bitCount_95d88 N) cJ13_bitCount_95d88 RJ13 1 := ⟨tc_J13_bitCount_95d88, fc_J13, lc_J13, (fun _ z => absurd z List.not_mem_nil)⟩
set_option maxRecDepth 20000 in
theorem C_J13_bitCount_95d88 (N : Nat) : CTI 1 yJ13_bitCount_95d88 cJ13_bitCount_95d88 2 (some .int) (a_J13_bitCount_95d88 N) := by
  refine CTI.of (own := RJ13) (by decide) rfl (fun as σ r h => ?_)
  unfold a_J13_bitCount_95d88 at h
  obtain ⟨b0, r0, rfl, h0⟩ := kSJ_s h
  obtain ⟨rfl, h9⟩ := kS0_s h0
  exact ⟨Nat.le_of_ble_eq_true rfl, by refine GO.to (md_J13_bitCount_95d88 N) (kl := []) ((fun _ z => absurd z List.not_mem_nil)) 54 ?_ ?_ <;> rfl⟩
def f_J9_max_7cf53 (N : Nat) (x y : Int32) (σ : Wd) : Option (Int32 × Wd) := some (imax x y, σ)
def f_J9_min_7cf53 (N : Nat) (x y : Int32) (σ : Wd) : Option (Int32 × Wd) := some (imin x y, σ)
def ft_X7 : List (Nat × FTE) := [(11, 6, 0, 3), (15, 6, 1, 0), (40, 6, 2, 1)]
def lt_X7 : List (Nat × Int64) := []
theorem fc_X7 : ft_X7.all (fun e => fldchk RX7 e && shchk e) = true := by decide +kernel
theorem lc_X7 : lt_X7.all (ltchk RX7) = true := by decide +kernel
def T_X7_append : List (Nat × Ent) := [(0, .aload_n 0, 1, []), (1, .getfield 15, 4, []), (4, .bipush 40, 6, []), (6, .if_icmp .lt 5, 9, [11]), (9, .iconst 0, 10, []), (10, .ireturn, 11, []), (11, .aload_n 0, 12, []), (12, .getfield 11, 15, []), (15, .aload_n 0, 16, []), (16, .getfield 15, 19, []), (19, .iload_n 1, 20, []), (20, .iastore, 21, []), (21, .aload_n 0, 22, []), (22, .dup, 23, []), (23, .getfield 15, 26, []), (26, .iconst 1, 27, []), (27, .iadd, 28, []), (28, .putfield 15, 31, []), (31, .iconst 1, 32, []), (32, .ireturn, 33, [])]
set_option maxRecDepth 20000 in
theorem tc_X7_append : T_X7_append.all (chk cX7_append) = true := by decide +kernel
def f_X7_append (N : Nat) (a1 : Int32) (σ : Wd) : Option (Int32 × Wd) :=
  if (σ.1 1 1) < 40 then ((xst σ 14 40 (σ.1 1 1) a1).bind fun σ1 => let σ2 : Wd := sF σ1 1 1 ((σ1.1 1 1) + 1)
  some (1, σ2)) else (some (0, σ))
def a_X7_append (N : Nat) : List Value → Wd → Option (Int32 × Wd) := fun as σ => kSE 1 as (fun r0 => kSI r0 (fun b1 r1 => kS0 r1 (f_X7_append N b1 σ))) (none)
def ct_X7_append (N : Nat) : List (Nat × Cal) := []
set_option maxRecDepth 20000 in
theorem md_X7_append (N : Nat) : MDOK T_X7_append ft_X7 lt_X7 (ct_X7_append N) cX7_append RX7 1 := ⟨tc_X7_append, fc_X7, lc_X7, (fun _ z => absurd z List.not_mem_nil)⟩
set_option maxRecDepth 20000 in
theorem C_X7_append (N : Nat) : CTI 1 yX7_append cX7_append 2 (some .boolean) (a_X7_append N) := by
  refine CTZ.of (own := RX7) (by decide) rfl (fun as σ r h => ?_)
  unfold a_X7_append at h
  rcases kSE_s h with ⟨r0, rfl, h0⟩ | hn
  ·
    obtain ⟨b1, r1, rfl, h1⟩ := kSI_s h0
    obtain ⟨rfl, h9⟩ := kS0_s h1
    exact ⟨Nat.le_of_ble_eq_true rfl, by refine GO.to (md_X7_append N) (kl := []) ((fun _ z => absurd z List.not_mem_nil)) 25 ?_ ?_ <;> rfl⟩
  cases hn
def T_X7_nameCode : List (Nat × Ent) := [(0, .iconst 0, 1, []), (1, .istore_n 2, 2, []), (2, .iconst 0, 3, []), (3, .istore_n 3, 4, []), (4, .iload_n 3, 5, []), (5, .iload_n 1, 6, []), (6, .if_icmp .ge 23, 9, [29]), (9, .iload_n 2, 10, []), (10, .aload_n 0, 11, []), (11, .getfield 11, 14, []), (14, .iload_n 3, 15, []), (15, .iaload, 16, []), (16, .bipush 8, 18, []), (18, .iload_n 3, 19, []), (19, .imul, 20, []), (20, .ishl, 21, []), (21, .ior, 22, []), (22, .istore_n 2, 23, []), (23, .iinc 3 1, 26, []), (26, .goto (-22), 29, [4]), (29, .iload_n 2, 30, []), (30, .ireturn, 31, [])]
set_option maxRecDepth 20000 in
theorem tc_X7_nameCode : T_X7_nameCode.all (chk cX7_nameCode) = true := by decide +kernel
def f_X7_nameCode_L4 (N : Nat) (KO29 : Int32 → Wd → Option (Int32 × Wd)) : Nat → Int32 → Int32 → Int32 → Wd → Option (Int32 × Wd)
  | 0, _, _, _, _ => none
  | n + 1, x1, x2, x3, σ => if x1 ≤ x3 then (KO29 x2 σ) else ((xld σ 14 40 x3).bind fun v1 => f_X7_nameCode_L4 N KO29 n x1 (x2 ||| (v1 <<< ((8 * x3) &&& 31))) (x3 + 1) σ)
def f_X7_nameCode_J29 (N : Nat) (x2 : Int32) (σ : Wd) : Option (Int32 × Wd) :=
  some (x2, σ)
def f_X7_nameCode (N : Nat) (a1 : Int32) (σ : Wd) : Option (Int32 × Wd) :=
  f_X7_nameCode_L4 N (f_X7_nameCode_J29 N) N a1 0 0 σ
def a_X7_nameCode (N : Nat) : List Value → Wd → Option (Int32 × Wd) := fun as σ => kSE 1 as (fun r0 => kSI r0 (fun b1 r1 => kS0 r1 (f_X7_nameCode N b1 σ))) (none)
def ct_X7_nameCode (N : Nat) : List (Nat × Cal) := []
set_option maxRecDepth 20000 in
theorem md_X7_nameCode (N : Nat) : MDOK T_X7_nameCode ft_X7 lt_X7 (ct_X7_nameCode N) cX7_nameCode RX7 1 := ⟨tc_X7_nameCode, fc_X7, lc_X7, (fun _ z => absurd z List.not_mem_nil)⟩
set_option maxRecDepth 20000 in
theorem g_X7_nameCode_L4 (N : Nat) (KO29 : Int32 → Wd → Option (Int32 × Wd)) (hKO29 : ∀ (x2 : Int32) (σ : Wd), GO cX7_nameCode RX7 4 1 sc0 rI nJ0 nV0 (KO29 x2 σ) 29 (mkp 0 4 [(2, .int x2)]) [] σ) : ∀ (n : Nat), ∀ (x1 : Int32) (x2 : Int32) (x3 : Int32) (σ : Wd), GO cX7_nameCode RX7 4 1 sc0 rI nJ0 nV0 (f_X7_nameCode_L4 N KO29 n x1 x2 x3 σ) 4 (mkp 0 4 [(0, .ref 1), (1, .int x1), (2, .int x2), (3, .int x3)]) [] σ
  | 0, x1, x2, x3, σ => GO.none
  | n + 1, x1, x2, x3, σ => by
    exact (by refine GO.to (md_X7_nameCode N) (kl := [(29, fun vs st σ => kS0 st (kI 2 vs (fun x2 => KO29 x2 σ))), (4, fun vs st σ => kS0 st (kA 0 1 vs (kI 1 vs (fun x1 => kI 2 vs (fun x2 => kI 3 vs (fun x3 => f_X7_nameCode_L4 N KO29 n x1 x2 x3 σ))))))]) (List.forall_mem_cons.mpr ⟨fun vs st σ => go_kS0 (go_kI (fun x2 h2 => GO.pat [(2, .int x2)] ⟨h2, trivial⟩ (hKO29 x2 σ))), List.forall_mem_cons.mpr ⟨fun vs st σ => go_kS0 (go_kA (fun h0 => go_kI (fun x1 h1 => go_kI (fun x2 h2 => go_kI (fun x3 h3 => GO.pat [(0, .ref 1), (1, .int x1), (2, .int x2), (3, .int x3)] ⟨h0, h1, h2, h3, trivial⟩ (g_X7_nameCode_L4 N KO29 hKO29 n x1 x2 x3 σ)))))), (fun _ z => absurd z List.not_mem_nil)⟩⟩) 27 ?_ ?_ <;> rfl)
theorem g_X7_nameCode_J29 (N : Nat) (x2 : Int32) (σ : Wd) : GO cX7_nameCode RX7 4 1 sc0 rI nJ0 nV0 (f_X7_nameCode_J29 N x2 σ) 29 (mkp 0 4 [(2, .int x2)]) [] σ := by
  exact (by refine GO.to (md_X7_nameCode N) (kl := []) ((fun _ z => absurd z List.not_mem_nil)) 27 ?_ ?_ <;> rfl)
set_option maxRecDepth 20000 in
theorem C_X7_nameCode (N : Nat) : CTI 1 yX7_nameCode cX7_nameCode 4 (some .int) (a_X7_nameCode N) := by
  refine CTI.of (own := RX7) (by decide) rfl (fun as σ r h => ?_)
  unfold a_X7_nameCode at h
  rcases kSE_s h with ⟨r0, rfl, h0⟩ | hn
  ·
    obtain ⟨b1, r1, rfl, h1⟩ := kSI_s h0
    obtain ⟨rfl, h9⟩ := kS0_s h1
    exact ⟨Nat.le_of_ble_eq_true rfl, by refine GO.to (md_X7_nameCode N) (kl := [(4, fun vs st σ => kS0 st (kA 0 1 vs (kI 1 vs (fun x1 => kI 2 vs (fun x2 => kI 3 vs (fun x3 => f_X7_nameCode_L4 N (f_X7_nameCode_J29 N) N x1 x2 x3 σ))))))]) (List.forall_mem_cons.mpr ⟨fun vs st σ => go_kS0 (go_kA (fun h0 => go_kI (fun x1 h1 => go_kI (fun x2 h2 => go_kI (fun x3 h3 => GO.pat [(0, .ref 1), (1, .int x1), (2, .int x2), (3, .int x3)] ⟨h0, h1, h2, h3, trivial⟩ (g_X7_nameCode_L4 N (f_X7_nameCode_J29 N) (g_X7_nameCode_J29 N) N x1 x2 x3 σ)))))), (fun _ z => absurd z List.not_mem_nil)⟩) 27 ?_ ?_ <;> rfl⟩
  cases hn
def T_X7_isLetter : List (Nat × Ent) := [(0, .iload_n 0, 1, []), (1, .bipush 97, 3, []), (3, .if_icmp .lt 13, 6, [16]), (6, .iload_n 0, 7, []), (7, .bipush 122, 9, []), (9, .if_icmp .gt 7, 12, [16]), (12, .iconst 1, 13, []), (13, .goto 4, 16, [17]), (16, .iconst 0, 17, []), (17, .ireturn, 18, [])]
set_option maxRecDepth 20000 in
theorem tc_X7_isLetter : T_X7_isLetter.all (chk cX7_isLetter) = true := by decide +kernel
def f_X7_isLetter (N : Nat) (a0 : Int32) (σ : Wd) : Option (Int32 × Wd) :=
  if a0 < 97 then (some (0, σ)) else (if 122 < a0 then (some (0, σ)) else (some (1, σ)))
def a_X7_isLetter (N : Nat) : List Value → Wd → Option (Int32 × Wd) := fun as σ => kSI as (fun b0 r0 => kS0 r0 (f_X7_isLetter N b0 σ))
def ct_X7_isLetter (N : Nat) : List (Nat × Cal) := []
set_option maxRecDepth 20000 in
theorem md_X7_isLetter (N : Nat) : MDOK T_X7_isLetter ft_X7 lt_X7 (ct_X7_isLetter N) cX7_isLetter RX7 1 := ⟨tc_X7_isLetter, fc_X7, lc_X7, (fun _ z => absurd z List.not_mem_nil)⟩
set_option maxRecDepth 20000 in
theorem C_X7_isLetter (N : Nat) : CTI 1 yX7_isLetter cX7_isLetter 1 (some .boolean) (a_X7_isLetter N) := by
  refine CTZ.of (own := RX7) (by decide) rfl (fun as σ r h => ?_)
  unfold a_X7_isLetter at h
  obtain ⟨b0, r0, rfl, h0⟩ := kSI_s h
  obtain ⟨rfl, h9⟩ := kS0_s h0
  exact ⟨Nat.le_of_ble_eq_true rfl, by refine GO.to (md_X7_isLetter N) (kl := []) ((fun _ z => absurd z List.not_mem_nil)) 15 ?_ ?_ <;> rfl⟩
def T_X7_kindOf : List (Nat × Ent) := [(0, .iload_n 0, 1, []), (1, .lookupswitch 51 #[(99, 47), (108, 49), (114, 43), (115, 45)], 44, [52, 48, 50, 44, 46]), (44, .iconst 0, 45, []), (45, .ireturn, 46, []), (46, .iconst 1, 47, []), (47, .ireturn, 48, []), (48, .iconst 2, 49, []), (49, .ireturn, 50, []), (50, .iconst 3, 51, []), (51, .ireturn, 52, []), (52, .iconst (-1), 53, []), (53, .ireturn, 54, [])]
set_option maxRecDepth 20000 in
theorem tc_X7_kindOf : T_X7_kindOf.all (chk cX7_kindOf) = true := by decide +kernel
def f_X7_kindOf (N : Nat) (a0 : Int32) (σ : Wd) : Option (Int32 × Wd) :=
  if a0 = 99 then (some (2, σ)) else if a0 = 108 then (some (3, σ)) else if a0 = 114 then (some (0, σ)) else if a0 = 115 then (some (1, σ)) else (some ((-1), σ))
def a_X7_kindOf (N : Nat) : List Value → Wd → Option (Int32 × Wd) := fun as σ => kSI as (fun b0 r0 => kS0 r0 (f_X7_kindOf N b0 σ))
def ct_X7_kindOf (N : Nat) : List (Nat × Cal) := []
set_option maxRecDepth 20000 in
theorem md_X7_kindOf (N : Nat) : MDOK T_X7_kindOf ft_X7 lt_X7 (ct_X7_kindOf N) cX7_kindOf RX7 1 := ⟨tc_X7_kindOf, fc_X7, lc_X7, (fun _ z => absurd z List.not_mem_nil)⟩
set_option maxRecDepth 20000 in
theorem C_X7_kindOf (N : Nat) : CTI 1 yX7_kindOf cX7_kindOf 1 (some .int) (a_X7_kindOf N) := by
  refine CTI.of (own := RX7) (by decide) rfl (fun as σ r h => ?_)
  unfold a_X7_kindOf at h
  obtain ⟨b0, r0, rfl, h0⟩ := kSI_s h
  obtain ⟨rfl, h9⟩ := kS0_s h0
  exact ⟨Nat.le_of_ble_eq_true rfl, by refine GO.to (md_X7_kindOf N) (kl := []) ((fun _ z => absurd z List.not_mem_nil)) 17 ?_ ?_ <;> rfl⟩
def T_X7_letters : List (Nat × Ent) := [(0, .iconst 0, 1, []), (1, .istore_n 1, 2, []), (2, .iload_n 1, 3, []), (3, .aload_n 0, 4, []), (4, .getfield 15, 7, []), (7, .if_icmp .ge 26, 10, [33]), (10, .iload_n 1, 11, []), (11, .iconst 4, 12, []), (12, .if_icmp .ge 21, 15, [33]), (15, .aload_n 0, 16, []), (16, .getfield 11, 19, []), (19, .iload_n 1, 20, []), (20, .iaload, 21, []), (21, .invokestatic 19, 24, []), (24, .ifCond .eq 9, 27, [33]), (27, .iinc 1 1, 30, []), (30, .goto (-28), 33, [2]), (33, .iload_n 1, 34, []), (34, .ireturn, 35, [])]
set_option maxRecDepth 20000 in
theorem tc_X7_letters : T_X7_letters.all (chk cX7_letters) = true := by decide +kernel
def f_X7_letters_L2 (N : Nat) (KO33 : Int32 → Wd → Option (Int32 × Wd)) : Nat → Int32 → Wd → Option (Int32 × Wd)
  | 0, _, _ => none
  | n + 1, x1, σ => if (σ.1 1 1) ≤ x1 then (KO33 x1 σ) else (if 4 ≤ x1 then (KO33 x1 σ) else ((xld σ 14 40 x1).bind fun v1 => (f_X7_isLetter N v1 σ).bind fun p2 => if p2.1 = 0 then (KO33 x1 p2.2) else (f_X7_letters_L2 N KO33 n (x1 + 1) p2.2)))
def f_X7_letters_J33 (N : Nat) (x1 : Int32) (σ : Wd) : Option (Int32 × Wd) :=
  some (x1, σ)
def f_X7_letters (N : Nat) (σ : Wd) : Option (Int32 × Wd) :=
  f_X7_letters_L2 N (f_X7_letters_J33 N) N 0 σ
def a_X7_letters (N : Nat) : List Value → Wd → Option (Int32 × Wd) := fun as σ => kSE 1 as (fun r0 => kS0 r0 (f_X7_letters N σ)) (none)
set_option maxRecDepth 20000 in
theorem k_X7_19 : calchk RX7 19 1 0 yX7_isLetter cX7_isLetter 1 (some .boolean) = true := by decide +kernel
def ct_X7_letters (N : Nat) : List (Nat × Cal) := [(19, 1, 0, .inl (a_X7_isLetter N))]
set_option maxRecDepth 20000 in
theorem md_X7_letters (N : Nat) : MDOK T_X7_letters ft_X7 lt_X7 (ct_X7_letters N) cX7_letters RX7 2 := ⟨tc_X7_letters, fc_X7, lc_X7, List.forall_mem_cons.mpr ⟨Or.inl ⟨yX7_isLetter, cX7_isLetter, 1, (some .boolean), 1, k_X7_19, Nat.le_of_ble_eq_true rfl, C_X7_isLetter N⟩, (fun _ z => absurd z List.not_mem_nil)⟩⟩
set_option maxRecDepth 20000 in
theorem g_X7_letters_L2 (N : Nat) (KO33 : Int32 → Wd → Option (Int32 × Wd)) (hKO33 : ∀ (x1 : Int32) (σ : Wd), GO cX7_letters RX7 2 2 sc0 rI nJ0 nV0 (KO33 x1 σ) 33 (mkp 0 2 [(1, .int x1)]) [] σ) : ∀ (n : Nat), ∀ (x1 : Int32) (σ : Wd), GO cX7_letters RX7 2 2 sc0 rI nJ0 nV0 (f_X7_letters_L2 N KO33 n x1 σ) 2 (mkp 0 2 [(0, .ref 1), (1, .int x1)]) [] σ
  | 0, x1, σ => GO.none
  | n + 1, x1, σ => by
    exact (by refine GO.to (md_X7_letters N) (kl := [(33, fun vs st σ => kS0 st (kI 1 vs (fun x1 => KO33 x1 σ))), (2, fun vs st σ => kS0 st (kA 0 1 vs (kI 1 vs (fun x1 => f_X7_letters_L2 N KO33 n x1 σ))))]) (List.forall_mem_cons.mpr ⟨fun vs st σ => go_kS0 (go_kI (fun x1 h1 => GO.pat [(1, .int x1)] ⟨h1, trivial⟩ (hKO33 x1 σ))), List.forall_mem_cons.mpr ⟨fun vs st σ => go_kS0 (go_kA (fun h0 => go_kI (fun x1 h1 => GO.pat [(0, .ref 1), (1, .int x1)] ⟨h0, h1, trivial⟩ (g_X7_letters_L2 N KO33 hKO33 n x1 σ)))), (fun _ z => absurd z List.not_mem_nil)⟩⟩) 24 ?_ ?_ <;> rfl)
theorem g_X7_letters_J33 (N : Nat) (x1 : Int32) (σ : Wd) : GO cX7_letters RX7 2 2 sc0 rI nJ0 nV0 (f_X7_letters_J33 N x1 σ) 33 (mkp 0 2 [(1, .int x1)]) [] σ := by
  exact (by refine GO.to (md_X7_letters N) (kl := []) ((fun _ z => absurd z List.not_mem_nil)) 24 ?_ ?_ <;> rfl)
set_option maxRecDepth 20000 in
theorem C_X7_letters (N : Nat) : CTI 2 yX7_letters cX7_letters 2 (some .int) (a_X7_letters N) := by
  refine CTI.of (own := RX7) (by decide) rfl (fun as σ r h => ?_)
  unfold a_X7_letters at h
  rcases kSE_s h with ⟨r0, rfl, h0⟩ | hn
  ·
    obtain ⟨rfl, h9⟩ := kS0_s h0
    exact ⟨Nat.le_of_ble_eq_true rfl, by refine GO.to (md_X7_letters N) (kl := [(2, fun vs st σ => kS0 st (kA 0 1 vs (kI 1 vs (fun x1 => f_X7_letters_L2 N (f_X7_letters_J33 N) N x1 σ))))]) (List.forall_mem_cons.mpr ⟨fun vs st σ => go_kS0 (go_kA (fun h0 => go_kI (fun x1 h1 => GO.pat [(0, .ref 1), (1, .int x1)] ⟨h0, h1, trivial⟩ (g_X7_letters_L2 N (f_X7_letters_J33 N) (g_X7_letters_J33 N) N x1 σ)))), (fun _ z => absurd z List.not_mem_nil)⟩) 24 ?_ ?_ <;> rfl⟩
  cases hn
def T_X7_takeName : List (Nat × Ent) := [(0, .aload_n 0, 1, []), (1, .invokevirtual 23, 4, []), (4, .istore_n 1, 5, []), (5, .iload_n 1, 6, []), (6, .aload_n 0, 7, []), (7, .getfield 15, 10, []), (10, .if_icmp .ne 11, 13, [21]), (13, .aload_n 0, 14, []), (14, .iload_n 1, 15, []), (15, .invokevirtual 27, 18, []), (18, .goto 4, 21, [22]), (21, .iconst 0, 22, []), (22, .istore_n 2, 23, []), (23, .aload_n 0, 24, []), (24, .iconst 0, 25, []), (25, .putfield 15, 28, []), (28, .iload_n 2, 29, []), (29, .ireturn, 30, [])]
set_option maxRecDepth 20000 in
theorem tc_X7_takeName : T_X7_takeName.all (chk cX7_takeName) = true := by decide +kernel
def f_X7_takeName (N : Nat) (σ : Wd) : Option (Int32 × Wd) :=
  (f_X7_letters N σ).bind fun p1 => if p1.1 = (p1.2.1 1 1) then ((f_X7_nameCode N p1.1 p1.2).bind fun p2 => let σ3 : Wd := sF p2.2 1 1 0
  some (p2.1, σ3)) else (let σ4 : Wd := sF p1.2 1 1 0
  some (0, σ4))
def a_X7_takeName (N : Nat) : List Value → Wd → Option (Int32 × Wd) := fun as σ => kSE 1 as (fun r0 => kS0 r0 (f_X7_takeName N σ)) (none)
set_option maxRecDepth 20000 in
theorem k_X7_23 : calchk RX7 23 1 7 yX7_letters cX7_letters 2 (some .int) = true := by decide +kernel
set_option maxRecDepth 20000 in
theorem k_X7_27 : calchk RX7 27 2 7 yX7_nameCode cX7_nameCode 4 (some .int) = true := by decide +kernel
def ct_X7_takeName (N : Nat) : List (Nat × Cal) := [(23, 1, 7, .inl (a_X7_letters N)), (27, 2, 7, .inl (a_X7_nameCode N))]
set_option maxRecDepth 20000 in
theorem md_X7_takeName (N : Nat) : MDOK T_X7_takeName ft_X7 lt_X7 (ct_X7_takeName N) cX7_takeName RX7 3 := ⟨tc_X7_takeName, fc_X7, lc_X7, List.forall_mem_cons.mpr ⟨Or.inl ⟨yX7_letters, cX7_letters, 2, (some .int), 2, k_X7_23, Nat.le_of_ble_eq_true rfl, C_X7_letters N⟩, List.forall_mem_cons.mpr ⟨Or.inl ⟨yX7_nameCode, cX7_nameCode, 4, (some .int), 1, k_X7_27, Nat.le_of_ble_eq_true rfl, C_X7_nameCode N⟩, (fun _ z => absurd z List.not_mem_nil)⟩⟩⟩
set_option maxRecDepth 20000 in
theorem C_X7_takeName (N : Nat) : CTI 3 yX7_takeName cX7_takeName 3 (some .int) (a_X7_takeName N) := by
  refine CTI.of (own := RX7) (by decide) rfl (fun as σ r h => ?_)
  unfold a_X7_takeName at h
  rcases kSE_s h with ⟨r0, rfl, h0⟩ | hn
  ·
    obtain ⟨rfl, h9⟩ := kS0_s h0
    exact ⟨Nat.le_of_ble_eq_true rfl, by refine GO.to (md_X7_takeName N) (kl := []) ((fun _ z => absurd z List.not_mem_nil)) 23 ?_ ?_ <;> rfl⟩
  cases hn
def T_X7_parse : List (Nat × Ent) := [(0, .aload_n 0, 1, []), (1, .invokevirtual 23, 4, []), (4, .istore_n 1, 5, []), (5, .iload_n 1, 6, []), (6, .ifCond .eq 22, 9, [28]), (9, .iload_n 1, 10, []), (10, .aload_n 0, 11, []), (11, .getfield 15, 14, []), (14, .if_icmp .ge 14, 17, [28]), (17, .aload_n 0, 18, []), (18, .getfield 11, 21, []), (21, .iload_n 1, 22, []), (22, .iaload, 23, []), (23, .bipush 61, 25, []), (25, .if_icmp .eq 5, 28, [30]), (28, .iload_n 1, 29, []), (29, .ireturn, 30, []), (30, .iinc 1 1, 33, []), (33, .lconst 0, 34, []), (34, .lstore_n 2, 35, []), (35, .iconst 0, 36, []), (36, .istore 4, 38, []), (38, .iconst 0, 39, []), (39, .istore 5, 41, []), (41, .iload_n 1, 42, []), (42, .aload_n 0, 43, []), (43, .getfield 15, 46, []), (46, .if_icmp .ge 113, 49, [159]), (49, .aload_n 0, 50, []), (50, .getfield 11, 53, []), (53, .iload_n 1, 54, []), (54, .iaload, 55, []), (55, .invokestatic 31, 58, []), (58, .istore 6, 60, []), (60, .iload 6, 62, []), (62, .ifCond .lt 17, 65, [79]), (65, .iload 4, 67, []), (67, .bipush 8, 69, []), (69, .if_icmp .eq 10, 72, [79]), (72, .iload 5, 74, []), (74, .bipush 12, 76, []), (76, .if_icmp .ne 5, 79, [81]), (79, .iload_n 1, 80, []), (80, .ireturn, 81, []), (81, .iinc 1 1, 84, []), (84, .iload_n 1, 85, []), (85, .aload_n 0, 86, []), (86, .getfield 15, 89, []), (89, .if_icmp .ge 15, 92, [104]), (92, .aload_n 0, 93, []), (93, .getfield 11, 96, []), (96, .iload_n 1, 97, []), (97, .iaload, 98, []), (98, .bipush 48, 100, []), (100, .isub, 101, []), (101, .goto 4, 104, [105]), (104, .iconst 0, 105, []), (105, .istore 7, 107, []), (107, .iload 7, 109, []), (109, .iconst 1, 110, []), (110, .if_icmp .lt 20, 113, [130]), (113, .iload 7, 115, []), (115, .bipush 6, 117, []), (117, .if_icmp .gt 13, 120, [130]), (120, .iload 5, 122, []), (122, .iload 7, 124, []), (124, .iadd, 125, []), (125, .bipush 12, 127, []), (127, .if_icmp .le 5, 130, [132]), (130, .iload_n 1, 131, []), (131, .ireturn, 132, []), (132, .iinc 1 1, 135, []), (135, .lload_n 2, 136, []), (136, .iload 4, 138, []), (138, .iload 6, 140, []), (140, .iload 7, 142, []), (142, .invokestatic 34, 145, []), (145, .lstore_n 2, 146, []), (146, .iinc 4 1, 149, []), (149, .iload 5, 151, []), (151, .iload 7, 153, []), (153, .iadd, 154, []), (154, .istore 5, 156, []), (156, .goto (-115), 159, [41]), (159, .aload_n 0, 160, []), (160, .lload_n 2, 161, []), (161, .putfield 40, 164, []), (164, .iload 4, 166, []), (166, .ifCond .ne 7, 169, [173]), (169, .iload_n 1, 170, []), (170, .goto 4, 173, [174]), (173, .iconst (-1), 174, []), (174, .ireturn, 175, [])]
set_option maxRecDepth 20000 in
theorem tc_X7_parse : T_X7_parse.all (chk cX7_parse) = true := by decide +kernel
def f_X7_parse_J105 (N : Nat) (KB : Int32 → Int64 → Int32 → Int32 → Wd → Option (Int32 × Wd)) (KO159 : Int32 → Int64 → Int32 → Wd → Option (Int32 × Wd)) (x1 : Int32) (x2 : Int64) (x4 : Int32) (x5 : Int32) (x6 : Int32) (y0 : Int32) (σ : Wd) : Option (Int32 × Wd) :=
  if y0 < 1 then (some (x1, σ)) else (if 6 < y0 then (some (x1, σ)) else (if (x5 + y0) ≤ 12 then ((f_X0_with N x2 x4 x6 y0 σ).bind fun p5 => KB (x1 + 1) p5.1 (x4 + 1) (x5 + y0) p5.2) else (some (x1, σ))))
def f_X7_parse_L41 (N : Nat) (KO159 : Int32 → Int64 → Int32 → Wd → Option (Int32 × Wd)) : Nat → Int32 → Int64 → Int32 → Int32 → Wd → Option (Int32 × Wd)
  | 0, _, _, _, _, _ => none
  | n + 1, x1, x2, x4, x5, σ => if (σ.1 1 1) ≤ x1 then (KO159 x1 x2 x4 σ) else ((xld σ 14 40 x1).bind fun v3 => (f_X7_kindOf N v3 σ).bind fun p4 => if p4.1 < 0 then (some (x1, p4.2)) else (if x4 = 8 then (some (x1, p4.2)) else (if x5 = 12 then (some (x1, p4.2)) else (if (p4.2.1 1 1) ≤ (x1 + 1) then (f_X7_parse_J105 N (f_X7_parse_L41 N KO159 n) KO159 (x1 + 1) x2 x4 x5 p4.1 0 p4.2) else ((xld p4.2 14 40 (x1 + 1)).bind fun v6 => f_X7_parse_J105 N (f_X7_parse_L41 N KO159 n) KO159 (x1 + 1) x2 x4 x5 p4.1 (v6 - 48) p4.2)))))
def f_X7_parse_J159 (N : Nat) (x1 : Int32) (x2 : Int64) (x4 : Int32) (σ : Wd) : Option (Int32 × Wd) :=
  let σ7 : Wd := sG σ 1 2 x2
  if x4 = 0 then (some (x1, σ7)) else (some ((-1), σ7))
def f_X7_parse (N : Nat) (σ : Wd) : Option (Int32 × Wd) :=
  (f_X7_letters N σ).bind fun p1 => if p1.1 = 0 then (some (p1.1, p1.2)) else (if (p1.2.1 1 1) ≤ p1.1 then (some (p1.1, p1.2)) else ((xld p1.2 14 40 p1.1).bind fun v2 => if v2 = 61 then (f_X7_parse_L41 N (f_X7_parse_J159 N) N (p1.1 + 1) 0 0 0 p1.2) else (some (p1.1, p1.2))))
def a_X7_parse (N : Nat) : List Value → Wd → Option (Int32 × Wd) := fun as σ => kSE 1 as (fun r0 => kS0 r0 (f_X7_parse N σ)) (none)
set_option maxRecDepth 20000 in
theorem k_X7_31 : calchk RX7 31 1 0 yX7_kindOf cX7_kindOf 1 (some .int) = true := by decide +kernel
set_option maxRecDepth 20000 in
theorem k_X7_34 : calchk RX7 34 4 0 yX0_with cX0_with 5 (some .long) = true := by decide +kernel
def ct_X7_parse (N : Nat) : List (Nat × Cal) := [(23, 1, 7, .inl (a_X7_letters N)), (31, 1, 0, .inl (a_X7_kindOf N)), (34, 4, 0, .inr (.inl (a_X0_with N)))]
set_option maxRecDepth 20000 in
theorem md_X7_parse (N : Nat) : MDOK T_X7_parse ft_X7 lt_X7 (ct_X7_parse N) cX7_parse RX7 3 := ⟨tc_X7_parse, fc_X7, lc_X7, List.forall_mem_cons.mpr ⟨Or.inl ⟨yX7_letters, cX7_letters, 2, (some .int), 2, k_X7_23, Nat.le_of_ble_eq_true rfl, C_X7_letters N⟩, List.forall_mem_cons.mpr ⟨Or.inl ⟨yX7_kindOf, cX7_kindOf, 1, (some .int), 1, k_X7_31, Nat.le_of_ble_eq_true rfl, C_X7_kindOf N⟩, List.forall_mem_cons.mpr ⟨Or.inl ⟨yX0_with, cX0_with, 5, (some .long), 1, k_X7_34, Nat.le_of_ble_eq_true rfl, C_X0_with N⟩, (fun _ z => absurd z List.not_mem_nil)⟩⟩⟩⟩
theorem g_X7_parse_J105 (N : Nat) (KB : Int32 → Int64 → Int32 → Int32 → Wd → Option (Int32 × Wd)) (hKB : ∀ (x1 : Int32) (x2 : Int64) (x4 : Int32) (x5 : Int32) (σ : Wd), GO cX7_parse RX7 8 3 sc0 rI nJ0 nV0 (KB x1 x2 x4 x5 σ) 41 (mkp 0 8 [(0, .ref 1), (1, .int x1), (2, .long x2), (4, .int x4), (5, .int x5)]) [] σ) (KO159 : Int32 → Int64 → Int32 → Wd → Option (Int32 × Wd)) (hKO159 : ∀ (x1 : Int32) (x2 : Int64) (x4 : Int32) (σ : Wd), GO cX7_parse RX7 8 3 sc0 rI nJ0 nV0 (KO159 x1 x2 x4 σ) 159 (mkp 0 8 [(0, .ref 1), (1, .int x1), (2, .long x2), (4, .int x4)]) [] σ) (x1 : Int32) (x2 : Int64) (x4 : Int32) (x5 : Int32) (x6 : Int32) (y0 : Int32) (σ : Wd) : GO cX7_parse RX7 8 3 sc0 rI nJ0 nV0 (f_X7_parse_J105 N KB KO159 x1 x2 x4 x5 x6 y0 σ) 105 (mkp 0 8 [(0, .ref 1), (1, .int x1), (2, .long x2), (4, .int x4), (5, .int x5), (6, .int x6)]) [.int y0] σ := by
  exact (by refine GO.to (md_X7_parse N) (kl := [(41, fun vs st σ => kS0 st (kA 0 1 vs (kI 1 vs (fun x1 => kJ 2 vs (fun x2 => kI 4 vs (fun x4 => kI 5 vs (fun x5 => KB x1 x2 x4 x5 σ)))))))]) (List.forall_mem_cons.mpr ⟨fun vs st σ => go_kS0 (go_kA (fun h0 => go_kI (fun x1 h1 => go_kJ (fun x2 h2 => go_kI (fun x4 h4 => go_kI (fun x5 h5 => GO.pat [(0, .ref 1), (1, .int x1), (2, .long x2), (4, .int x4), (5, .int x5)] ⟨h0, h1, h2, h4, h5, trivial⟩ (hKB x1 x2 x4 x5 σ))))))), (fun _ z => absurd z List.not_mem_nil)⟩) 98 ?_ ?_ <;> rfl)
set_option maxRecDepth 20000 in
theorem g_X7_parse_L41 (N : Nat) (KO159 : Int32 → Int64 → Int32 → Wd → Option (Int32 × Wd)) (hKO159 : ∀ (x1 : Int32) (x2 : Int64) (x4 : Int32) (σ : Wd), GO cX7_parse RX7 8 3 sc0 rI nJ0 nV0 (KO159 x1 x2 x4 σ) 159 (mkp 0 8 [(0, .ref 1), (1, .int x1), (2, .long x2), (4, .int x4)]) [] σ) : ∀ (n : Nat), ∀ (x1 : Int32) (x2 : Int64) (x4 : Int32) (x5 : Int32) (σ : Wd), GO cX7_parse RX7 8 3 sc0 rI nJ0 nV0 (f_X7_parse_L41 N KO159 n x1 x2 x4 x5 σ) 41 (mkp 0 8 [(0, .ref 1), (1, .int x1), (2, .long x2), (4, .int x4), (5, .int x5)]) [] σ
  | 0, x1, x2, x4, x5, σ => GO.none
  | n + 1, x1, x2, x4, x5, σ => by
    exact (by refine GO.to (md_X7_parse N) (kl := [(159, fun vs st σ => kS0 st (kA 0 1 vs (kI 1 vs (fun x1 => kJ 2 vs (fun x2 => kI 4 vs (fun x4 => KO159 x1 x2 x4 σ)))))), (105, fun vs st σ => kSti st (fun y0 => kA 0 1 vs (kI 1 vs (fun x1 => kJ 2 vs (fun x2 => kI 4 vs (fun x4 => kI 5 vs (fun x5 => kI 6 vs (fun x6 => f_X7_parse_J105 N (f_X7_parse_L41 N KO159 n) KO159 x1 x2 x4 x5 x6 y0 σ))))))))]) (List.forall_mem_cons.mpr ⟨fun vs st σ => go_kS0 (go_kA (fun h0 => go_kI (fun x1 h1 => go_kJ (fun x2 h2 => go_kI (fun x4 h4 => GO.pat [(0, .ref 1), (1, .int x1), (2, .long x2), (4, .int x4)] ⟨h0, h1, h2, h4, trivial⟩ (hKO159 x1 x2 x4 σ)))))), List.forall_mem_cons.mpr ⟨fun vs st σ => go_kSti (fun y0 => go_kA (fun h0 => go_kI (fun x1 h1 => go_kJ (fun x2 h2 => go_kI (fun x4 h4 => go_kI (fun x5 h5 => go_kI (fun x6 h6 => GO.pat [(0, .ref 1), (1, .int x1), (2, .long x2), (4, .int x4), (5, .int x5), (6, .int x6)] ⟨h0, h1, h2, h4, h5, h6, trivial⟩ (g_X7_parse_J105 N (f_X7_parse_L41 N KO159 n) (g_X7_parse_L41 N KO159 hKO159 n) KO159 hKO159 x1 x2 x4 x5 x6 y0 σ)))))))), (fun _ z => absurd z List.not_mem_nil)⟩⟩) 98 ?_ ?_ <;> rfl)
theorem g_X7_parse_J159 (N : Nat) (x1 : Int32) (x2 : Int64) (x4 : Int32) (σ : Wd) : GO cX7_parse RX7 8 3 sc0 rI nJ0 nV0 (f_X7_parse_J159 N x1 x2 x4 σ) 159 (mkp 0 8 [(0, .ref 1), (1, .int x1), (2, .long x2), (4, .int x4)]) [] σ := by
  exact (by refine GO.to (md_X7_parse N) (kl := []) ((fun _ z => absurd z List.not_mem_nil)) 98 ?_ ?_ <;> rfl)
set_option maxRecDepth 20000 in
theorem C_X7_parse (N : Nat) : CTI 3 yX7_parse cX7_parse 8 (some .int) (a_X7_parse N) := by
  refine CTI.of (own := RX7) (by decide) rfl (fun as σ r h => ?_)
  unfold a_X7_parse at h
  rcases kSE_s h with ⟨r0, rfl, h0⟩ | hn
  ·
    obtain ⟨rfl, h9⟩ := kS0_s h0
    exact ⟨Nat.le_of_ble_eq_true rfl, by refine GO.to (md_X7_parse N) (kl := [(41, fun vs st σ => kS0 st (kA 0 1 vs (kI 1 vs (fun x1 => kJ 2 vs (fun x2 => kI 4 vs (fun x4 => kI 5 vs (fun x5 => f_X7_parse_L41 N (f_X7_parse_J159 N) N x1 x2 x4 x5 σ)))))))]) (List.forall_mem_cons.mpr ⟨fun vs st σ => go_kS0 (go_kA (fun h0 => go_kI (fun x1 h1 => go_kJ (fun x2 h2 => go_kI (fun x4 h4 => go_kI (fun x5 h5 => GO.pat [(0, .ref 1), (1, .int x1), (2, .long x2), (4, .int x4), (5, .int x5)] ⟨h0, h1, h2, h4, h5, trivial⟩ (g_X7_parse_L41 N (f_X7_parse_J159 N) (g_X7_parse_J159 N) N x1 x2 x4 x5 σ))))))), (fun _ z => absurd z List.not_mem_nil)⟩) 98 ?_ ?_ <;> rfl⟩
  cases hn
def ft_X3 : List (Nat × FTE) := [(9, 2, 0, 3), (15, 2, 1, 3), (19, 2, 2, 0)]
def lt_X3 : List (Nat × Int64) := []
theorem fc_X3 : ft_X3.all (fun e => fldchk RX3 e && shchk e) = true := by decide +kernel
theorem lc_X3 : lt_X3.all (ltchk RX3) = true := by decide +kernel
def T_X3_has : List (Nat × Ent) := [(0, .iload_n 1, 1, []), (1, .ifCond .lt 15, 4, [16]), (4, .iload_n 1, 5, []), (5, .aload_n 0, 6, []), (6, .getfield 19, 9, []), (9, .if_icmp .ge 7, 12, [16]), (12, .iconst 1, 13, []), (13, .goto 4, 16, [17]), (16, .iconst 0, 17, []), (17, .ireturn, 18, [])]
set_option maxRecDepth 20000 in
theorem tc_X3_has : T_X3_has.all (chk cX3_has) = true := by decide +kernel
def f_X3_has (N : Nat) (a1 : Int32) (σ : Wd) : Option (Int32 × Wd) :=
  if a1 < 0 then (some (0, σ)) else (if (σ.1 2 2) ≤ a1 then (some (0, σ)) else (some (1, σ)))
def a_X3_has (N : Nat) : List Value → Wd → Option (Int32 × Wd) := fun as σ => kSE 2 as (fun r0 => kSI r0 (fun b1 r1 => kS0 r1 (f_X3_has N b1 σ))) (none)
def ct_X3_has (N : Nat) : List (Nat × Cal) := []
set_option maxRecDepth 20000 in
theorem md_X3_has (N : Nat) : MDOK T_X3_has ft_X3 lt_X3 (ct_X3_has N) cX3_has RX3 1 := ⟨tc_X3_has, fc_X3, lc_X3, (fun _ z => absurd z List.not_mem_nil)⟩
set_option maxRecDepth 20000 in
theorem C_X3_has (N : Nat) : CTI 1 yX3_has cX3_has 2 (some .boolean) (a_X3_has N) := by
  refine CTZ.of (own := RX3) (by decide) rfl (fun as σ r h => ?_)
  unfold a_X3_has at h
  rcases kSE_s h with ⟨r0, rfl, h0⟩ | hn
  ·
    obtain ⟨b1, r1, rfl, h1⟩ := kSI_s h0
    obtain ⟨rfl, h9⟩ := kS0_s h1
    exact ⟨Nat.le_of_ble_eq_true rfl, by refine GO.to (md_X3_has N) (kl := []) ((fun _ z => absurd z List.not_mem_nil)) 15 ?_ ?_ <;> rfl⟩
  cases hn
def T_X3_numberOf : List (Nat × Ent) := [(0, .iconst 0, 1, []), (1, .istore_n 2, 2, []), (2, .iload_n 2, 3, []), (3, .aload_n 0, 4, []), (4, .getfield 19, 7, []), (7, .if_icmp .ge 21, 10, [28]), (10, .aload_n 0, 11, []), (11, .getfield 9, 14, []), (14, .iload_n 2, 15, []), (15, .iaload, 16, []), (16, .iload_n 1, 17, []), (17, .if_icmp .ne 5, 20, [22]), (20, .iload_n 2, 21, []), (21, .ireturn, 22, []), (22, .iinc 2 1, 25, []), (25, .goto (-23), 28, [2]), (28, .bipush (-2), 30, []), (30, .ireturn, 31, [])]
set_option maxRecDepth 20000 in
theorem tc_X3_numberOf : T_X3_numberOf.all (chk cX3_numberOf) = true := by decide +kernel
def f_X3_numberOf_L2 (N : Nat) (KO28 : Wd → Option (Int32 × Wd)) : Nat → Int32 → Int32 → Wd → Option (Int32 × Wd)
  | 0, _, _, _ => none
  | n + 1, x1, x2, σ => if (σ.1 2 2) ≤ x2 then (KO28 σ) else ((xld σ 15 12 x2).bind fun v1 => if v1 = x1 then (some (x2, σ)) else (f_X3_numberOf_L2 N KO28 n x1 (x2 + 1) σ))
def f_X3_numberOf_J28 (N : Nat) (σ : Wd) : Option (Int32 × Wd) :=
  some ((-2), σ)
def f_X3_numberOf (N : Nat) (a1 : Int32) (σ : Wd) : Option (Int32 × Wd) :=
  f_X3_numberOf_L2 N (f_X3_numberOf_J28 N) N a1 0 σ
def a_X3_numberOf (N : Nat) : List Value → Wd → Option (Int32 × Wd) := fun as σ => kSE 2 as (fun r0 => kSI r0 (fun b1 r1 => kS0 r1 (f_X3_numberOf N b1 σ))) (none)
def ct_X3_numberOf (N : Nat) : List (Nat × Cal) := []
set_option maxRecDepth 20000 in
theorem md_X3_numberOf (N : Nat) : MDOK T_X3_numberOf ft_X3 lt_X3 (ct_X3_numberOf N) cX3_numberOf RX3 1 := ⟨tc_X3_numberOf, fc_X3, lc_X3, (fun _ z => absurd z List.not_mem_nil)⟩
set_option maxRecDepth 20000 in
theorem g_X3_numberOf_L2 (N : Nat) (KO28 : Wd → Option (Int32 × Wd)) (hKO28 : ∀ (σ : Wd), GO cX3_numberOf RX3 3 1 sc0 rI nJ0 nV0 (KO28 σ) 28 (mkp 0 3 []) [] σ) : ∀ (n : Nat), ∀ (x1 : Int32) (x2 : Int32) (σ : Wd), GO cX3_numberOf RX3 3 1 sc0 rI nJ0 nV0 (f_X3_numberOf_L2 N KO28 n x1 x2 σ) 2 (mkp 0 3 [(0, .ref 2), (1, .int x1), (2, .int x2)]) [] σ
  | 0, x1, x2, σ => GO.none
  | n + 1, x1, x2, σ => by
    exact (by refine GO.to (md_X3_numberOf N) (kl := [(28, fun vs st σ => kS0 st (KO28 σ)), (2, fun vs st σ => kS0 st (kA 0 2 vs (kI 1 vs (fun x1 => kI 2 vs (fun x2 => f_X3_numberOf_L2 N KO28 n x1 x2 σ)))))]) (List.forall_mem_cons.mpr ⟨fun vs st σ => go_kS0 (GO.pat [] trivial (hKO28 σ)), List.forall_mem_cons.mpr ⟨fun vs st σ => go_kS0 (go_kA (fun h0 => go_kI (fun x1 h1 => go_kI (fun x2 h2 => GO.pat [(0, .ref 2), (1, .int x1), (2, .int x2)] ⟨h0, h1, h2, trivial⟩ (g_X3_numberOf_L2 N KO28 hKO28 n x1 x2 σ))))), (fun _ z => absurd z List.not_mem_nil)⟩⟩) 23 ?_ ?_ <;> rfl)
theorem g_X3_numberOf_J28 (N : Nat) (σ : Wd) : GO cX3_numberOf RX3 3 1 sc0 rI nJ0 nV0 (f_X3_numberOf_J28 N σ) 28 (mkp 0 3 []) [] σ := by
  exact (by refine GO.to (md_X3_numberOf N) (kl := []) ((fun _ z => absurd z List.not_mem_nil)) 23 ?_ ?_ <;> rfl)
set_option maxRecDepth 20000 in
theorem C_X3_numberOf (N : Nat) : CTI 1 yX3_numberOf cX3_numberOf 3 (some .int) (a_X3_numberOf N) := by
  refine CTI.of (own := RX3) (by decide) rfl (fun as σ r h => ?_)
  unfold a_X3_numberOf at h
  rcases kSE_s h with ⟨r0, rfl, h0⟩ | hn
  ·
    obtain ⟨b1, r1, rfl, h1⟩ := kSI_s h0
    obtain ⟨rfl, h9⟩ := kS0_s h1
    exact ⟨Nat.le_of_ble_eq_true rfl, by refine GO.to (md_X3_numberOf N) (kl := [(2, fun vs st σ => kS0 st (kA 0 2 vs (kI 1 vs (fun x1 => kI 2 vs (fun x2 => f_X3_numberOf_L2 N (f_X3_numberOf_J28 N) N x1 x2 σ)))))]) (List.forall_mem_cons.mpr ⟨fun vs st σ => go_kS0 (go_kA (fun h0 => go_kI (fun x1 h1 => go_kI (fun x2 h2 => GO.pat [(0, .ref 2), (1, .int x1), (2, .int x2)] ⟨h0, h1, h2, trivial⟩ (g_X3_numberOf_L2 N (f_X3_numberOf_J28 N) (g_X3_numberOf_J28 N) N x1 x2 σ))))), (fun _ z => absurd z List.not_mem_nil)⟩) 23 ?_ ?_ <;> rfl⟩
  cases hn
def T_X3_remove : List (Nat × Ent) := [(0, .aload_n 0, 1, []), (1, .dup, 2, []), (2, .getfield 19, 5, []), (5, .iconst 1, 6, []), (6, .isub, 7, []), (7, .putfield 19, 10, []), (10, .iload_n 1, 11, []), (11, .istore_n 2, 12, []), (12, .iload_n 2, 13, []), (13, .aload_n 0, 14, []), (14, .getfield 19, 17, []), (17, .if_icmp .ge 37, 20, [54]), (20, .aload_n 0, 21, []), (21, .getfield 9, 24, []), (24, .iload_n 2, 25, []), (25, .aload_n 0, 26, []), (26, .getfield 9, 29, []), (29, .iload_n 2, 30, []), (30, .iconst 1, 31, []), (31, .iadd, 32, []), (32, .iaload, 33, []), (33, .iastore, 34, []), (34, .aload_n 0, 35, []), (35, .getfield 15, 38, []), (38, .iload_n 2, 39, []), (39, .aload_n 0, 40, []), (40, .getfield 15, 43, []), (43, .iload_n 2, 44, []), (44, .iconst 1, 45, []), (45, .iadd, 46, []), (46, .laload, 47, []), (47, .lastore, 48, []), (48, .iinc 2 1, 51, []), (51, .goto (-39), 54, [12]), (54, .return_, 55, [])]
set_option maxRecDepth 20000 in
theorem tc_X3_remove : T_X3_remove.all (chk cX3_remove) = true := by decide +kernel
def f_X3_remove_L12 (N : Nat) (KO54 : Wd → Option Wd) : Nat → Int32 → Wd → Option Wd
  | 0, _, _ => none
  | n + 1, x2, σ => if (σ.1 2 2) ≤ x2 then (KO54 σ) else ((xld σ 15 12 (x2 + 1)).bind fun v2 => (xst σ 15 12 x2 v2).bind fun σ3 => (xldL σ3 16 12 (x2 + 1)).bind fun v4 => (xstL σ3 16 12 x2 v4).bind fun σ5 => f_X3_remove_L12 N KO54 n (x2 + 1) σ5)
def f_X3_remove_J54 (N : Nat) (σ : Wd) : Option Wd :=
  some σ
def f_X3_remove (N : Nat) (a1 : Int32) (σ : Wd) : Option Wd :=
  let σ1 : Wd := sF σ 2 2 ((σ.1 2 2) - 1)
  f_X3_remove_L12 N (f_X3_remove_J54 N) N a1 σ1
def a_X3_remove (N : Nat) : List Value → Wd → Option Wd := fun as σ => kSE 2 as (fun r0 => kSI r0 (fun b1 r1 => kS0 r1 (f_X3_remove N b1 σ))) (none)
def ct_X3_remove (N : Nat) : List (Nat × Cal) := []
set_option maxRecDepth 20000 in
theorem md_X3_remove (N : Nat) : MDOK T_X3_remove ft_X3 lt_X3 (ct_X3_remove N) cX3_remove RX3 1 := ⟨tc_X3_remove, fc_X3, lc_X3, (fun _ z => absurd z List.not_mem_nil)⟩
set_option maxRecDepth 20000 in
theorem g_X3_remove_L12 (N : Nat) (KO54 : Wd → Option Wd) (hKO54 : ∀ (σ : Wd), GO cX3_remove RX3 3 1 sc0 nI0 nJ0 some (KO54 σ) 54 (mkp 0 3 []) [] σ) : ∀ (n : Nat), ∀ (x2 : Int32) (σ : Wd), GO cX3_remove RX3 3 1 sc0 nI0 nJ0 some (f_X3_remove_L12 N KO54 n x2 σ) 12 (mkp 0 3 [(0, .ref 2), (2, .int x2)]) [] σ
  | 0, x2, σ => GO.none
  | n + 1, x2, σ => by
    exact (by refine GO.to (md_X3_remove N) (kl := [(54, fun vs st σ => kS0 st (KO54 σ)), (12, fun vs st σ => kS0 st (kA 0 2 vs (kI 2 vs (fun x2 => f_X3_remove_L12 N KO54 n x2 σ))))]) (List.forall_mem_cons.mpr ⟨fun vs st σ => go_kS0 (GO.pat [] trivial (hKO54 σ)), List.forall_mem_cons.mpr ⟨fun vs st σ => go_kS0 (go_kA (fun h0 => go_kI (fun x2 h2 => GO.pat [(0, .ref 2), (2, .int x2)] ⟨h0, h2, trivial⟩ (g_X3_remove_L12 N KO54 hKO54 n x2 σ)))), (fun _ z => absurd z List.not_mem_nil)⟩⟩) 40 ?_ ?_ <;> rfl)
theorem g_X3_remove_J54 (N : Nat) (σ : Wd) : GO cX3_remove RX3 3 1 sc0 nI0 nJ0 some (f_X3_remove_J54 N σ) 54 (mkp 0 3 []) [] σ := by
  exact (by refine GO.to (md_X3_remove N) (kl := []) ((fun _ z => absurd z List.not_mem_nil)) 40 ?_ ?_ <;> rfl)
set_option maxRecDepth 20000 in
theorem C_X3_remove (N : Nat) : CTV 1 yX3_remove cX3_remove 3 none (a_X3_remove N) := by
  refine CTV.of (own := RX3) (by decide) rfl (fun as σ r h => ?_)
  unfold a_X3_remove at h
  rcases kSE_s h with ⟨r0, rfl, h0⟩ | hn
  ·
    obtain ⟨b1, r1, rfl, h1⟩ := kSI_s h0
    obtain ⟨rfl, h9⟩ := kS0_s h1
    exact ⟨Nat.le_of_ble_eq_true rfl, by refine GO.to (md_X3_remove N) (kl := [(12, fun vs st σ => kS0 st (kA 0 2 vs (kI 2 vs (fun x2 => f_X3_remove_L12 N (f_X3_remove_J54 N) N x2 σ))))]) (List.forall_mem_cons.mpr ⟨fun vs st σ => go_kS0 (go_kA (fun h0 => go_kI (fun x2 h2 => GO.pat [(0, .ref 2), (2, .int x2)] ⟨h0, h2, trivial⟩ (g_X3_remove_L12 N (f_X3_remove_J54 N) (g_X3_remove_J54 N) N x2 σ)))), (fun _ z => absurd z List.not_mem_nil)⟩) 40 ?_ ?_ <;> rfl⟩
  cases hn
def T_X3_nameLength : List (Nat × Ent) := [(0, .iconst 0, 1, []), (1, .istore_n 2, 2, []), (2, .iload_n 2, 3, []), (3, .iconst 4, 4, []), (4, .if_icmp .ge 27, 7, [31]), (7, .aload_n 0, 8, []), (8, .getfield 9, 11, []), (11, .iload_n 1, 12, []), (12, .iaload, 13, []), (13, .bipush 8, 15, []), (15, .iload_n 2, 16, []), (16, .imul, 17, []), (17, .ishr, 18, []), (18, .sipush 255, 21, []), (21, .iand, 22, []), (22, .ifCond .eq 9, 25, [31]), (25, .iinc 2 1, 28, []), (28, .goto (-26), 31, [2]), (31, .iload_n 2, 32, []), (32, .ireturn, 33, [])]
set_option maxRecDepth 20000 in
theorem tc_X3_nameLength : T_X3_nameLength.all (chk cX3_nameLength) = true := by decide +kernel
def f_X3_nameLength_L2 (N : Nat) (KO31 : Int32 → Wd → Option (Int32 × Wd)) : Nat → Int32 → Int32 → Wd → Option (Int32 × Wd)
  | 0, _, _, _ => none
  | n + 1, x1, x2, σ => if 4 ≤ x2 then (KO31 x2 σ) else ((xld σ 15 12 x1).bind fun v1 => if ((v1 >>> ((8 * x2) &&& 31)) &&& 255) = 0 then (KO31 x2 σ) else (f_X3_nameLength_L2 N KO31 n x1 (x2 + 1) σ))
def f_X3_nameLength_J31 (N : Nat) (x2 : Int32) (σ : Wd) : Option (Int32 × Wd) :=
  some (x2, σ)
def f_X3_nameLength (N : Nat) (a1 : Int32) (σ : Wd) : Option (Int32 × Wd) :=
  f_X3_nameLength_L2 N (f_X3_nameLength_J31 N) N a1 0 σ
def a_X3_nameLength (N : Nat) : List Value → Wd → Option (Int32 × Wd) := fun as σ => kSE 2 as (fun r0 => kSI r0 (fun b1 r1 => kS0 r1 (f_X3_nameLength N b1 σ))) (none)
def ct_X3_nameLength (N : Nat) : List (Nat × Cal) := []
set_option maxRecDepth 20000 in
theorem md_X3_nameLength (N : Nat) : MDOK T_X3_nameLength ft_X3 lt_X3 (ct_X3_nameLength N) cX3_nameLength RX3 1 := ⟨tc_X3_nameLength, fc_X3, lc_X3, (fun _ z => absurd z List.not_mem_nil)⟩
set_option maxRecDepth 20000 in
theorem g_X3_nameLength_L2 (N : Nat) (KO31 : Int32 → Wd → Option (Int32 × Wd)) (hKO31 : ∀ (x2 : Int32) (σ : Wd), GO cX3_nameLength RX3 3 1 sc0 rI nJ0 nV0 (KO31 x2 σ) 31 (mkp 0 3 [(2, .int x2)]) [] σ) : ∀ (n : Nat), ∀ (x1 : Int32) (x2 : Int32) (σ : Wd), GO cX3_nameLength RX3 3 1 sc0 rI nJ0 nV0 (f_X3_nameLength_L2 N KO31 n x1 x2 σ) 2 (mkp 0 3 [(0, .ref 2), (1, .int x1), (2, .int x2)]) [] σ
  | 0, x1, x2, σ => GO.none
  | n + 1, x1, x2, σ => by
    exact (by refine GO.to (md_X3_nameLength N) (kl := [(31, fun vs st σ => kS0 st (kI 2 vs (fun x2 => KO31 x2 σ))), (2, fun vs st σ => kS0 st (kA 0 2 vs (kI 1 vs (fun x1 => kI 2 vs (fun x2 => f_X3_nameLength_L2 N KO31 n x1 x2 σ)))))]) (List.forall_mem_cons.mpr ⟨fun vs st σ => go_kS0 (go_kI (fun x2 h2 => GO.pat [(2, .int x2)] ⟨h2, trivial⟩ (hKO31 x2 σ))), List.forall_mem_cons.mpr ⟨fun vs st σ => go_kS0 (go_kA (fun h0 => go_kI (fun x1 h1 => go_kI (fun x2 h2 => GO.pat [(0, .ref 2), (1, .int x1), (2, .int x2)] ⟨h0, h1, h2, trivial⟩ (g_X3_nameLength_L2 N KO31 hKO31 n x1 x2 σ))))), (fun _ z => absurd z List.not_mem_nil)⟩⟩) 25 ?_ ?_ <;> rfl)
theorem g_X3_nameLength_J31 (N : Nat) (x2 : Int32) (σ : Wd) : GO cX3_nameLength RX3 3 1 sc0 rI nJ0 nV0 (f_X3_nameLength_J31 N x2 σ) 31 (mkp 0 3 [(2, .int x2)]) [] σ := by
  exact (by refine GO.to (md_X3_nameLength N) (kl := []) ((fun _ z => absurd z List.not_mem_nil)) 25 ?_ ?_ <;> rfl)
set_option maxRecDepth 20000 in
theorem C_X3_nameLength (N : Nat) : CTI 1 yX3_nameLength cX3_nameLength 3 (some .int) (a_X3_nameLength N) := by
  refine CTI.of (own := RX3) (by decide) rfl (fun as σ r h => ?_)
  unfold a_X3_nameLength at h
  rcases kSE_s h with ⟨r0, rfl, h0⟩ | hn
  ·
    obtain ⟨b1, r1, rfl, h1⟩ := kSI_s h0
    obtain ⟨rfl, h9⟩ := kS0_s h1
    exact ⟨Nat.le_of_ble_eq_true rfl, by refine GO.to (md_X3_nameLength N) (kl := [(2, fun vs st σ => kS0 st (kA 0 2 vs (kI 1 vs (fun x1 => kI 2 vs (fun x2 => f_X3_nameLength_L2 N (f_X3_nameLength_J31 N) N x1 x2 σ)))))]) (List.forall_mem_cons.mpr ⟨fun vs st σ => go_kS0 (go_kA (fun h0 => go_kI (fun x1 h1 => go_kI (fun x2 h2 => GO.pat [(0, .ref 2), (1, .int x1), (2, .int x2)] ⟨h0, h1, h2, trivial⟩ (g_X3_nameLength_L2 N (f_X3_nameLength_J31 N) (g_X3_nameLength_J31 N) N x1 x2 σ))))), (fun _ z => absurd z List.not_mem_nil)⟩) 25 ?_ ?_ <;> rfl⟩
  cases hn
def T_X3_amountWith : List (Nat × Ent) := [(0, .iconst 0, 1, []), (1, .istore_n 3, 2, []), (2, .iconst 0, 3, []), (3, .istore 4, 5, []), (5, .iload 4, 7, []), (7, .aload_n 0, 8, []), (8, .getfield 19, 11, []), (11, .if_icmp .ge 24, 14, [35]), (14, .aload_n 0, 15, []), (15, .getfield 15, 18, []), (18, .iload 4, 20, []), (20, .laload, 21, []), (21, .lload_n 1, 22, []), (22, .lcmp, 23, []), (23, .ifCond .ne 6, 26, [29]), (26, .iinc 3 1, 29, []), (29, .iinc 4 1, 32, []), (32, .goto (-27), 35, [5]), (35, .iload_n 3, 36, []), (36, .ireturn, 37, [])]
set_option maxRecDepth 20000 in
theorem tc_X3_amountWith : T_X3_amountWith.all (chk cX3_amountWith) = true := by decide +kernel
def f_X3_amountWith_L5 (N : Nat) (KO35 : Int32 → Wd → Option (Int32 × Wd)) : Nat → Int64 → Int32 → Int32 → Wd → Option (Int32 × Wd)
  | 0, _, _, _, _ => none
  | n + 1, x1, x3, x4, σ => if (σ.1 2 2) ≤ x4 then (KO35 x3 σ) else ((xldL σ 16 12 x4).bind fun v1 => if (lg_cmp v1 x1) = 0 then (f_X3_amountWith_L5 N KO35 n x1 (x3 + 1) (x4 + 1) σ) else (f_X3_amountWith_L5 N KO35 n x1 x3 (x4 + 1) σ))
def f_X3_amountWith_J35 (N : Nat) (x3 : Int32) (σ : Wd) : Option (Int32 × Wd) :=
  some (x3, σ)
def f_X3_amountWith (N : Nat) (a1 : Int64) (σ : Wd) : Option (Int32 × Wd) :=
  f_X3_amountWith_L5 N (f_X3_amountWith_J35 N) N a1 0 0 σ
def a_X3_amountWith (N : Nat) : List Value → Wd → Option (Int32 × Wd) := fun as σ => kSE 2 as (fun r0 => kSJ r0 (fun b1 r1 => kS0 r1 (f_X3_amountWith N b1 σ))) (none)
def ct_X3_amountWith (N : Nat) : List (Nat × Cal) := []
set_option maxRecDepth 20000 in
theorem md_X3_amountWith (N : Nat) : MDOK T_X3_amountWith ft_X3 lt_X3 (ct_X3_amountWith N) cX3_amountWith RX3 1 := ⟨tc_X3_amountWith, fc_X3, lc_X3, (fun _ z => absurd z List.not_mem_nil)⟩
set_option maxRecDepth 20000 in
theorem g_X3_amountWith_L5 (N : Nat) (KO35 : Int32 → Wd → Option (Int32 × Wd)) (hKO35 : ∀ (x3 : Int32) (σ : Wd), GO cX3_amountWith RX3 5 1 sc0 rI nJ0 nV0 (KO35 x3 σ) 35 (mkp 0 5 [(3, .int x3)]) [] σ) : ∀ (n : Nat), ∀ (x1 : Int64) (x3 : Int32) (x4 : Int32) (σ : Wd), GO cX3_amountWith RX3 5 1 sc0 rI nJ0 nV0 (f_X3_amountWith_L5 N KO35 n x1 x3 x4 σ) 5 (mkp 0 5 [(0, .ref 2), (1, .long x1), (3, .int x3), (4, .int x4)]) [] σ
  | 0, x1, x3, x4, σ => GO.none
  | n + 1, x1, x3, x4, σ => by
    exact (by refine GO.to (md_X3_amountWith N) (kl := [(35, fun vs st σ => kS0 st (kI 3 vs (fun x3 => KO35 x3 σ))), (5, fun vs st σ => kS0 st (kA 0 2 vs (kJ 1 vs (fun x1 => kI 3 vs (fun x3 => kI 4 vs (fun x4 => f_X3_amountWith_L5 N KO35 n x1 x3 x4 σ))))))]) (List.forall_mem_cons.mpr ⟨fun vs st σ => go_kS0 (go_kI (fun x3 h3 => GO.pat [(3, .int x3)] ⟨h3, trivial⟩ (hKO35 x3 σ))), List.forall_mem_cons.mpr ⟨fun vs st σ => go_kS0 (go_kA (fun h0 => go_kJ (fun x1 h1 => go_kI (fun x3 h3 => go_kI (fun x4 h4 => GO.pat [(0, .ref 2), (1, .long x1), (3, .int x3), (4, .int x4)] ⟨h0, h1, h3, h4, trivial⟩ (g_X3_amountWith_L5 N KO35 hKO35 n x1 x3 x4 σ)))))), (fun _ z => absurd z List.not_mem_nil)⟩⟩) 25 ?_ ?_ <;> rfl)
theorem g_X3_amountWith_J35 (N : Nat) (x3 : Int32) (σ : Wd) : GO cX3_amountWith RX3 5 1 sc0 rI nJ0 nV0 (f_X3_amountWith_J35 N x3 σ) 35 (mkp 0 5 [(3, .int x3)]) [] σ := by
  exact (by refine GO.to (md_X3_amountWith N) (kl := []) ((fun _ z => absurd z List.not_mem_nil)) 25 ?_ ?_ <;> rfl)
set_option maxRecDepth 20000 in
theorem C_X3_amountWith (N : Nat) : CTI 1 yX3_amountWith cX3_amountWith 5 (some .int) (a_X3_amountWith N) := by
  refine CTI.of (own := RX3) (by decide) rfl (fun as σ r h => ?_)
  unfold a_X3_amountWith at h
  rcases kSE_s h with ⟨r0, rfl, h0⟩ | hn
  ·
    obtain ⟨b1, r1, rfl, h1⟩ := kSJ_s h0
    obtain ⟨rfl, h9⟩ := kS0_s h1
    exact ⟨Nat.le_of_ble_eq_true rfl, by refine GO.to (md_X3_amountWith N) (kl := [(5, fun vs st σ => kS0 st (kA 0 2 vs (kJ 1 vs (fun x1 => kI 3 vs (fun x3 => kI 4 vs (fun x4 => f_X3_amountWith_L5 N (f_X3_amountWith_J35 N) N x1 x3 x4 σ))))))]) (List.forall_mem_cons.mpr ⟨fun vs st σ => go_kS0 (go_kA (fun h0 => go_kJ (fun x1 h1 => go_kI (fun x3 h3 => go_kI (fun x4 h4 => GO.pat [(0, .ref 2), (1, .long x1), (3, .int x3), (4, .int x4)] ⟨h0, h1, h3, h4, trivial⟩ (g_X3_amountWith_L5 N (f_X3_amountWith_J35 N) (g_X3_amountWith_J35 N) N x1 x3 x4 σ)))))), (fun _ z => absurd z List.not_mem_nil)⟩) 25 ?_ ?_ <;> rfl⟩
  cases hn
def T_X3_tell : List (Nat × Ent) := [(0, .aload_n 0, 1, []), (1, .iload_n 1, 2, []), (2, .invokevirtual 23, 5, []), (5, .istore 4, 7, []), (7, .iload 4, 9, []), (9, .ifCond .ge 39, 12, [48]), (12, .aload_n 0, 13, []), (13, .getfield 19, 16, []), (16, .bipush 12, 18, []), (18, .if_icmp .lt 6, 21, [24]), (21, .bipush (-3), 23, []), (23, .ireturn, 24, []), (24, .aload_n 0, 25, []), (25, .getfield 19, 28, []), (28, .istore 4, 30, []), (30, .aload_n 0, 31, []), (31, .getfield 9, 34, []), (34, .iload 4, 36, []), (36, .iload_n 1, 37, []), (37, .iastore, 38, []), (38, .aload_n 0, 39, []), (39, .dup, 40, []), (40, .getfield 19, 43, []), (43, .iconst 1, 44, []), (44, .iadd, 45, []), (45, .putfield 19, 48, []), (48, .aload_n 0, 49, []), (49, .getfield 15, 52, []), (52, .iload 4, 54, []), (54, .lload_n 2, 55, []), (55, .lastore, 56, []), (56, .iload 4, 58, []), (58, .ireturn, 59, [])]
set_option maxRecDepth 20000 in
theorem tc_X3_tell : T_X3_tell.all (chk cX3_tell) = true := by decide +kernel
def f_X3_tell (N : Nat) (a1 : Int32) (a2 : Int64) (σ : Wd) : Option (Int32 × Wd) :=
  (f_X3_numberOf N a1 σ).bind fun p1 => if 0 ≤ p1.1 then ((xstL p1.2 16 12 p1.1 a2).bind fun σ2 => some (p1.1, σ2)) else (if (p1.2.1 2 2) < 12 then ((xst p1.2 15 12 (p1.2.1 2 2) a1).bind fun σ3 => let σ4 : Wd := sF σ3 2 2 ((σ3.1 2 2) + 1)
  (xstL σ4 16 12 (p1.2.1 2 2) a2).bind fun σ5 => some (p1.2.1 2 2, σ5)) else (some ((-3), p1.2)))
def a_X3_tell (N : Nat) : List Value → Wd → Option (Int32 × Wd) := fun as σ => kSE 2 as (fun r0 => kSI r0 (fun b1 r1 => kSJ r1 (fun b2 r2 => kS0 r2 (f_X3_tell N b1 b2 σ)))) (none)
set_option maxRecDepth 20000 in
theorem k_X3_23 : calchk RX3 23 2 3 yX3_numberOf cX3_numberOf 3 (some .int) = true := by decide +kernel
def ct_X3_tell (N : Nat) : List (Nat × Cal) := [(23, 2, 3, .inl (a_X3_numberOf N))]
set_option maxRecDepth 20000 in
theorem md_X3_tell (N : Nat) : MDOK T_X3_tell ft_X3 lt_X3 (ct_X3_tell N) cX3_tell RX3 2 := ⟨tc_X3_tell, fc_X3, lc_X3, List.forall_mem_cons.mpr ⟨Or.inl ⟨yX3_numberOf, cX3_numberOf, 3, (some .int), 1, k_X3_23, Nat.le_of_ble_eq_true rfl, C_X3_numberOf N⟩, (fun _ z => absurd z List.not_mem_nil)⟩⟩
set_option maxRecDepth 20000 in
theorem C_X3_tell (N : Nat) : CTI 2 yX3_tell cX3_tell 5 (some .int) (a_X3_tell N) := by
  refine CTI.of (own := RX3) (by decide) rfl (fun as σ r h => ?_)
  unfold a_X3_tell at h
  rcases kSE_s h with ⟨r0, rfl, h0⟩ | hn
  ·
    obtain ⟨b1, r1, rfl, h1⟩ := kSI_s h0
    obtain ⟨b2, r2, rfl, h2⟩ := kSJ_s h1
    obtain ⟨rfl, h9⟩ := kS0_s h2
    exact ⟨Nat.le_of_ble_eq_true rfl, by refine GO.to (md_X3_tell N) (kl := []) ((fun _ z => absurd z List.not_mem_nil)) 38 ?_ ?_ <;> rfl⟩
  cases hn
def T_X3_amountOfBlocks : List (Nat × Ent) := [(0, .iconst 0, 1, []), (1, .istore_n 1, 2, []), (2, .iconst 0, 3, []), (3, .istore_n 2, 4, []), (4, .iload_n 2, 5, []), (5, .aload_n 0, 6, []), (6, .getfield 19, 9, []), (9, .if_icmp .ge 21, 12, [30]), (12, .iload_n 1, 13, []), (13, .aload_n 0, 14, []), (14, .getfield 15, 17, []), (17, .iload_n 2, 18, []), (18, .laload, 19, []), (19, .invokestatic 29, 22, []), (22, .iadd, 23, []), (23, .istore_n 1, 24, []), (24, .iinc 2 1, 27, []), (27, .goto (-23), 30, [4]), (30, .iload_n 1, 31, []), (31, .ireturn, 32, [])]
set_option maxRecDepth 20000 in
theorem tc_X3_amountOfBlocks : T_X3_amountOfBlocks.all (chk cX3_amountOfBlocks) = true := by decide +kernel
def f_X3_amountOfBlocks_L4 (N : Nat) (KO30 : Int32 → Wd → Option (Int32 × Wd)) : Nat → Int32 → Int32 → Wd → Option (Int32 × Wd)
  | 0, _, _, _ => none
  | n + 1, x1, x2, σ => if (σ.1 2 2) ≤ x2 then (KO30 x1 σ) else ((xldL σ 16 12 x2).bind fun v1 => (f_X0_amount N v1 σ).bind fun p2 => f_X3_amountOfBlocks_L4 N KO30 n (x1 + p2.1) (x2 + 1) p2.2)
def f_X3_amountOfBlocks_J30 (N : Nat) (x1 : Int32) (σ : Wd) : Option (Int32 × Wd) :=
  some (x1, σ)
def f_X3_amountOfBlocks (N : Nat) (σ : Wd) : Option (Int32 × Wd) :=
  f_X3_amountOfBlocks_L4 N (f_X3_amountOfBlocks_J30 N) N 0 0 σ
def a_X3_amountOfBlocks (N : Nat) : List Value → Wd → Option (Int32 × Wd) := fun as σ => kSE 2 as (fun r0 => kS0 r0 (f_X3_amountOfBlocks N σ)) (none)
set_option maxRecDepth 20000 in
theorem k_X3_29 : calchk RX3 29 1 0 yX0_amount cX0_amount 3 (some .int) = true := by decide +kernel
def ct_X3_amountOfBlocks (N : Nat) : List (Nat × Cal) := [(29, 1, 0, .inl (a_X0_amount N))]
set_option maxRecDepth 20000 in
theorem md_X3_amountOfBlocks (N : Nat) : MDOK T_X3_amountOfBlocks ft_X3 lt_X3 (ct_X3_amountOfBlocks N) cX3_amountOfBlocks RX3 3 := ⟨tc_X3_amountOfBlocks, fc_X3, lc_X3, List.forall_mem_cons.mpr ⟨Or.inl ⟨yX0_amount, cX0_amount, 3, (some .int), 2, k_X3_29, Nat.le_of_ble_eq_true rfl, C_X0_amount N⟩, (fun _ z => absurd z List.not_mem_nil)⟩⟩
set_option maxRecDepth 20000 in
theorem g_X3_amountOfBlocks_L4 (N : Nat) (KO30 : Int32 → Wd → Option (Int32 × Wd)) (hKO30 : ∀ (x1 : Int32) (σ : Wd), GO cX3_amountOfBlocks RX3 3 3 sc0 rI nJ0 nV0 (KO30 x1 σ) 30 (mkp 0 3 [(1, .int x1)]) [] σ) : ∀ (n : Nat), ∀ (x1 : Int32) (x2 : Int32) (σ : Wd), GO cX3_amountOfBlocks RX3 3 3 sc0 rI nJ0 nV0 (f_X3_amountOfBlocks_L4 N KO30 n x1 x2 σ) 4 (mkp 0 3 [(0, .ref 2), (1, .int x1), (2, .int x2)]) [] σ
  | 0, x1, x2, σ => GO.none
  | n + 1, x1, x2, σ => by
    exact (by refine GO.to (md_X3_amountOfBlocks N) (kl := [(30, fun vs st σ => kS0 st (kI 1 vs (fun x1 => KO30 x1 σ))), (4, fun vs st σ => kS0 st (kA 0 2 vs (kI 1 vs (fun x1 => kI 2 vs (fun x2 => f_X3_amountOfBlocks_L4 N KO30 n x1 x2 σ)))))]) (List.forall_mem_cons.mpr ⟨fun vs st σ => go_kS0 (go_kI (fun x1 h1 => GO.pat [(1, .int x1)] ⟨h1, trivial⟩ (hKO30 x1 σ))), List.forall_mem_cons.mpr ⟨fun vs st σ => go_kS0 (go_kA (fun h0 => go_kI (fun x1 h1 => go_kI (fun x2 h2 => GO.pat [(0, .ref 2), (1, .int x1), (2, .int x2)] ⟨h0, h1, h2, trivial⟩ (g_X3_amountOfBlocks_L4 N KO30 hKO30 n x1 x2 σ))))), (fun _ z => absurd z List.not_mem_nil)⟩⟩) 25 ?_ ?_ <;> rfl)
theorem g_X3_amountOfBlocks_J30 (N : Nat) (x1 : Int32) (σ : Wd) : GO cX3_amountOfBlocks RX3 3 3 sc0 rI nJ0 nV0 (f_X3_amountOfBlocks_J30 N x1 σ) 30 (mkp 0 3 [(1, .int x1)]) [] σ := by
  exact (by refine GO.to (md_X3_amountOfBlocks N) (kl := []) ((fun _ z => absurd z List.not_mem_nil)) 25 ?_ ?_ <;> rfl)
set_option maxRecDepth 20000 in
theorem C_X3_amountOfBlocks (N : Nat) : CTI 3 yX3_amountOfBlocks cX3_amountOfBlocks 3 (some .int) (a_X3_amountOfBlocks N) := by
  refine CTI.of (own := RX3) (by decide) rfl (fun as σ r h => ?_)
  unfold a_X3_amountOfBlocks at h
  rcases kSE_s h with ⟨r0, rfl, h0⟩ | hn
  ·
    obtain ⟨rfl, h9⟩ := kS0_s h0
    exact ⟨Nat.le_of_ble_eq_true rfl, by refine GO.to (md_X3_amountOfBlocks N) (kl := [(4, fun vs st σ => kS0 st (kA 0 2 vs (kI 1 vs (fun x1 => kI 2 vs (fun x2 => f_X3_amountOfBlocks_L4 N (f_X3_amountOfBlocks_J30 N) N x1 x2 σ)))))]) (List.forall_mem_cons.mpr ⟨fun vs st σ => go_kS0 (go_kA (fun h0 => go_kI (fun x1 h1 => go_kI (fun x2 h2 => GO.pat [(0, .ref 2), (1, .int x1), (2, .int x2)] ⟨h0, h1, h2, trivial⟩ (g_X3_amountOfBlocks_L4 N (f_X3_amountOfBlocks_J30 N) (g_X3_amountOfBlocks_J30 N) N x1 x2 σ))))), (fun _ z => absurd z List.not_mem_nil)⟩) 25 ?_ ?_ <;> rfl⟩
  cases hn
def T_X3_unlikeBlocks : List (Nat × Ent) := [(0, .lconst 0, 1, []), (1, .lstore_n 1, 2, []), (2, .iconst 0, 3, []), (3, .istore_n 3, 4, []), (4, .iload_n 3, 5, []), (5, .aload_n 0, 6, []), (6, .getfield 19, 9, []), (9, .if_icmp .ge 52, 12, [61]), (12, .aload_n 0, 13, []), (13, .getfield 15, 16, []), (16, .iload_n 3, 17, []), (17, .laload, 18, []), (18, .invokestatic 29, 21, []), (21, .istore 4, 23, []), (23, .iconst 0, 24, []), (24, .istore 5, 26, []), (26, .iload 5, 28, []), (28, .iload 4, 30, []), (30, .if_icmp .ge 25, 33, [55]), (33, .lload_n 1, 34, []), (34, .lconst 1, 35, []), (35, .aload_n 0, 36, []), (36, .getfield 15, 39, []), (39, .iload_n 3, 40, []), (40, .laload, 41, []), (41, .iload 5, 43, []), (43, .invokestatic 34, 46, []), (46, .lshl, 47, []), (47, .lor, 48, []), (48, .lstore_n 1, 49, []), (49, .iinc 5 1, 52, []), (52, .goto (-26), 55, [26]), (55, .iinc 3 1, 58, []), (58, .goto (-54), 61, [4]), (61, .lload_n 1, 62, []), (62, .invokestatic 38, 65, []), (65, .ireturn, 66, [])]
set_option maxRecDepth 20000 in
theorem tc_X3_unlikeBlocks : T_X3_unlikeBlocks.all (chk cX3_unlikeBlocks) = true := by decide +kernel
def f_X3_unlikeBlocks_L26 (N : Nat) (KO55 : Int64 → Int32 → Wd → Option (Int32 × Wd)) : Nat → Int64 → Int32 → Int32 → Int32 → Wd → Option (Int32 × Wd)
  | 0, _, _, _, _, _ => none
  | n + 1, x1, x3, x4, x5, σ => if x4 ≤ x5 then (KO55 x1 x3 σ) else ((xldL σ 16 12 x3).bind fun v3 => (f_X0_codeAt N v3 x5 σ).bind fun p4 => f_X3_unlikeBlocks_L26 N KO55 n (x1 ||| (1 <<< (Int32.toInt64 p4.1 &&& 63))) x3 x4 (x5 + 1) p4.2)
def f_X3_unlikeBlocks_J55 (N : Nat) (KB : Int64 → Int32 → Wd → Option (Int32 × Wd)) (KO61 : Int64 → Wd → Option (Int32 × Wd)) (x1 : Int64) (x3 : Int32) (σ : Wd) : Option (Int32 × Wd) :=
  KB x1 (x3 + 1) σ
def f_X3_unlikeBlocks_L4 (N : Nat) (KO61 : Int64 → Wd → Option (Int32 × Wd)) : Nat → Int64 → Int32 → Wd → Option (Int32 × Wd)
  | 0, _, _, _ => none
  | n + 1, x1, x3, σ => if (σ.1 2 2) ≤ x3 then (KO61 x1 σ) else ((xldL σ 16 12 x3).bind fun v1 => (f_X0_amount N v1 σ).bind fun p2 => f_X3_unlikeBlocks_L26 N (f_X3_unlikeBlocks_J55 N (f_X3_unlikeBlocks_L4 N KO61 n) KO61) N x1 x3 p2.1 0 p2.2)
def f_X3_unlikeBlocks_J61 (N : Nat) (x1 : Int64) (σ : Wd) : Option (Int32 × Wd) :=
  (f_J13_bitCount_95d88 N x1 σ).bind fun p5 => some (p5.1, p5.2)
def f_X3_unlikeBlocks (N : Nat) (σ : Wd) : Option (Int32 × Wd) :=
  f_X3_unlikeBlocks_L4 N (f_X3_unlikeBlocks_J61 N) N 0 0 σ
def a_X3_unlikeBlocks (N : Nat) : List Value → Wd → Option (Int32 × Wd) := fun as σ => kSE 2 as (fun r0 => kS0 r0 (f_X3_unlikeBlocks N σ)) (none)
set_option maxRecDepth 20000 in
theorem k_X3_34 : calchk RX3 34 2 0 yX0_codeAt cX0_codeAt 3 (some .int) = true := by decide +kernel
set_option maxRecDepth 20000 in
theorem k_X3_38 : calchk RX3 38 1 0 yJ13_bitCount_95d88 cJ13_bitCount_95d88 2 (some .int) = true := by decide +kernel
def ct_X3_unlikeBlocks (N : Nat) : List (Nat × Cal) := [(29, 1, 0, .inl (a_X0_amount N)), (34, 2, 0, .inl (a_X0_codeAt N)), (38, 1, 0, .inl (a_J13_bitCount_95d88 N))]
set_option maxRecDepth 20000 in
theorem md_X3_unlikeBlocks (N : Nat) : MDOK T_X3_unlikeBlocks ft_X3 lt_X3 (ct_X3_unlikeBlocks N) cX3_unlikeBlocks RX3 3 := ⟨tc_X3_unlikeBlocks, fc_X3, lc_X3, List.forall_mem_cons.mpr ⟨Or.inl ⟨yX0_amount, cX0_amount, 3, (some .int), 2, k_X3_29, Nat.le_of_ble_eq_true rfl, C_X0_amount N⟩, List.forall_mem_cons.mpr ⟨Or.inl ⟨yX0_codeAt, cX0_codeAt, 3, (some .int), 1, k_X3_34, Nat.le_of_ble_eq_true rfl, C_X0_codeAt N⟩, List.forall_mem_cons.mpr ⟨Or.inl ⟨yJ13_bitCount_95d88, cJ13_bitCount_95d88, 2, (some .int), 1, k_X3_38, Nat.le_of_ble_eq_true rfl, C_J13_bitCount_95d88 N⟩, (fun _ z => absurd z List.not_mem_nil)⟩⟩⟩⟩
set_option maxRecDepth 20000 in
theorem g_X3_unlikeBlocks_L26 (N : Nat) (KO55 : Int64 → Int32 → Wd → Option (Int32 × Wd)) (hKO55 : ∀ (x1 : Int64) (x3 : Int32) (σ : Wd), GO cX3_unlikeBlocks RX3 6 3 sc0 rI nJ0 nV0 (KO55 x1 x3 σ) 55 (mkp 0 6 [(0, .ref 2), (1, .long x1), (3, .int x3)]) [] σ) : ∀ (n : Nat), ∀ (x1 : Int64) (x3 : Int32) (x4 : Int32) (x5 : Int32) (σ : Wd), GO cX3_unlikeBlocks RX3 6 3 sc0 rI nJ0 nV0 (f_X3_unlikeBlocks_L26 N KO55 n x1 x3 x4 x5 σ) 26 (mkp 0 6 [(0, .ref 2), (1, .long x1), (3, .int x3), (4, .int x4), (5, .int x5)]) [] σ
  | 0, x1, x3, x4, x5, σ => GO.none
  | n + 1, x1, x3, x4, x5, σ => by
    exact (by refine GO.to (md_X3_unlikeBlocks N) (kl := [(55, fun vs st σ => kS0 st (kA 0 2 vs (kJ 1 vs (fun x1 => kI 3 vs (fun x3 => KO55 x1 x3 σ))))), (26, fun vs st σ => kS0 st (kA 0 2 vs (kJ 1 vs (fun x1 => kI 3 vs (fun x3 => kI 4 vs (fun x4 => kI 5 vs (fun x5 => f_X3_unlikeBlocks_L26 N KO55 n x1 x3 x4 x5 σ)))))))]) (List.forall_mem_cons.mpr ⟨fun vs st σ => go_kS0 (go_kA (fun h0 => go_kJ (fun x1 h1 => go_kI (fun x3 h3 => GO.pat [(0, .ref 2), (1, .long x1), (3, .int x3)] ⟨h0, h1, h3, trivial⟩ (hKO55 x1 x3 σ))))), List.forall_mem_cons.mpr ⟨fun vs st σ => go_kS0 (go_kA (fun h0 => go_kJ (fun x1 h1 => go_kI (fun x3 h3 => go_kI (fun x4 h4 => go_kI (fun x5 h5 => GO.pat [(0, .ref 2), (1, .long x1), (3, .int x3), (4, .int x4), (5, .int x5)] ⟨h0, h1, h3, h4, h5, trivial⟩ (g_X3_unlikeBlocks_L26 N KO55 hKO55 n x1 x3 x4 x5 σ))))))), (fun _ z => absurd z List.not_mem_nil)⟩⟩) 42 ?_ ?_ <;> rfl)
theorem g_X3_unlikeBlocks_J55 (N : Nat) (KB : Int64 → Int32 → Wd → Option (Int32 × Wd)) (hKB : ∀ (x1 : Int64) (x3 : Int32) (σ : Wd), GO cX3_unlikeBlocks RX3 6 3 sc0 rI nJ0 nV0 (KB x1 x3 σ) 4 (mkp 0 6 [(0, .ref 2), (1, .long x1), (3, .int x3)]) [] σ) (KO61 : Int64 → Wd → Option (Int32 × Wd)) (hKO61 : ∀ (x1 : Int64) (σ : Wd), GO cX3_unlikeBlocks RX3 6 3 sc0 rI nJ0 nV0 (KO61 x1 σ) 61 (mkp 0 6 [(1, .long x1)]) [] σ) (x1 : Int64) (x3 : Int32) (σ : Wd) : GO cX3_unlikeBlocks RX3 6 3 sc0 rI nJ0 nV0 (f_X3_unlikeBlocks_J55 N KB KO61 x1 x3 σ) 55 (mkp 0 6 [(0, .ref 2), (1, .long x1), (3, .int x3)]) [] σ := by
  exact (by refine GO.to (md_X3_unlikeBlocks N) (kl := [(4, fun vs st σ => kS0 st (kA 0 2 vs (kJ 1 vs (fun x1 => kI 3 vs (fun x3 => KB x1 x3 σ)))))]) (List.forall_mem_cons.mpr ⟨fun vs st σ => go_kS0 (go_kA (fun h0 => go_kJ (fun x1 h1 => go_kI (fun x3 h3 => GO.pat [(0, .ref 2), (1, .long x1), (3, .int x3)] ⟨h0, h1, h3, trivial⟩ (hKB x1 x3 σ))))), (fun _ z => absurd z List.not_mem_nil)⟩) 42 ?_ ?_ <;> rfl)
set_option maxRecDepth 20000 in
theorem g_X3_unlikeBlocks_L4 (N : Nat) (KO61 : Int64 → Wd → Option (Int32 × Wd)) (hKO61 : ∀ (x1 : Int64) (σ : Wd), GO cX3_unlikeBlocks RX3 6 3 sc0 rI nJ0 nV0 (KO61 x1 σ) 61 (mkp 0 6 [(1, .long x1)]) [] σ) : ∀ (n : Nat), ∀ (x1 : Int64) (x3 : Int32) (σ : Wd), GO cX3_unlikeBlocks RX3 6 3 sc0 rI nJ0 nV0 (f_X3_unlikeBlocks_L4 N KO61 n x1 x3 σ) 4 (mkp 0 6 [(0, .ref 2), (1, .long x1), (3, .int x3)]) [] σ
  | 0, x1, x3, σ => GO.none
  | n + 1, x1, x3, σ => by
    exact (by refine GO.to (md_X3_unlikeBlocks N) (kl := [(61, fun vs st σ => kS0 st (kJ 1 vs (fun x1 => KO61 x1 σ))), (26, fun vs st σ => kS0 st (kA 0 2 vs (kJ 1 vs (fun x1 => kI 3 vs (fun x3 => kI 4 vs (fun x4 => kI 5 vs (fun x5 => f_X3_unlikeBlocks_L26 N (f_X3_unlikeBlocks_J55 N (f_X3_unlikeBlocks_L4 N KO61 n) KO61) N x1 x3 x4 x5 σ)))))))]) (List.forall_mem_cons.mpr ⟨fun vs st σ => go_kS0 (go_kJ (fun x1 h1 => GO.pat [(1, .long x1)] ⟨h1, trivial⟩ (hKO61 x1 σ))), List.forall_mem_cons.mpr ⟨fun vs st σ => go_kS0 (go_kA (fun h0 => go_kJ (fun x1 h1 => go_kI (fun x3 h3 => go_kI (fun x4 h4 => go_kI (fun x5 h5 => GO.pat [(0, .ref 2), (1, .long x1), (3, .int x3), (4, .int x4), (5, .int x5)] ⟨h0, h1, h3, h4, h5, trivial⟩ (g_X3_unlikeBlocks_L26 N (f_X3_unlikeBlocks_J55 N (f_X3_unlikeBlocks_L4 N KO61 n) KO61) (g_X3_unlikeBlocks_J55 N (f_X3_unlikeBlocks_L4 N KO61 n) (g_X3_unlikeBlocks_L4 N KO61 hKO61 n) KO61 hKO61) N x1 x3 x4 x5 σ))))))), (fun _ z => absurd z List.not_mem_nil)⟩⟩) 42 ?_ ?_ <;> rfl)
theorem g_X3_unlikeBlocks_J61 (N : Nat) (x1 : Int64) (σ : Wd) : GO cX3_unlikeBlocks RX3 6 3 sc0 rI nJ0 nV0 (f_X3_unlikeBlocks_J61 N x1 σ) 61 (mkp 0 6 [(1, .long x1)]) [] σ := by
  exact (by refine GO.to (md_X3_unlikeBlocks N) (kl := []) ((fun _ z => absurd z List.not_mem_nil)) 42 ?_ ?_ <;> rfl)
set_option maxRecDepth 20000 in
theorem C_X3_unlikeBlocks (N : Nat) : CTI 3 yX3_unlikeBlocks cX3_unlikeBlocks 6 (some .int) (a_X3_unlikeBlocks N) := by
  refine CTI.of (own := RX3) (by decide) rfl (fun as σ r h => ?_)
  unfold a_X3_unlikeBlocks at h
  rcases kSE_s h with ⟨r0, rfl, h0⟩ | hn
  ·
    obtain ⟨rfl, h9⟩ := kS0_s h0
    exact ⟨Nat.le_of_ble_eq_true rfl, by refine GO.to (md_X3_unlikeBlocks N) (kl := [(4, fun vs st σ => kS0 st (kA 0 2 vs (kJ 1 vs (fun x1 => kI 3 vs (fun x3 => f_X3_unlikeBlocks_L4 N (f_X3_unlikeBlocks_J61 N) N x1 x3 σ)))))]) (List.forall_mem_cons.mpr ⟨fun vs st σ => go_kS0 (go_kA (fun h0 => go_kJ (fun x1 h1 => go_kI (fun x3 h3 => GO.pat [(0, .ref 2), (1, .long x1), (3, .int x3)] ⟨h0, h1, h3, trivial⟩ (g_X3_unlikeBlocks_L4 N (f_X3_unlikeBlocks_J61 N) (g_X3_unlikeBlocks_J61 N) N x1 x3 σ))))), (fun _ z => absurd z List.not_mem_nil)⟩) 42 ?_ ?_ <;> rfl⟩
  cases hn
def ft_X1 : List (Nat × FTE) := [(9, 0, 0, 3), (17, 0, 1, 0)]
def lt_X1 : List (Nat × Int64) := []
theorem fc_X1 : ft_X1.all (fun e => fldchk RX1 e && shchk e) = true := by decide +kernel
theorem lc_X1 : lt_X1.all (ltchk RX1) = true := by decide +kernel
def T_X1_placeOf : List (Nat × Ent) := [(0, .iconst 0, 1, []), (1, .istore_n 3, 2, []), (2, .iload_n 3, 3, []), (3, .aload_n 0, 4, []), (4, .getfield 17, 7, []), (7, .if_icmp .ge 20, 10, [27]), (10, .aload_n 0, 11, []), (11, .getfield 9, 14, []), (14, .iload_n 3, 15, []), (15, .laload, 16, []), (16, .lload_n 1, 17, []), (17, .lcmp, 18, []), (18, .ifCond .eq 9, 21, [27]), (21, .iinc 3 1, 24, []), (24, .goto (-22), 27, [2]), (27, .iload_n 3, 28, []), (28, .ireturn, 29, [])]
set_option maxRecDepth 20000 in
theorem tc_X1_placeOf : T_X1_placeOf.all (chk cX1_placeOf) = true := by decide +kernel
def f_X1_placeOf_L2 (N : Nat) (KO27 : Int32 → Wd → Option (Int32 × Wd)) : Nat → Int64 → Int32 → Wd → Option (Int32 × Wd)
  | 0, _, _, _ => none
  | n + 1, x1, x3, σ => if (σ.1 3 1) ≤ x3 then (KO27 x3 σ) else ((xldL σ 17 20 x3).bind fun v1 => if (lg_cmp v1 x1) = 0 then (KO27 x3 σ) else (f_X1_placeOf_L2 N KO27 n x1 (x3 + 1) σ))
def f_X1_placeOf_J27 (N : Nat) (x3 : Int32) (σ : Wd) : Option (Int32 × Wd) :=
  some (x3, σ)
def f_X1_placeOf (N : Nat) (a1 : Int64) (σ : Wd) : Option (Int32 × Wd) :=
  f_X1_placeOf_L2 N (f_X1_placeOf_J27 N) N a1 0 σ
def a_X1_placeOf (N : Nat) : List Value → Wd → Option (Int32 × Wd) := fun as σ => kSE 3 as (fun r0 => kSJ r0 (fun b1 r1 => kS0 r1 (f_X1_placeOf N b1 σ))) (none)
def ct_X1_placeOf (N : Nat) : List (Nat × Cal) := []
set_option maxRecDepth 20000 in
theorem md_X1_placeOf (N : Nat) : MDOK T_X1_placeOf ft_X1 lt_X1 (ct_X1_placeOf N) cX1_placeOf RX1 1 := ⟨tc_X1_placeOf, fc_X1, lc_X1, (fun _ z => absurd z List.not_mem_nil)⟩
set_option maxRecDepth 20000 in
theorem g_X1_placeOf_L2 (N : Nat) (KO27 : Int32 → Wd → Option (Int32 × Wd)) (hKO27 : ∀ (x3 : Int32) (σ : Wd), GO cX1_placeOf RX1 4 1 sc0 rI nJ0 nV0 (KO27 x3 σ) 27 (mkp 0 4 [(3, .int x3)]) [] σ) : ∀ (n : Nat), ∀ (x1 : Int64) (x3 : Int32) (σ : Wd), GO cX1_placeOf RX1 4 1 sc0 rI nJ0 nV0 (f_X1_placeOf_L2 N KO27 n x1 x3 σ) 2 (mkp 0 4 [(0, .ref 3), (1, .long x1), (3, .int x3)]) [] σ
  | 0, x1, x3, σ => GO.none
  | n + 1, x1, x3, σ => by
    exact (by refine GO.to (md_X1_placeOf N) (kl := [(27, fun vs st σ => kS0 st (kI 3 vs (fun x3 => KO27 x3 σ))), (2, fun vs st σ => kS0 st (kA 0 3 vs (kJ 1 vs (fun x1 => kI 3 vs (fun x3 => f_X1_placeOf_L2 N KO27 n x1 x3 σ)))))]) (List.forall_mem_cons.mpr ⟨fun vs st σ => go_kS0 (go_kI (fun x3 h3 => GO.pat [(3, .int x3)] ⟨h3, trivial⟩ (hKO27 x3 σ))), List.forall_mem_cons.mpr ⟨fun vs st σ => go_kS0 (go_kA (fun h0 => go_kJ (fun x1 h1 => go_kI (fun x3 h3 => GO.pat [(0, .ref 3), (1, .long x1), (3, .int x3)] ⟨h0, h1, h3, trivial⟩ (g_X1_placeOf_L2 N KO27 hKO27 n x1 x3 σ))))), (fun _ z => absurd z List.not_mem_nil)⟩⟩) 22 ?_ ?_ <;> rfl)
theorem g_X1_placeOf_J27 (N : Nat) (x3 : Int32) (σ : Wd) : GO cX1_placeOf RX1 4 1 sc0 rI nJ0 nV0 (f_X1_placeOf_J27 N x3 σ) 27 (mkp 0 4 [(3, .int x3)]) [] σ := by
  exact (by refine GO.to (md_X1_placeOf N) (kl := []) ((fun _ z => absurd z List.not_mem_nil)) 22 ?_ ?_ <;> rfl)
set_option maxRecDepth 20000 in
theorem C_X1_placeOf (N : Nat) : CTI 1 yX1_placeOf cX1_placeOf 4 (some .int) (a_X1_placeOf N) := by
  refine CTI.of (own := RX1) (by decide) rfl (fun as σ r h => ?_)
  unfold a_X1_placeOf at h
  rcases kSE_s h with ⟨r0, rfl, h0⟩ | hn
  ·
    obtain ⟨b1, r1, rfl, h1⟩ := kSJ_s h0
    obtain ⟨rfl, h9⟩ := kS0_s h1
    exact ⟨Nat.le_of_ble_eq_true rfl, by refine GO.to (md_X1_placeOf N) (kl := [(2, fun vs st σ => kS0 st (kA 0 3 vs (kJ 1 vs (fun x1 => kI 3 vs (fun x3 => f_X1_placeOf_L2 N (f_X1_placeOf_J27 N) N x1 x3 σ)))))]) (List.forall_mem_cons.mpr ⟨fun vs st σ => go_kS0 (go_kA (fun h0 => go_kJ (fun x1 h1 => go_kI (fun x3 h3 => GO.pat [(0, .ref 3), (1, .long x1), (3, .int x3)] ⟨h0, h1, h3, trivial⟩ (g_X1_placeOf_L2 N (f_X1_placeOf_J27 N) (g_X1_placeOf_J27 N) N x1 x3 σ))))), (fun _ z => absurd z List.not_mem_nil)⟩) 22 ?_ ?_ <;> rfl⟩
  cases hn
def T_X1_holds : List (Nat × Ent) := [(0, .aload_n 0, 1, []), (1, .lload_n 1, 2, []), (2, .invokevirtual 13, 5, []), (5, .aload_n 0, 6, []), (6, .getfield 17, 9, []), (9, .if_icmp .ge 7, 12, [16]), (12, .iconst 1, 13, []), (13, .goto 4, 16, [17]), (16, .iconst 0, 17, []), (17, .ireturn, 18, [])]
set_option maxRecDepth 20000 in
theorem tc_X1_holds : T_X1_holds.all (chk cX1_holds) = true := by decide +kernel
def f_X1_holds (N : Nat) (a1 : Int64) (σ : Wd) : Option (Int32 × Wd) :=
  (f_X1_placeOf N a1 σ).bind fun p1 => if (p1.2.1 3 1) ≤ p1.1 then (some (0, p1.2)) else (some (1, p1.2))
def a_X1_holds (N : Nat) : List Value → Wd → Option (Int32 × Wd) := fun as σ => kSE 3 as (fun r0 => kSJ r0 (fun b1 r1 => kS0 r1 (f_X1_holds N b1 σ))) (none)
set_option maxRecDepth 20000 in
theorem k_X1_13 : calchk RX1 13 2 1 yX1_placeOf cX1_placeOf 4 (some .int) = true := by decide +kernel
def ct_X1_holds (N : Nat) : List (Nat × Cal) := [(13, 2, 1, .inl (a_X1_placeOf N))]
set_option maxRecDepth 20000 in
theorem md_X1_holds (N : Nat) : MDOK T_X1_holds ft_X1 lt_X1 (ct_X1_holds N) cX1_holds RX1 2 := ⟨tc_X1_holds, fc_X1, lc_X1, List.forall_mem_cons.mpr ⟨Or.inl ⟨yX1_placeOf, cX1_placeOf, 4, (some .int), 1, k_X1_13, Nat.le_of_ble_eq_true rfl, C_X1_placeOf N⟩, (fun _ z => absurd z List.not_mem_nil)⟩⟩
set_option maxRecDepth 20000 in
theorem C_X1_holds (N : Nat) : CTI 2 yX1_holds cX1_holds 3 (some .boolean) (a_X1_holds N) := by
  refine CTZ.of (own := RX1) (by decide) rfl (fun as σ r h => ?_)
  unfold a_X1_holds at h
  rcases kSE_s h with ⟨r0, rfl, h0⟩ | hn
  ·
    obtain ⟨b1, r1, rfl, h1⟩ := kSJ_s h0
    obtain ⟨rfl, h9⟩ := kS0_s h1
    exact ⟨Nat.le_of_ble_eq_true rfl, by refine GO.to (md_X1_holds N) (kl := []) ((fun _ z => absurd z List.not_mem_nil)) 15 ?_ ?_ <;> rfl⟩
  cases hn
def T_X1_ask : List (Nat × Ent) := [(0, .aload_n 0, 1, []), (1, .lload_n 1, 2, []), (2, .invokevirtual 13, 5, []), (5, .istore_n 3, 6, []), (6, .iload_n 3, 7, []), (7, .aload_n 0, 8, []), (8, .getfield 17, 11, []), (11, .if_icmp .ne 25, 14, [36]), (14, .aload_n 0, 15, []), (15, .getfield 17, 18, []), (18, .bipush 20, 20, []), (20, .if_icmp .ge 16, 23, [36]), (23, .aload_n 0, 24, []), (24, .dup, 25, []), (25, .getfield 17, 28, []), (28, .iconst 1, 29, []), (29, .iadd, 30, []), (30, .putfield 17, 33, []), (33, .goto 13, 36, [46]), (36, .iload_n 3, 37, []), (37, .aload_n 0, 38, []), (38, .getfield 17, 41, []), (41, .if_icmp .ne 5, 44, [46]), (44, .iconst 0, 45, []), (45, .istore_n 3, 46, []), (46, .iload_n 3, 47, []), (47, .istore 4, 49, []), (49, .iload 4, 51, []), (51, .aload_n 0, 52, []), (52, .getfield 17, 55, []), (55, .iconst 1, 56, []), (56, .isub, 57, []), (57, .if_icmp .ge 25, 60, [82]), (60, .aload_n 0, 61, []), (61, .getfield 9, 64, []), (64, .iload 4, 66, []), (66, .aload_n 0, 67, []), (67, .getfield 9, 70, []), (70, .iload 4, 72, []), (72, .iconst 1, 73, []), (73, .iadd, 74, []), (74, .laload, 75, []), (75, .lastore, 76, []), (76, .iinc 4 1, 79, []), (79, .goto (-30), 82, [49]), (82, .aload_n 0, 83, []), (83, .getfield 9, 86, []), (86, .aload_n 0, 87, []), (87, .getfield 17, 90, []), (90, .iconst 1, 91, []), (91, .isub, 92, []), (92, .lload_n 1, 93, []), (93, .lastore, 94, []), (94, .return_, 95, [])]
set_option maxRecDepth 20000 in
theorem tc_X1_ask : T_X1_ask.all (chk cX1_ask) = true := by decide +kernel
def f_X1_ask_L49 (N : Nat) (KO82 : Int64 → Wd → Option Wd) : Nat → Int64 → Int32 → Wd → Option Wd
  | 0, _, _, _ => none
  | n + 1, x1, x4, σ => if ((σ.1 3 1) - 1) ≤ x4 then (KO82 x1 σ) else ((xldL σ 17 20 (x4 + 1)).bind fun v2 => (xstL σ 17 20 x4 v2).bind fun σ3 => f_X1_ask_L49 N KO82 n x1 (x4 + 1) σ3)
def f_X1_ask_J82 (N : Nat) (x1 : Int64) (σ : Wd) : Option Wd :=
  (xstL σ 17 20 ((σ.1 3 1) - 1) x1).bind fun σ4 => some σ4
def f_X1_ask_J36 (N : Nat) (x1 : Int64) (x3 : Int32) (σ : Wd) : Option Wd :=
  if x3 = (σ.1 3 1) then (f_X1_ask_L49 N (f_X1_ask_J82 N) N x1 0 σ) else (f_X1_ask_L49 N (f_X1_ask_J82 N) N x1 x3 σ)
def f_X1_ask (N : Nat) (a1 : Int64) (σ : Wd) : Option Wd :=
  (f_X1_placeOf N a1 σ).bind fun p1 => if p1.1 = (p1.2.1 3 1) then (if 20 ≤ (p1.2.1 3 1) then (f_X1_ask_J36 N a1 p1.1 p1.2) else (let σ5 : Wd := sF p1.2 3 1 ((p1.2.1 3 1) + 1)
  f_X1_ask_L49 N (f_X1_ask_J82 N) N a1 p1.1 σ5)) else (f_X1_ask_J36 N a1 p1.1 p1.2)
def a_X1_ask (N : Nat) : List Value → Wd → Option Wd := fun as σ => kSE 3 as (fun r0 => kSJ r0 (fun b1 r1 => kS0 r1 (f_X1_ask N b1 σ))) (none)
def ct_X1_ask (N : Nat) : List (Nat × Cal) := [(13, 2, 1, .inl (a_X1_placeOf N))]
set_option maxRecDepth 20000 in
theorem md_X1_ask (N : Nat) : MDOK T_X1_ask ft_X1 lt_X1 (ct_X1_ask N) cX1_ask RX1 2 := ⟨tc_X1_ask, fc_X1, lc_X1, List.forall_mem_cons.mpr ⟨Or.inl ⟨yX1_placeOf, cX1_placeOf, 4, (some .int), 1, k_X1_13, Nat.le_of_ble_eq_true rfl, C_X1_placeOf N⟩, (fun _ z => absurd z List.not_mem_nil)⟩⟩
set_option maxRecDepth 20000 in
theorem g_X1_ask_L49 (N : Nat) (KO82 : Int64 → Wd → Option Wd) (hKO82 : ∀ (x1 : Int64) (σ : Wd), GO cX1_ask RX1 5 2 sc0 nI0 nJ0 some (KO82 x1 σ) 82 (mkp 0 5 [(0, .ref 3), (1, .long x1)]) [] σ) : ∀ (n : Nat), ∀ (x1 : Int64) (x4 : Int32) (σ : Wd), GO cX1_ask RX1 5 2 sc0 nI0 nJ0 some (f_X1_ask_L49 N KO82 n x1 x4 σ) 49 (mkp 0 5 [(0, .ref 3), (1, .long x1), (4, .int x4)]) [] σ
  | 0, x1, x4, σ => GO.none
  | n + 1, x1, x4, σ => by
    exact (by refine GO.to (md_X1_ask N) (kl := [(82, fun vs st σ => kS0 st (kA 0 3 vs (kJ 1 vs (fun x1 => KO82 x1 σ)))), (49, fun vs st σ => kS0 st (kA 0 3 vs (kJ 1 vs (fun x1 => kI 4 vs (fun x4 => f_X1_ask_L49 N KO82 n x1 x4 σ)))))]) (List.forall_mem_cons.mpr ⟨fun vs st σ => go_kS0 (go_kA (fun h0 => go_kJ (fun x1 h1 => GO.pat [(0, .ref 3), (1, .long x1)] ⟨h0, h1, trivial⟩ (hKO82 x1 σ)))), List.forall_mem_cons.mpr ⟨fun vs st σ => go_kS0 (go_kA (fun h0 => go_kJ (fun x1 h1 => go_kI (fun x4 h4 => GO.pat [(0, .ref 3), (1, .long x1), (4, .int x4)] ⟨h0, h1, h4, trivial⟩ (g_X1_ask_L49 N KO82 hKO82 n x1 x4 σ))))), (fun _ z => absurd z List.not_mem_nil)⟩⟩) 59 ?_ ?_ <;> rfl)
theorem g_X1_ask_J82 (N : Nat) (x1 : Int64) (σ : Wd) : GO cX1_ask RX1 5 2 sc0 nI0 nJ0 some (f_X1_ask_J82 N x1 σ) 82 (mkp 0 5 [(0, .ref 3), (1, .long x1)]) [] σ := by
  exact (by refine GO.to (md_X1_ask N) (kl := []) ((fun _ z => absurd z List.not_mem_nil)) 59 ?_ ?_ <;> rfl)
theorem g_X1_ask_J36 (N : Nat) (x1 : Int64) (x3 : Int32) (σ : Wd) : GO cX1_ask RX1 5 2 sc0 nI0 nJ0 some (f_X1_ask_J36 N x1 x3 σ) 36 (mkp 0 5 [(0, .ref 3), (1, .long x1), (3, .int x3)]) [] σ := by
  exact (by refine GO.to (md_X1_ask N) (kl := [(49, fun vs st σ => kS0 st (kA 0 3 vs (kJ 1 vs (fun x1 => kI 4 vs (fun x4 => f_X1_ask_L49 N (f_X1_ask_J82 N) N x1 x4 σ)))))]) (List.forall_mem_cons.mpr ⟨fun vs st σ => go_kS0 (go_kA (fun h0 => go_kJ (fun x1 h1 => go_kI (fun x4 h4 => GO.pat [(0, .ref 3), (1, .long x1), (4, .int x4)] ⟨h0, h1, h4, trivial⟩ (g_X1_ask_L49 N (f_X1_ask_J82 N) (g_X1_ask_J82 N) N x1 x4 σ))))), (fun _ z => absurd z List.not_mem_nil)⟩) 59 ?_ ?_ <;> rfl)
set_option maxRecDepth 20000 in
theorem C_X1_ask (N : Nat) : CTV 2 yX1_ask cX1_ask 5 none (a_X1_ask N) := by
  refine CTV.of (own := RX1) (by decide) rfl (fun as σ r h => ?_)
  unfold a_X1_ask at h
  rcases kSE_s h with ⟨r0, rfl, h0⟩ | hn
  ·
    obtain ⟨b1, r1, rfl, h1⟩ := kSJ_s h0
    obtain ⟨rfl, h9⟩ := kS0_s h1
    exact ⟨Nat.le_of_ble_eq_true rfl, by refine GO.to (md_X1_ask N) (kl := [(36, fun vs st σ => kS0 st (kA 0 3 vs (kJ 1 vs (fun x1 => kI 3 vs (fun x3 => f_X1_ask_J36 N x1 x3 σ))))), (49, fun vs st σ => kS0 st (kA 0 3 vs (kJ 1 vs (fun x1 => kI 4 vs (fun x4 => f_X1_ask_L49 N (f_X1_ask_J82 N) N x1 x4 σ)))))]) (List.forall_mem_cons.mpr ⟨fun vs st σ => go_kS0 (go_kA (fun h0 => go_kJ (fun x1 h1 => go_kI (fun x3 h3 => GO.pat [(0, .ref 3), (1, .long x1), (3, .int x3)] ⟨h0, h1, h3, trivial⟩ (g_X1_ask_J36 N x1 x3 σ))))), List.forall_mem_cons.mpr ⟨fun vs st σ => go_kS0 (go_kA (fun h0 => go_kJ (fun x1 h1 => go_kI (fun x4 h4 => GO.pat [(0, .ref 3), (1, .long x1), (4, .int x4)] ⟨h0, h1, h4, trivial⟩ (g_X1_ask_L49 N (f_X1_ask_J82 N) (g_X1_ask_J82 N) N x1 x4 σ))))), (fun _ z => absurd z List.not_mem_nil)⟩⟩) 59 ?_ ?_ <;> rfl⟩
  cases hn
def ft_X5 : List (Nat × FTE) := [(11, 4, 0, 3), (15, 4, 1, 0), (19, 4, 3, 1), (23, 4, 2, 0)]
def lt_X5 : List (Nat × Int64) := [(32, 99)]
theorem fc_X5 : ft_X5.all (fun e => fldchk RX5 e && shchk e) = true := by decide +kernel
theorem lc_X5 : lt_X5.all (ltchk RX5) = true := by decide +kernel
def T_X5_holdBlocks : List (Nat × Ent) := [(0, .aload_n 0, 1, []), (1, .iconst 2, 2, []), (2, .putfield 15, 5, []), (5, .aload_n 0, 6, []), (6, .lload_n 1, 7, []), (7, .putfield 19, 10, []), (10, .return_, 11, [])]
set_option maxRecDepth 20000 in
theorem tc_X5_holdBlocks : T_X5_holdBlocks.all (chk cX5_holdBlocks) = true := by decide +kernel
def f_X5_holdBlocks (N : Nat) (K0 : Nat) (a1 : Int64) (σ : Wd) : Option Wd :=
  let σ1 : Wd := sF σ K0 1 2
  let σ2 : Wd := sG σ1 K0 3 a1
  some σ2
def a_X5_holdBlocks (N : Nat) : List Value → Wd → Option Wd := fun as σ => kSE 9 as (fun r0 => kSJ r0 (fun b1 r1 => kS0 r1 (f_X5_holdBlocks N 9 b1 σ))) (kSE 10 as (fun r0 => kSJ r0 (fun b1 r1 => kS0 r1 (f_X5_holdBlocks N 10 b1 σ))) (kSE 11 as (fun r0 => kSJ r0 (fun b1 r1 => kS0 r1 (f_X5_holdBlocks N 11 b1 σ))) (kSE 12 as (fun r0 => kSJ r0 (fun b1 r1 => kS0 r1 (f_X5_holdBlocks N 12 b1 σ))) (none))))
def ct_X5_holdBlocks (N : Nat) : List (Nat × Cal) := []
set_option maxRecDepth 20000 in
theorem md_X5_holdBlocks (N : Nat) : MDOK T_X5_holdBlocks ft_X5 lt_X5 (ct_X5_holdBlocks N) cX5_holdBlocks RX5 1 := ⟨tc_X5_holdBlocks, fc_X5, lc_X5, (fun _ z => absurd z List.not_mem_nil)⟩
set_option maxRecDepth 20000 in
theorem C_X5_holdBlocks (N : Nat) : CTV 1 yX5_holdBlocks cX5_holdBlocks 3 none (a_X5_holdBlocks N) := by
  refine CTV.of (own := RX5) (by decide) rfl (fun as σ r h => ?_)
  unfold a_X5_holdBlocks at h
  rcases kSE_s h with ⟨r0, rfl, h0⟩ | hn
  ·
    obtain ⟨b1, r1, rfl, h1⟩ := kSJ_s h0
    obtain ⟨rfl, h9⟩ := kS0_s h1
    exact ⟨Nat.le_of_ble_eq_true rfl, by refine GO.to (md_X5_holdBlocks N) (kl := []) ((fun _ z => absurd z List.not_mem_nil)) 12 ?_ ?_ <;> rfl⟩
  rcases kSE_s hn with ⟨r0, rfl, h0⟩ | hnn
  ·
    obtain ⟨b1, r1, rfl, h1⟩ := kSJ_s h0
    obtain ⟨rfl, h9⟩ := kS0_s h1
    exact ⟨Nat.le_of_ble_eq_true rfl, by refine GO.to (md_X5_holdBlocks N) (kl := []) ((fun _ z => absurd z List.not_mem_nil)) 12 ?_ ?_ <;> rfl⟩
  rcases kSE_s hnn with ⟨r0, rfl, h0⟩ | hnnn
  ·
    obtain ⟨b1, r1, rfl, h1⟩ := kSJ_s h0
    obtain ⟨rfl, h9⟩ := kS0_s h1
    exact ⟨Nat.le_of_ble_eq_true rfl, by refine GO.to (md_X5_holdBlocks N) (kl := []) ((fun _ z => absurd z List.not_mem_nil)) 12 ?_ ?_ <;> rfl⟩
  rcases kSE_s hnnn with ⟨r0, rfl, h0⟩ | hnnnn
  ·
    obtain ⟨b1, r1, rfl, h1⟩ := kSJ_s h0
    obtain ⟨rfl, h9⟩ := kS0_s h1
    exact ⟨Nat.le_of_ble_eq_true rfl, by refine GO.to (md_X5_holdBlocks N) (kl := []) ((fun _ z => absurd z List.not_mem_nil)) 12 ?_ ?_ <;> rfl⟩
  cases hnnnn
def T_X5_holdRow : List (Nat × Ent) := [(0, .aload_n 0, 1, []), (1, .iload_n 1, 2, []), (2, .putfield 15, 5, []), (5, .aload_n 0, 6, []), (6, .iload_n 2, 7, []), (7, .putfield 23, 10, []), (10, .iconst 0, 11, []), (11, .istore_n 3, 12, []), (12, .iload_n 3, 13, []), (13, .iload_n 2, 14, []), (14, .if_icmp .ge 16, 17, [30]), (17, .aload_n 0, 18, []), (18, .getfield 11, 21, []), (21, .iload_n 3, 22, []), (22, .lconst 0, 23, []), (23, .lastore, 24, []), (24, .iinc 3 1, 27, []), (27, .goto (-15), 30, [12]), (30, .return_, 31, [])]
set_option maxRecDepth 20000 in
theorem tc_X5_holdRow : T_X5_holdRow.all (chk cX5_holdRow) = true := by decide +kernel
def f_X5_holdRow_L12 (N : Nat) (K0 : Nat) (KO30 : Wd → Option Wd) : Nat → Int32 → Int32 → Wd → Option Wd
  | 0, _, _, _ => none
  | n + 1, x2, x3, σ => if x2 ≤ x3 then (KO30 σ) else ((xstL σ (K0 + 28) 20 x3 0).bind fun σ3 => f_X5_holdRow_L12 N K0 KO30 n x2 (x3 + 1) σ3)
def f_X5_holdRow_J30 (N : Nat) (K0 : Nat) (σ : Wd) : Option Wd :=
  some σ
def f_X5_holdRow (N : Nat) (K0 : Nat) (a1 : Int32) (a2 : Int32) (σ : Wd) : Option Wd :=
  let σ1 : Wd := sF σ K0 1 a1
  let σ2 : Wd := sF σ1 K0 2 a2
  f_X5_holdRow_L12 N K0 (f_X5_holdRow_J30 N K0) N a2 0 σ2
def a_X5_holdRow (N : Nat) : List Value → Wd → Option Wd := fun as σ => kSE 9 as (fun r0 => kSI r0 (fun b1 r1 => kSI r1 (fun b2 r2 => kS0 r2 (f_X5_holdRow N 9 b1 b2 σ)))) (kSE 10 as (fun r0 => kSI r0 (fun b1 r1 => kSI r1 (fun b2 r2 => kS0 r2 (f_X5_holdRow N 10 b1 b2 σ)))) (kSE 11 as (fun r0 => kSI r0 (fun b1 r1 => kSI r1 (fun b2 r2 => kS0 r2 (f_X5_holdRow N 11 b1 b2 σ)))) (kSE 12 as (fun r0 => kSI r0 (fun b1 r1 => kSI r1 (fun b2 r2 => kS0 r2 (f_X5_holdRow N 12 b1 b2 σ)))) (none))))
def ct_X5_holdRow (N : Nat) : List (Nat × Cal) := []
set_option maxRecDepth 20000 in
theorem md_X5_holdRow (N : Nat) : MDOK T_X5_holdRow ft_X5 lt_X5 (ct_X5_holdRow N) cX5_holdRow RX5 1 := ⟨tc_X5_holdRow, fc_X5, lc_X5, (fun _ z => absurd z List.not_mem_nil)⟩
set_option maxRecDepth 20000 in
theorem g_X5_holdRow_L12 (N : Nat) (K0 : Nat) (hK0 : K0 = 9 ∨ K0 = 10 ∨ K0 = 11 ∨ K0 = 12) (KO30 : Wd → Option Wd) (hKO30 : ∀ (σ : Wd), GO cX5_holdRow RX5 4 1 sc0 nI0 nJ0 some (KO30 σ) 30 (mkp 0 4 []) [] σ) : ∀ (n : Nat), ∀ (x2 : Int32) (x3 : Int32) (σ : Wd), GO cX5_holdRow RX5 4 1 sc0 nI0 nJ0 some (f_X5_holdRow_L12 N K0 KO30 n x2 x3 σ) 12 (mkp 0 4 [(0, .ref K0), (2, .int x2), (3, .int x3)]) [] σ
  | 0, x2, x3, σ => GO.none
  | n + 1, x2, x3, σ => by
    rcases hK0 with rfl | rfl | rfl | rfl
    · exact (by refine GO.to (md_X5_holdRow N) (kl := [(30, fun vs st σ => kS0 st (KO30 σ)), (12, fun vs st σ => kS0 st (kA 0 9 vs (kI 2 vs (fun x2 => kI 3 vs (fun x3 => f_X5_holdRow_L12 N 9 KO30 n x2 x3 σ)))))]) (List.forall_mem_cons.mpr ⟨fun vs st σ => go_kS0 (GO.pat [] trivial (hKO30 σ)), List.forall_mem_cons.mpr ⟨fun vs st σ => go_kS0 (go_kA (fun h0 => go_kI (fun x2 h2 => go_kI (fun x3 h3 => GO.pat [(0, .ref 9), (2, .int x2), (3, .int x3)] ⟨h0, h2, h3, trivial⟩ (g_X5_holdRow_L12 N 9 (Or.inl rfl) KO30 hKO30 n x2 x3 σ))))), (fun _ z => absurd z List.not_mem_nil)⟩⟩) 24 ?_ ?_ <;> rfl)
    · exact (by refine GO.to (md_X5_holdRow N) (kl := [(30, fun vs st σ => kS0 st (KO30 σ)), (12, fun vs st σ => kS0 st (kA 0 10 vs (kI 2 vs (fun x2 => kI 3 vs (fun x3 => f_X5_holdRow_L12 N 10 KO30 n x2 x3 σ)))))]) (List.forall_mem_cons.mpr ⟨fun vs st σ => go_kS0 (GO.pat [] trivial (hKO30 σ)), List.forall_mem_cons.mpr ⟨fun vs st σ => go_kS0 (go_kA (fun h0 => go_kI (fun x2 h2 => go_kI (fun x3 h3 => GO.pat [(0, .ref 10), (2, .int x2), (3, .int x3)] ⟨h0, h2, h3, trivial⟩ (g_X5_holdRow_L12 N 10 (Or.inr (Or.inl rfl)) KO30 hKO30 n x2 x3 σ))))), (fun _ z => absurd z List.not_mem_nil)⟩⟩) 24 ?_ ?_ <;> rfl)
    · exact (by refine GO.to (md_X5_holdRow N) (kl := [(30, fun vs st σ => kS0 st (KO30 σ)), (12, fun vs st σ => kS0 st (kA 0 11 vs (kI 2 vs (fun x2 => kI 3 vs (fun x3 => f_X5_holdRow_L12 N 11 KO30 n x2 x3 σ)))))]) (List.forall_mem_cons.mpr ⟨fun vs st σ => go_kS0 (GO.pat [] trivial (hKO30 σ)), List.forall_mem_cons.mpr ⟨fun vs st σ => go_kS0 (go_kA (fun h0 => go_kI (fun x2 h2 => go_kI (fun x3 h3 => GO.pat [(0, .ref 11), (2, .int x2), (3, .int x3)] ⟨h0, h2, h3, trivial⟩ (g_X5_holdRow_L12 N 11 (Or.inr (Or.inr (Or.inl rfl))) KO30 hKO30 n x2 x3 σ))))), (fun _ z => absurd z List.not_mem_nil)⟩⟩) 24 ?_ ?_ <;> rfl)
    · exact (by refine GO.to (md_X5_holdRow N) (kl := [(30, fun vs st σ => kS0 st (KO30 σ)), (12, fun vs st σ => kS0 st (kA 0 12 vs (kI 2 vs (fun x2 => kI 3 vs (fun x3 => f_X5_holdRow_L12 N 12 KO30 n x2 x3 σ)))))]) (List.forall_mem_cons.mpr ⟨fun vs st σ => go_kS0 (GO.pat [] trivial (hKO30 σ)), List.forall_mem_cons.mpr ⟨fun vs st σ => go_kS0 (go_kA (fun h0 => go_kI (fun x2 h2 => go_kI (fun x3 h3 => GO.pat [(0, .ref 12), (2, .int x2), (3, .int x3)] ⟨h0, h2, h3, trivial⟩ (g_X5_holdRow_L12 N 12 (Or.inr (Or.inr (Or.inr rfl))) KO30 hKO30 n x2 x3 σ))))), (fun _ z => absurd z List.not_mem_nil)⟩⟩) 24 ?_ ?_ <;> rfl)
theorem g_X5_holdRow_J30 (N : Nat) (K0 : Nat) (hK0 : K0 = 9 ∨ K0 = 10 ∨ K0 = 11 ∨ K0 = 12) (σ : Wd) : GO cX5_holdRow RX5 4 1 sc0 nI0 nJ0 some (f_X5_holdRow_J30 N K0 σ) 30 (mkp 0 4 []) [] σ := by
  rcases hK0 with rfl | rfl | rfl | rfl
  · exact (by refine GO.to (md_X5_holdRow N) (kl := []) ((fun _ z => absurd z List.not_mem_nil)) 24 ?_ ?_ <;> rfl)
  · exact (by refine GO.to (md_X5_holdRow N) (kl := []) ((fun _ z => absurd z List.not_mem_nil)) 24 ?_ ?_ <;> rfl)
  · exact (by refine GO.to (md_X5_holdRow N) (kl := []) ((fun _ z => absurd z List.not_mem_nil)) 24 ?_ ?_ <;> rfl)
  · exact (by refine GO.to (md_X5_holdRow N) (kl := []) ((fun _ z => absurd z List.not_mem_nil)) 24 ?_ ?_ <;> rfl)
set_option maxRecDepth 20000 in
theorem C_X5_holdRow (N : Nat) : CTV 1 yX5_holdRow cX5_holdRow 4 none (a_X5_holdRow N) := by
  refine CTV.of (own := RX5) (by decide) rfl (fun as σ r h => ?_)
  unfold a_X5_holdRow at h
  rcases kSE_s h with ⟨r0, rfl, h0⟩ | hn
  ·
    obtain ⟨b1, r1, rfl, h1⟩ := kSI_s h0
    obtain ⟨b2, r2, rfl, h2⟩ := kSI_s h1
    obtain ⟨rfl, h9⟩ := kS0_s h2
    exact ⟨Nat.le_of_ble_eq_true rfl, by refine GO.to (md_X5_holdRow N) (kl := [(12, fun vs st σ => kS0 st (kA 0 9 vs (kI 2 vs (fun x2 => kI 3 vs (fun x3 => f_X5_holdRow_L12 N 9 (f_X5_holdRow_J30 N 9) N x2 x3 σ)))))]) (List.forall_mem_cons.mpr ⟨fun vs st σ => go_kS0 (go_kA (fun h0 => go_kI (fun x2 h2 => go_kI (fun x3 h3 => GO.pat [(0, .ref 9), (2, .int x2), (3, .int x3)] ⟨h0, h2, h3, trivial⟩ (g_X5_holdRow_L12 N 9 (Or.inl rfl) (f_X5_holdRow_J30 N 9) (g_X5_holdRow_J30 N 9 (Or.inl rfl)) N x2 x3 σ))))), (fun _ z => absurd z List.not_mem_nil)⟩) 24 ?_ ?_ <;> rfl⟩
  rcases kSE_s hn with ⟨r0, rfl, h0⟩ | hnn
  ·
    obtain ⟨b1, r1, rfl, h1⟩ := kSI_s h0
    obtain ⟨b2, r2, rfl, h2⟩ := kSI_s h1
    obtain ⟨rfl, h9⟩ := kS0_s h2
    exact ⟨Nat.le_of_ble_eq_true rfl, by refine GO.to (md_X5_holdRow N) (kl := [(12, fun vs st σ => kS0 st (kA 0 10 vs (kI 2 vs (fun x2 => kI 3 vs (fun x3 => f_X5_holdRow_L12 N 10 (f_X5_holdRow_J30 N 10) N x2 x3 σ)))))]) (List.forall_mem_cons.mpr ⟨fun vs st σ => go_kS0 (go_kA (fun h0 => go_kI (fun x2 h2 => go_kI (fun x3 h3 => GO.pat [(0, .ref 10), (2, .int x2), (3, .int x3)] ⟨h0, h2, h3, trivial⟩ (g_X5_holdRow_L12 N 10 (Or.inr (Or.inl rfl)) (f_X5_holdRow_J30 N 10) (g_X5_holdRow_J30 N 10 (Or.inr (Or.inl rfl))) N x2 x3 σ))))), (fun _ z => absurd z List.not_mem_nil)⟩) 24 ?_ ?_ <;> rfl⟩
  rcases kSE_s hnn with ⟨r0, rfl, h0⟩ | hnnn
  ·
    obtain ⟨b1, r1, rfl, h1⟩ := kSI_s h0
    obtain ⟨b2, r2, rfl, h2⟩ := kSI_s h1
    obtain ⟨rfl, h9⟩ := kS0_s h2
    exact ⟨Nat.le_of_ble_eq_true rfl, by refine GO.to (md_X5_holdRow N) (kl := [(12, fun vs st σ => kS0 st (kA 0 11 vs (kI 2 vs (fun x2 => kI 3 vs (fun x3 => f_X5_holdRow_L12 N 11 (f_X5_holdRow_J30 N 11) N x2 x3 σ)))))]) (List.forall_mem_cons.mpr ⟨fun vs st σ => go_kS0 (go_kA (fun h0 => go_kI (fun x2 h2 => go_kI (fun x3 h3 => GO.pat [(0, .ref 11), (2, .int x2), (3, .int x3)] ⟨h0, h2, h3, trivial⟩ (g_X5_holdRow_L12 N 11 (Or.inr (Or.inr (Or.inl rfl))) (f_X5_holdRow_J30 N 11) (g_X5_holdRow_J30 N 11 (Or.inr (Or.inr (Or.inl rfl)))) N x2 x3 σ))))), (fun _ z => absurd z List.not_mem_nil)⟩) 24 ?_ ?_ <;> rfl⟩
  rcases kSE_s hnnn with ⟨r0, rfl, h0⟩ | hnnnn
  ·
    obtain ⟨b1, r1, rfl, h1⟩ := kSI_s h0
    obtain ⟨b2, r2, rfl, h2⟩ := kSI_s h1
    obtain ⟨rfl, h9⟩ := kS0_s h2
    exact ⟨Nat.le_of_ble_eq_true rfl, by refine GO.to (md_X5_holdRow N) (kl := [(12, fun vs st σ => kS0 st (kA 0 12 vs (kI 2 vs (fun x2 => kI 3 vs (fun x3 => f_X5_holdRow_L12 N 12 (f_X5_holdRow_J30 N 12) N x2 x3 σ)))))]) (List.forall_mem_cons.mpr ⟨fun vs st σ => go_kS0 (go_kA (fun h0 => go_kI (fun x2 h2 => go_kI (fun x3 h3 => GO.pat [(0, .ref 12), (2, .int x2), (3, .int x3)] ⟨h0, h2, h3, trivial⟩ (g_X5_holdRow_L12 N 12 (Or.inr (Or.inr (Or.inr rfl))) (f_X5_holdRow_J30 N 12) (g_X5_holdRow_J30 N 12 (Or.inr (Or.inr (Or.inr rfl)))) N x2 x3 σ))))), (fun _ z => absurd z List.not_mem_nil)⟩) 24 ?_ ?_ <;> rfl⟩
  cases hnnnn
def T_X5_isRow : List (Nat × Ent) := [(0, .aload_n 0, 1, []), (1, .getfield 15, 4, []), (4, .ifCond .eq 11, 7, [15]), (7, .aload_n 0, 8, []), (8, .getfield 15, 11, []), (11, .iconst 1, 12, []), (12, .if_icmp .ne 7, 15, [19]), (15, .iconst 1, 16, []), (16, .goto 4, 19, [20]), (19, .iconst 0, 20, []), (20, .ireturn, 21, [])]
set_option maxRecDepth 20000 in
theorem tc_X5_isRow : T_X5_isRow.all (chk cX5_isRow) = true := by decide +kernel
def f_X5_isRow (N : Nat) (K0 : Nat) (σ : Wd) : Option (Int32 × Wd) :=
  if (σ.1 K0 1) = 0 then (some (1, σ)) else (if (σ.1 K0 1) = 1 then (some (1, σ)) else (some (0, σ)))
def a_X5_isRow (N : Nat) : List Value → Wd → Option (Int32 × Wd) := fun as σ => kSE 9 as (fun r0 => kS0 r0 (f_X5_isRow N 9 σ)) (kSE 10 as (fun r0 => kS0 r0 (f_X5_isRow N 10 σ)) (kSE 11 as (fun r0 => kS0 r0 (f_X5_isRow N 11 σ)) (kSE 12 as (fun r0 => kS0 r0 (f_X5_isRow N 12 σ)) (none))))
def ct_X5_isRow (N : Nat) : List (Nat × Cal) := []
set_option maxRecDepth 20000 in
theorem md_X5_isRow (N : Nat) : MDOK T_X5_isRow ft_X5 lt_X5 (ct_X5_isRow N) cX5_isRow RX5 1 := ⟨tc_X5_isRow, fc_X5, lc_X5, (fun _ z => absurd z List.not_mem_nil)⟩
set_option maxRecDepth 20000 in
theorem C_X5_isRow (N : Nat) : CTI 1 yX5_isRow cX5_isRow 1 (some .boolean) (a_X5_isRow N) := by
  refine CTZ.of (own := RX5) (by decide) rfl (fun as σ r h => ?_)
  unfold a_X5_isRow at h
  rcases kSE_s h with ⟨r0, rfl, h0⟩ | hn
  ·
    obtain ⟨rfl, h9⟩ := kS0_s h0
    exact ⟨Nat.le_of_ble_eq_true rfl, by refine GO.to (md_X5_isRow N) (kl := []) ((fun _ z => absurd z List.not_mem_nil)) 16 ?_ ?_ <;> rfl⟩
  rcases kSE_s hn with ⟨r0, rfl, h0⟩ | hnn
  ·
    obtain ⟨rfl, h9⟩ := kS0_s h0
    exact ⟨Nat.le_of_ble_eq_true rfl, by refine GO.to (md_X5_isRow N) (kl := []) ((fun _ z => absurd z List.not_mem_nil)) 16 ?_ ?_ <;> rfl⟩
  rcases kSE_s hnn with ⟨r0, rfl, h0⟩ | hnnn
  ·
    obtain ⟨rfl, h9⟩ := kS0_s h0
    exact ⟨Nat.le_of_ble_eq_true rfl, by refine GO.to (md_X5_isRow N) (kl := []) ((fun _ z => absurd z List.not_mem_nil)) 16 ?_ ?_ <;> rfl⟩
  rcases kSE_s hnnn with ⟨r0, rfl, h0⟩ | hnnnn
  ·
    obtain ⟨rfl, h9⟩ := kS0_s h0
    exact ⟨Nat.le_of_ble_eq_true rfl, by refine GO.to (md_X5_isRow N) (kl := []) ((fun _ z => absurd z List.not_mem_nil)) 16 ?_ ?_ <;> rfl⟩
  cases hnnnn
def T_X5_leadingArrivals : List (Nat × Ent) := [(0, .aload_n 0, 1, []), (1, .getfield 23, 4, []), (4, .bipush 12, 6, []), (6, .invokestatic 26, 9, []), (9, .istore_n 1, 10, []), (10, .iconst 0, 11, []), (11, .istore_n 2, 12, []), (12, .iload_n 2, 13, []), (13, .iload_n 1, 14, []), (14, .if_icmp .ge 33, 17, [47]), (17, .aload_n 0, 18, []), (18, .getfield 11, 21, []), (21, .iload_n 2, 22, []), (22, .laload, 23, []), (23, .lconst 0, 24, []), (24, .lcmp, 25, []), (25, .ifCond .lt 22, 28, [47]), (28, .aload_n 0, 29, []), (29, .getfield 11, 32, []), (32, .iload_n 2, 33, []), (33, .laload, 34, []), (34, .ldc2_w 32, 37, []), (37, .lcmp, 38, []), (38, .ifCond .gt 9, 41, [47]), (41, .iinc 2 1, 44, []), (44, .goto (-32), 47, [12]), (47, .iload_n 2, 48, []), (48, .ireturn, 49, [])]
set_option maxRecDepth 20000 in
theorem tc_X5_leadingArrivals : T_X5_leadingArrivals.all (chk cX5_leadingArrivals) = true := by decide +kernel
def f_X5_leadingArrivals_L12 (N : Nat) (K0 : Nat) (KO47 : Int32 → Wd → Option (Int32 × Wd)) : Nat → Int32 → Int32 → Wd → Option (Int32 × Wd)
  | 0, _, _, _ => none
  | n + 1, x1, x2, σ => if x1 ≤ x2 then (KO47 x2 σ) else ((xldL σ (K0 + 28) 20 x2).bind fun v2 => if (lg_cmp v2 0) < 0 then (KO47 x2 σ) else ((xldL σ (K0 + 28) 20 x2).bind fun v3 => if 0 < (lg_cmp v3 99) then (KO47 x2 σ) else (f_X5_leadingArrivals_L12 N K0 KO47 n x1 (x2 + 1) σ)))
def f_X5_leadingArrivals_J47 (N : Nat) (K0 : Nat) (x2 : Int32) (σ : Wd) : Option (Int32 × Wd) :=
  some (x2, σ)
def f_X5_leadingArrivals (N : Nat) (K0 : Nat) (σ : Wd) : Option (Int32 × Wd) :=
  (f_J9_min_7cf53 N (σ.1 K0 2) 12 σ).bind fun p1 => f_X5_leadingArrivals_L12 N K0 (f_X5_leadingArrivals_J47 N K0) N p1.1 0 p1.2
def a_X5_leadingArrivals (N : Nat) : List Value → Wd → Option (Int32 × Wd) := fun as σ => kSE 9 as (fun r0 => kS0 r0 (f_X5_leadingArrivals N 9 σ)) (kSE 10 as (fun r0 => kS0 r0 (f_X5_leadingArrivals N 10 σ)) (kSE 11 as (fun r0 => kS0 r0 (f_X5_leadingArrivals N 11 σ)) (kSE 12 as (fun r0 => kS0 r0 (f_X5_leadingArrivals N 12 σ)) (none))))
set_option maxRecDepth 20000 in
theorem k_X5_26 : mmchk RX5 26 Lib.Math.min.name Lib.Math.min.code = true := by decide +kernel
def ct_X5_leadingArrivals (N : Nat) : List (Nat × Cal) := [(26, 2, 0, .inl amin)]
set_option maxRecDepth 20000 in
theorem md_X5_leadingArrivals (N : Nat) : MDOK T_X5_leadingArrivals ft_X5 lt_X5 (ct_X5_leadingArrivals N) cX5_leadingArrivals RX5 2 := ⟨tc_X5_leadingArrivals, fc_X5, lc_X5, List.forall_mem_cons.mpr ⟨Or.inr (Or.inr ⟨rfl, k_X5_26, Nat.le_of_ble_eq_true rfl⟩), (fun _ z => absurd z List.not_mem_nil)⟩⟩
set_option maxRecDepth 20000 in
theorem g_X5_leadingArrivals_L12 (N : Nat) (K0 : Nat) (hK0 : K0 = 9 ∨ K0 = 10 ∨ K0 = 11 ∨ K0 = 12) (KO47 : Int32 → Wd → Option (Int32 × Wd)) (hKO47 : ∀ (x2 : Int32) (σ : Wd), GO cX5_leadingArrivals RX5 3 2 sc0 rI nJ0 nV0 (KO47 x2 σ) 47 (mkp 0 3 [(2, .int x2)]) [] σ) : ∀ (n : Nat), ∀ (x1 : Int32) (x2 : Int32) (σ : Wd), GO cX5_leadingArrivals RX5 3 2 sc0 rI nJ0 nV0 (f_X5_leadingArrivals_L12 N K0 KO47 n x1 x2 σ) 12 (mkp 0 3 [(0, .ref K0), (1, .int x1), (2, .int x2)]) [] σ
  | 0, x1, x2, σ => GO.none
  | n + 1, x1, x2, σ => by
    rcases hK0 with rfl | rfl | rfl | rfl
    · exact (by refine GO.to (md_X5_leadingArrivals N) (kl := [(47, fun vs st σ => kS0 st (kI 2 vs (fun x2 => KO47 x2 σ))), (12, fun vs st σ => kS0 st (kA 0 9 vs (kI 1 vs (fun x1 => kI 2 vs (fun x2 => f_X5_leadingArrivals_L12 N 9 KO47 n x1 x2 σ)))))]) (List.forall_mem_cons.mpr ⟨fun vs st σ => go_kS0 (go_kI (fun x2 h2 => GO.pat [(2, .int x2)] ⟨h2, trivial⟩ (hKO47 x2 σ))), List.forall_mem_cons.mpr ⟨fun vs st σ => go_kS0 (go_kA (fun h0 => go_kI (fun x1 h1 => go_kI (fun x2 h2 => GO.pat [(0, .ref 9), (1, .int x1), (2, .int x2)] ⟨h0, h1, h2, trivial⟩ (g_X5_leadingArrivals_L12 N 9 (Or.inl rfl) KO47 hKO47 n x1 x2 σ))))), (fun _ z => absurd z List.not_mem_nil)⟩⟩) 33 ?_ ?_ <;> rfl)
    · exact (by refine GO.to (md_X5_leadingArrivals N) (kl := [(47, fun vs st σ => kS0 st (kI 2 vs (fun x2 => KO47 x2 σ))), (12, fun vs st σ => kS0 st (kA 0 10 vs (kI 1 vs (fun x1 => kI 2 vs (fun x2 => f_X5_leadingArrivals_L12 N 10 KO47 n x1 x2 σ)))))]) (List.forall_mem_cons.mpr ⟨fun vs st σ => go_kS0 (go_kI (fun x2 h2 => GO.pat [(2, .int x2)] ⟨h2, trivial⟩ (hKO47 x2 σ))), List.forall_mem_cons.mpr ⟨fun vs st σ => go_kS0 (go_kA (fun h0 => go_kI (fun x1 h1 => go_kI (fun x2 h2 => GO.pat [(0, .ref 10), (1, .int x1), (2, .int x2)] ⟨h0, h1, h2, trivial⟩ (g_X5_leadingArrivals_L12 N 10 (Or.inr (Or.inl rfl)) KO47 hKO47 n x1 x2 σ))))), (fun _ z => absurd z List.not_mem_nil)⟩⟩) 33 ?_ ?_ <;> rfl)
    · exact (by refine GO.to (md_X5_leadingArrivals N) (kl := [(47, fun vs st σ => kS0 st (kI 2 vs (fun x2 => KO47 x2 σ))), (12, fun vs st σ => kS0 st (kA 0 11 vs (kI 1 vs (fun x1 => kI 2 vs (fun x2 => f_X5_leadingArrivals_L12 N 11 KO47 n x1 x2 σ)))))]) (List.forall_mem_cons.mpr ⟨fun vs st σ => go_kS0 (go_kI (fun x2 h2 => GO.pat [(2, .int x2)] ⟨h2, trivial⟩ (hKO47 x2 σ))), List.forall_mem_cons.mpr ⟨fun vs st σ => go_kS0 (go_kA (fun h0 => go_kI (fun x1 h1 => go_kI (fun x2 h2 => GO.pat [(0, .ref 11), (1, .int x1), (2, .int x2)] ⟨h0, h1, h2, trivial⟩ (g_X5_leadingArrivals_L12 N 11 (Or.inr (Or.inr (Or.inl rfl))) KO47 hKO47 n x1 x2 σ))))), (fun _ z => absurd z List.not_mem_nil)⟩⟩) 33 ?_ ?_ <;> rfl)
    · exact (by refine GO.to (md_X5_leadingArrivals N) (kl := [(47, fun vs st σ => kS0 st (kI 2 vs (fun x2 => KO47 x2 σ))), (12, fun vs st σ => kS0 st (kA 0 12 vs (kI 1 vs (fun x1 => kI 2 vs (fun x2 => f_X5_leadingArrivals_L12 N 12 KO47 n x1 x2 σ)))))]) (List.forall_mem_cons.mpr ⟨fun vs st σ => go_kS0 (go_kI (fun x2 h2 => GO.pat [(2, .int x2)] ⟨h2, trivial⟩ (hKO47 x2 σ))), List.forall_mem_cons.mpr ⟨fun vs st σ => go_kS0 (go_kA (fun h0 => go_kI (fun x1 h1 => go_kI (fun x2 h2 => GO.pat [(0, .ref 12), (1, .int x1), (2, .int x2)] ⟨h0, h1, h2, trivial⟩ (g_X5_leadingArrivals_L12 N 12 (Or.inr (Or.inr (Or.inr rfl))) KO47 hKO47 n x1 x2 σ))))), (fun _ z => absurd z List.not_mem_nil)⟩⟩) 33 ?_ ?_ <;> rfl)
theorem g_X5_leadingArrivals_J47 (N : Nat) (K0 : Nat) (hK0 : K0 = 9 ∨ K0 = 10 ∨ K0 = 11 ∨ K0 = 12) (x2 : Int32) (σ : Wd) : GO cX5_leadingArrivals RX5 3 2 sc0 rI nJ0 nV0 (f_X5_leadingArrivals_J47 N K0 x2 σ) 47 (mkp 0 3 [(2, .int x2)]) [] σ := by
  rcases hK0 with rfl | rfl | rfl | rfl
  · exact (by refine GO.to (md_X5_leadingArrivals N) (kl := []) ((fun _ z => absurd z List.not_mem_nil)) 33 ?_ ?_ <;> rfl)
  · exact (by refine GO.to (md_X5_leadingArrivals N) (kl := []) ((fun _ z => absurd z List.not_mem_nil)) 33 ?_ ?_ <;> rfl)
  · exact (by refine GO.to (md_X5_leadingArrivals N) (kl := []) ((fun _ z => absurd z List.not_mem_nil)) 33 ?_ ?_ <;> rfl)
  · exact (by refine GO.to (md_X5_leadingArrivals N) (kl := []) ((fun _ z => absurd z List.not_mem_nil)) 33 ?_ ?_ <;> rfl)
set_option maxRecDepth 20000 in
theorem C_X5_leadingArrivals (N : Nat) : CTI 2 yX5_leadingArrivals cX5_leadingArrivals 3 (some .int) (a_X5_leadingArrivals N) := by
  refine CTI.of (own := RX5) (by decide) rfl (fun as σ r h => ?_)
  unfold a_X5_leadingArrivals at h
  rcases kSE_s h with ⟨r0, rfl, h0⟩ | hn
  ·
    obtain ⟨rfl, h9⟩ := kS0_s h0
    exact ⟨Nat.le_of_ble_eq_true rfl, by refine GO.to (md_X5_leadingArrivals N) (kl := [(12, fun vs st σ => kS0 st (kA 0 9 vs (kI 1 vs (fun x1 => kI 2 vs (fun x2 => f_X5_leadingArrivals_L12 N 9 (f_X5_leadingArrivals_J47 N 9) N x1 x2 σ)))))]) (List.forall_mem_cons.mpr ⟨fun vs st σ => go_kS0 (go_kA (fun h0 => go_kI (fun x1 h1 => go_kI (fun x2 h2 => GO.pat [(0, .ref 9), (1, .int x1), (2, .int x2)] ⟨h0, h1, h2, trivial⟩ (g_X5_leadingArrivals_L12 N 9 (Or.inl rfl) (f_X5_leadingArrivals_J47 N 9) (g_X5_leadingArrivals_J47 N 9 (Or.inl rfl)) N x1 x2 σ))))), (fun _ z => absurd z List.not_mem_nil)⟩) 33 ?_ ?_ <;> rfl⟩
  rcases kSE_s hn with ⟨r0, rfl, h0⟩ | hnn
  ·
    obtain ⟨rfl, h9⟩ := kS0_s h0
    exact ⟨Nat.le_of_ble_eq_true rfl, by refine GO.to (md_X5_leadingArrivals N) (kl := [(12, fun vs st σ => kS0 st (kA 0 10 vs (kI 1 vs (fun x1 => kI 2 vs (fun x2 => f_X5_leadingArrivals_L12 N 10 (f_X5_leadingArrivals_J47 N 10) N x1 x2 σ)))))]) (List.forall_mem_cons.mpr ⟨fun vs st σ => go_kS0 (go_kA (fun h0 => go_kI (fun x1 h1 => go_kI (fun x2 h2 => GO.pat [(0, .ref 10), (1, .int x1), (2, .int x2)] ⟨h0, h1, h2, trivial⟩ (g_X5_leadingArrivals_L12 N 10 (Or.inr (Or.inl rfl)) (f_X5_leadingArrivals_J47 N 10) (g_X5_leadingArrivals_J47 N 10 (Or.inr (Or.inl rfl))) N x1 x2 σ))))), (fun _ z => absurd z List.not_mem_nil)⟩) 33 ?_ ?_ <;> rfl⟩
  rcases kSE_s hnn with ⟨r0, rfl, h0⟩ | hnnn
  ·
    obtain ⟨rfl, h9⟩ := kS0_s h0
    exact ⟨Nat.le_of_ble_eq_true rfl, by refine GO.to (md_X5_leadingArrivals N) (kl := [(12, fun vs st σ => kS0 st (kA 0 11 vs (kI 1 vs (fun x1 => kI 2 vs (fun x2 => f_X5_leadingArrivals_L12 N 11 (f_X5_leadingArrivals_J47 N 11) N x1 x2 σ)))))]) (List.forall_mem_cons.mpr ⟨fun vs st σ => go_kS0 (go_kA (fun h0 => go_kI (fun x1 h1 => go_kI (fun x2 h2 => GO.pat [(0, .ref 11), (1, .int x1), (2, .int x2)] ⟨h0, h1, h2, trivial⟩ (g_X5_leadingArrivals_L12 N 11 (Or.inr (Or.inr (Or.inl rfl))) (f_X5_leadingArrivals_J47 N 11) (g_X5_leadingArrivals_J47 N 11 (Or.inr (Or.inr (Or.inl rfl)))) N x1 x2 σ))))), (fun _ z => absurd z List.not_mem_nil)⟩) 33 ?_ ?_ <;> rfl⟩
  rcases kSE_s hnnn with ⟨r0, rfl, h0⟩ | hnnnn
  ·
    obtain ⟨rfl, h9⟩ := kS0_s h0
    exact ⟨Nat.le_of_ble_eq_true rfl, by refine GO.to (md_X5_leadingArrivals N) (kl := [(12, fun vs st σ => kS0 st (kA 0 12 vs (kI 1 vs (fun x1 => kI 2 vs (fun x2 => f_X5_leadingArrivals_L12 N 12 (f_X5_leadingArrivals_J47 N 12) N x1 x2 σ)))))]) (List.forall_mem_cons.mpr ⟨fun vs st σ => go_kS0 (go_kA (fun h0 => go_kI (fun x1 h1 => go_kI (fun x2 h2 => GO.pat [(0, .ref 12), (1, .int x1), (2, .int x2)] ⟨h0, h1, h2, trivial⟩ (g_X5_leadingArrivals_L12 N 12 (Or.inr (Or.inr (Or.inr rfl))) (f_X5_leadingArrivals_J47 N 12) (g_X5_leadingArrivals_J47 N 12 (Or.inr (Or.inr (Or.inr rfl)))) N x1 x2 σ))))), (fun _ z => absurd z List.not_mem_nil)⟩) 33 ?_ ?_ <;> rfl⟩
  cases hnnnn
end
section
def ft_X2 : List (Nat × FTE) := [(11, 1, 0, 3), (15, 1, 1, 3), (18, 1, 2, 3), (21, 1, 3, 3), (25, 1, 4, 3), (28, 1, 8, 3), (31, 1, 9, 3), (34, 1, 10, 3), (37, 1, 11, 3), (40, 1, 12, 3), (43, 1, 13, 3), (46, 1, 14, 3), (49, 1, 5, 0), (53, 1, 6, 0), (56, 1, 7, 0)]
def lt_X2 : List (Nat × Int64) := []
theorem fc_X2 : ft_X2.all (fun e => fldchk RX2 e && shchk e) = true := by decide +kernel
theorem lc_X2 : lt_X2.all (ltchk RX2) = true := by decide +kernel
def T_X2_clear : List (Nat × Ent) := [(0, .iconst 0, 1, []), (1, .istore_n 1, 2, []), (2, .iload_n 1, 3, []), (3, .bipush 27, 5, []), (5, .if_icmp .ge 16, 8, [21]), (8, .aload_n 0, 9, []), (9, .getfield 28, 12, []), (12, .iload_n 1, 13, []), (13, .iconst 0, 14, []), (14, .iastore, 15, []), (15, .iinc 1 1, 18, []), (18, .goto (-16), 21, [2]), (21, .aload_n 0, 22, []), (22, .bipush 27, 24, []), (24, .putfield 49, 27, []), (27, .aload_n 0, 28, []), (28, .iconst 0, 29, []), (29, .putfield 53, 32, []), (32, .aload_n 0, 33, []), (33, .bipush 26, 35, []), (35, .putfield 56, 38, []), (38, .return_, 39, [])]
set_option maxRecDepth 200000 in
theorem tc_X2_clear : T_X2_clear.all (chk cX2_clear) = true := by decide +kernel
def f_X2_clear_L2 (N : Nat) (KO21 : Wd → Option Wd) : Nat → Int32 → Wd → Option Wd
  | 0, _, _ => none
  | n + 1, x1, σ => if 27 ≤ x1 then (KO21 σ) else ((xst σ 23 512 x1 0).bind fun σ1 => f_X2_clear_L2 N KO21 n (x1 + 1) σ1)
def f_X2_clear_J21 (N : Nat) (σ : Wd) : Option Wd :=
  let σ2 : Wd := sF σ 4 5 27
  let σ3 : Wd := sF σ2 4 6 0
  let σ4 : Wd := sF σ3 4 7 26
  some σ4
def f_X2_clear (N : Nat) (σ : Wd) : Option Wd :=
  f_X2_clear_L2 N (f_X2_clear_J21 N) N 0 σ
def a_X2_clear (N : Nat) : List Value → Wd → Option Wd := fun as σ => kSE 4 as (fun r0 => kS0 r0 (f_X2_clear N σ)) (none)
def ct_X2_clear (N : Nat) : List (Nat × Cal) := []
set_option maxRecDepth 200000 in
theorem md_X2_clear (N : Nat) : MDOK T_X2_clear ft_X2 lt_X2 (ct_X2_clear N) cX2_clear RX2 1 := ⟨tc_X2_clear, fc_X2, lc_X2, (fun _ z => absurd z List.not_mem_nil)⟩
set_option maxRecDepth 200000 in
theorem g_X2_clear_L2 (N : Nat) (KO21 : Wd → Option Wd) (hKO21 : ∀ (σ : Wd), GO cX2_clear RX2 2 1 sc0 nI0 nJ0 some (KO21 σ) 21 (mkp 0 2 [(0, .ref 4)]) [] σ) : ∀ (n : Nat), ∀ (x1 : Int32) (σ : Wd), GO cX2_clear RX2 2 1 sc0 nI0 nJ0 some (f_X2_clear_L2 N KO21 n x1 σ) 2 (mkp 0 2 [(0, .ref 4), (1, .int x1)]) [] σ
  | 0, x1, σ => GO.none
  | n + 1, x1, σ => by
    exact (by refine GO.to (md_X2_clear N) (kl := [(21, fun vs st σ => kS0 st (kA 0 4 vs (KO21 σ))), (2, fun vs st σ => kS0 st (kA 0 4 vs (kI 1 vs (fun x1 => f_X2_clear_L2 N KO21 n x1 σ))))]) (List.forall_mem_cons.mpr ⟨fun vs st σ => go_kS0 (go_kA (fun h0 => GO.pat [(0, .ref 4)] ⟨h0, trivial⟩ (hKO21 σ))), List.forall_mem_cons.mpr ⟨fun vs st σ => go_kS0 (go_kA (fun h0 => go_kI (fun x1 h1 => GO.pat [(0, .ref 4), (1, .int x1)] ⟨h0, h1, trivial⟩ (g_X2_clear_L2 N KO21 hKO21 n x1 σ)))), (fun _ z => absurd z List.not_mem_nil)⟩⟩) 27 ?_ ?_ <;> rfl)
set_option maxRecDepth 200000 in
theorem g_X2_clear_J21 (N : Nat) (σ : Wd) : GO cX2_clear RX2 2 1 sc0 nI0 nJ0 some (f_X2_clear_J21 N σ) 21 (mkp 0 2 [(0, .ref 4)]) [] σ := by
  exact (by refine GO.to (md_X2_clear N) (kl := []) ((fun _ z => absurd z List.not_mem_nil)) 27 ?_ ?_ <;> rfl)
set_option maxRecDepth 200000 in
theorem C_X2_clear (N : Nat) : CTV 1 yX2_clear cX2_clear 2 none (a_X2_clear N) := by
  refine CTV.of (own := RX2) (by decide) rfl (fun as σ r h => ?_)
  unfold a_X2_clear at h
  rcases kSE_s h with ⟨r0, rfl, h0⟩ | hn
  ·
    obtain ⟨rfl, h9⟩ := kS0_s h0
    exact ⟨Nat.le_of_ble_eq_true rfl, by refine GO.to (md_X2_clear N) (kl := [(2, fun vs st σ => kS0 st (kA 0 4 vs (kI 1 vs (fun x1 => f_X2_clear_L2 N (f_X2_clear_J21 N) N x1 σ))))]) (List.forall_mem_cons.mpr ⟨fun vs st σ => go_kS0 (go_kA (fun h0 => go_kI (fun x1 h1 => GO.pat [(0, .ref 4), (1, .int x1)] ⟨h0, h1, trivial⟩ (g_X2_clear_L2 N (f_X2_clear_J21 N) (g_X2_clear_J21 N) N x1 σ)))), (fun _ z => absurd z List.not_mem_nil)⟩) 27 ?_ ?_ <;> rfl⟩
  cases hn
def T_X2_cutBack : List (Nat × Ent) := [(0, .aload_n 0, 1, []), (1, .getfield 49, 4, []), (4, .iconst 1, 5, []), (5, .isub, 6, []), (6, .istore 4, 8, []), (8, .iload 4, 10, []), (10, .iload_n 1, 11, []), (11, .if_icmp .lt 28, 14, [39]), (14, .aload_n 0, 15, []), (15, .getfield 28, 18, []), (18, .aload_n 0, 19, []), (19, .getfield 18, 22, []), (22, .iload 4, 24, []), (24, .iaload, 25, []), (25, .aload_n 0, 26, []), (26, .getfield 31, 29, []), (29, .iload 4, 31, []), (31, .iaload, 32, []), (32, .iastore, 33, []), (33, .iinc 4 (-1), 36, []), (36, .goto (-28), 39, [8]), (39, .aload_n 0, 40, []), (40, .iload_n 1, 41, []), (41, .putfield 49, 44, []), (44, .aload_n 0, 45, []), (45, .iload_n 2, 46, []), (46, .putfield 53, 49, []), (49, .aload_n 0, 50, []), (50, .iload_n 3, 51, []), (51, .putfield 56, 54, []), (54, .return_, 55, [])]
set_option maxRecDepth 200000 in
theorem tc_X2_cutBack : T_X2_cutBack.all (chk cX2_cutBack) = true := by decide +kernel
def f_X2_cutBack_L8 (N : Nat) (KO39 : Int32 → Int32 → Int32 → Wd → Option Wd) : Nat → Int32 → Int32 → Int32 → Int32 → Wd → Option Wd
  | 0, _, _, _, _, _ => none
  | n + 1, x1, x2, x3, x4, σ => if x4 < x1 then (KO39 x1 x2 x3 σ) else ((xld σ 20 512 x4).bind fun v1 => (xld σ 24 512 x4).bind fun v2 => (xst σ 23 512 v1 v2).bind fun σ3 => f_X2_cutBack_L8 N KO39 n x1 x2 x3 (x4 + (-1)) σ3)
def f_X2_cutBack_J39 (N : Nat) (x1 : Int32) (x2 : Int32) (x3 : Int32) (σ : Wd) : Option Wd :=
  let σ4 : Wd := sF σ 4 5 x1
  let σ5 : Wd := sF σ4 4 6 x2
  let σ6 : Wd := sF σ5 4 7 x3
  some σ6
def f_X2_cutBack (N : Nat) (a1 : Int32) (a2 : Int32) (a3 : Int32) (σ : Wd) : Option Wd :=
  f_X2_cutBack_L8 N (f_X2_cutBack_J39 N) N a1 a2 a3 ((σ.1 4 5) - 1) σ
def a_X2_cutBack (N : Nat) : List Value → Wd → Option Wd := fun as σ => kSE 4 as (fun r0 => kSI r0 (fun b1 r1 => kSI r1 (fun b2 r2 => kSI r2 (fun b3 r3 => kS0 r3 (f_X2_cutBack N b1 b2 b3 σ))))) (none)
def ct_X2_cutBack (N : Nat) : List (Nat × Cal) := []
set_option maxRecDepth 200000 in
theorem md_X2_cutBack (N : Nat) : MDOK T_X2_cutBack ft_X2 lt_X2 (ct_X2_cutBack N) cX2_cutBack RX2 1 := ⟨tc_X2_cutBack, fc_X2, lc_X2, (fun _ z => absurd z List.not_mem_nil)⟩
set_option maxRecDepth 200000 in
theorem g_X2_cutBack_L8 (N : Nat) (KO39 : Int32 → Int32 → Int32 → Wd → Option Wd) (hKO39 : ∀ (x1 : Int32) (x2 : Int32) (x3 : Int32) (σ : Wd), GO cX2_cutBack RX2 5 1 sc0 nI0 nJ0 some (KO39 x1 x2 x3 σ) 39 (mkp 0 5 [(0, .ref 4), (1, .int x1), (2, .int x2), (3, .int x3)]) [] σ) : ∀ (n : Nat), ∀ (x1 : Int32) (x2 : Int32) (x3 : Int32) (x4 : Int32) (σ : Wd), GO cX2_cutBack RX2 5 1 sc0 nI0 nJ0 some (f_X2_cutBack_L8 N KO39 n x1 x2 x3 x4 σ) 8 (mkp 0 5 [(0, .ref 4), (1, .int x1), (2, .int x2), (3, .int x3), (4, .int x4)]) [] σ
  | 0, x1, x2, x3, x4, σ => GO.none
  | n + 1, x1, x2, x3, x4, σ => by
    exact (by refine GO.to (md_X2_cutBack N) (kl := [(39, fun vs st σ => kS0 st (kA 0 4 vs (kI 1 vs (fun x1 => kI 2 vs (fun x2 => kI 3 vs (fun x3 => KO39 x1 x2 x3 σ)))))), (8, fun vs st σ => kS0 st (kA 0 4 vs (kI 1 vs (fun x1 => kI 2 vs (fun x2 => kI 3 vs (fun x3 => kI 4 vs (fun x4 => f_X2_cutBack_L8 N KO39 n x1 x2 x3 x4 σ)))))))]) (List.forall_mem_cons.mpr ⟨fun vs st σ => go_kS0 (go_kA (fun h0 => go_kI (fun x1 h1 => go_kI (fun x2 h2 => go_kI (fun x3 h3 => GO.pat [(0, .ref 4), (1, .int x1), (2, .int x2), (3, .int x3)] ⟨h0, h1, h2, h3, trivial⟩ (hKO39 x1 x2 x3 σ)))))), List.forall_mem_cons.mpr ⟨fun vs st σ => go_kS0 (go_kA (fun h0 => go_kI (fun x1 h1 => go_kI (fun x2 h2 => go_kI (fun x3 h3 => go_kI (fun x4 h4 => GO.pat [(0, .ref 4), (1, .int x1), (2, .int x2), (3, .int x3), (4, .int x4)] ⟨h0, h1, h2, h3, h4, trivial⟩ (g_X2_cutBack_L8 N KO39 hKO39 n x1 x2 x3 x4 σ))))))), (fun _ z => absurd z List.not_mem_nil)⟩⟩) 36 ?_ ?_ <;> rfl)
set_option maxRecDepth 200000 in
theorem g_X2_cutBack_J39 (N : Nat) (x1 : Int32) (x2 : Int32) (x3 : Int32) (σ : Wd) : GO cX2_cutBack RX2 5 1 sc0 nI0 nJ0 some (f_X2_cutBack_J39 N x1 x2 x3 σ) 39 (mkp 0 5 [(0, .ref 4), (1, .int x1), (2, .int x2), (3, .int x3)]) [] σ := by
  exact (by refine GO.to (md_X2_cutBack N) (kl := []) ((fun _ z => absurd z List.not_mem_nil)) 36 ?_ ?_ <;> rfl)
set_option maxRecDepth 200000 in
theorem C_X2_cutBack (N : Nat) : CTV 1 yX2_cutBack cX2_cutBack 5 none (a_X2_cutBack N) := by
  refine CTV.of (own := RX2) (by decide) rfl (fun as σ r h => ?_)
  unfold a_X2_cutBack at h
  rcases kSE_s h with ⟨r0, rfl, h0⟩ | hn
  ·
    obtain ⟨b1, r1, rfl, h1⟩ := kSI_s h0
    obtain ⟨b2, r2, rfl, h2⟩ := kSI_s h1
    obtain ⟨b3, r3, rfl, h3⟩ := kSI_s h2
    obtain ⟨rfl, h9⟩ := kS0_s h3
    exact ⟨Nat.le_of_ble_eq_true rfl, by refine GO.to (md_X2_cutBack N) (kl := [(8, fun vs st σ => kS0 st (kA 0 4 vs (kI 1 vs (fun x1 => kI 2 vs (fun x2 => kI 3 vs (fun x3 => kI 4 vs (fun x4 => f_X2_cutBack_L8 N (f_X2_cutBack_J39 N) N x1 x2 x3 x4 σ)))))))]) (List.forall_mem_cons.mpr ⟨fun vs st σ => go_kS0 (go_kA (fun h0 => go_kI (fun x1 h1 => go_kI (fun x2 h2 => go_kI (fun x3 h3 => go_kI (fun x4 h4 => GO.pat [(0, .ref 4), (1, .int x1), (2, .int x2), (3, .int x3), (4, .int x4)] ⟨h0, h1, h2, h3, h4, trivial⟩ (g_X2_cutBack_L8 N (f_X2_cutBack_J39 N) (g_X2_cutBack_J39 N) N x1 x2 x3 x4 σ))))))), (fun _ z => absurd z List.not_mem_nil)⟩) 36 ?_ ?_ <;> rfl⟩
  cases hn
def T_X2_outcomeGate : List (Nat × Ent) := [(0, .iload_n 1, 1, []), (1, .aload_n 0, 2, []), (2, .getfield 53, 5, []), (5, .if_icmp .ge 12, 8, [17]), (8, .aload_n 0, 9, []), (9, .getfield 25, 12, []), (12, .iload_n 1, 13, []), (13, .iaload, 14, []), (14, .goto 7, 17, [21]), (17, .aload_n 0, 18, []), (18, .getfield 56, 21, []), (21, .ireturn, 22, [])]
set_option maxRecDepth 200000 in
theorem tc_X2_outcomeGate : T_X2_outcomeGate.all (chk cX2_outcomeGate) = true := by decide +kernel
def f_X2_outcomeGate (N : Nat) (a1 : Int32) (σ : Wd) : Option (Int32 × Wd) :=
  if (σ.1 4 6) ≤ a1 then (some (σ.1 4 7, σ)) else ((xld σ 22 12 a1).bind fun v1 => some (v1, σ))
def a_X2_outcomeGate (N : Nat) : List Value → Wd → Option (Int32 × Wd) := fun as σ => kSE 4 as (fun r0 => kSI r0 (fun b1 r1 => kS0 r1 (f_X2_outcomeGate N b1 σ))) (none)
def ct_X2_outcomeGate (N : Nat) : List (Nat × Cal) := []
set_option maxRecDepth 200000 in
theorem md_X2_outcomeGate (N : Nat) : MDOK T_X2_outcomeGate ft_X2 lt_X2 (ct_X2_outcomeGate N) cX2_outcomeGate RX2 1 := ⟨tc_X2_outcomeGate, fc_X2, lc_X2, (fun _ z => absurd z List.not_mem_nil)⟩
set_option maxRecDepth 200000 in
theorem C_X2_outcomeGate (N : Nat) : CTI 1 yX2_outcomeGate cX2_outcomeGate 2 (some .int) (a_X2_outcomeGate N) := by
  refine CTI.of (own := RX2) (by decide) rfl (fun as σ r h => ?_)
  unfold a_X2_outcomeGate at h
  rcases kSE_s h with ⟨r0, rfl, h0⟩ | hn
  ·
    obtain ⟨b1, r1, rfl, h1⟩ := kSI_s h0
    obtain ⟨rfl, h9⟩ := kS0_s h1
    exact ⟨Nat.le_of_ble_eq_true rfl, by refine GO.to (md_X2_outcomeGate N) (kl := []) ((fun _ z => absurd z List.not_mem_nil)) 17 ?_ ?_ <;> rfl⟩
  cases hn
def T_X2_usedGates : List (Nat × Ent) := [(0, .iconst 0, 1, []), (1, .istore_n 2, 2, []), (2, .bipush 27, 4, []), (4, .istore_n 3, 5, []), (5, .iload_n 3, 6, []), (6, .aload_n 0, 7, []), (7, .getfield 49, 10, []), (10, .if_icmp .ge 36, 13, [46]), (13, .aload_n 0, 14, []), (14, .getfield 21, 17, []), (17, .iload_n 3, 18, []), (18, .baload, 19, []), (19, .ifCond .eq 21, 22, [40]), (22, .iload_n 1, 23, []), (23, .iconst (-1), 24, []), (24, .if_icmp .eq 13, 27, [37]), (27, .aload_n 0, 28, []), (28, .getfield 11, 31, []), (31, .iload_n 3, 32, []), (32, .iaload, 33, []), (33, .iload_n 1, 34, []), (34, .if_icmp .ne 6, 37, [40]), (37, .iinc 2 1, 40, []), (40, .iinc 3 1, 43, []), (43, .goto (-38), 46, [5]), (46, .iload_n 2, 47, []), (47, .ireturn, 48, [])]
set_option maxRecDepth 200000 in
theorem tc_X2_usedGates : T_X2_usedGates.all (chk cX2_usedGates) = true := by decide +kernel
def f_X2_usedGates_L5 (N : Nat) (KO46 : Int32 → Wd → Option (Int32 × Wd)) : Nat → Int32 → Int32 → Int32 → Wd → Option (Int32 × Wd)
  | 0, _, _, _, _ => none
  | n + 1, x1, x2, x3, σ => if (σ.1 4 5) ≤ x3 then (KO46 x2 σ) else ((xld σ 21 512 x3).bind fun v1 => if v1 = 0 then (f_X2_usedGates_L5 N KO46 n x1 x2 (x3 + 1) σ) else (if x1 = (-1) then (f_X2_usedGates_L5 N KO46 n x1 (x2 + 1) (x3 + 1) σ) else ((xld σ 18 512 x3).bind fun v2 => if v2 = x1 then (f_X2_usedGates_L5 N KO46 n x1 (x2 + 1) (x3 + 1) σ) else (f_X2_usedGates_L5 N KO46 n x1 x2 (x3 + 1) σ))))
def f_X2_usedGates_J46 (N : Nat) (x2 : Int32) (σ : Wd) : Option (Int32 × Wd) :=
  some (x2, σ)
def f_X2_usedGates (N : Nat) (a1 : Int32) (σ : Wd) : Option (Int32 × Wd) :=
  f_X2_usedGates_L5 N (f_X2_usedGates_J46 N) N a1 0 27 σ
def a_X2_usedGates (N : Nat) : List Value → Wd → Option (Int32 × Wd) := fun as σ => kSE 4 as (fun r0 => kSI r0 (fun b1 r1 => kS0 r1 (f_X2_usedGates N b1 σ))) (none)
def ct_X2_usedGates (N : Nat) : List (Nat × Cal) := []
set_option maxRecDepth 200000 in
theorem md_X2_usedGates (N : Nat) : MDOK T_X2_usedGates ft_X2 lt_X2 (ct_X2_usedGates N) cX2_usedGates RX2 1 := ⟨tc_X2_usedGates, fc_X2, lc_X2, (fun _ z => absurd z List.not_mem_nil)⟩
set_option maxRecDepth 200000 in
theorem g_X2_usedGates_L5 (N : Nat) (KO46 : Int32 → Wd → Option (Int32 × Wd)) (hKO46 : ∀ (x2 : Int32) (σ : Wd), GO cX2_usedGates RX2 4 1 sc0 rI nJ0 nV0 (KO46 x2 σ) 46 (mkp 0 4 [(2, .int x2)]) [] σ) : ∀ (n : Nat), ∀ (x1 : Int32) (x2 : Int32) (x3 : Int32) (σ : Wd), GO cX2_usedGates RX2 4 1 sc0 rI nJ0 nV0 (f_X2_usedGates_L5 N KO46 n x1 x2 x3 σ) 5 (mkp 0 4 [(0, .ref 4), (1, .int x1), (2, .int x2), (3, .int x3)]) [] σ
  | 0, x1, x2, x3, σ => GO.none
  | n + 1, x1, x2, x3, σ => by
    exact (by refine GO.to (md_X2_usedGates N) (kl := [(46, fun vs st σ => kS0 st (kI 2 vs (fun x2 => KO46 x2 σ))), (5, fun vs st σ => kS0 st (kA 0 4 vs (kI 1 vs (fun x1 => kI 2 vs (fun x2 => kI 3 vs (fun x3 => f_X2_usedGates_L5 N KO46 n x1 x2 x3 σ))))))]) (List.forall_mem_cons.mpr ⟨fun vs st σ => go_kS0 (go_kI (fun x2 h2 => GO.pat [(2, .int x2)] ⟨h2, trivial⟩ (hKO46 x2 σ))), List.forall_mem_cons.mpr ⟨fun vs st σ => go_kS0 (go_kA (fun h0 => go_kI (fun x1 h1 => go_kI (fun x2 h2 => go_kI (fun x3 h3 => GO.pat [(0, .ref 4), (1, .int x1), (2, .int x2), (3, .int x3)] ⟨h0, h1, h2, h3, trivial⟩ (g_X2_usedGates_L5 N KO46 hKO46 n x1 x2 x3 σ)))))), (fun _ z => absurd z List.not_mem_nil)⟩⟩) 32 ?_ ?_ <;> rfl)
set_option maxRecDepth 200000 in
theorem g_X2_usedGates_J46 (N : Nat) (x2 : Int32) (σ : Wd) : GO cX2_usedGates RX2 4 1 sc0 rI nJ0 nV0 (f_X2_usedGates_J46 N x2 σ) 46 (mkp 0 4 [(2, .int x2)]) [] σ := by
  exact (by refine GO.to (md_X2_usedGates N) (kl := []) ((fun _ z => absurd z List.not_mem_nil)) 32 ?_ ?_ <;> rfl)
set_option maxRecDepth 200000 in
theorem C_X2_usedGates (N : Nat) : CTI 1 yX2_usedGates cX2_usedGates 4 (some .int) (a_X2_usedGates N) := by
  refine CTI.of (own := RX2) (by decide) rfl (fun as σ r h => ?_)
  unfold a_X2_usedGates at h
  rcases kSE_s h with ⟨r0, rfl, h0⟩ | hn
  ·
    obtain ⟨b1, r1, rfl, h1⟩ := kSI_s h0
    obtain ⟨rfl, h9⟩ := kS0_s h1
    exact ⟨Nat.le_of_ble_eq_true rfl, by refine GO.to (md_X2_usedGates N) (kl := [(5, fun vs st σ => kS0 st (kA 0 4 vs (kI 1 vs (fun x1 => kI 2 vs (fun x2 => kI 3 vs (fun x3 => f_X2_usedGates_L5 N (f_X2_usedGates_J46 N) N x1 x2 x3 σ))))))]) (List.forall_mem_cons.mpr ⟨fun vs st σ => go_kS0 (go_kA (fun h0 => go_kI (fun x1 h1 => go_kI (fun x2 h2 => go_kI (fun x3 h3 => GO.pat [(0, .ref 4), (1, .int x1), (2, .int x2), (3, .int x3)] ⟨h0, h1, h2, h3, trivial⟩ (g_X2_usedGates_L5 N (f_X2_usedGates_J46 N) (g_X2_usedGates_J46 N) N x1 x2 x3 σ)))))), (fun _ z => absurd z List.not_mem_nil)⟩) 32 ?_ ?_ <;> rfl⟩
  cases hn
def T_X2_made : List (Nat × Ent) := [(0, .iload_n 2, 1, []), (1, .iload_n 3, 2, []), (2, .if_icmp .ge 7, 5, [9]), (5, .iload_n 2, 6, []), (6, .goto 4, 9, [10]), (9, .iload_n 3, 10, []), (10, .istore 4, 12, []), (12, .iload_n 2, 13, []), (13, .iload_n 3, 14, []), (14, .if_icmp .ge 7, 17, [21]), (17, .iload_n 3, 18, []), (18, .goto 4, 21, [22]), (21, .iload_n 2, 22, []), (22, .istore 5, 24, []), (24, .iload_n 1, 25, []), (25, .ifCond .ne 28, 28, [53]), (28, .iload 5, 30, []), (30, .bipush 27, 32, []), (32, .if_icmp .lt 21, 35, [53]), (35, .aload_n 0, 36, []), (36, .getfield 11, 39, []), (39, .iload 5, 41, []), (41, .iaload, 42, []), (42, .ifCond .ne 11, 45, [53]), (45, .aload_n 0, 46, []), (46, .getfield 15, 49, []), (49, .iload 5, 51, []), (51, .iaload, 52, []), (52, .ireturn, 53, []), (53, .aload_n 0, 54, []), (54, .getfield 28, 57, []), (57, .iload 5, 59, []), (59, .iaload, 60, []), (60, .istore 6, 62, []), (62, .iconst 0, 63, []), (63, .istore 7, 65, []), (65, .iload 6, 67, []), (67, .bipush 27, 69, []), (69, .if_icmp .lt 52, 72, [121]), (72, .iload 7, 74, []), (74, .sipush 512, 77, []), (77, .if_icmp .ge 44, 80, [121]), (80, .aload_n 0, 81, []), (81, .getfield 15, 84, []), (84, .iload 6, 86, []), (86, .iaload, 87, []), (87, .iload 4, 89, []), (89, .if_icmp .ne 17, 92, [106]), (92, .aload_n 0, 93, []), (93, .getfield 11, 96, []), (96, .iload 6, 98, []), (98, .iaload, 99, []), (99, .iload_n 1, 100, []), (100, .if_icmp .ne 6, 103, [106]), (103, .iload 6, 105, []), (105, .ireturn, 106, []), (106, .aload_n 0, 107, []), (107, .getfield 31, 110, []), (110, .iload 6, 112, []), (112, .iaload, 113, []), (113, .istore 6, 115, []), (115, .iinc 7 1, 118, []), (118, .goto (-53), 121, [65]), (121, .aload_n 0, 122, []), (122, .getfield 49, 125, []), (125, .sipush 512, 128, []), (128, .if_icmp .lt 5, 131, [133]), (131, .iconst 0, 132, []), (132, .ireturn, 133, []), (133, .aload_n 0, 134, []), (134, .getfield 49, 137, []), (137, .istore 6, 139, []), (139, .aload_n 0, 140, []), (140, .dup, 141, []), (141, .getfield 49, 144, []), (144, .iconst 1, 145, []), (145, .iadd, 146, []), (146, .putfield 49, 149, []), (149, .aload_n 0, 150, []), (150, .getfield 11, 153, []), (153, .iload 6, 155, []), (155, .iload_n 1, 156, []), (156, .iastore, 157, []), (157, .aload_n 0, 158, []), (158, .getfield 15, 161, []), (161, .iload 6, 163, []), (163, .iload 4, 165, []), (165, .iastore, 166, []), (166, .aload_n 0, 167, []), (167, .getfield 18, 170, []), (170, .iload 6, 172, []), (172, .iload 5, 174, []), (174, .iastore, 175, []), (175, .aload_n 0, 176, []), (176, .getfield 28, 179, []), (179, .iload 6, 181, []), (181, .iconst 0, 182, []), (182, .iastore, 183, []), (183, .aload_n 0, 184, []), (184, .getfield 31, 187, []), (187, .iload 6, 189, []), (189, .aload_n 0, 190, []), (190, .getfield 28, 193, []), (193, .iload 5, 195, []), (195, .iaload, 196, []), (196, .iastore, 197, []), (197, .aload_n 0, 198, []), (198, .getfield 28, 201, []), (201, .iload 5, 203, []), (203, .iload 6, 205, []), (205, .iastore, 206, []), (206, .iload 6, 208, []), (208, .ireturn, 209, [])]
set_option maxRecDepth 200000 in
theorem tc_X2_made : T_X2_made.all (chk cX2_made) = true := by decide +kernel
def f_X2_made_L65 (N : Nat) (KO121 : Int32 → Int32 → Int32 → Wd → Option (Int32 × Wd)) : Nat → Int32 → Int32 → Int32 → Int32 → Int32 → Wd → Option (Int32 × Wd)
  | 0, _, _, _, _, _, _ => none
  | n + 1, x1, x4, x5, x6, x7, σ => if x6 < 27 then (KO121 x1 x4 x5 σ) else (if 512 ≤ x7 then (KO121 x1 x4 x5 σ) else ((xld σ 19 512 x6).bind fun v2 => if v2 = x4 then ((xld σ 18 512 x6).bind fun v3 => if v3 = x1 then (some (x6, σ)) else ((xld σ 24 512 x6).bind fun v4 => f_X2_made_L65 N KO121 n x1 x4 x5 v4 (x7 + 1) σ)) else ((xld σ 24 512 x6).bind fun v5 => f_X2_made_L65 N KO121 n x1 x4 x5 v5 (x7 + 1) σ)))
def f_X2_made_J121 (N : Nat) (x1 : Int32) (x4 : Int32) (x5 : Int32) (σ : Wd) : Option (Int32 × Wd) :=
  if (σ.1 4 5) < 512 then (let σ6 : Wd := sF σ 4 5 ((σ.1 4 5) + 1)
  (xst σ6 18 512 (σ.1 4 5) x1).bind fun σ7 => (xst σ7 19 512 (σ.1 4 5) x4).bind fun σ8 => (xst σ8 20 512 (σ.1 4 5) x5).bind fun σ9 => (xst σ9 23 512 (σ.1 4 5) 0).bind fun σ10 => (xld σ10 23 512 x5).bind fun v11 => (xst σ10 24 512 (σ.1 4 5) v11).bind fun σ12 => (xst σ12 23 512 x5 (σ.1 4 5)).bind fun σ13 => some (σ.1 4 5, σ13)) else (some (0, σ))
def f_X2_made_J22 (N : Nat) (x1 : Int32) (x4 : Int32) (y0 : Int32) (σ : Wd) : Option (Int32 × Wd) :=
  if x1 = 0 then (if y0 < 27 then ((xld σ 23 512 y0).bind fun v1 => f_X2_made_L65 N (f_X2_made_J121 N) N x1 x4 y0 v1 0 σ) else ((xld σ 18 512 y0).bind fun v14 => if v14 = 0 then ((xld σ 19 512 y0).bind fun v15 => some (v15, σ)) else ((xld σ 23 512 y0).bind fun v16 => f_X2_made_L65 N (f_X2_made_J121 N) N x1 x4 y0 v16 0 σ))) else ((xld σ 23 512 y0).bind fun v17 => f_X2_made_L65 N (f_X2_made_J121 N) N x1 x4 y0 v17 0 σ)
def f_X2_made_J10 (N : Nat) (x1 : Int32) (x2 : Int32) (x3 : Int32) (y0 : Int32) (σ : Wd) : Option (Int32 × Wd) :=
  if x3 ≤ x2 then (f_X2_made_J22 N x1 y0 x2 σ) else (f_X2_made_J22 N x1 y0 x3 σ)
def f_X2_made (N : Nat) (a1 : Int32) (a2 : Int32) (a3 : Int32) (σ : Wd) : Option (Int32 × Wd) :=
  if a3 ≤ a2 then (f_X2_made_J10 N a1 a2 a3 a3 σ) else (f_X2_made_J10 N a1 a2 a3 a2 σ)
def a_X2_made (N : Nat) : List Value → Wd → Option (Int32 × Wd) := fun as σ => kSE 4 as (fun r0 => kSI r0 (fun b1 r1 => kSI r1 (fun b2 r2 => kSI r2 (fun b3 r3 => kS0 r3 (f_X2_made N b1 b2 b3 σ))))) (none)
def ct_X2_made (N : Nat) : List (Nat × Cal) := []
set_option maxRecDepth 200000 in
theorem md_X2_made (N : Nat) : MDOK T_X2_made ft_X2 lt_X2 (ct_X2_made N) cX2_made RX2 1 := ⟨tc_X2_made, fc_X2, lc_X2, (fun _ z => absurd z List.not_mem_nil)⟩
set_option maxRecDepth 200000 in
theorem g_X2_made_L65 (N : Nat) (KO121 : Int32 → Int32 → Int32 → Wd → Option (Int32 × Wd)) (hKO121 : ∀ (x1 : Int32) (x4 : Int32) (x5 : Int32) (σ : Wd), GO cX2_made RX2 8 1 sc0 rI nJ0 nV0 (KO121 x1 x4 x5 σ) 121 (mkp 0 8 [(0, .ref 4), (1, .int x1), (4, .int x4), (5, .int x5)]) [] σ) : ∀ (n : Nat), ∀ (x1 : Int32) (x4 : Int32) (x5 : Int32) (x6 : Int32) (x7 : Int32) (σ : Wd), GO cX2_made RX2 8 1 sc0 rI nJ0 nV0 (f_X2_made_L65 N KO121 n x1 x4 x5 x6 x7 σ) 65 (mkp 0 8 [(0, .ref 4), (1, .int x1), (4, .int x4), (5, .int x5), (6, .int x6), (7, .int x7)]) [] σ
  | 0, x1, x4, x5, x6, x7, σ => GO.none
  | n + 1, x1, x4, x5, x6, x7, σ => by
    exact (by refine GO.to (md_X2_made N) (kl := [(121, fun vs st σ => kS0 st (kA 0 4 vs (kI 1 vs (fun x1 => kI 4 vs (fun x4 => kI 5 vs (fun x5 => KO121 x1 x4 x5 σ)))))), (65, fun vs st σ => kS0 st (kA 0 4 vs (kI 1 vs (fun x1 => kI 4 vs (fun x4 => kI 5 vs (fun x5 => kI 6 vs (fun x6 => kI 7 vs (fun x7 => f_X2_made_L65 N KO121 n x1 x4 x5 x6 x7 σ))))))))]) (List.forall_mem_cons.mpr ⟨fun vs st σ => go_kS0 (go_kA (fun h0 => go_kI (fun x1 h1 => go_kI (fun x4 h4 => go_kI (fun x5 h5 => GO.pat [(0, .ref 4), (1, .int x1), (4, .int x4), (5, .int x5)] ⟨h0, h1, h4, h5, trivial⟩ (hKO121 x1 x4 x5 σ)))))), List.forall_mem_cons.mpr ⟨fun vs st σ => go_kS0 (go_kA (fun h0 => go_kI (fun x1 h1 => go_kI (fun x4 h4 => go_kI (fun x5 h5 => go_kI (fun x6 h6 => go_kI (fun x7 h7 => GO.pat [(0, .ref 4), (1, .int x1), (4, .int x4), (5, .int x5), (6, .int x6), (7, .int x7)] ⟨h0, h1, h4, h5, h6, h7, trivial⟩ (g_X2_made_L65 N KO121 hKO121 n x1 x4 x5 x6 x7 σ)))))))), (fun _ z => absurd z List.not_mem_nil)⟩⟩) 118 ?_ ?_ <;> rfl)
set_option maxRecDepth 200000 in
theorem g_X2_made_J121 (N : Nat) (x1 : Int32) (x4 : Int32) (x5 : Int32) (σ : Wd) : GO cX2_made RX2 8 1 sc0 rI nJ0 nV0 (f_X2_made_J121 N x1 x4 x5 σ) 121 (mkp 0 8 [(0, .ref 4), (1, .int x1), (4, .int x4), (5, .int x5)]) [] σ := by
  exact (by refine GO.to (md_X2_made N) (kl := []) ((fun _ z => absurd z List.not_mem_nil)) 118 ?_ ?_ <;> rfl)
set_option maxRecDepth 200000 in
theorem g_X2_made_J22 (N : Nat) (x1 : Int32) (x4 : Int32) (y0 : Int32) (σ : Wd) : GO cX2_made RX2 8 1 sc0 rI nJ0 nV0 (f_X2_made_J22 N x1 x4 y0 σ) 22 (mkp 0 8 [(0, .ref 4), (1, .int x1), (4, .int x4)]) [.int y0] σ := by
  exact (by refine GO.to (md_X2_made N) (kl := [(65, fun vs st σ => kS0 st (kA 0 4 vs (kI 1 vs (fun x1 => kI 4 vs (fun x4 => kI 5 vs (fun x5 => kI 6 vs (fun x6 => kI 7 vs (fun x7 => f_X2_made_L65 N (f_X2_made_J121 N) N x1 x4 x5 x6 x7 σ))))))))]) (List.forall_mem_cons.mpr ⟨fun vs st σ => go_kS0 (go_kA (fun h0 => go_kI (fun x1 h1 => go_kI (fun x4 h4 => go_kI (fun x5 h5 => go_kI (fun x6 h6 => go_kI (fun x7 h7 => GO.pat [(0, .ref 4), (1, .int x1), (4, .int x4), (5, .int x5), (6, .int x6), (7, .int x7)] ⟨h0, h1, h4, h5, h6, h7, trivial⟩ (g_X2_made_L65 N (f_X2_made_J121 N) (g_X2_made_J121 N) N x1 x4 x5 x6 x7 σ)))))))), (fun _ z => absurd z List.not_mem_nil)⟩) 118 ?_ ?_ <;> rfl)
set_option maxRecDepth 200000 in
theorem g_X2_made_J10 (N : Nat) (x1 : Int32) (x2 : Int32) (x3 : Int32) (y0 : Int32) (σ : Wd) : GO cX2_made RX2 8 1 sc0 rI nJ0 nV0 (f_X2_made_J10 N x1 x2 x3 y0 σ) 10 (mkp 0 8 [(0, .ref 4), (1, .int x1), (2, .int x2), (3, .int x3)]) [.int y0] σ := by
  exact (by refine GO.to (md_X2_made N) (kl := [(22, fun vs st σ => kSti st (fun y0 => kA 0 4 vs (kI 1 vs (fun x1 => kI 4 vs (fun x4 => f_X2_made_J22 N x1 x4 y0 σ)))))]) (List.forall_mem_cons.mpr ⟨fun vs st σ => go_kSti (fun y0 => go_kA (fun h0 => go_kI (fun x1 h1 => go_kI (fun x4 h4 => GO.pat [(0, .ref 4), (1, .int x1), (4, .int x4)] ⟨h0, h1, h4, trivial⟩ (g_X2_made_J22 N x1 x4 y0 σ))))), (fun _ z => absurd z List.not_mem_nil)⟩) 118 ?_ ?_ <;> rfl)
set_option maxRecDepth 200000 in
theorem C_X2_made (N : Nat) : CTI 1 yX2_made cX2_made 8 (some .int) (a_X2_made N) := by
  refine CTI.of (own := RX2) (by decide) rfl (fun as σ r h => ?_)
  unfold a_X2_made at h
  rcases kSE_s h with ⟨r0, rfl, h0⟩ | hn
  ·
    obtain ⟨b1, r1, rfl, h1⟩ := kSI_s h0
    obtain ⟨b2, r2, rfl, h2⟩ := kSI_s h1
    obtain ⟨b3, r3, rfl, h3⟩ := kSI_s h2
    obtain ⟨rfl, h9⟩ := kS0_s h3
    exact ⟨Nat.le_of_ble_eq_true rfl, by refine GO.to (md_X2_made N) (kl := [(10, fun vs st σ => kSti st (fun y0 => kA 0 4 vs (kI 1 vs (fun x1 => kI 2 vs (fun x2 => kI 3 vs (fun x3 => f_X2_made_J10 N x1 x2 x3 y0 σ))))))]) (List.forall_mem_cons.mpr ⟨fun vs st σ => go_kSti (fun y0 => go_kA (fun h0 => go_kI (fun x1 h1 => go_kI (fun x2 h2 => go_kI (fun x3 h3 => GO.pat [(0, .ref 4), (1, .int x1), (2, .int x2), (3, .int x3)] ⟨h0, h1, h2, h3, trivial⟩ (g_X2_made_J10 N x1 x2 x3 y0 σ)))))), (fun _ z => absurd z List.not_mem_nil)⟩) 118 ?_ ?_ <;> rfl⟩
  cases hn
def T_X2_markUsed : List (Nat × Ent) := [(0, .iconst 0, 1, []), (1, .istore_n 1, 2, []), (2, .iload_n 1, 3, []), (3, .aload_n 0, 4, []), (4, .getfield 49, 7, []), (7, .if_icmp .ge 16, 10, [23]), (10, .aload_n 0, 11, []), (11, .getfield 21, 14, []), (14, .iload_n 1, 15, []), (15, .iconst 0, 16, []), (16, .bastore, 17, []), (17, .iinc 1 1, 20, []), (20, .goto (-18), 23, [2]), (23, .iconst 0, 24, []), (24, .istore_n 1, 25, []), (25, .iload_n 1, 26, []), (26, .aload_n 0, 27, []), (27, .getfield 53, 30, []), (30, .if_icmp .gt 20, 33, [50]), (33, .aload_n 0, 34, []), (34, .getfield 21, 37, []), (37, .aload_n 0, 38, []), (38, .iload_n 1, 39, []), (39, .invokevirtual 96, 42, []), (42, .iconst 1, 43, []), (43, .bastore, 44, []), (44, .iinc 1 1, 47, []), (47, .goto (-22), 50, [25]), (50, .aload_n 0, 51, []), (51, .getfield 49, 54, []), (54, .iconst 1, 55, []), (55, .isub, 56, []), (56, .istore_n 1, 57, []), (57, .iload_n 1, 58, []), (58, .bipush 27, 60, []), (60, .if_icmp .lt 42, 63, [102]), (63, .aload_n 0, 64, []), (64, .getfield 21, 67, []), (67, .iload_n 1, 68, []), (68, .baload, 69, []), (69, .ifCond .eq 27, 72, [96]), (72, .aload_n 0, 73, []), (73, .getfield 21, 76, []), (76, .aload_n 0, 77, []), (77, .getfield 15, 80, []), (80, .iload_n 1, 81, []), (81, .iaload, 82, []), (82, .iconst 1, 83, []), (83, .bastore, 84, []), (84, .aload_n 0, 85, []), (85, .getfield 21, 88, []), (88, .aload_n 0, 89, []), (89, .getfield 18, 92, []), (92, .iload_n 1, 93, []), (93, .iaload, 94, []), (94, .iconst 1, 95, []), (95, .bastore, 96, []), (96, .iinc 1 (-1), 99, []), (99, .goto (-42), 102, [57]), (102, .return_, 103, [])]
set_option maxRecDepth 200000 in
theorem tc_X2_markUsed : T_X2_markUsed.all (chk cX2_markUsed) = true := by decide +kernel
def f_X2_markUsed_L2 (N : Nat) (KO23 : Wd → Option Wd) : Nat → Int32 → Wd → Option Wd
  | 0, _, _ => none
  | n + 1, x1, σ => if (σ.1 4 5) ≤ x1 then (KO23 σ) else ((xstZ σ 21 512 x1 0).bind fun σ1 => f_X2_markUsed_L2 N KO23 n (x1 + 1) σ1)
def f_X2_markUsed_L25 (N : Nat) (KO50 : Wd → Option Wd) : Nat → Int32 → Wd → Option Wd
  | 0, _, _ => none
  | n + 1, x1, σ => if (σ.1 4 6) < x1 then (KO50 σ) else ((f_X2_outcomeGate N x1 σ).bind fun p2 => (xstZ p2.2 21 512 p2.1 1).bind fun σ3 => f_X2_markUsed_L25 N KO50 n (x1 + 1) σ3)
def f_X2_markUsed_L57 (N : Nat) (KO102 : Wd → Option Wd) : Nat → Int32 → Wd → Option Wd
  | 0, _, _ => none
  | n + 1, x1, σ => if x1 < 27 then (KO102 σ) else ((xld σ 21 512 x1).bind fun v4 => if v4 = 0 then (f_X2_markUsed_L57 N KO102 n (x1 + (-1)) σ) else ((xld σ 19 512 x1).bind fun v5 => (xstZ σ 21 512 v5 1).bind fun σ6 => (xld σ6 20 512 x1).bind fun v7 => (xstZ σ6 21 512 v7 1).bind fun σ8 => f_X2_markUsed_L57 N KO102 n (x1 + (-1)) σ8))
def f_X2_markUsed_J102 (N : Nat) (σ : Wd) : Option Wd :=
  some σ
def f_X2_markUsed_J50 (N : Nat) (σ : Wd) : Option Wd :=
  f_X2_markUsed_L57 N (f_X2_markUsed_J102 N) N ((σ.1 4 5) - 1) σ
def f_X2_markUsed_J23 (N : Nat) (σ : Wd) : Option Wd :=
  f_X2_markUsed_L25 N (f_X2_markUsed_J50 N) N 0 σ
def f_X2_markUsed (N : Nat) (σ : Wd) : Option Wd :=
  f_X2_markUsed_L2 N (f_X2_markUsed_J23 N) N 0 σ
def a_X2_markUsed (N : Nat) : List Value → Wd → Option Wd := fun as σ => kSE 4 as (fun r0 => kS0 r0 (f_X2_markUsed N σ)) (none)
set_option maxRecDepth 200000 in
theorem k_X2_96 : calchk RX2 96 2 2 yX2_outcomeGate cX2_outcomeGate 2 (some .int) = true := by decide +kernel
def ct_X2_markUsed (N : Nat) : List (Nat × Cal) := [(96, 2, 2, .inl (a_X2_outcomeGate N))]
set_option maxRecDepth 200000 in
theorem md_X2_markUsed (N : Nat) : MDOK T_X2_markUsed ft_X2 lt_X2 (ct_X2_markUsed N) cX2_markUsed RX2 2 := ⟨tc_X2_markUsed, fc_X2, lc_X2, List.forall_mem_cons.mpr ⟨Or.inl ⟨yX2_outcomeGate, cX2_outcomeGate, 2, (some .int), 1, k_X2_96, Nat.le_of_ble_eq_true rfl, C_X2_outcomeGate N⟩, (fun _ z => absurd z List.not_mem_nil)⟩⟩
set_option maxRecDepth 200000 in
theorem g_X2_markUsed_L2 (N : Nat) (KO23 : Wd → Option Wd) (hKO23 : ∀ (σ : Wd), GO cX2_markUsed RX2 2 2 sc0 nI0 nJ0 some (KO23 σ) 23 (mkp 0 2 [(0, .ref 4)]) [] σ) : ∀ (n : Nat), ∀ (x1 : Int32) (σ : Wd), GO cX2_markUsed RX2 2 2 sc0 nI0 nJ0 some (f_X2_markUsed_L2 N KO23 n x1 σ) 2 (mkp 0 2 [(0, .ref 4), (1, .int x1)]) [] σ
  | 0, x1, σ => GO.none
  | n + 1, x1, σ => by
    exact (by refine GO.to (md_X2_markUsed N) (kl := [(23, fun vs st σ => kS0 st (kA 0 4 vs (KO23 σ))), (2, fun vs st σ => kS0 st (kA 0 4 vs (kI 1 vs (fun x1 => f_X2_markUsed_L2 N KO23 n x1 σ))))]) (List.forall_mem_cons.mpr ⟨fun vs st σ => go_kS0 (go_kA (fun h0 => GO.pat [(0, .ref 4)] ⟨h0, trivial⟩ (hKO23 σ))), List.forall_mem_cons.mpr ⟨fun vs st σ => go_kS0 (go_kA (fun h0 => go_kI (fun x1 h1 => GO.pat [(0, .ref 4), (1, .int x1)] ⟨h0, h1, trivial⟩ (g_X2_markUsed_L2 N KO23 hKO23 n x1 σ)))), (fun _ z => absurd z List.not_mem_nil)⟩⟩) 65 ?_ ?_ <;> rfl)
set_option maxRecDepth 200000 in
theorem g_X2_markUsed_L25 (N : Nat) (KO50 : Wd → Option Wd) (hKO50 : ∀ (σ : Wd), GO cX2_markUsed RX2 2 2 sc0 nI0 nJ0 some (KO50 σ) 50 (mkp 0 2 [(0, .ref 4)]) [] σ) : ∀ (n : Nat), ∀ (x1 : Int32) (σ : Wd), GO cX2_markUsed RX2 2 2 sc0 nI0 nJ0 some (f_X2_markUsed_L25 N KO50 n x1 σ) 25 (mkp 0 2 [(0, .ref 4), (1, .int x1)]) [] σ
  | 0, x1, σ => GO.none
  | n + 1, x1, σ => by
    exact (by refine GO.to (md_X2_markUsed N) (kl := [(50, fun vs st σ => kS0 st (kA 0 4 vs (KO50 σ))), (25, fun vs st σ => kS0 st (kA 0 4 vs (kI 1 vs (fun x1 => f_X2_markUsed_L25 N KO50 n x1 σ))))]) (List.forall_mem_cons.mpr ⟨fun vs st σ => go_kS0 (go_kA (fun h0 => GO.pat [(0, .ref 4)] ⟨h0, trivial⟩ (hKO50 σ))), List.forall_mem_cons.mpr ⟨fun vs st σ => go_kS0 (go_kA (fun h0 => go_kI (fun x1 h1 => GO.pat [(0, .ref 4), (1, .int x1)] ⟨h0, h1, trivial⟩ (g_X2_markUsed_L25 N KO50 hKO50 n x1 σ)))), (fun _ z => absurd z List.not_mem_nil)⟩⟩) 65 ?_ ?_ <;> rfl)
set_option maxRecDepth 200000 in
theorem g_X2_markUsed_L57 (N : Nat) (KO102 : Wd → Option Wd) (hKO102 : ∀ (σ : Wd), GO cX2_markUsed RX2 2 2 sc0 nI0 nJ0 some (KO102 σ) 102 (mkp 0 2 []) [] σ) : ∀ (n : Nat), ∀ (x1 : Int32) (σ : Wd), GO cX2_markUsed RX2 2 2 sc0 nI0 nJ0 some (f_X2_markUsed_L57 N KO102 n x1 σ) 57 (mkp 0 2 [(0, .ref 4), (1, .int x1)]) [] σ
  | 0, x1, σ => GO.none
  | n + 1, x1, σ => by
    exact (by refine GO.to (md_X2_markUsed N) (kl := [(102, fun vs st σ => kS0 st (KO102 σ)), (57, fun vs st σ => kS0 st (kA 0 4 vs (kI 1 vs (fun x1 => f_X2_markUsed_L57 N KO102 n x1 σ))))]) (List.forall_mem_cons.mpr ⟨fun vs st σ => go_kS0 (GO.pat [] trivial (hKO102 σ)), List.forall_mem_cons.mpr ⟨fun vs st σ => go_kS0 (go_kA (fun h0 => go_kI (fun x1 h1 => GO.pat [(0, .ref 4), (1, .int x1)] ⟨h0, h1, trivial⟩ (g_X2_markUsed_L57 N KO102 hKO102 n x1 σ)))), (fun _ z => absurd z List.not_mem_nil)⟩⟩) 65 ?_ ?_ <;> rfl)
set_option maxRecDepth 200000 in
theorem g_X2_markUsed_J102 (N : Nat) (σ : Wd) : GO cX2_markUsed RX2 2 2 sc0 nI0 nJ0 some (f_X2_markUsed_J102 N σ) 102 (mkp 0 2 []) [] σ := by
  exact (by refine GO.to (md_X2_markUsed N) (kl := []) ((fun _ z => absurd z List.not_mem_nil)) 65 ?_ ?_ <;> rfl)
set_option maxRecDepth 200000 in
theorem g_X2_markUsed_J50 (N : Nat) (σ : Wd) : GO cX2_markUsed RX2 2 2 sc0 nI0 nJ0 some (f_X2_markUsed_J50 N σ) 50 (mkp 0 2 [(0, .ref 4)]) [] σ := by
  exact (by refine GO.to (md_X2_markUsed N) (kl := [(57, fun vs st σ => kS0 st (kA 0 4 vs (kI 1 vs (fun x1 => f_X2_markUsed_L57 N (f_X2_markUsed_J102 N) N x1 σ))))]) (List.forall_mem_cons.mpr ⟨fun vs st σ => go_kS0 (go_kA (fun h0 => go_kI (fun x1 h1 => GO.pat [(0, .ref 4), (1, .int x1)] ⟨h0, h1, trivial⟩ (g_X2_markUsed_L57 N (f_X2_markUsed_J102 N) (g_X2_markUsed_J102 N) N x1 σ)))), (fun _ z => absurd z List.not_mem_nil)⟩) 65 ?_ ?_ <;> rfl)
set_option maxRecDepth 200000 in
theorem g_X2_markUsed_J23 (N : Nat) (σ : Wd) : GO cX2_markUsed RX2 2 2 sc0 nI0 nJ0 some (f_X2_markUsed_J23 N σ) 23 (mkp 0 2 [(0, .ref 4)]) [] σ := by
  exact (by refine GO.to (md_X2_markUsed N) (kl := [(25, fun vs st σ => kS0 st (kA 0 4 vs (kI 1 vs (fun x1 => f_X2_markUsed_L25 N (f_X2_markUsed_J50 N) N x1 σ))))]) (List.forall_mem_cons.mpr ⟨fun vs st σ => go_kS0 (go_kA (fun h0 => go_kI (fun x1 h1 => GO.pat [(0, .ref 4), (1, .int x1)] ⟨h0, h1, trivial⟩ (g_X2_markUsed_L25 N (f_X2_markUsed_J50 N) (g_X2_markUsed_J50 N) N x1 σ)))), (fun _ z => absurd z List.not_mem_nil)⟩) 65 ?_ ?_ <;> rfl)
set_option maxRecDepth 200000 in
theorem C_X2_markUsed (N : Nat) : CTV 2 yX2_markUsed cX2_markUsed 2 none (a_X2_markUsed N) := by
  refine CTV.of (own := RX2) (by decide) rfl (fun as σ r h => ?_)
  unfold a_X2_markUsed at h
  rcases kSE_s h with ⟨r0, rfl, h0⟩ | hn
  ·
    obtain ⟨rfl, h9⟩ := kS0_s h0
    exact ⟨Nat.le_of_ble_eq_true rfl, by refine GO.to (md_X2_markUsed N) (kl := [(2, fun vs st σ => kS0 st (kA 0 4 vs (kI 1 vs (fun x1 => f_X2_markUsed_L2 N (f_X2_markUsed_J23 N) N x1 σ))))]) (List.forall_mem_cons.mpr ⟨fun vs st σ => go_kS0 (go_kA (fun h0 => go_kI (fun x1 h1 => GO.pat [(0, .ref 4), (1, .int x1)] ⟨h0, h1, trivial⟩ (g_X2_markUsed_L2 N (f_X2_markUsed_J23 N) (g_X2_markUsed_J23 N) N x1 σ)))), (fun _ z => absurd z List.not_mem_nil)⟩) 65 ?_ ?_ <;> rfl⟩
  cases hn
def T_X2_not : List (Nat × Ent) := [(0, .iload_n 1, 1, []), (1, .ifCond .ne 5, 4, [6]), (4, .iconst 1, 5, []), (5, .ireturn, 6, []), (6, .iload_n 1, 7, []), (7, .iconst 1, 8, []), (8, .if_icmp .ne 7, 11, [15]), (11, .iconst 0, 12, []), (12, .goto 10, 15, [22]), (15, .aload_n 0, 16, []), (16, .iconst 0, 17, []), (17, .iload_n 1, 18, []), (18, .iload_n 1, 19, []), (19, .invokevirtual 120, 22, []), (22, .ireturn, 23, [])]
set_option maxRecDepth 200000 in
theorem tc_X2_not : T_X2_not.all (chk cX2_not) = true := by decide +kernel
def f_X2_not (N : Nat) (a1 : Int32) (σ : Wd) : Option (Int32 × Wd) :=
  if a1 = 0 then (some (1, σ)) else (if a1 = 1 then (some (0, σ)) else ((f_X2_made N 0 a1 a1 σ).bind fun p1 => some (p1.1, p1.2)))
def a_X2_not (N : Nat) : List Value → Wd → Option (Int32 × Wd) := fun as σ => kSE 4 as (fun r0 => kSI r0 (fun b1 r1 => kS0 r1 (f_X2_not N b1 σ))) (none)
set_option maxRecDepth 200000 in
theorem k_X2_120 : calchk RX2 120 4 2 yX2_made cX2_made 8 (some .int) = true := by decide +kernel
def ct_X2_not (N : Nat) : List (Nat × Cal) := [(120, 4, 2, .inl (a_X2_made N))]
set_option maxRecDepth 200000 in
theorem md_X2_not (N : Nat) : MDOK T_X2_not ft_X2 lt_X2 (ct_X2_not N) cX2_not RX2 2 := ⟨tc_X2_not, fc_X2, lc_X2, List.forall_mem_cons.mpr ⟨Or.inl ⟨yX2_made, cX2_made, 8, (some .int), 1, k_X2_120, Nat.le_of_ble_eq_true rfl, C_X2_made N⟩, (fun _ z => absurd z List.not_mem_nil)⟩⟩
set_option maxRecDepth 200000 in
theorem C_X2_not (N : Nat) : CTI 2 yX2_not cX2_not 2 (some .int) (a_X2_not N) := by
  refine CTI.of (own := RX2) (by decide) rfl (fun as σ r h => ?_)
  unfold a_X2_not at h
  rcases kSE_s h with ⟨r0, rfl, h0⟩ | hn
  ·
    obtain ⟨b1, r1, rfl, h1⟩ := kSI_s h0
    obtain ⟨rfl, h9⟩ := kS0_s h1
    exact ⟨Nat.le_of_ble_eq_true rfl, by refine GO.to (md_X2_not N) (kl := []) ((fun _ z => absurd z List.not_mem_nil)) 20 ?_ ?_ <;> rfl⟩
  cases hn
def T_X2_and : List (Nat × Ent) := [(0, .iload_n 1, 1, []), (1, .ifCond .eq 7, 4, [8]), (4, .iload_n 2, 5, []), (5, .ifCond .ne 5, 8, [10]), (8, .iconst 0, 9, []), (9, .ireturn, 10, []), (10, .iload_n 1, 11, []), (11, .iconst 1, 12, []), (12, .if_icmp .ne 5, 15, [17]), (15, .iload_n 2, 16, []), (16, .ireturn, 17, []), (17, .iload_n 2, 18, []), (18, .iconst 1, 19, []), (19, .if_icmp .eq 8, 22, [27]), (22, .iload_n 1, 23, []), (23, .iload_n 2, 24, []), (24, .if_icmp .ne 7, 27, [31]), (27, .iload_n 1, 28, []), (28, .goto 10, 31, [38]), (31, .aload_n 0, 32, []), (32, .iconst 1, 33, []), (33, .iload_n 1, 34, []), (34, .iload_n 2, 35, []), (35, .invokevirtual 120, 38, []), (38, .ireturn, 39, [])]
set_option maxRecDepth 200000 in
theorem tc_X2_and : T_X2_and.all (chk cX2_and) = true := by decide +kernel
def f_X2_and (N : Nat) (a1 : Int32) (a2 : Int32) (σ : Wd) : Option (Int32 × Wd) :=
  if a1 = 0 then (some (0, σ)) else (if a2 = 0 then (some (0, σ)) else (if a1 = 1 then (some (a2, σ)) else (if a2 = 1 then (some (a1, σ)) else (if a1 = a2 then (some (a1, σ)) else ((f_X2_made N 1 a1 a2 σ).bind fun p1 => some (p1.1, p1.2))))))
def a_X2_and (N : Nat) : List Value → Wd → Option (Int32 × Wd) := fun as σ => kSE 4 as (fun r0 => kSI r0 (fun b1 r1 => kSI r1 (fun b2 r2 => kS0 r2 (f_X2_and N b1 b2 σ)))) (none)
def ct_X2_and (N : Nat) : List (Nat × Cal) := [(120, 4, 2, .inl (a_X2_made N))]
set_option maxRecDepth 200000 in
theorem md_X2_and (N : Nat) : MDOK T_X2_and ft_X2 lt_X2 (ct_X2_and N) cX2_and RX2 2 := ⟨tc_X2_and, fc_X2, lc_X2, List.forall_mem_cons.mpr ⟨Or.inl ⟨yX2_made, cX2_made, 8, (some .int), 1, k_X2_120, Nat.le_of_ble_eq_true rfl, C_X2_made N⟩, (fun _ z => absurd z List.not_mem_nil)⟩⟩
set_option maxRecDepth 200000 in
theorem C_X2_and (N : Nat) : CTI 2 yX2_and cX2_and 3 (some .int) (a_X2_and N) := by
  refine CTI.of (own := RX2) (by decide) rfl (fun as σ r h => ?_)
  unfold a_X2_and at h
  rcases kSE_s h with ⟨r0, rfl, h0⟩ | hn
  ·
    obtain ⟨b1, r1, rfl, h1⟩ := kSI_s h0
    obtain ⟨b2, r2, rfl, h2⟩ := kSI_s h1
    obtain ⟨rfl, h9⟩ := kS0_s h2
    exact ⟨Nat.le_of_ble_eq_true rfl, by refine GO.to (md_X2_and N) (kl := []) ((fun _ z => absurd z List.not_mem_nil)) 30 ?_ ?_ <;> rfl⟩
  cases hn
def T_X2_or : List (Nat × Ent) := [(0, .iload_n 1, 1, []), (1, .iconst 1, 2, []), (2, .if_icmp .eq 8, 5, [10]), (5, .iload_n 2, 6, []), (6, .iconst 1, 7, []), (7, .if_icmp .ne 5, 10, [12]), (10, .iconst 1, 11, []), (11, .ireturn, 12, []), (12, .iload_n 1, 13, []), (13, .ifCond .ne 5, 16, [18]), (16, .iload_n 2, 17, []), (17, .ireturn, 18, []), (18, .iload_n 2, 19, []), (19, .ifCond .eq 8, 22, [27]), (22, .iload_n 1, 23, []), (23, .iload_n 2, 24, []), (24, .if_icmp .ne 7, 27, [31]), (27, .iload_n 1, 28, []), (28, .goto 10, 31, [38]), (31, .aload_n 0, 32, []), (32, .iconst 2, 33, []), (33, .iload_n 1, 34, []), (34, .iload_n 2, 35, []), (35, .invokevirtual 120, 38, []), (38, .ireturn, 39, [])]
set_option maxRecDepth 200000 in
theorem tc_X2_or : T_X2_or.all (chk cX2_or) = true := by decide +kernel
def f_X2_or (N : Nat) (a1 : Int32) (a2 : Int32) (σ : Wd) : Option (Int32 × Wd) :=
  if a1 = 1 then (some (1, σ)) else (if a2 = 1 then (some (1, σ)) else (if a1 = 0 then (some (a2, σ)) else (if a2 = 0 then (some (a1, σ)) else (if a1 = a2 then (some (a1, σ)) else ((f_X2_made N 2 a1 a2 σ).bind fun p1 => some (p1.1, p1.2))))))
def a_X2_or (N : Nat) : List Value → Wd → Option (Int32 × Wd) := fun as σ => kSE 4 as (fun r0 => kSI r0 (fun b1 r1 => kSI r1 (fun b2 r2 => kS0 r2 (f_X2_or N b1 b2 σ)))) (none)
def ct_X2_or (N : Nat) : List (Nat × Cal) := [(120, 4, 2, .inl (a_X2_made N))]
set_option maxRecDepth 200000 in
theorem md_X2_or (N : Nat) : MDOK T_X2_or ft_X2 lt_X2 (ct_X2_or N) cX2_or RX2 2 := ⟨tc_X2_or, fc_X2, lc_X2, List.forall_mem_cons.mpr ⟨Or.inl ⟨yX2_made, cX2_made, 8, (some .int), 1, k_X2_120, Nat.le_of_ble_eq_true rfl, C_X2_made N⟩, (fun _ z => absurd z List.not_mem_nil)⟩⟩
set_option maxRecDepth 200000 in
theorem C_X2_or (N : Nat) : CTI 2 yX2_or cX2_or 3 (some .int) (a_X2_or N) := by
  refine CTI.of (own := RX2) (by decide) rfl (fun as σ r h => ?_)
  unfold a_X2_or at h
  rcases kSE_s h with ⟨r0, rfl, h0⟩ | hn
  ·
    obtain ⟨b1, r1, rfl, h1⟩ := kSI_s h0
    obtain ⟨b2, r2, rfl, h2⟩ := kSI_s h1
    obtain ⟨rfl, h9⟩ := kS0_s h2
    exact ⟨Nat.le_of_ble_eq_true rfl, by refine GO.to (md_X2_or N) (kl := []) ((fun _ z => absurd z List.not_mem_nil)) 30 ?_ ?_ <;> rfl⟩
  cases hn
def T_X2_xor : List (Nat × Ent) := [(0, .iload_n 1, 1, []), (1, .iload_n 2, 2, []), (2, .if_icmp .ne 5, 5, [7]), (5, .iconst 0, 6, []), (6, .ireturn, 7, []), (7, .iload_n 1, 8, []), (8, .ifCond .ne 5, 11, [13]), (11, .iload_n 2, 12, []), (12, .ireturn, 13, []), (13, .iload_n 2, 14, []), (14, .ifCond .ne 5, 17, [19]), (17, .iload_n 1, 18, []), (18, .ireturn, 19, []), (19, .iload_n 1, 20, []), (20, .iconst 1, 21, []), (21, .if_icmp .ne 11, 24, [32]), (24, .aload_n 0, 25, []), (25, .iconst 0, 26, []), (26, .iload_n 2, 27, []), (27, .iload_n 2, 28, []), (28, .invokevirtual 120, 31, []), (31, .ireturn, 32, []), (32, .iload_n 2, 33, []), (33, .iconst 1, 34, []), (34, .if_icmp .ne 13, 37, [47]), (37, .aload_n 0, 38, []), (38, .iconst 0, 39, []), (39, .iload_n 1, 40, []), (40, .iload_n 1, 41, []), (41, .invokevirtual 120, 44, []), (44, .goto 10, 47, [54]), (47, .aload_n 0, 48, []), (48, .iconst 3, 49, []), (49, .iload_n 1, 50, []), (50, .iload_n 2, 51, []), (51, .invokevirtual 120, 54, []), (54, .ireturn, 55, [])]
set_option maxRecDepth 200000 in
theorem tc_X2_xor : T_X2_xor.all (chk cX2_xor) = true := by decide +kernel
def f_X2_xor (N : Nat) (a1 : Int32) (a2 : Int32) (σ : Wd) : Option (Int32 × Wd) :=
  if a1 = a2 then (some (0, σ)) else (if a1 = 0 then (some (a2, σ)) else (if a2 = 0 then (some (a1, σ)) else (if a1 = 1 then ((f_X2_made N 0 a2 a2 σ).bind fun p1 => some (p1.1, p1.2)) else (if a2 = 1 then ((f_X2_made N 0 a1 a1 σ).bind fun p2 => some (p2.1, p2.2)) else ((f_X2_made N 3 a1 a2 σ).bind fun p3 => some (p3.1, p3.2))))))
def a_X2_xor (N : Nat) : List Value → Wd → Option (Int32 × Wd) := fun as σ => kSE 4 as (fun r0 => kSI r0 (fun b1 r1 => kSI r1 (fun b2 r2 => kS0 r2 (f_X2_xor N b1 b2 σ)))) (none)
def ct_X2_xor (N : Nat) : List (Nat × Cal) := [(120, 4, 2, .inl (a_X2_made N))]
set_option maxRecDepth 200000 in
theorem md_X2_xor (N : Nat) : MDOK T_X2_xor ft_X2 lt_X2 (ct_X2_xor N) cX2_xor RX2 2 := ⟨tc_X2_xor, fc_X2, lc_X2, List.forall_mem_cons.mpr ⟨Or.inl ⟨yX2_made, cX2_made, 8, (some .int), 1, k_X2_120, Nat.le_of_ble_eq_true rfl, C_X2_made N⟩, (fun _ z => absurd z List.not_mem_nil)⟩⟩
set_option maxRecDepth 200000 in
theorem C_X2_xor (N : Nat) : CTI 2 yX2_xor cX2_xor 3 (some .int) (a_X2_xor N) := by
  refine CTI.of (own := RX2) (by decide) rfl (fun as σ r h => ?_)
  unfold a_X2_xor at h
  rcases kSE_s h with ⟨r0, rfl, h0⟩ | hn
  ·
    obtain ⟨b1, r1, rfl, h1⟩ := kSI_s h0
    obtain ⟨b2, r2, rfl, h2⟩ := kSI_s h1
    obtain ⟨rfl, h9⟩ := kS0_s h2
    exact ⟨Nat.le_of_ble_eq_true rfl, by refine GO.to (md_X2_xor N) (kl := []) ((fun _ z => absurd z List.not_mem_nil)) 42 ?_ ?_ <;> rfl⟩
  cases hn
def T_X2_ripple : List (Nat × Ent) := [(0, .iload_n 3, 1, []), (1, .istore 5, 3, []), (3, .iload_n 1, 4, []), (4, .istore 6, 6, []), (6, .iload 6, 8, []), (8, .iload_n 2, 9, []), (9, .if_icmp .gt 53, 12, [62]), (12, .aload 4, 14, []), (14, .iload 6, 16, []), (16, .aload_n 0, 17, []), (17, .aload_n 0, 18, []), (18, .getfield 37, 21, []), (21, .iload 6, 23, []), (23, .iaload, 24, []), (24, .iload 5, 26, []), (26, .invokevirtual 76, 29, []), (29, .iastore, 30, []), (30, .aload_n 0, 31, []), (31, .aload_n 0, 32, []), (32, .getfield 40, 35, []), (35, .iload 6, 37, []), (37, .iaload, 38, []), (38, .aload_n 0, 39, []), (39, .aload_n 0, 40, []), (40, .getfield 37, 43, []), (43, .iload 6, 45, []), (45, .iaload, 46, []), (46, .iload 5, 48, []), (48, .invokevirtual 80, 51, []), (51, .invokevirtual 110, 54, []), (54, .istore 5, 56, []), (56, .iinc 6 1, 59, []), (59, .goto (-53), 62, [6]), (62, .iload 5, 64, []), (64, .ireturn, 65, [])]
set_option maxRecDepth 200000 in
theorem tc_X2_ripple : T_X2_ripple.all (chk cX2_ripple) = true := by decide +kernel
def f_X2_ripple_L6 (N : Nat) (K4 K4L : Nat) (KO62 : Int32 → Wd → Option (Int32 × Wd)) : Nat → Int32 → Int32 → Int32 → Wd → Option (Int32 × Wd)
  | 0, _, _, _, _ => none
  | n + 1, x2, x5, x6, σ => if x2 < x6 then (KO62 x5 σ) else ((xld σ 26 12 x6).bind fun v1 => (f_X2_xor N v1 x5 σ).bind fun p2 => (xst p2.2 K4 K4L x6 p2.1).bind fun σ3 => (xld σ3 27 12 x6).bind fun v4 => (xld σ3 26 12 x6).bind fun v5 => (f_X2_and N v5 x5 σ3).bind fun p6 => (f_X2_or N v4 p6.1 p6.2).bind fun p7 => f_X2_ripple_L6 N K4 K4L KO62 n x2 p7.1 (x6 + 1) p7.2)
def f_X2_ripple_J62 (N : Nat) (K4 K4L : Nat) (x5 : Int32) (σ : Wd) : Option (Int32 × Wd) :=
  some (x5, σ)
def f_X2_ripple (N : Nat) (K4 K4L : Nat) (a1 : Int32) (a2 : Int32) (a3 : Int32) (σ : Wd) : Option (Int32 × Wd) :=
  f_X2_ripple_L6 N K4 K4L (f_X2_ripple_J62 N K4 K4L) N a2 a3 a1 σ
def a_X2_ripple (N : Nat) : List Value → Wd → Option (Int32 × Wd) := fun as σ => kSE 4 as (fun r0 => kSI r0 (fun b1 r1 => kSI r1 (fun b2 r2 => kSI r2 (fun b3 r3 => kSE 22 r3 (fun r4 => kS0 r4 (f_X2_ripple N 22 12 b1 b2 b3 σ)) (kSE 28 r3 (fun r4 => kS0 r4 (f_X2_ripple N 28 12 b1 b2 b3 σ)) (kSE 29 r3 (fun r4 => kS0 r4 (f_X2_ripple N 29 12 b1 b2 b3 σ)) (none))))))) (none)
set_option maxRecDepth 200000 in
theorem k_X2_76 : calchk RX2 76 3 2 yX2_xor cX2_xor 3 (some .int) = true := by decide +kernel
set_option maxRecDepth 200000 in
theorem k_X2_80 : calchk RX2 80 3 2 yX2_and cX2_and 3 (some .int) = true := by decide +kernel
set_option maxRecDepth 200000 in
theorem k_X2_110 : calchk RX2 110 3 2 yX2_or cX2_or 3 (some .int) = true := by decide +kernel
def ct_X2_ripple (N : Nat) : List (Nat × Cal) := [(76, 3, 2, .inl (a_X2_xor N)), (80, 3, 2, .inl (a_X2_and N)), (110, 3, 2, .inl (a_X2_or N))]
set_option maxRecDepth 200000 in
theorem md_X2_ripple (N : Nat) : MDOK T_X2_ripple ft_X2 lt_X2 (ct_X2_ripple N) cX2_ripple RX2 3 := ⟨tc_X2_ripple, fc_X2, lc_X2, List.forall_mem_cons.mpr ⟨Or.inl ⟨yX2_xor, cX2_xor, 3, (some .int), 2, k_X2_76, Nat.le_of_ble_eq_true rfl, C_X2_xor N⟩, List.forall_mem_cons.mpr ⟨Or.inl ⟨yX2_and, cX2_and, 3, (some .int), 2, k_X2_80, Nat.le_of_ble_eq_true rfl, C_X2_and N⟩, List.forall_mem_cons.mpr ⟨Or.inl ⟨yX2_or, cX2_or, 3, (some .int), 2, k_X2_110, Nat.le_of_ble_eq_true rfl, C_X2_or N⟩, (fun _ z => absurd z List.not_mem_nil)⟩⟩⟩⟩
set_option maxRecDepth 200000 in
theorem g_X2_ripple_L6 (N : Nat) (K4 K4L : Nat) (hK4 : (K4 = 22 ∧ K4L = 12) ∨ (K4 = 28 ∧ K4L = 12) ∨ (K4 = 29 ∧ K4L = 12)) (KO62 : Int32 → Wd → Option (Int32 × Wd)) (hKO62 : ∀ (x5 : Int32) (σ : Wd), GO cX2_ripple RX2 7 3 sc0 rI nJ0 nV0 (KO62 x5 σ) 62 (mkp 0 7 [(5, .int x5)]) [] σ) : ∀ (n : Nat), ∀ (x2 : Int32) (x5 : Int32) (x6 : Int32) (σ : Wd), GO cX2_ripple RX2 7 3 sc0 rI nJ0 nV0 (f_X2_ripple_L6 N K4 K4L KO62 n x2 x5 x6 σ) 6 (mkp 0 7 [(0, .ref 4), (2, .int x2), (4, .ref K4), (5, .int x5), (6, .int x6)]) [] σ
  | 0, x2, x5, x6, σ => GO.none
  | n + 1, x2, x5, x6, σ => by
    rcases hK4 with ⟨rfl, rfl⟩ | ⟨rfl, rfl⟩ | ⟨rfl, rfl⟩
    · exact (by refine GO.to (md_X2_ripple N) (kl := [(62, fun vs st σ => kS0 st (kI 5 vs (fun x5 => KO62 x5 σ))), (6, fun vs st σ => kS0 st (kA 0 4 vs (kI 2 vs (fun x2 => kA 4 22 vs (kI 5 vs (fun x5 => kI 6 vs (fun x6 => f_X2_ripple_L6 N 22 12 KO62 n x2 x5 x6 σ)))))))]) (List.forall_mem_cons.mpr ⟨fun vs st σ => go_kS0 (go_kI (fun x5 h5 => GO.pat [(5, .int x5)] ⟨h5, trivial⟩ (hKO62 x5 σ))), List.forall_mem_cons.mpr ⟨fun vs st σ => go_kS0 (go_kA (fun h0 => go_kI (fun x2 h2 => go_kA (fun h4 => go_kI (fun x5 h5 => go_kI (fun x6 h6 => GO.pat [(0, .ref 4), (2, .int x2), (4, .ref 22), (5, .int x5), (6, .int x6)] ⟨h0, h2, h4, h5, h6, trivial⟩ (g_X2_ripple_L6 N 22 12 (Or.inl ⟨rfl, rfl⟩) KO62 hKO62 n x2 x5 x6 σ))))))), (fun _ z => absurd z List.not_mem_nil)⟩⟩) 40 ?_ ?_ <;> rfl)
    · exact (by refine GO.to (md_X2_ripple N) (kl := [(62, fun vs st σ => kS0 st (kI 5 vs (fun x5 => KO62 x5 σ))), (6, fun vs st σ => kS0 st (kA 0 4 vs (kI 2 vs (fun x2 => kA 4 28 vs (kI 5 vs (fun x5 => kI 6 vs (fun x6 => f_X2_ripple_L6 N 28 12 KO62 n x2 x5 x6 σ)))))))]) (List.forall_mem_cons.mpr ⟨fun vs st σ => go_kS0 (go_kI (fun x5 h5 => GO.pat [(5, .int x5)] ⟨h5, trivial⟩ (hKO62 x5 σ))), List.forall_mem_cons.mpr ⟨fun vs st σ => go_kS0 (go_kA (fun h0 => go_kI (fun x2 h2 => go_kA (fun h4 => go_kI (fun x5 h5 => go_kI (fun x6 h6 => GO.pat [(0, .ref 4), (2, .int x2), (4, .ref 28), (5, .int x5), (6, .int x6)] ⟨h0, h2, h4, h5, h6, trivial⟩ (g_X2_ripple_L6 N 28 12 (Or.inr (Or.inl ⟨rfl, rfl⟩)) KO62 hKO62 n x2 x5 x6 σ))))))), (fun _ z => absurd z List.not_mem_nil)⟩⟩) 40 ?_ ?_ <;> rfl)
    · exact (by refine GO.to (md_X2_ripple N) (kl := [(62, fun vs st σ => kS0 st (kI 5 vs (fun x5 => KO62 x5 σ))), (6, fun vs st σ => kS0 st (kA 0 4 vs (kI 2 vs (fun x2 => kA 4 29 vs (kI 5 vs (fun x5 => kI 6 vs (fun x6 => f_X2_ripple_L6 N 29 12 KO62 n x2 x5 x6 σ)))))))]) (List.forall_mem_cons.mpr ⟨fun vs st σ => go_kS0 (go_kI (fun x5 h5 => GO.pat [(5, .int x5)] ⟨h5, trivial⟩ (hKO62 x5 σ))), List.forall_mem_cons.mpr ⟨fun vs st σ => go_kS0 (go_kA (fun h0 => go_kI (fun x2 h2 => go_kA (fun h4 => go_kI (fun x5 h5 => go_kI (fun x6 h6 => GO.pat [(0, .ref 4), (2, .int x2), (4, .ref 29), (5, .int x5), (6, .int x6)] ⟨h0, h2, h4, h5, h6, trivial⟩ (g_X2_ripple_L6 N 29 12 (Or.inr (Or.inr ⟨rfl, rfl⟩)) KO62 hKO62 n x2 x5 x6 σ))))))), (fun _ z => absurd z List.not_mem_nil)⟩⟩) 40 ?_ ?_ <;> rfl)
set_option maxRecDepth 200000 in
theorem g_X2_ripple_J62 (N : Nat) (K4 K4L : Nat) (hK4 : (K4 = 22 ∧ K4L = 12) ∨ (K4 = 28 ∧ K4L = 12) ∨ (K4 = 29 ∧ K4L = 12)) (x5 : Int32) (σ : Wd) : GO cX2_ripple RX2 7 3 sc0 rI nJ0 nV0 (f_X2_ripple_J62 N K4 K4L x5 σ) 62 (mkp 0 7 [(5, .int x5)]) [] σ := by
  rcases hK4 with ⟨rfl, rfl⟩ | ⟨rfl, rfl⟩ | ⟨rfl, rfl⟩
  · exact (by refine GO.to (md_X2_ripple N) (kl := []) ((fun _ z => absurd z List.not_mem_nil)) 40 ?_ ?_ <;> rfl)
  · exact (by refine GO.to (md_X2_ripple N) (kl := []) ((fun _ z => absurd z List.not_mem_nil)) 40 ?_ ?_ <;> rfl)
  · exact (by refine GO.to (md_X2_ripple N) (kl := []) ((fun _ z => absurd z List.not_mem_nil)) 40 ?_ ?_ <;> rfl)
set_option maxRecDepth 200000 in
theorem C_X2_ripple (N : Nat) : CTI 3 yX2_ripple cX2_ripple 7 (some .int) (a_X2_ripple N) := by
  refine CTI.of (own := RX2) (by decide) rfl (fun as σ r h => ?_)
  unfold a_X2_ripple at h
  rcases kSE_s h with ⟨r0, rfl, h0⟩ | hn
  ·
    obtain ⟨b1, r1, rfl, h1⟩ := kSI_s h0
    obtain ⟨b2, r2, rfl, h2⟩ := kSI_s h1
    obtain ⟨b3, r3, rfl, h3⟩ := kSI_s h2
    rcases kSE_s h3 with ⟨r4, rfl, h4⟩ | h3n
    ·
      obtain ⟨rfl, h9⟩ := kS0_s h4
      exact ⟨Nat.le_of_ble_eq_true rfl, by refine GO.to (md_X2_ripple N) (kl := [(6, fun vs st σ => kS0 st (kA 0 4 vs (kI 2 vs (fun x2 => kA 4 22 vs (kI 5 vs (fun x5 => kI 6 vs (fun x6 => f_X2_ripple_L6 N 22 12 (f_X2_ripple_J62 N 22 12) N x2 x5 x6 σ)))))))]) (List.forall_mem_cons.mpr ⟨fun vs st σ => go_kS0 (go_kA (fun h0 => go_kI (fun x2 h2 => go_kA (fun h4 => go_kI (fun x5 h5 => go_kI (fun x6 h6 => GO.pat [(0, .ref 4), (2, .int x2), (4, .ref 22), (5, .int x5), (6, .int x6)] ⟨h0, h2, h4, h5, h6, trivial⟩ (g_X2_ripple_L6 N 22 12 (Or.inl ⟨rfl, rfl⟩) (f_X2_ripple_J62 N 22 12) (g_X2_ripple_J62 N 22 12 (Or.inl ⟨rfl, rfl⟩)) N x2 x5 x6 σ))))))), (fun _ z => absurd z List.not_mem_nil)⟩) 40 ?_ ?_ <;> rfl⟩
    rcases kSE_s h3n with ⟨r4, rfl, h4⟩ | h3nn
    ·
      obtain ⟨rfl, h9⟩ := kS0_s h4
      exact ⟨Nat.le_of_ble_eq_true rfl, by refine GO.to (md_X2_ripple N) (kl := [(6, fun vs st σ => kS0 st (kA 0 4 vs (kI 2 vs (fun x2 => kA 4 28 vs (kI 5 vs (fun x5 => kI 6 vs (fun x6 => f_X2_ripple_L6 N 28 12 (f_X2_ripple_J62 N 28 12) N x2 x5 x6 σ)))))))]) (List.forall_mem_cons.mpr ⟨fun vs st σ => go_kS0 (go_kA (fun h0 => go_kI (fun x2 h2 => go_kA (fun h4 => go_kI (fun x5 h5 => go_kI (fun x6 h6 => GO.pat [(0, .ref 4), (2, .int x2), (4, .ref 28), (5, .int x5), (6, .int x6)] ⟨h0, h2, h4, h5, h6, trivial⟩ (g_X2_ripple_L6 N 28 12 (Or.inr (Or.inl ⟨rfl, rfl⟩)) (f_X2_ripple_J62 N 28 12) (g_X2_ripple_J62 N 28 12 (Or.inr (Or.inl ⟨rfl, rfl⟩))) N x2 x5 x6 σ))))))), (fun _ z => absurd z List.not_mem_nil)⟩) 40 ?_ ?_ <;> rfl⟩
    rcases kSE_s h3nn with ⟨r4, rfl, h4⟩ | h3nnn
    ·
      obtain ⟨rfl, h9⟩ := kS0_s h4
      exact ⟨Nat.le_of_ble_eq_true rfl, by refine GO.to (md_X2_ripple N) (kl := [(6, fun vs st σ => kS0 st (kA 0 4 vs (kI 2 vs (fun x2 => kA 4 29 vs (kI 5 vs (fun x5 => kI 6 vs (fun x6 => f_X2_ripple_L6 N 29 12 (f_X2_ripple_J62 N 29 12) N x2 x5 x6 σ)))))))]) (List.forall_mem_cons.mpr ⟨fun vs st σ => go_kS0 (go_kA (fun h0 => go_kI (fun x2 h2 => go_kA (fun h4 => go_kI (fun x5 h5 => go_kI (fun x6 h6 => GO.pat [(0, .ref 4), (2, .int x2), (4, .ref 29), (5, .int x5), (6, .int x6)] ⟨h0, h2, h4, h5, h6, trivial⟩ (g_X2_ripple_L6 N 29 12 (Or.inr (Or.inr ⟨rfl, rfl⟩)) (f_X2_ripple_J62 N 29 12) (g_X2_ripple_J62 N 29 12 (Or.inr (Or.inr ⟨rfl, rfl⟩))) N x2 x5 x6 σ))))))), (fun _ z => absurd z List.not_mem_nil)⟩) 40 ?_ ?_ <;> rfl⟩
    cases h3nnn
  cases hn
def T_X2_span : List (Nat × Ent) := [(0, .iload_n 1, 1, []), (1, .iload_n 2, 2, []), (2, .if_icmp .lt 23, 5, [25]), (5, .iload_n 3, 6, []), (6, .ifCond .eq 12, 9, [18]), (9, .aload_n 0, 10, []), (10, .getfield 40, 13, []), (13, .iload_n 1, 14, []), (14, .iaload, 15, []), (15, .goto 9, 18, [24]), (18, .aload_n 0, 19, []), (19, .getfield 37, 22, []), (22, .iload_n 1, 23, []), (23, .iaload, 24, []), (24, .ireturn, 25, []), (25, .iload_n 1, 26, []), (26, .iload_n 2, 27, []), (27, .iadd, 28, []), (28, .iconst 2, 29, []), (29, .idiv, 30, []), (30, .istore 4, 32, []), (32, .aload_n 0, 33, []), (33, .iload 4, 35, []), (35, .iconst 1, 36, []), (36, .iadd, 37, []), (37, .iload_n 2, 38, []), (38, .iconst 0, 39, []), (39, .invokestatic 116, 42, []), (42, .istore 5, 44, []), (44, .iload_n 3, 45, []), (45, .ifCond .ne 18, 48, [63]), (48, .aload_n 0, 49, []), (49, .iload 5, 51, []), (51, .aload_n 0, 52, []), (52, .iload_n 1, 53, []), (53, .iload 4, 55, []), (55, .iconst 0, 56, []), (56, .invokestatic 116, 59, []), (59, .invokevirtual 80, 62, []), (62, .ireturn, 63, []), (63, .aload_n 0, 64, []), (64, .aload_n 0, 65, []), (65, .iload 4, 67, []), (67, .iconst 1, 68, []), (68, .iadd, 69, []), (69, .iload_n 2, 70, []), (70, .iconst 1, 71, []), (71, .invokestatic 116, 74, []), (74, .aload_n 0, 75, []), (75, .iload 5, 77, []), (77, .aload_n 0, 78, []), (78, .iload_n 1, 79, []), (79, .iload 4, 81, []), (81, .iconst 1, 82, []), (82, .invokestatic 116, 85, []), (85, .invokevirtual 80, 88, []), (88, .invokevirtual 110, 91, []), (91, .ireturn, 92, [])]
set_option maxRecDepth 200000 in
theorem tc_X2_span : T_X2_span.all (chk cX2_span) = true := by decide +kernel
def f_X2_span (N : Nat) : Nat → Int32 → Int32 → Int32 → Wd → Option (Int32 × Wd)
  | 0, _, _, _, _ => none
  | d + 1, a1, a2, a3, σ => if a1 < a2 then (((f_X2_span N d) (((a1 + a2) / 2) + 1) a2 0 σ).bind fun p1 => if a3 = 0 then (((f_X2_span N d) a1 ((a1 + a2) / 2) 0 p1.2).bind fun p2 => (f_X2_and N p1.1 p2.1 p2.2).bind fun p3 => some (p3.1, p3.2)) else (((f_X2_span N d) (((a1 + a2) / 2) + 1) a2 1 p1.2).bind fun p4 => ((f_X2_span N d) a1 ((a1 + a2) / 2) 1 p4.2).bind fun p5 => (f_X2_and N p1.1 p5.1 p5.2).bind fun p6 => (f_X2_or N p4.1 p6.1 p6.2).bind fun p7 => some (p7.1, p7.2))) else (if a3 = 0 then ((xld σ 26 12 a1).bind fun v8 => some (v8, σ)) else ((xld σ 27 12 a1).bind fun v9 => some (v9, σ)))
def aR_X2_span (REC : Int32 → Int32 → Int32 → Wd → Option (Int32 × Wd)) : List Value → Wd → Option (Int32 × Wd) := fun as σ => kSE 4 as (fun r0 => kSI r0 (fun b1 r1 => kSI r1 (fun b2 r2 => kSI r2 (fun b3 r3 => kS0 r3 (REC b1 b2 b3 σ))))) (none)
def a_X2_span (N d : Nat) : List Value → Wd → Option (Int32 × Wd) := aR_X2_span (f_X2_span N d)
set_option maxRecDepth 200000 in
theorem k_X2_116 : calchk RX2 116 4 0 yX2_span cX2_span 6 (some .int) = true := by decide +kernel
def ct_X2_span (N : Nat) (REC : Int32 → Int32 → Int32 → Wd → Option (Int32 × Wd)) : List (Nat × Cal) := [(116, 4, 0, .inl (aR_X2_span REC)), (80, 3, 2, .inl (a_X2_and N)), (110, 3, 2, .inl (a_X2_or N))]
set_option maxRecDepth 200000 in
theorem md_X2_span (N : Nat) (REC : Int32 → Int32 → Int32 → Wd → Option (Int32 × Wd)) (lv0 : Nat) (hlv : 2 ≤ lv0) (hREC : CTI lv0 yX2_span cX2_span 6 (some .int) (aR_X2_span REC)) : MDOK T_X2_span ft_X2 lt_X2 (ct_X2_span N REC) cX2_span RX2 (lv0 + 1) := ⟨tc_X2_span, fc_X2, lc_X2, List.forall_mem_cons.mpr ⟨Or.inl ⟨yX2_span, cX2_span, 6, (some .int), lv0, k_X2_116, Nat.le_refl _, hREC⟩, List.forall_mem_cons.mpr ⟨Or.inl ⟨yX2_and, cX2_and, 3, (some .int), 2, k_X2_80, by omega, C_X2_and N⟩, List.forall_mem_cons.mpr ⟨Or.inl ⟨yX2_or, cX2_or, 3, (some .int), 2, k_X2_110, by omega, C_X2_or N⟩, (fun _ z => absurd z List.not_mem_nil)⟩⟩⟩⟩
set_option maxRecDepth 200000 in
theorem C_X2_span (N : Nat) : ∀ d : Nat, CTI (3 + d) yX2_span cX2_span 6 (some .int) (a_X2_span N d)
  | 0 => by
    refine CTI.of (own := RX2) (by decide) rfl (fun as σ r h => ?_)
    unfold a_X2_span aR_X2_span at h
    rcases kSE_s h with ⟨r0, rfl, h0⟩ | hn
    ·
      obtain ⟨b1, r1, rfl, h1⟩ := kSI_s h0
      obtain ⟨b2, r2, rfl, h2⟩ := kSI_s h1
      obtain ⟨b3, r3, rfl, h3⟩ := kSI_s h2
      obtain ⟨rfl, h9⟩ := kS0_s h3
      exact ⟨Nat.le_of_ble_eq_true rfl, GO.none⟩
    cases hn
  | d + 1 => by
    refine CTI.of (own := RX2) (by decide) rfl (fun as σ r h => ?_)
    unfold a_X2_span aR_X2_span at h
    rcases kSE_s h with ⟨r0, rfl, h0⟩ | hn
    ·
      obtain ⟨b1, r1, rfl, h1⟩ := kSI_s h0
      obtain ⟨b2, r2, rfl, h2⟩ := kSI_s h1
      obtain ⟨b3, r3, rfl, h3⟩ := kSI_s h2
      obtain ⟨rfl, h9⟩ := kS0_s h3
      exact ⟨Nat.le_of_ble_eq_true rfl, by refine GO.to (md_X2_span N (f_X2_span N d) (3 + d) (by omega) (C_X2_span N d)) (kl := []) ((fun _ z => absurd z List.not_mem_nil)) 63 ?_ ?_ <;> rfl⟩
    cases hn
def T_X2_laySkip : List (Nat × Ent) := [(0, .aload_n 0, 1, []), (1, .getfield 56, 4, []), (4, .istore_n 3, 5, []), (5, .aload_n 0, 6, []), (6, .iload_n 1, 7, []), (7, .iload_n 2, 8, []), (8, .iload_n 3, 9, []), (9, .aload_n 0, 10, []), (10, .getfield 25, 13, []), (13, .invokevirtual 92, 16, []), (16, .istore 4, 18, []), (18, .aload_n 0, 19, []), (19, .getfield 37, 22, []), (22, .iload_n 1, 23, []), (23, .iaload, 24, []), (24, .istore 5, 26, []), (26, .iload_n 1, 27, []), (27, .iconst 1, 28, []), (28, .iadd, 29, []), (29, .istore 6, 31, []), (31, .iload 6, 33, []), (33, .iload_n 2, 34, []), (34, .if_icmp .gt 24, 37, [58]), (37, .aload_n 0, 38, []), (38, .iload 5, 40, []), (40, .aload_n 0, 41, []), (41, .getfield 37, 44, []), (44, .iload 6, 46, []), (46, .iaload, 47, []), (47, .invokevirtual 80, 50, []), (50, .istore 5, 52, []), (52, .iinc 6 1, 55, []), (55, .goto (-24), 58, [31]), (58, .aload_n 0, 59, []), (59, .iload 4, 61, []), (61, .aload_n 0, 62, []), (62, .iload 5, 64, []), (64, .iload_n 3, 65, []), (65, .invokevirtual 80, 68, []), (68, .invokevirtual 110, 71, []), (71, .ireturn, 72, [])]
set_option maxRecDepth 200000 in
theorem tc_X2_laySkip : T_X2_laySkip.all (chk cX2_laySkip) = true := by decide +kernel
def f_X2_laySkip_L31 (N : Nat) (KO58 : Int32 → Int32 → Int32 → Wd → Option (Int32 × Wd)) : Nat → Int32 → Int32 → Int32 → Int32 → Int32 → Wd → Option (Int32 × Wd)
  | 0, _, _, _, _, _, _ => none
  | n + 1, x2, x3, x4, x5, x6, σ => if x2 < x6 then (KO58 x3 x4 x5 σ) else ((xld σ 26 12 x6).bind fun v3 => (f_X2_and N x5 v3 σ).bind fun p4 => f_X2_laySkip_L31 N KO58 n x2 x3 x4 p4.1 (x6 + 1) p4.2)
def f_X2_laySkip_J58 (N : Nat) (x3 : Int32) (x4 : Int32) (x5 : Int32) (σ : Wd) : Option (Int32 × Wd) :=
  (f_X2_and N x5 x3 σ).bind fun p5 => (f_X2_or N x4 p5.1 p5.2).bind fun p6 => some (p6.1, p6.2)
def f_X2_laySkip (N : Nat) (a1 : Int32) (a2 : Int32) (σ : Wd) : Option (Int32 × Wd) :=
  (f_X2_ripple N 22 12 a1 a2 (σ.1 4 7) σ).bind fun p1 => (xld p1.2 26 12 a1).bind fun v2 => f_X2_laySkip_L31 N (f_X2_laySkip_J58 N) N a2 (σ.1 4 7) p1.1 v2 (a1 + 1) p1.2
def a_X2_laySkip (N : Nat) : List Value → Wd → Option (Int32 × Wd) := fun as σ => kSE 4 as (fun r0 => kSI r0 (fun b1 r1 => kSI r1 (fun b2 r2 => kS0 r2 (f_X2_laySkip N b1 b2 σ)))) (none)
set_option maxRecDepth 200000 in
theorem k_X2_92 : calchk RX2 92 5 2 yX2_ripple cX2_ripple 7 (some .int) = true := by decide +kernel
def ct_X2_laySkip (N : Nat) : List (Nat × Cal) := [(92, 5, 2, .inl (a_X2_ripple N)), (80, 3, 2, .inl (a_X2_and N)), (110, 3, 2, .inl (a_X2_or N))]
set_option maxRecDepth 200000 in
theorem md_X2_laySkip (N : Nat) : MDOK T_X2_laySkip ft_X2 lt_X2 (ct_X2_laySkip N) cX2_laySkip RX2 4 := ⟨tc_X2_laySkip, fc_X2, lc_X2, List.forall_mem_cons.mpr ⟨Or.inl ⟨yX2_ripple, cX2_ripple, 7, (some .int), 3, k_X2_92, Nat.le_of_ble_eq_true rfl, C_X2_ripple N⟩, List.forall_mem_cons.mpr ⟨Or.inl ⟨yX2_and, cX2_and, 3, (some .int), 2, k_X2_80, Nat.le_of_ble_eq_true rfl, C_X2_and N⟩, List.forall_mem_cons.mpr ⟨Or.inl ⟨yX2_or, cX2_or, 3, (some .int), 2, k_X2_110, Nat.le_of_ble_eq_true rfl, C_X2_or N⟩, (fun _ z => absurd z List.not_mem_nil)⟩⟩⟩⟩
set_option maxRecDepth 200000 in
theorem g_X2_laySkip_L31 (N : Nat) (KO58 : Int32 → Int32 → Int32 → Wd → Option (Int32 × Wd)) (hKO58 : ∀ (x3 : Int32) (x4 : Int32) (x5 : Int32) (σ : Wd), GO cX2_laySkip RX2 7 4 sc0 rI nJ0 nV0 (KO58 x3 x4 x5 σ) 58 (mkp 0 7 [(0, .ref 4), (3, .int x3), (4, .int x4), (5, .int x5)]) [] σ) : ∀ (n : Nat), ∀ (x2 : Int32) (x3 : Int32) (x4 : Int32) (x5 : Int32) (x6 : Int32) (σ : Wd), GO cX2_laySkip RX2 7 4 sc0 rI nJ0 nV0 (f_X2_laySkip_L31 N KO58 n x2 x3 x4 x5 x6 σ) 31 (mkp 0 7 [(0, .ref 4), (2, .int x2), (3, .int x3), (4, .int x4), (5, .int x5), (6, .int x6)]) [] σ
  | 0, x2, x3, x4, x5, x6, σ => GO.none
  | n + 1, x2, x3, x4, x5, x6, σ => by
    exact (by refine GO.to (md_X2_laySkip N) (kl := [(58, fun vs st σ => kS0 st (kA 0 4 vs (kI 3 vs (fun x3 => kI 4 vs (fun x4 => kI 5 vs (fun x5 => KO58 x3 x4 x5 σ)))))), (31, fun vs st σ => kS0 st (kA 0 4 vs (kI 2 vs (fun x2 => kI 3 vs (fun x3 => kI 4 vs (fun x4 => kI 5 vs (fun x5 => kI 6 vs (fun x6 => f_X2_laySkip_L31 N KO58 n x2 x3 x4 x5 x6 σ))))))))]) (List.forall_mem_cons.mpr ⟨fun vs st σ => go_kS0 (go_kA (fun h0 => go_kI (fun x3 h3 => go_kI (fun x4 h4 => go_kI (fun x5 h5 => GO.pat [(0, .ref 4), (3, .int x3), (4, .int x4), (5, .int x5)] ⟨h0, h3, h4, h5, trivial⟩ (hKO58 x3 x4 x5 σ)))))), List.forall_mem_cons.mpr ⟨fun vs st σ => go_kS0 (go_kA (fun h0 => go_kI (fun x2 h2 => go_kI (fun x3 h3 => go_kI (fun x4 h4 => go_kI (fun x5 h5 => go_kI (fun x6 h6 => GO.pat [(0, .ref 4), (2, .int x2), (3, .int x3), (4, .int x4), (5, .int x5), (6, .int x6)] ⟨h0, h2, h3, h4, h5, h6, trivial⟩ (g_X2_laySkip_L31 N KO58 hKO58 n x2 x3 x4 x5 x6 σ)))))))), (fun _ z => absurd z List.not_mem_nil)⟩⟩) 46 ?_ ?_ <;> rfl)
set_option maxRecDepth 200000 in
theorem g_X2_laySkip_J58 (N : Nat) (x3 : Int32) (x4 : Int32) (x5 : Int32) (σ : Wd) : GO cX2_laySkip RX2 7 4 sc0 rI nJ0 nV0 (f_X2_laySkip_J58 N x3 x4 x5 σ) 58 (mkp 0 7 [(0, .ref 4), (3, .int x3), (4, .int x4), (5, .int x5)]) [] σ := by
  exact (by refine GO.to (md_X2_laySkip N) (kl := []) ((fun _ z => absurd z List.not_mem_nil)) 46 ?_ ?_ <;> rfl)
set_option maxRecDepth 200000 in
theorem C_X2_laySkip (N : Nat) : CTI 4 yX2_laySkip cX2_laySkip 7 (some .int) (a_X2_laySkip N) := by
  refine CTI.of (own := RX2) (by decide) rfl (fun as σ r h => ?_)
  unfold a_X2_laySkip at h
  rcases kSE_s h with ⟨r0, rfl, h0⟩ | hn
  ·
    obtain ⟨b1, r1, rfl, h1⟩ := kSI_s h0
    obtain ⟨b2, r2, rfl, h2⟩ := kSI_s h1
    obtain ⟨rfl, h9⟩ := kS0_s h2
    exact ⟨Nat.le_of_ble_eq_true rfl, by refine GO.to (md_X2_laySkip N) (kl := [(31, fun vs st σ => kS0 st (kA 0 4 vs (kI 2 vs (fun x2 => kI 3 vs (fun x3 => kI 4 vs (fun x4 => kI 5 vs (fun x5 => kI 6 vs (fun x6 => f_X2_laySkip_L31 N (f_X2_laySkip_J58 N) N x2 x3 x4 x5 x6 σ))))))))]) (List.forall_mem_cons.mpr ⟨fun vs st σ => go_kS0 (go_kA (fun h0 => go_kI (fun x2 h2 => go_kI (fun x3 h3 => go_kI (fun x4 h4 => go_kI (fun x5 h5 => go_kI (fun x6 h6 => GO.pat [(0, .ref 4), (2, .int x2), (3, .int x3), (4, .int x4), (5, .int x5), (6, .int x6)] ⟨h0, h2, h3, h4, h5, h6, trivial⟩ (g_X2_laySkip_L31 N (f_X2_laySkip_J58 N) (g_X2_laySkip_J58 N) N x2 x3 x4 x5 x6 σ)))))))), (fun _ z => absurd z List.not_mem_nil)⟩) 46 ?_ ?_ <;> rfl⟩
  cases hn
def T_X2_laySelect : List (Nat × Ent) := [(0, .aload_n 0, 1, []), (1, .getfield 56, 4, []), (4, .istore_n 3, 5, []), (5, .aload_n 0, 6, []), (6, .iload_n 1, 7, []), (7, .iload_n 2, 8, []), (8, .iconst 0, 9, []), (9, .aload_n 0, 10, []), (10, .getfield 43, 13, []), (13, .invokevirtual 92, 16, []), (16, .istore 4, 18, []), (18, .aload_n 0, 19, []), (19, .iload_n 1, 20, []), (20, .iload_n 2, 21, []), (21, .iconst 1, 22, []), (22, .aload_n 0, 23, []), (23, .getfield 46, 26, []), (26, .invokevirtual 92, 29, []), (29, .istore 5, 31, []), (31, .iload_n 1, 32, []), (32, .istore 6, 34, []), (34, .iload 6, 36, []), (36, .iload_n 2, 37, []), (37, .if_icmp .gt 48, 40, [85]), (40, .aload_n 0, 41, []), (41, .getfield 25, 44, []), (44, .iload 6, 46, []), (46, .aload_n 0, 47, []), (47, .aload_n 0, 48, []), (48, .aload_n 0, 49, []), (49, .getfield 46, 52, []), (52, .iload 6, 54, []), (54, .iaload, 55, []), (55, .iload_n 3, 56, []), (56, .invokevirtual 80, 59, []), (59, .aload_n 0, 60, []), (60, .aload_n 0, 61, []), (61, .getfield 43, 64, []), (64, .iload 6, 66, []), (66, .iaload, 67, []), (67, .aload_n 0, 68, []), (68, .iload_n 3, 69, []), (69, .invokevirtual 113, 72, []), (72, .invokevirtual 80, 75, []), (75, .invokevirtual 110, 78, []), (78, .iastore, 79, []), (79, .iinc 6 1, 82, []), (82, .goto (-48), 85, [34]), (85, .aload_n 0, 86, []), (86, .iload 4, 88, []), (88, .aload_n 0, 89, []), (89, .iload 5, 91, []), (91, .iload_n 3, 92, []), (92, .invokevirtual 80, 95, []), (95, .invokevirtual 110, 98, []), (98, .ireturn, 99, [])]
set_option maxRecDepth 200000 in
theorem tc_X2_laySelect : T_X2_laySelect.all (chk cX2_laySelect) = true := by decide +kernel
def f_X2_laySelect_L34 (N : Nat) (KO85 : Int32 → Int32 → Int32 → Wd → Option (Int32 × Wd)) : Nat → Int32 → Int32 → Int32 → Int32 → Int32 → Wd → Option (Int32 × Wd)
  | 0, _, _, _, _, _, _ => none
  | n + 1, x2, x3, x4, x5, x6, σ => if x2 < x6 then (KO85 x3 x4 x5 σ) else ((xld σ 29 12 x6).bind fun v3 => (f_X2_and N v3 x3 σ).bind fun p4 => (xld p4.2 28 12 x6).bind fun v5 => (f_X2_not N x3 p4.2).bind fun p6 => (f_X2_and N v5 p6.1 p6.2).bind fun p7 => (f_X2_or N p4.1 p7.1 p7.2).bind fun p8 => (xst p8.2 22 12 x6 p8.1).bind fun σ9 => f_X2_laySelect_L34 N KO85 n x2 x3 x4 x5 (x6 + 1) σ9)
def f_X2_laySelect_J85 (N : Nat) (x3 : Int32) (x4 : Int32) (x5 : Int32) (σ : Wd) : Option (Int32 × Wd) :=
  (f_X2_and N x5 x3 σ).bind fun p10 => (f_X2_or N x4 p10.1 p10.2).bind fun p11 => some (p11.1, p11.2)
def f_X2_laySelect (N : Nat) (a1 : Int32) (a2 : Int32) (σ : Wd) : Option (Int32 × Wd) :=
  (f_X2_ripple N 28 12 a1 a2 0 σ).bind fun p1 => (f_X2_ripple N 29 12 a1 a2 1 p1.2).bind fun p2 => f_X2_laySelect_L34 N (f_X2_laySelect_J85 N) N a2 (σ.1 4 7) p1.1 p2.1 a1 p2.2
def a_X2_laySelect (N : Nat) : List Value → Wd → Option (Int32 × Wd) := fun as σ => kSE 4 as (fun r0 => kSI r0 (fun b1 r1 => kSI r1 (fun b2 r2 => kS0 r2 (f_X2_laySelect N b1 b2 σ)))) (none)
set_option maxRecDepth 200000 in
theorem k_X2_113 : calchk RX2 113 2 2 yX2_not cX2_not 2 (some .int) = true := by decide +kernel
def ct_X2_laySelect (N : Nat) : List (Nat × Cal) := [(92, 5, 2, .inl (a_X2_ripple N)), (80, 3, 2, .inl (a_X2_and N)), (113, 2, 2, .inl (a_X2_not N)), (110, 3, 2, .inl (a_X2_or N))]
set_option maxRecDepth 200000 in
theorem md_X2_laySelect (N : Nat) : MDOK T_X2_laySelect ft_X2 lt_X2 (ct_X2_laySelect N) cX2_laySelect RX2 4 := ⟨tc_X2_laySelect, fc_X2, lc_X2, List.forall_mem_cons.mpr ⟨Or.inl ⟨yX2_ripple, cX2_ripple, 7, (some .int), 3, k_X2_92, Nat.le_of_ble_eq_true rfl, C_X2_ripple N⟩, List.forall_mem_cons.mpr ⟨Or.inl ⟨yX2_and, cX2_and, 3, (some .int), 2, k_X2_80, Nat.le_of_ble_eq_true rfl, C_X2_and N⟩, List.forall_mem_cons.mpr ⟨Or.inl ⟨yX2_not, cX2_not, 2, (some .int), 2, k_X2_113, Nat.le_of_ble_eq_true rfl, C_X2_not N⟩, List.forall_mem_cons.mpr ⟨Or.inl ⟨yX2_or, cX2_or, 3, (some .int), 2, k_X2_110, Nat.le_of_ble_eq_true rfl, C_X2_or N⟩, (fun _ z => absurd z List.not_mem_nil)⟩⟩⟩⟩⟩
set_option maxRecDepth 200000 in
theorem g_X2_laySelect_L34 (N : Nat) (KO85 : Int32 → Int32 → Int32 → Wd → Option (Int32 × Wd)) (hKO85 : ∀ (x3 : Int32) (x4 : Int32) (x5 : Int32) (σ : Wd), GO cX2_laySelect RX2 7 4 sc0 rI nJ0 nV0 (KO85 x3 x4 x5 σ) 85 (mkp 0 7 [(0, .ref 4), (3, .int x3), (4, .int x4), (5, .int x5)]) [] σ) : ∀ (n : Nat), ∀ (x2 : Int32) (x3 : Int32) (x4 : Int32) (x5 : Int32) (x6 : Int32) (σ : Wd), GO cX2_laySelect RX2 7 4 sc0 rI nJ0 nV0 (f_X2_laySelect_L34 N KO85 n x2 x3 x4 x5 x6 σ) 34 (mkp 0 7 [(0, .ref 4), (2, .int x2), (3, .int x3), (4, .int x4), (5, .int x5), (6, .int x6)]) [] σ
  | 0, x2, x3, x4, x5, x6, σ => GO.none
  | n + 1, x2, x3, x4, x5, x6, σ => by
    exact (by refine GO.to (md_X2_laySelect N) (kl := [(85, fun vs st σ => kS0 st (kA 0 4 vs (kI 3 vs (fun x3 => kI 4 vs (fun x4 => kI 5 vs (fun x5 => KO85 x3 x4 x5 σ)))))), (34, fun vs st σ => kS0 st (kA 0 4 vs (kI 2 vs (fun x2 => kI 3 vs (fun x3 => kI 4 vs (fun x4 => kI 5 vs (fun x5 => kI 6 vs (fun x6 => f_X2_laySelect_L34 N KO85 n x2 x3 x4 x5 x6 σ))))))))]) (List.forall_mem_cons.mpr ⟨fun vs st σ => go_kS0 (go_kA (fun h0 => go_kI (fun x3 h3 => go_kI (fun x4 h4 => go_kI (fun x5 h5 => GO.pat [(0, .ref 4), (3, .int x3), (4, .int x4), (5, .int x5)] ⟨h0, h3, h4, h5, trivial⟩ (hKO85 x3 x4 x5 σ)))))), List.forall_mem_cons.mpr ⟨fun vs st σ => go_kS0 (go_kA (fun h0 => go_kI (fun x2 h2 => go_kI (fun x3 h3 => go_kI (fun x4 h4 => go_kI (fun x5 h5 => go_kI (fun x6 h6 => GO.pat [(0, .ref 4), (2, .int x2), (3, .int x3), (4, .int x4), (5, .int x5), (6, .int x6)] ⟨h0, h2, h3, h4, h5, h6, trivial⟩ (g_X2_laySelect_L34 N KO85 hKO85 n x2 x3 x4 x5 x6 σ)))))))), (fun _ z => absurd z List.not_mem_nil)⟩⟩) 61 ?_ ?_ <;> rfl)
set_option maxRecDepth 200000 in
theorem g_X2_laySelect_J85 (N : Nat) (x3 : Int32) (x4 : Int32) (x5 : Int32) (σ : Wd) : GO cX2_laySelect RX2 7 4 sc0 rI nJ0 nV0 (f_X2_laySelect_J85 N x3 x4 x5 σ) 85 (mkp 0 7 [(0, .ref 4), (3, .int x3), (4, .int x4), (5, .int x5)]) [] σ := by
  exact (by refine GO.to (md_X2_laySelect N) (kl := []) ((fun _ z => absurd z List.not_mem_nil)) 61 ?_ ?_ <;> rfl)
set_option maxRecDepth 200000 in
theorem C_X2_laySelect (N : Nat) : CTI 4 yX2_laySelect cX2_laySelect 7 (some .int) (a_X2_laySelect N) := by
  refine CTI.of (own := RX2) (by decide) rfl (fun as σ r h => ?_)
  unfold a_X2_laySelect at h
  rcases kSE_s h with ⟨r0, rfl, h0⟩ | hn
  ·
    obtain ⟨b1, r1, rfl, h1⟩ := kSI_s h0
    obtain ⟨b2, r2, rfl, h2⟩ := kSI_s h1
    obtain ⟨rfl, h9⟩ := kS0_s h2
    exact ⟨Nat.le_of_ble_eq_true rfl, by refine GO.to (md_X2_laySelect N) (kl := [(34, fun vs st σ => kS0 st (kA 0 4 vs (kI 2 vs (fun x2 => kI 3 vs (fun x3 => kI 4 vs (fun x4 => kI 5 vs (fun x5 => kI 6 vs (fun x6 => f_X2_laySelect_L34 N (f_X2_laySelect_J85 N) N x2 x3 x4 x5 x6 σ))))))))]) (List.forall_mem_cons.mpr ⟨fun vs st σ => go_kS0 (go_kA (fun h0 => go_kI (fun x2 h2 => go_kI (fun x3 h3 => go_kI (fun x4 h4 => go_kI (fun x5 h5 => go_kI (fun x6 h6 => GO.pat [(0, .ref 4), (2, .int x2), (3, .int x3), (4, .int x4), (5, .int x5), (6, .int x6)] ⟨h0, h2, h3, h4, h5, h6, trivial⟩ (g_X2_laySelect_L34 N (f_X2_laySelect_J85 N) (g_X2_laySelect_J85 N) N x2 x3 x4 x5 x6 σ)))))))), (fun _ z => absurd z List.not_mem_nil)⟩) 61 ?_ ?_ <;> rfl⟩
  cases hn
def T_X2_layAhead : List (Nat × Ent) := [(0, .aload_n 0, 1, []), (1, .getfield 56, 4, []), (4, .istore_n 3, 5, []), (5, .iload_n 3, 6, []), (6, .istore 4, 8, []), (8, .iload_n 1, 9, []), (9, .istore 5, 11, []), (11, .iload 5, 13, []), (13, .iload_n 2, 14, []), (14, .if_icmp .gt 56, 17, [70]), (17, .aload_n 0, 18, []), (18, .getfield 25, 21, []), (21, .iload 5, 23, []), (23, .aload_n 0, 24, []), (24, .aload_n 0, 25, []), (25, .getfield 37, 28, []), (28, .iload 5, 30, []), (30, .iaload, 31, []), (31, .iload 4, 33, []), (33, .invokevirtual 76, 36, []), (36, .iastore, 37, []), (37, .aload_n 0, 38, []), (38, .aload_n 0, 39, []), (39, .iload_n 1, 40, []), (40, .iload 5, 42, []), (42, .iconst 1, 43, []), (43, .invokestatic 116, 46, []), (46, .aload_n 0, 47, []), (47, .aload_n 0, 48, []), (48, .iload_n 1, 49, []), (49, .iload 5, 51, []), (51, .iconst 0, 52, []), (52, .invokestatic 116, 55, []), (55, .iload_n 3, 56, []), (56, .invokevirtual 80, 59, []), (59, .invokevirtual 110, 62, []), (62, .istore 4, 64, []), (64, .iinc 5 1, 67, []), (67, .goto (-56), 70, [11]), (70, .iload 4, 72, []), (72, .ireturn, 73, [])]
set_option maxRecDepth 200000 in
theorem tc_X2_layAhead : T_X2_layAhead.all (chk cX2_layAhead) = true := by decide +kernel
def f_X2_layAhead_L11 (N : Nat) (KO70 : Int32 → Wd → Option (Int32 × Wd)) : Nat → Int32 → Int32 → Int32 → Int32 → Int32 → Wd → Option (Int32 × Wd)
  | 0, _, _, _, _, _, _ => none
  | n + 1, x1, x2, x3, x4, x5, σ => if x2 < x5 then (KO70 x4 σ) else ((xld σ 26 12 x5).bind fun v1 => (f_X2_xor N v1 x4 σ).bind fun p2 => (xst p2.2 22 12 x5 p2.1).bind fun σ3 => (f_X2_span N 9 x1 x5 1 σ3).bind fun p4 => (f_X2_span N 9 x1 x5 0 p4.2).bind fun p5 => (f_X2_and N p5.1 x3 p5.2).bind fun p6 => (f_X2_or N p4.1 p6.1 p6.2).bind fun p7 => f_X2_layAhead_L11 N KO70 n x1 x2 x3 p7.1 (x5 + 1) p7.2)
def f_X2_layAhead_J70 (N : Nat) (x4 : Int32) (σ : Wd) : Option (Int32 × Wd) :=
  some (x4, σ)
def f_X2_layAhead (N : Nat) (a1 : Int32) (a2 : Int32) (σ : Wd) : Option (Int32 × Wd) :=
  f_X2_layAhead_L11 N (f_X2_layAhead_J70 N) N a1 a2 (σ.1 4 7) (σ.1 4 7) a1 σ
def a_X2_layAhead (N : Nat) : List Value → Wd → Option (Int32 × Wd) := fun as σ => kSE 4 as (fun r0 => kSI r0 (fun b1 r1 => kSI r1 (fun b2 r2 => kS0 r2 (f_X2_layAhead N b1 b2 σ)))) (none)
def ct_X2_layAhead (N : Nat) : List (Nat × Cal) := [(76, 3, 2, .inl (a_X2_xor N)), (116, 4, 0, .inl (a_X2_span N 9)), (80, 3, 2, .inl (a_X2_and N)), (110, 3, 2, .inl (a_X2_or N))]
set_option maxRecDepth 200000 in
theorem md_X2_layAhead (N : Nat) : MDOK T_X2_layAhead ft_X2 lt_X2 (ct_X2_layAhead N) cX2_layAhead RX2 13 := ⟨tc_X2_layAhead, fc_X2, lc_X2, List.forall_mem_cons.mpr ⟨Or.inl ⟨yX2_xor, cX2_xor, 3, (some .int), 2, k_X2_76, Nat.le_of_ble_eq_true rfl, C_X2_xor N⟩, List.forall_mem_cons.mpr ⟨Or.inl ⟨yX2_span, cX2_span, 6, (some .int), 12, k_X2_116, Nat.le_of_ble_eq_true rfl, C_X2_span N 9⟩, List.forall_mem_cons.mpr ⟨Or.inl ⟨yX2_and, cX2_and, 3, (some .int), 2, k_X2_80, Nat.le_of_ble_eq_true rfl, C_X2_and N⟩, List.forall_mem_cons.mpr ⟨Or.inl ⟨yX2_or, cX2_or, 3, (some .int), 2, k_X2_110, Nat.le_of_ble_eq_true rfl, C_X2_or N⟩, (fun _ z => absurd z List.not_mem_nil)⟩⟩⟩⟩⟩
set_option maxRecDepth 200000 in
theorem g_X2_layAhead_L11 (N : Nat) (KO70 : Int32 → Wd → Option (Int32 × Wd)) (hKO70 : ∀ (x4 : Int32) (σ : Wd), GO cX2_layAhead RX2 6 13 sc0 rI nJ0 nV0 (KO70 x4 σ) 70 (mkp 0 6 [(4, .int x4)]) [] σ) : ∀ (n : Nat), ∀ (x1 : Int32) (x2 : Int32) (x3 : Int32) (x4 : Int32) (x5 : Int32) (σ : Wd), GO cX2_layAhead RX2 6 13 sc0 rI nJ0 nV0 (f_X2_layAhead_L11 N KO70 n x1 x2 x3 x4 x5 σ) 11 (mkp 0 6 [(0, .ref 4), (1, .int x1), (2, .int x2), (3, .int x3), (4, .int x4), (5, .int x5)]) [] σ
  | 0, x1, x2, x3, x4, x5, σ => GO.none
  | n + 1, x1, x2, x3, x4, x5, σ => by
    exact (by refine GO.to (md_X2_layAhead N) (kl := [(70, fun vs st σ => kS0 st (kI 4 vs (fun x4 => KO70 x4 σ))), (11, fun vs st σ => kS0 st (kA 0 4 vs (kI 1 vs (fun x1 => kI 2 vs (fun x2 => kI 3 vs (fun x3 => kI 4 vs (fun x4 => kI 5 vs (fun x5 => f_X2_layAhead_L11 N KO70 n x1 x2 x3 x4 x5 σ))))))))]) (List.forall_mem_cons.mpr ⟨fun vs st σ => go_kS0 (go_kI (fun x4 h4 => GO.pat [(4, .int x4)] ⟨h4, trivial⟩ (hKO70 x4 σ))), List.forall_mem_cons.mpr ⟨fun vs st σ => go_kS0 (go_kA (fun h0 => go_kI (fun x1 h1 => go_kI (fun x2 h2 => go_kI (fun x3 h3 => go_kI (fun x4 h4 => go_kI (fun x5 h5 => GO.pat [(0, .ref 4), (1, .int x1), (2, .int x2), (3, .int x3), (4, .int x4), (5, .int x5)] ⟨h0, h1, h2, h3, h4, h5, trivial⟩ (g_X2_layAhead_L11 N KO70 hKO70 n x1 x2 x3 x4 x5 σ)))))))), (fun _ z => absurd z List.not_mem_nil)⟩⟩) 46 ?_ ?_ <;> rfl)
set_option maxRecDepth 200000 in
theorem g_X2_layAhead_J70 (N : Nat) (x4 : Int32) (σ : Wd) : GO cX2_layAhead RX2 6 13 sc0 rI nJ0 nV0 (f_X2_layAhead_J70 N x4 σ) 70 (mkp 0 6 [(4, .int x4)]) [] σ := by
  exact (by refine GO.to (md_X2_layAhead N) (kl := []) ((fun _ z => absurd z List.not_mem_nil)) 46 ?_ ?_ <;> rfl)
set_option maxRecDepth 200000 in
theorem C_X2_layAhead (N : Nat) : CTI 13 yX2_layAhead cX2_layAhead 6 (some .int) (a_X2_layAhead N) := by
  refine CTI.of (own := RX2) (by decide) rfl (fun as σ r h => ?_)
  unfold a_X2_layAhead at h
  rcases kSE_s h with ⟨r0, rfl, h0⟩ | hn
  ·
    obtain ⟨b1, r1, rfl, h1⟩ := kSI_s h0
    obtain ⟨b2, r2, rfl, h2⟩ := kSI_s h1
    obtain ⟨rfl, h9⟩ := kS0_s h2
    exact ⟨Nat.le_of_ble_eq_true rfl, by refine GO.to (md_X2_layAhead N) (kl := [(11, fun vs st σ => kS0 st (kA 0 4 vs (kI 1 vs (fun x1 => kI 2 vs (fun x2 => kI 3 vs (fun x3 => kI 4 vs (fun x4 => kI 5 vs (fun x5 => f_X2_layAhead_L11 N (f_X2_layAhead_J70 N) N x1 x2 x3 x4 x5 σ))))))))]) (List.forall_mem_cons.mpr ⟨fun vs st σ => go_kS0 (go_kA (fun h0 => go_kI (fun x1 h1 => go_kI (fun x2 h2 => go_kI (fun x3 h3 => go_kI (fun x4 h4 => go_kI (fun x5 h5 => GO.pat [(0, .ref 4), (1, .int x1), (2, .int x2), (3, .int x3), (4, .int x4), (5, .int x5)] ⟨h0, h1, h2, h3, h4, h5, trivial⟩ (g_X2_layAhead_L11 N (f_X2_layAhead_J70 N) (g_X2_layAhead_J70 N) N x1 x2 x3 x4 x5 σ)))))))), (fun _ z => absurd z List.not_mem_nil)⟩) 46 ?_ ?_ <;> rfl⟩
  cases hn
def T_X2_lay : List (Nat × Ent) := [(0, .aload_n 0, 1, []), (1, .getfield 53, 4, []), (4, .istore_n 3, 5, []), (5, .aload_n 0, 6, []), (6, .getfield 53, 9, []), (9, .iload_n 2, 10, []), (10, .iadd, 11, []), (11, .iconst 1, 12, []), (12, .isub, 13, []), (13, .istore 4, 15, []), (15, .iload_n 2, 16, []), (16, .iconst 1, 17, []), (17, .if_icmp .lt 16, 20, [33]), (20, .iload_n 2, 21, []), (21, .bipush 6, 23, []), (23, .if_icmp .gt 10, 26, [33]), (26, .iload 4, 28, []), (28, .bipush 12, 30, []), (30, .if_icmp .lt 4, 33, [34]), (33, .return_, 34, []), (34, .iload_n 3, 35, []), (35, .istore 5, 37, []), (37, .iload 5, 39, []), (39, .iload 4, 41, []), (41, .if_icmp .gt 49, 44, [90]), (44, .aload_n 0, 45, []), (45, .getfield 37, 48, []), (48, .iload 5, 50, []), (50, .aload_n 0, 51, []), (51, .iconst 2, 52, []), (52, .iload 5, 54, []), (54, .iadd, 55, []), (55, .bipush 14, 57, []), (57, .iload 5, 59, []), (59, .iadd, 60, []), (60, .invokevirtual 76, 63, []), (63, .iastore, 64, []), (64, .aload_n 0, 65, []), (65, .getfield 40, 68, []), (68, .iload 5, 70, []), (70, .aload_n 0, 71, []), (71, .iconst 2, 72, []), (72, .iload 5, 74, []), (74, .iadd, 75, []), (75, .bipush 14, 77, []), (77, .iload 5, 79, []), (79, .iadd, 80, []), (80, .invokevirtual 80, 83, []), (83, .iastore, 84, []), (84, .iinc 5 1, 87, []), (87, .goto (-50), 90, [37]), (90, .iload_n 1, 91, []), (91, .tableswitch 67 1 3 #[25, 39, 53], 116, [158, 116, 130, 144]), (116, .aload_n 0, 117, []), (117, .aload_n 0, 118, []), (118, .iload_n 3, 119, []), (119, .iload 4, 121, []), (121, .invokevirtual 83, 124, []), (124, .putfield 56, 127, []), (127, .goto 50, 130, [177]), (130, .aload_n 0, 131, []), (131, .aload_n 0, 132, []), (132, .iload_n 3, 133, []), (133, .iload 4, 135, []), (135, .invokevirtual 86, 138, []), (138, .putfield 56, 141, []), (141, .goto 36, 144, [177]), (144, .aload_n 0, 145, []), (145, .aload_n 0, 146, []), (146, .iload_n 3, 147, []), (147, .iload 4, 149, []), (149, .invokevirtual 89, 152, []), (152, .putfield 56, 155, []), (155, .goto 22, 158, [177]), (158, .aload_n 0, 159, []), (159, .aload_n 0, 160, []), (160, .iload_n 3, 161, []), (161, .iload 4, 163, []), (163, .aload_n 0, 164, []), (164, .getfield 56, 167, []), (167, .aload_n 0, 168, []), (168, .getfield 25, 171, []), (171, .invokevirtual 92, 174, []), (174, .putfield 56, 177, []), (177, .aload_n 0, 178, []), (178, .iload 4, 180, []), (180, .iconst 1, 181, []), (181, .iadd, 182, []), (182, .putfield 53, 185, []), (185, .return_, 186, [])]
set_option maxRecDepth 200000 in
theorem tc_X2_lay : T_X2_lay.all (chk cX2_lay) = true := by decide +kernel
def f_X2_lay_L37 (N : Nat) (KO90 : Int32 → Int32 → Int32 → Wd → Option Wd) : Nat → Int32 → Int32 → Int32 → Int32 → Wd → Option Wd
  | 0, _, _, _, _, _ => none
  | n + 1, x1, x3, x4, x5, σ => if x4 < x5 then (KO90 x1 x3 x4 σ) else ((f_X2_xor N (2 + x5) (14 + x5) σ).bind fun p1 => (xst p1.2 26 12 x5 p1.1).bind fun σ2 => (f_X2_and N (2 + x5) (14 + x5) σ2).bind fun p3 => (xst p3.2 27 12 x5 p3.1).bind fun σ4 => f_X2_lay_L37 N KO90 n x1 x3 x4 (x5 + 1) σ4)
def f_X2_lay_J90 (N : Nat) (x1 : Int32) (x3 : Int32) (x4 : Int32) (σ : Wd) : Option Wd :=
  if x1 = 1 then ((f_X2_laySkip N x3 x4 σ).bind fun p5 => let σ6 : Wd := sF p5.2 4 7 p5.1
  let σ7 : Wd := sF σ6 4 6 (x4 + 1)
  some σ7) else if x1 = 2 then ((f_X2_laySelect N x3 x4 σ).bind fun p8 => let σ9 : Wd := sF p8.2 4 7 p8.1
  let σ10 : Wd := sF σ9 4 6 (x4 + 1)
  some σ10) else if x1 = 3 then ((f_X2_layAhead N x3 x4 σ).bind fun p11 => let σ12 : Wd := sF p11.2 4 7 p11.1
  let σ13 : Wd := sF σ12 4 6 (x4 + 1)
  some σ13) else ((f_X2_ripple N 22 12 x3 x4 (σ.1 4 7) σ).bind fun p14 => let σ15 : Wd := sF p14.2 4 7 p14.1
  let σ16 : Wd := sF σ15 4 6 (x4 + 1)
  some σ16)
def f_X2_lay (N : Nat) (a1 : Int32) (a2 : Int32) (σ : Wd) : Option Wd :=
  if a2 < 1 then (some σ) else (if 6 < a2 then (some σ) else (if (((σ.1 4 6) + a2) - 1) < 12 then (f_X2_lay_L37 N (f_X2_lay_J90 N) N a1 (σ.1 4 6) (((σ.1 4 6) + a2) - 1) (σ.1 4 6) σ) else (some σ)))
def a_X2_lay (N : Nat) : List Value → Wd → Option Wd := fun as σ => kSE 4 as (fun r0 => kSI r0 (fun b1 r1 => kSI r1 (fun b2 r2 => kS0 r2 (f_X2_lay N b1 b2 σ)))) (none)
set_option maxRecDepth 200000 in
theorem k_X2_83 : calchk RX2 83 3 2 yX2_laySkip cX2_laySkip 7 (some .int) = true := by decide +kernel
set_option maxRecDepth 200000 in
theorem k_X2_86 : calchk RX2 86 3 2 yX2_laySelect cX2_laySelect 7 (some .int) = true := by decide +kernel
set_option maxRecDepth 200000 in
theorem k_X2_89 : calchk RX2 89 3 2 yX2_layAhead cX2_layAhead 6 (some .int) = true := by decide +kernel
def ct_X2_lay (N : Nat) : List (Nat × Cal) := [(76, 3, 2, .inl (a_X2_xor N)), (80, 3, 2, .inl (a_X2_and N)), (83, 3, 2, .inl (a_X2_laySkip N)), (86, 3, 2, .inl (a_X2_laySelect N)), (89, 3, 2, .inl (a_X2_layAhead N)), (92, 5, 2, .inl (a_X2_ripple N))]
set_option maxRecDepth 200000 in
theorem md_X2_lay (N : Nat) : MDOK T_X2_lay ft_X2 lt_X2 (ct_X2_lay N) cX2_lay RX2 14 := ⟨tc_X2_lay, fc_X2, lc_X2, List.forall_mem_cons.mpr ⟨Or.inl ⟨yX2_xor, cX2_xor, 3, (some .int), 2, k_X2_76, Nat.le_of_ble_eq_true rfl, C_X2_xor N⟩, List.forall_mem_cons.mpr ⟨Or.inl ⟨yX2_and, cX2_and, 3, (some .int), 2, k_X2_80, Nat.le_of_ble_eq_true rfl, C_X2_and N⟩, List.forall_mem_cons.mpr ⟨Or.inl ⟨yX2_laySkip, cX2_laySkip, 7, (some .int), 4, k_X2_83, Nat.le_of_ble_eq_true rfl, C_X2_laySkip N⟩, List.forall_mem_cons.mpr ⟨Or.inl ⟨yX2_laySelect, cX2_laySelect, 7, (some .int), 4, k_X2_86, Nat.le_of_ble_eq_true rfl, C_X2_laySelect N⟩, List.forall_mem_cons.mpr ⟨Or.inl ⟨yX2_layAhead, cX2_layAhead, 6, (some .int), 13, k_X2_89, Nat.le_of_ble_eq_true rfl, C_X2_layAhead N⟩, List.forall_mem_cons.mpr ⟨Or.inl ⟨yX2_ripple, cX2_ripple, 7, (some .int), 3, k_X2_92, Nat.le_of_ble_eq_true rfl, C_X2_ripple N⟩, (fun _ z => absurd z List.not_mem_nil)⟩⟩⟩⟩⟩⟩⟩
set_option maxRecDepth 200000 in
theorem g_X2_lay_L37 (N : Nat) (KO90 : Int32 → Int32 → Int32 → Wd → Option Wd) (hKO90 : ∀ (x1 : Int32) (x3 : Int32) (x4 : Int32) (σ : Wd), GO cX2_lay RX2 6 14 sc0 nI0 nJ0 some (KO90 x1 x3 x4 σ) 90 (mkp 0 6 [(0, .ref 4), (1, .int x1), (3, .int x3), (4, .int x4)]) [] σ) : ∀ (n : Nat), ∀ (x1 : Int32) (x3 : Int32) (x4 : Int32) (x5 : Int32) (σ : Wd), GO cX2_lay RX2 6 14 sc0 nI0 nJ0 some (f_X2_lay_L37 N KO90 n x1 x3 x4 x5 σ) 37 (mkp 0 6 [(0, .ref 4), (1, .int x1), (3, .int x3), (4, .int x4), (5, .int x5)]) [] σ
  | 0, x1, x3, x4, x5, σ => GO.none
  | n + 1, x1, x3, x4, x5, σ => by
    exact (by refine GO.to (md_X2_lay N) (kl := [(90, fun vs st σ => kS0 st (kA 0 4 vs (kI 1 vs (fun x1 => kI 3 vs (fun x3 => kI 4 vs (fun x4 => KO90 x1 x3 x4 σ)))))), (37, fun vs st σ => kS0 st (kA 0 4 vs (kI 1 vs (fun x1 => kI 3 vs (fun x3 => kI 4 vs (fun x4 => kI 5 vs (fun x5 => f_X2_lay_L37 N KO90 n x1 x3 x4 x5 σ)))))))]) (List.forall_mem_cons.mpr ⟨fun vs st σ => go_kS0 (go_kA (fun h0 => go_kI (fun x1 h1 => go_kI (fun x3 h3 => go_kI (fun x4 h4 => GO.pat [(0, .ref 4), (1, .int x1), (3, .int x3), (4, .int x4)] ⟨h0, h1, h3, h4, trivial⟩ (hKO90 x1 x3 x4 σ)))))), List.forall_mem_cons.mpr ⟨fun vs st σ => go_kS0 (go_kA (fun h0 => go_kI (fun x1 h1 => go_kI (fun x3 h3 => go_kI (fun x4 h4 => go_kI (fun x5 h5 => GO.pat [(0, .ref 4), (1, .int x1), (3, .int x3), (4, .int x4), (5, .int x5)] ⟨h0, h1, h3, h4, h5, trivial⟩ (g_X2_lay_L37 N KO90 hKO90 n x1 x3 x4 x5 σ))))))), (fun _ z => absurd z List.not_mem_nil)⟩⟩) 95 ?_ ?_ <;> rfl)
set_option maxRecDepth 200000 in
theorem g_X2_lay_J90 (N : Nat) (x1 : Int32) (x3 : Int32) (x4 : Int32) (σ : Wd) : GO cX2_lay RX2 6 14 sc0 nI0 nJ0 some (f_X2_lay_J90 N x1 x3 x4 σ) 90 (mkp 0 6 [(0, .ref 4), (1, .int x1), (3, .int x3), (4, .int x4)]) [] σ := by
  exact (by refine GO.to (md_X2_lay N) (kl := []) ((fun _ z => absurd z List.not_mem_nil)) 95 ?_ ?_ <;> rfl)
set_option maxRecDepth 200000 in
theorem C_X2_lay (N : Nat) : CTV 14 yX2_lay cX2_lay 6 none (a_X2_lay N) := by
  refine CTV.of (own := RX2) (by decide) rfl (fun as σ r h => ?_)
  unfold a_X2_lay at h
  rcases kSE_s h with ⟨r0, rfl, h0⟩ | hn
  ·
    obtain ⟨b1, r1, rfl, h1⟩ := kSI_s h0
    obtain ⟨b2, r2, rfl, h2⟩ := kSI_s h1
    obtain ⟨rfl, h9⟩ := kS0_s h2
    exact ⟨Nat.le_of_ble_eq_true rfl, by refine GO.to (md_X2_lay N) (kl := [(37, fun vs st σ => kS0 st (kA 0 4 vs (kI 1 vs (fun x1 => kI 3 vs (fun x3 => kI 4 vs (fun x4 => kI 5 vs (fun x5 => f_X2_lay_L37 N (f_X2_lay_J90 N) N x1 x3 x4 x5 σ)))))))]) (List.forall_mem_cons.mpr ⟨fun vs st σ => go_kS0 (go_kA (fun h0 => go_kI (fun x1 h1 => go_kI (fun x3 h3 => go_kI (fun x4 h4 => go_kI (fun x5 h5 => GO.pat [(0, .ref 4), (1, .int x1), (3, .int x3), (4, .int x4), (5, .int x5)] ⟨h0, h1, h3, h4, h5, trivial⟩ (g_X2_lay_L37 N (f_X2_lay_J90 N) (g_X2_lay_J90 N) N x1 x3 x4 x5 σ))))))), (fun _ z => absurd z List.not_mem_nil)⟩) 95 ?_ ?_ <;> rfl⟩
  cases hn
def T_X2_build : List (Nat × Ent) := [(0, .aload_n 0, 1, []), (1, .iconst 0, 2, []), (2, .putfield 53, 5, []), (5, .aload_n 0, 6, []), (6, .bipush 26, 8, []), (8, .putfield 56, 11, []), (11, .lload_n 1, 12, []), (12, .invokestatic 59, 15, []), (15, .istore_n 3, 16, []), (16, .iconst 0, 17, []), (17, .istore 4, 19, []), (19, .iload 4, 21, []), (21, .iload_n 3, 22, []), (22, .if_icmp .ge 25, 25, [47]), (25, .aload_n 0, 26, []), (26, .lload_n 1, 27, []), (27, .iload 4, 29, []), (29, .invokestatic 65, 32, []), (32, .lload_n 1, 33, []), (33, .iload 4, 35, []), (35, .invokestatic 69, 38, []), (38, .invokevirtual 72, 41, []), (41, .iinc 4 1, 44, []), (44, .goto (-25), 47, [19]), (47, .return_, 48, [])]
set_option maxRecDepth 200000 in
theorem tc_X2_build : T_X2_build.all (chk cX2_build) = true := by decide +kernel
def f_X2_build_L19 (N : Nat) (KO47 : Wd → Option Wd) : Nat → Int64 → Int32 → Int32 → Wd → Option Wd
  | 0, _, _, _, _ => none
  | n + 1, x1, x3, x4, σ => if x3 ≤ x4 then (KO47 σ) else ((f_X0_kindAt N x1 x4 σ).bind fun p4 => (f_X0_widthAt N x1 x4 p4.2).bind fun p5 => (f_X2_lay N p4.1 p5.1 p5.2).bind fun σ6 => f_X2_build_L19 N KO47 n x1 x3 (x4 + 1) σ6)
def f_X2_build_J47 (N : Nat) (σ : Wd) : Option Wd :=
  some σ
def f_X2_build (N : Nat) (a1 : Int64) (σ : Wd) : Option Wd :=
  let σ1 : Wd := sF σ 4 6 0
  let σ2 : Wd := sF σ1 4 7 26
  (f_X0_amount N a1 σ2).bind fun p3 => f_X2_build_L19 N (f_X2_build_J47 N) N a1 p3.1 0 p3.2
def a_X2_build (N : Nat) : List Value → Wd → Option Wd := fun as σ => kSE 4 as (fun r0 => kSJ r0 (fun b1 r1 => kS0 r1 (f_X2_build N b1 σ))) (none)
set_option maxRecDepth 200000 in
theorem k_X2_59 : calchk RX2 59 1 0 yX0_amount cX0_amount 3 (some .int) = true := by decide +kernel
set_option maxRecDepth 200000 in
theorem k_X2_65 : calchk RX2 65 2 0 yX0_kindAt cX0_kindAt 3 (some .int) = true := by decide +kernel
set_option maxRecDepth 200000 in
theorem k_X2_69 : calchk RX2 69 2 0 yX0_widthAt cX0_widthAt 3 (some .int) = true := by decide +kernel
set_option maxRecDepth 200000 in
theorem k_X2_72 : calchk RX2 72 3 2 yX2_lay cX2_lay 6 none = true := by decide +kernel
def ct_X2_build (N : Nat) : List (Nat × Cal) := [(59, 1, 0, .inl (a_X0_amount N)), (65, 2, 0, .inl (a_X0_kindAt N)), (69, 2, 0, .inl (a_X0_widthAt N)), (72, 3, 2, .inr (.inr (a_X2_lay N)))]
set_option maxRecDepth 200000 in
theorem md_X2_build (N : Nat) : MDOK T_X2_build ft_X2 lt_X2 (ct_X2_build N) cX2_build RX2 15 := ⟨tc_X2_build, fc_X2, lc_X2, List.forall_mem_cons.mpr ⟨Or.inl ⟨yX0_amount, cX0_amount, 3, (some .int), 2, k_X2_59, Nat.le_of_ble_eq_true rfl, C_X0_amount N⟩, List.forall_mem_cons.mpr ⟨Or.inl ⟨yX0_kindAt, cX0_kindAt, 3, (some .int), 2, k_X2_65, Nat.le_of_ble_eq_true rfl, C_X0_kindAt N⟩, List.forall_mem_cons.mpr ⟨Or.inl ⟨yX0_widthAt, cX0_widthAt, 3, (some .int), 2, k_X2_69, Nat.le_of_ble_eq_true rfl, C_X0_widthAt N⟩, List.forall_mem_cons.mpr ⟨Or.inl ⟨yX2_lay, cX2_lay, 6, none, 14, k_X2_72, Nat.le_of_ble_eq_true rfl, C_X2_lay N⟩, (fun _ z => absurd z List.not_mem_nil)⟩⟩⟩⟩⟩
set_option maxRecDepth 200000 in
theorem g_X2_build_L19 (N : Nat) (KO47 : Wd → Option Wd) (hKO47 : ∀ (σ : Wd), GO cX2_build RX2 5 15 sc0 nI0 nJ0 some (KO47 σ) 47 (mkp 0 5 []) [] σ) : ∀ (n : Nat), ∀ (x1 : Int64) (x3 : Int32) (x4 : Int32) (σ : Wd), GO cX2_build RX2 5 15 sc0 nI0 nJ0 some (f_X2_build_L19 N KO47 n x1 x3 x4 σ) 19 (mkp 0 5 [(0, .ref 4), (1, .long x1), (3, .int x3), (4, .int x4)]) [] σ
  | 0, x1, x3, x4, σ => GO.none
  | n + 1, x1, x3, x4, σ => by
    exact (by refine GO.to (md_X2_build N) (kl := [(47, fun vs st σ => kS0 st (KO47 σ)), (19, fun vs st σ => kS0 st (kA 0 4 vs (kJ 1 vs (fun x1 => kI 3 vs (fun x3 => kI 4 vs (fun x4 => f_X2_build_L19 N KO47 n x1 x3 x4 σ))))))]) (List.forall_mem_cons.mpr ⟨fun vs st σ => go_kS0 (GO.pat [] trivial (hKO47 σ)), List.forall_mem_cons.mpr ⟨fun vs st σ => go_kS0 (go_kA (fun h0 => go_kJ (fun x1 h1 => go_kI (fun x3 h3 => go_kI (fun x4 h4 => GO.pat [(0, .ref 4), (1, .long x1), (3, .int x3), (4, .int x4)] ⟨h0, h1, h3, h4, trivial⟩ (g_X2_build_L19 N KO47 hKO47 n x1 x3 x4 σ)))))), (fun _ z => absurd z List.not_mem_nil)⟩⟩) 30 ?_ ?_ <;> rfl)
set_option maxRecDepth 200000 in
theorem g_X2_build_J47 (N : Nat) (σ : Wd) : GO cX2_build RX2 5 15 sc0 nI0 nJ0 some (f_X2_build_J47 N σ) 47 (mkp 0 5 []) [] σ := by
  exact (by refine GO.to (md_X2_build N) (kl := []) ((fun _ z => absurd z List.not_mem_nil)) 30 ?_ ?_ <;> rfl)
set_option maxRecDepth 200000 in
theorem C_X2_build (N : Nat) : CTV 15 yX2_build cX2_build 5 none (a_X2_build N) := by
  refine CTV.of (own := RX2) (by decide) rfl (fun as σ r h => ?_)
  unfold a_X2_build at h
  rcases kSE_s h with ⟨r0, rfl, h0⟩ | hn
  ·
    obtain ⟨b1, r1, rfl, h1⟩ := kSJ_s h0
    obtain ⟨rfl, h9⟩ := kS0_s h1
    exact ⟨Nat.le_of_ble_eq_true rfl, by refine GO.to (md_X2_build N) (kl := [(19, fun vs st σ => kS0 st (kA 0 4 vs (kJ 1 vs (fun x1 => kI 3 vs (fun x3 => kI 4 vs (fun x4 => f_X2_build_L19 N (f_X2_build_J47 N) N x1 x3 x4 σ))))))]) (List.forall_mem_cons.mpr ⟨fun vs st σ => go_kS0 (go_kA (fun h0 => go_kJ (fun x1 h1 => go_kI (fun x3 h3 => go_kI (fun x4 h4 => GO.pat [(0, .ref 4), (1, .long x1), (3, .int x3), (4, .int x4)] ⟨h0, h1, h3, h4, trivial⟩ (g_X2_build_L19 N (f_X2_build_J47 N) (g_X2_build_J47 N) N x1 x3 x4 σ)))))), (fun _ z => absurd z List.not_mem_nil)⟩) 30 ?_ ?_ <;> rfl⟩
  cases hn
def T_X2_gatesOfBoth : List (Nat × Ent) := [(0, .aload_n 0, 1, []), (1, .invokevirtual 100, 4, []), (4, .aload_n 0, 5, []), (5, .lload_n 1, 6, []), (6, .invokevirtual 103, 9, []), (9, .aload_n 0, 10, []), (10, .invokevirtual 107, 13, []), (13, .aload_n 0, 14, []), (14, .getfield 49, 17, []), (17, .istore 5, 19, []), (19, .bipush 27, 21, []), (21, .istore 6, 23, []), (23, .iload 6, 25, []), (25, .iload 5, 27, []), (27, .if_icmp .ge 23, 30, [50]), (30, .aload_n 0, 31, []), (31, .getfield 34, 34, []), (34, .iload 6, 36, []), (36, .aload_n 0, 37, []), (37, .getfield 21, 40, []), (40, .iload 6, 42, []), (42, .baload, 43, []), (43, .bastore, 44, []), (44, .iinc 6 1, 47, []), (47, .goto (-24), 50, [23]), (50, .aload_n 0, 51, []), (51, .lload_n 3, 52, []), (52, .invokevirtual 103, 55, []), (55, .aload_n 0, 56, []), (56, .invokevirtual 107, 59, []), (59, .iconst 0, 60, []), (60, .istore 6, 62, []), (62, .bipush 27, 64, []), (64, .istore 7, 66, []), (66, .iload 7, 68, []), (68, .iload 5, 70, []), (70, .if_icmp .ge 32, 73, [102]), (73, .aload_n 0, 74, []), (74, .getfield 21, 77, []), (77, .iload 7, 79, []), (79, .baload, 80, []), (80, .ifCond .eq 16, 83, [96]), (83, .aload_n 0, 84, []), (84, .getfield 34, 87, []), (87, .iload 7, 89, []), (89, .baload, 90, []), (90, .ifCond .eq 6, 93, [96]), (93, .iinc 6 1, 96, []), (96, .iinc 7 1, 99, []), (99, .goto (-33), 102, [66]), (102, .iload 6, 104, []), (104, .ireturn, 105, [])]
set_option maxRecDepth 200000 in
theorem tc_X2_gatesOfBoth : T_X2_gatesOfBoth.all (chk cX2_gatesOfBoth) = true := by decide +kernel
def f_X2_gatesOfBoth_L23 (N : Nat) (KO50 : Int64 → Int32 → Wd → Option (Int32 × Wd)) : Nat → Int64 → Int32 → Int32 → Wd → Option (Int32 × Wd)
  | 0, _, _, _, _ => none
  | n + 1, x3, x5, x6, σ => if x5 ≤ x6 then (KO50 x3 x5 σ) else ((xld σ 21 512 x6).bind fun v4 => (xstZ σ 25 512 x6 v4).bind fun σ5 => f_X2_gatesOfBoth_L23 N KO50 n x3 x5 (x6 + 1) σ5)
def f_X2_gatesOfBoth_L66 (N : Nat) (KO102 : Int32 → Wd → Option (Int32 × Wd)) : Nat → Int32 → Int32 → Int32 → Wd → Option (Int32 × Wd)
  | 0, _, _, _, _ => none
  | n + 1, x5, x6, x7, σ => if x5 ≤ x7 then (KO102 x6 σ) else ((xld σ 21 512 x7).bind fun v8 => if v8 = 0 then (f_X2_gatesOfBoth_L66 N KO102 n x5 x6 (x7 + 1) σ) else ((xld σ 25 512 x7).bind fun v9 => if v9 = 0 then (f_X2_gatesOfBoth_L66 N KO102 n x5 x6 (x7 + 1) σ) else (f_X2_gatesOfBoth_L66 N KO102 n x5 (x6 + 1) (x7 + 1) σ)))
def f_X2_gatesOfBoth_J102 (N : Nat) (x6 : Int32) (σ : Wd) : Option (Int32 × Wd) :=
  some (x6, σ)
def f_X2_gatesOfBoth_J50 (N : Nat) (x3 : Int64) (x5 : Int32) (σ : Wd) : Option (Int32 × Wd) :=
  (f_X2_build N x3 σ).bind fun σ6 => (f_X2_markUsed N σ6).bind fun σ7 => f_X2_gatesOfBoth_L66 N (f_X2_gatesOfBoth_J102 N) N x5 0 27 σ7
def f_X2_gatesOfBoth (N : Nat) (a1 : Int64) (a3 : Int64) (σ : Wd) : Option (Int32 × Wd) :=
  (f_X2_clear N σ).bind fun σ1 => (f_X2_build N a1 σ1).bind fun σ2 => (f_X2_markUsed N σ2).bind fun σ3 => f_X2_gatesOfBoth_L23 N (f_X2_gatesOfBoth_J50 N) N a3 (σ3.1 4 5) 27 σ3
def a_X2_gatesOfBoth (N : Nat) : List Value → Wd → Option (Int32 × Wd) := fun as σ => kSE 4 as (fun r0 => kSJ r0 (fun b1 r1 => kSJ r1 (fun b2 r2 => kS0 r2 (f_X2_gatesOfBoth N b1 b2 σ)))) (none)
set_option maxRecDepth 200000 in
theorem k_X2_100 : calchk RX2 100 1 2 yX2_clear cX2_clear 2 none = true := by decide +kernel
set_option maxRecDepth 200000 in
theorem k_X2_103 : calchk RX2 103 2 2 yX2_build cX2_build 5 none = true := by decide +kernel
set_option maxRecDepth 200000 in
theorem k_X2_107 : calchk RX2 107 1 2 yX2_markUsed cX2_markUsed 2 none = true := by decide +kernel
def ct_X2_gatesOfBoth (N : Nat) : List (Nat × Cal) := [(100, 1, 2, .inr (.inr (a_X2_clear N))), (103, 2, 2, .inr (.inr (a_X2_build N))), (107, 1, 2, .inr (.inr (a_X2_markUsed N)))]
set_option maxRecDepth 200000 in
theorem md_X2_gatesOfBoth (N : Nat) : MDOK T_X2_gatesOfBoth ft_X2 lt_X2 (ct_X2_gatesOfBoth N) cX2_gatesOfBoth RX2 16 := ⟨tc_X2_gatesOfBoth, fc_X2, lc_X2, List.forall_mem_cons.mpr ⟨Or.inl ⟨yX2_clear, cX2_clear, 2, none, 1, k_X2_100, Nat.le_of_ble_eq_true rfl, C_X2_clear N⟩, List.forall_mem_cons.mpr ⟨Or.inl ⟨yX2_build, cX2_build, 5, none, 15, k_X2_103, Nat.le_of_ble_eq_true rfl, C_X2_build N⟩, List.forall_mem_cons.mpr ⟨Or.inl ⟨yX2_markUsed, cX2_markUsed, 2, none, 2, k_X2_107, Nat.le_of_ble_eq_true rfl, C_X2_markUsed N⟩, (fun _ z => absurd z List.not_mem_nil)⟩⟩⟩⟩
set_option maxRecDepth 200000 in
theorem g_X2_gatesOfBoth_L23 (N : Nat) (KO50 : Int64 → Int32 → Wd → Option (Int32 × Wd)) (hKO50 : ∀ (x3 : Int64) (x5 : Int32) (σ : Wd), GO cX2_gatesOfBoth RX2 8 16 sc0 rI nJ0 nV0 (KO50 x3 x5 σ) 50 (mkp 0 8 [(0, .ref 4), (3, .long x3), (5, .int x5)]) [] σ) : ∀ (n : Nat), ∀ (x3 : Int64) (x5 : Int32) (x6 : Int32) (σ : Wd), GO cX2_gatesOfBoth RX2 8 16 sc0 rI nJ0 nV0 (f_X2_gatesOfBoth_L23 N KO50 n x3 x5 x6 σ) 23 (mkp 0 8 [(0, .ref 4), (3, .long x3), (5, .int x5), (6, .int x6)]) [] σ
  | 0, x3, x5, x6, σ => GO.none
  | n + 1, x3, x5, x6, σ => by
    exact (by refine GO.to (md_X2_gatesOfBoth N) (kl := [(50, fun vs st σ => kS0 st (kA 0 4 vs (kJ 3 vs (fun x3 => kI 5 vs (fun x5 => KO50 x3 x5 σ))))), (23, fun vs st σ => kS0 st (kA 0 4 vs (kJ 3 vs (fun x3 => kI 5 vs (fun x5 => kI 6 vs (fun x6 => f_X2_gatesOfBoth_L23 N KO50 n x3 x5 x6 σ))))))]) (List.forall_mem_cons.mpr ⟨fun vs st σ => go_kS0 (go_kA (fun h0 => go_kJ (fun x3 h3 => go_kI (fun x5 h5 => GO.pat [(0, .ref 4), (3, .long x3), (5, .int x5)] ⟨h0, h3, h5, trivial⟩ (hKO50 x3 x5 σ))))), List.forall_mem_cons.mpr ⟨fun vs st σ => go_kS0 (go_kA (fun h0 => go_kJ (fun x3 h3 => go_kI (fun x5 h5 => go_kI (fun x6 h6 => GO.pat [(0, .ref 4), (3, .long x3), (5, .int x5), (6, .int x6)] ⟨h0, h3, h5, h6, trivial⟩ (g_X2_gatesOfBoth_L23 N KO50 hKO50 n x3 x5 x6 σ)))))), (fun _ z => absurd z List.not_mem_nil)⟩⟩) 57 ?_ ?_ <;> rfl)
set_option maxRecDepth 200000 in
theorem g_X2_gatesOfBoth_L66 (N : Nat) (KO102 : Int32 → Wd → Option (Int32 × Wd)) (hKO102 : ∀ (x6 : Int32) (σ : Wd), GO cX2_gatesOfBoth RX2 8 16 sc0 rI nJ0 nV0 (KO102 x6 σ) 102 (mkp 0 8 [(6, .int x6)]) [] σ) : ∀ (n : Nat), ∀ (x5 : Int32) (x6 : Int32) (x7 : Int32) (σ : Wd), GO cX2_gatesOfBoth RX2 8 16 sc0 rI nJ0 nV0 (f_X2_gatesOfBoth_L66 N KO102 n x5 x6 x7 σ) 66 (mkp 0 8 [(0, .ref 4), (5, .int x5), (6, .int x6), (7, .int x7)]) [] σ
  | 0, x5, x6, x7, σ => GO.none
  | n + 1, x5, x6, x7, σ => by
    exact (by refine GO.to (md_X2_gatesOfBoth N) (kl := [(102, fun vs st σ => kS0 st (kI 6 vs (fun x6 => KO102 x6 σ))), (66, fun vs st σ => kS0 st (kA 0 4 vs (kI 5 vs (fun x5 => kI 6 vs (fun x6 => kI 7 vs (fun x7 => f_X2_gatesOfBoth_L66 N KO102 n x5 x6 x7 σ))))))]) (List.forall_mem_cons.mpr ⟨fun vs st σ => go_kS0 (go_kI (fun x6 h6 => GO.pat [(6, .int x6)] ⟨h6, trivial⟩ (hKO102 x6 σ))), List.forall_mem_cons.mpr ⟨fun vs st σ => go_kS0 (go_kA (fun h0 => go_kI (fun x5 h5 => go_kI (fun x6 h6 => go_kI (fun x7 h7 => GO.pat [(0, .ref 4), (5, .int x5), (6, .int x6), (7, .int x7)] ⟨h0, h5, h6, h7, trivial⟩ (g_X2_gatesOfBoth_L66 N KO102 hKO102 n x5 x6 x7 σ)))))), (fun _ z => absurd z List.not_mem_nil)⟩⟩) 57 ?_ ?_ <;> rfl)
set_option maxRecDepth 200000 in
theorem g_X2_gatesOfBoth_J102 (N : Nat) (x6 : Int32) (σ : Wd) : GO cX2_gatesOfBoth RX2 8 16 sc0 rI nJ0 nV0 (f_X2_gatesOfBoth_J102 N x6 σ) 102 (mkp 0 8 [(6, .int x6)]) [] σ := by
  exact (by refine GO.to (md_X2_gatesOfBoth N) (kl := []) ((fun _ z => absurd z List.not_mem_nil)) 57 ?_ ?_ <;> rfl)
set_option maxRecDepth 200000 in
theorem g_X2_gatesOfBoth_J50 (N : Nat) (x3 : Int64) (x5 : Int32) (σ : Wd) : GO cX2_gatesOfBoth RX2 8 16 sc0 rI nJ0 nV0 (f_X2_gatesOfBoth_J50 N x3 x5 σ) 50 (mkp 0 8 [(0, .ref 4), (3, .long x3), (5, .int x5)]) [] σ := by
  exact (by refine GO.to (md_X2_gatesOfBoth N) (kl := [(66, fun vs st σ => kS0 st (kA 0 4 vs (kI 5 vs (fun x5 => kI 6 vs (fun x6 => kI 7 vs (fun x7 => f_X2_gatesOfBoth_L66 N (f_X2_gatesOfBoth_J102 N) N x5 x6 x7 σ))))))]) (List.forall_mem_cons.mpr ⟨fun vs st σ => go_kS0 (go_kA (fun h0 => go_kI (fun x5 h5 => go_kI (fun x6 h6 => go_kI (fun x7 h7 => GO.pat [(0, .ref 4), (5, .int x5), (6, .int x6), (7, .int x7)] ⟨h0, h5, h6, h7, trivial⟩ (g_X2_gatesOfBoth_L66 N (f_X2_gatesOfBoth_J102 N) (g_X2_gatesOfBoth_J102 N) N x5 x6 x7 σ)))))), (fun _ z => absurd z List.not_mem_nil)⟩) 57 ?_ ?_ <;> rfl)
set_option maxRecDepth 200000 in
theorem C_X2_gatesOfBoth (N : Nat) : CTI 16 yX2_gatesOfBoth cX2_gatesOfBoth 8 (some .int) (a_X2_gatesOfBoth N) := by
  refine CTI.of (own := RX2) (by decide) rfl (fun as σ r h => ?_)
  unfold a_X2_gatesOfBoth at h
  rcases kSE_s h with ⟨r0, rfl, h0⟩ | hn
  ·
    obtain ⟨b1, r1, rfl, h1⟩ := kSJ_s h0
    obtain ⟨b2, r2, rfl, h2⟩ := kSJ_s h1
    obtain ⟨rfl, h9⟩ := kS0_s h2
    exact ⟨Nat.le_of_ble_eq_true rfl, by refine GO.to (md_X2_gatesOfBoth N) (kl := [(23, fun vs st σ => kS0 st (kA 0 4 vs (kJ 3 vs (fun x3 => kI 5 vs (fun x5 => kI 6 vs (fun x6 => f_X2_gatesOfBoth_L23 N (f_X2_gatesOfBoth_J50 N) N x3 x5 x6 σ))))))]) (List.forall_mem_cons.mpr ⟨fun vs st σ => go_kS0 (go_kA (fun h0 => go_kJ (fun x3 h3 => go_kI (fun x5 h5 => go_kI (fun x6 h6 => GO.pat [(0, .ref 4), (3, .long x3), (5, .int x5), (6, .int x6)] ⟨h0, h3, h5, h6, trivial⟩ (g_X2_gatesOfBoth_L23 N (f_X2_gatesOfBoth_J50 N) (g_X2_gatesOfBoth_J50 N) N x3 x5 x6 σ)))))), (fun _ z => absurd z List.not_mem_nil)⟩) 57 ?_ ?_ <;> rfl⟩
  cases hn
end
section
def ft_X8 : List (Nat × FTE) := [(9, 7, 0, 3), (15, 7, 1, 3), (20, 7, 2, 3), (23, 7, 3, 3), (26, 7, 4, 3), (30, 7, 5, 3), (36, 1, 5, 0), (44, 1, 0, 3), (47, 1, 6, 0), (71, 1, 1, 3), (78, 1, 2, 3)]
def lt_X8 : List (Nat × Int64) := []
theorem fc_X8 : ft_X8.all (fun e => fldchk RX8 e && shchk e) = true := by decide +kernel
theorem lc_X8 : lt_X8.all (ltchk RX8) = true := by decide +kernel
def T_X8_hangingInputs : List (Nat × Ent) := [(0, .iconst 0, 1, []), (1, .istore_n 1, 2, []), (2, .iconst 0, 3, []), (3, .istore_n 2, 4, []), (4, .iload_n 2, 5, []), (5, .bipush 25, 7, []), (7, .if_icmp .ge 26, 10, [33]), (10, .aload_n 0, 11, []), (11, .getfield 26, 14, []), (14, .iconst 2, 15, []), (15, .iload_n 2, 16, []), (16, .iadd, 17, []), (17, .baload, 18, []), (18, .ifCond .eq 9, 21, [27]), (21, .iload_n 1, 22, []), (22, .iconst 1, 23, []), (23, .iload_n 2, 24, []), (24, .ishl, 25, []), (25, .ior, 26, []), (26, .istore_n 1, 27, []), (27, .iinc 2 1, 30, []), (30, .goto (-26), 33, [4]), (33, .iload_n 1, 34, []), (34, .ireturn, 35, [])]
set_option maxRecDepth 200000 in
theorem tc_X8_hangingInputs : T_X8_hangingInputs.all (chk cX8_hangingInputs) = true := by decide +kernel
def f_X8_hangingInputs_L4 (N : Nat) (KO33 : Int32 → Wd → Option (Int32 × Wd)) : Nat → Int32 → Int32 → Wd → Option (Int32 × Wd)
  | 0, _, _, _ => none
  | n + 1, x1, x2, σ => if 25 ≤ x2 then (KO33 x1 σ) else ((xld σ 34 512 (2 + x2)).bind fun v1 => if v1 = 0 then (f_X8_hangingInputs_L4 N KO33 n x1 (x2 + 1) σ) else (f_X8_hangingInputs_L4 N KO33 n (x1 ||| (1 <<< (x2 &&& 31))) (x2 + 1) σ))
def f_X8_hangingInputs_J33 (N : Nat) (x1 : Int32) (σ : Wd) : Option (Int32 × Wd) :=
  some (x1, σ)
def f_X8_hangingInputs (N : Nat) (σ : Wd) : Option (Int32 × Wd) :=
  f_X8_hangingInputs_L4 N (f_X8_hangingInputs_J33 N) N 0 0 σ
def a_X8_hangingInputs (N : Nat) : List Value → Wd → Option (Int32 × Wd) := fun as σ => kSE 5 as (fun r0 => kS0 r0 (f_X8_hangingInputs N σ)) (none)
def ct_X8_hangingInputs (N : Nat) : List (Nat × Cal) := []
set_option maxRecDepth 200000 in
theorem md_X8_hangingInputs (N : Nat) : MDOK T_X8_hangingInputs ft_X8 lt_X8 (ct_X8_hangingInputs N) cX8_hangingInputs RX8 1 := ⟨tc_X8_hangingInputs, fc_X8, lc_X8, (fun _ z => absurd z List.not_mem_nil)⟩
set_option maxRecDepth 200000 in
theorem g_X8_hangingInputs_L4 (N : Nat) (KO33 : Int32 → Wd → Option (Int32 × Wd)) (hKO33 : ∀ (x1 : Int32) (σ : Wd), GO cX8_hangingInputs RX8 3 1 sc0 rI nJ0 nV0 (KO33 x1 σ) 33 (mkp 0 3 [(1, .int x1)]) [] σ) : ∀ (n : Nat), ∀ (x1 : Int32) (x2 : Int32) (σ : Wd), GO cX8_hangingInputs RX8 3 1 sc0 rI nJ0 nV0 (f_X8_hangingInputs_L4 N KO33 n x1 x2 σ) 4 (mkp 0 3 [(0, .ref 5), (1, .int x1), (2, .int x2)]) [] σ
  | 0, x1, x2, σ => GO.none
  | n + 1, x1, x2, σ => by
    exact (by refine GO.to (md_X8_hangingInputs N) (kl := [(33, fun vs st σ => kS0 st (kI 1 vs (fun x1 => KO33 x1 σ))), (4, fun vs st σ => kS0 st (kA 0 5 vs (kI 1 vs (fun x1 => kI 2 vs (fun x2 => f_X8_hangingInputs_L4 N KO33 n x1 x2 σ)))))]) (List.forall_mem_cons.mpr ⟨fun vs st σ => go_kS0 (go_kI (fun x1 h1 => GO.pat [(1, .int x1)] ⟨h1, trivial⟩ (hKO33 x1 σ))), List.forall_mem_cons.mpr ⟨fun vs st σ => go_kS0 (go_kA (fun h0 => go_kI (fun x1 h1 => go_kI (fun x2 h2 => GO.pat [(0, .ref 5), (1, .int x1), (2, .int x2)] ⟨h0, h1, h2, trivial⟩ (g_X8_hangingInputs_L4 N KO33 hKO33 n x1 x2 σ))))), (fun _ z => absurd z List.not_mem_nil)⟩⟩) 29 ?_ ?_ <;> rfl)
set_option maxRecDepth 200000 in
theorem g_X8_hangingInputs_J33 (N : Nat) (x1 : Int32) (σ : Wd) : GO cX8_hangingInputs RX8 3 1 sc0 rI nJ0 nV0 (f_X8_hangingInputs_J33 N x1 σ) 33 (mkp 0 3 [(1, .int x1)]) [] σ := by
  exact (by refine GO.to (md_X8_hangingInputs N) (kl := []) ((fun _ z => absurd z List.not_mem_nil)) 29 ?_ ?_ <;> rfl)
set_option maxRecDepth 200000 in
theorem C_X8_hangingInputs (N : Nat) : CTI 1 yX8_hangingInputs cX8_hangingInputs 3 (some .int) (a_X8_hangingInputs N) := by
  refine CTI.of (own := RX8) (by decide) rfl (fun as σ r h => ?_)
  unfold a_X8_hangingInputs at h
  rcases kSE_s h with ⟨r0, rfl, h0⟩ | hn
  ·
    obtain ⟨rfl, h9⟩ := kS0_s h0
    exact ⟨Nat.le_of_ble_eq_true rfl, by refine GO.to (md_X8_hangingInputs N) (kl := [(4, fun vs st σ => kS0 st (kA 0 5 vs (kI 1 vs (fun x1 => kI 2 vs (fun x2 => f_X8_hangingInputs_L4 N (f_X8_hangingInputs_J33 N) N x1 x2 σ)))))]) (List.forall_mem_cons.mpr ⟨fun vs st σ => go_kS0 (go_kA (fun h0 => go_kI (fun x1 h1 => go_kI (fun x2 h2 => GO.pat [(0, .ref 5), (1, .int x1), (2, .int x2)] ⟨h0, h1, h2, trivial⟩ (g_X8_hangingInputs_L4 N (f_X8_hangingInputs_J33 N) (g_X8_hangingInputs_J33 N) N x1 x2 σ))))), (fun _ z => absurd z List.not_mem_nil)⟩) 29 ?_ ?_ <;> rfl⟩
  cases hn
def T_X8_inputsArrive : List (Nat × Ent) := [(0, .aload_n 0, 1, []), (1, .getfield 20, 4, []), (4, .iconst 0, 5, []), (5, .iconst 0, 6, []), (6, .iastore, 7, []), (7, .aload_n 0, 8, []), (8, .getfield 20, 11, []), (11, .iconst 1, 12, []), (12, .iconst 0, 13, []), (13, .iastore, 14, []), (14, .iconst 0, 15, []), (15, .istore_n 1, 16, []), (16, .iload_n 1, 17, []), (17, .bipush 25, 19, []), (19, .if_icmp .ge 23, 22, [42]), (22, .aload_n 0, 23, []), (23, .getfield 20, 26, []), (26, .iconst 2, 27, []), (27, .iload_n 1, 28, []), (28, .iadd, 29, []), (29, .aload_n 0, 30, []), (30, .getfield 15, 33, []), (33, .iload_n 1, 34, []), (34, .iaload, 35, []), (35, .iastore, 36, []), (36, .iinc 1 1, 39, []), (39, .goto (-23), 42, [16]), (42, .return_, 43, [])]
set_option maxRecDepth 200000 in
theorem tc_X8_inputsArrive : T_X8_inputsArrive.all (chk cX8_inputsArrive) = true := by decide +kernel
def f_X8_inputsArrive_L16 (N : Nat) (KO42 : Wd → Option Wd) : Nat → Int32 → Wd → Option Wd
  | 0, _, _ => none
  | n + 1, x1, σ => if 25 ≤ x1 then (KO42 σ) else ((xld σ 31 25 x1).bind fun v3 => (xst σ 32 512 (2 + x1) v3).bind fun σ4 => f_X8_inputsArrive_L16 N KO42 n (x1 + 1) σ4)
def f_X8_inputsArrive_J42 (N : Nat) (σ : Wd) : Option Wd :=
  some σ
def f_X8_inputsArrive (N : Nat) (σ : Wd) : Option Wd :=
  (xst σ 32 512 0 0).bind fun σ1 => (xst σ1 32 512 1 0).bind fun σ2 => f_X8_inputsArrive_L16 N (f_X8_inputsArrive_J42 N) N 0 σ2
def a_X8_inputsArrive (N : Nat) : List Value → Wd → Option Wd := fun as σ => kSE 5 as (fun r0 => kS0 r0 (f_X8_inputsArrive N σ)) (none)
def ct_X8_inputsArrive (N : Nat) : List (Nat × Cal) := []
set_option maxRecDepth 200000 in
theorem md_X8_inputsArrive (N : Nat) : MDOK T_X8_inputsArrive ft_X8 lt_X8 (ct_X8_inputsArrive N) cX8_inputsArrive RX8 1 := ⟨tc_X8_inputsArrive, fc_X8, lc_X8, (fun _ z => absurd z List.not_mem_nil)⟩
set_option maxRecDepth 200000 in
theorem g_X8_inputsArrive_L16 (N : Nat) (KO42 : Wd → Option Wd) (hKO42 : ∀ (σ : Wd), GO cX8_inputsArrive RX8 2 1 sc0 nI0 nJ0 some (KO42 σ) 42 (mkp 0 2 []) [] σ) : ∀ (n : Nat), ∀ (x1 : Int32) (σ : Wd), GO cX8_inputsArrive RX8 2 1 sc0 nI0 nJ0 some (f_X8_inputsArrive_L16 N KO42 n x1 σ) 16 (mkp 0 2 [(0, .ref 5), (1, .int x1)]) [] σ
  | 0, x1, σ => GO.none
  | n + 1, x1, σ => by
    exact (by refine GO.to (md_X8_inputsArrive N) (kl := [(42, fun vs st σ => kS0 st (KO42 σ)), (16, fun vs st σ => kS0 st (kA 0 5 vs (kI 1 vs (fun x1 => f_X8_inputsArrive_L16 N KO42 n x1 σ))))]) (List.forall_mem_cons.mpr ⟨fun vs st σ => go_kS0 (GO.pat [] trivial (hKO42 σ)), List.forall_mem_cons.mpr ⟨fun vs st σ => go_kS0 (go_kA (fun h0 => go_kI (fun x1 h1 => GO.pat [(0, .ref 5), (1, .int x1)] ⟨h0, h1, trivial⟩ (g_X8_inputsArrive_L16 N KO42 hKO42 n x1 σ)))), (fun _ z => absurd z List.not_mem_nil)⟩⟩) 33 ?_ ?_ <;> rfl)
set_option maxRecDepth 200000 in
theorem g_X8_inputsArrive_J42 (N : Nat) (σ : Wd) : GO cX8_inputsArrive RX8 2 1 sc0 nI0 nJ0 some (f_X8_inputsArrive_J42 N σ) 42 (mkp 0 2 []) [] σ := by
  exact (by refine GO.to (md_X8_inputsArrive N) (kl := []) ((fun _ z => absurd z List.not_mem_nil)) 33 ?_ ?_ <;> rfl)
set_option maxRecDepth 200000 in
theorem C_X8_inputsArrive (N : Nat) : CTV 1 yX8_inputsArrive cX8_inputsArrive 2 none (a_X8_inputsArrive N) := by
  refine CTV.of (own := RX8) (by decide) rfl (fun as σ r h => ?_)
  unfold a_X8_inputsArrive at h
  rcases kSE_s h with ⟨r0, rfl, h0⟩ | hn
  ·
    obtain ⟨rfl, h9⟩ := kS0_s h0
    exact ⟨Nat.le_of_ble_eq_true rfl, by refine GO.to (md_X8_inputsArrive N) (kl := [(16, fun vs st σ => kS0 st (kA 0 5 vs (kI 1 vs (fun x1 => f_X8_inputsArrive_L16 N (f_X8_inputsArrive_J42 N) N x1 σ))))]) (List.forall_mem_cons.mpr ⟨fun vs st σ => go_kS0 (go_kA (fun h0 => go_kI (fun x1 h1 => GO.pat [(0, .ref 5), (1, .int x1)] ⟨h0, h1, trivial⟩ (g_X8_inputsArrive_L16 N (f_X8_inputsArrive_J42 N) (g_X8_inputsArrive_J42 N) N x1 σ)))), (fun _ z => absurd z List.not_mem_nil)⟩) 33 ?_ ?_ <;> rfl⟩
  cases hn
def T_X8_isRuled : List (Nat × Ent) := [(0, .iload_n 0, 1, []), (1, .iconst 1, 2, []), (2, .if_icmp .ne 7, 5, [9]), (5, .iload_n 1, 6, []), (6, .ifCond .eq 13, 9, [19]), (9, .iload_n 0, 10, []), (10, .iconst 2, 11, []), (11, .if_icmp .ne 12, 14, [23]), (14, .iload_n 1, 15, []), (15, .iconst 1, 16, []), (16, .if_icmp .ne 7, 19, [23]), (19, .iconst 1, 20, []), (20, .goto 4, 23, [24]), (23, .iconst 0, 24, []), (24, .ireturn, 25, [])]
set_option maxRecDepth 200000 in
theorem tc_X8_isRuled : T_X8_isRuled.all (chk cX8_isRuled) = true := by decide +kernel
def f_X8_isRuled_J9 (N : Nat) (x0 : Int32) (x1 : Int32) (σ : Wd) : Option (Int32 × Wd) :=
  if x0 = 2 then (if x1 = 1 then (some (1, σ)) else (some (0, σ))) else (some (0, σ))
def f_X8_isRuled (N : Nat) (a0 : Int32) (a1 : Int32) (σ : Wd) : Option (Int32 × Wd) :=
  if a0 = 1 then (if a1 = 0 then (some (1, σ)) else (f_X8_isRuled_J9 N a0 a1 σ)) else (f_X8_isRuled_J9 N a0 a1 σ)
def a_X8_isRuled (N : Nat) : List Value → Wd → Option (Int32 × Wd) := fun as σ => kSI as (fun b0 r0 => kSI r0 (fun b1 r1 => kS0 r1 (f_X8_isRuled N b0 b1 σ)))
def ct_X8_isRuled (N : Nat) : List (Nat × Cal) := []
set_option maxRecDepth 200000 in
theorem md_X8_isRuled (N : Nat) : MDOK T_X8_isRuled ft_X8 lt_X8 (ct_X8_isRuled N) cX8_isRuled RX8 1 := ⟨tc_X8_isRuled, fc_X8, lc_X8, (fun _ z => absurd z List.not_mem_nil)⟩
set_option maxRecDepth 200000 in
theorem g_X8_isRuled_J9 (N : Nat) (x0 : Int32) (x1 : Int32) (σ : Wd) : GO cX8_isRuled RX8 2 1 sc0 rZ nJ0 nV0 (f_X8_isRuled_J9 N x0 x1 σ) 9 (mkp 0 2 [(0, .int x0), (1, .int x1)]) [] σ := by
  exact (by refine GO.to (md_X8_isRuled N) (kl := []) ((fun _ z => absurd z List.not_mem_nil)) 20 ?_ ?_ <;> rfl)
set_option maxRecDepth 200000 in
theorem C_X8_isRuled (N : Nat) : CTI 1 yX8_isRuled cX8_isRuled 2 (some .boolean) (a_X8_isRuled N) := by
  refine CTZ.of (own := RX8) (by decide) rfl (fun as σ r h => ?_)
  unfold a_X8_isRuled at h
  obtain ⟨b0, r0, rfl, h0⟩ := kSI_s h
  obtain ⟨b1, r1, rfl, h1⟩ := kSI_s h0
  obtain ⟨rfl, h9⟩ := kS0_s h1
  exact ⟨Nat.le_of_ble_eq_true rfl, by refine GO.to (md_X8_isRuled N) (kl := [(9, fun vs st σ => kS0 st (kI 0 vs (fun x0 => kI 1 vs (fun x1 => f_X8_isRuled_J9 N x0 x1 σ))))]) (List.forall_mem_cons.mpr ⟨fun vs st σ => go_kS0 (go_kI (fun x0 h0 => go_kI (fun x1 h1 => GO.pat [(0, .int x0), (1, .int x1)] ⟨h0, h1, trivial⟩ (g_X8_isRuled_J9 N x0 x1 σ)))), (fun _ z => absurd z List.not_mem_nil)⟩) 20 ?_ ?_ <;> rfl⟩
def T_X8_valueOf : List (Nat × Ent) := [(0, .aload_n 0, 1, []), (1, .getfield 23, 4, []), (4, .aload_n 1, 5, []), (5, .getfield 71, 8, []), (8, .iload_n 2, 9, []), (9, .iaload, 10, []), (10, .iaload, 11, []), (11, .istore_n 3, 12, []), (12, .aload_n 0, 13, []), (13, .getfield 23, 16, []), (16, .aload_n 1, 17, []), (17, .getfield 78, 20, []), (20, .iload_n 2, 21, []), (21, .iaload, 22, []), (22, .iaload, 23, []), (23, .istore 4, 25, []), (25, .aload_n 1, 26, []), (26, .getfield 44, 29, []), (29, .iload_n 2, 30, []), (30, .iaload, 31, []), (31, .tableswitch 40 1 3 #[25, 30, 35], 56, [71, 56, 61, 66]), (56, .iload_n 3, 57, []), (57, .iload 4, 59, []), (59, .iand, 60, []), (60, .ireturn, 61, []), (61, .iload_n 3, 62, []), (62, .iload 4, 64, []), (64, .ior, 65, []), (65, .ireturn, 66, []), (66, .iload_n 3, 67, []), (67, .iload 4, 69, []), (69, .ixor, 70, []), (70, .ireturn, 71, []), (71, .iconst 1, 72, []), (72, .iload_n 3, 73, []), (73, .isub, 74, []), (74, .ireturn, 75, [])]
set_option maxRecDepth 200000 in
theorem tc_X8_valueOf : T_X8_valueOf.all (chk cX8_valueOf) = true := by decide +kernel
def f_X8_valueOf (N : Nat) (a2 : Int32) (σ : Wd) : Option (Int32 × Wd) :=
  (xld σ 19 512 a2).bind fun v1 => (xld σ 33 512 v1).bind fun v2 => (xld σ 20 512 a2).bind fun v3 => (xld σ 33 512 v3).bind fun v4 => (xld σ 18 512 a2).bind fun v5 => if v5 = 1 then (some (v2 &&& v4, σ)) else if v5 = 2 then (some (v2 ||| v4, σ)) else if v5 = 3 then (some (v2 ^^^ v4, σ)) else (some (1 - v2, σ))
def a_X8_valueOf (N : Nat) : List Value → Wd → Option (Int32 × Wd) := fun as σ => kSE 5 as (fun r0 => kSE 4 r0 (fun r1 => kSI r1 (fun b2 r2 => kS0 r2 (f_X8_valueOf N b2 σ))) (none)) (none)
def ct_X8_valueOf (N : Nat) : List (Nat × Cal) := []
set_option maxRecDepth 200000 in
theorem md_X8_valueOf (N : Nat) : MDOK T_X8_valueOf ft_X8 lt_X8 (ct_X8_valueOf N) cX8_valueOf RX8 1 := ⟨tc_X8_valueOf, fc_X8, lc_X8, (fun _ z => absurd z List.not_mem_nil)⟩
set_option maxRecDepth 200000 in
theorem C_X8_valueOf (N : Nat) : CTI 1 yX8_valueOf cX8_valueOf 5 (some .int) (a_X8_valueOf N) := by
  refine CTI.of (own := RX8) (by decide) rfl (fun as σ r h => ?_)
  unfold a_X8_valueOf at h
  rcases kSE_s h with ⟨r0, rfl, h0⟩ | hn
  ·
    rcases kSE_s h0 with ⟨r1, rfl, h1⟩ | h0n
    ·
      obtain ⟨b2, r2, rfl, h2⟩ := kSI_s h1
      obtain ⟨rfl, h9⟩ := kS0_s h2
      exact ⟨Nat.le_of_ble_eq_true rfl, by refine GO.to (md_X8_valueOf N) (kl := []) ((fun _ z => absurd z List.not_mem_nil)) 42 ?_ ?_ <;> rfl⟩
    cases h0n
  cases hn
def T_X8_isHeldUpBy : List (Nat × Ent) := [(0, .aload_n 0, 1, []), (1, .getfield 20, 4, []), (4, .iload_n 3, 5, []), (5, .iaload, 6, []), (6, .aload_n 0, 7, []), (7, .getfield 20, 10, []), (10, .iload_n 2, 11, []), (11, .iaload, 12, []), (12, .aload_n 0, 13, []), (13, .getfield 9, 16, []), (16, .aload_n 1, 17, []), (17, .getfield 44, 20, []), (20, .iload_n 2, 21, []), (21, .iaload, 22, []), (22, .iaload, 23, []), (23, .isub, 24, []), (24, .if_icmp .ne 7, 27, [31]), (27, .iconst 1, 28, []), (28, .goto 4, 31, [32]), (31, .iconst 0, 32, []), (32, .ireturn, 33, [])]
set_option maxRecDepth 200000 in
theorem tc_X8_isHeldUpBy : T_X8_isHeldUpBy.all (chk cX8_isHeldUpBy) = true := by decide +kernel
def f_X8_isHeldUpBy (N : Nat) (a2 : Int32) (a3 : Int32) (σ : Wd) : Option (Int32 × Wd) :=
  (xld σ 32 512 a3).bind fun v1 => (xld σ 32 512 a2).bind fun v2 => (xld σ 18 512 a2).bind fun v3 => (xld σ 30 4 v3).bind fun v4 => if v1 = (v2 - v4) then (some (1, σ)) else (some (0, σ))
def a_X8_isHeldUpBy (N : Nat) : List Value → Wd → Option (Int32 × Wd) := fun as σ => kSE 5 as (fun r0 => kSE 4 r0 (fun r1 => kSI r1 (fun b2 r2 => kSI r2 (fun b3 r3 => kS0 r3 (f_X8_isHeldUpBy N b2 b3 σ)))) (none)) (none)
def ct_X8_isHeldUpBy (N : Nat) : List (Nat × Cal) := []
set_option maxRecDepth 200000 in
theorem md_X8_isHeldUpBy (N : Nat) : MDOK T_X8_isHeldUpBy ft_X8 lt_X8 (ct_X8_isHeldUpBy N) cX8_isHeldUpBy RX8 1 := ⟨tc_X8_isHeldUpBy, fc_X8, lc_X8, (fun _ z => absurd z List.not_mem_nil)⟩
set_option maxRecDepth 200000 in
theorem C_X8_isHeldUpBy (N : Nat) : CTI 1 yX8_isHeldUpBy cX8_isHeldUpBy 4 (some .boolean) (a_X8_isHeldUpBy N) := by
  refine CTZ.of (own := RX8) (by decide) rfl (fun as σ r h => ?_)
  unfold a_X8_isHeldUpBy at h
  rcases kSE_s h with ⟨r0, rfl, h0⟩ | hn
  ·
    rcases kSE_s h0 with ⟨r1, rfl, h1⟩ | h0n
    ·
      obtain ⟨b2, r2, rfl, h2⟩ := kSI_s h1
      obtain ⟨b3, r3, rfl, h3⟩ := kSI_s h2
      obtain ⟨rfl, h9⟩ := kS0_s h3
      exact ⟨Nat.le_of_ble_eq_true rfl, by refine GO.to (md_X8_isHeldUpBy N) (kl := []) ((fun _ z => absurd z List.not_mem_nil)) 26 ?_ ?_ <;> rfl⟩
    cases h0n
  cases hn
def T_X8_outcomeBits : List (Nat × Ent) := [(0, .iconst 0, 1, []), (1, .istore_n 2, 2, []), (2, .iconst 0, 3, []), (3, .istore_n 3, 4, []), (4, .iload_n 3, 5, []), (5, .aload_n 1, 6, []), (6, .getfield 47, 9, []), (9, .if_icmp .gt 24, 12, [33]), (12, .iload_n 2, 13, []), (13, .aload_n 0, 14, []), (14, .getfield 23, 17, []), (17, .aload_n 1, 18, []), (18, .iload_n 3, 19, []), (19, .invokevirtual 64, 22, []), (22, .iaload, 23, []), (23, .iload_n 3, 24, []), (24, .ishl, 25, []), (25, .ior, 26, []), (26, .istore_n 2, 27, []), (27, .iinc 3 1, 30, []), (30, .goto (-26), 33, [4]), (33, .iload_n 2, 34, []), (34, .ireturn, 35, [])]
set_option maxRecDepth 200000 in
theorem tc_X8_outcomeBits : T_X8_outcomeBits.all (chk cX8_outcomeBits) = true := by decide +kernel
def f_X8_outcomeBits_L4 (N : Nat) (KO33 : Int32 → Wd → Option (Int32 × Wd)) : Nat → Int32 → Int32 → Wd → Option (Int32 × Wd)
  | 0, _, _, _ => none
  | n + 1, x2, x3, σ => if (σ.1 4 6) < x3 then (KO33 x2 σ) else ((f_X2_outcomeGate N x3 σ).bind fun p1 => (xld p1.2 33 512 p1.1).bind fun v2 => f_X8_outcomeBits_L4 N KO33 n (x2 ||| (v2 <<< (x3 &&& 31))) (x3 + 1) p1.2)
def f_X8_outcomeBits_J33 (N : Nat) (x2 : Int32) (σ : Wd) : Option (Int32 × Wd) :=
  some (x2, σ)
def f_X8_outcomeBits (N : Nat) (σ : Wd) : Option (Int32 × Wd) :=
  f_X8_outcomeBits_L4 N (f_X8_outcomeBits_J33 N) N 0 0 σ
def a_X8_outcomeBits (N : Nat) : List Value → Wd → Option (Int32 × Wd) := fun as σ => kSE 5 as (fun r0 => kSE 4 r0 (fun r1 => kS0 r1 (f_X8_outcomeBits N σ)) (none)) (none)
set_option maxRecDepth 200000 in
theorem k_X8_64 : calchk RX8 64 2 2 yX2_outcomeGate cX2_outcomeGate 2 (some .int) = true := by decide +kernel
def ct_X8_outcomeBits (N : Nat) : List (Nat × Cal) := [(64, 2, 2, .inl (a_X2_outcomeGate N))]
set_option maxRecDepth 200000 in
theorem md_X8_outcomeBits (N : Nat) : MDOK T_X8_outcomeBits ft_X8 lt_X8 (ct_X8_outcomeBits N) cX8_outcomeBits RX8 2 := ⟨tc_X8_outcomeBits, fc_X8, lc_X8, List.forall_mem_cons.mpr ⟨Or.inl ⟨yX2_outcomeGate, cX2_outcomeGate, 2, (some .int), 1, k_X8_64, Nat.le_of_ble_eq_true rfl, C_X2_outcomeGate N⟩, (fun _ z => absurd z List.not_mem_nil)⟩⟩
set_option maxRecDepth 200000 in
theorem g_X8_outcomeBits_L4 (N : Nat) (KO33 : Int32 → Wd → Option (Int32 × Wd)) (hKO33 : ∀ (x2 : Int32) (σ : Wd), GO cX8_outcomeBits RX8 4 2 sc0 rI nJ0 nV0 (KO33 x2 σ) 33 (mkp 0 4 [(2, .int x2)]) [] σ) : ∀ (n : Nat), ∀ (x2 : Int32) (x3 : Int32) (σ : Wd), GO cX8_outcomeBits RX8 4 2 sc0 rI nJ0 nV0 (f_X8_outcomeBits_L4 N KO33 n x2 x3 σ) 4 (mkp 0 4 [(0, .ref 5), (1, .ref 4), (2, .int x2), (3, .int x3)]) [] σ
  | 0, x2, x3, σ => GO.none
  | n + 1, x2, x3, σ => by
    exact (by refine GO.to (md_X8_outcomeBits N) (kl := [(33, fun vs st σ => kS0 st (kI 2 vs (fun x2 => KO33 x2 σ))), (4, fun vs st σ => kS0 st (kA 0 5 vs (kA 1 4 vs (kI 2 vs (fun x2 => kI 3 vs (fun x3 => f_X8_outcomeBits_L4 N KO33 n x2 x3 σ))))))]) (List.forall_mem_cons.mpr ⟨fun vs st σ => go_kS0 (go_kI (fun x2 h2 => GO.pat [(2, .int x2)] ⟨h2, trivial⟩ (hKO33 x2 σ))), List.forall_mem_cons.mpr ⟨fun vs st σ => go_kS0 (go_kA (fun h0 => go_kA (fun h1 => go_kI (fun x2 h2 => go_kI (fun x3 h3 => GO.pat [(0, .ref 5), (1, .ref 4), (2, .int x2), (3, .int x3)] ⟨h0, h1, h2, h3, trivial⟩ (g_X8_outcomeBits_L4 N KO33 hKO33 n x2 x3 σ)))))), (fun _ z => absurd z List.not_mem_nil)⟩⟩) 28 ?_ ?_ <;> rfl)
set_option maxRecDepth 200000 in
theorem g_X8_outcomeBits_J33 (N : Nat) (x2 : Int32) (σ : Wd) : GO cX8_outcomeBits RX8 4 2 sc0 rI nJ0 nV0 (f_X8_outcomeBits_J33 N x2 σ) 33 (mkp 0 4 [(2, .int x2)]) [] σ := by
  exact (by refine GO.to (md_X8_outcomeBits N) (kl := []) ((fun _ z => absurd z List.not_mem_nil)) 28 ?_ ?_ <;> rfl)
set_option maxRecDepth 200000 in
theorem C_X8_outcomeBits (N : Nat) : CTI 2 yX8_outcomeBits cX8_outcomeBits 4 (some .int) (a_X8_outcomeBits N) := by
  refine CTI.of (own := RX8) (by decide) rfl (fun as σ r h => ?_)
  unfold a_X8_outcomeBits at h
  rcases kSE_s h with ⟨r0, rfl, h0⟩ | hn
  ·
    rcases kSE_s h0 with ⟨r1, rfl, h1⟩ | h0n
    ·
      obtain ⟨rfl, h9⟩ := kS0_s h1
      exact ⟨Nat.le_of_ble_eq_true rfl, by refine GO.to (md_X8_outcomeBits N) (kl := [(4, fun vs st σ => kS0 st (kA 0 5 vs (kA 1 4 vs (kI 2 vs (fun x2 => kI 3 vs (fun x3 => f_X8_outcomeBits_L4 N (f_X8_outcomeBits_J33 N) N x2 x3 σ))))))]) (List.forall_mem_cons.mpr ⟨fun vs st σ => go_kS0 (go_kA (fun h0 => go_kA (fun h1 => go_kI (fun x2 h2 => go_kI (fun x3 h3 => GO.pat [(0, .ref 5), (1, .ref 4), (2, .int x2), (3, .int x3)] ⟨h0, h1, h2, h3, trivial⟩ (g_X8_outcomeBits_L4 N (f_X8_outcomeBits_J33 N) (g_X8_outcomeBits_J33 N) N x2 x3 σ)))))), (fun _ z => absurd z List.not_mem_nil)⟩) 28 ?_ ?_ <;> rfl⟩
    cases h0n
  cases hn
def T_X8_lastOutcome : List (Nat × Ent) := [(0, .iconst 0, 1, []), (1, .istore_n 2, 2, []), (2, .iconst 0, 3, []), (3, .istore_n 3, 4, []), (4, .iload_n 3, 5, []), (5, .aload_n 1, 6, []), (6, .getfield 47, 9, []), (9, .if_icmp .gt 24, 12, [33]), (12, .iload_n 2, 13, []), (13, .aload_n 0, 14, []), (14, .getfield 20, 17, []), (17, .aload_n 1, 18, []), (18, .iload_n 3, 19, []), (19, .invokevirtual 64, 22, []), (22, .iaload, 23, []), (23, .invokestatic 85, 26, []), (26, .istore_n 2, 27, []), (27, .iinc 3 1, 30, []), (30, .goto (-26), 33, [4]), (33, .iload_n 2, 34, []), (34, .ireturn, 35, [])]
set_option maxRecDepth 200000 in
theorem tc_X8_lastOutcome : T_X8_lastOutcome.all (chk cX8_lastOutcome) = true := by decide +kernel
def f_X8_lastOutcome_L4 (N : Nat) (KO33 : Int32 → Wd → Option (Int32 × Wd)) : Nat → Int32 → Int32 → Wd → Option (Int32 × Wd)
  | 0, _, _, _ => none
  | n + 1, x2, x3, σ => if (σ.1 4 6) < x3 then (KO33 x2 σ) else ((f_X2_outcomeGate N x3 σ).bind fun p1 => (xld p1.2 32 512 p1.1).bind fun v2 => (f_J9_max_7cf53 N x2 v2 p1.2).bind fun p3 => f_X8_lastOutcome_L4 N KO33 n p3.1 (x3 + 1) p3.2)
def f_X8_lastOutcome_J33 (N : Nat) (x2 : Int32) (σ : Wd) : Option (Int32 × Wd) :=
  some (x2, σ)
def f_X8_lastOutcome (N : Nat) (σ : Wd) : Option (Int32 × Wd) :=
  f_X8_lastOutcome_L4 N (f_X8_lastOutcome_J33 N) N 0 0 σ
def a_X8_lastOutcome (N : Nat) : List Value → Wd → Option (Int32 × Wd) := fun as σ => kSE 5 as (fun r0 => kSE 4 r0 (fun r1 => kS0 r1 (f_X8_lastOutcome N σ)) (none)) (none)
set_option maxRecDepth 200000 in
theorem k_X8_85 : mmchk RX8 85 Lib.Math.max.name Lib.Math.max.code = true := by decide +kernel
def ct_X8_lastOutcome (N : Nat) : List (Nat × Cal) := [(64, 2, 2, .inl (a_X2_outcomeGate N)), (85, 2, 0, .inl amax)]
set_option maxRecDepth 200000 in
theorem md_X8_lastOutcome (N : Nat) : MDOK T_X8_lastOutcome ft_X8 lt_X8 (ct_X8_lastOutcome N) cX8_lastOutcome RX8 2 := ⟨tc_X8_lastOutcome, fc_X8, lc_X8, List.forall_mem_cons.mpr ⟨Or.inl ⟨yX2_outcomeGate, cX2_outcomeGate, 2, (some .int), 1, k_X8_64, Nat.le_of_ble_eq_true rfl, C_X2_outcomeGate N⟩, List.forall_mem_cons.mpr ⟨Or.inr (Or.inl ⟨rfl, k_X8_85, Nat.le_of_ble_eq_true rfl⟩), (fun _ z => absurd z List.not_mem_nil)⟩⟩⟩
set_option maxRecDepth 200000 in
theorem g_X8_lastOutcome_L4 (N : Nat) (KO33 : Int32 → Wd → Option (Int32 × Wd)) (hKO33 : ∀ (x2 : Int32) (σ : Wd), GO cX8_lastOutcome RX8 4 2 sc0 rI nJ0 nV0 (KO33 x2 σ) 33 (mkp 0 4 [(2, .int x2)]) [] σ) : ∀ (n : Nat), ∀ (x2 : Int32) (x3 : Int32) (σ : Wd), GO cX8_lastOutcome RX8 4 2 sc0 rI nJ0 nV0 (f_X8_lastOutcome_L4 N KO33 n x2 x3 σ) 4 (mkp 0 4 [(0, .ref 5), (1, .ref 4), (2, .int x2), (3, .int x3)]) [] σ
  | 0, x2, x3, σ => GO.none
  | n + 1, x2, x3, σ => by
    exact (by refine GO.to (md_X8_lastOutcome N) (kl := [(33, fun vs st σ => kS0 st (kI 2 vs (fun x2 => KO33 x2 σ))), (4, fun vs st σ => kS0 st (kA 0 5 vs (kA 1 4 vs (kI 2 vs (fun x2 => kI 3 vs (fun x3 => f_X8_lastOutcome_L4 N KO33 n x2 x3 σ))))))]) (List.forall_mem_cons.mpr ⟨fun vs st σ => go_kS0 (go_kI (fun x2 h2 => GO.pat [(2, .int x2)] ⟨h2, trivial⟩ (hKO33 x2 σ))), List.forall_mem_cons.mpr ⟨fun vs st σ => go_kS0 (go_kA (fun h0 => go_kA (fun h1 => go_kI (fun x2 h2 => go_kI (fun x3 h3 => GO.pat [(0, .ref 5), (1, .ref 4), (2, .int x2), (3, .int x3)] ⟨h0, h1, h2, h3, trivial⟩ (g_X8_lastOutcome_L4 N KO33 hKO33 n x2 x3 σ)))))), (fun _ z => absurd z List.not_mem_nil)⟩⟩) 26 ?_ ?_ <;> rfl)
set_option maxRecDepth 200000 in
theorem g_X8_lastOutcome_J33 (N : Nat) (x2 : Int32) (σ : Wd) : GO cX8_lastOutcome RX8 4 2 sc0 rI nJ0 nV0 (f_X8_lastOutcome_J33 N x2 σ) 33 (mkp 0 4 [(2, .int x2)]) [] σ := by
  exact (by refine GO.to (md_X8_lastOutcome N) (kl := []) ((fun _ z => absurd z List.not_mem_nil)) 26 ?_ ?_ <;> rfl)
set_option maxRecDepth 200000 in
theorem C_X8_lastOutcome (N : Nat) : CTI 2 yX8_lastOutcome cX8_lastOutcome 4 (some .int) (a_X8_lastOutcome N) := by
  refine CTI.of (own := RX8) (by decide) rfl (fun as σ r h => ?_)
  unfold a_X8_lastOutcome at h
  rcases kSE_s h with ⟨r0, rfl, h0⟩ | hn
  ·
    rcases kSE_s h0 with ⟨r1, rfl, h1⟩ | h0n
    ·
      obtain ⟨rfl, h9⟩ := kS0_s h1
      exact ⟨Nat.le_of_ble_eq_true rfl, by refine GO.to (md_X8_lastOutcome N) (kl := [(4, fun vs st σ => kS0 st (kA 0 5 vs (kA 1 4 vs (kI 2 vs (fun x2 => kI 3 vs (fun x3 => f_X8_lastOutcome_L4 N (f_X8_lastOutcome_J33 N) N x2 x3 σ))))))]) (List.forall_mem_cons.mpr ⟨fun vs st σ => go_kS0 (go_kA (fun h0 => go_kA (fun h1 => go_kI (fun x2 h2 => go_kI (fun x3 h3 => GO.pat [(0, .ref 5), (1, .ref 4), (2, .int x2), (3, .int x3)] ⟨h0, h1, h2, h3, trivial⟩ (g_X8_lastOutcome_L4 N (f_X8_lastOutcome_J33 N) (g_X8_lastOutcome_J33 N) N x2 x3 σ)))))), (fun _ z => absurd z List.not_mem_nil)⟩) 26 ?_ ?_ <;> rfl⟩
    cases h0n
  cases hn
def T_X8_laterPart : List (Nat × Ent) := [(0, .aload_n 0, 1, []), (1, .getfield 20, 4, []), (4, .aload_n 1, 5, []), (5, .getfield 71, 8, []), (8, .iload_n 2, 9, []), (9, .iaload, 10, []), (10, .iaload, 11, []), (11, .aload_n 0, 12, []), (12, .getfield 20, 15, []), (15, .aload_n 1, 16, []), (16, .getfield 78, 19, []), (19, .iload_n 2, 20, []), (20, .iaload, 21, []), (21, .iaload, 22, []), (22, .invokestatic 85, 25, []), (25, .ireturn, 26, [])]
set_option maxRecDepth 200000 in
theorem tc_X8_laterPart : T_X8_laterPart.all (chk cX8_laterPart) = true := by decide +kernel
def f_X8_laterPart (N : Nat) (a2 : Int32) (σ : Wd) : Option (Int32 × Wd) :=
  (xld σ 19 512 a2).bind fun v1 => (xld σ 32 512 v1).bind fun v2 => (xld σ 20 512 a2).bind fun v3 => (xld σ 32 512 v3).bind fun v4 => (f_J9_max_7cf53 N v2 v4 σ).bind fun p5 => some (p5.1, p5.2)
def a_X8_laterPart (N : Nat) : List Value → Wd → Option (Int32 × Wd) := fun as σ => kSE 5 as (fun r0 => kSE 4 r0 (fun r1 => kSI r1 (fun b2 r2 => kS0 r2 (f_X8_laterPart N b2 σ))) (none)) (none)
def ct_X8_laterPart (N : Nat) : List (Nat × Cal) := [(85, 2, 0, .inl amax)]
set_option maxRecDepth 200000 in
theorem md_X8_laterPart (N : Nat) : MDOK T_X8_laterPart ft_X8 lt_X8 (ct_X8_laterPart N) cX8_laterPart RX8 2 := ⟨tc_X8_laterPart, fc_X8, lc_X8, List.forall_mem_cons.mpr ⟨Or.inr (Or.inl ⟨rfl, k_X8_85, Nat.le_of_ble_eq_true rfl⟩), (fun _ z => absurd z List.not_mem_nil)⟩⟩
set_option maxRecDepth 200000 in
theorem C_X8_laterPart (N : Nat) : CTI 2 yX8_laterPart cX8_laterPart 3 (some .int) (a_X8_laterPart N) := by
  refine CTI.of (own := RX8) (by decide) rfl (fun as σ r h => ?_)
  unfold a_X8_laterPart at h
  rcases kSE_s h with ⟨r0, rfl, h0⟩ | hn
  ·
    rcases kSE_s h0 with ⟨r1, rfl, h1⟩ | h0n
    ·
      obtain ⟨b2, r2, rfl, h2⟩ := kSI_s h1
      obtain ⟨rfl, h9⟩ := kS0_s h2
      exact ⟨Nat.le_of_ble_eq_true rfl, by refine GO.to (md_X8_laterPart N) (kl := []) ((fun _ z => absurd z List.not_mem_nil)) 21 ?_ ?_ <;> rfl⟩
    cases h0n
  cases hn
def T_X8_rulingPart : List (Nat × Ent) := [(0, .aload_n 1, 1, []), (1, .getfield 71, 4, []), (4, .iload_n 2, 5, []), (5, .iaload, 6, []), (6, .istore_n 3, 7, []), (7, .aload_n 1, 8, []), (8, .getfield 78, 11, []), (11, .iload_n 2, 12, []), (12, .iaload, 13, []), (13, .istore 4, 15, []), (15, .aload_n 0, 16, []), (16, .getfield 23, 19, []), (19, .iload_n 3, 20, []), (20, .iaload, 21, []), (21, .aload_n 0, 22, []), (22, .getfield 23, 25, []), (25, .iload_n 2, 26, []), (26, .iaload, 27, []), (27, .if_icmp .eq 11, 30, [38]), (30, .aload_n 0, 31, []), (31, .getfield 20, 34, []), (34, .iload 4, 36, []), (36, .iaload, 37, []), (37, .ireturn, 38, []), (38, .aload_n 0, 39, []), (39, .getfield 23, 42, []), (42, .iload 4, 44, []), (44, .iaload, 45, []), (45, .aload_n 0, 46, []), (46, .getfield 23, 49, []), (49, .iload_n 2, 50, []), (50, .iaload, 51, []), (51, .if_icmp .ne 22, 54, [73]), (54, .aload_n 0, 55, []), (55, .getfield 20, 58, []), (58, .iload_n 3, 59, []), (59, .iaload, 60, []), (60, .aload_n 0, 61, []), (61, .getfield 20, 64, []), (64, .iload 4, 66, []), (66, .iaload, 67, []), (67, .invokestatic 91, 70, []), (70, .goto 9, 73, [79]), (73, .aload_n 0, 74, []), (74, .getfield 20, 77, []), (77, .iload_n 3, 78, []), (78, .iaload, 79, []), (79, .ireturn, 80, [])]
set_option maxRecDepth 200000 in
theorem tc_X8_rulingPart : T_X8_rulingPart.all (chk cX8_rulingPart) = true := by decide +kernel
def f_X8_rulingPart (N : Nat) (a2 : Int32) (σ : Wd) : Option (Int32 × Wd) :=
  (xld σ 19 512 a2).bind fun v1 => (xld σ 20 512 a2).bind fun v2 => (xld σ 33 512 v1).bind fun v3 => (xld σ 33 512 a2).bind fun v4 => if v3 = v4 then ((xld σ 33 512 v2).bind fun v5 => (xld σ 33 512 a2).bind fun v6 => if v5 = v6 then ((xld σ 32 512 v1).bind fun v7 => (xld σ 32 512 v2).bind fun v8 => (f_J9_min_7cf53 N v7 v8 σ).bind fun p9 => some (p9.1, p9.2)) else ((xld σ 32 512 v1).bind fun v10 => some (v10, σ))) else ((xld σ 32 512 v2).bind fun v11 => some (v11, σ))
def a_X8_rulingPart (N : Nat) : List Value → Wd → Option (Int32 × Wd) := fun as σ => kSE 5 as (fun r0 => kSE 4 r0 (fun r1 => kSI r1 (fun b2 r2 => kS0 r2 (f_X8_rulingPart N b2 σ))) (none)) (none)
set_option maxRecDepth 200000 in
theorem k_X8_91 : mmchk RX8 91 Lib.Math.min.name Lib.Math.min.code = true := by decide +kernel
def ct_X8_rulingPart (N : Nat) : List (Nat × Cal) := [(91, 2, 0, .inl amin)]
set_option maxRecDepth 200000 in
theorem md_X8_rulingPart (N : Nat) : MDOK T_X8_rulingPart ft_X8 lt_X8 (ct_X8_rulingPart N) cX8_rulingPart RX8 2 := ⟨tc_X8_rulingPart, fc_X8, lc_X8, List.forall_mem_cons.mpr ⟨Or.inr (Or.inr ⟨rfl, k_X8_91, Nat.le_of_ble_eq_true rfl⟩), (fun _ z => absurd z List.not_mem_nil)⟩⟩
set_option maxRecDepth 200000 in
theorem C_X8_rulingPart (N : Nat) : CTI 2 yX8_rulingPart cX8_rulingPart 5 (some .int) (a_X8_rulingPart N) := by
  refine CTI.of (own := RX8) (by decide) rfl (fun as σ r h => ?_)
  unfold a_X8_rulingPart at h
  rcases kSE_s h with ⟨r0, rfl, h0⟩ | hn
  ·
    rcases kSE_s h0 with ⟨r1, rfl, h1⟩ | h0n
    ·
      obtain ⟨b2, r2, rfl, h2⟩ := kSI_s h1
      obtain ⟨rfl, h9⟩ := kS0_s h2
      exact ⟨Nat.le_of_ble_eq_true rfl, by refine GO.to (md_X8_rulingPart N) (kl := []) ((fun _ z => absurd z List.not_mem_nil)) 53 ?_ ?_ <;> rfl⟩
    cases h0n
  cases hn
def T_X8_depthBelow : List (Nat × Ent) := [(0, .aload_n 0, 1, []), (1, .aload_n 1, 2, []), (2, .iload_n 2, 3, []), (3, .iload_n 3, 4, []), (4, .invokevirtual 74, 7, []), (7, .ifCond .eq 12, 10, [19]), (10, .aload_n 0, 11, []), (11, .getfield 30, 14, []), (14, .iload_n 3, 15, []), (15, .iaload, 16, []), (16, .goto 4, 19, [20]), (19, .iconst 0, 20, []), (20, .ireturn, 21, [])]
set_option maxRecDepth 200000 in
theorem tc_X8_depthBelow : T_X8_depthBelow.all (chk cX8_depthBelow) = true := by decide +kernel
def f_X8_depthBelow (N : Nat) (a2 : Int32) (a3 : Int32) (σ : Wd) : Option (Int32 × Wd) :=
  (f_X8_isHeldUpBy N a2 a3 σ).bind fun p1 => if p1.1 = 0 then (some (0, p1.2)) else ((xld p1.2 35 512 a3).bind fun v2 => some (v2, p1.2))
def a_X8_depthBelow (N : Nat) : List Value → Wd → Option (Int32 × Wd) := fun as σ => kSE 5 as (fun r0 => kSE 4 r0 (fun r1 => kSI r1 (fun b2 r2 => kSI r2 (fun b3 r3 => kS0 r3 (f_X8_depthBelow N b2 b3 σ)))) (none)) (none)
set_option maxRecDepth 200000 in
theorem k_X8_74 : calchk RX8 74 4 8 yX8_isHeldUpBy cX8_isHeldUpBy 4 (some .boolean) = true := by decide +kernel
def ct_X8_depthBelow (N : Nat) : List (Nat × Cal) := [(74, 4, 8, .inl (a_X8_isHeldUpBy N))]
set_option maxRecDepth 200000 in
theorem md_X8_depthBelow (N : Nat) : MDOK T_X8_depthBelow ft_X8 lt_X8 (ct_X8_depthBelow N) cX8_depthBelow RX8 2 := ⟨tc_X8_depthBelow, fc_X8, lc_X8, List.forall_mem_cons.mpr ⟨Or.inl ⟨yX8_isHeldUpBy, cX8_isHeldUpBy, 4, (some .boolean), 1, k_X8_74, Nat.le_of_ble_eq_true rfl, C_X8_isHeldUpBy N⟩, (fun _ z => absurd z List.not_mem_nil)⟩⟩
set_option maxRecDepth 200000 in
theorem C_X8_depthBelow (N : Nat) : CTI 2 yX8_depthBelow cX8_depthBelow 4 (some .int) (a_X8_depthBelow N) := by
  refine CTI.of (own := RX8) (by decide) rfl (fun as σ r h => ?_)
  unfold a_X8_depthBelow at h
  rcases kSE_s h with ⟨r0, rfl, h0⟩ | hn
  ·
    rcases kSE_s h0 with ⟨r1, rfl, h1⟩ | h0n
    ·
      obtain ⟨b2, r2, rfl, h2⟩ := kSI_s h1
      obtain ⟨b3, r3, rfl, h3⟩ := kSI_s h2
      obtain ⟨rfl, h9⟩ := kS0_s h3
      exact ⟨Nat.le_of_ble_eq_true rfl, by refine GO.to (md_X8_depthBelow N) (kl := []) ((fun _ z => absurd z List.not_mem_nil)) 18 ?_ ?_ <;> rfl⟩
    cases h0n
  cases hn
def T_X8_come : List (Nat × Ent) := [(0, .aload_n 0, 1, []), (1, .invokevirtual 33, 4, []), (4, .bipush 27, 6, []), (6, .istore_n 2, 7, []), (7, .iload_n 2, 8, []), (8, .aload_n 1, 9, []), (9, .getfield 36, 12, []), (12, .if_icmp .ge 33, 15, [45]), (15, .aload_n 0, 16, []), (16, .getfield 20, 19, []), (19, .iload_n 2, 20, []), (20, .aload_n 0, 21, []), (21, .aload_n 1, 22, []), (22, .iload_n 2, 23, []), (23, .invokevirtual 40, 26, []), (26, .aload_n 0, 27, []), (27, .getfield 9, 30, []), (30, .aload_n 1, 31, []), (31, .getfield 44, 34, []), (34, .iload_n 2, 35, []), (35, .iaload, 36, []), (36, .iaload, 37, []), (37, .iadd, 38, []), (38, .iastore, 39, []), (39, .iinc 2 1, 42, []), (42, .goto (-35), 45, [7]), (45, .return_, 46, [])]
set_option maxRecDepth 200000 in
theorem tc_X8_come : T_X8_come.all (chk cX8_come) = true := by decide +kernel
def f_X8_come_L7 (N : Nat) (KO45 : Wd → Option Wd) : Nat → Int32 → Wd → Option Wd
  | 0, _, _ => none
  | n + 1, x2, σ => if (σ.1 4 5) ≤ x2 then (KO45 σ) else ((f_X8_laterPart N x2 σ).bind fun p2 => (xld p2.2 18 512 x2).bind fun v3 => (xld p2.2 30 4 v3).bind fun v4 => (xst p2.2 32 512 x2 (p2.1 + v4)).bind fun σ5 => f_X8_come_L7 N KO45 n (x2 + 1) σ5)
def f_X8_come_J45 (N : Nat) (σ : Wd) : Option Wd :=
  some σ
def f_X8_come (N : Nat) (σ : Wd) : Option Wd :=
  (f_X8_inputsArrive N σ).bind fun σ1 => f_X8_come_L7 N (f_X8_come_J45 N) N 27 σ1
def a_X8_come (N : Nat) : List Value → Wd → Option Wd := fun as σ => kSE 5 as (fun r0 => kSE 4 r0 (fun r1 => kS0 r1 (f_X8_come N σ)) (none)) (none)
set_option maxRecDepth 200000 in
theorem k_X8_33 : calchk RX8 33 1 8 yX8_inputsArrive cX8_inputsArrive 2 none = true := by decide +kernel
set_option maxRecDepth 200000 in
theorem k_X8_40 : calchk RX8 40 3 8 yX8_laterPart cX8_laterPart 3 (some .int) = true := by decide +kernel
def ct_X8_come (N : Nat) : List (Nat × Cal) := [(33, 1, 8, .inr (.inr (a_X8_inputsArrive N))), (40, 3, 8, .inl (a_X8_laterPart N))]
set_option maxRecDepth 200000 in
theorem md_X8_come (N : Nat) : MDOK T_X8_come ft_X8 lt_X8 (ct_X8_come N) cX8_come RX8 3 := ⟨tc_X8_come, fc_X8, lc_X8, List.forall_mem_cons.mpr ⟨Or.inl ⟨yX8_inputsArrive, cX8_inputsArrive, 2, none, 1, k_X8_33, Nat.le_of_ble_eq_true rfl, C_X8_inputsArrive N⟩, List.forall_mem_cons.mpr ⟨Or.inl ⟨yX8_laterPart, cX8_laterPart, 3, (some .int), 2, k_X8_40, Nat.le_of_ble_eq_true rfl, C_X8_laterPart N⟩, (fun _ z => absurd z List.not_mem_nil)⟩⟩⟩
set_option maxRecDepth 200000 in
theorem g_X8_come_L7 (N : Nat) (KO45 : Wd → Option Wd) (hKO45 : ∀ (σ : Wd), GO cX8_come RX8 3 3 sc0 nI0 nJ0 some (KO45 σ) 45 (mkp 0 3 []) [] σ) : ∀ (n : Nat), ∀ (x2 : Int32) (σ : Wd), GO cX8_come RX8 3 3 sc0 nI0 nJ0 some (f_X8_come_L7 N KO45 n x2 σ) 7 (mkp 0 3 [(0, .ref 5), (1, .ref 4), (2, .int x2)]) [] σ
  | 0, x2, σ => GO.none
  | n + 1, x2, σ => by
    exact (by refine GO.to (md_X8_come N) (kl := [(45, fun vs st σ => kS0 st (KO45 σ)), (7, fun vs st σ => kS0 st (kA 0 5 vs (kA 1 4 vs (kI 2 vs (fun x2 => f_X8_come_L7 N KO45 n x2 σ)))))]) (List.forall_mem_cons.mpr ⟨fun vs st σ => go_kS0 (GO.pat [] trivial (hKO45 σ)), List.forall_mem_cons.mpr ⟨fun vs st σ => go_kS0 (go_kA (fun h0 => go_kA (fun h1 => go_kI (fun x2 h2 => GO.pat [(0, .ref 5), (1, .ref 4), (2, .int x2)] ⟨h0, h1, h2, trivial⟩ (g_X8_come_L7 N KO45 hKO45 n x2 σ))))), (fun _ z => absurd z List.not_mem_nil)⟩⟩) 32 ?_ ?_ <;> rfl)
set_option maxRecDepth 200000 in
theorem g_X8_come_J45 (N : Nat) (σ : Wd) : GO cX8_come RX8 3 3 sc0 nI0 nJ0 some (f_X8_come_J45 N σ) 45 (mkp 0 3 []) [] σ := by
  exact (by refine GO.to (md_X8_come N) (kl := []) ((fun _ z => absurd z List.not_mem_nil)) 32 ?_ ?_ <;> rfl)
set_option maxRecDepth 200000 in
theorem C_X8_come (N : Nat) : CTV 3 yX8_come cX8_come 3 none (a_X8_come N) := by
  refine CTV.of (own := RX8) (by decide) rfl (fun as σ r h => ?_)
  unfold a_X8_come at h
  rcases kSE_s h with ⟨r0, rfl, h0⟩ | hn
  ·
    rcases kSE_s h0 with ⟨r1, rfl, h1⟩ | h0n
    ·
      obtain ⟨rfl, h9⟩ := kS0_s h1
      exact ⟨Nat.le_of_ble_eq_true rfl, by refine GO.to (md_X8_come N) (kl := [(7, fun vs st σ => kS0 st (kA 0 5 vs (kA 1 4 vs (kI 2 vs (fun x2 => f_X8_come_L7 N (f_X8_come_J45 N) N x2 σ)))))]) (List.forall_mem_cons.mpr ⟨fun vs st σ => go_kS0 (go_kA (fun h0 => go_kA (fun h1 => go_kI (fun x2 h2 => GO.pat [(0, .ref 5), (1, .ref 4), (2, .int x2)] ⟨h0, h1, h2, trivial⟩ (g_X8_come_L7 N (f_X8_come_J45 N) (g_X8_come_J45 N) N x2 σ))))), (fun _ z => absurd z List.not_mem_nil)⟩) 32 ?_ ?_ <;> rfl⟩
    cases h0n
  cases hn
def T_X8_settle : List (Nat × Ent) := [(0, .aload_n 0, 1, []), (1, .invokevirtual 33, 4, []), (4, .aload_n 0, 5, []), (5, .getfield 23, 8, []), (8, .iconst 0, 9, []), (9, .iconst 0, 10, []), (10, .iastore, 11, []), (11, .aload_n 0, 12, []), (12, .getfield 23, 15, []), (15, .iconst 1, 16, []), (16, .iconst 1, 17, []), (17, .iastore, 18, []), (18, .aload_n 0, 19, []), (19, .getfield 23, 22, []), (22, .bipush 26, 24, []), (24, .iload 4, 26, []), (26, .iastore, 27, []), (27, .iconst 0, 28, []), (28, .istore 5, 30, []), (30, .iload 5, 32, []), (32, .aload_n 1, 33, []), (33, .getfield 47, 36, []), (36, .if_icmp .ge 40, 39, [76]), (39, .aload_n 0, 40, []), (40, .getfield 23, 43, []), (43, .iconst 2, 44, []), (44, .iload 5, 46, []), (46, .iadd, 47, []), (47, .iload_n 2, 48, []), (48, .iload 5, 50, []), (50, .ishr, 51, []), (51, .iconst 1, 52, []), (52, .iand, 53, []), (53, .iastore, 54, []), (54, .aload_n 0, 55, []), (55, .getfield 23, 58, []), (58, .bipush 14, 60, []), (60, .iload 5, 62, []), (62, .iadd, 63, []), (63, .iload_n 3, 64, []), (64, .iload 5, 66, []), (66, .ishr, 67, []), (67, .iconst 1, 68, []), (68, .iand, 69, []), (69, .iastore, 70, []), (70, .iinc 5 1, 73, []), (73, .goto (-43), 76, [30]), (76, .bipush 27, 78, []), (78, .istore 5, 80, []), (80, .iload 5, 82, []), (82, .aload_n 1, 83, []), (83, .getfield 36, 86, []), (86, .if_icmp .ge 84, 89, [170]), (89, .aload_n 0, 90, []), (90, .getfield 23, 93, []), (93, .iload 5, 95, []), (95, .aload_n 0, 96, []), (96, .aload_n 1, 97, []), (97, .iload 5, 99, []), (99, .invokevirtual 50, 102, []), (102, .iastore, 103, []), (103, .aload_n 1, 104, []), (104, .getfield 44, 107, []), (107, .iload 5, 109, []), (109, .iaload, 110, []), (110, .aload_n 0, 111, []), (111, .getfield 23, 114, []), (114, .iload 5, 116, []), (116, .iaload, 117, []), (117, .invokestatic 53, 120, []), (120, .ifCond .eq 13, 123, [133]), (123, .aload_n 0, 124, []), (124, .aload_n 1, 125, []), (125, .iload 5, 127, []), (127, .invokevirtual 57, 130, []), (130, .goto 10, 133, [140]), (133, .aload_n 0, 134, []), (134, .aload_n 1, 135, []), (135, .iload 5, 137, []), (137, .invokevirtual 40, 140, []), (140, .istore 6, 142, []), (142, .aload_n 0, 143, []), (143, .getfield 20, 146, []), (146, .iload 5, 148, []), (148, .iload 6, 150, []), (150, .aload_n 0, 151, []), (151, .getfield 9, 154, []), (154, .aload_n 1, 155, []), (155, .getfield 44, 158, []), (158, .iload 5, 160, []), (160, .iaload, 161, []), (161, .iaload, 162, []), (162, .iadd, 163, []), (163, .iastore, 164, []), (164, .iinc 5 1, 167, []), (167, .goto (-87), 170, [80]), (170, .return_, 171, [])]
set_option maxRecDepth 200000 in
theorem tc_X8_settle : T_X8_settle.all (chk cX8_settle) = true := by decide +kernel
def f_X8_settle_L30 (N : Nat) (KO76 : Wd → Option Wd) : Nat → Int32 → Int32 → Int32 → Wd → Option Wd
  | 0, _, _, _, _ => none
  | n + 1, x2, x3, x5, σ => if (σ.1 4 6) ≤ x5 then (KO76 σ) else ((xst σ 33 512 (2 + x5) ((x2 >>> (x5 &&& 31)) &&& 1)).bind fun σ5 => (xst σ5 33 512 (14 + x5) ((x3 >>> (x5 &&& 31)) &&& 1)).bind fun σ6 => f_X8_settle_L30 N KO76 n x2 x3 (x5 + 1) σ6)
def f_X8_settle_J140 (N : Nat) (KB : Int32 → Wd → Option Wd) (KO170 : Wd → Option Wd) (x5 : Int32) (y0 : Int32) (σ : Wd) : Option Wd :=
  (xld σ 18 512 x5).bind fun v13 => (xld σ 30 4 v13).bind fun v14 => (xst σ 32 512 x5 (y0 + v14)).bind fun σ15 => KB (x5 + 1) σ15
def f_X8_settle_L80 (N : Nat) (KO170 : Wd → Option Wd) : Nat → Int32 → Wd → Option Wd
  | 0, _, _ => none
  | n + 1, x5, σ => if (σ.1 4 5) ≤ x5 then (KO170 σ) else ((f_X8_valueOf N x5 σ).bind fun p7 => (xst p7.2 33 512 x5 p7.1).bind fun σ8 => (xld σ8 18 512 x5).bind fun v9 => (xld σ8 33 512 x5).bind fun v10 => (f_X8_isRuled N v9 v10 σ8).bind fun p11 => if p11.1 = 0 then ((f_X8_laterPart N x5 p11.2).bind fun p12 => f_X8_settle_J140 N (f_X8_settle_L80 N KO170 n) KO170 x5 p12.1 p12.2) else ((f_X8_rulingPart N x5 p11.2).bind fun p16 => f_X8_settle_J140 N (f_X8_settle_L80 N KO170 n) KO170 x5 p16.1 p16.2))
def f_X8_settle_J170 (N : Nat) (σ : Wd) : Option Wd :=
  some σ
def f_X8_settle_J76 (N : Nat) (σ : Wd) : Option Wd :=
  f_X8_settle_L80 N (f_X8_settle_J170 N) N 27 σ
def f_X8_settle (N : Nat) (a2 : Int32) (a3 : Int32) (a4 : Int32) (σ : Wd) : Option Wd :=
  (f_X8_inputsArrive N σ).bind fun σ1 => (xst σ1 33 512 0 0).bind fun σ2 => (xst σ2 33 512 1 1).bind fun σ3 => (xst σ3 33 512 26 a4).bind fun σ4 => f_X8_settle_L30 N (f_X8_settle_J76 N) N a2 a3 0 σ4
def a_X8_settle (N : Nat) : List Value → Wd → Option Wd := fun as σ => kSE 5 as (fun r0 => kSE 4 r0 (fun r1 => kSI r1 (fun b2 r2 => kSI r2 (fun b3 r3 => kSI r3 (fun b4 r4 => kS0 r4 (f_X8_settle N b2 b3 b4 σ))))) (none)) (none)
set_option maxRecDepth 200000 in
theorem k_X8_50 : calchk RX8 50 3 8 yX8_valueOf cX8_valueOf 5 (some .int) = true := by decide +kernel
set_option maxRecDepth 200000 in
theorem k_X8_53 : calchk RX8 53 2 0 yX8_isRuled cX8_isRuled 2 (some .boolean) = true := by decide +kernel
set_option maxRecDepth 200000 in
theorem k_X8_57 : calchk RX8 57 3 8 yX8_rulingPart cX8_rulingPart 5 (some .int) = true := by decide +kernel
def ct_X8_settle (N : Nat) : List (Nat × Cal) := [(33, 1, 8, .inr (.inr (a_X8_inputsArrive N))), (50, 3, 8, .inl (a_X8_valueOf N)), (53, 2, 0, .inl (a_X8_isRuled N)), (40, 3, 8, .inl (a_X8_laterPart N)), (57, 3, 8, .inl (a_X8_rulingPart N))]
set_option maxRecDepth 200000 in
theorem md_X8_settle (N : Nat) : MDOK T_X8_settle ft_X8 lt_X8 (ct_X8_settle N) cX8_settle RX8 3 := ⟨tc_X8_settle, fc_X8, lc_X8, List.forall_mem_cons.mpr ⟨Or.inl ⟨yX8_inputsArrive, cX8_inputsArrive, 2, none, 1, k_X8_33, Nat.le_of_ble_eq_true rfl, C_X8_inputsArrive N⟩, List.forall_mem_cons.mpr ⟨Or.inl ⟨yX8_valueOf, cX8_valueOf, 5, (some .int), 1, k_X8_50, Nat.le_of_ble_eq_true rfl, C_X8_valueOf N⟩, List.forall_mem_cons.mpr ⟨Or.inl ⟨yX8_isRuled, cX8_isRuled, 2, (some .boolean), 1, k_X8_53, Nat.le_of_ble_eq_true rfl, C_X8_isRuled N⟩, List.forall_mem_cons.mpr ⟨Or.inl ⟨yX8_laterPart, cX8_laterPart, 3, (some .int), 2, k_X8_40, Nat.le_of_ble_eq_true rfl, C_X8_laterPart N⟩, List.forall_mem_cons.mpr ⟨Or.inl ⟨yX8_rulingPart, cX8_rulingPart, 5, (some .int), 2, k_X8_57, Nat.le_of_ble_eq_true rfl, C_X8_rulingPart N⟩, (fun _ z => absurd z List.not_mem_nil)⟩⟩⟩⟩⟩⟩
set_option maxRecDepth 200000 in
theorem g_X8_settle_L30 (N : Nat) (KO76 : Wd → Option Wd) (hKO76 : ∀ (σ : Wd), GO cX8_settle RX8 7 3 sc0 nI0 nJ0 some (KO76 σ) 76 (mkp 0 7 [(0, .ref 5), (1, .ref 4)]) [] σ) : ∀ (n : Nat), ∀ (x2 : Int32) (x3 : Int32) (x5 : Int32) (σ : Wd), GO cX8_settle RX8 7 3 sc0 nI0 nJ0 some (f_X8_settle_L30 N KO76 n x2 x3 x5 σ) 30 (mkp 0 7 [(0, .ref 5), (1, .ref 4), (2, .int x2), (3, .int x3), (5, .int x5)]) [] σ
  | 0, x2, x3, x5, σ => GO.none
  | n + 1, x2, x3, x5, σ => by
    exact (by refine GO.to (md_X8_settle N) (kl := [(76, fun vs st σ => kS0 st (kA 0 5 vs (kA 1 4 vs (KO76 σ)))), (30, fun vs st σ => kS0 st (kA 0 5 vs (kA 1 4 vs (kI 2 vs (fun x2 => kI 3 vs (fun x3 => kI 5 vs (fun x5 => f_X8_settle_L30 N KO76 n x2 x3 x5 σ)))))))]) (List.forall_mem_cons.mpr ⟨fun vs st σ => go_kS0 (go_kA (fun h0 => go_kA (fun h1 => GO.pat [(0, .ref 5), (1, .ref 4)] ⟨h0, h1, trivial⟩ (hKO76 σ)))), List.forall_mem_cons.mpr ⟨fun vs st σ => go_kS0 (go_kA (fun h0 => go_kA (fun h1 => go_kI (fun x2 h2 => go_kI (fun x3 h3 => go_kI (fun x5 h5 => GO.pat [(0, .ref 5), (1, .ref 4), (2, .int x2), (3, .int x3), (5, .int x5)] ⟨h0, h1, h2, h3, h5, trivial⟩ (g_X8_settle_L30 N KO76 hKO76 n x2 x3 x5 σ))))))), (fun _ z => absurd z List.not_mem_nil)⟩⟩) 102 ?_ ?_ <;> rfl)
set_option maxRecDepth 200000 in
theorem g_X8_settle_J140 (N : Nat) (KB : Int32 → Wd → Option Wd) (hKB : ∀ (x5 : Int32) (σ : Wd), GO cX8_settle RX8 7 3 sc0 nI0 nJ0 some (KB x5 σ) 80 (mkp 0 7 [(0, .ref 5), (1, .ref 4), (5, .int x5)]) [] σ) (KO170 : Wd → Option Wd) (hKO170 : ∀ (σ : Wd), GO cX8_settle RX8 7 3 sc0 nI0 nJ0 some (KO170 σ) 170 (mkp 0 7 []) [] σ) (x5 : Int32) (y0 : Int32) (σ : Wd) : GO cX8_settle RX8 7 3 sc0 nI0 nJ0 some (f_X8_settle_J140 N KB KO170 x5 y0 σ) 140 (mkp 0 7 [(0, .ref 5), (1, .ref 4), (5, .int x5)]) [.int y0] σ := by
  exact (by refine GO.to (md_X8_settle N) (kl := [(80, fun vs st σ => kS0 st (kA 0 5 vs (kA 1 4 vs (kI 5 vs (fun x5 => KB x5 σ)))))]) (List.forall_mem_cons.mpr ⟨fun vs st σ => go_kS0 (go_kA (fun h0 => go_kA (fun h1 => go_kI (fun x5 h5 => GO.pat [(0, .ref 5), (1, .ref 4), (5, .int x5)] ⟨h0, h1, h5, trivial⟩ (hKB x5 σ))))), (fun _ z => absurd z List.not_mem_nil)⟩) 102 ?_ ?_ <;> rfl)
set_option maxRecDepth 200000 in
theorem g_X8_settle_L80 (N : Nat) (KO170 : Wd → Option Wd) (hKO170 : ∀ (σ : Wd), GO cX8_settle RX8 7 3 sc0 nI0 nJ0 some (KO170 σ) 170 (mkp 0 7 []) [] σ) : ∀ (n : Nat), ∀ (x5 : Int32) (σ : Wd), GO cX8_settle RX8 7 3 sc0 nI0 nJ0 some (f_X8_settle_L80 N KO170 n x5 σ) 80 (mkp 0 7 [(0, .ref 5), (1, .ref 4), (5, .int x5)]) [] σ
  | 0, x5, σ => GO.none
  | n + 1, x5, σ => by
    exact (by refine GO.to (md_X8_settle N) (kl := [(170, fun vs st σ => kS0 st (KO170 σ)), (140, fun vs st σ => kSti st (fun y0 => kA 0 5 vs (kA 1 4 vs (kI 5 vs (fun x5 => f_X8_settle_J140 N (f_X8_settle_L80 N KO170 n) KO170 x5 y0 σ)))))]) (List.forall_mem_cons.mpr ⟨fun vs st σ => go_kS0 (GO.pat [] trivial (hKO170 σ)), List.forall_mem_cons.mpr ⟨fun vs st σ => go_kSti (fun y0 => go_kA (fun h0 => go_kA (fun h1 => go_kI (fun x5 h5 => GO.pat [(0, .ref 5), (1, .ref 4), (5, .int x5)] ⟨h0, h1, h5, trivial⟩ (g_X8_settle_J140 N (f_X8_settle_L80 N KO170 n) (g_X8_settle_L80 N KO170 hKO170 n) KO170 hKO170 x5 y0 σ))))), (fun _ z => absurd z List.not_mem_nil)⟩⟩) 102 ?_ ?_ <;> rfl)
set_option maxRecDepth 200000 in
theorem g_X8_settle_J170 (N : Nat) (σ : Wd) : GO cX8_settle RX8 7 3 sc0 nI0 nJ0 some (f_X8_settle_J170 N σ) 170 (mkp 0 7 []) [] σ := by
  exact (by refine GO.to (md_X8_settle N) (kl := []) ((fun _ z => absurd z List.not_mem_nil)) 102 ?_ ?_ <;> rfl)
set_option maxRecDepth 200000 in
theorem g_X8_settle_J76 (N : Nat) (σ : Wd) : GO cX8_settle RX8 7 3 sc0 nI0 nJ0 some (f_X8_settle_J76 N σ) 76 (mkp 0 7 [(0, .ref 5), (1, .ref 4)]) [] σ := by
  exact (by refine GO.to (md_X8_settle N) (kl := [(80, fun vs st σ => kS0 st (kA 0 5 vs (kA 1 4 vs (kI 5 vs (fun x5 => f_X8_settle_L80 N (f_X8_settle_J170 N) N x5 σ)))))]) (List.forall_mem_cons.mpr ⟨fun vs st σ => go_kS0 (go_kA (fun h0 => go_kA (fun h1 => go_kI (fun x5 h5 => GO.pat [(0, .ref 5), (1, .ref 4), (5, .int x5)] ⟨h0, h1, h5, trivial⟩ (g_X8_settle_L80 N (f_X8_settle_J170 N) (g_X8_settle_J170 N) N x5 σ))))), (fun _ z => absurd z List.not_mem_nil)⟩) 102 ?_ ?_ <;> rfl)
set_option maxRecDepth 200000 in
theorem C_X8_settle (N : Nat) : CTV 3 yX8_settle cX8_settle 7 none (a_X8_settle N) := by
  refine CTV.of (own := RX8) (by decide) rfl (fun as σ r h => ?_)
  unfold a_X8_settle at h
  rcases kSE_s h with ⟨r0, rfl, h0⟩ | hn
  ·
    rcases kSE_s h0 with ⟨r1, rfl, h1⟩ | h0n
    ·
      obtain ⟨b2, r2, rfl, h2⟩ := kSI_s h1
      obtain ⟨b3, r3, rfl, h3⟩ := kSI_s h2
      obtain ⟨b4, r4, rfl, h4⟩ := kSI_s h3
      obtain ⟨rfl, h9⟩ := kS0_s h4
      exact ⟨Nat.le_of_ble_eq_true rfl, by refine GO.to (md_X8_settle N) (kl := [(30, fun vs st σ => kS0 st (kA 0 5 vs (kA 1 4 vs (kI 2 vs (fun x2 => kI 3 vs (fun x3 => kI 5 vs (fun x5 => f_X8_settle_L30 N (f_X8_settle_J76 N) N x2 x3 x5 σ)))))))]) (List.forall_mem_cons.mpr ⟨fun vs st σ => go_kS0 (go_kA (fun h0 => go_kA (fun h1 => go_kI (fun x2 h2 => go_kI (fun x3 h3 => go_kI (fun x5 h5 => GO.pat [(0, .ref 5), (1, .ref 4), (2, .int x2), (3, .int x3), (5, .int x5)] ⟨h0, h1, h2, h3, h5, trivial⟩ (g_X8_settle_L30 N (f_X8_settle_J76 N) (g_X8_settle_J76 N) N x2 x3 x5 σ))))))), (fun _ z => absurd z List.not_mem_nil)⟩) 102 ?_ ?_ <;> rfl⟩
    cases h0n
  cases hn
def T_X8_ofOutcome : List (Nat × Ent) := [(0, .iload_n 2, 1, []), (1, .ifCond .ge 11, 4, [12]), (4, .aload_n 0, 5, []), (5, .aload_n 1, 6, []), (6, .invokevirtual 60, 9, []), (9, .goto 13, 12, [22]), (12, .aload_n 0, 13, []), (13, .getfield 20, 16, []), (16, .aload_n 1, 17, []), (17, .iload_n 2, 18, []), (18, .invokevirtual 64, 21, []), (21, .iaload, 22, []), (22, .ireturn, 23, [])]
set_option maxRecDepth 200000 in
theorem tc_X8_ofOutcome : T_X8_ofOutcome.all (chk cX8_ofOutcome) = true := by decide +kernel
def f_X8_ofOutcome (N : Nat) (a2 : Int32) (σ : Wd) : Option (Int32 × Wd) :=
  if 0 ≤ a2 then ((f_X2_outcomeGate N a2 σ).bind fun p1 => (xld p1.2 32 512 p1.1).bind fun v2 => some (v2, p1.2)) else ((f_X8_lastOutcome N σ).bind fun p3 => some (p3.1, p3.2))
def a_X8_ofOutcome (N : Nat) : List Value → Wd → Option (Int32 × Wd) := fun as σ => kSE 5 as (fun r0 => kSE 4 r0 (fun r1 => kSI r1 (fun b2 r2 => kS0 r2 (f_X8_ofOutcome N b2 σ))) (none)) (none)
set_option maxRecDepth 200000 in
theorem k_X8_60 : calchk RX8 60 2 8 yX8_lastOutcome cX8_lastOutcome 4 (some .int) = true := by decide +kernel
def ct_X8_ofOutcome (N : Nat) : List (Nat × Cal) := [(64, 2, 2, .inl (a_X2_outcomeGate N)), (60, 2, 8, .inl (a_X8_lastOutcome N))]
set_option maxRecDepth 200000 in
theorem md_X8_ofOutcome (N : Nat) : MDOK T_X8_ofOutcome ft_X8 lt_X8 (ct_X8_ofOutcome N) cX8_ofOutcome RX8 3 := ⟨tc_X8_ofOutcome, fc_X8, lc_X8, List.forall_mem_cons.mpr ⟨Or.inl ⟨yX2_outcomeGate, cX2_outcomeGate, 2, (some .int), 1, k_X8_64, Nat.le_of_ble_eq_true rfl, C_X2_outcomeGate N⟩, List.forall_mem_cons.mpr ⟨Or.inl ⟨yX8_lastOutcome, cX8_lastOutcome, 4, (some .int), 2, k_X8_60, Nat.le_of_ble_eq_true rfl, C_X8_lastOutcome N⟩, (fun _ z => absurd z List.not_mem_nil)⟩⟩⟩
set_option maxRecDepth 200000 in
theorem C_X8_ofOutcome (N : Nat) : CTI 3 yX8_ofOutcome cX8_ofOutcome 3 (some .int) (a_X8_ofOutcome N) := by
  refine CTI.of (own := RX8) (by decide) rfl (fun as σ r h => ?_)
  unfold a_X8_ofOutcome at h
  rcases kSE_s h with ⟨r0, rfl, h0⟩ | hn
  ·
    rcases kSE_s h0 with ⟨r1, rfl, h1⟩ | h0n
    ·
      obtain ⟨b2, r2, rfl, h2⟩ := kSI_s h1
      obtain ⟨rfl, h9⟩ := kS0_s h2
      exact ⟨Nat.le_of_ble_eq_true rfl, by refine GO.to (md_X8_ofOutcome N) (kl := []) ((fun _ z => absurd z List.not_mem_nil)) 18 ?_ ?_ <;> rfl⟩
    cases h0n
  cases hn
def T_X8_unlikeTimes : List (Nat × Ent) := [(0, .iconst 0, 1, []), (1, .istore_n 2, 2, []), (2, .iconst 0, 3, []), (3, .istore_n 3, 4, []), (4, .iload_n 3, 5, []), (5, .aload_n 1, 6, []), (6, .getfield 47, 9, []), (9, .if_icmp .gt 49, 12, [58]), (12, .iconst 0, 13, []), (13, .istore 4, 15, []), (15, .iload 4, 17, []), (17, .iload_n 3, 18, []), (18, .if_icmp .ge 25, 21, [43]), (21, .aload_n 0, 22, []), (22, .aload_n 1, 23, []), (23, .iload 4, 25, []), (25, .invokevirtual 68, 28, []), (28, .aload_n 0, 29, []), (29, .aload_n 1, 30, []), (30, .iload_n 3, 31, []), (31, .invokevirtual 68, 34, []), (34, .if_icmp .eq 9, 37, [43]), (37, .iinc 4 1, 40, []), (40, .goto (-25), 43, [15]), (43, .iload 4, 45, []), (45, .iload_n 3, 46, []), (46, .if_icmp .ne 6, 49, [52]), (49, .iinc 2 1, 52, []), (52, .iinc 3 1, 55, []), (55, .goto (-51), 58, [4]), (58, .iload_n 2, 59, []), (59, .ireturn, 60, [])]
set_option maxRecDepth 200000 in
theorem tc_X8_unlikeTimes : T_X8_unlikeTimes.all (chk cX8_unlikeTimes) = true := by decide +kernel
def f_X8_unlikeTimes_L15 (N : Nat) (KO43 : Int32 → Int32 → Int32 → Wd → Option (Int32 × Wd)) : Nat → Int32 → Int32 → Int32 → Wd → Option (Int32 × Wd)
  | 0, _, _, _, _ => none
  | n + 1, x2, x3, x4, σ => if x3 ≤ x4 then (KO43 x2 x3 x4 σ) else ((f_X8_ofOutcome N x4 σ).bind fun p1 => (f_X8_ofOutcome N x3 p1.2).bind fun p2 => if p1.1 = p2.1 then (KO43 x2 x3 x4 p2.2) else (f_X8_unlikeTimes_L15 N KO43 n x2 x3 (x4 + 1) p2.2))
def f_X8_unlikeTimes_J43 (N : Nat) (KB : Int32 → Int32 → Wd → Option (Int32 × Wd)) (KO58 : Int32 → Wd → Option (Int32 × Wd)) (x2 : Int32) (x3 : Int32) (x4 : Int32) (σ : Wd) : Option (Int32 × Wd) :=
  if x4 = x3 then (KB (x2 + 1) (x3 + 1) σ) else (KB x2 (x3 + 1) σ)
def f_X8_unlikeTimes_L4 (N : Nat) (KO58 : Int32 → Wd → Option (Int32 × Wd)) : Nat → Int32 → Int32 → Wd → Option (Int32 × Wd)
  | 0, _, _, _ => none
  | n + 1, x2, x3, σ => if (σ.1 4 6) < x3 then (KO58 x2 σ) else (f_X8_unlikeTimes_L15 N (f_X8_unlikeTimes_J43 N (f_X8_unlikeTimes_L4 N KO58 n) KO58) N x2 x3 0 σ)
def f_X8_unlikeTimes_J58 (N : Nat) (x2 : Int32) (σ : Wd) : Option (Int32 × Wd) :=
  some (x2, σ)
def f_X8_unlikeTimes (N : Nat) (σ : Wd) : Option (Int32 × Wd) :=
  f_X8_unlikeTimes_L4 N (f_X8_unlikeTimes_J58 N) N 0 0 σ
def a_X8_unlikeTimes (N : Nat) : List Value → Wd → Option (Int32 × Wd) := fun as σ => kSE 5 as (fun r0 => kSE 4 r0 (fun r1 => kS0 r1 (f_X8_unlikeTimes N σ)) (none)) (none)
set_option maxRecDepth 200000 in
theorem k_X8_68 : calchk RX8 68 3 8 yX8_ofOutcome cX8_ofOutcome 3 (some .int) = true := by decide +kernel
def ct_X8_unlikeTimes (N : Nat) : List (Nat × Cal) := [(68, 3, 8, .inl (a_X8_ofOutcome N))]
set_option maxRecDepth 200000 in
theorem md_X8_unlikeTimes (N : Nat) : MDOK T_X8_unlikeTimes ft_X8 lt_X8 (ct_X8_unlikeTimes N) cX8_unlikeTimes RX8 4 := ⟨tc_X8_unlikeTimes, fc_X8, lc_X8, List.forall_mem_cons.mpr ⟨Or.inl ⟨yX8_ofOutcome, cX8_ofOutcome, 3, (some .int), 3, k_X8_68, Nat.le_of_ble_eq_true rfl, C_X8_ofOutcome N⟩, (fun _ z => absurd z List.not_mem_nil)⟩⟩
set_option maxRecDepth 200000 in
theorem g_X8_unlikeTimes_L15 (N : Nat) (KO43 : Int32 → Int32 → Int32 → Wd → Option (Int32 × Wd)) (hKO43 : ∀ (x2 : Int32) (x3 : Int32) (x4 : Int32) (σ : Wd), GO cX8_unlikeTimes RX8 5 4 sc0 rI nJ0 nV0 (KO43 x2 x3 x4 σ) 43 (mkp 0 5 [(0, .ref 5), (1, .ref 4), (2, .int x2), (3, .int x3), (4, .int x4)]) [] σ) : ∀ (n : Nat), ∀ (x2 : Int32) (x3 : Int32) (x4 : Int32) (σ : Wd), GO cX8_unlikeTimes RX8 5 4 sc0 rI nJ0 nV0 (f_X8_unlikeTimes_L15 N KO43 n x2 x3 x4 σ) 15 (mkp 0 5 [(0, .ref 5), (1, .ref 4), (2, .int x2), (3, .int x3), (4, .int x4)]) [] σ
  | 0, x2, x3, x4, σ => GO.none
  | n + 1, x2, x3, x4, σ => by
    exact (by refine GO.to (md_X8_unlikeTimes N) (kl := [(43, fun vs st σ => kS0 st (kA 0 5 vs (kA 1 4 vs (kI 2 vs (fun x2 => kI 3 vs (fun x3 => kI 4 vs (fun x4 => KO43 x2 x3 x4 σ))))))), (15, fun vs st σ => kS0 st (kA 0 5 vs (kA 1 4 vs (kI 2 vs (fun x2 => kI 3 vs (fun x3 => kI 4 vs (fun x4 => f_X8_unlikeTimes_L15 N KO43 n x2 x3 x4 σ)))))))]) (List.forall_mem_cons.mpr ⟨fun vs st σ => go_kS0 (go_kA (fun h0 => go_kA (fun h1 => go_kI (fun x2 h2 => go_kI (fun x3 h3 => go_kI (fun x4 h4 => GO.pat [(0, .ref 5), (1, .ref 4), (2, .int x2), (3, .int x3), (4, .int x4)] ⟨h0, h1, h2, h3, h4, trivial⟩ (hKO43 x2 x3 x4 σ))))))), List.forall_mem_cons.mpr ⟨fun vs st σ => go_kS0 (go_kA (fun h0 => go_kA (fun h1 => go_kI (fun x2 h2 => go_kI (fun x3 h3 => go_kI (fun x4 h4 => GO.pat [(0, .ref 5), (1, .ref 4), (2, .int x2), (3, .int x3), (4, .int x4)] ⟨h0, h1, h2, h3, h4, trivial⟩ (g_X8_unlikeTimes_L15 N KO43 hKO43 n x2 x3 x4 σ))))))), (fun _ z => absurd z List.not_mem_nil)⟩⟩) 37 ?_ ?_ <;> rfl)
set_option maxRecDepth 200000 in
theorem g_X8_unlikeTimes_J43 (N : Nat) (KB : Int32 → Int32 → Wd → Option (Int32 × Wd)) (hKB : ∀ (x2 : Int32) (x3 : Int32) (σ : Wd), GO cX8_unlikeTimes RX8 5 4 sc0 rI nJ0 nV0 (KB x2 x3 σ) 4 (mkp 0 5 [(0, .ref 5), (1, .ref 4), (2, .int x2), (3, .int x3)]) [] σ) (KO58 : Int32 → Wd → Option (Int32 × Wd)) (hKO58 : ∀ (x2 : Int32) (σ : Wd), GO cX8_unlikeTimes RX8 5 4 sc0 rI nJ0 nV0 (KO58 x2 σ) 58 (mkp 0 5 [(2, .int x2)]) [] σ) (x2 : Int32) (x3 : Int32) (x4 : Int32) (σ : Wd) : GO cX8_unlikeTimes RX8 5 4 sc0 rI nJ0 nV0 (f_X8_unlikeTimes_J43 N KB KO58 x2 x3 x4 σ) 43 (mkp 0 5 [(0, .ref 5), (1, .ref 4), (2, .int x2), (3, .int x3), (4, .int x4)]) [] σ := by
  exact (by refine GO.to (md_X8_unlikeTimes N) (kl := [(4, fun vs st σ => kS0 st (kA 0 5 vs (kA 1 4 vs (kI 2 vs (fun x2 => kI 3 vs (fun x3 => KB x2 x3 σ))))))]) (List.forall_mem_cons.mpr ⟨fun vs st σ => go_kS0 (go_kA (fun h0 => go_kA (fun h1 => go_kI (fun x2 h2 => go_kI (fun x3 h3 => GO.pat [(0, .ref 5), (1, .ref 4), (2, .int x2), (3, .int x3)] ⟨h0, h1, h2, h3, trivial⟩ (hKB x2 x3 σ)))))), (fun _ z => absurd z List.not_mem_nil)⟩) 37 ?_ ?_ <;> rfl)
set_option maxRecDepth 200000 in
theorem g_X8_unlikeTimes_L4 (N : Nat) (KO58 : Int32 → Wd → Option (Int32 × Wd)) (hKO58 : ∀ (x2 : Int32) (σ : Wd), GO cX8_unlikeTimes RX8 5 4 sc0 rI nJ0 nV0 (KO58 x2 σ) 58 (mkp 0 5 [(2, .int x2)]) [] σ) : ∀ (n : Nat), ∀ (x2 : Int32) (x3 : Int32) (σ : Wd), GO cX8_unlikeTimes RX8 5 4 sc0 rI nJ0 nV0 (f_X8_unlikeTimes_L4 N KO58 n x2 x3 σ) 4 (mkp 0 5 [(0, .ref 5), (1, .ref 4), (2, .int x2), (3, .int x3)]) [] σ
  | 0, x2, x3, σ => GO.none
  | n + 1, x2, x3, σ => by
    exact (by refine GO.to (md_X8_unlikeTimes N) (kl := [(58, fun vs st σ => kS0 st (kI 2 vs (fun x2 => KO58 x2 σ))), (15, fun vs st σ => kS0 st (kA 0 5 vs (kA 1 4 vs (kI 2 vs (fun x2 => kI 3 vs (fun x3 => kI 4 vs (fun x4 => f_X8_unlikeTimes_L15 N (f_X8_unlikeTimes_J43 N (f_X8_unlikeTimes_L4 N KO58 n) KO58) N x2 x3 x4 σ)))))))]) (List.forall_mem_cons.mpr ⟨fun vs st σ => go_kS0 (go_kI (fun x2 h2 => GO.pat [(2, .int x2)] ⟨h2, trivial⟩ (hKO58 x2 σ))), List.forall_mem_cons.mpr ⟨fun vs st σ => go_kS0 (go_kA (fun h0 => go_kA (fun h1 => go_kI (fun x2 h2 => go_kI (fun x3 h3 => go_kI (fun x4 h4 => GO.pat [(0, .ref 5), (1, .ref 4), (2, .int x2), (3, .int x3), (4, .int x4)] ⟨h0, h1, h2, h3, h4, trivial⟩ (g_X8_unlikeTimes_L15 N (f_X8_unlikeTimes_J43 N (f_X8_unlikeTimes_L4 N KO58 n) KO58) (g_X8_unlikeTimes_J43 N (f_X8_unlikeTimes_L4 N KO58 n) (g_X8_unlikeTimes_L4 N KO58 hKO58 n) KO58 hKO58) N x2 x3 x4 σ))))))), (fun _ z => absurd z List.not_mem_nil)⟩⟩) 37 ?_ ?_ <;> rfl)
set_option maxRecDepth 200000 in
theorem g_X8_unlikeTimes_J58 (N : Nat) (x2 : Int32) (σ : Wd) : GO cX8_unlikeTimes RX8 5 4 sc0 rI nJ0 nV0 (f_X8_unlikeTimes_J58 N x2 σ) 58 (mkp 0 5 [(2, .int x2)]) [] σ := by
  exact (by refine GO.to (md_X8_unlikeTimes N) (kl := []) ((fun _ z => absurd z List.not_mem_nil)) 37 ?_ ?_ <;> rfl)
set_option maxRecDepth 200000 in
theorem C_X8_unlikeTimes (N : Nat) : CTI 4 yX8_unlikeTimes cX8_unlikeTimes 5 (some .int) (a_X8_unlikeTimes N) := by
  refine CTI.of (own := RX8) (by decide) rfl (fun as σ r h => ?_)
  unfold a_X8_unlikeTimes at h
  rcases kSE_s h with ⟨r0, rfl, h0⟩ | hn
  ·
    rcases kSE_s h0 with ⟨r1, rfl, h1⟩ | h0n
    ·
      obtain ⟨rfl, h9⟩ := kS0_s h1
      exact ⟨Nat.le_of_ble_eq_true rfl, by refine GO.to (md_X8_unlikeTimes N) (kl := [(4, fun vs st σ => kS0 st (kA 0 5 vs (kA 1 4 vs (kI 2 vs (fun x2 => kI 3 vs (fun x3 => f_X8_unlikeTimes_L4 N (f_X8_unlikeTimes_J58 N) N x2 x3 σ))))))]) (List.forall_mem_cons.mpr ⟨fun vs st σ => go_kS0 (go_kA (fun h0 => go_kA (fun h1 => go_kI (fun x2 h2 => go_kI (fun x3 h3 => GO.pat [(0, .ref 5), (1, .ref 4), (2, .int x2), (3, .int x3)] ⟨h0, h1, h2, h3, trivial⟩ (g_X8_unlikeTimes_L4 N (f_X8_unlikeTimes_J58 N) (g_X8_unlikeTimes_J58 N) N x2 x3 σ)))))), (fun _ z => absurd z List.not_mem_nil)⟩) 37 ?_ ?_ <;> rfl⟩
    cases h0n
  cases hn
def T_X8_markHanging : List (Nat × Ent) := [(0, .iconst 0, 1, []), (1, .istore_n 2, 2, []), (2, .iload_n 2, 3, []), (3, .aload_n 1, 4, []), (4, .getfield 36, 7, []), (7, .if_icmp .ge 16, 10, [23]), (10, .aload_n 0, 11, []), (11, .getfield 26, 14, []), (14, .iload_n 2, 15, []), (15, .iconst 0, 16, []), (16, .bastore, 17, []), (17, .iinc 2 1, 20, []), (20, .goto (-18), 23, [2]), (23, .aload_n 0, 24, []), (24, .aload_n 1, 25, []), (25, .invokevirtual 60, 28, []), (28, .istore_n 2, 29, []), (29, .iconst 0, 30, []), (30, .istore_n 3, 31, []), (31, .iload_n 3, 32, []), (32, .aload_n 1, 33, []), (33, .getfield 47, 36, []), (36, .if_icmp .gt 30, 39, [66]), (39, .aload_n 0, 40, []), (40, .aload_n 1, 41, []), (41, .iload_n 3, 42, []), (42, .invokevirtual 68, 45, []), (45, .iload_n 2, 46, []), (46, .if_icmp .ne 14, 49, [60]), (49, .aload_n 0, 50, []), (50, .getfield 26, 53, []), (53, .aload_n 1, 54, []), (54, .iload_n 3, 55, []), (55, .invokevirtual 64, 58, []), (58, .iconst 1, 59, []), (59, .bastore, 60, []), (60, .iinc 3 1, 63, []), (63, .goto (-32), 66, [31]), (66, .aload_n 1, 67, []), (67, .getfield 36, 70, []), (70, .iconst 1, 71, []), (71, .isub, 72, []), (72, .istore_n 3, 73, []), (73, .iload_n 3, 74, []), (74, .bipush 27, 76, []), (76, .if_icmp .lt 81, 79, [157]), (79, .aload_n 0, 80, []), (80, .getfield 26, 83, []), (83, .iload_n 3, 84, []), (84, .baload, 85, []), (85, .ifCond .eq 30, 88, [115]), (88, .aload_n 0, 89, []), (89, .aload_n 1, 90, []), (90, .iload_n 3, 91, []), (91, .aload_n 1, 92, []), (92, .getfield 71, 95, []), (95, .iload_n 3, 96, []), (96, .iaload, 97, []), (97, .invokevirtual 74, 100, []), (100, .ifCond .eq 15, 103, [115]), (103, .aload_n 0, 104, []), (104, .getfield 26, 107, []), (107, .aload_n 1, 108, []), (108, .getfield 71, 111, []), (111, .iload_n 3, 112, []), (112, .iaload, 113, []), (113, .iconst 1, 114, []), (114, .bastore, 115, []), (115, .aload_n 0, 116, []), (116, .getfield 26, 119, []), (119, .iload_n 3, 120, []), (120, .baload, 121, []), (121, .ifCond .eq 30, 124, [151]), (124, .aload_n 0, 125, []), (125, .aload_n 1, 126, []), (126, .iload_n 3, 127, []), (127, .aload_n 1, 128, []), (128, .getfield 78, 131, []), (131, .iload_n 3, 132, []), (132, .iaload, 133, []), (133, .invokevirtual 74, 136, []), (136, .ifCond .eq 15, 139, [151]), (139, .aload_n 0, 140, []), (140, .getfield 26, 143, []), (143, .aload_n 1, 144, []), (144, .getfield 78, 147, []), (147, .iload_n 3, 148, []), (148, .iaload, 149, []), (149, .iconst 1, 150, []), (150, .bastore, 151, []), (151, .iinc 3 (-1), 154, []), (154, .goto (-81), 157, [73]), (157, .return_, 158, [])]
set_option maxRecDepth 200000 in
theorem tc_X8_markHanging : T_X8_markHanging.all (chk cX8_markHanging) = true := by decide +kernel
def f_X8_markHanging_L2 (N : Nat) (KO23 : Wd → Option Wd) : Nat → Int32 → Wd → Option Wd
  | 0, _, _ => none
  | n + 1, x2, σ => if (σ.1 4 5) ≤ x2 then (KO23 σ) else ((xstZ σ 34 512 x2 0).bind fun σ1 => f_X8_markHanging_L2 N KO23 n (x2 + 1) σ1)
def f_X8_markHanging_L31 (N : Nat) (KO66 : Wd → Option Wd) : Nat → Int32 → Int32 → Wd → Option Wd
  | 0, _, _, _ => none
  | n + 1, x2, x3, σ => if (σ.1 4 6) < x3 then (KO66 σ) else ((f_X8_ofOutcome N x3 σ).bind fun p3 => if p3.1 = x2 then ((f_X2_outcomeGate N x3 p3.2).bind fun p4 => (xstZ p4.2 34 512 p4.1 1).bind fun σ5 => f_X8_markHanging_L31 N KO66 n x2 (x3 + 1) σ5) else (f_X8_markHanging_L31 N KO66 n x2 (x3 + 1) p3.2))
def f_X8_markHanging_J115 (N : Nat) (KB : Int32 → Wd → Option Wd) (KO157 : Wd → Option Wd) (x3 : Int32) (σ : Wd) : Option Wd :=
  (xld σ 34 512 x3).bind fun v7 => if v7 = 0 then (KB (x3 + (-1)) σ) else ((xld σ 20 512 x3).bind fun v8 => (f_X8_isHeldUpBy N x3 v8 σ).bind fun p9 => if p9.1 = 0 then (KB (x3 + (-1)) p9.2) else ((xld p9.2 20 512 x3).bind fun v10 => (xstZ p9.2 34 512 v10 1).bind fun σ11 => KB (x3 + (-1)) σ11))
def f_X8_markHanging_L73 (N : Nat) (KO157 : Wd → Option Wd) : Nat → Int32 → Wd → Option Wd
  | 0, _, _ => none
  | n + 1, x3, σ => if x3 < 27 then (KO157 σ) else ((xld σ 34 512 x3).bind fun v6 => if v6 = 0 then (f_X8_markHanging_J115 N (f_X8_markHanging_L73 N KO157 n) KO157 x3 σ) else ((xld σ 19 512 x3).bind fun v12 => (f_X8_isHeldUpBy N x3 v12 σ).bind fun p13 => if p13.1 = 0 then (f_X8_markHanging_J115 N (f_X8_markHanging_L73 N KO157 n) KO157 x3 p13.2) else ((xld p13.2 19 512 x3).bind fun v14 => (xstZ p13.2 34 512 v14 1).bind fun σ15 => f_X8_markHanging_J115 N (f_X8_markHanging_L73 N KO157 n) KO157 x3 σ15)))
def f_X8_markHanging_J157 (N : Nat) (σ : Wd) : Option Wd :=
  some σ
def f_X8_markHanging_J66 (N : Nat) (σ : Wd) : Option Wd :=
  f_X8_markHanging_L73 N (f_X8_markHanging_J157 N) N ((σ.1 4 5) - 1) σ
def f_X8_markHanging_J23 (N : Nat) (σ : Wd) : Option Wd :=
  (f_X8_lastOutcome N σ).bind fun p2 => f_X8_markHanging_L31 N (f_X8_markHanging_J66 N) N p2.1 0 p2.2
def f_X8_markHanging (N : Nat) (σ : Wd) : Option Wd :=
  f_X8_markHanging_L2 N (f_X8_markHanging_J23 N) N 0 σ
def a_X8_markHanging (N : Nat) : List Value → Wd → Option Wd := fun as σ => kSE 5 as (fun r0 => kSE 4 r0 (fun r1 => kS0 r1 (f_X8_markHanging N σ)) (none)) (none)
def ct_X8_markHanging (N : Nat) : List (Nat × Cal) := [(60, 2, 8, .inl (a_X8_lastOutcome N)), (68, 3, 8, .inl (a_X8_ofOutcome N)), (64, 2, 2, .inl (a_X2_outcomeGate N)), (74, 4, 8, .inl (a_X8_isHeldUpBy N))]
set_option maxRecDepth 200000 in
theorem md_X8_markHanging (N : Nat) : MDOK T_X8_markHanging ft_X8 lt_X8 (ct_X8_markHanging N) cX8_markHanging RX8 4 := ⟨tc_X8_markHanging, fc_X8, lc_X8, List.forall_mem_cons.mpr ⟨Or.inl ⟨yX8_lastOutcome, cX8_lastOutcome, 4, (some .int), 2, k_X8_60, Nat.le_of_ble_eq_true rfl, C_X8_lastOutcome N⟩, List.forall_mem_cons.mpr ⟨Or.inl ⟨yX8_ofOutcome, cX8_ofOutcome, 3, (some .int), 3, k_X8_68, Nat.le_of_ble_eq_true rfl, C_X8_ofOutcome N⟩, List.forall_mem_cons.mpr ⟨Or.inl ⟨yX2_outcomeGate, cX2_outcomeGate, 2, (some .int), 1, k_X8_64, Nat.le_of_ble_eq_true rfl, C_X2_outcomeGate N⟩, List.forall_mem_cons.mpr ⟨Or.inl ⟨yX8_isHeldUpBy, cX8_isHeldUpBy, 4, (some .boolean), 1, k_X8_74, Nat.le_of_ble_eq_true rfl, C_X8_isHeldUpBy N⟩, (fun _ z => absurd z List.not_mem_nil)⟩⟩⟩⟩⟩
set_option maxRecDepth 200000 in
theorem g_X8_markHanging_L2 (N : Nat) (KO23 : Wd → Option Wd) (hKO23 : ∀ (σ : Wd), GO cX8_markHanging RX8 4 4 sc0 nI0 nJ0 some (KO23 σ) 23 (mkp 0 4 [(0, .ref 5), (1, .ref 4)]) [] σ) : ∀ (n : Nat), ∀ (x2 : Int32) (σ : Wd), GO cX8_markHanging RX8 4 4 sc0 nI0 nJ0 some (f_X8_markHanging_L2 N KO23 n x2 σ) 2 (mkp 0 4 [(0, .ref 5), (1, .ref 4), (2, .int x2)]) [] σ
  | 0, x2, σ => GO.none
  | n + 1, x2, σ => by
    exact (by refine GO.to (md_X8_markHanging N) (kl := [(23, fun vs st σ => kS0 st (kA 0 5 vs (kA 1 4 vs (KO23 σ)))), (2, fun vs st σ => kS0 st (kA 0 5 vs (kA 1 4 vs (kI 2 vs (fun x2 => f_X8_markHanging_L2 N KO23 n x2 σ)))))]) (List.forall_mem_cons.mpr ⟨fun vs st σ => go_kS0 (go_kA (fun h0 => go_kA (fun h1 => GO.pat [(0, .ref 5), (1, .ref 4)] ⟨h0, h1, trivial⟩ (hKO23 σ)))), List.forall_mem_cons.mpr ⟨fun vs st σ => go_kS0 (go_kA (fun h0 => go_kA (fun h1 => go_kI (fun x2 h2 => GO.pat [(0, .ref 5), (1, .ref 4), (2, .int x2)] ⟨h0, h1, h2, trivial⟩ (g_X8_markHanging_L2 N KO23 hKO23 n x2 σ))))), (fun _ z => absurd z List.not_mem_nil)⟩⟩) 98 ?_ ?_ <;> rfl)
set_option maxRecDepth 200000 in
theorem g_X8_markHanging_L31 (N : Nat) (KO66 : Wd → Option Wd) (hKO66 : ∀ (σ : Wd), GO cX8_markHanging RX8 4 4 sc0 nI0 nJ0 some (KO66 σ) 66 (mkp 0 4 [(0, .ref 5), (1, .ref 4)]) [] σ) : ∀ (n : Nat), ∀ (x2 : Int32) (x3 : Int32) (σ : Wd), GO cX8_markHanging RX8 4 4 sc0 nI0 nJ0 some (f_X8_markHanging_L31 N KO66 n x2 x3 σ) 31 (mkp 0 4 [(0, .ref 5), (1, .ref 4), (2, .int x2), (3, .int x3)]) [] σ
  | 0, x2, x3, σ => GO.none
  | n + 1, x2, x3, σ => by
    exact (by refine GO.to (md_X8_markHanging N) (kl := [(66, fun vs st σ => kS0 st (kA 0 5 vs (kA 1 4 vs (KO66 σ)))), (31, fun vs st σ => kS0 st (kA 0 5 vs (kA 1 4 vs (kI 2 vs (fun x2 => kI 3 vs (fun x3 => f_X8_markHanging_L31 N KO66 n x2 x3 σ))))))]) (List.forall_mem_cons.mpr ⟨fun vs st σ => go_kS0 (go_kA (fun h0 => go_kA (fun h1 => GO.pat [(0, .ref 5), (1, .ref 4)] ⟨h0, h1, trivial⟩ (hKO66 σ)))), List.forall_mem_cons.mpr ⟨fun vs st σ => go_kS0 (go_kA (fun h0 => go_kA (fun h1 => go_kI (fun x2 h2 => go_kI (fun x3 h3 => GO.pat [(0, .ref 5), (1, .ref 4), (2, .int x2), (3, .int x3)] ⟨h0, h1, h2, h3, trivial⟩ (g_X8_markHanging_L31 N KO66 hKO66 n x2 x3 σ)))))), (fun _ z => absurd z List.not_mem_nil)⟩⟩) 98 ?_ ?_ <;> rfl)
set_option maxRecDepth 200000 in
theorem g_X8_markHanging_J115 (N : Nat) (KB : Int32 → Wd → Option Wd) (hKB : ∀ (x3 : Int32) (σ : Wd), GO cX8_markHanging RX8 4 4 sc0 nI0 nJ0 some (KB x3 σ) 73 (mkp 0 4 [(0, .ref 5), (1, .ref 4), (3, .int x3)]) [] σ) (KO157 : Wd → Option Wd) (hKO157 : ∀ (σ : Wd), GO cX8_markHanging RX8 4 4 sc0 nI0 nJ0 some (KO157 σ) 157 (mkp 0 4 []) [] σ) (x3 : Int32) (σ : Wd) : GO cX8_markHanging RX8 4 4 sc0 nI0 nJ0 some (f_X8_markHanging_J115 N KB KO157 x3 σ) 115 (mkp 0 4 [(0, .ref 5), (1, .ref 4), (3, .int x3)]) [] σ := by
  exact (by refine GO.to (md_X8_markHanging N) (kl := [(73, fun vs st σ => kS0 st (kA 0 5 vs (kA 1 4 vs (kI 3 vs (fun x3 => KB x3 σ)))))]) (List.forall_mem_cons.mpr ⟨fun vs st σ => go_kS0 (go_kA (fun h0 => go_kA (fun h1 => go_kI (fun x3 h3 => GO.pat [(0, .ref 5), (1, .ref 4), (3, .int x3)] ⟨h0, h1, h3, trivial⟩ (hKB x3 σ))))), (fun _ z => absurd z List.not_mem_nil)⟩) 98 ?_ ?_ <;> rfl)
set_option maxRecDepth 200000 in
theorem g_X8_markHanging_L73 (N : Nat) (KO157 : Wd → Option Wd) (hKO157 : ∀ (σ : Wd), GO cX8_markHanging RX8 4 4 sc0 nI0 nJ0 some (KO157 σ) 157 (mkp 0 4 []) [] σ) : ∀ (n : Nat), ∀ (x3 : Int32) (σ : Wd), GO cX8_markHanging RX8 4 4 sc0 nI0 nJ0 some (f_X8_markHanging_L73 N KO157 n x3 σ) 73 (mkp 0 4 [(0, .ref 5), (1, .ref 4), (3, .int x3)]) [] σ
  | 0, x3, σ => GO.none
  | n + 1, x3, σ => by
    exact (by refine GO.to (md_X8_markHanging N) (kl := [(157, fun vs st σ => kS0 st (KO157 σ)), (115, fun vs st σ => kS0 st (kA 0 5 vs (kA 1 4 vs (kI 3 vs (fun x3 => f_X8_markHanging_J115 N (f_X8_markHanging_L73 N KO157 n) KO157 x3 σ)))))]) (List.forall_mem_cons.mpr ⟨fun vs st σ => go_kS0 (GO.pat [] trivial (hKO157 σ)), List.forall_mem_cons.mpr ⟨fun vs st σ => go_kS0 (go_kA (fun h0 => go_kA (fun h1 => go_kI (fun x3 h3 => GO.pat [(0, .ref 5), (1, .ref 4), (3, .int x3)] ⟨h0, h1, h3, trivial⟩ (g_X8_markHanging_J115 N (f_X8_markHanging_L73 N KO157 n) (g_X8_markHanging_L73 N KO157 hKO157 n) KO157 hKO157 x3 σ))))), (fun _ z => absurd z List.not_mem_nil)⟩⟩) 98 ?_ ?_ <;> rfl)
set_option maxRecDepth 200000 in
theorem g_X8_markHanging_J157 (N : Nat) (σ : Wd) : GO cX8_markHanging RX8 4 4 sc0 nI0 nJ0 some (f_X8_markHanging_J157 N σ) 157 (mkp 0 4 []) [] σ := by
  exact (by refine GO.to (md_X8_markHanging N) (kl := []) ((fun _ z => absurd z List.not_mem_nil)) 98 ?_ ?_ <;> rfl)
set_option maxRecDepth 200000 in
theorem g_X8_markHanging_J66 (N : Nat) (σ : Wd) : GO cX8_markHanging RX8 4 4 sc0 nI0 nJ0 some (f_X8_markHanging_J66 N σ) 66 (mkp 0 4 [(0, .ref 5), (1, .ref 4)]) [] σ := by
  exact (by refine GO.to (md_X8_markHanging N) (kl := [(73, fun vs st σ => kS0 st (kA 0 5 vs (kA 1 4 vs (kI 3 vs (fun x3 => f_X8_markHanging_L73 N (f_X8_markHanging_J157 N) N x3 σ)))))]) (List.forall_mem_cons.mpr ⟨fun vs st σ => go_kS0 (go_kA (fun h0 => go_kA (fun h1 => go_kI (fun x3 h3 => GO.pat [(0, .ref 5), (1, .ref 4), (3, .int x3)] ⟨h0, h1, h3, trivial⟩ (g_X8_markHanging_L73 N (f_X8_markHanging_J157 N) (g_X8_markHanging_J157 N) N x3 σ))))), (fun _ z => absurd z List.not_mem_nil)⟩) 98 ?_ ?_ <;> rfl)
set_option maxRecDepth 200000 in
theorem g_X8_markHanging_J23 (N : Nat) (σ : Wd) : GO cX8_markHanging RX8 4 4 sc0 nI0 nJ0 some (f_X8_markHanging_J23 N σ) 23 (mkp 0 4 [(0, .ref 5), (1, .ref 4)]) [] σ := by
  exact (by refine GO.to (md_X8_markHanging N) (kl := [(31, fun vs st σ => kS0 st (kA 0 5 vs (kA 1 4 vs (kI 2 vs (fun x2 => kI 3 vs (fun x3 => f_X8_markHanging_L31 N (f_X8_markHanging_J66 N) N x2 x3 σ))))))]) (List.forall_mem_cons.mpr ⟨fun vs st σ => go_kS0 (go_kA (fun h0 => go_kA (fun h1 => go_kI (fun x2 h2 => go_kI (fun x3 h3 => GO.pat [(0, .ref 5), (1, .ref 4), (2, .int x2), (3, .int x3)] ⟨h0, h1, h2, h3, trivial⟩ (g_X8_markHanging_L31 N (f_X8_markHanging_J66 N) (g_X8_markHanging_J66 N) N x2 x3 σ)))))), (fun _ z => absurd z List.not_mem_nil)⟩) 98 ?_ ?_ <;> rfl)
set_option maxRecDepth 200000 in
theorem C_X8_markHanging (N : Nat) : CTV 4 yX8_markHanging cX8_markHanging 4 none (a_X8_markHanging N) := by
  refine CTV.of (own := RX8) (by decide) rfl (fun as σ r h => ?_)
  unfold a_X8_markHanging at h
  rcases kSE_s h with ⟨r0, rfl, h0⟩ | hn
  ·
    rcases kSE_s h0 with ⟨r1, rfl, h1⟩ | h0n
    ·
      obtain ⟨rfl, h9⟩ := kS0_s h1
      exact ⟨Nat.le_of_ble_eq_true rfl, by refine GO.to (md_X8_markHanging N) (kl := [(2, fun vs st σ => kS0 st (kA 0 5 vs (kA 1 4 vs (kI 2 vs (fun x2 => f_X8_markHanging_L2 N (f_X8_markHanging_J23 N) N x2 σ)))))]) (List.forall_mem_cons.mpr ⟨fun vs st σ => go_kS0 (go_kA (fun h0 => go_kA (fun h1 => go_kI (fun x2 h2 => GO.pat [(0, .ref 5), (1, .ref 4), (2, .int x2)] ⟨h0, h1, h2, trivial⟩ (g_X8_markHanging_L2 N (f_X8_markHanging_J23 N) (g_X8_markHanging_J23 N) N x2 σ))))), (fun _ z => absurd z List.not_mem_nil)⟩) 98 ?_ ?_ <;> rfl⟩
    cases h0n
  cases hn
def T_X8_deepest : List (Nat × Ent) := [(0, .iconst 0, 1, []), (1, .istore_n 2, 2, []), (2, .iload_n 2, 3, []), (3, .bipush 27, 5, []), (5, .if_icmp .ge 16, 8, [21]), (8, .aload_n 0, 9, []), (9, .getfield 30, 12, []), (12, .iload_n 2, 13, []), (13, .iconst 0, 14, []), (14, .iastore, 15, []), (15, .iinc 2 1, 18, []), (18, .goto (-16), 21, [2]), (21, .bipush 27, 23, []), (23, .istore_n 2, 24, []), (24, .iload_n 2, 25, []), (25, .aload_n 1, 26, []), (26, .getfield 36, 29, []), (29, .if_icmp .ge 44, 32, [73]), (32, .aload_n 0, 33, []), (33, .getfield 30, 36, []), (36, .iload_n 2, 37, []), (37, .iconst 1, 38, []), (38, .aload_n 0, 39, []), (39, .aload_n 1, 40, []), (40, .iload_n 2, 41, []), (41, .aload_n 1, 42, []), (42, .getfield 71, 45, []), (45, .iload_n 2, 46, []), (46, .iaload, 47, []), (47, .invokevirtual 81, 50, []), (50, .aload_n 0, 51, []), (51, .aload_n 1, 52, []), (52, .iload_n 2, 53, []), (53, .aload_n 1, 54, []), (54, .getfield 78, 57, []), (57, .iload_n 2, 58, []), (58, .iaload, 59, []), (59, .invokevirtual 81, 62, []), (62, .invokestatic 85, 65, []), (65, .iadd, 66, []), (66, .iastore, 67, []), (67, .iinc 2 1, 70, []), (70, .goto (-46), 73, [24]), (73, .aload_n 0, 74, []), (74, .aload_n 1, 75, []), (75, .invokevirtual 60, 78, []), (78, .istore_n 2, 79, []), (79, .iconst 0, 80, []), (80, .istore_n 3, 81, []), (81, .iconst 0, 82, []), (82, .istore 4, 84, []), (84, .iload 4, 86, []), (86, .aload_n 1, 87, []), (87, .getfield 47, 90, []), (90, .if_icmp .gt 36, 93, [126]), (93, .aload_n 0, 94, []), (94, .aload_n 1, 95, []), (95, .iload 4, 97, []), (97, .invokevirtual 68, 100, []), (100, .iload_n 2, 101, []), (101, .if_icmp .ne 19, 104, [120]), (104, .iload_n 3, 105, []), (105, .aload_n 0, 106, []), (106, .getfield 30, 109, []), (109, .aload_n 1, 110, []), (110, .iload 4, 112, []), (112, .invokevirtual 64, 115, []), (115, .iaload, 116, []), (116, .invokestatic 85, 119, []), (119, .istore_n 3, 120, []), (120, .iinc 4 1, 123, []), (123, .goto (-39), 126, [84]), (126, .iload_n 3, 127, []), (127, .ireturn, 128, [])]
set_option maxRecDepth 200000 in
theorem tc_X8_deepest : T_X8_deepest.all (chk cX8_deepest) = true := by decide +kernel
def f_X8_deepest_L2 (N : Nat) (KO21 : Wd → Option (Int32 × Wd)) : Nat → Int32 → Wd → Option (Int32 × Wd)
  | 0, _, _ => none
  | n + 1, x2, σ => if 27 ≤ x2 then (KO21 σ) else ((xst σ 35 512 x2 0).bind fun σ1 => f_X8_deepest_L2 N KO21 n (x2 + 1) σ1)
def f_X8_deepest_L24 (N : Nat) (KO73 : Wd → Option (Int32 × Wd)) : Nat → Int32 → Wd → Option (Int32 × Wd)
  | 0, _, _ => none
  | n + 1, x2, σ => if (σ.1 4 5) ≤ x2 then (KO73 σ) else ((xld σ 19 512 x2).bind fun v2 => (f_X8_depthBelow N x2 v2 σ).bind fun p3 => (xld p3.2 20 512 x2).bind fun v4 => (f_X8_depthBelow N x2 v4 p3.2).bind fun p5 => (f_J9_max_7cf53 N p3.1 p5.1 p5.2).bind fun p6 => (xst p6.2 35 512 x2 (1 + p6.1)).bind fun σ7 => f_X8_deepest_L24 N KO73 n (x2 + 1) σ7)
def f_X8_deepest_L84 (N : Nat) (KO126 : Int32 → Wd → Option (Int32 × Wd)) : Nat → Int32 → Int32 → Int32 → Wd → Option (Int32 × Wd)
  | 0, _, _, _, _ => none
  | n + 1, x2, x3, x4, σ => if (σ.1 4 6) < x4 then (KO126 x3 σ) else ((f_X8_ofOutcome N x4 σ).bind fun p9 => if p9.1 = x2 then ((f_X2_outcomeGate N x4 p9.2).bind fun p10 => (xld p10.2 35 512 p10.1).bind fun v11 => (f_J9_max_7cf53 N x3 v11 p10.2).bind fun p12 => f_X8_deepest_L84 N KO126 n x2 p12.1 (x4 + 1) p12.2) else (f_X8_deepest_L84 N KO126 n x2 x3 (x4 + 1) p9.2))
def f_X8_deepest_J126 (N : Nat) (x3 : Int32) (σ : Wd) : Option (Int32 × Wd) :=
  some (x3, σ)
def f_X8_deepest_J73 (N : Nat) (σ : Wd) : Option (Int32 × Wd) :=
  (f_X8_lastOutcome N σ).bind fun p8 => f_X8_deepest_L84 N (f_X8_deepest_J126 N) N p8.1 0 0 p8.2
def f_X8_deepest_J21 (N : Nat) (σ : Wd) : Option (Int32 × Wd) :=
  f_X8_deepest_L24 N (f_X8_deepest_J73 N) N 27 σ
def f_X8_deepest (N : Nat) (σ : Wd) : Option (Int32 × Wd) :=
  f_X8_deepest_L2 N (f_X8_deepest_J21 N) N 0 σ
def a_X8_deepest (N : Nat) : List Value → Wd → Option (Int32 × Wd) := fun as σ => kSE 5 as (fun r0 => kSE 4 r0 (fun r1 => kS0 r1 (f_X8_deepest N σ)) (none)) (none)
set_option maxRecDepth 200000 in
theorem k_X8_81 : calchk RX8 81 4 8 yX8_depthBelow cX8_depthBelow 4 (some .int) = true := by decide +kernel
def ct_X8_deepest (N : Nat) : List (Nat × Cal) := [(81, 4, 8, .inl (a_X8_depthBelow N)), (85, 2, 0, .inl amax), (60, 2, 8, .inl (a_X8_lastOutcome N)), (68, 3, 8, .inl (a_X8_ofOutcome N)), (64, 2, 2, .inl (a_X2_outcomeGate N))]
set_option maxRecDepth 200000 in
theorem md_X8_deepest (N : Nat) : MDOK T_X8_deepest ft_X8 lt_X8 (ct_X8_deepest N) cX8_deepest RX8 4 := ⟨tc_X8_deepest, fc_X8, lc_X8, List.forall_mem_cons.mpr ⟨Or.inl ⟨yX8_depthBelow, cX8_depthBelow, 4, (some .int), 2, k_X8_81, Nat.le_of_ble_eq_true rfl, C_X8_depthBelow N⟩, List.forall_mem_cons.mpr ⟨Or.inr (Or.inl ⟨rfl, k_X8_85, Nat.le_of_ble_eq_true rfl⟩), List.forall_mem_cons.mpr ⟨Or.inl ⟨yX8_lastOutcome, cX8_lastOutcome, 4, (some .int), 2, k_X8_60, Nat.le_of_ble_eq_true rfl, C_X8_lastOutcome N⟩, List.forall_mem_cons.mpr ⟨Or.inl ⟨yX8_ofOutcome, cX8_ofOutcome, 3, (some .int), 3, k_X8_68, Nat.le_of_ble_eq_true rfl, C_X8_ofOutcome N⟩, List.forall_mem_cons.mpr ⟨Or.inl ⟨yX2_outcomeGate, cX2_outcomeGate, 2, (some .int), 1, k_X8_64, Nat.le_of_ble_eq_true rfl, C_X2_outcomeGate N⟩, (fun _ z => absurd z List.not_mem_nil)⟩⟩⟩⟩⟩⟩
set_option maxRecDepth 200000 in
theorem g_X8_deepest_L2 (N : Nat) (KO21 : Wd → Option (Int32 × Wd)) (hKO21 : ∀ (σ : Wd), GO cX8_deepest RX8 5 4 sc0 rI nJ0 nV0 (KO21 σ) 21 (mkp 0 5 [(0, .ref 5), (1, .ref 4)]) [] σ) : ∀ (n : Nat), ∀ (x2 : Int32) (σ : Wd), GO cX8_deepest RX8 5 4 sc0 rI nJ0 nV0 (f_X8_deepest_L2 N KO21 n x2 σ) 2 (mkp 0 5 [(0, .ref 5), (1, .ref 4), (2, .int x2)]) [] σ
  | 0, x2, σ => GO.none
  | n + 1, x2, σ => by
    exact (by refine GO.to (md_X8_deepest N) (kl := [(21, fun vs st σ => kS0 st (kA 0 5 vs (kA 1 4 vs (KO21 σ)))), (2, fun vs st σ => kS0 st (kA 0 5 vs (kA 1 4 vs (kI 2 vs (fun x2 => f_X8_deepest_L2 N KO21 n x2 σ)))))]) (List.forall_mem_cons.mpr ⟨fun vs st σ => go_kS0 (go_kA (fun h0 => go_kA (fun h1 => GO.pat [(0, .ref 5), (1, .ref 4)] ⟨h0, h1, trivial⟩ (hKO21 σ)))), List.forall_mem_cons.mpr ⟨fun vs st σ => go_kS0 (go_kA (fun h0 => go_kA (fun h1 => go_kI (fun x2 h2 => GO.pat [(0, .ref 5), (1, .ref 4), (2, .int x2)] ⟨h0, h1, h2, trivial⟩ (g_X8_deepest_L2 N KO21 hKO21 n x2 σ))))), (fun _ z => absurd z List.not_mem_nil)⟩⟩) 79 ?_ ?_ <;> rfl)
set_option maxRecDepth 200000 in
theorem g_X8_deepest_L24 (N : Nat) (KO73 : Wd → Option (Int32 × Wd)) (hKO73 : ∀ (σ : Wd), GO cX8_deepest RX8 5 4 sc0 rI nJ0 nV0 (KO73 σ) 73 (mkp 0 5 [(0, .ref 5), (1, .ref 4)]) [] σ) : ∀ (n : Nat), ∀ (x2 : Int32) (σ : Wd), GO cX8_deepest RX8 5 4 sc0 rI nJ0 nV0 (f_X8_deepest_L24 N KO73 n x2 σ) 24 (mkp 0 5 [(0, .ref 5), (1, .ref 4), (2, .int x2)]) [] σ
  | 0, x2, σ => GO.none
  | n + 1, x2, σ => by
    exact (by refine GO.to (md_X8_deepest N) (kl := [(73, fun vs st σ => kS0 st (kA 0 5 vs (kA 1 4 vs (KO73 σ)))), (24, fun vs st σ => kS0 st (kA 0 5 vs (kA 1 4 vs (kI 2 vs (fun x2 => f_X8_deepest_L24 N KO73 n x2 σ)))))]) (List.forall_mem_cons.mpr ⟨fun vs st σ => go_kS0 (go_kA (fun h0 => go_kA (fun h1 => GO.pat [(0, .ref 5), (1, .ref 4)] ⟨h0, h1, trivial⟩ (hKO73 σ)))), List.forall_mem_cons.mpr ⟨fun vs st σ => go_kS0 (go_kA (fun h0 => go_kA (fun h1 => go_kI (fun x2 h2 => GO.pat [(0, .ref 5), (1, .ref 4), (2, .int x2)] ⟨h0, h1, h2, trivial⟩ (g_X8_deepest_L24 N KO73 hKO73 n x2 σ))))), (fun _ z => absurd z List.not_mem_nil)⟩⟩) 79 ?_ ?_ <;> rfl)
set_option maxRecDepth 200000 in
theorem g_X8_deepest_L84 (N : Nat) (KO126 : Int32 → Wd → Option (Int32 × Wd)) (hKO126 : ∀ (x3 : Int32) (σ : Wd), GO cX8_deepest RX8 5 4 sc0 rI nJ0 nV0 (KO126 x3 σ) 126 (mkp 0 5 [(3, .int x3)]) [] σ) : ∀ (n : Nat), ∀ (x2 : Int32) (x3 : Int32) (x4 : Int32) (σ : Wd), GO cX8_deepest RX8 5 4 sc0 rI nJ0 nV0 (f_X8_deepest_L84 N KO126 n x2 x3 x4 σ) 84 (mkp 0 5 [(0, .ref 5), (1, .ref 4), (2, .int x2), (3, .int x3), (4, .int x4)]) [] σ
  | 0, x2, x3, x4, σ => GO.none
  | n + 1, x2, x3, x4, σ => by
    exact (by refine GO.to (md_X8_deepest N) (kl := [(126, fun vs st σ => kS0 st (kI 3 vs (fun x3 => KO126 x3 σ))), (84, fun vs st σ => kS0 st (kA 0 5 vs (kA 1 4 vs (kI 2 vs (fun x2 => kI 3 vs (fun x3 => kI 4 vs (fun x4 => f_X8_deepest_L84 N KO126 n x2 x3 x4 σ)))))))]) (List.forall_mem_cons.mpr ⟨fun vs st σ => go_kS0 (go_kI (fun x3 h3 => GO.pat [(3, .int x3)] ⟨h3, trivial⟩ (hKO126 x3 σ))), List.forall_mem_cons.mpr ⟨fun vs st σ => go_kS0 (go_kA (fun h0 => go_kA (fun h1 => go_kI (fun x2 h2 => go_kI (fun x3 h3 => go_kI (fun x4 h4 => GO.pat [(0, .ref 5), (1, .ref 4), (2, .int x2), (3, .int x3), (4, .int x4)] ⟨h0, h1, h2, h3, h4, trivial⟩ (g_X8_deepest_L84 N KO126 hKO126 n x2 x3 x4 σ))))))), (fun _ z => absurd z List.not_mem_nil)⟩⟩) 79 ?_ ?_ <;> rfl)
set_option maxRecDepth 200000 in
theorem g_X8_deepest_J126 (N : Nat) (x3 : Int32) (σ : Wd) : GO cX8_deepest RX8 5 4 sc0 rI nJ0 nV0 (f_X8_deepest_J126 N x3 σ) 126 (mkp 0 5 [(3, .int x3)]) [] σ := by
  exact (by refine GO.to (md_X8_deepest N) (kl := []) ((fun _ z => absurd z List.not_mem_nil)) 79 ?_ ?_ <;> rfl)
set_option maxRecDepth 200000 in
theorem g_X8_deepest_J73 (N : Nat) (σ : Wd) : GO cX8_deepest RX8 5 4 sc0 rI nJ0 nV0 (f_X8_deepest_J73 N σ) 73 (mkp 0 5 [(0, .ref 5), (1, .ref 4)]) [] σ := by
  exact (by refine GO.to (md_X8_deepest N) (kl := [(84, fun vs st σ => kS0 st (kA 0 5 vs (kA 1 4 vs (kI 2 vs (fun x2 => kI 3 vs (fun x3 => kI 4 vs (fun x4 => f_X8_deepest_L84 N (f_X8_deepest_J126 N) N x2 x3 x4 σ)))))))]) (List.forall_mem_cons.mpr ⟨fun vs st σ => go_kS0 (go_kA (fun h0 => go_kA (fun h1 => go_kI (fun x2 h2 => go_kI (fun x3 h3 => go_kI (fun x4 h4 => GO.pat [(0, .ref 5), (1, .ref 4), (2, .int x2), (3, .int x3), (4, .int x4)] ⟨h0, h1, h2, h3, h4, trivial⟩ (g_X8_deepest_L84 N (f_X8_deepest_J126 N) (g_X8_deepest_J126 N) N x2 x3 x4 σ))))))), (fun _ z => absurd z List.not_mem_nil)⟩) 79 ?_ ?_ <;> rfl)
set_option maxRecDepth 200000 in
theorem g_X8_deepest_J21 (N : Nat) (σ : Wd) : GO cX8_deepest RX8 5 4 sc0 rI nJ0 nV0 (f_X8_deepest_J21 N σ) 21 (mkp 0 5 [(0, .ref 5), (1, .ref 4)]) [] σ := by
  exact (by refine GO.to (md_X8_deepest N) (kl := [(24, fun vs st σ => kS0 st (kA 0 5 vs (kA 1 4 vs (kI 2 vs (fun x2 => f_X8_deepest_L24 N (f_X8_deepest_J73 N) N x2 σ)))))]) (List.forall_mem_cons.mpr ⟨fun vs st σ => go_kS0 (go_kA (fun h0 => go_kA (fun h1 => go_kI (fun x2 h2 => GO.pat [(0, .ref 5), (1, .ref 4), (2, .int x2)] ⟨h0, h1, h2, trivial⟩ (g_X8_deepest_L24 N (f_X8_deepest_J73 N) (g_X8_deepest_J73 N) N x2 σ))))), (fun _ z => absurd z List.not_mem_nil)⟩) 79 ?_ ?_ <;> rfl)
set_option maxRecDepth 200000 in
theorem C_X8_deepest (N : Nat) : CTI 4 yX8_deepest cX8_deepest 5 (some .int) (a_X8_deepest N) := by
  refine CTI.of (own := RX8) (by decide) rfl (fun as σ r h => ?_)
  unfold a_X8_deepest at h
  rcases kSE_s h with ⟨r0, rfl, h0⟩ | hn
  ·
    rcases kSE_s h0 with ⟨r1, rfl, h1⟩ | h0n
    ·
      obtain ⟨rfl, h9⟩ := kS0_s h1
      exact ⟨Nat.le_of_ble_eq_true rfl, by refine GO.to (md_X8_deepest N) (kl := [(2, fun vs st σ => kS0 st (kA 0 5 vs (kA 1 4 vs (kI 2 vs (fun x2 => f_X8_deepest_L2 N (f_X8_deepest_J21 N) N x2 σ)))))]) (List.forall_mem_cons.mpr ⟨fun vs st σ => go_kS0 (go_kA (fun h0 => go_kA (fun h1 => go_kI (fun x2 h2 => GO.pat [(0, .ref 5), (1, .ref 4), (2, .int x2)] ⟨h0, h1, h2, trivial⟩ (g_X8_deepest_L2 N (f_X8_deepest_J21 N) (g_X8_deepest_J21 N) N x2 σ))))), (fun _ z => absurd z List.not_mem_nil)⟩) 79 ?_ ?_ <;> rfl⟩
    cases h0n
  cases hn
def ft_X6 : List (Nat × FTE) := [(11, 5, 1, 3), (15, 5, 0, 2), (19, 5, 2, 1), (32, 1, 6, 0), (42, 5, 3, 0)]
def lt_X6 : List (Nat × Int64) := []
theorem fc_X6 : ft_X6.all (fun e => fldchk RX6 e && shchk e) = true := by decide +kernel
theorem lc_X6 : lt_X6.all (ltchk RX6) = true := by decide +kernel
def T_X6_amount : List (Nat × Ent) := [(0, .iconst 2, 1, []), (1, .iconst 2, 2, []), (2, .aload_n 0, 3, []), (3, .getfield 42, 6, []), (6, .imul, 7, []), (7, .ishl, 8, []), (8, .ireturn, 9, [])]
set_option maxRecDepth 200000 in
theorem tc_X6_amount : T_X6_amount.all (chk cX6_amount) = true := by decide +kernel
def f_X6_amount (N : Nat) (σ : Wd) : Option (Int32 × Wd) :=
  some (2 <<< ((2 * (σ.1 6 3)) &&& 31), σ)
def a_X6_amount (N : Nat) : List Value → Wd → Option (Int32 × Wd) := fun as σ => kSE 6 as (fun r0 => kS0 r0 (f_X6_amount N σ)) (none)
def ct_X6_amount (N : Nat) : List (Nat × Cal) := []
set_option maxRecDepth 200000 in
theorem md_X6_amount (N : Nat) : MDOK T_X6_amount ft_X6 lt_X6 (ct_X6_amount N) cX6_amount RX6 1 := ⟨tc_X6_amount, fc_X6, lc_X6, (fun _ z => absurd z List.not_mem_nil)⟩
set_option maxRecDepth 200000 in
theorem C_X6_amount (N : Nat) : CTI 1 yX6_amount cX6_amount 1 (some .int) (a_X6_amount N) := by
  refine CTI.of (own := RX6) (by decide) rfl (fun as σ r h => ?_)
  unfold a_X6_amount at h
  rcases kSE_s h with ⟨r0, rfl, h0⟩ | hn
  ·
    obtain ⟨rfl, h9⟩ := kS0_s h0
    exact ⟨Nat.le_of_ble_eq_true rfl, by refine GO.to (md_X6_amount N) (kl := []) ((fun _ z => absurd z List.not_mem_nil)) 12 ?_ ?_ <;> rfl⟩
  cases hn
def T_X6_numberA : List (Nat × Ent) := [(0, .iload_n 1, 1, []), (1, .iconst 1, 2, []), (2, .aload_n 0, 3, []), (3, .getfield 42, 6, []), (6, .ishl, 7, []), (7, .iconst 1, 8, []), (8, .isub, 9, []), (9, .iand, 10, []), (10, .ireturn, 11, [])]
set_option maxRecDepth 200000 in
theorem tc_X6_numberA : T_X6_numberA.all (chk cX6_numberA) = true := by decide +kernel
def f_X6_numberA (N : Nat) (a1 : Int32) (σ : Wd) : Option (Int32 × Wd) :=
  some (a1 &&& ((1 <<< ((σ.1 6 3) &&& 31)) - 1), σ)
def a_X6_numberA (N : Nat) : List Value → Wd → Option (Int32 × Wd) := fun as σ => kSE 6 as (fun r0 => kSI r0 (fun b1 r1 => kS0 r1 (f_X6_numberA N b1 σ))) (none)
def ct_X6_numberA (N : Nat) : List (Nat × Cal) := []
set_option maxRecDepth 200000 in
theorem md_X6_numberA (N : Nat) : MDOK T_X6_numberA ft_X6 lt_X6 (ct_X6_numberA N) cX6_numberA RX6 1 := ⟨tc_X6_numberA, fc_X6, lc_X6, (fun _ z => absurd z List.not_mem_nil)⟩
set_option maxRecDepth 200000 in
theorem C_X6_numberA (N : Nat) : CTI 1 yX6_numberA cX6_numberA 2 (some .int) (a_X6_numberA N) := by
  refine CTI.of (own := RX6) (by decide) rfl (fun as σ r h => ?_)
  unfold a_X6_numberA at h
  rcases kSE_s h with ⟨r0, rfl, h0⟩ | hn
  ·
    obtain ⟨b1, r1, rfl, h1⟩ := kSI_s h0
    obtain ⟨rfl, h9⟩ := kS0_s h1
    exact ⟨Nat.le_of_ble_eq_true rfl, by refine GO.to (md_X6_numberA N) (kl := []) ((fun _ z => absurd z List.not_mem_nil)) 14 ?_ ?_ <;> rfl⟩
  cases hn
def T_X6_numberB : List (Nat × Ent) := [(0, .iload_n 1, 1, []), (1, .aload_n 0, 2, []), (2, .getfield 42, 5, []), (5, .ishr, 6, []), (6, .iconst 1, 7, []), (7, .aload_n 0, 8, []), (8, .getfield 42, 11, []), (11, .ishl, 12, []), (12, .iconst 1, 13, []), (13, .isub, 14, []), (14, .iand, 15, []), (15, .ireturn, 16, [])]
set_option maxRecDepth 200000 in
theorem tc_X6_numberB : T_X6_numberB.all (chk cX6_numberB) = true := by decide +kernel
def f_X6_numberB (N : Nat) (a1 : Int32) (σ : Wd) : Option (Int32 × Wd) :=
  some ((a1 >>> ((σ.1 6 3) &&& 31)) &&& ((1 <<< ((σ.1 6 3) &&& 31)) - 1), σ)
def a_X6_numberB (N : Nat) : List Value → Wd → Option (Int32 × Wd) := fun as σ => kSE 6 as (fun r0 => kSI r0 (fun b1 r1 => kS0 r1 (f_X6_numberB N b1 σ))) (none)
def ct_X6_numberB (N : Nat) : List (Nat × Cal) := []
set_option maxRecDepth 200000 in
theorem md_X6_numberB (N : Nat) : MDOK T_X6_numberB ft_X6 lt_X6 (ct_X6_numberB N) cX6_numberB RX6 1 := ⟨tc_X6_numberB, fc_X6, lc_X6, (fun _ z => absurd z List.not_mem_nil)⟩
set_option maxRecDepth 200000 in
theorem C_X6_numberB (N : Nat) : CTI 1 yX6_numberB cX6_numberB 2 (some .int) (a_X6_numberB N) := by
  refine CTI.of (own := RX6) (by decide) rfl (fun as σ r h => ?_)
  unfold a_X6_numberB at h
  rcases kSE_s h with ⟨r0, rfl, h0⟩ | hn
  ·
    obtain ⟨b1, r1, rfl, h1⟩ := kSI_s h0
    obtain ⟨rfl, h9⟩ := kS0_s h1
    exact ⟨Nat.le_of_ble_eq_true rfl, by refine GO.to (md_X6_numberB N) (kl := []) ((fun _ z => absurd z List.not_mem_nil)) 17 ?_ ?_ <;> rfl⟩
  cases hn
def T_X6_worst : List (Nat × Ent) := [(0, .iconst 0, 1, []), (1, .istore_n 2, 2, []), (2, .iconst 1, 3, []), (3, .istore_n 3, 4, []), (4, .iload_n 3, 5, []), (5, .aload_n 0, 6, []), (6, .invokevirtual 43, 9, []), (9, .if_icmp .ge 26, 12, [35]), (12, .aload_n 0, 13, []), (13, .getfield 11, 16, []), (16, .iload_n 3, 17, []), (17, .iaload, 18, []), (18, .aload_n 0, 19, []), (19, .getfield 11, 22, []), (22, .iload_n 2, 23, []), (23, .iaload, 24, []), (24, .if_icmp .le 5, 27, [29]), (27, .iload_n 3, 28, []), (28, .istore_n 2, 29, []), (29, .iinc 3 1, 32, []), (32, .goto (-28), 35, [4]), (35, .iload_n 1, 36, []), (36, .tableswitch 49 1 3 #[28, 34, 40], 64, [85, 64, 70, 76]), (64, .aload_n 0, 65, []), (65, .iload_n 2, 66, []), (66, .invokevirtual 47, 69, []), (69, .ireturn, 70, []), (70, .aload_n 0, 71, []), (71, .iload_n 2, 72, []), (72, .invokevirtual 51, 75, []), (75, .ireturn, 76, []), (76, .iload_n 2, 77, []), (77, .iconst 2, 78, []), (78, .aload_n 0, 79, []), (79, .getfield 42, 82, []), (82, .imul, 83, []), (83, .ishr, 84, []), (84, .ireturn, 85, []), (85, .aload_n 0, 86, []), (86, .getfield 11, 89, []), (89, .iload_n 2, 90, []), (90, .iaload, 91, []), (91, .ireturn, 92, [])]
set_option maxRecDepth 200000 in
theorem tc_X6_worst : T_X6_worst.all (chk cX6_worst) = true := by decide +kernel
def f_X6_worst_L4 (N : Nat) (KO35 : Int32 → Int32 → Wd → Option (Int32 × Wd)) : Nat → Int32 → Int32 → Int32 → Wd → Option (Int32 × Wd)
  | 0, _, _, _, _ => none
  | n + 1, x1, x2, x3, σ => (f_X6_amount N σ).bind fun p1 => if p1.1 ≤ x3 then (KO35 x1 x2 p1.2) else ((xld p1.2 36 512 x3).bind fun v2 => (xld p1.2 36 512 x2).bind fun v3 => if v2 ≤ v3 then (f_X6_worst_L4 N KO35 n x1 x2 (x3 + 1) p1.2) else (f_X6_worst_L4 N KO35 n x1 x3 (x3 + 1) p1.2))
def f_X6_worst_J35 (N : Nat) (x1 : Int32) (x2 : Int32) (σ : Wd) : Option (Int32 × Wd) :=
  if x1 = 1 then ((f_X6_numberA N x2 σ).bind fun p4 => some (p4.1, p4.2)) else if x1 = 2 then ((f_X6_numberB N x2 σ).bind fun p5 => some (p5.1, p5.2)) else if x1 = 3 then (some (x2 >>> ((2 * (σ.1 6 3)) &&& 31), σ)) else ((xld σ 36 512 x2).bind fun v6 => some (v6, σ))
def f_X6_worst (N : Nat) (a1 : Int32) (σ : Wd) : Option (Int32 × Wd) :=
  f_X6_worst_L4 N (f_X6_worst_J35 N) N a1 0 1 σ
def a_X6_worst (N : Nat) : List Value → Wd → Option (Int32 × Wd) := fun as σ => kSE 6 as (fun r0 => kSI r0 (fun b1 r1 => kS0 r1 (f_X6_worst N b1 σ))) (none)
set_option maxRecDepth 200000 in
theorem k_X6_43 : calchk RX6 43 1 6 yX6_amount cX6_amount 1 (some .int) = true := by decide +kernel
set_option maxRecDepth 200000 in
theorem k_X6_47 : calchk RX6 47 2 6 yX6_numberA cX6_numberA 2 (some .int) = true := by decide +kernel
set_option maxRecDepth 200000 in
theorem k_X6_51 : calchk RX6 51 2 6 yX6_numberB cX6_numberB 2 (some .int) = true := by decide +kernel
def ct_X6_worst (N : Nat) : List (Nat × Cal) := [(43, 1, 6, .inl (a_X6_amount N)), (47, 2, 6, .inl (a_X6_numberA N)), (51, 2, 6, .inl (a_X6_numberB N))]
set_option maxRecDepth 200000 in
theorem md_X6_worst (N : Nat) : MDOK T_X6_worst ft_X6 lt_X6 (ct_X6_worst N) cX6_worst RX6 2 := ⟨tc_X6_worst, fc_X6, lc_X6, List.forall_mem_cons.mpr ⟨Or.inl ⟨yX6_amount, cX6_amount, 1, (some .int), 1, k_X6_43, Nat.le_of_ble_eq_true rfl, C_X6_amount N⟩, List.forall_mem_cons.mpr ⟨Or.inl ⟨yX6_numberA, cX6_numberA, 2, (some .int), 1, k_X6_47, Nat.le_of_ble_eq_true rfl, C_X6_numberA N⟩, List.forall_mem_cons.mpr ⟨Or.inl ⟨yX6_numberB, cX6_numberB, 2, (some .int), 1, k_X6_51, Nat.le_of_ble_eq_true rfl, C_X6_numberB N⟩, (fun _ z => absurd z List.not_mem_nil)⟩⟩⟩⟩
set_option maxRecDepth 200000 in
theorem g_X6_worst_L4 (N : Nat) (KO35 : Int32 → Int32 → Wd → Option (Int32 × Wd)) (hKO35 : ∀ (x1 : Int32) (x2 : Int32) (σ : Wd), GO cX6_worst RX6 4 2 sc0 rI nJ0 nV0 (KO35 x1 x2 σ) 35 (mkp 0 4 [(0, .ref 6), (1, .int x1), (2, .int x2)]) [] σ) : ∀ (n : Nat), ∀ (x1 : Int32) (x2 : Int32) (x3 : Int32) (σ : Wd), GO cX6_worst RX6 4 2 sc0 rI nJ0 nV0 (f_X6_worst_L4 N KO35 n x1 x2 x3 σ) 4 (mkp 0 4 [(0, .ref 6), (1, .int x1), (2, .int x2), (3, .int x3)]) [] σ
  | 0, x1, x2, x3, σ => GO.none
  | n + 1, x1, x2, x3, σ => by
    exact (by refine GO.to (md_X6_worst N) (kl := [(35, fun vs st σ => kS0 st (kA 0 6 vs (kI 1 vs (fun x1 => kI 2 vs (fun x2 => KO35 x1 x2 σ))))), (4, fun vs st σ => kS0 st (kA 0 6 vs (kI 1 vs (fun x1 => kI 2 vs (fun x2 => kI 3 vs (fun x3 => f_X6_worst_L4 N KO35 n x1 x2 x3 σ))))))]) (List.forall_mem_cons.mpr ⟨fun vs st σ => go_kS0 (go_kA (fun h0 => go_kI (fun x1 h1 => go_kI (fun x2 h2 => GO.pat [(0, .ref 6), (1, .int x1), (2, .int x2)] ⟨h0, h1, h2, trivial⟩ (hKO35 x1 x2 σ))))), List.forall_mem_cons.mpr ⟨fun vs st σ => go_kS0 (go_kA (fun h0 => go_kI (fun x1 h1 => go_kI (fun x2 h2 => go_kI (fun x3 h3 => GO.pat [(0, .ref 6), (1, .int x1), (2, .int x2), (3, .int x3)] ⟨h0, h1, h2, h3, trivial⟩ (g_X6_worst_L4 N KO35 hKO35 n x1 x2 x3 σ)))))), (fun _ z => absurd z List.not_mem_nil)⟩⟩) 48 ?_ ?_ <;> rfl)
set_option maxRecDepth 200000 in
theorem g_X6_worst_J35 (N : Nat) (x1 : Int32) (x2 : Int32) (σ : Wd) : GO cX6_worst RX6 4 2 sc0 rI nJ0 nV0 (f_X6_worst_J35 N x1 x2 σ) 35 (mkp 0 4 [(0, .ref 6), (1, .int x1), (2, .int x2)]) [] σ := by
  exact (by refine GO.to (md_X6_worst N) (kl := []) ((fun _ z => absurd z List.not_mem_nil)) 48 ?_ ?_ <;> rfl)
set_option maxRecDepth 200000 in
theorem C_X6_worst (N : Nat) : CTI 2 yX6_worst cX6_worst 4 (some .int) (a_X6_worst N) := by
  refine CTI.of (own := RX6) (by decide) rfl (fun as σ r h => ?_)
  unfold a_X6_worst at h
  rcases kSE_s h with ⟨r0, rfl, h0⟩ | hn
  ·
    obtain ⟨b1, r1, rfl, h1⟩ := kSI_s h0
    obtain ⟨rfl, h9⟩ := kS0_s h1
    exact ⟨Nat.le_of_ble_eq_true rfl, by refine GO.to (md_X6_worst N) (kl := [(4, fun vs st σ => kS0 st (kA 0 6 vs (kI 1 vs (fun x1 => kI 2 vs (fun x2 => kI 3 vs (fun x3 => f_X6_worst_L4 N (f_X6_worst_J35 N) N x1 x2 x3 σ))))))]) (List.forall_mem_cons.mpr ⟨fun vs st σ => go_kS0 (go_kA (fun h0 => go_kI (fun x1 h1 => go_kI (fun x2 h2 => go_kI (fun x3 h3 => GO.pat [(0, .ref 6), (1, .int x1), (2, .int x2), (3, .int x3)] ⟨h0, h1, h2, h3, trivial⟩ (g_X6_worst_L4 N (f_X6_worst_J35 N) (g_X6_worst_J35 N) N x1 x2 x3 σ)))))), (fun _ z => absurd z List.not_mem_nil)⟩) 48 ?_ ?_ <;> rfl⟩
  cases hn
def T_X6_settledBy : List (Nat × Ent) := [(0, .iconst 0, 1, []), (1, .istore_n 2, 2, []), (2, .iconst 0, 3, []), (3, .istore_n 3, 4, []), (4, .iload_n 3, 5, []), (5, .aload_n 0, 6, []), (6, .invokevirtual 43, 9, []), (9, .if_icmp .ge 22, 12, [31]), (12, .aload_n 0, 13, []), (13, .getfield 11, 16, []), (16, .iload_n 3, 17, []), (17, .iaload, 18, []), (18, .iload_n 1, 19, []), (19, .if_icmp .gt 6, 22, [25]), (22, .iinc 2 1, 25, []), (25, .iinc 3 1, 28, []), (28, .goto (-24), 31, [4]), (31, .iload_n 2, 32, []), (32, .ireturn, 33, [])]
set_option maxRecDepth 200000 in
theorem tc_X6_settledBy : T_X6_settledBy.all (chk cX6_settledBy) = true := by decide +kernel
def f_X6_settledBy_L4 (N : Nat) (KO31 : Int32 → Wd → Option (Int32 × Wd)) : Nat → Int32 → Int32 → Int32 → Wd → Option (Int32 × Wd)
  | 0, _, _, _, _ => none
  | n + 1, x1, x2, x3, σ => (f_X6_amount N σ).bind fun p1 => if p1.1 ≤ x3 then (KO31 x2 p1.2) else ((xld p1.2 36 512 x3).bind fun v2 => if x1 < v2 then (f_X6_settledBy_L4 N KO31 n x1 x2 (x3 + 1) p1.2) else (f_X6_settledBy_L4 N KO31 n x1 (x2 + 1) (x3 + 1) p1.2))
def f_X6_settledBy_J31 (N : Nat) (x2 : Int32) (σ : Wd) : Option (Int32 × Wd) :=
  some (x2, σ)
def f_X6_settledBy (N : Nat) (a1 : Int32) (σ : Wd) : Option (Int32 × Wd) :=
  f_X6_settledBy_L4 N (f_X6_settledBy_J31 N) N a1 0 0 σ
def a_X6_settledBy (N : Nat) : List Value → Wd → Option (Int32 × Wd) := fun as σ => kSE 6 as (fun r0 => kSI r0 (fun b1 r1 => kS0 r1 (f_X6_settledBy N b1 σ))) (none)
def ct_X6_settledBy (N : Nat) : List (Nat × Cal) := [(43, 1, 6, .inl (a_X6_amount N))]
set_option maxRecDepth 200000 in
theorem md_X6_settledBy (N : Nat) : MDOK T_X6_settledBy ft_X6 lt_X6 (ct_X6_settledBy N) cX6_settledBy RX6 2 := ⟨tc_X6_settledBy, fc_X6, lc_X6, List.forall_mem_cons.mpr ⟨Or.inl ⟨yX6_amount, cX6_amount, 1, (some .int), 1, k_X6_43, Nat.le_of_ble_eq_true rfl, C_X6_amount N⟩, (fun _ z => absurd z List.not_mem_nil)⟩⟩
set_option maxRecDepth 200000 in
theorem g_X6_settledBy_L4 (N : Nat) (KO31 : Int32 → Wd → Option (Int32 × Wd)) (hKO31 : ∀ (x2 : Int32) (σ : Wd), GO cX6_settledBy RX6 4 2 sc0 rI nJ0 nV0 (KO31 x2 σ) 31 (mkp 0 4 [(2, .int x2)]) [] σ) : ∀ (n : Nat), ∀ (x1 : Int32) (x2 : Int32) (x3 : Int32) (σ : Wd), GO cX6_settledBy RX6 4 2 sc0 rI nJ0 nV0 (f_X6_settledBy_L4 N KO31 n x1 x2 x3 σ) 4 (mkp 0 4 [(0, .ref 6), (1, .int x1), (2, .int x2), (3, .int x3)]) [] σ
  | 0, x1, x2, x3, σ => GO.none
  | n + 1, x1, x2, x3, σ => by
    exact (by refine GO.to (md_X6_settledBy N) (kl := [(31, fun vs st σ => kS0 st (kI 2 vs (fun x2 => KO31 x2 σ))), (4, fun vs st σ => kS0 st (kA 0 6 vs (kI 1 vs (fun x1 => kI 2 vs (fun x2 => kI 3 vs (fun x3 => f_X6_settledBy_L4 N KO31 n x1 x2 x3 σ))))))]) (List.forall_mem_cons.mpr ⟨fun vs st σ => go_kS0 (go_kI (fun x2 h2 => GO.pat [(2, .int x2)] ⟨h2, trivial⟩ (hKO31 x2 σ))), List.forall_mem_cons.mpr ⟨fun vs st σ => go_kS0 (go_kA (fun h0 => go_kI (fun x1 h1 => go_kI (fun x2 h2 => go_kI (fun x3 h3 => GO.pat [(0, .ref 6), (1, .int x1), (2, .int x2), (3, .int x3)] ⟨h0, h1, h2, h3, trivial⟩ (g_X6_settledBy_L4 N KO31 hKO31 n x1 x2 x3 σ)))))), (fun _ z => absurd z List.not_mem_nil)⟩⟩) 24 ?_ ?_ <;> rfl)
set_option maxRecDepth 200000 in
theorem g_X6_settledBy_J31 (N : Nat) (x2 : Int32) (σ : Wd) : GO cX6_settledBy RX6 4 2 sc0 rI nJ0 nV0 (f_X6_settledBy_J31 N x2 σ) 31 (mkp 0 4 [(2, .int x2)]) [] σ := by
  exact (by refine GO.to (md_X6_settledBy N) (kl := []) ((fun _ z => absurd z List.not_mem_nil)) 24 ?_ ?_ <;> rfl)
set_option maxRecDepth 200000 in
theorem C_X6_settledBy (N : Nat) : CTI 2 yX6_settledBy cX6_settledBy 4 (some .int) (a_X6_settledBy N) := by
  refine CTI.of (own := RX6) (by decide) rfl (fun as σ r h => ?_)
  unfold a_X6_settledBy at h
  rcases kSE_s h with ⟨r0, rfl, h0⟩ | hn
  ·
    obtain ⟨b1, r1, rfl, h1⟩ := kSI_s h0
    obtain ⟨rfl, h9⟩ := kS0_s h1
    exact ⟨Nat.le_of_ble_eq_true rfl, by refine GO.to (md_X6_settledBy N) (kl := [(4, fun vs st σ => kS0 st (kA 0 6 vs (kI 1 vs (fun x1 => kI 2 vs (fun x2 => kI 3 vs (fun x3 => f_X6_settledBy_L4 N (f_X6_settledBy_J31 N) N x1 x2 x3 σ))))))]) (List.forall_mem_cons.mpr ⟨fun vs st σ => go_kS0 (go_kA (fun h0 => go_kI (fun x1 h1 => go_kI (fun x2 h2 => go_kI (fun x3 h3 => GO.pat [(0, .ref 6), (1, .int x1), (2, .int x2), (3, .int x3)] ⟨h0, h1, h2, h3, trivial⟩ (g_X6_settledBy_L4 N (f_X6_settledBy_J31 N) (g_X6_settledBy_J31 N) N x1 x2 x3 σ)))))), (fun _ z => absurd z List.not_mem_nil)⟩) 24 ?_ ?_ <;> rfl⟩
  cases hn
def T_X6_over : List (Nat × Ent) := [(0, .aload_n 0, 1, []), (1, .getfield 15, 4, []), (4, .ifCond .eq 13, 7, [17]), (7, .aload_n 0, 8, []), (8, .getfield 19, 11, []), (11, .lload_n 3, 12, []), (12, .lcmp, 13, []), (13, .ifCond .ne 4, 16, [17]), (16, .return_, 17, []), (17, .aload_n 1, 18, []), (18, .invokevirtual 23, 21, []), (21, .aload_n 1, 22, []), (22, .lload_n 3, 23, []), (23, .invokevirtual 28, 26, []), (26, .aload_n 0, 27, []), (27, .aload_n 1, 28, []), (28, .getfield 32, 31, []), (31, .iconst 4, 32, []), (32, .invokestatic 36, 35, []), (35, .putfield 42, 38, []), (38, .iconst 0, 39, []), (39, .istore 5, 41, []), (41, .iload 5, 43, []), (43, .aload_n 0, 44, []), (44, .invokevirtual 43, 47, []), (47, .if_icmp .ge 48, 50, [95]), (50, .aload_n 2, 51, []), (51, .aload_n 1, 52, []), (52, .aload_n 0, 53, []), (53, .iload 5, 55, []), (55, .invokevirtual 47, 58, []), (58, .aload_n 0, 59, []), (59, .iload 5, 61, []), (61, .invokevirtual 51, 64, []), (64, .iload 5, 66, []), (66, .iconst 2, 67, []), (67, .aload_n 0, 68, []), (68, .getfield 42, 71, []), (71, .imul, 72, []), (72, .ishr, 73, []), (73, .invokevirtual 54, 76, []), (76, .aload_n 0, 77, []), (77, .getfield 11, 80, []), (80, .iload 5, 82, []), (82, .aload_n 2, 83, []), (83, .aload_n 1, 84, []), (84, .iconst (-1), 85, []), (85, .invokevirtual 60, 88, []), (88, .iastore, 89, []), (89, .iinc 5 1, 92, []), (92, .goto (-51), 95, [41]), (95, .aload_n 0, 96, []), (96, .lload_n 3, 97, []), (97, .putfield 19, 100, []), (100, .aload_n 0, 101, []), (101, .iconst 1, 102, []), (102, .putfield 15, 105, []), (105, .return_, 106, [])]
set_option maxRecDepth 200000 in
theorem tc_X6_over : T_X6_over.all (chk cX6_over) = true := by decide +kernel
def f_X6_over_L41 (N : Nat) (KO95 : Int64 → Wd → Option Wd) : Nat → Int64 → Int32 → Wd → Option Wd
  | 0, _, _, _ => none
  | n + 1, x3, x5, σ => (f_X6_amount N σ).bind fun p5 => if p5.1 ≤ x5 then (KO95 x3 p5.2) else ((f_X6_numberA N x5 p5.2).bind fun p6 => (f_X6_numberB N x5 p6.2).bind fun p7 => (f_X8_settle N p6.1 p7.1 (x5 >>> ((2 * (p7.2.1 6 3)) &&& 31)) p7.2).bind fun σ8 => (f_X8_ofOutcome N (-1) σ8).bind fun p9 => (xst p9.2 36 512 x5 p9.1).bind fun σ10 => f_X6_over_L41 N KO95 n x3 (x5 + 1) σ10)
def f_X6_over_J95 (N : Nat) (x3 : Int64) (σ : Wd) : Option Wd :=
  let σ11 : Wd := sG σ 6 2 x3
  let σ12 : Wd := sF σ11 6 0 1
  some σ12
def f_X6_over_J17 (N : Nat) (x3 : Int64) (σ : Wd) : Option Wd :=
  (f_X2_clear N σ).bind fun σ1 => (f_X2_build N x3 σ1).bind fun σ2 => (f_J9_min_7cf53 N (σ2.1 4 6) 4 σ2).bind fun p3 => let σ4 : Wd := sF p3.2 6 3 p3.1
  f_X6_over_L41 N (f_X6_over_J95 N) N x3 0 σ4
def f_X6_over (N : Nat) (a3 : Int64) (σ : Wd) : Option Wd :=
  if (σ.1 6 0) = 0 then (f_X6_over_J17 N a3 σ) else (if (lg_cmp (σ.2 6 2) a3) = 0 then (some σ) else (f_X6_over_J17 N a3 σ))
def a_X6_over (N : Nat) : List Value → Wd → Option Wd := fun as σ => kSE 6 as (fun r0 => kSE 4 r0 (fun r1 => kSE 5 r1 (fun r2 => kSJ r2 (fun b3 r3 => kS0 r3 (f_X6_over N b3 σ))) (none)) (none)) (none)
set_option maxRecDepth 200000 in
theorem k_X6_23 : calchk RX6 23 1 2 yX2_clear cX2_clear 2 none = true := by decide +kernel
set_option maxRecDepth 200000 in
theorem k_X6_28 : calchk RX6 28 2 2 yX2_build cX2_build 5 none = true := by decide +kernel
set_option maxRecDepth 200000 in
theorem k_X6_36 : mmchk RX6 36 Lib.Math.min.name Lib.Math.min.code = true := by decide +kernel
set_option maxRecDepth 200000 in
theorem k_X6_54 : calchk RX6 54 5 8 yX8_settle cX8_settle 7 none = true := by decide +kernel
set_option maxRecDepth 200000 in
theorem k_X6_60 : calchk RX6 60 3 8 yX8_ofOutcome cX8_ofOutcome 3 (some .int) = true := by decide +kernel
def ct_X6_over (N : Nat) : List (Nat × Cal) := [(23, 1, 2, .inr (.inr (a_X2_clear N))), (28, 2, 2, .inr (.inr (a_X2_build N))), (36, 2, 0, .inl amin), (43, 1, 6, .inl (a_X6_amount N)), (47, 2, 6, .inl (a_X6_numberA N)), (51, 2, 6, .inl (a_X6_numberB N)), (54, 5, 8, .inr (.inr (a_X8_settle N))), (60, 3, 8, .inl (a_X8_ofOutcome N))]
set_option maxRecDepth 200000 in
theorem md_X6_over (N : Nat) : MDOK T_X6_over ft_X6 lt_X6 (ct_X6_over N) cX6_over RX6 16 := ⟨tc_X6_over, fc_X6, lc_X6, List.forall_mem_cons.mpr ⟨Or.inl ⟨yX2_clear, cX2_clear, 2, none, 1, k_X6_23, Nat.le_of_ble_eq_true rfl, C_X2_clear N⟩, List.forall_mem_cons.mpr ⟨Or.inl ⟨yX2_build, cX2_build, 5, none, 15, k_X6_28, Nat.le_of_ble_eq_true rfl, C_X2_build N⟩, List.forall_mem_cons.mpr ⟨Or.inr (Or.inr ⟨rfl, k_X6_36, Nat.le_of_ble_eq_true rfl⟩), List.forall_mem_cons.mpr ⟨Or.inl ⟨yX6_amount, cX6_amount, 1, (some .int), 1, k_X6_43, Nat.le_of_ble_eq_true rfl, C_X6_amount N⟩, List.forall_mem_cons.mpr ⟨Or.inl ⟨yX6_numberA, cX6_numberA, 2, (some .int), 1, k_X6_47, Nat.le_of_ble_eq_true rfl, C_X6_numberA N⟩, List.forall_mem_cons.mpr ⟨Or.inl ⟨yX6_numberB, cX6_numberB, 2, (some .int), 1, k_X6_51, Nat.le_of_ble_eq_true rfl, C_X6_numberB N⟩, List.forall_mem_cons.mpr ⟨Or.inl ⟨yX8_settle, cX8_settle, 7, none, 3, k_X6_54, Nat.le_of_ble_eq_true rfl, C_X8_settle N⟩, List.forall_mem_cons.mpr ⟨Or.inl ⟨yX8_ofOutcome, cX8_ofOutcome, 3, (some .int), 3, k_X6_60, Nat.le_of_ble_eq_true rfl, C_X8_ofOutcome N⟩, (fun _ z => absurd z List.not_mem_nil)⟩⟩⟩⟩⟩⟩⟩⟩⟩
set_option maxRecDepth 200000 in
theorem g_X6_over_L41 (N : Nat) (KO95 : Int64 → Wd → Option Wd) (hKO95 : ∀ (x3 : Int64) (σ : Wd), GO cX6_over RX6 6 16 sc0 nI0 nJ0 some (KO95 x3 σ) 95 (mkp 0 6 [(0, .ref 6), (3, .long x3)]) [] σ) : ∀ (n : Nat), ∀ (x3 : Int64) (x5 : Int32) (σ : Wd), GO cX6_over RX6 6 16 sc0 nI0 nJ0 some (f_X6_over_L41 N KO95 n x3 x5 σ) 41 (mkp 0 6 [(0, .ref 6), (1, .ref 4), (2, .ref 5), (3, .long x3), (5, .int x5)]) [] σ
  | 0, x3, x5, σ => GO.none
  | n + 1, x3, x5, σ => by
    exact (by refine GO.to (md_X6_over N) (kl := [(95, fun vs st σ => kS0 st (kA 0 6 vs (kJ 3 vs (fun x3 => KO95 x3 σ)))), (41, fun vs st σ => kS0 st (kA 0 6 vs (kA 1 4 vs (kA 2 5 vs (kJ 3 vs (fun x3 => kI 5 vs (fun x5 => f_X6_over_L41 N KO95 n x3 x5 σ)))))))]) (List.forall_mem_cons.mpr ⟨fun vs st σ => go_kS0 (go_kA (fun h0 => go_kJ (fun x3 h3 => GO.pat [(0, .ref 6), (3, .long x3)] ⟨h0, h3, trivial⟩ (hKO95 x3 σ)))), List.forall_mem_cons.mpr ⟨fun vs st σ => go_kS0 (go_kA (fun h0 => go_kA (fun h1 => go_kA (fun h2 => go_kJ (fun x3 h3 => go_kI (fun x5 h5 => GO.pat [(0, .ref 6), (1, .ref 4), (2, .ref 5), (3, .long x3), (5, .int x5)] ⟨h0, h1, h2, h3, h5, trivial⟩ (g_X6_over_L41 N KO95 hKO95 n x3 x5 σ))))))), (fun _ z => absurd z List.not_mem_nil)⟩⟩) 63 ?_ ?_ <;> rfl)
set_option maxRecDepth 200000 in
theorem g_X6_over_J95 (N : Nat) (x3 : Int64) (σ : Wd) : GO cX6_over RX6 6 16 sc0 nI0 nJ0 some (f_X6_over_J95 N x3 σ) 95 (mkp 0 6 [(0, .ref 6), (3, .long x3)]) [] σ := by
  exact (by refine GO.to (md_X6_over N) (kl := []) ((fun _ z => absurd z List.not_mem_nil)) 63 ?_ ?_ <;> rfl)
set_option maxRecDepth 200000 in
theorem g_X6_over_J17 (N : Nat) (x3 : Int64) (σ : Wd) : GO cX6_over RX6 6 16 sc0 nI0 nJ0 some (f_X6_over_J17 N x3 σ) 17 (mkp 0 6 [(0, .ref 6), (1, .ref 4), (2, .ref 5), (3, .long x3)]) [] σ := by
  exact (by refine GO.to (md_X6_over N) (kl := [(41, fun vs st σ => kS0 st (kA 0 6 vs (kA 1 4 vs (kA 2 5 vs (kJ 3 vs (fun x3 => kI 5 vs (fun x5 => f_X6_over_L41 N (f_X6_over_J95 N) N x3 x5 σ)))))))]) (List.forall_mem_cons.mpr ⟨fun vs st σ => go_kS0 (go_kA (fun h0 => go_kA (fun h1 => go_kA (fun h2 => go_kJ (fun x3 h3 => go_kI (fun x5 h5 => GO.pat [(0, .ref 6), (1, .ref 4), (2, .ref 5), (3, .long x3), (5, .int x5)] ⟨h0, h1, h2, h3, h5, trivial⟩ (g_X6_over_L41 N (f_X6_over_J95 N) (g_X6_over_J95 N) N x3 x5 σ))))))), (fun _ z => absurd z List.not_mem_nil)⟩) 63 ?_ ?_ <;> rfl)
set_option maxRecDepth 200000 in
theorem C_X6_over (N : Nat) : CTV 16 yX6_over cX6_over 6 none (a_X6_over N) := by
  refine CTV.of (own := RX6) (by decide) rfl (fun as σ r h => ?_)
  unfold a_X6_over at h
  rcases kSE_s h with ⟨r0, rfl, h0⟩ | hn
  ·
    rcases kSE_s h0 with ⟨r1, rfl, h1⟩ | h0n
    ·
      rcases kSE_s h1 with ⟨r2, rfl, h2⟩ | h1n
      ·
        obtain ⟨b3, r3, rfl, h3⟩ := kSJ_s h2
        obtain ⟨rfl, h9⟩ := kS0_s h3
        exact ⟨Nat.le_of_ble_eq_true rfl, by refine GO.to (md_X6_over N) (kl := [(17, fun vs st σ => kS0 st (kA 0 6 vs (kA 1 4 vs (kA 2 5 vs (kJ 3 vs (fun x3 => f_X6_over_J17 N x3 σ))))))]) (List.forall_mem_cons.mpr ⟨fun vs st σ => go_kS0 (go_kA (fun h0 => go_kA (fun h1 => go_kA (fun h2 => go_kJ (fun x3 h3 => GO.pat [(0, .ref 6), (1, .ref 4), (2, .ref 5), (3, .long x3)] ⟨h0, h1, h2, h3, trivial⟩ (g_X6_over_J17 N x3 σ)))))), (fun _ z => absurd z List.not_mem_nil)⟩) 63 ?_ ?_ <;> rfl⟩
      cases h1n
    cases h0n
  cases hn
def ft_X4 : List (Nat × FTE) := [(9, 3, 0, 2), (15, 3, 5, 0), (19, 3, 6, 0), (22, 3, 7, 0), (25, 3, 1, 0), (28, 3, 2, 0), (31, 3, 3, 0), (34, 3, 4, 1), (47, 1, 6, 0), (52, 1, 5, 0), (55, 1, 7, 0)]
def lt_X4 : List (Nat × Int64) := []
theorem fc_X4 : ft_X4.all (fun e => fldchk RX4 e && shchk e) = true := by decide +kernel
theorem lc_X4 : lt_X4.all (ltchk RX4) = true := by decide +kernel
def T_X4_weigh : List (Nat × Ent) := [(0, .aload_n 2, 1, []), (1, .aload_n 1, 2, []), (2, .invokevirtual 78, 5, []), (5, .aload_n 2, 6, []), (6, .aload_n 1, 7, []), (7, .iconst (-1), 8, []), (8, .invokevirtual 84, 11, []), (11, .istore 5, 13, []), (13, .iload 5, 15, []), (15, .aload_n 0, 16, []), (16, .getfield 22, 19, []), (19, .if_icmp .le 4, 22, [23]), (22, .return_, 23, []), (23, .aload_n 1, 24, []), (24, .invokevirtual 88, 27, []), (27, .aload_n 1, 28, []), (28, .iconst (-1), 29, []), (29, .invokevirtual 91, 32, []), (32, .istore 6, 34, []), (34, .aload_n 0, 35, []), (35, .getfield 25, 38, []), (38, .ifCond .eq 12, 41, [50]), (41, .iload 6, 43, []), (43, .aload_n 0, 44, []), (44, .getfield 28, 47, []), (47, .if_icmp .ge 20, 50, [67]), (50, .aload_n 0, 51, []), (51, .iload 6, 53, []), (53, .putfield 28, 56, []), (56, .aload_n 0, 57, []), (57, .iload 5, 59, []), (59, .putfield 31, 62, []), (62, .aload_n 0, 63, []), (63, .lload_n 3, 64, []), (64, .putfield 34, 67, []), (67, .aload_n 0, 68, []), (68, .dup, 69, []), (69, .getfield 25, 72, []), (72, .iconst 1, 73, []), (73, .iadd, 74, []), (74, .putfield 25, 77, []), (77, .return_, 78, [])]
set_option maxRecDepth 200000 in
theorem tc_X4_weigh : T_X4_weigh.all (chk cX4_weigh) = true := by decide +kernel
def f_X4_weigh_J50 (N : Nat) (x3 : Int64) (x5 : Int32) (x6 : Int32) (σ : Wd) : Option Wd :=
  let σ5 : Wd := sF σ 7 2 x6
  let σ6 : Wd := sF σ5 7 3 x5
  let σ7 : Wd := sG σ6 7 4 x3
  let σ8 : Wd := sF σ7 7 1 ((σ7.1 7 1) + 1)
  some σ8
def f_X4_weigh (N : Nat) (a3 : Int64) (σ : Wd) : Option Wd :=
  (f_X8_come N σ).bind fun σ1 => (f_X8_ofOutcome N (-1) σ1).bind fun p2 => if p2.1 ≤ (p2.2.1 7 7) then ((f_X2_markUsed N p2.2).bind fun σ3 => (f_X2_usedGates N (-1) σ3).bind fun p4 => if (p4.2.1 7 1) = 0 then (f_X4_weigh_J50 N a3 p2.1 p4.1 p4.2) else (if (p4.2.1 7 2) ≤ p4.1 then (let σ9 : Wd := sF p4.2 7 1 ((p4.2.1 7 1) + 1)
  some σ9) else (f_X4_weigh_J50 N a3 p2.1 p4.1 p4.2))) else (some p2.2)
def a_X4_weigh (N : Nat) : List Value → Wd → Option Wd := fun as σ => kSE 7 as (fun r0 => kSE 4 r0 (fun r1 => kSE 5 r1 (fun r2 => kSJ r2 (fun b3 r3 => kS0 r3 (f_X4_weigh N b3 σ))) (none)) (none)) (none)
set_option maxRecDepth 200000 in
theorem k_X4_78 : calchk RX4 78 2 8 yX8_come cX8_come 3 none = true := by decide +kernel
set_option maxRecDepth 200000 in
theorem k_X4_84 : calchk RX4 84 3 8 yX8_ofOutcome cX8_ofOutcome 3 (some .int) = true := by decide +kernel
set_option maxRecDepth 200000 in
theorem k_X4_88 : calchk RX4 88 1 2 yX2_markUsed cX2_markUsed 2 none = true := by decide +kernel
set_option maxRecDepth 200000 in
theorem k_X4_91 : calchk RX4 91 2 2 yX2_usedGates cX2_usedGates 4 (some .int) = true := by decide +kernel
def ct_X4_weigh (N : Nat) : List (Nat × Cal) := [(78, 2, 8, .inr (.inr (a_X8_come N))), (84, 3, 8, .inl (a_X8_ofOutcome N)), (88, 1, 2, .inr (.inr (a_X2_markUsed N))), (91, 2, 2, .inl (a_X2_usedGates N))]
set_option maxRecDepth 200000 in
theorem md_X4_weigh (N : Nat) : MDOK T_X4_weigh ft_X4 lt_X4 (ct_X4_weigh N) cX4_weigh RX4 4 := ⟨tc_X4_weigh, fc_X4, lc_X4, List.forall_mem_cons.mpr ⟨Or.inl ⟨yX8_come, cX8_come, 3, none, 3, k_X4_78, Nat.le_of_ble_eq_true rfl, C_X8_come N⟩, List.forall_mem_cons.mpr ⟨Or.inl ⟨yX8_ofOutcome, cX8_ofOutcome, 3, (some .int), 3, k_X4_84, Nat.le_of_ble_eq_true rfl, C_X8_ofOutcome N⟩, List.forall_mem_cons.mpr ⟨Or.inl ⟨yX2_markUsed, cX2_markUsed, 2, none, 2, k_X4_88, Nat.le_of_ble_eq_true rfl, C_X2_markUsed N⟩, List.forall_mem_cons.mpr ⟨Or.inl ⟨yX2_usedGates, cX2_usedGates, 4, (some .int), 1, k_X4_91, Nat.le_of_ble_eq_true rfl, C_X2_usedGates N⟩, (fun _ z => absurd z List.not_mem_nil)⟩⟩⟩⟩⟩
set_option maxRecDepth 200000 in
theorem g_X4_weigh_J50 (N : Nat) (x3 : Int64) (x5 : Int32) (x6 : Int32) (σ : Wd) : GO cX4_weigh RX4 7 4 sc0 nI0 nJ0 some (f_X4_weigh_J50 N x3 x5 x6 σ) 50 (mkp 0 7 [(0, .ref 7), (3, .long x3), (5, .int x5), (6, .int x6)]) [] σ := by
  exact (by refine GO.to (md_X4_weigh N) (kl := []) ((fun _ z => absurd z List.not_mem_nil)) 47 ?_ ?_ <;> rfl)
set_option maxRecDepth 200000 in
theorem C_X4_weigh (N : Nat) : CTV 4 yX4_weigh cX4_weigh 7 none (a_X4_weigh N) := by
  refine CTV.of (own := RX4) (by decide) rfl (fun as σ r h => ?_)
  unfold a_X4_weigh at h
  rcases kSE_s h with ⟨r0, rfl, h0⟩ | hn
  ·
    rcases kSE_s h0 with ⟨r1, rfl, h1⟩ | h0n
    ·
      rcases kSE_s h1 with ⟨r2, rfl, h2⟩ | h1n
      ·
        obtain ⟨b3, r3, rfl, h3⟩ := kSJ_s h2
        obtain ⟨rfl, h9⟩ := kS0_s h3
        exact ⟨Nat.le_of_ble_eq_true rfl, by refine GO.to (md_X4_weigh N) (kl := [(50, fun vs st σ => kS0 st (kA 0 7 vs (kJ 3 vs (fun x3 => kI 5 vs (fun x5 => kI 6 vs (fun x6 => f_X4_weigh_J50 N x3 x5 x6 σ))))))]) (List.forall_mem_cons.mpr ⟨fun vs st σ => go_kS0 (go_kA (fun h0 => go_kJ (fun x3 h3 => go_kI (fun x5 h5 => go_kI (fun x6 h6 => GO.pat [(0, .ref 7), (3, .long x3), (5, .int x5), (6, .int x6)] ⟨h0, h3, h5, h6, trivial⟩ (g_X4_weigh_J50 N x3 x5 x6 σ)))))), (fun _ z => absurd z List.not_mem_nil)⟩) 47 ?_ ?_ <;> rfl⟩
      cases h1n
    cases h0n
  cases hn
def T_X4_grow : List (Nat × Ent) := [(0, .aload_n 1, 1, []), (1, .getfield 47, 4, []), (4, .aload_n 0, 5, []), (5, .getfield 15, 8, []), (8, .if_icmp .ge 10, 11, [18]), (11, .iload 5, 13, []), (13, .bipush 6, 15, []), (15, .if_icmp .lt 11, 18, [26]), (18, .aload_n 0, 19, []), (19, .aload_n 1, 20, []), (20, .aload_n 2, 21, []), (21, .lload_n 3, 22, []), (22, .invokevirtual 48, 25, []), (25, .return_, 26, []), (26, .aload_n 1, 27, []), (27, .getfield 52, 30, []), (30, .istore 6, 32, []), (32, .aload_n 1, 33, []), (33, .getfield 47, 36, []), (36, .istore 7, 38, []), (38, .aload_n 1, 39, []), (39, .getfield 55, 42, []), (42, .istore 8, 44, []), (44, .iconst 3, 45, []), (45, .aload_n 0, 46, []), (46, .getfield 15, 49, []), (49, .iload 7, 51, []), (51, .isub, 52, []), (52, .invokestatic 58, 55, []), (55, .istore 9, 57, []), (57, .iconst 0, 58, []), (58, .istore 10, 60, []), (60, .iload 10, 62, []), (62, .iconst 3, 63, []), (63, .if_icmp .gt 84, 66, [147]), (66, .aload_n 0, 67, []), (67, .getfield 19, 70, []), (70, .iload 10, 72, []), (72, .ishr, 73, []), (73, .iconst 1, 74, []), (74, .iand, 75, []), (75, .iconst 1, 76, []), (76, .if_icmp .ne 8, 79, [84]), (79, .iload 9, 81, []), (81, .goto 4, 84, [85]), (84, .iconst 0, 85, []), (85, .istore 11, 87, []), (87, .iconst 1, 88, []), (88, .istore 12, 90, []), (90, .iload 12, 92, []), (92, .iload 11, 94, []), (94, .if_icmp .gt 47, 97, [141]), (97, .aload_n 1, 98, []), (98, .iload 10, 100, []), (100, .iload 12, 102, []), (102, .invokevirtual 64, 105, []), (105, .aload_n 0, 106, []), (106, .aload_n 1, 107, []), (107, .aload_n 2, 108, []), (108, .lload_n 3, 109, []), (109, .iload 5, 111, []), (111, .iload 10, 113, []), (113, .iload 12, 115, []), (115, .invokestatic 68, 118, []), (118, .iload 5, 120, []), (120, .iconst 1, 121, []), (121, .iadd, 122, []), (122, .invokestatic 43, 125, []), (125, .aload_n 1, 126, []), (126, .iload 6, 128, []), (128, .iload 7, 130, []), (130, .iload 8, 132, []), (132, .invokevirtual 74, 135, []), (135, .iinc 12 1, 138, []), (138, .goto (-48), 141, [90]), (141, .iinc 10 1, 144, []), (144, .goto (-84), 147, [60]), (147, .return_, 148, [])]
set_option maxRecDepth 200000 in
theorem tc_X4_grow : T_X4_grow.all (chk cX4_grow) = true := by decide +kernel
def f_X4_grow_L90 (N : Nat) (REC : Int64 → Int32 → Wd → Option Wd) (KO141 : Int64 → Int32 → Int32 → Int32 → Int32 → Int32 → Int32 → Wd → Option Wd) : Nat → Int64 → Int32 → Int32 → Int32 → Int32 → Int32 → Int32 → Int32 → Int32 → Wd → Option Wd
  | 0, _, _, _, _, _, _, _, _, _, _ => none
  | n + 1, x3, x5, x6, x7, x8, x9, x10, x11, x12, σ => if x11 < x12 then (KO141 x3 x5 x6 x7 x8 x9 x10 σ) else ((f_X2_lay N x10 x12 σ).bind fun σ3 => (f_X0_with N x3 x5 x10 x12 σ3).bind fun p4 => (REC p4.1 (x5 + 1) p4.2).bind fun σ5 => (f_X2_cutBack N x6 x7 x8 σ5).bind fun σ6 => f_X4_grow_L90 N REC KO141 n x3 x5 x6 x7 x8 x9 x10 x11 (x12 + 1) σ6)
def f_X4_grow_J141 (N : Nat) (REC : Int64 → Int32 → Wd → Option Wd) (KB : Int64 → Int32 → Int32 → Int32 → Int32 → Int32 → Int32 → Wd → Option Wd) (KO147 : Wd → Option Wd) (x3 : Int64) (x5 : Int32) (x6 : Int32) (x7 : Int32) (x8 : Int32) (x9 : Int32) (x10 : Int32) (σ : Wd) : Option Wd :=
  KB x3 x5 x6 x7 x8 x9 (x10 + 1) σ
def f_X4_grow_L60 (N : Nat) (REC : Int64 → Int32 → Wd → Option Wd) (KO147 : Wd → Option Wd) : Nat → Int64 → Int32 → Int32 → Int32 → Int32 → Int32 → Int32 → Wd → Option Wd
  | 0, _, _, _, _, _, _, _, _ => none
  | n + 1, x3, x5, x6, x7, x8, x9, x10, σ => if 3 < x10 then (KO147 σ) else (if (((σ.1 7 6) >>> (x10 &&& 31)) &&& 1) = 1 then (f_X4_grow_L90 N REC (f_X4_grow_J141 N REC (f_X4_grow_L60 N REC KO147 n) KO147) N x3 x5 x6 x7 x8 x9 x10 x9 1 σ) else (f_X4_grow_L90 N REC (f_X4_grow_J141 N REC (f_X4_grow_L60 N REC KO147 n) KO147) N x3 x5 x6 x7 x8 x9 x10 0 1 σ))
def f_X4_grow_J147 (N : Nat) (REC : Int64 → Int32 → Wd → Option Wd) (σ : Wd) : Option Wd :=
  some σ
def f_X4_grow (N : Nat) : Nat → Int64 → Int32 → Wd → Option Wd
  | 0, _, _, _ => none
  | d + 1, a3, a5, σ => if (σ.1 7 5) ≤ (σ.1 4 6) then ((f_X4_weigh N a3 σ).bind fun σ1 => some σ1) else (if a5 < 6 then ((f_J9_min_7cf53 N 3 ((σ.1 7 5) - (σ.1 4 6)) σ).bind fun p2 => f_X4_grow_L60 N (f_X4_grow N d) (f_X4_grow_J147 N (f_X4_grow N d)) N a3 a5 (σ.1 4 5) (σ.1 4 6) (σ.1 4 7) p2.1 0 p2.2) else ((f_X4_weigh N a3 σ).bind fun σ7 => some σ7))
def aR_X4_grow (REC : Int64 → Int32 → Wd → Option Wd) : List Value → Wd → Option Wd := fun as σ => kSE 7 as (fun r0 => kSE 4 r0 (fun r1 => kSE 5 r1 (fun r2 => kSJ r2 (fun b3 r3 => kSI r3 (fun b4 r4 => kS0 r4 (REC b3 b4 σ)))) (none)) (none)) (none)
def a_X4_grow (N d : Nat) : List Value → Wd → Option Wd := aR_X4_grow (f_X4_grow N d)
set_option maxRecDepth 200000 in
theorem k_X4_48 : calchk RX4 48 4 4 yX4_weigh cX4_weigh 7 none = true := by decide +kernel
set_option maxRecDepth 200000 in
theorem k_X4_58 : mmchk RX4 58 Lib.Math.min.name Lib.Math.min.code = true := by decide +kernel
set_option maxRecDepth 200000 in
theorem k_X4_64 : calchk RX4 64 3 2 yX2_lay cX2_lay 6 none = true := by decide +kernel
set_option maxRecDepth 200000 in
theorem k_X4_68 : calchk RX4 68 4 0 yX0_with cX0_with 5 (some .long) = true := by decide +kernel
set_option maxRecDepth 200000 in
theorem k_X4_43 : calchk RX4 43 5 0 yX4_grow cX4_grow 13 none = true := by decide +kernel
set_option maxRecDepth 200000 in
theorem k_X4_74 : calchk RX4 74 4 2 yX2_cutBack cX2_cutBack 5 none = true := by decide +kernel
def ct_X4_grow (N : Nat) (REC : Int64 → Int32 → Wd → Option Wd) : List (Nat × Cal) := [(48, 4, 4, .inr (.inr (a_X4_weigh N))), (58, 2, 0, .inl amin), (64, 3, 2, .inr (.inr (a_X2_lay N))), (68, 4, 0, .inr (.inl (a_X0_with N))), (43, 5, 0, .inr (.inr (aR_X4_grow REC))), (74, 4, 2, .inr (.inr (a_X2_cutBack N)))]
set_option maxRecDepth 200000 in
theorem md_X4_grow (N : Nat) (REC : Int64 → Int32 → Wd → Option Wd) (lv0 : Nat) (hlv : 14 ≤ lv0) (hREC : CTV lv0 yX4_grow cX4_grow 13 none (aR_X4_grow REC)) : MDOK T_X4_grow ft_X4 lt_X4 (ct_X4_grow N REC) cX4_grow RX4 (lv0 + 1) := ⟨tc_X4_grow, fc_X4, lc_X4, List.forall_mem_cons.mpr ⟨Or.inl ⟨yX4_weigh, cX4_weigh, 7, none, 4, k_X4_48, by omega, C_X4_weigh N⟩, List.forall_mem_cons.mpr ⟨Or.inr (Or.inr ⟨rfl, k_X4_58, by omega⟩), List.forall_mem_cons.mpr ⟨Or.inl ⟨yX2_lay, cX2_lay, 6, none, 14, k_X4_64, by omega, C_X2_lay N⟩, List.forall_mem_cons.mpr ⟨Or.inl ⟨yX0_with, cX0_with, 5, (some .long), 1, k_X4_68, by omega, C_X0_with N⟩, List.forall_mem_cons.mpr ⟨Or.inl ⟨yX4_grow, cX4_grow, 13, none, lv0, k_X4_43, Nat.le_refl _, hREC⟩, List.forall_mem_cons.mpr ⟨Or.inl ⟨yX2_cutBack, cX2_cutBack, 5, none, 1, k_X4_74, by omega, C_X2_cutBack N⟩, (fun _ z => absurd z List.not_mem_nil)⟩⟩⟩⟩⟩⟩⟩
set_option maxRecDepth 200000 in
theorem g_X4_grow_L90 (N : Nat) (REC : Int64 → Int32 → Wd → Option Wd) {lv : Nat} (M : MDOK T_X4_grow ft_X4 lt_X4 (ct_X4_grow N REC) cX4_grow RX4 lv) (KO141 : Int64 → Int32 → Int32 → Int32 → Int32 → Int32 → Int32 → Wd → Option Wd) (hKO141 : ∀ (x3 : Int64) (x5 : Int32) (x6 : Int32) (x7 : Int32) (x8 : Int32) (x9 : Int32) (x10 : Int32) (σ : Wd), GO cX4_grow RX4 13 lv sc0 nI0 nJ0 some (KO141 x3 x5 x6 x7 x8 x9 x10 σ) 141 (mkp 0 13 [(0, .ref 7), (1, .ref 4), (2, .ref 5), (3, .long x3), (5, .int x5), (6, .int x6), (7, .int x7), (8, .int x8), (9, .int x9), (10, .int x10)]) [] σ) : ∀ (n : Nat), ∀ (x3 : Int64) (x5 : Int32) (x6 : Int32) (x7 : Int32) (x8 : Int32) (x9 : Int32) (x10 : Int32) (x11 : Int32) (x12 : Int32) (σ : Wd), GO cX4_grow RX4 13 lv sc0 nI0 nJ0 some (f_X4_grow_L90 N REC KO141 n x3 x5 x6 x7 x8 x9 x10 x11 x12 σ) 90 (mkp 0 13 [(0, .ref 7), (1, .ref 4), (2, .ref 5), (3, .long x3), (5, .int x5), (6, .int x6), (7, .int x7), (8, .int x8), (9, .int x9), (10, .int x10), (11, .int x11), (12, .int x12)]) [] σ
  | 0, x3, x5, x6, x7, x8, x9, x10, x11, x12, σ => GO.none
  | n + 1, x3, x5, x6, x7, x8, x9, x10, x11, x12, σ => by
    exact (by refine GO.to M (kl := [(141, fun vs st σ => kS0 st (kA 0 7 vs (kA 1 4 vs (kA 2 5 vs (kJ 3 vs (fun x3 => kI 5 vs (fun x5 => kI 6 vs (fun x6 => kI 7 vs (fun x7 => kI 8 vs (fun x8 => kI 9 vs (fun x9 => kI 10 vs (fun x10 => KO141 x3 x5 x6 x7 x8 x9 x10 σ)))))))))))), (90, fun vs st σ => kS0 st (kA 0 7 vs (kA 1 4 vs (kA 2 5 vs (kJ 3 vs (fun x3 => kI 5 vs (fun x5 => kI 6 vs (fun x6 => kI 7 vs (fun x7 => kI 8 vs (fun x8 => kI 9 vs (fun x9 => kI 10 vs (fun x10 => kI 11 vs (fun x11 => kI 12 vs (fun x12 => f_X4_grow_L90 N REC KO141 n x3 x5 x6 x7 x8 x9 x10 x11 x12 σ))))))))))))))]) (List.forall_mem_cons.mpr ⟨fun vs st σ => go_kS0 (go_kA (fun h0 => go_kA (fun h1 => go_kA (fun h2 => go_kJ (fun x3 h3 => go_kI (fun x5 h5 => go_kI (fun x6 h6 => go_kI (fun x7 h7 => go_kI (fun x8 h8 => go_kI (fun x9 h9 => go_kI (fun x10 h10 => GO.pat [(0, .ref 7), (1, .ref 4), (2, .ref 5), (3, .long x3), (5, .int x5), (6, .int x6), (7, .int x7), (8, .int x8), (9, .int x9), (10, .int x10)] ⟨h0, h1, h2, h3, h5, h6, h7, h8, h9, h10, trivial⟩ (hKO141 x3 x5 x6 x7 x8 x9 x10 σ)))))))))))), List.forall_mem_cons.mpr ⟨fun vs st σ => go_kS0 (go_kA (fun h0 => go_kA (fun h1 => go_kA (fun h2 => go_kJ (fun x3 h3 => go_kI (fun x5 h5 => go_kI (fun x6 h6 => go_kI (fun x7 h7 => go_kI (fun x8 h8 => go_kI (fun x9 h9 => go_kI (fun x10 h10 => go_kI (fun x11 h11 => go_kI (fun x12 h12 => GO.pat [(0, .ref 7), (1, .ref 4), (2, .ref 5), (3, .long x3), (5, .int x5), (6, .int x6), (7, .int x7), (8, .int x8), (9, .int x9), (10, .int x10), (11, .int x11), (12, .int x12)] ⟨h0, h1, h2, h3, h5, h6, h7, h8, h9, h10, h11, h12, trivial⟩ (g_X4_grow_L90 N REC M KO141 hKO141 n x3 x5 x6 x7 x8 x9 x10 x11 x12 σ)))))))))))))), (fun _ z => absurd z List.not_mem_nil)⟩⟩) 83 ?_ ?_ <;> rfl)
set_option maxRecDepth 200000 in
theorem g_X4_grow_J141 (N : Nat) (REC : Int64 → Int32 → Wd → Option Wd) {lv : Nat} (M : MDOK T_X4_grow ft_X4 lt_X4 (ct_X4_grow N REC) cX4_grow RX4 lv) (KB : Int64 → Int32 → Int32 → Int32 → Int32 → Int32 → Int32 → Wd → Option Wd) (hKB : ∀ (x3 : Int64) (x5 : Int32) (x6 : Int32) (x7 : Int32) (x8 : Int32) (x9 : Int32) (x10 : Int32) (σ : Wd), GO cX4_grow RX4 13 lv sc0 nI0 nJ0 some (KB x3 x5 x6 x7 x8 x9 x10 σ) 60 (mkp 0 13 [(0, .ref 7), (1, .ref 4), (2, .ref 5), (3, .long x3), (5, .int x5), (6, .int x6), (7, .int x7), (8, .int x8), (9, .int x9), (10, .int x10)]) [] σ) (KO147 : Wd → Option Wd) (hKO147 : ∀ (σ : Wd), GO cX4_grow RX4 13 lv sc0 nI0 nJ0 some (KO147 σ) 147 (mkp 0 13 []) [] σ) (x3 : Int64) (x5 : Int32) (x6 : Int32) (x7 : Int32) (x8 : Int32) (x9 : Int32) (x10 : Int32) (σ : Wd) : GO cX4_grow RX4 13 lv sc0 nI0 nJ0 some (f_X4_grow_J141 N REC KB KO147 x3 x5 x6 x7 x8 x9 x10 σ) 141 (mkp 0 13 [(0, .ref 7), (1, .ref 4), (2, .ref 5), (3, .long x3), (5, .int x5), (6, .int x6), (7, .int x7), (8, .int x8), (9, .int x9), (10, .int x10)]) [] σ := by
  exact (by refine GO.to M (kl := [(60, fun vs st σ => kS0 st (kA 0 7 vs (kA 1 4 vs (kA 2 5 vs (kJ 3 vs (fun x3 => kI 5 vs (fun x5 => kI 6 vs (fun x6 => kI 7 vs (fun x7 => kI 8 vs (fun x8 => kI 9 vs (fun x9 => kI 10 vs (fun x10 => KB x3 x5 x6 x7 x8 x9 x10 σ))))))))))))]) (List.forall_mem_cons.mpr ⟨fun vs st σ => go_kS0 (go_kA (fun h0 => go_kA (fun h1 => go_kA (fun h2 => go_kJ (fun x3 h3 => go_kI (fun x5 h5 => go_kI (fun x6 h6 => go_kI (fun x7 h7 => go_kI (fun x8 h8 => go_kI (fun x9 h9 => go_kI (fun x10 h10 => GO.pat [(0, .ref 7), (1, .ref 4), (2, .ref 5), (3, .long x3), (5, .int x5), (6, .int x6), (7, .int x7), (8, .int x8), (9, .int x9), (10, .int x10)] ⟨h0, h1, h2, h3, h5, h6, h7, h8, h9, h10, trivial⟩ (hKB x3 x5 x6 x7 x8 x9 x10 σ)))))))))))), (fun _ z => absurd z List.not_mem_nil)⟩) 83 ?_ ?_ <;> rfl)
set_option maxRecDepth 200000 in
theorem g_X4_grow_L60 (N : Nat) (REC : Int64 → Int32 → Wd → Option Wd) {lv : Nat} (M : MDOK T_X4_grow ft_X4 lt_X4 (ct_X4_grow N REC) cX4_grow RX4 lv) (KO147 : Wd → Option Wd) (hKO147 : ∀ (σ : Wd), GO cX4_grow RX4 13 lv sc0 nI0 nJ0 some (KO147 σ) 147 (mkp 0 13 []) [] σ) : ∀ (n : Nat), ∀ (x3 : Int64) (x5 : Int32) (x6 : Int32) (x7 : Int32) (x8 : Int32) (x9 : Int32) (x10 : Int32) (σ : Wd), GO cX4_grow RX4 13 lv sc0 nI0 nJ0 some (f_X4_grow_L60 N REC KO147 n x3 x5 x6 x7 x8 x9 x10 σ) 60 (mkp 0 13 [(0, .ref 7), (1, .ref 4), (2, .ref 5), (3, .long x3), (5, .int x5), (6, .int x6), (7, .int x7), (8, .int x8), (9, .int x9), (10, .int x10)]) [] σ
  | 0, x3, x5, x6, x7, x8, x9, x10, σ => GO.none
  | n + 1, x3, x5, x6, x7, x8, x9, x10, σ => by
    exact (by refine GO.to M (kl := [(147, fun vs st σ => kS0 st (KO147 σ)), (90, fun vs st σ => kS0 st (kA 0 7 vs (kA 1 4 vs (kA 2 5 vs (kJ 3 vs (fun x3 => kI 5 vs (fun x5 => kI 6 vs (fun x6 => kI 7 vs (fun x7 => kI 8 vs (fun x8 => kI 9 vs (fun x9 => kI 10 vs (fun x10 => kI 11 vs (fun x11 => kI 12 vs (fun x12 => f_X4_grow_L90 N REC (f_X4_grow_J141 N REC (f_X4_grow_L60 N REC KO147 n) KO147) N x3 x5 x6 x7 x8 x9 x10 x11 x12 σ))))))))))))))]) (List.forall_mem_cons.mpr ⟨fun vs st σ => go_kS0 (GO.pat [] trivial (hKO147 σ)), List.forall_mem_cons.mpr ⟨fun vs st σ => go_kS0 (go_kA (fun h0 => go_kA (fun h1 => go_kA (fun h2 => go_kJ (fun x3 h3 => go_kI (fun x5 h5 => go_kI (fun x6 h6 => go_kI (fun x7 h7 => go_kI (fun x8 h8 => go_kI (fun x9 h9 => go_kI (fun x10 h10 => go_kI (fun x11 h11 => go_kI (fun x12 h12 => GO.pat [(0, .ref 7), (1, .ref 4), (2, .ref 5), (3, .long x3), (5, .int x5), (6, .int x6), (7, .int x7), (8, .int x8), (9, .int x9), (10, .int x10), (11, .int x11), (12, .int x12)] ⟨h0, h1, h2, h3, h5, h6, h7, h8, h9, h10, h11, h12, trivial⟩ (g_X4_grow_L90 N REC M (f_X4_grow_J141 N REC (f_X4_grow_L60 N REC KO147 n) KO147) (g_X4_grow_J141 N REC M (f_X4_grow_L60 N REC KO147 n) (g_X4_grow_L60 N REC M KO147 hKO147 n) KO147 hKO147) N x3 x5 x6 x7 x8 x9 x10 x11 x12 σ)))))))))))))), (fun _ z => absurd z List.not_mem_nil)⟩⟩) 83 ?_ ?_ <;> rfl)
set_option maxRecDepth 200000 in
theorem g_X4_grow_J147 (N : Nat) (REC : Int64 → Int32 → Wd → Option Wd) {lv : Nat} (M : MDOK T_X4_grow ft_X4 lt_X4 (ct_X4_grow N REC) cX4_grow RX4 lv) (σ : Wd) : GO cX4_grow RX4 13 lv sc0 nI0 nJ0 some (f_X4_grow_J147 N REC σ) 147 (mkp 0 13 []) [] σ := by
  exact (by refine GO.to M (kl := []) ((fun _ z => absurd z List.not_mem_nil)) 83 ?_ ?_ <;> rfl)
set_option maxRecDepth 200000 in
theorem C_X4_grow (N : Nat) : ∀ d : Nat, CTV (15 + d) yX4_grow cX4_grow 13 none (a_X4_grow N d)
  | 0 => by
    refine CTV.of (own := RX4) (by decide) rfl (fun as σ r h => ?_)
    unfold a_X4_grow aR_X4_grow at h
    rcases kSE_s h with ⟨r0, rfl, h0⟩ | hn
    ·
      rcases kSE_s h0 with ⟨r1, rfl, h1⟩ | h0n
      ·
        rcases kSE_s h1 with ⟨r2, rfl, h2⟩ | h1n
        ·
          obtain ⟨b3, r3, rfl, h3⟩ := kSJ_s h2
          obtain ⟨b4, r4, rfl, h4⟩ := kSI_s h3
          obtain ⟨rfl, h9⟩ := kS0_s h4
          exact ⟨Nat.le_of_ble_eq_true rfl, GO.none⟩
        cases h1n
      cases h0n
    cases hn
  | d + 1 => by
    refine CTV.of (own := RX4) (by decide) rfl (fun as σ r h => ?_)
    unfold a_X4_grow aR_X4_grow at h
    rcases kSE_s h with ⟨r0, rfl, h0⟩ | hn
    ·
      rcases kSE_s h0 with ⟨r1, rfl, h1⟩ | h0n
      ·
        rcases kSE_s h1 with ⟨r2, rfl, h2⟩ | h1n
        ·
          obtain ⟨b3, r3, rfl, h3⟩ := kSJ_s h2
          obtain ⟨b4, r4, rfl, h4⟩ := kSI_s h3
          obtain ⟨rfl, h9⟩ := kS0_s h4
          exact ⟨Nat.le_of_ble_eq_true rfl, by refine GO.to (md_X4_grow N (f_X4_grow N d) (15 + d) (by omega) (C_X4_grow N d)) (kl := [(60, fun vs st σ => kS0 st (kA 0 7 vs (kA 1 4 vs (kA 2 5 vs (kJ 3 vs (fun x3 => kI 5 vs (fun x5 => kI 6 vs (fun x6 => kI 7 vs (fun x7 => kI 8 vs (fun x8 => kI 9 vs (fun x9 => kI 10 vs (fun x10 => f_X4_grow_L60 N (f_X4_grow N d) (f_X4_grow_J147 N (f_X4_grow N d)) N x3 x5 x6 x7 x8 x9 x10 σ))))))))))))]) (List.forall_mem_cons.mpr ⟨fun vs st σ => go_kS0 (go_kA (fun h0 => go_kA (fun h1 => go_kA (fun h2 => go_kJ (fun x3 h3 => go_kI (fun x5 h5 => go_kI (fun x6 h6 => go_kI (fun x7 h7 => go_kI (fun x8 h8 => go_kI (fun x9 h9 => go_kI (fun x10 h10 => GO.pat [(0, .ref 7), (1, .ref 4), (2, .ref 5), (3, .long x3), (5, .int x5), (6, .int x6), (7, .int x7), (8, .int x8), (9, .int x9), (10, .int x10)] ⟨h0, h1, h2, h3, h5, h6, h7, h8, h9, h10, trivial⟩ (g_X4_grow_L60 N (f_X4_grow N d) (md_X4_grow N (f_X4_grow N d) (15 + d) (by omega) (C_X4_grow N d)) (f_X4_grow_J147 N (f_X4_grow N d)) (g_X4_grow_J147 N (f_X4_grow N d) (md_X4_grow N (f_X4_grow N d) (15 + d) (by omega) (C_X4_grow N d))) N x3 x5 x6 x7 x8 x9 x10 σ)))))))))))), (fun _ z => absurd z List.not_mem_nil)⟩) 83 ?_ ?_ <;> rfl⟩
        cases h1n
      cases h0n
    cases hn
def T_X4_run : List (Nat × Ent) := [(0, .aload_n 0, 1, []), (1, .getfield 9, 4, []), (4, .ifCond .eq 30, 7, [34]), (7, .aload_n 0, 8, []), (8, .getfield 15, 11, []), (11, .iload_n 3, 12, []), (12, .if_icmp .ne 22, 15, [34]), (15, .aload_n 0, 16, []), (16, .getfield 19, 19, []), (19, .iload 4, 21, []), (21, .if_icmp .ne 13, 24, [34]), (24, .aload_n 0, 25, []), (25, .getfield 22, 28, []), (28, .iload 5, 30, []), (30, .if_icmp .ne 4, 33, [34]), (33, .return_, 34, []), (34, .aload_n 0, 35, []), (35, .iload_n 3, 36, []), (36, .putfield 15, 39, []), (39, .aload_n 0, 40, []), (40, .iload 4, 42, []), (42, .putfield 19, 45, []), (45, .aload_n 0, 46, []), (46, .iload 5, 48, []), (48, .putfield 22, 51, []), (51, .aload_n 0, 52, []), (52, .iconst 0, 53, []), (53, .putfield 25, 56, []), (56, .aload_n 0, 57, []), (57, .iconst 0, 58, []), (58, .putfield 28, 61, []), (61, .aload_n 0, 62, []), (62, .iconst 0, 63, []), (63, .putfield 31, 66, []), (66, .aload_n 0, 67, []), (67, .lconst 0, 68, []), (68, .putfield 34, 71, []), (71, .aload_n 1, 72, []), (72, .invokevirtual 38, 75, []), (75, .aload_n 0, 76, []), (76, .aload_n 1, 77, []), (77, .aload_n 2, 78, []), (78, .lconst 0, 79, []), (79, .iconst 0, 80, []), (80, .invokestatic 43, 83, []), (83, .aload_n 0, 84, []), (84, .iconst 1, 85, []), (85, .putfield 9, 88, []), (88, .return_, 89, [])]
set_option maxRecDepth 200000 in
theorem tc_X4_run : T_X4_run.all (chk cX4_run) = true := by decide +kernel
def f_X4_run_J34 (N : Nat) (x3 : Int32) (x4 : Int32) (x5 : Int32) (σ : Wd) : Option Wd :=
  let σ1 : Wd := sF σ 7 5 x3
  let σ2 : Wd := sF σ1 7 6 x4
  let σ3 : Wd := sF σ2 7 7 x5
  let σ4 : Wd := sF σ3 7 1 0
  let σ5 : Wd := sF σ4 7 2 0
  let σ6 : Wd := sF σ5 7 3 0
  let σ7 : Wd := sG σ6 7 4 0
  (f_X2_clear N σ7).bind fun σ8 => (f_X4_grow N 9 0 0 σ8).bind fun σ9 => let σ10 : Wd := sF σ9 7 0 1
  some σ10
def f_X4_run (N : Nat) (a3 : Int32) (a4 : Int32) (a5 : Int32) (σ : Wd) : Option Wd :=
  if (σ.1 7 0) = 0 then (f_X4_run_J34 N a3 a4 a5 σ) else (if (σ.1 7 5) = a3 then (if (σ.1 7 6) = a4 then (if (σ.1 7 7) = a5 then (some σ) else (f_X4_run_J34 N a3 a4 a5 σ)) else (f_X4_run_J34 N a3 a4 a5 σ)) else (f_X4_run_J34 N a3 a4 a5 σ))
def a_X4_run (N : Nat) : List Value → Wd → Option Wd := fun as σ => kSE 7 as (fun r0 => kSE 4 r0 (fun r1 => kSE 5 r1 (fun r2 => kSI r2 (fun b3 r3 => kSI r3 (fun b4 r4 => kSI r4 (fun b5 r5 => kS0 r5 (f_X4_run N b3 b4 b5 σ))))) (none)) (none)) (none)
set_option maxRecDepth 200000 in
theorem k_X4_38 : calchk RX4 38 1 2 yX2_clear cX2_clear 2 none = true := by decide +kernel
def ct_X4_run (N : Nat) : List (Nat × Cal) := [(38, 1, 2, .inr (.inr (a_X2_clear N))), (43, 5, 0, .inr (.inr (a_X4_grow N 9)))]
set_option maxRecDepth 200000 in
theorem md_X4_run (N : Nat) : MDOK T_X4_run ft_X4 lt_X4 (ct_X4_run N) cX4_run RX4 25 := ⟨tc_X4_run, fc_X4, lc_X4, List.forall_mem_cons.mpr ⟨Or.inl ⟨yX2_clear, cX2_clear, 2, none, 1, k_X4_38, Nat.le_of_ble_eq_true rfl, C_X2_clear N⟩, List.forall_mem_cons.mpr ⟨Or.inl ⟨yX4_grow, cX4_grow, 13, none, 24, k_X4_43, Nat.le_of_ble_eq_true rfl, C_X4_grow N 9⟩, (fun _ z => absurd z List.not_mem_nil)⟩⟩⟩
set_option maxRecDepth 200000 in
theorem g_X4_run_J34 (N : Nat) (x3 : Int32) (x4 : Int32) (x5 : Int32) (σ : Wd) : GO cX4_run RX4 6 25 sc0 nI0 nJ0 some (f_X4_run_J34 N x3 x4 x5 σ) 34 (mkp 0 6 [(0, .ref 7), (1, .ref 4), (2, .ref 5), (3, .int x3), (4, .int x4), (5, .int x5)]) [] σ := by
  exact (by refine GO.to (md_X4_run N) (kl := []) ((fun _ z => absurd z List.not_mem_nil)) 54 ?_ ?_ <;> rfl)
set_option maxRecDepth 200000 in
theorem C_X4_run (N : Nat) : CTV 25 yX4_run cX4_run 6 none (a_X4_run N) := by
  refine CTV.of (own := RX4) (by decide) rfl (fun as σ r h => ?_)
  unfold a_X4_run at h
  rcases kSE_s h with ⟨r0, rfl, h0⟩ | hn
  ·
    rcases kSE_s h0 with ⟨r1, rfl, h1⟩ | h0n
    ·
      rcases kSE_s h1 with ⟨r2, rfl, h2⟩ | h1n
      ·
        obtain ⟨b3, r3, rfl, h3⟩ := kSI_s h2
        obtain ⟨b4, r4, rfl, h4⟩ := kSI_s h3
        obtain ⟨b5, r5, rfl, h5⟩ := kSI_s h4
        obtain ⟨rfl, h9⟩ := kS0_s h5
        exact ⟨Nat.le_of_ble_eq_true rfl, by refine GO.to (md_X4_run N) (kl := [(34, fun vs st σ => kS0 st (kA 0 7 vs (kA 1 4 vs (kA 2 5 vs (kI 3 vs (fun x3 => kI 4 vs (fun x4 => kI 5 vs (fun x5 => f_X4_run_J34 N x3 x4 x5 σ))))))))]) (List.forall_mem_cons.mpr ⟨fun vs st σ => go_kS0 (go_kA (fun h0 => go_kA (fun h1 => go_kA (fun h2 => go_kI (fun x3 h3 => go_kI (fun x4 h4 => go_kI (fun x5 h5 => GO.pat [(0, .ref 7), (1, .ref 4), (2, .ref 5), (3, .int x3), (4, .int x4), (5, .int x5)] ⟨h0, h1, h2, h3, h4, h5, trivial⟩ (g_X4_run_J34 N x3 x4 x5 σ)))))))), (fun _ z => absurd z List.not_mem_nil)⟩) 54 ?_ ?_ <;> rfl⟩
      cases h1n
    cases h0n
  cases hn
end
section
def ft_X9 : List (Nat × FTE) := [(12, 8, 0, 3), (21, 8, 1, 3), (28, 8, 2, 3), (35, 8, 3, 3), (42, 8, 4, 3), (49, 8, 5, 3), (56, 8, 6, 3), (62, 8, 7, 3), (67, 8, 8, 3), (75, 6, 1, 0), (90, 6, 2, 1), (111, 2, 2, 0), (114, 2, 1, 3), (132, 2, 0, 3), (136, 7, 0, 3), (146, 7, 1, 3), (223, 3, 1, 0), (226, 3, 2, 0), (229, 3, 3, 0), (232, 3, 4, 1), (248, 4, 1, 0), (254, 4, 3, 1), (267, 4, 2, 0), (270, 4, 0, 3), (273, 1, 6, 0), (281, 0, 1, 0), (291, 5, 0, 2), (295, 3, 0, 2)]
def lt_X9 : List (Nat × Int64) := [(241, -9223372036854775808), (243, 2)]
theorem fc_X9 : ft_X9.all (fun e => fldchk RX9 e && shchk e) = true := by decide +kernel
theorem lc_X9 : lt_X9.all (ltchk RX9) = true := by decide +kernel
def T_X9_runs : List (Nat × Ent) := [(0, .iload_n 1, 1, []), (1, .iconst 1, 2, []), (2, .if_icmp .lt 19, 5, [21]), (5, .iload_n 1, 6, []), (6, .bipush 12, 8, []), (8, .if_icmp .gt 13, 11, [21]), (11, .iload_n 2, 12, []), (12, .ifCond .lt 9, 15, [21]), (15, .iload_n 2, 16, []), (16, .bipush 12, 18, []), (18, .if_icmp .le 7, 21, [25]), (21, .ldc2_w 241, 24, []), (24, .lreturn, 25, []), (25, .lconst 1, 26, []), (26, .lstore_n 3, 27, []), (27, .iconst 0, 28, []), (28, .istore 5, 30, []), (30, .iload 5, 32, []), (32, .iload_n 2, 33, []), (33, .if_icmp .gt 17, 36, [50]), (36, .aload_n 0, 37, []), (37, .getfield 67, 40, []), (40, .iload 5, 42, []), (42, .lconst 0, 43, []), (43, .lastore, 44, []), (44, .iinc 5 1, 47, []), (47, .goto (-17), 50, [30]), (50, .iconst 0, 51, []), (51, .istore 5, 53, []), (53, .iload 5, 55, []), (55, .iload_n 1, 56, []), (56, .if_icmp .ge 90, 59, [146]), (59, .lload_n 3, 60, []), (60, .lstore 6, 62, []), (62, .iconst 0, 63, []), (63, .istore 8, 65, []), (65, .iload 8, 67, []), (67, .iload_n 2, 68, []), (68, .if_icmp .gt 21, 71, [89]), (71, .lload 6, 73, []), (73, .aload_n 0, 74, []), (74, .getfield 67, 77, []), (77, .iload 8, 79, []), (79, .laload, 80, []), (80, .ladd, 81, []), (81, .lstore 6, 83, []), (83, .iinc 8 1, 86, []), (86, .goto (-21), 89, [65]), (89, .iload_n 2, 90, []), (90, .istore 8, 92, []), (92, .iload 8, 94, []), (94, .ifCond .le 29, 97, [123]), (97, .aload_n 0, 98, []), (98, .getfield 67, 101, []), (101, .iload 8, 103, []), (103, .ldc2_w 243, 106, []), (106, .aload_n 0, 107, []), (107, .getfield 67, 110, []), (110, .iload 8, 112, []), (112, .iconst 1, 113, []), (113, .isub, 114, []), (114, .laload, 115, []), (115, .lmul, 116, []), (116, .lastore, 117, []), (117, .iinc 8 (-1), 120, []), (120, .goto (-28), 123, [92]), (123, .aload_n 0, 124, []), (124, .getfield 67, 127, []), (127, .iconst 0, 128, []), (128, .lload 6, 130, []), (130, .lastore, 131, []), (131, .lload 6, 133, []), (133, .ldc2_w 243, 136, []), (136, .lload_n 3, 137, []), (137, .lmul, 138, []), (138, .ladd, 139, []), (139, .lstore_n 3, 140, []), (140, .iinc 5 1, 143, []), (143, .goto (-90), 146, [53]), (146, .lload_n 3, 147, []), (147, .lstore 5, 149, []), (149, .iconst 0, 150, []), (150, .istore 7, 152, []), (152, .iload 7, 154, []), (154, .iload_n 2, 155, []), (155, .if_icmp .gt 21, 158, [176]), (158, .lload 5, 160, []), (160, .aload_n 0, 161, []), (161, .getfield 67, 164, []), (164, .iload 7, 166, []), (166, .laload, 167, []), (167, .ladd, 168, []), (168, .lstore 5, 170, []), (170, .iinc 7 1, 173, []), (173, .goto (-21), 176, [152]), (176, .lload 5, 178, []), (178, .lreturn, 179, [])]
set_option maxRecDepth 200000 in
theorem tc_X9_runs : T_X9_runs.all (chk cX9_runs) = true := by decide +kernel
def f_X9_runs_L30 (N : Nat) (KO50 : Int32 → Int32 → Int64 → Wd → Option (Int64 × Wd)) : Nat → Int32 → Int32 → Int64 → Int32 → Wd → Option (Int64 × Wd)
  | 0, _, _, _, _, _ => none
  | n + 1, x1, x2, x3, x5, σ => if x2 < x5 then (KO50 x1 x2 x3 σ) else ((xstL σ 13 13 x5 0).bind fun σ1 => f_X9_runs_L30 N KO50 n x1 x2 x3 (x5 + 1) σ1)
def f_X9_runs_L65 (N : Nat) (KO89 : Int32 → Int32 → Int64 → Int32 → Int64 → Wd → Option (Int64 × Wd)) : Nat → Int32 → Int32 → Int64 → Int32 → Int64 → Int32 → Wd → Option (Int64 × Wd)
  | 0, _, _, _, _, _, _, _ => none
  | n + 1, x1, x2, x3, x5, x6, x8, σ => if x2 < x8 then (KO89 x1 x2 x3 x5 x6 σ) else ((xldL σ 13 13 x8).bind fun v2 => f_X9_runs_L65 N KO89 n x1 x2 x3 x5 (x6 + v2) (x8 + 1) σ)
def f_X9_runs_L92 (N : Nat) (KO123 : Int32 → Int32 → Int64 → Int32 → Int64 → Wd → Option (Int64 × Wd)) : Nat → Int32 → Int32 → Int64 → Int32 → Int64 → Int32 → Wd → Option (Int64 × Wd)
  | 0, _, _, _, _, _, _, _ => none
  | n + 1, x1, x2, x3, x5, x6, x8, σ => if x8 ≤ 0 then (KO123 x1 x2 x3 x5 x6 σ) else ((xldL σ 13 13 (x8 - 1)).bind fun v3 => (xstL σ 13 13 x8 (2 * v3)).bind fun σ4 => f_X9_runs_L92 N KO123 n x1 x2 x3 x5 x6 (x8 + (-1)) σ4)
def f_X9_runs_J123 (N : Nat) (KB : Int32 → Int32 → Int64 → Int32 → Wd → Option (Int64 × Wd)) (KO146 : Int32 → Int64 → Wd → Option (Int64 × Wd)) (x1 : Int32) (x2 : Int32) (x3 : Int64) (x5 : Int32) (x6 : Int64) (σ : Wd) : Option (Int64 × Wd) :=
  (xstL σ 13 13 0 x6).bind fun σ5 => KB x1 x2 (x6 + (2 * x3)) (x5 + 1) σ5
def f_X9_runs_J89 (N : Nat) (KB : Int32 → Int32 → Int64 → Int32 → Wd → Option (Int64 × Wd)) (KO146 : Int32 → Int64 → Wd → Option (Int64 × Wd)) (x1 : Int32) (x2 : Int32) (x3 : Int64) (x5 : Int32) (x6 : Int64) (σ : Wd) : Option (Int64 × Wd) :=
  f_X9_runs_L92 N (f_X9_runs_J123 N KB KO146) N x1 x2 x3 x5 x6 x2 σ
def f_X9_runs_L53 (N : Nat) (KO146 : Int32 → Int64 → Wd → Option (Int64 × Wd)) : Nat → Int32 → Int32 → Int64 → Int32 → Wd → Option (Int64 × Wd)
  | 0, _, _, _, _, _ => none
  | n + 1, x1, x2, x3, x5, σ => if x1 ≤ x5 then (KO146 x2 x3 σ) else (f_X9_runs_L65 N (f_X9_runs_J89 N (f_X9_runs_L53 N KO146 n) KO146) N x1 x2 x3 x5 x3 0 σ)
def f_X9_runs_L152 (N : Nat) (KO176 : Int64 → Wd → Option (Int64 × Wd)) : Nat → Int32 → Int64 → Int32 → Wd → Option (Int64 × Wd)
  | 0, _, _, _, _ => none
  | n + 1, x2, x5, x7, σ => if x2 < x7 then (KO176 x5 σ) else ((xldL σ 13 13 x7).bind fun v6 => f_X9_runs_L152 N KO176 n x2 (x5 + v6) (x7 + 1) σ)
def f_X9_runs_J176 (N : Nat) (x5 : Int64) (σ : Wd) : Option (Int64 × Wd) :=
  some (x5, σ)
def f_X9_runs_J146 (N : Nat) (x2 : Int32) (x3 : Int64) (σ : Wd) : Option (Int64 × Wd) :=
  f_X9_runs_L152 N (f_X9_runs_J176 N) N x2 x3 0 σ
def f_X9_runs_J50 (N : Nat) (x1 : Int32) (x2 : Int32) (x3 : Int64) (σ : Wd) : Option (Int64 × Wd) :=
  f_X9_runs_L53 N (f_X9_runs_J146 N) N x1 x2 x3 0 σ
def f_X9_runs (N : Nat) (a1 : Int32) (a2 : Int32) (σ : Wd) : Option (Int64 × Wd) :=
  if a1 < 1 then (some ((-9223372036854775808), σ)) else (if 12 < a1 then (some ((-9223372036854775808), σ)) else (if a2 < 0 then (some ((-9223372036854775808), σ)) else (if a2 ≤ 12 then (f_X9_runs_L30 N (f_X9_runs_J50 N) N a1 a2 1 0 σ) else (some ((-9223372036854775808), σ)))))
def a_X9_runs (N : Nat) : List Value → Wd → Option (Int64 × Wd) := fun as σ => kSE 0 as (fun r0 => kSI r0 (fun b1 r1 => kSI r1 (fun b2 r2 => kS0 r2 (f_X9_runs N b1 b2 σ)))) (none)
def ct_X9_runs (N : Nat) : List (Nat × Cal) := []
set_option maxRecDepth 200000 in
theorem md_X9_runs (N : Nat) : MDOK T_X9_runs ft_X9 lt_X9 (ct_X9_runs N) cX9_runs RX9 1 := ⟨tc_X9_runs, fc_X9, lc_X9, (fun _ z => absurd z List.not_mem_nil)⟩
set_option maxRecDepth 200000 in
theorem g_X9_runs_L30 (N : Nat) (KO50 : Int32 → Int32 → Int64 → Wd → Option (Int64 × Wd)) (hKO50 : ∀ (x1 : Int32) (x2 : Int32) (x3 : Int64) (σ : Wd), GO cX9_runs RX9 9 1 sc0 nI0 rJ nV0 (KO50 x1 x2 x3 σ) 50 (mkp 0 9 [(0, .ref 0), (1, .int x1), (2, .int x2), (3, .long x3)]) [] σ) : ∀ (n : Nat), ∀ (x1 : Int32) (x2 : Int32) (x3 : Int64) (x5 : Int32) (σ : Wd), GO cX9_runs RX9 9 1 sc0 nI0 rJ nV0 (f_X9_runs_L30 N KO50 n x1 x2 x3 x5 σ) 30 (mkp 0 9 [(0, .ref 0), (1, .int x1), (2, .int x2), (3, .long x3), (5, .int x5)]) [] σ
  | 0, x1, x2, x3, x5, σ => GO.none
  | n + 1, x1, x2, x3, x5, σ => by
    exact (by refine GO.to (md_X9_runs N) (kl := [(50, fun vs st σ => kS0 st (kA 0 0 vs (kI 1 vs (fun x1 => kI 2 vs (fun x2 => kJ 3 vs (fun x3 => KO50 x1 x2 x3 σ)))))), (30, fun vs st σ => kS0 st (kA 0 0 vs (kI 1 vs (fun x1 => kI 2 vs (fun x2 => kJ 3 vs (fun x3 => kI 5 vs (fun x5 => f_X9_runs_L30 N KO50 n x1 x2 x3 x5 σ)))))))]) (List.forall_mem_cons.mpr ⟨fun vs st σ => go_kS0 (go_kA (fun h0 => go_kI (fun x1 h1 => go_kI (fun x2 h2 => go_kJ (fun x3 h3 => GO.pat [(0, .ref 0), (1, .int x1), (2, .int x2), (3, .long x3)] ⟨h0, h1, h2, h3, trivial⟩ (hKO50 x1 x2 x3 σ)))))), List.forall_mem_cons.mpr ⟨fun vs st σ => go_kS0 (go_kA (fun h0 => go_kI (fun x1 h1 => go_kI (fun x2 h2 => go_kJ (fun x3 h3 => go_kI (fun x5 h5 => GO.pat [(0, .ref 0), (1, .int x1), (2, .int x2), (3, .long x3), (5, .int x5)] ⟨h0, h1, h2, h3, h5, trivial⟩ (g_X9_runs_L30 N KO50 hKO50 n x1 x2 x3 x5 σ))))))), (fun _ z => absurd z List.not_mem_nil)⟩⟩) 102 ?_ ?_ <;> rfl)
set_option maxRecDepth 200000 in
theorem g_X9_runs_L65 (N : Nat) (KO89 : Int32 → Int32 → Int64 → Int32 → Int64 → Wd → Option (Int64 × Wd)) (hKO89 : ∀ (x1 : Int32) (x2 : Int32) (x3 : Int64) (x5 : Int32) (x6 : Int64) (σ : Wd), GO cX9_runs RX9 9 1 sc0 nI0 rJ nV0 (KO89 x1 x2 x3 x5 x6 σ) 89 (mkp 0 9 [(0, .ref 0), (1, .int x1), (2, .int x2), (3, .long x3), (5, .int x5), (6, .long x6)]) [] σ) : ∀ (n : Nat), ∀ (x1 : Int32) (x2 : Int32) (x3 : Int64) (x5 : Int32) (x6 : Int64) (x8 : Int32) (σ : Wd), GO cX9_runs RX9 9 1 sc0 nI0 rJ nV0 (f_X9_runs_L65 N KO89 n x1 x2 x3 x5 x6 x8 σ) 65 (mkp 0 9 [(0, .ref 0), (1, .int x1), (2, .int x2), (3, .long x3), (5, .int x5), (6, .long x6), (8, .int x8)]) [] σ
  | 0, x1, x2, x3, x5, x6, x8, σ => GO.none
  | n + 1, x1, x2, x3, x5, x6, x8, σ => by
    exact (by refine GO.to (md_X9_runs N) (kl := [(89, fun vs st σ => kS0 st (kA 0 0 vs (kI 1 vs (fun x1 => kI 2 vs (fun x2 => kJ 3 vs (fun x3 => kI 5 vs (fun x5 => kJ 6 vs (fun x6 => KO89 x1 x2 x3 x5 x6 σ)))))))), (65, fun vs st σ => kS0 st (kA 0 0 vs (kI 1 vs (fun x1 => kI 2 vs (fun x2 => kJ 3 vs (fun x3 => kI 5 vs (fun x5 => kJ 6 vs (fun x6 => kI 8 vs (fun x8 => f_X9_runs_L65 N KO89 n x1 x2 x3 x5 x6 x8 σ)))))))))]) (List.forall_mem_cons.mpr ⟨fun vs st σ => go_kS0 (go_kA (fun h0 => go_kI (fun x1 h1 => go_kI (fun x2 h2 => go_kJ (fun x3 h3 => go_kI (fun x5 h5 => go_kJ (fun x6 h6 => GO.pat [(0, .ref 0), (1, .int x1), (2, .int x2), (3, .long x3), (5, .int x5), (6, .long x6)] ⟨h0, h1, h2, h3, h5, h6, trivial⟩ (hKO89 x1 x2 x3 x5 x6 σ)))))))), List.forall_mem_cons.mpr ⟨fun vs st σ => go_kS0 (go_kA (fun h0 => go_kI (fun x1 h1 => go_kI (fun x2 h2 => go_kJ (fun x3 h3 => go_kI (fun x5 h5 => go_kJ (fun x6 h6 => go_kI (fun x8 h8 => GO.pat [(0, .ref 0), (1, .int x1), (2, .int x2), (3, .long x3), (5, .int x5), (6, .long x6), (8, .int x8)] ⟨h0, h1, h2, h3, h5, h6, h8, trivial⟩ (g_X9_runs_L65 N KO89 hKO89 n x1 x2 x3 x5 x6 x8 σ))))))))), (fun _ z => absurd z List.not_mem_nil)⟩⟩) 102 ?_ ?_ <;> rfl)
set_option maxRecDepth 200000 in
theorem g_X9_runs_L92 (N : Nat) (KO123 : Int32 → Int32 → Int64 → Int32 → Int64 → Wd → Option (Int64 × Wd)) (hKO123 : ∀ (x1 : Int32) (x2 : Int32) (x3 : Int64) (x5 : Int32) (x6 : Int64) (σ : Wd), GO cX9_runs RX9 9 1 sc0 nI0 rJ nV0 (KO123 x1 x2 x3 x5 x6 σ) 123 (mkp 0 9 [(0, .ref 0), (1, .int x1), (2, .int x2), (3, .long x3), (5, .int x5), (6, .long x6)]) [] σ) : ∀ (n : Nat), ∀ (x1 : Int32) (x2 : Int32) (x3 : Int64) (x5 : Int32) (x6 : Int64) (x8 : Int32) (σ : Wd), GO cX9_runs RX9 9 1 sc0 nI0 rJ nV0 (f_X9_runs_L92 N KO123 n x1 x2 x3 x5 x6 x8 σ) 92 (mkp 0 9 [(0, .ref 0), (1, .int x1), (2, .int x2), (3, .long x3), (5, .int x5), (6, .long x6), (8, .int x8)]) [] σ
  | 0, x1, x2, x3, x5, x6, x8, σ => GO.none
  | n + 1, x1, x2, x3, x5, x6, x8, σ => by
    exact (by refine GO.to (md_X9_runs N) (kl := [(123, fun vs st σ => kS0 st (kA 0 0 vs (kI 1 vs (fun x1 => kI 2 vs (fun x2 => kJ 3 vs (fun x3 => kI 5 vs (fun x5 => kJ 6 vs (fun x6 => KO123 x1 x2 x3 x5 x6 σ)))))))), (92, fun vs st σ => kS0 st (kA 0 0 vs (kI 1 vs (fun x1 => kI 2 vs (fun x2 => kJ 3 vs (fun x3 => kI 5 vs (fun x5 => kJ 6 vs (fun x6 => kI 8 vs (fun x8 => f_X9_runs_L92 N KO123 n x1 x2 x3 x5 x6 x8 σ)))))))))]) (List.forall_mem_cons.mpr ⟨fun vs st σ => go_kS0 (go_kA (fun h0 => go_kI (fun x1 h1 => go_kI (fun x2 h2 => go_kJ (fun x3 h3 => go_kI (fun x5 h5 => go_kJ (fun x6 h6 => GO.pat [(0, .ref 0), (1, .int x1), (2, .int x2), (3, .long x3), (5, .int x5), (6, .long x6)] ⟨h0, h1, h2, h3, h5, h6, trivial⟩ (hKO123 x1 x2 x3 x5 x6 σ)))))))), List.forall_mem_cons.mpr ⟨fun vs st σ => go_kS0 (go_kA (fun h0 => go_kI (fun x1 h1 => go_kI (fun x2 h2 => go_kJ (fun x3 h3 => go_kI (fun x5 h5 => go_kJ (fun x6 h6 => go_kI (fun x8 h8 => GO.pat [(0, .ref 0), (1, .int x1), (2, .int x2), (3, .long x3), (5, .int x5), (6, .long x6), (8, .int x8)] ⟨h0, h1, h2, h3, h5, h6, h8, trivial⟩ (g_X9_runs_L92 N KO123 hKO123 n x1 x2 x3 x5 x6 x8 σ))))))))), (fun _ z => absurd z List.not_mem_nil)⟩⟩) 102 ?_ ?_ <;> rfl)
set_option maxRecDepth 200000 in
theorem g_X9_runs_J123 (N : Nat) (KB : Int32 → Int32 → Int64 → Int32 → Wd → Option (Int64 × Wd)) (hKB : ∀ (x1 : Int32) (x2 : Int32) (x3 : Int64) (x5 : Int32) (σ : Wd), GO cX9_runs RX9 9 1 sc0 nI0 rJ nV0 (KB x1 x2 x3 x5 σ) 53 (mkp 0 9 [(0, .ref 0), (1, .int x1), (2, .int x2), (3, .long x3), (5, .int x5)]) [] σ) (KO146 : Int32 → Int64 → Wd → Option (Int64 × Wd)) (hKO146 : ∀ (x2 : Int32) (x3 : Int64) (σ : Wd), GO cX9_runs RX9 9 1 sc0 nI0 rJ nV0 (KO146 x2 x3 σ) 146 (mkp 0 9 [(0, .ref 0), (2, .int x2), (3, .long x3)]) [] σ) (x1 : Int32) (x2 : Int32) (x3 : Int64) (x5 : Int32) (x6 : Int64) (σ : Wd) : GO cX9_runs RX9 9 1 sc0 nI0 rJ nV0 (f_X9_runs_J123 N KB KO146 x1 x2 x3 x5 x6 σ) 123 (mkp 0 9 [(0, .ref 0), (1, .int x1), (2, .int x2), (3, .long x3), (5, .int x5), (6, .long x6)]) [] σ := by
  exact (by refine GO.to (md_X9_runs N) (kl := [(53, fun vs st σ => kS0 st (kA 0 0 vs (kI 1 vs (fun x1 => kI 2 vs (fun x2 => kJ 3 vs (fun x3 => kI 5 vs (fun x5 => KB x1 x2 x3 x5 σ)))))))]) (List.forall_mem_cons.mpr ⟨fun vs st σ => go_kS0 (go_kA (fun h0 => go_kI (fun x1 h1 => go_kI (fun x2 h2 => go_kJ (fun x3 h3 => go_kI (fun x5 h5 => GO.pat [(0, .ref 0), (1, .int x1), (2, .int x2), (3, .long x3), (5, .int x5)] ⟨h0, h1, h2, h3, h5, trivial⟩ (hKB x1 x2 x3 x5 σ))))))), (fun _ z => absurd z List.not_mem_nil)⟩) 102 ?_ ?_ <;> rfl)
set_option maxRecDepth 200000 in
theorem g_X9_runs_J89 (N : Nat) (KB : Int32 → Int32 → Int64 → Int32 → Wd → Option (Int64 × Wd)) (hKB : ∀ (x1 : Int32) (x2 : Int32) (x3 : Int64) (x5 : Int32) (σ : Wd), GO cX9_runs RX9 9 1 sc0 nI0 rJ nV0 (KB x1 x2 x3 x5 σ) 53 (mkp 0 9 [(0, .ref 0), (1, .int x1), (2, .int x2), (3, .long x3), (5, .int x5)]) [] σ) (KO146 : Int32 → Int64 → Wd → Option (Int64 × Wd)) (hKO146 : ∀ (x2 : Int32) (x3 : Int64) (σ : Wd), GO cX9_runs RX9 9 1 sc0 nI0 rJ nV0 (KO146 x2 x3 σ) 146 (mkp 0 9 [(0, .ref 0), (2, .int x2), (3, .long x3)]) [] σ) (x1 : Int32) (x2 : Int32) (x3 : Int64) (x5 : Int32) (x6 : Int64) (σ : Wd) : GO cX9_runs RX9 9 1 sc0 nI0 rJ nV0 (f_X9_runs_J89 N KB KO146 x1 x2 x3 x5 x6 σ) 89 (mkp 0 9 [(0, .ref 0), (1, .int x1), (2, .int x2), (3, .long x3), (5, .int x5), (6, .long x6)]) [] σ := by
  exact (by refine GO.to (md_X9_runs N) (kl := [(92, fun vs st σ => kS0 st (kA 0 0 vs (kI 1 vs (fun x1 => kI 2 vs (fun x2 => kJ 3 vs (fun x3 => kI 5 vs (fun x5 => kJ 6 vs (fun x6 => kI 8 vs (fun x8 => f_X9_runs_L92 N (f_X9_runs_J123 N KB KO146) N x1 x2 x3 x5 x6 x8 σ)))))))))]) (List.forall_mem_cons.mpr ⟨fun vs st σ => go_kS0 (go_kA (fun h0 => go_kI (fun x1 h1 => go_kI (fun x2 h2 => go_kJ (fun x3 h3 => go_kI (fun x5 h5 => go_kJ (fun x6 h6 => go_kI (fun x8 h8 => GO.pat [(0, .ref 0), (1, .int x1), (2, .int x2), (3, .long x3), (5, .int x5), (6, .long x6), (8, .int x8)] ⟨h0, h1, h2, h3, h5, h6, h8, trivial⟩ (g_X9_runs_L92 N (f_X9_runs_J123 N KB KO146) (g_X9_runs_J123 N KB hKB KO146 hKO146) N x1 x2 x3 x5 x6 x8 σ))))))))), (fun _ z => absurd z List.not_mem_nil)⟩) 102 ?_ ?_ <;> rfl)
set_option maxRecDepth 200000 in
theorem g_X9_runs_L53 (N : Nat) (KO146 : Int32 → Int64 → Wd → Option (Int64 × Wd)) (hKO146 : ∀ (x2 : Int32) (x3 : Int64) (σ : Wd), GO cX9_runs RX9 9 1 sc0 nI0 rJ nV0 (KO146 x2 x3 σ) 146 (mkp 0 9 [(0, .ref 0), (2, .int x2), (3, .long x3)]) [] σ) : ∀ (n : Nat), ∀ (x1 : Int32) (x2 : Int32) (x3 : Int64) (x5 : Int32) (σ : Wd), GO cX9_runs RX9 9 1 sc0 nI0 rJ nV0 (f_X9_runs_L53 N KO146 n x1 x2 x3 x5 σ) 53 (mkp 0 9 [(0, .ref 0), (1, .int x1), (2, .int x2), (3, .long x3), (5, .int x5)]) [] σ
  | 0, x1, x2, x3, x5, σ => GO.none
  | n + 1, x1, x2, x3, x5, σ => by
    exact (by refine GO.to (md_X9_runs N) (kl := [(146, fun vs st σ => kS0 st (kA 0 0 vs (kI 2 vs (fun x2 => kJ 3 vs (fun x3 => KO146 x2 x3 σ))))), (65, fun vs st σ => kS0 st (kA 0 0 vs (kI 1 vs (fun x1 => kI 2 vs (fun x2 => kJ 3 vs (fun x3 => kI 5 vs (fun x5 => kJ 6 vs (fun x6 => kI 8 vs (fun x8 => f_X9_runs_L65 N (f_X9_runs_J89 N (f_X9_runs_L53 N KO146 n) KO146) N x1 x2 x3 x5 x6 x8 σ)))))))))]) (List.forall_mem_cons.mpr ⟨fun vs st σ => go_kS0 (go_kA (fun h0 => go_kI (fun x2 h2 => go_kJ (fun x3 h3 => GO.pat [(0, .ref 0), (2, .int x2), (3, .long x3)] ⟨h0, h2, h3, trivial⟩ (hKO146 x2 x3 σ))))), List.forall_mem_cons.mpr ⟨fun vs st σ => go_kS0 (go_kA (fun h0 => go_kI (fun x1 h1 => go_kI (fun x2 h2 => go_kJ (fun x3 h3 => go_kI (fun x5 h5 => go_kJ (fun x6 h6 => go_kI (fun x8 h8 => GO.pat [(0, .ref 0), (1, .int x1), (2, .int x2), (3, .long x3), (5, .int x5), (6, .long x6), (8, .int x8)] ⟨h0, h1, h2, h3, h5, h6, h8, trivial⟩ (g_X9_runs_L65 N (f_X9_runs_J89 N (f_X9_runs_L53 N KO146 n) KO146) (g_X9_runs_J89 N (f_X9_runs_L53 N KO146 n) (g_X9_runs_L53 N KO146 hKO146 n) KO146 hKO146) N x1 x2 x3 x5 x6 x8 σ))))))))), (fun _ z => absurd z List.not_mem_nil)⟩⟩) 102 ?_ ?_ <;> rfl)
set_option maxRecDepth 200000 in
theorem g_X9_runs_L152 (N : Nat) (KO176 : Int64 → Wd → Option (Int64 × Wd)) (hKO176 : ∀ (x5 : Int64) (σ : Wd), GO cX9_runs RX9 9 1 sc0 nI0 rJ nV0 (KO176 x5 σ) 176 (mkp 0 9 [(5, .long x5)]) [] σ) : ∀ (n : Nat), ∀ (x2 : Int32) (x5 : Int64) (x7 : Int32) (σ : Wd), GO cX9_runs RX9 9 1 sc0 nI0 rJ nV0 (f_X9_runs_L152 N KO176 n x2 x5 x7 σ) 152 (mkp 0 9 [(0, .ref 0), (2, .int x2), (5, .long x5), (7, .int x7)]) [] σ
  | 0, x2, x5, x7, σ => GO.none
  | n + 1, x2, x5, x7, σ => by
    exact (by refine GO.to (md_X9_runs N) (kl := [(176, fun vs st σ => kS0 st (kJ 5 vs (fun x5 => KO176 x5 σ))), (152, fun vs st σ => kS0 st (kA 0 0 vs (kI 2 vs (fun x2 => kJ 5 vs (fun x5 => kI 7 vs (fun x7 => f_X9_runs_L152 N KO176 n x2 x5 x7 σ))))))]) (List.forall_mem_cons.mpr ⟨fun vs st σ => go_kS0 (go_kJ (fun x5 h5 => GO.pat [(5, .long x5)] ⟨h5, trivial⟩ (hKO176 x5 σ))), List.forall_mem_cons.mpr ⟨fun vs st σ => go_kS0 (go_kA (fun h0 => go_kI (fun x2 h2 => go_kJ (fun x5 h5 => go_kI (fun x7 h7 => GO.pat [(0, .ref 0), (2, .int x2), (5, .long x5), (7, .int x7)] ⟨h0, h2, h5, h7, trivial⟩ (g_X9_runs_L152 N KO176 hKO176 n x2 x5 x7 σ)))))), (fun _ z => absurd z List.not_mem_nil)⟩⟩) 102 ?_ ?_ <;> rfl)
set_option maxRecDepth 200000 in
theorem g_X9_runs_J176 (N : Nat) (x5 : Int64) (σ : Wd) : GO cX9_runs RX9 9 1 sc0 nI0 rJ nV0 (f_X9_runs_J176 N x5 σ) 176 (mkp 0 9 [(5, .long x5)]) [] σ := by
  exact (by refine GO.to (md_X9_runs N) (kl := []) ((fun _ z => absurd z List.not_mem_nil)) 102 ?_ ?_ <;> rfl)
set_option maxRecDepth 200000 in
theorem g_X9_runs_J146 (N : Nat) (x2 : Int32) (x3 : Int64) (σ : Wd) : GO cX9_runs RX9 9 1 sc0 nI0 rJ nV0 (f_X9_runs_J146 N x2 x3 σ) 146 (mkp 0 9 [(0, .ref 0), (2, .int x2), (3, .long x3)]) [] σ := by
  exact (by refine GO.to (md_X9_runs N) (kl := [(152, fun vs st σ => kS0 st (kA 0 0 vs (kI 2 vs (fun x2 => kJ 5 vs (fun x5 => kI 7 vs (fun x7 => f_X9_runs_L152 N (f_X9_runs_J176 N) N x2 x5 x7 σ))))))]) (List.forall_mem_cons.mpr ⟨fun vs st σ => go_kS0 (go_kA (fun h0 => go_kI (fun x2 h2 => go_kJ (fun x5 h5 => go_kI (fun x7 h7 => GO.pat [(0, .ref 0), (2, .int x2), (5, .long x5), (7, .int x7)] ⟨h0, h2, h5, h7, trivial⟩ (g_X9_runs_L152 N (f_X9_runs_J176 N) (g_X9_runs_J176 N) N x2 x5 x7 σ)))))), (fun _ z => absurd z List.not_mem_nil)⟩) 102 ?_ ?_ <;> rfl)
set_option maxRecDepth 200000 in
theorem g_X9_runs_J50 (N : Nat) (x1 : Int32) (x2 : Int32) (x3 : Int64) (σ : Wd) : GO cX9_runs RX9 9 1 sc0 nI0 rJ nV0 (f_X9_runs_J50 N x1 x2 x3 σ) 50 (mkp 0 9 [(0, .ref 0), (1, .int x1), (2, .int x2), (3, .long x3)]) [] σ := by
  exact (by refine GO.to (md_X9_runs N) (kl := [(53, fun vs st σ => kS0 st (kA 0 0 vs (kI 1 vs (fun x1 => kI 2 vs (fun x2 => kJ 3 vs (fun x3 => kI 5 vs (fun x5 => f_X9_runs_L53 N (f_X9_runs_J146 N) N x1 x2 x3 x5 σ)))))))]) (List.forall_mem_cons.mpr ⟨fun vs st σ => go_kS0 (go_kA (fun h0 => go_kI (fun x1 h1 => go_kI (fun x2 h2 => go_kJ (fun x3 h3 => go_kI (fun x5 h5 => GO.pat [(0, .ref 0), (1, .int x1), (2, .int x2), (3, .long x3), (5, .int x5)] ⟨h0, h1, h2, h3, h5, trivial⟩ (g_X9_runs_L53 N (f_X9_runs_J146 N) (g_X9_runs_J146 N) N x1 x2 x3 x5 σ))))))), (fun _ z => absurd z List.not_mem_nil)⟩) 102 ?_ ?_ <;> rfl)
set_option maxRecDepth 200000 in
theorem C_X9_runs (N : Nat) : CTL 1 yX9_runs cX9_runs 9 (some .long) (a_X9_runs N) := by
  refine CTL.of (own := RX9) (by decide) rfl (fun as σ r h => ?_)
  unfold a_X9_runs at h
  rcases kSE_s h with ⟨r0, rfl, h0⟩ | hn
  ·
    obtain ⟨b1, r1, rfl, h1⟩ := kSI_s h0
    obtain ⟨b2, r2, rfl, h2⟩ := kSI_s h1
    obtain ⟨rfl, h9⟩ := kS0_s h2
    exact ⟨Nat.le_of_ble_eq_true rfl, by refine GO.to (md_X9_runs N) (kl := [(30, fun vs st σ => kS0 st (kA 0 0 vs (kI 1 vs (fun x1 => kI 2 vs (fun x2 => kJ 3 vs (fun x3 => kI 5 vs (fun x5 => f_X9_runs_L30 N (f_X9_runs_J50 N) N x1 x2 x3 x5 σ)))))))]) (List.forall_mem_cons.mpr ⟨fun vs st σ => go_kS0 (go_kA (fun h0 => go_kI (fun x1 h1 => go_kI (fun x2 h2 => go_kJ (fun x3 h3 => go_kI (fun x5 h5 => GO.pat [(0, .ref 0), (1, .int x1), (2, .int x2), (3, .long x3), (5, .int x5)] ⟨h0, h1, h2, h3, h5, trivial⟩ (g_X9_runs_L30 N (f_X9_runs_J50 N) (g_X9_runs_J50 N) N x1 x2 x3 x5 σ))))))), (fun _ z => absurd z List.not_mem_nil)⟩) 102 ?_ ?_ <;> rfl⟩
  cases hn
def T_X9_timesHaveChanged : List (Nat × Ent) := [(0, .aload_n 0, 1, []), (1, .getfield 28, 4, []), (4, .iconst 0, 5, []), (5, .putfield 281, 8, []), (8, .aload_n 0, 9, []), (9, .getfield 49, 12, []), (12, .iconst 0, 13, []), (13, .putfield 291, 16, []), (16, .aload_n 0, 17, []), (17, .getfield 56, 20, []), (20, .iconst 0, 21, []), (21, .putfield 295, 24, []), (24, .return_, 25, [])]
set_option maxRecDepth 200000 in
theorem tc_X9_timesHaveChanged : T_X9_timesHaveChanged.all (chk cX9_timesHaveChanged) = true := by decide +kernel
def f_X9_timesHaveChanged (N : Nat) (σ : Wd) : Option Wd :=
  let σ1 : Wd := sF σ 3 1 0
  let σ2 : Wd := sF σ1 6 0 0
  let σ3 : Wd := sF σ2 7 0 0
  some σ3
def a_X9_timesHaveChanged (N : Nat) : List Value → Wd → Option Wd := fun as σ => kSE 0 as (fun r0 => kS0 r0 (f_X9_timesHaveChanged N σ)) (none)
def ct_X9_timesHaveChanged (N : Nat) : List (Nat × Cal) := []
set_option maxRecDepth 200000 in
theorem md_X9_timesHaveChanged (N : Nat) : MDOK T_X9_timesHaveChanged ft_X9 lt_X9 (ct_X9_timesHaveChanged N) cX9_timesHaveChanged RX9 1 := ⟨tc_X9_timesHaveChanged, fc_X9, lc_X9, (fun _ z => absurd z List.not_mem_nil)⟩
set_option maxRecDepth 200000 in
theorem C_X9_timesHaveChanged (N : Nat) : CTV 1 yX9_timesHaveChanged cX9_timesHaveChanged 1 none (a_X9_timesHaveChanged N) := by
  refine CTV.of (own := RX9) (by decide) rfl (fun as σ r h => ?_)
  unfold a_X9_timesHaveChanged at h
  rcases kSE_s h with ⟨r0, rfl, h0⟩ | hn
  ·
    obtain ⟨rfl, h9⟩ := kS0_s h0
    exact ⟨Nat.le_of_ble_eq_true rfl, by refine GO.to (md_X9_timesHaveChanged N) (kl := []) ((fun _ z => absurd z List.not_mem_nil)) 18 ?_ ?_ <;> rfl⟩
  cases hn
def T_X9_filledShelves : List (Nat × Ent) := [(0, .iconst 0, 1, []), (1, .istore_n 1, 2, []), (2, .iconst 0, 3, []), (3, .istore_n 2, 4, []), (4, .iload_n 2, 5, []), (5, .iconst 4, 6, []), (6, .if_icmp .ge 25, 9, [31]), (9, .aload_n 0, 10, []), (10, .getfield 62, 13, []), (13, .iload_n 2, 14, []), (14, .aaload, 15, []), (15, .getfield 248, 18, []), (18, .iconst (-1), 19, []), (19, .if_icmp .eq 6, 22, [25]), (22, .iinc 1 1, 25, []), (25, .iinc 2 1, 28, []), (28, .goto (-24), 31, [4]), (31, .iload_n 1, 32, []), (32, .ireturn, 33, [])]
set_option maxRecDepth 200000 in
theorem tc_X9_filledShelves : T_X9_filledShelves.all (chk cX9_filledShelves) = true := by decide +kernel
def f_X9_filledShelves_L4 (N : Nat) (KO31 : Int32 → Wd → Option (Int32 × Wd)) : Nat → Int32 → Int32 → Wd → Option (Int32 × Wd)
  | 0, _, _, _ => none
  | n + 1, x1, x2, σ => if 4 ≤ x2 then (KO31 x1 σ) else (xsh x2 fun k1 => if (σ.1 k1 1) = (-1) then (f_X9_filledShelves_L4 N KO31 n x1 (x2 + 1) σ) else (f_X9_filledShelves_L4 N KO31 n (x1 + 1) (x2 + 1) σ))
def f_X9_filledShelves_J31 (N : Nat) (x1 : Int32) (σ : Wd) : Option (Int32 × Wd) :=
  some (x1, σ)
def f_X9_filledShelves (N : Nat) (σ : Wd) : Option (Int32 × Wd) :=
  f_X9_filledShelves_L4 N (f_X9_filledShelves_J31 N) N 0 0 σ
def a_X9_filledShelves (N : Nat) : List Value → Wd → Option (Int32 × Wd) := fun as σ => kSE 0 as (fun r0 => kS0 r0 (f_X9_filledShelves N σ)) (none)
def ct_X9_filledShelves (N : Nat) : List (Nat × Cal) := []
set_option maxRecDepth 200000 in
theorem md_X9_filledShelves (N : Nat) : MDOK T_X9_filledShelves ft_X9 lt_X9 (ct_X9_filledShelves N) cX9_filledShelves RX9 1 := ⟨tc_X9_filledShelves, fc_X9, lc_X9, (fun _ z => absurd z List.not_mem_nil)⟩
set_option maxRecDepth 200000 in
theorem g_X9_filledShelves_L4 (N : Nat) (KO31 : Int32 → Wd → Option (Int32 × Wd)) (hKO31 : ∀ (x1 : Int32) (σ : Wd), GO cX9_filledShelves RX9 3 1 sc0 rI nJ0 nV0 (KO31 x1 σ) 31 (mkp 0 3 [(1, .int x1)]) [] σ) : ∀ (n : Nat), ∀ (x1 : Int32) (x2 : Int32) (σ : Wd), GO cX9_filledShelves RX9 3 1 sc0 rI nJ0 nV0 (f_X9_filledShelves_L4 N KO31 n x1 x2 σ) 4 (mkp 0 3 [(0, .ref 0), (1, .int x1), (2, .int x2)]) [] σ
  | 0, x1, x2, σ => GO.none
  | n + 1, x1, x2, σ => by
    exact (by refine GO.to (md_X9_filledShelves N) (kl := [(31, fun vs st σ => kS0 st (kI 1 vs (fun x1 => KO31 x1 σ))), (4, fun vs st σ => kS0 st (kA 0 0 vs (kI 1 vs (fun x1 => kI 2 vs (fun x2 => f_X9_filledShelves_L4 N KO31 n x1 x2 σ)))))]) (List.forall_mem_cons.mpr ⟨fun vs st σ => go_kS0 (go_kI (fun x1 h1 => GO.pat [(1, .int x1)] ⟨h1, trivial⟩ (hKO31 x1 σ))), List.forall_mem_cons.mpr ⟨fun vs st σ => go_kS0 (go_kA (fun h0 => go_kI (fun x1 h1 => go_kI (fun x2 h2 => GO.pat [(0, .ref 0), (1, .int x1), (2, .int x2)] ⟨h0, h1, h2, trivial⟩ (g_X9_filledShelves_L4 N KO31 hKO31 n x1 x2 σ))))), (fun _ z => absurd z List.not_mem_nil)⟩⟩) 24 ?_ ?_ <;> rfl)
set_option maxRecDepth 200000 in
theorem g_X9_filledShelves_J31 (N : Nat) (x1 : Int32) (σ : Wd) : GO cX9_filledShelves RX9 3 1 sc0 rI nJ0 nV0 (f_X9_filledShelves_J31 N x1 σ) 31 (mkp 0 3 [(1, .int x1)]) [] σ := by
  exact (by refine GO.to (md_X9_filledShelves N) (kl := []) ((fun _ z => absurd z List.not_mem_nil)) 24 ?_ ?_ <;> rfl)
set_option maxRecDepth 200000 in
theorem C_X9_filledShelves (N : Nat) : CTI 1 yX9_filledShelves cX9_filledShelves 3 (some .int) (a_X9_filledShelves N) := by
  refine CTI.of (own := RX9) (by decide) rfl (fun as σ r h => ?_)
  unfold a_X9_filledShelves at h
  rcases kSE_s h with ⟨r0, rfl, h0⟩ | hn
  ·
    obtain ⟨rfl, h9⟩ := kS0_s h0
    exact ⟨Nat.le_of_ble_eq_true rfl, by refine GO.to (md_X9_filledShelves N) (kl := [(4, fun vs st σ => kS0 st (kA 0 0 vs (kI 1 vs (fun x1 => kI 2 vs (fun x2 => f_X9_filledShelves_L4 N (f_X9_filledShelves_J31 N) N x1 x2 σ)))))]) (List.forall_mem_cons.mpr ⟨fun vs st σ => go_kS0 (go_kA (fun h0 => go_kI (fun x1 h1 => go_kI (fun x2 h2 => GO.pat [(0, .ref 0), (1, .int x1), (2, .int x2)] ⟨h0, h1, h2, trivial⟩ (g_X9_filledShelves_L4 N (f_X9_filledShelves_J31 N) (g_X9_filledShelves_J31 N) N x1 x2 σ))))), (fun _ z => absurd z List.not_mem_nil)⟩) 24 ?_ ?_ <;> rfl⟩
  cases hn
def T_X9_isInput : List (Nat × Ent) := [(0, .iload_n 0, 1, []), (1, .iconst 2, 2, []), (2, .if_icmp .ne 13, 5, [15]), (5, .iload_n 1, 6, []), (6, .ifCond .ne 7, 9, [13]), (9, .iconst 1, 10, []), (10, .goto 4, 13, [14]), (13, .iconst 0, 14, []), (14, .ireturn, 15, []), (15, .iload_n 0, 16, []), (16, .ifCond .lt 22, 19, [38]), (19, .iload_n 0, 20, []), (20, .iconst 2, 21, []), (21, .if_icmp .ge 17, 24, [38]), (24, .iload_n 1, 25, []), (25, .ifCond .lt 13, 28, [38]), (28, .iload_n 1, 29, []), (29, .bipush 12, 31, []), (31, .if_icmp .ge 7, 34, [38]), (34, .iconst 1, 35, []), (35, .goto 4, 38, [39]), (38, .iconst 0, 39, []), (39, .ireturn, 40, [])]
set_option maxRecDepth 200000 in
theorem tc_X9_isInput : T_X9_isInput.all (chk cX9_isInput) = true := by decide +kernel
def f_X9_isInput (N : Nat) (a0 : Int32) (a1 : Int32) (σ : Wd) : Option (Int32 × Wd) :=
  if a0 = 2 then (if a1 = 0 then (some (1, σ)) else (some (0, σ))) else (if a0 < 0 then (some (0, σ)) else (if 2 ≤ a0 then (some (0, σ)) else (if a1 < 0 then (some (0, σ)) else (if 12 ≤ a1 then (some (0, σ)) else (some (1, σ))))))
def a_X9_isInput (N : Nat) : List Value → Wd → Option (Int32 × Wd) := fun as σ => kSI as (fun b0 r0 => kSI r0 (fun b1 r1 => kS0 r1 (f_X9_isInput N b0 b1 σ)))
def ct_X9_isInput (N : Nat) : List (Nat × Cal) := []
set_option maxRecDepth 200000 in
theorem md_X9_isInput (N : Nat) : MDOK T_X9_isInput ft_X9 lt_X9 (ct_X9_isInput N) cX9_isInput RX9 1 := ⟨tc_X9_isInput, fc_X9, lc_X9, (fun _ z => absurd z List.not_mem_nil)⟩
set_option maxRecDepth 200000 in
theorem C_X9_isInput (N : Nat) : CTI 1 yX9_isInput cX9_isInput 2 (some .boolean) (a_X9_isInput N) := by
  refine CTZ.of (own := RX9) (by decide) rfl (fun as σ r h => ?_)
  unfold a_X9_isInput at h
  obtain ⟨b0, r0, rfl, h0⟩ := kSI_s h
  obtain ⟨b1, r1, rfl, h1⟩ := kSI_s h0
  obtain ⟨rfl, h9⟩ := kS0_s h1
  exact ⟨Nat.le_of_ble_eq_true rfl, by refine GO.to (md_X9_isInput N) (kl := []) ((fun _ z => absurd z List.not_mem_nil)) 28 ?_ ?_ <;> rfl⟩
def T_X9_areNumbers : List (Nat × Ent) := [(0, .iconst 1, 1, []), (1, .iload_n 3, 2, []), (2, .ishl, 3, []), (3, .istore 4, 5, []), (5, .iload_n 0, 6, []), (6, .ifCond .lt 32, 9, [38]), (9, .iload_n 0, 10, []), (10, .iload 4, 12, []), (12, .if_icmp .ge 26, 15, [38]), (15, .iload_n 1, 16, []), (16, .ifCond .lt 22, 19, [38]), (19, .iload_n 1, 20, []), (20, .iload 4, 22, []), (22, .if_icmp .ge 16, 25, [38]), (25, .iload_n 2, 26, []), (26, .ifCond .lt 12, 29, [38]), (29, .iload_n 2, 30, []), (30, .iconst 1, 31, []), (31, .if_icmp .gt 7, 34, [38]), (34, .iconst 1, 35, []), (35, .goto 4, 38, [39]), (38, .iconst 0, 39, []), (39, .ireturn, 40, [])]
set_option maxRecDepth 200000 in
theorem tc_X9_areNumbers : T_X9_areNumbers.all (chk cX9_areNumbers) = true := by decide +kernel
def f_X9_areNumbers (N : Nat) (a0 : Int32) (a1 : Int32) (a2 : Int32) (a3 : Int32) (σ : Wd) : Option (Int32 × Wd) :=
  if a0 < 0 then (some (0, σ)) else (if (1 <<< (a3 &&& 31)) ≤ a0 then (some (0, σ)) else (if a1 < 0 then (some (0, σ)) else (if (1 <<< (a3 &&& 31)) ≤ a1 then (some (0, σ)) else (if a2 < 0 then (some (0, σ)) else (if 1 < a2 then (some (0, σ)) else (some (1, σ)))))))
def a_X9_areNumbers (N : Nat) : List Value → Wd → Option (Int32 × Wd) := fun as σ => kSI as (fun b0 r0 => kSI r0 (fun b1 r1 => kSI r1 (fun b2 r2 => kSI r2 (fun b3 r3 => kS0 r3 (f_X9_areNumbers N b0 b1 b2 b3 σ)))))
def ct_X9_areNumbers (N : Nat) : List (Nat × Cal) := []
set_option maxRecDepth 200000 in
theorem md_X9_areNumbers (N : Nat) : MDOK T_X9_areNumbers ft_X9 lt_X9 (ct_X9_areNumbers N) cX9_areNumbers RX9 1 := ⟨tc_X9_areNumbers, fc_X9, lc_X9, (fun _ z => absurd z List.not_mem_nil)⟩
set_option maxRecDepth 200000 in
theorem C_X9_areNumbers (N : Nat) : CTI 1 yX9_areNumbers cX9_areNumbers 5 (some .boolean) (a_X9_areNumbers N) := by
  refine CTZ.of (own := RX9) (by decide) rfl (fun as σ r h => ?_)
  unfold a_X9_areNumbers at h
  obtain ⟨b0, r0, rfl, h0⟩ := kSI_s h
  obtain ⟨b1, r1, rfl, h1⟩ := kSI_s h0
  obtain ⟨b2, r2, rfl, h2⟩ := kSI_s h1
  obtain ⟨b3, r3, rfl, h3⟩ := kSI_s h2
  obtain ⟨rfl, h9⟩ := kS0_s h3
  exact ⟨Nat.le_of_ble_eq_true rfl, by refine GO.to (md_X9_areNumbers N) (kl := []) ((fun _ z => absurd z List.not_mem_nil)) 28 ?_ ?_ <;> rfl⟩
def T_X9_isShelf : List (Nat × Ent) := [(0, .iload_n 0, 1, []), (1, .ifCond .lt 12, 4, [13]), (4, .iload_n 0, 5, []), (5, .iconst 4, 6, []), (6, .if_icmp .ge 7, 9, [13]), (9, .iconst 1, 10, []), (10, .goto 4, 13, [14]), (13, .iconst 0, 14, []), (14, .ireturn, 15, [])]
set_option maxRecDepth 200000 in
theorem tc_X9_isShelf : T_X9_isShelf.all (chk cX9_isShelf) = true := by decide +kernel
def f_X9_isShelf (N : Nat) (a0 : Int32) (σ : Wd) : Option (Int32 × Wd) :=
  if a0 < 0 then (some (0, σ)) else (if 4 ≤ a0 then (some (0, σ)) else (some (1, σ)))
def a_X9_isShelf (N : Nat) : List Value → Wd → Option (Int32 × Wd) := fun as σ => kSI as (fun b0 r0 => kS0 r0 (f_X9_isShelf N b0 σ))
def ct_X9_isShelf (N : Nat) : List (Nat × Cal) := []
set_option maxRecDepth 200000 in
theorem md_X9_isShelf (N : Nat) : MDOK T_X9_isShelf ft_X9 lt_X9 (ct_X9_isShelf N) cX9_isShelf RX9 1 := ⟨tc_X9_isShelf, fc_X9, lc_X9, (fun _ z => absurd z List.not_mem_nil)⟩
set_option maxRecDepth 200000 in
theorem C_X9_isShelf (N : Nat) : CTI 1 yX9_isShelf cX9_isShelf 1 (some .boolean) (a_X9_isShelf N) := by
  refine CTZ.of (own := RX9) (by decide) rfl (fun as σ r h => ?_)
  unfold a_X9_isShelf at h
  obtain ⟨b0, r0, rfl, h0⟩ := kSI_s h
  obtain ⟨rfl, h9⟩ := kS0_s h0
  exact ⟨Nat.le_of_ble_eq_true rfl, by refine GO.to (md_X9_isShelf N) (kl := []) ((fun _ z => absurd z List.not_mem_nil)) 14 ?_ ?_ <;> rfl⟩
def T_X9_feed : List (Nat × Ent) := [(0, .iload_n 1, 1, []), (1, .bipush 32, 3, []), (3, .if_icmp .lt 9, 6, [12]), (6, .iload_n 1, 7, []), (7, .bipush 126, 9, []), (9, .if_icmp .le 5, 12, [14]), (12, .iconst (-1), 13, []), (13, .ireturn, 14, []), (14, .aload_n 0, 15, []), (15, .getfield 12, 18, []), (18, .iload_n 1, 19, []), (19, .invokevirtual 71, 22, []), (22, .ifCond .eq 13, 25, [35]), (25, .aload_n 0, 26, []), (26, .getfield 12, 29, []), (29, .getfield 75, 32, []), (32, .goto 5, 35, [37]), (35, .bipush (-3), 37, []), (37, .ireturn, 38, [])]
set_option maxRecDepth 200000 in
theorem tc_X9_feed : T_X9_feed.all (chk cX9_feed) = true := by decide +kernel
def f_X9_feed (N : Nat) (a1 : Int32) (σ : Wd) : Option (Int32 × Wd) :=
  if a1 < 32 then (some ((-1), σ)) else (if a1 ≤ 126 then ((f_X7_append N a1 σ).bind fun p1 => if p1.1 = 0 then (some ((-3), p1.2)) else (some (p1.2.1 1 1, p1.2))) else (some ((-1), σ)))
def a_X9_feed (N : Nat) : List Value → Wd → Option (Int32 × Wd) := fun as σ => kSE 0 as (fun r0 => kSI r0 (fun b1 r1 => kS0 r1 (f_X9_feed N b1 σ))) (none)
set_option maxRecDepth 200000 in
theorem k_X9_71 : calchk RX9 71 2 7 yX7_append cX7_append 2 (some .boolean) = true := by decide +kernel
def ct_X9_feed (N : Nat) : List (Nat × Cal) := [(71, 2, 7, .inl (a_X7_append N))]
set_option maxRecDepth 200000 in
theorem md_X9_feed (N : Nat) : MDOK T_X9_feed ft_X9 lt_X9 (ct_X9_feed N) cX9_feed RX9 2 := ⟨tc_X9_feed, fc_X9, lc_X9, List.forall_mem_cons.mpr ⟨Or.inl ⟨yX7_append, cX7_append, 2, (some .boolean), 1, k_X9_71, Nat.le_of_ble_eq_true rfl, C_X7_append N⟩, (fun _ z => absurd z List.not_mem_nil)⟩⟩
set_option maxRecDepth 200000 in
theorem C_X9_feed (N : Nat) : CTI 2 yX9_feed cX9_feed 2 (some .int) (a_X9_feed N) := by
  refine CTI.of (own := RX9) (by decide) rfl (fun as σ r h => ?_)
  unfold a_X9_feed at h
  rcases kSE_s h with ⟨r0, rfl, h0⟩ | hn
  ·
    obtain ⟨b1, r1, rfl, h1⟩ := kSI_s h0
    obtain ⟨rfl, h9⟩ := kS0_s h1
    exact ⟨Nat.le_of_ble_eq_true rfl, by refine GO.to (md_X9_feed N) (kl := []) ((fun _ z => absurd z List.not_mem_nil)) 24 ?_ ?_ <;> rfl⟩
  cases hn
def T_X9_forget : List (Nat × Ent) := [(0, .aload_n 0, 1, []), (1, .getfield 21, 4, []), (4, .iload_n 1, 5, []), (5, .invokevirtual 104, 8, []), (8, .ifCond .ne 5, 11, [13]), (11, .iconst (-1), 12, []), (12, .ireturn, 13, []), (13, .aload_n 0, 14, []), (14, .getfield 21, 17, []), (17, .iload_n 1, 18, []), (18, .invokevirtual 107, 21, []), (21, .aload_n 0, 22, []), (22, .getfield 21, 25, []), (25, .getfield 111, 28, []), (28, .ireturn, 29, [])]
set_option maxRecDepth 200000 in
theorem tc_X9_forget : T_X9_forget.all (chk cX9_forget) = true := by decide +kernel
def f_X9_forget (N : Nat) (a1 : Int32) (σ : Wd) : Option (Int32 × Wd) :=
  (f_X3_has N a1 σ).bind fun p1 => if p1.1 = 0 then (some ((-1), p1.2)) else ((f_X3_remove N a1 p1.2).bind fun σ2 => some (σ2.1 2 2, σ2))
def a_X9_forget (N : Nat) : List Value → Wd → Option (Int32 × Wd) := fun as σ => kSE 0 as (fun r0 => kSI r0 (fun b1 r1 => kS0 r1 (f_X9_forget N b1 σ))) (none)
set_option maxRecDepth 200000 in
theorem k_X9_104 : calchk RX9 104 2 3 yX3_has cX3_has 2 (some .boolean) = true := by decide +kernel
set_option maxRecDepth 200000 in
theorem k_X9_107 : calchk RX9 107 2 3 yX3_remove cX3_remove 3 none = true := by decide +kernel
def ct_X9_forget (N : Nat) : List (Nat × Cal) := [(104, 2, 3, .inl (a_X3_has N)), (107, 2, 3, .inr (.inr (a_X3_remove N)))]
set_option maxRecDepth 200000 in
theorem md_X9_forget (N : Nat) : MDOK T_X9_forget ft_X9 lt_X9 (ct_X9_forget N) cX9_forget RX9 2 := ⟨tc_X9_forget, fc_X9, lc_X9, List.forall_mem_cons.mpr ⟨Or.inl ⟨yX3_has, cX3_has, 2, (some .boolean), 1, k_X9_104, Nat.le_of_ble_eq_true rfl, C_X3_has N⟩, List.forall_mem_cons.mpr ⟨Or.inl ⟨yX3_remove, cX3_remove, 3, none, 1, k_X9_107, Nat.le_of_ble_eq_true rfl, C_X3_remove N⟩, (fun _ z => absurd z List.not_mem_nil)⟩⟩⟩
set_option maxRecDepth 200000 in
theorem C_X9_forget (N : Nat) : CTI 2 yX9_forget cX9_forget 2 (some .int) (a_X9_forget N) := by
  refine CTI.of (own := RX9) (by decide) rfl (fun as σ r h => ?_)
  unfold a_X9_forget at h
  rcases kSE_s h with ⟨r0, rfl, h0⟩ | hn
  ·
    obtain ⟨b1, r1, rfl, h1⟩ := kSI_s h0
    obtain ⟨rfl, h9⟩ := kS0_s h1
    exact ⟨Nat.le_of_ble_eq_true rfl, by refine GO.to (md_X9_forget N) (kl := []) ((fun _ z => absurd z List.not_mem_nil)) 20 ?_ ?_ <;> rfl⟩
  cases hn
def T_X9_name : List (Nat × Ent) := [(0, .aload_n 0, 1, []), (1, .getfield 21, 4, []), (4, .iload_n 1, 5, []), (5, .invokevirtual 104, 8, []), (8, .ifCond .eq 8, 11, [16]), (11, .iload_n 2, 12, []), (12, .iconst (-1), 13, []), (13, .if_icmp .ge 5, 16, [18]), (16, .iconst (-1), 17, []), (17, .ireturn, 18, []), (18, .aload_n 0, 19, []), (19, .getfield 21, 22, []), (22, .iload_n 1, 23, []), (23, .invokevirtual 129, 26, []), (26, .istore_n 3, 27, []), (27, .iload_n 2, 28, []), (28, .iconst (-1), 29, []), (29, .if_icmp .ne 5, 32, [34]), (32, .iload_n 3, 33, []), (33, .ireturn, 34, []), (34, .iload_n 2, 35, []), (35, .iload_n 3, 36, []), (36, .if_icmp .ge 24, 39, [60]), (39, .aload_n 0, 40, []), (40, .getfield 21, 43, []), (43, .getfield 132, 46, []), (46, .iload_n 1, 47, []), (47, .iaload, 48, []), (48, .bipush 8, 50, []), (50, .iload_n 2, 51, []), (51, .imul, 52, []), (52, .ishr, 53, []), (53, .sipush 255, 56, []), (56, .iand, 57, []), (57, .goto 5, 60, [62]), (60, .bipush (-2), 62, []), (62, .ireturn, 63, [])]
set_option maxRecDepth 200000 in
theorem tc_X9_name : T_X9_name.all (chk cX9_name) = true := by decide +kernel
def f_X9_name (N : Nat) (a1 : Int32) (a2 : Int32) (σ : Wd) : Option (Int32 × Wd) :=
  (f_X3_has N a1 σ).bind fun p1 => if p1.1 = 0 then (some ((-1), p1.2)) else (if (-1) ≤ a2 then ((f_X3_nameLength N a1 p1.2).bind fun p2 => if a2 = (-1) then (some (p2.1, p2.2)) else (if p2.1 ≤ a2 then (some ((-2), p2.2)) else ((xld p2.2 15 12 a1).bind fun v3 => some ((v3 >>> ((8 * a2) &&& 31)) &&& 255, p2.2)))) else (some ((-1), p1.2)))
def a_X9_name (N : Nat) : List Value → Wd → Option (Int32 × Wd) := fun as σ => kSE 0 as (fun r0 => kSI r0 (fun b1 r1 => kSI r1 (fun b2 r2 => kS0 r2 (f_X9_name N b1 b2 σ)))) (none)
set_option maxRecDepth 200000 in
theorem k_X9_129 : calchk RX9 129 2 3 yX3_nameLength cX3_nameLength 3 (some .int) = true := by decide +kernel
def ct_X9_name (N : Nat) : List (Nat × Cal) := [(104, 2, 3, .inl (a_X3_has N)), (129, 2, 3, .inl (a_X3_nameLength N))]
set_option maxRecDepth 200000 in
theorem md_X9_name (N : Nat) : MDOK T_X9_name ft_X9 lt_X9 (ct_X9_name N) cX9_name RX9 2 := ⟨tc_X9_name, fc_X9, lc_X9, List.forall_mem_cons.mpr ⟨Or.inl ⟨yX3_has, cX3_has, 2, (some .boolean), 1, k_X9_104, Nat.le_of_ble_eq_true rfl, C_X3_has N⟩, List.forall_mem_cons.mpr ⟨Or.inl ⟨yX3_nameLength, cX3_nameLength, 3, (some .int), 1, k_X9_129, Nat.le_of_ble_eq_true rfl, C_X3_nameLength N⟩, (fun _ z => absurd z List.not_mem_nil)⟩⟩⟩
set_option maxRecDepth 200000 in
theorem C_X9_name (N : Nat) : CTI 2 yX9_name cX9_name 4 (some .int) (a_X9_name N) := by
  refine CTI.of (own := RX9) (by decide) rfl (fun as σ r h => ?_)
  unfold a_X9_name at h
  rcases kSE_s h with ⟨r0, rfl, h0⟩ | hn
  ·
    obtain ⟨b1, r1, rfl, h1⟩ := kSI_s h0
    obtain ⟨b2, r2, rfl, h2⟩ := kSI_s h1
    obtain ⟨rfl, h9⟩ := kS0_s h2
    exact ⟨Nat.le_of_ble_eq_true rfl, by refine GO.to (md_X9_name N) (kl := []) ((fun _ z => absurd z List.not_mem_nil)) 42 ?_ ?_ <;> rfl⟩
  cases hn
def T_X9_delay : List (Nat × Ent) := [(0, .iload_n 1, 1, []), (1, .ifCond .lt 18, 4, [19]), (4, .iload_n 1, 5, []), (5, .iconst 3, 6, []), (6, .if_icmp .gt 13, 9, [19]), (9, .iload_n 2, 10, []), (10, .ifCond .lt 9, 13, [19]), (13, .iload_n 2, 14, []), (14, .bipush 9, 16, []), (16, .if_icmp .le 5, 19, [21]), (19, .iconst (-1), 20, []), (20, .ireturn, 21, []), (21, .aload_n 0, 22, []), (22, .getfield 42, 25, []), (25, .getfield 136, 28, []), (28, .iload_n 1, 29, []), (29, .iaload, 30, []), (30, .istore_n 3, 31, []), (31, .aload_n 0, 32, []), (32, .getfield 42, 35, []), (35, .getfield 136, 38, []), (38, .iload_n 1, 39, []), (39, .iload_n 2, 40, []), (40, .iastore, 41, []), (41, .aload_n 0, 42, []), (42, .invokevirtual 139, 45, []), (45, .iload_n 3, 46, []), (46, .ireturn, 47, [])]
set_option maxRecDepth 200000 in
theorem tc_X9_delay : T_X9_delay.all (chk cX9_delay) = true := by decide +kernel
def f_X9_delay (N : Nat) (a1 : Int32) (a2 : Int32) (σ : Wd) : Option (Int32 × Wd) :=
  if a1 < 0 then (some ((-1), σ)) else (if 3 < a1 then (some ((-1), σ)) else (if a2 < 0 then (some ((-1), σ)) else (if a2 ≤ 9 then ((xld σ 30 4 a1).bind fun v1 => (xst σ 30 4 a1 a2).bind fun σ2 => (f_X9_timesHaveChanged N σ2).bind fun σ3 => some (v1, σ3)) else (some ((-1), σ)))))
def a_X9_delay (N : Nat) : List Value → Wd → Option (Int32 × Wd) := fun as σ => kSE 0 as (fun r0 => kSI r0 (fun b1 r1 => kSI r1 (fun b2 r2 => kS0 r2 (f_X9_delay N b1 b2 σ)))) (none)
set_option maxRecDepth 200000 in
theorem k_X9_139 : calchk RX9 139 1 9 yX9_timesHaveChanged cX9_timesHaveChanged 1 none = true := by decide +kernel
def ct_X9_delay (N : Nat) : List (Nat × Cal) := [(139, 1, 9, .inr (.inr (a_X9_timesHaveChanged N)))]
set_option maxRecDepth 200000 in
theorem md_X9_delay (N : Nat) : MDOK T_X9_delay ft_X9 lt_X9 (ct_X9_delay N) cX9_delay RX9 2 := ⟨tc_X9_delay, fc_X9, lc_X9, List.forall_mem_cons.mpr ⟨Or.inl ⟨yX9_timesHaveChanged, cX9_timesHaveChanged, 1, none, 1, k_X9_139, Nat.le_of_ble_eq_true rfl, C_X9_timesHaveChanged N⟩, (fun _ z => absurd z List.not_mem_nil)⟩⟩
set_option maxRecDepth 200000 in
theorem C_X9_delay (N : Nat) : CTI 2 yX9_delay cX9_delay 4 (some .int) (a_X9_delay N) := by
  refine CTI.of (own := RX9) (by decide) rfl (fun as σ r h => ?_)
  unfold a_X9_delay at h
  rcases kSE_s h with ⟨r0, rfl, h0⟩ | hn
  ·
    obtain ⟨b1, r1, rfl, h1⟩ := kSI_s h0
    obtain ⟨b2, r2, rfl, h2⟩ := kSI_s h1
    obtain ⟨rfl, h9⟩ := kS0_s h2
    exact ⟨Nat.le_of_ble_eq_true rfl, by refine GO.to (md_X9_delay N) (kl := []) ((fun _ z => absurd z List.not_mem_nil)) 33 ?_ ?_ <;> rfl⟩
  cases hn
def T_X9_arrival : List (Nat × Ent) := [(0, .iload_n 1, 1, []), (1, .iload_n 2, 2, []), (2, .invokestatic 142, 5, []), (5, .ifCond .eq 13, 8, [18]), (8, .iload_n 3, 9, []), (9, .ifCond .lt 9, 12, [18]), (12, .iload_n 3, 13, []), (13, .bipush 99, 15, []), (15, .if_icmp .le 5, 18, [20]), (18, .iconst (-1), 19, []), (19, .ireturn, 20, []), (20, .iload_n 1, 21, []), (21, .bipush 12, 23, []), (23, .imul, 24, []), (24, .iload_n 2, 25, []), (25, .iadd, 26, []), (26, .istore 4, 28, []), (28, .aload_n 0, 29, []), (29, .getfield 42, 32, []), (32, .getfield 146, 35, []), (35, .iload 4, 37, []), (37, .iaload, 38, []), (38, .istore 5, 40, []), (40, .aload_n 0, 41, []), (41, .getfield 42, 44, []), (44, .getfield 146, 47, []), (47, .iload 4, 49, []), (49, .iload_n 3, 50, []), (50, .iastore, 51, []), (51, .aload_n 0, 52, []), (52, .invokevirtual 139, 55, []), (55, .iload 5, 57, []), (57, .ireturn, 58, [])]
set_option maxRecDepth 200000 in
theorem tc_X9_arrival : T_X9_arrival.all (chk cX9_arrival) = true := by decide +kernel
def f_X9_arrival (N : Nat) (a1 : Int32) (a2 : Int32) (a3 : Int32) (σ : Wd) : Option (Int32 × Wd) :=
  (f_X9_isInput N a1 a2 σ).bind fun p1 => if p1.1 = 0 then (some ((-1), p1.2)) else (if a3 < 0 then (some ((-1), p1.2)) else (if a3 ≤ 99 then ((xld p1.2 31 25 ((a1 * 12) + a2)).bind fun v2 => (xst p1.2 31 25 ((a1 * 12) + a2) a3).bind fun σ3 => (f_X9_timesHaveChanged N σ3).bind fun σ4 => some (v2, σ4)) else (some ((-1), p1.2))))
def a_X9_arrival (N : Nat) : List Value → Wd → Option (Int32 × Wd) := fun as σ => kSE 0 as (fun r0 => kSI r0 (fun b1 r1 => kSI r1 (fun b2 r2 => kSI r2 (fun b3 r3 => kS0 r3 (f_X9_arrival N b1 b2 b3 σ))))) (none)
set_option maxRecDepth 200000 in
theorem k_X9_142 : calchk RX9 142 2 0 yX9_isInput cX9_isInput 2 (some .boolean) = true := by decide +kernel
def ct_X9_arrival (N : Nat) : List (Nat × Cal) := [(142, 2, 0, .inl (a_X9_isInput N)), (139, 1, 9, .inr (.inr (a_X9_timesHaveChanged N)))]
set_option maxRecDepth 200000 in
theorem md_X9_arrival (N : Nat) : MDOK T_X9_arrival ft_X9 lt_X9 (ct_X9_arrival N) cX9_arrival RX9 2 := ⟨tc_X9_arrival, fc_X9, lc_X9, List.forall_mem_cons.mpr ⟨Or.inl ⟨yX9_isInput, cX9_isInput, 2, (some .boolean), 1, k_X9_142, Nat.le_of_ble_eq_true rfl, C_X9_isInput N⟩, List.forall_mem_cons.mpr ⟨Or.inl ⟨yX9_timesHaveChanged, cX9_timesHaveChanged, 1, none, 1, k_X9_139, Nat.le_of_ble_eq_true rfl, C_X9_timesHaveChanged N⟩, (fun _ z => absurd z List.not_mem_nil)⟩⟩⟩
set_option maxRecDepth 200000 in
theorem C_X9_arrival (N : Nat) : CTI 2 yX9_arrival cX9_arrival 6 (some .int) (a_X9_arrival N) := by
  refine CTI.of (own := RX9) (by decide) rfl (fun as σ r h => ?_)
  unfold a_X9_arrival at h
  rcases kSE_s h with ⟨r0, rfl, h0⟩ | hn
  ·
    obtain ⟨b1, r1, rfl, h1⟩ := kSI_s h0
    obtain ⟨b2, r2, rfl, h2⟩ := kSI_s h1
    obtain ⟨b3, r3, rfl, h3⟩ := kSI_s h2
    obtain ⟨rfl, h9⟩ := kS0_s h3
    exact ⟨Nat.le_of_ble_eq_true rfl, by refine GO.to (md_X9_arrival N) (kl := []) ((fun _ z => absurd z List.not_mem_nil)) 38 ?_ ?_ <;> rfl⟩
  cases hn
def T_X9_arrives : List (Nat × Ent) := [(0, .iload_n 1, 1, []), (1, .iload_n 2, 2, []), (2, .invokestatic 142, 5, []), (5, .ifCond .eq 20, 8, [25]), (8, .aload_n 0, 9, []), (9, .getfield 42, 12, []), (12, .getfield 146, 15, []), (15, .iload_n 1, 16, []), (16, .bipush 12, 18, []), (18, .imul, 19, []), (19, .iload_n 2, 20, []), (20, .iadd, 21, []), (21, .iaload, 22, []), (22, .goto 4, 25, [26]), (25, .iconst (-1), 26, []), (26, .ireturn, 27, [])]
set_option maxRecDepth 200000 in
theorem tc_X9_arrives : T_X9_arrives.all (chk cX9_arrives) = true := by decide +kernel
def f_X9_arrives (N : Nat) (a1 : Int32) (a2 : Int32) (σ : Wd) : Option (Int32 × Wd) :=
  (f_X9_isInput N a1 a2 σ).bind fun p1 => if p1.1 = 0 then (some ((-1), p1.2)) else ((xld p1.2 31 25 ((a1 * 12) + a2)).bind fun v2 => some (v2, p1.2))
def a_X9_arrives (N : Nat) : List Value → Wd → Option (Int32 × Wd) := fun as σ => kSE 0 as (fun r0 => kSI r0 (fun b1 r1 => kSI r1 (fun b2 r2 => kS0 r2 (f_X9_arrives N b1 b2 σ)))) (none)
def ct_X9_arrives (N : Nat) : List (Nat × Cal) := [(142, 2, 0, .inl (a_X9_isInput N))]
set_option maxRecDepth 200000 in
theorem md_X9_arrives (N : Nat) : MDOK T_X9_arrives ft_X9 lt_X9 (ct_X9_arrives N) cX9_arrives RX9 2 := ⟨tc_X9_arrives, fc_X9, lc_X9, List.forall_mem_cons.mpr ⟨Or.inl ⟨yX9_isInput, cX9_isInput, 2, (some .boolean), 1, k_X9_142, Nat.le_of_ble_eq_true rfl, C_X9_isInput N⟩, (fun _ z => absurd z List.not_mem_nil)⟩⟩
set_option maxRecDepth 200000 in
theorem C_X9_arrives (N : Nat) : CTI 2 yX9_arrives cX9_arrives 3 (some .int) (a_X9_arrives N) := by
  refine CTI.of (own := RX9) (by decide) rfl (fun as σ r h => ?_)
  unfold a_X9_arrives at h
  rcases kSE_s h with ⟨r0, rfl, h0⟩ | hn
  ·
    obtain ⟨b1, r1, rfl, h1⟩ := kSI_s h0
    obtain ⟨b2, r2, rfl, h2⟩ := kSI_s h1
    obtain ⟨rfl, h9⟩ := kS0_s h2
    exact ⟨Nat.le_of_ble_eq_true rfl, by refine GO.to (md_X9_arrives N) (kl := []) ((fun _ z => absurd z List.not_mem_nil)) 21 ?_ ?_ <;> rfl⟩
  cases hn
def T_X9_longest : List (Nat × Ent) := [(0, .iload 4, 2, []), (2, .iconst 1, 3, []), (3, .if_icmp .lt 32, 6, [35]), (6, .iload 4, 8, []), (8, .bipush 12, 10, []), (10, .if_icmp .gt 25, 13, [35]), (13, .iload_n 1, 14, []), (14, .iload_n 2, 15, []), (15, .iload_n 3, 16, []), (16, .iload 4, 18, []), (18, .invokestatic 186, 21, []), (21, .ifCond .eq 14, 24, [35]), (24, .iload 5, 26, []), (26, .ifCond .lt 9, 29, [35]), (29, .iload 5, 31, []), (31, .iconst 1, 32, []), (32, .if_icmp .le 5, 35, [37]), (35, .iconst (-1), 36, []), (36, .ireturn, 37, []), (37, .iload_n 3, 38, []), (38, .iconst 1, 39, []), (39, .isub, 40, []), (40, .istore 6, 42, []), (42, .iconst 0, 43, []), (43, .istore 7, 45, []), (45, .iload 6, 47, []), (47, .istore 8, 49, []), (49, .iconst 0, 50, []), (50, .istore 9, 52, []), (52, .iconst 0, 53, []), (53, .istore 10, 55, []), (55, .iload 10, 57, []), (57, .iload 4, 59, []), (59, .if_icmp .ge 74, 62, [133]), (62, .iload_n 1, 63, []), (63, .iload 10, 65, []), (65, .ishr, 66, []), (66, .iconst 1, 67, []), (67, .iand, 68, []), (68, .iload_n 2, 69, []), (69, .iload 10, 71, []), (71, .ishr, 72, []), (72, .iconst 1, 73, []), (73, .iand, 74, []), (74, .iadd, 75, []), (75, .istore 11, 77, []), (77, .iload 11, 79, []), (79, .iconst 2, 80, []), (80, .if_icmp .ne 13, 83, [93]), (83, .iconst 0, 84, []), (84, .istore 6, 86, []), (86, .iload 10, 88, []), (88, .istore 7, 90, []), (90, .goto 22, 93, [112]), (93, .iload 11, 95, []), (95, .ifCond .ne 9, 98, [104]), (98, .iconst (-1), 99, []), (99, .istore 6, 101, []), (101, .goto 11, 104, [112]), (104, .iload 6, 106, []), (106, .ifCond .lt 6, 109, [112]), (109, .iinc 6 1, 112, []), (112, .iload 6, 114, []), (114, .iload 8, 116, []), (116, .if_icmp .le 11, 119, [127]), (119, .iload 6, 121, []), (121, .istore 8, 123, []), (123, .iload 7, 125, []), (125, .istore 9, 127, []), (127, .iinc 10 1, 130, []), (130, .goto (-75), 133, [55]), (133, .iload 5, 135, []), (135, .ifCond .ne 10, 138, [145]), (138, .iload 8, 140, []), (140, .iconst 0, 141, []), (141, .invokestatic 235, 144, []), (144, .ireturn, 145, []), (145, .iload 8, 147, []), (147, .ifCond .ge 8, 150, [155]), (150, .bipush (-2), 152, []), (152, .goto 5, 155, [157]), (155, .iload 9, 157, []), (157, .ireturn, 158, [])]
set_option maxRecDepth 200000 in
theorem tc_X9_longest : T_X9_longest.all (chk cX9_longest) = true := by decide +kernel
def f_X9_longest_J112 (N : Nat) (KB : Int32 → Int32 → Int32 → Int32 → Int32 → Int32 → Int32 → Int32 → Int32 → Wd → Option (Int32 × Wd)) (KO133 : Int32 → Int32 → Int32 → Wd → Option (Int32 × Wd)) (x1 : Int32) (x2 : Int32) (x4 : Int32) (x5 : Int32) (x6 : Int32) (x7 : Int32) (x8 : Int32) (x9 : Int32) (x10 : Int32) (σ : Wd) : Option (Int32 × Wd) :=
  if x6 ≤ x8 then (KB x1 x2 x4 x5 x6 x7 x8 x9 (x10 + 1) σ) else (KB x1 x2 x4 x5 x6 x7 x6 x7 (x10 + 1) σ)
def f_X9_longest_L55 (N : Nat) (KO133 : Int32 → Int32 → Int32 → Wd → Option (Int32 × Wd)) : Nat → Int32 → Int32 → Int32 → Int32 → Int32 → Int32 → Int32 → Int32 → Int32 → Wd → Option (Int32 × Wd)
  | 0, _, _, _, _, _, _, _, _, _, _ => none
  | n + 1, x1, x2, x4, x5, x6, x7, x8, x9, x10, σ => if x4 ≤ x10 then (KO133 x5 x8 x9 σ) else (if (((x1 >>> (x10 &&& 31)) &&& 1) + ((x2 >>> (x10 &&& 31)) &&& 1)) = 2 then (f_X9_longest_J112 N (f_X9_longest_L55 N KO133 n) KO133 x1 x2 x4 x5 0 x10 x8 x9 x10 σ) else (if (((x1 >>> (x10 &&& 31)) &&& 1) + ((x2 >>> (x10 &&& 31)) &&& 1)) = 0 then (f_X9_longest_J112 N (f_X9_longest_L55 N KO133 n) KO133 x1 x2 x4 x5 (-1) x7 x8 x9 x10 σ) else (if x6 < 0 then (f_X9_longest_J112 N (f_X9_longest_L55 N KO133 n) KO133 x1 x2 x4 x5 x6 x7 x8 x9 x10 σ) else (f_X9_longest_J112 N (f_X9_longest_L55 N KO133 n) KO133 x1 x2 x4 x5 (x6 + 1) x7 x8 x9 x10 σ))))
def f_X9_longest_J133 (N : Nat) (x5 : Int32) (x8 : Int32) (x9 : Int32) (σ : Wd) : Option (Int32 × Wd) :=
  if x5 = 0 then ((f_J9_max_7cf53 N x8 0 σ).bind fun p2 => some (p2.1, p2.2)) else (if 0 ≤ x8 then (some (x9, σ)) else (some ((-2), σ)))
def f_X9_longest (N : Nat) (a1 : Int32) (a2 : Int32) (a3 : Int32) (a4 : Int32) (a5 : Int32) (σ : Wd) : Option (Int32 × Wd) :=
  if a4 < 1 then (some ((-1), σ)) else (if 12 < a4 then (some ((-1), σ)) else ((f_X9_areNumbers N a1 a2 a3 a4 σ).bind fun p1 => if p1.1 = 0 then (some ((-1), p1.2)) else (if a5 < 0 then (some ((-1), p1.2)) else (if a5 ≤ 1 then (f_X9_longest_L55 N (f_X9_longest_J133 N) N a1 a2 a4 a5 (a3 - 1) 0 (a3 - 1) 0 0 p1.2) else (some ((-1), p1.2))))))
def a_X9_longest (N : Nat) : List Value → Wd → Option (Int32 × Wd) := fun as σ => kSE 0 as (fun r0 => kSI r0 (fun b1 r1 => kSI r1 (fun b2 r2 => kSI r2 (fun b3 r3 => kSI r3 (fun b4 r4 => kSI r4 (fun b5 r5 => kS0 r5 (f_X9_longest N b1 b2 b3 b4 b5 σ))))))) (none)
set_option maxRecDepth 200000 in
theorem k_X9_186 : calchk RX9 186 4 0 yX9_areNumbers cX9_areNumbers 5 (some .boolean) = true := by decide +kernel
set_option maxRecDepth 200000 in
theorem k_X9_235 : mmchk RX9 235 Lib.Math.max.name Lib.Math.max.code = true := by decide +kernel
def ct_X9_longest (N : Nat) : List (Nat × Cal) := [(186, 4, 0, .inl (a_X9_areNumbers N)), (235, 2, 0, .inl amax)]
set_option maxRecDepth 200000 in
theorem md_X9_longest (N : Nat) : MDOK T_X9_longest ft_X9 lt_X9 (ct_X9_longest N) cX9_longest RX9 2 := ⟨tc_X9_longest, fc_X9, lc_X9, List.forall_mem_cons.mpr ⟨Or.inl ⟨yX9_areNumbers, cX9_areNumbers, 5, (some .boolean), 1, k_X9_186, Nat.le_of_ble_eq_true rfl, C_X9_areNumbers N⟩, List.forall_mem_cons.mpr ⟨Or.inr (Or.inl ⟨rfl, k_X9_235, Nat.le_of_ble_eq_true rfl⟩), (fun _ z => absurd z List.not_mem_nil)⟩⟩⟩
set_option maxRecDepth 200000 in
theorem g_X9_longest_J112 (N : Nat) (KB : Int32 → Int32 → Int32 → Int32 → Int32 → Int32 → Int32 → Int32 → Int32 → Wd → Option (Int32 × Wd)) (hKB : ∀ (x1 : Int32) (x2 : Int32) (x4 : Int32) (x5 : Int32) (x6 : Int32) (x7 : Int32) (x8 : Int32) (x9 : Int32) (x10 : Int32) (σ : Wd), GO cX9_longest RX9 12 2 sc0 rI nJ0 nV0 (KB x1 x2 x4 x5 x6 x7 x8 x9 x10 σ) 55 (mkp 0 12 [(1, .int x1), (2, .int x2), (4, .int x4), (5, .int x5), (6, .int x6), (7, .int x7), (8, .int x8), (9, .int x9), (10, .int x10)]) [] σ) (KO133 : Int32 → Int32 → Int32 → Wd → Option (Int32 × Wd)) (hKO133 : ∀ (x5 : Int32) (x8 : Int32) (x9 : Int32) (σ : Wd), GO cX9_longest RX9 12 2 sc0 rI nJ0 nV0 (KO133 x5 x8 x9 σ) 133 (mkp 0 12 [(5, .int x5), (8, .int x8), (9, .int x9)]) [] σ) (x1 : Int32) (x2 : Int32) (x4 : Int32) (x5 : Int32) (x6 : Int32) (x7 : Int32) (x8 : Int32) (x9 : Int32) (x10 : Int32) (σ : Wd) : GO cX9_longest RX9 12 2 sc0 rI nJ0 nV0 (f_X9_longest_J112 N KB KO133 x1 x2 x4 x5 x6 x7 x8 x9 x10 σ) 112 (mkp 0 12 [(1, .int x1), (2, .int x2), (4, .int x4), (5, .int x5), (6, .int x6), (7, .int x7), (8, .int x8), (9, .int x9), (10, .int x10)]) [] σ := by
  exact (by refine GO.to (md_X9_longest N) (kl := [(55, fun vs st σ => kS0 st (kI 1 vs (fun x1 => kI 2 vs (fun x2 => kI 4 vs (fun x4 => kI 5 vs (fun x5 => kI 6 vs (fun x6 => kI 7 vs (fun x7 => kI 8 vs (fun x8 => kI 9 vs (fun x9 => kI 10 vs (fun x10 => KB x1 x2 x4 x5 x6 x7 x8 x9 x10 σ)))))))))))]) (List.forall_mem_cons.mpr ⟨fun vs st σ => go_kS0 (go_kI (fun x1 h1 => go_kI (fun x2 h2 => go_kI (fun x4 h4 => go_kI (fun x5 h5 => go_kI (fun x6 h6 => go_kI (fun x7 h7 => go_kI (fun x8 h8 => go_kI (fun x9 h9 => go_kI (fun x10 h10 => GO.pat [(1, .int x1), (2, .int x2), (4, .int x4), (5, .int x5), (6, .int x6), (7, .int x7), (8, .int x8), (9, .int x9), (10, .int x10)] ⟨h1, h2, h4, h5, h6, h7, h8, h9, h10, trivial⟩ (hKB x1 x2 x4 x5 x6 x7 x8 x9 x10 σ))))))))))), (fun _ z => absurd z List.not_mem_nil)⟩) 88 ?_ ?_ <;> rfl)
set_option maxRecDepth 200000 in
theorem g_X9_longest_L55 (N : Nat) (KO133 : Int32 → Int32 → Int32 → Wd → Option (Int32 × Wd)) (hKO133 : ∀ (x5 : Int32) (x8 : Int32) (x9 : Int32) (σ : Wd), GO cX9_longest RX9 12 2 sc0 rI nJ0 nV0 (KO133 x5 x8 x9 σ) 133 (mkp 0 12 [(5, .int x5), (8, .int x8), (9, .int x9)]) [] σ) : ∀ (n : Nat), ∀ (x1 : Int32) (x2 : Int32) (x4 : Int32) (x5 : Int32) (x6 : Int32) (x7 : Int32) (x8 : Int32) (x9 : Int32) (x10 : Int32) (σ : Wd), GO cX9_longest RX9 12 2 sc0 rI nJ0 nV0 (f_X9_longest_L55 N KO133 n x1 x2 x4 x5 x6 x7 x8 x9 x10 σ) 55 (mkp 0 12 [(1, .int x1), (2, .int x2), (4, .int x4), (5, .int x5), (6, .int x6), (7, .int x7), (8, .int x8), (9, .int x9), (10, .int x10)]) [] σ
  | 0, x1, x2, x4, x5, x6, x7, x8, x9, x10, σ => GO.none
  | n + 1, x1, x2, x4, x5, x6, x7, x8, x9, x10, σ => by
    exact (by refine GO.to (md_X9_longest N) (kl := [(133, fun vs st σ => kS0 st (kI 5 vs (fun x5 => kI 8 vs (fun x8 => kI 9 vs (fun x9 => KO133 x5 x8 x9 σ))))), (112, fun vs st σ => kS0 st (kI 1 vs (fun x1 => kI 2 vs (fun x2 => kI 4 vs (fun x4 => kI 5 vs (fun x5 => kI 6 vs (fun x6 => kI 7 vs (fun x7 => kI 8 vs (fun x8 => kI 9 vs (fun x9 => kI 10 vs (fun x10 => f_X9_longest_J112 N (f_X9_longest_L55 N KO133 n) KO133 x1 x2 x4 x5 x6 x7 x8 x9 x10 σ)))))))))))]) (List.forall_mem_cons.mpr ⟨fun vs st σ => go_kS0 (go_kI (fun x5 h5 => go_kI (fun x8 h8 => go_kI (fun x9 h9 => GO.pat [(5, .int x5), (8, .int x8), (9, .int x9)] ⟨h5, h8, h9, trivial⟩ (hKO133 x5 x8 x9 σ))))), List.forall_mem_cons.mpr ⟨fun vs st σ => go_kS0 (go_kI (fun x1 h1 => go_kI (fun x2 h2 => go_kI (fun x4 h4 => go_kI (fun x5 h5 => go_kI (fun x6 h6 => go_kI (fun x7 h7 => go_kI (fun x8 h8 => go_kI (fun x9 h9 => go_kI (fun x10 h10 => GO.pat [(1, .int x1), (2, .int x2), (4, .int x4), (5, .int x5), (6, .int x6), (7, .int x7), (8, .int x8), (9, .int x9), (10, .int x10)] ⟨h1, h2, h4, h5, h6, h7, h8, h9, h10, trivial⟩ (g_X9_longest_J112 N (f_X9_longest_L55 N KO133 n) (g_X9_longest_L55 N KO133 hKO133 n) KO133 hKO133 x1 x2 x4 x5 x6 x7 x8 x9 x10 σ))))))))))), (fun _ z => absurd z List.not_mem_nil)⟩⟩) 88 ?_ ?_ <;> rfl)
set_option maxRecDepth 200000 in
theorem g_X9_longest_J133 (N : Nat) (x5 : Int32) (x8 : Int32) (x9 : Int32) (σ : Wd) : GO cX9_longest RX9 12 2 sc0 rI nJ0 nV0 (f_X9_longest_J133 N x5 x8 x9 σ) 133 (mkp 0 12 [(5, .int x5), (8, .int x8), (9, .int x9)]) [] σ := by
  exact (by refine GO.to (md_X9_longest N) (kl := []) ((fun _ z => absurd z List.not_mem_nil)) 88 ?_ ?_ <;> rfl)
set_option maxRecDepth 200000 in
theorem C_X9_longest (N : Nat) : CTI 2 yX9_longest cX9_longest 12 (some .int) (a_X9_longest N) := by
  refine CTI.of (own := RX9) (by decide) rfl (fun as σ r h => ?_)
  unfold a_X9_longest at h
  rcases kSE_s h with ⟨r0, rfl, h0⟩ | hn
  ·
    obtain ⟨b1, r1, rfl, h1⟩ := kSI_s h0
    obtain ⟨b2, r2, rfl, h2⟩ := kSI_s h1
    obtain ⟨b3, r3, rfl, h3⟩ := kSI_s h2
    obtain ⟨b4, r4, rfl, h4⟩ := kSI_s h3
    obtain ⟨b5, r5, rfl, h5⟩ := kSI_s h4
    obtain ⟨rfl, h9⟩ := kS0_s h5
    exact ⟨Nat.le_of_ble_eq_true rfl, by refine GO.to (md_X9_longest N) (kl := [(55, fun vs st σ => kS0 st (kI 1 vs (fun x1 => kI 2 vs (fun x2 => kI 4 vs (fun x4 => kI 5 vs (fun x5 => kI 6 vs (fun x6 => kI 7 vs (fun x7 => kI 8 vs (fun x8 => kI 9 vs (fun x9 => kI 10 vs (fun x10 => f_X9_longest_L55 N (f_X9_longest_J133 N) N x1 x2 x4 x5 x6 x7 x8 x9 x10 σ)))))))))))]) (List.forall_mem_cons.mpr ⟨fun vs st σ => go_kS0 (go_kI (fun x1 h1 => go_kI (fun x2 h2 => go_kI (fun x4 h4 => go_kI (fun x5 h5 => go_kI (fun x6 h6 => go_kI (fun x7 h7 => go_kI (fun x8 h8 => go_kI (fun x9 h9 => go_kI (fun x10 h10 => GO.pat [(1, .int x1), (2, .int x2), (4, .int x4), (5, .int x5), (6, .int x6), (7, .int x7), (8, .int x8), (9, .int x9), (10, .int x10)] ⟨h1, h2, h4, h5, h6, h7, h8, h9, h10, trivial⟩ (g_X9_longest_L55 N (f_X9_longest_J133 N) (g_X9_longest_J133 N) N x1 x2 x4 x5 x6 x7 x8 x9 x10 σ))))))))))), (fun _ z => absurd z List.not_mem_nil)⟩) 88 ?_ ?_ <;> rfl⟩
  cases hn
def T_X9_shelve : List (Nat × Ent) := [(0, .iload_n 1, 1, []), (1, .invokestatic 245, 4, []), (4, .ifCond .eq 19, 7, [23]), (7, .iload_n 2, 8, []), (8, .iconst (-1), 9, []), (9, .if_icmp .eq 16, 12, [25]), (12, .aload_n 0, 13, []), (13, .getfield 21, 16, []), (16, .iload_n 2, 17, []), (17, .invokevirtual 104, 20, []), (20, .ifCond .ne 5, 23, [25]), (23, .iconst (-1), 24, []), (24, .ireturn, 25, []), (25, .iload_n 2, 26, []), (26, .iconst (-1), 27, []), (27, .if_icmp .ne 16, 30, [43]), (30, .aload_n 0, 31, []), (31, .getfield 62, 34, []), (34, .iload_n 1, 35, []), (35, .aaload, 36, []), (36, .iconst (-1), 37, []), (37, .putfield 248, 40, []), (40, .goto 21, 43, [61]), (43, .aload_n 0, 44, []), (44, .getfield 62, 47, []), (47, .iload_n 1, 48, []), (48, .aaload, 49, []), (49, .aload_n 0, 50, []), (50, .getfield 21, 53, []), (53, .getfield 114, 56, []), (56, .iload_n 2, 57, []), (57, .laload, 58, []), (58, .invokevirtual 251, 61, []), (61, .iconst 1, 62, []), (62, .ireturn, 63, [])]
set_option maxRecDepth 200000 in
theorem tc_X9_shelve : T_X9_shelve.all (chk cX9_shelve) = true := by decide +kernel
def f_X9_shelve_J25 (N : Nat) (x1 : Int32) (x2 : Int32) (σ : Wd) : Option (Int32 × Wd) :=
  if x2 = (-1) then (xsh x1 fun k2 => let σ3 : Wd := sF σ k2 1 (-1)
  some (1, σ3)) else (xsh x1 fun k4 => (xldL σ 16 12 x2).bind fun v5 => (f_X5_holdBlocks N k4 v5 σ).bind fun σ6 => some (1, σ6))
def f_X9_shelve (N : Nat) (a1 : Int32) (a2 : Int32) (σ : Wd) : Option (Int32 × Wd) :=
  (f_X9_isShelf N a1 σ).bind fun p1 => if p1.1 = 0 then (some ((-1), p1.2)) else (if a2 = (-1) then (f_X9_shelve_J25 N a1 a2 p1.2) else ((f_X3_has N a2 p1.2).bind fun p7 => if p7.1 = 0 then (some ((-1), p7.2)) else (f_X9_shelve_J25 N a1 a2 p7.2)))
def a_X9_shelve (N : Nat) : List Value → Wd → Option (Int32 × Wd) := fun as σ => kSE 0 as (fun r0 => kSI r0 (fun b1 r1 => kSI r1 (fun b2 r2 => kS0 r2 (f_X9_shelve N b1 b2 σ)))) (none)
set_option maxRecDepth 200000 in
theorem k_X9_245 : calchk RX9 245 1 0 yX9_isShelf cX9_isShelf 1 (some .boolean) = true := by decide +kernel
set_option maxRecDepth 200000 in
theorem k_X9_251 : calchk RX9 251 2 5 yX5_holdBlocks cX5_holdBlocks 3 none = true := by decide +kernel
def ct_X9_shelve (N : Nat) : List (Nat × Cal) := [(245, 1, 0, .inl (a_X9_isShelf N)), (251, 2, 5, .inr (.inr (a_X5_holdBlocks N))), (104, 2, 3, .inl (a_X3_has N))]
set_option maxRecDepth 200000 in
theorem md_X9_shelve (N : Nat) : MDOK T_X9_shelve ft_X9 lt_X9 (ct_X9_shelve N) cX9_shelve RX9 2 := ⟨tc_X9_shelve, fc_X9, lc_X9, List.forall_mem_cons.mpr ⟨Or.inl ⟨yX9_isShelf, cX9_isShelf, 1, (some .boolean), 1, k_X9_245, Nat.le_of_ble_eq_true rfl, C_X9_isShelf N⟩, List.forall_mem_cons.mpr ⟨Or.inl ⟨yX5_holdBlocks, cX5_holdBlocks, 3, none, 1, k_X9_251, Nat.le_of_ble_eq_true rfl, C_X5_holdBlocks N⟩, List.forall_mem_cons.mpr ⟨Or.inl ⟨yX3_has, cX3_has, 2, (some .boolean), 1, k_X9_104, Nat.le_of_ble_eq_true rfl, C_X3_has N⟩, (fun _ z => absurd z List.not_mem_nil)⟩⟩⟩⟩
set_option maxRecDepth 200000 in
theorem g_X9_shelve_J25 (N : Nat) (x1 : Int32) (x2 : Int32) (σ : Wd) : GO cX9_shelve RX9 3 2 sc0 rI nJ0 nV0 (f_X9_shelve_J25 N x1 x2 σ) 25 (mkp 0 3 [(0, .ref 0), (1, .int x1), (2, .int x2)]) [] σ := by
  exact (by refine GO.to (md_X9_shelve N) (kl := []) ((fun _ z => absurd z List.not_mem_nil)) 40 ?_ ?_ <;> rfl)
set_option maxRecDepth 200000 in
theorem C_X9_shelve (N : Nat) : CTI 2 yX9_shelve cX9_shelve 3 (some .int) (a_X9_shelve N) := by
  refine CTI.of (own := RX9) (by decide) rfl (fun as σ r h => ?_)
  unfold a_X9_shelve at h
  rcases kSE_s h with ⟨r0, rfl, h0⟩ | hn
  ·
    obtain ⟨b1, r1, rfl, h1⟩ := kSI_s h0
    obtain ⟨b2, r2, rfl, h2⟩ := kSI_s h1
    obtain ⟨rfl, h9⟩ := kS0_s h2
    exact ⟨Nat.le_of_ble_eq_true rfl, by refine GO.to (md_X9_shelve N) (kl := [(25, fun vs st σ => kS0 st (kA 0 0 vs (kI 1 vs (fun x1 => kI 2 vs (fun x2 => f_X9_shelve_J25 N x1 x2 σ)))))]) (List.forall_mem_cons.mpr ⟨fun vs st σ => go_kS0 (go_kA (fun h0 => go_kI (fun x1 h1 => go_kI (fun x2 h2 => GO.pat [(0, .ref 0), (1, .int x1), (2, .int x2)] ⟨h0, h1, h2, trivial⟩ (g_X9_shelve_J25 N x1 x2 σ))))), (fun _ z => absurd z List.not_mem_nil)⟩) 40 ?_ ?_ <;> rfl⟩
  cases hn
def T_X9_row : List (Nat × Ent) := [(0, .iload_n 1, 1, []), (1, .invokestatic 245, 4, []), (4, .ifCond .eq 18, 7, [22]), (7, .iload_n 2, 8, []), (8, .ifCond .lt 14, 11, [22]), (11, .iload_n 2, 12, []), (12, .iconst 1, 13, []), (13, .if_icmp .gt 9, 16, [22]), (16, .iload_n 3, 17, []), (17, .bipush 20, 19, []), (19, .if_icmp .le 5, 22, [24]), (22, .iconst (-1), 23, []), (23, .ireturn, 24, []), (24, .iload_n 3, 25, []), (25, .ifCond .ge 6, 28, [31]), (28, .bipush (-14), 30, []), (30, .ireturn, 31, []), (31, .aload_n 0, 32, []), (32, .getfield 62, 35, []), (35, .iload_n 1, 36, []), (36, .aaload, 37, []), (37, .iload_n 2, 38, []), (38, .iload_n 3, 39, []), (39, .invokevirtual 259, 42, []), (42, .iconst 1, 43, []), (43, .ireturn, 44, [])]
set_option maxRecDepth 200000 in
theorem tc_X9_row : T_X9_row.all (chk cX9_row) = true := by decide +kernel
def f_X9_row (N : Nat) (a1 : Int32) (a2 : Int32) (a3 : Int32) (σ : Wd) : Option (Int32 × Wd) :=
  (f_X9_isShelf N a1 σ).bind fun p1 => if p1.1 = 0 then (some ((-1), p1.2)) else (if a2 < 0 then (some ((-1), p1.2)) else (if 1 < a2 then (some ((-1), p1.2)) else (if a3 ≤ 20 then (if 0 ≤ a3 then (xsh a1 fun k2 => (f_X5_holdRow N k2 a2 a3 p1.2).bind fun σ3 => some (1, σ3)) else (some ((-14), p1.2))) else (some ((-1), p1.2)))))
def a_X9_row (N : Nat) : List Value → Wd → Option (Int32 × Wd) := fun as σ => kSE 0 as (fun r0 => kSI r0 (fun b1 r1 => kSI r1 (fun b2 r2 => kSI r2 (fun b3 r3 => kS0 r3 (f_X9_row N b1 b2 b3 σ))))) (none)
set_option maxRecDepth 200000 in
theorem k_X9_259 : calchk RX9 259 3 5 yX5_holdRow cX5_holdRow 4 none = true := by decide +kernel
def ct_X9_row (N : Nat) : List (Nat × Cal) := [(245, 1, 0, .inl (a_X9_isShelf N)), (259, 3, 5, .inr (.inr (a_X5_holdRow N)))]
set_option maxRecDepth 200000 in
theorem md_X9_row (N : Nat) : MDOK T_X9_row ft_X9 lt_X9 (ct_X9_row N) cX9_row RX9 2 := ⟨tc_X9_row, fc_X9, lc_X9, List.forall_mem_cons.mpr ⟨Or.inl ⟨yX9_isShelf, cX9_isShelf, 1, (some .boolean), 1, k_X9_245, Nat.le_of_ble_eq_true rfl, C_X9_isShelf N⟩, List.forall_mem_cons.mpr ⟨Or.inl ⟨yX5_holdRow, cX5_holdRow, 4, none, 1, k_X9_259, Nat.le_of_ble_eq_true rfl, C_X5_holdRow N⟩, (fun _ z => absurd z List.not_mem_nil)⟩⟩⟩
set_option maxRecDepth 200000 in
theorem C_X9_row (N : Nat) : CTI 2 yX9_row cX9_row 4 (some .int) (a_X9_row N) := by
  refine CTI.of (own := RX9) (by decide) rfl (fun as σ r h => ?_)
  unfold a_X9_row at h
  rcases kSE_s h with ⟨r0, rfl, h0⟩ | hn
  ·
    obtain ⟨b1, r1, rfl, h1⟩ := kSI_s h0
    obtain ⟨b2, r2, rfl, h2⟩ := kSI_s h1
    obtain ⟨b3, r3, rfl, h3⟩ := kSI_s h2
    obtain ⟨rfl, h9⟩ := kS0_s h3
    exact ⟨Nat.le_of_ble_eq_true rfl, by refine GO.to (md_X9_row N) (kl := []) ((fun _ z => absurd z List.not_mem_nil)) 31 ?_ ?_ <;> rfl⟩
  cases hn
def T_X9_put : List (Nat × Ent) := [(0, .iload_n 1, 1, []), (1, .invokestatic 245, 4, []), (4, .ifCond .ne 5, 7, [9]), (7, .iconst (-1), 8, []), (8, .ireturn, 9, []), (9, .aload_n 0, 10, []), (10, .getfield 62, 13, []), (13, .iload_n 1, 14, []), (14, .aaload, 15, []), (15, .astore 5, 17, []), (17, .aload 5, 19, []), (19, .invokevirtual 263, 22, []), (22, .ifCond .ne 20, 25, [42]), (25, .aload 5, 27, []), (27, .getfield 248, 30, []), (30, .iconst (-1), 31, []), (31, .if_icmp .ne 8, 34, [39]), (34, .bipush (-11), 36, []), (36, .goto 5, 39, [41]), (39, .bipush (-12), 41, []), (41, .ireturn, 42, []), (42, .iload_n 2, 43, []), (43, .ifCond .lt 12, 46, [55]), (46, .iload_n 2, 47, []), (47, .aload 5, 49, []), (49, .getfield 267, 52, []), (52, .if_icmp .lt 6, 55, [58]), (55, .bipush (-13), 57, []), (57, .ireturn, 58, []), (58, .aload 5, 60, []), (60, .getfield 270, 63, []), (63, .iload_n 2, 64, []), (64, .aload 5, 66, []), (66, .getfield 248, 69, []), (69, .iconst 1, 70, []), (70, .if_icmp .ne 10, 73, [80]), (73, .lload_n 3, 74, []), (74, .l2i, 75, []), (75, .i2b, 76, []), (76, .i2l, 77, []), (77, .goto 4, 80, [81]), (80, .lload_n 3, 81, []), (81, .lastore, 82, []), (82, .iconst 1, 83, []), (83, .ireturn, 84, [])]
set_option maxRecDepth 200000 in
theorem tc_X9_put : T_X9_put.all (chk cX9_put) = true := by decide +kernel
def f_X9_put (N : Nat) (a1 : Int32) (a2 : Int32) (a3 : Int64) (σ : Wd) : Option (Int32 × Wd) :=
  (f_X9_isShelf N a1 σ).bind fun p1 => if p1.1 = 0 then (some ((-1), p1.2)) else (xsh a1 fun k2 => (f_X5_isRow N k2 p1.2).bind fun p3 => if p3.1 = 0 then (if (p3.2.1 k2 1) = (-1) then (some ((-11), p3.2)) else (some ((-12), p3.2))) else (if a2 < 0 then (some ((-13), p3.2)) else (if a2 < (p3.2.1 k2 2) then (if (p3.2.1 k2 1) = 1 then ((xstL p3.2 (k2 + 28) 20 a2 (Int32.toInt64 ((Int32.toInt8 (Int64.toInt32 a3)).toInt32))).bind fun σ4 => some (1, σ4)) else ((xstL p3.2 (k2 + 28) 20 a2 a3).bind fun σ5 => some (1, σ5))) else (some ((-13), p3.2)))))
def a_X9_put (N : Nat) : List Value → Wd → Option (Int32 × Wd) := fun as σ => kSE 0 as (fun r0 => kSI r0 (fun b1 r1 => kSI r1 (fun b2 r2 => kSJ r2 (fun b3 r3 => kS0 r3 (f_X9_put N b1 b2 b3 σ))))) (none)
set_option maxRecDepth 200000 in
theorem k_X9_263 : calchk RX9 263 1 5 yX5_isRow cX5_isRow 1 (some .boolean) = true := by decide +kernel
def ct_X9_put (N : Nat) : List (Nat × Cal) := [(245, 1, 0, .inl (a_X9_isShelf N)), (263, 1, 5, .inl (a_X5_isRow N))]
set_option maxRecDepth 200000 in
theorem md_X9_put (N : Nat) : MDOK T_X9_put ft_X9 lt_X9 (ct_X9_put N) cX9_put RX9 2 := ⟨tc_X9_put, fc_X9, lc_X9, List.forall_mem_cons.mpr ⟨Or.inl ⟨yX9_isShelf, cX9_isShelf, 1, (some .boolean), 1, k_X9_245, Nat.le_of_ble_eq_true rfl, C_X9_isShelf N⟩, List.forall_mem_cons.mpr ⟨Or.inl ⟨yX5_isRow, cX5_isRow, 1, (some .boolean), 1, k_X9_263, Nat.le_of_ble_eq_true rfl, C_X5_isRow N⟩, (fun _ z => absurd z List.not_mem_nil)⟩⟩⟩
set_option maxRecDepth 200000 in
theorem C_X9_put (N : Nat) : CTI 2 yX9_put cX9_put 6 (some .int) (a_X9_put N) := by
  refine CTI.of (own := RX9) (by decide) rfl (fun as σ r h => ?_)
  unfold a_X9_put at h
  rcases kSE_s h with ⟨r0, rfl, h0⟩ | hn
  ·
    obtain ⟨b1, r1, rfl, h1⟩ := kSI_s h0
    obtain ⟨b2, r2, rfl, h2⟩ := kSI_s h1
    obtain ⟨b3, r3, rfl, h3⟩ := kSJ_s h2
    obtain ⟨rfl, h9⟩ := kS0_s h3
    exact ⟨Nat.le_of_ble_eq_true rfl, by refine GO.to (md_X9_put N) (kl := []) ((fun _ z => absurd z List.not_mem_nil)) 50 ?_ ?_ <;> rfl⟩
  cases hn
def T_X9_get : List (Nat × Ent) := [(0, .iload_n 1, 1, []), (1, .invokestatic 245, 4, []), (4, .ifCond .ne 7, 7, [11]), (7, .ldc2_w 241, 10, []), (10, .lreturn, 11, []), (11, .aload_n 0, 12, []), (12, .getfield 62, 15, []), (15, .iload_n 1, 16, []), (16, .aaload, 17, []), (17, .astore_n 3, 18, []), (18, .aload_n 3, 19, []), (19, .invokevirtual 263, 22, []), (22, .ifCond .eq 24, 25, [46]), (25, .iload_n 2, 26, []), (26, .ifCond .lt 20, 29, [46]), (29, .iload_n 2, 30, []), (30, .aload_n 3, 31, []), (31, .getfield 267, 34, []), (34, .if_icmp .ge 12, 37, [46]), (37, .aload_n 3, 38, []), (38, .getfield 270, 41, []), (41, .iload_n 2, 42, []), (42, .laload, 43, []), (43, .goto 6, 46, [49]), (46, .ldc2_w 241, 49, []), (49, .lreturn, 50, [])]
set_option maxRecDepth 200000 in
theorem tc_X9_get : T_X9_get.all (chk cX9_get) = true := by decide +kernel
def f_X9_get (N : Nat) (a1 : Int32) (a2 : Int32) (σ : Wd) : Option (Int64 × Wd) :=
  (f_X9_isShelf N a1 σ).bind fun p1 => if p1.1 = 0 then (some ((-9223372036854775808), p1.2)) else (xsh a1 fun k2 => (f_X5_isRow N k2 p1.2).bind fun p3 => if p3.1 = 0 then (some ((-9223372036854775808), p3.2)) else (if a2 < 0 then (some ((-9223372036854775808), p3.2)) else (if (p3.2.1 k2 2) ≤ a2 then (some ((-9223372036854775808), p3.2)) else ((xldL p3.2 (k2 + 28) 20 a2).bind fun v4 => some (v4, p3.2)))))
def a_X9_get (N : Nat) : List Value → Wd → Option (Int64 × Wd) := fun as σ => kSE 0 as (fun r0 => kSI r0 (fun b1 r1 => kSI r1 (fun b2 r2 => kS0 r2 (f_X9_get N b1 b2 σ)))) (none)
def ct_X9_get (N : Nat) : List (Nat × Cal) := [(245, 1, 0, .inl (a_X9_isShelf N)), (263, 1, 5, .inl (a_X5_isRow N))]
set_option maxRecDepth 200000 in
theorem md_X9_get (N : Nat) : MDOK T_X9_get ft_X9 lt_X9 (ct_X9_get N) cX9_get RX9 2 := ⟨tc_X9_get, fc_X9, lc_X9, List.forall_mem_cons.mpr ⟨Or.inl ⟨yX9_isShelf, cX9_isShelf, 1, (some .boolean), 1, k_X9_245, Nat.le_of_ble_eq_true rfl, C_X9_isShelf N⟩, List.forall_mem_cons.mpr ⟨Or.inl ⟨yX5_isRow, cX5_isRow, 1, (some .boolean), 1, k_X9_263, Nat.le_of_ble_eq_true rfl, C_X5_isRow N⟩, (fun _ z => absurd z List.not_mem_nil)⟩⟩⟩
set_option maxRecDepth 200000 in
theorem C_X9_get (N : Nat) : CTL 2 yX9_get cX9_get 4 (some .long) (a_X9_get N) := by
  refine CTL.of (own := RX9) (by decide) rfl (fun as σ r h => ?_)
  unfold a_X9_get at h
  rcases kSE_s h with ⟨r0, rfl, h0⟩ | hn
  ·
    obtain ⟨b1, r1, rfl, h1⟩ := kSI_s h0
    obtain ⟨b2, r2, rfl, h2⟩ := kSI_s h1
    obtain ⟨rfl, h9⟩ := kS0_s h2
    exact ⟨Nat.le_of_ble_eq_true rfl, by refine GO.to (md_X9_get N) (kl := []) ((fun _ z => absurd z List.not_mem_nil)) 31 ?_ ?_ <;> rfl⟩
  cases hn
def T_X9_canChoose : List (Nat × Ent) := [(0, .iload_n 0, 1, []), (1, .iconst 1, 2, []), (2, .if_icmp .lt 43, 5, [45]), (5, .iload_n 0, 6, []), (6, .bipush 6, 8, []), (8, .if_icmp .gt 37, 11, [45]), (11, .iload_n 1, 12, []), (12, .iconst 1, 13, []), (13, .if_icmp .lt 32, 16, [45]), (16, .iload_n 1, 17, []), (17, .bipush 15, 19, []), (19, .if_icmp .gt 26, 22, [45]), (22, .iload_n 1, 23, []), (23, .invokestatic 302, 26, []), (26, .iconst 2, 27, []), (27, .if_icmp .gt 18, 30, [45]), (30, .iload_n 2, 31, []), (31, .ifCond .lt 14, 34, [45]), (34, .iload_n 2, 35, []), (35, .sipush 999, 38, []), (38, .if_icmp .gt 7, 41, [45]), (41, .iconst 1, 42, []), (42, .goto 4, 45, [46]), (45, .iconst 0, 46, []), (46, .ireturn, 47, [])]
set_option maxRecDepth 200000 in
theorem tc_X9_canChoose : T_X9_canChoose.all (chk cX9_canChoose) = true := by decide +kernel
def f_X9_canChoose (N : Nat) (a0 : Int32) (a1 : Int32) (a2 : Int32) (σ : Wd) : Option (Int32 × Wd) :=
  if a0 < 1 then (some (0, σ)) else (if 6 < a0 then (some (0, σ)) else (if a1 < 1 then (some (0, σ)) else (if 15 < a1 then (some (0, σ)) else ((f_J6_bitCount_0f7a4 N a1 σ).bind fun p1 => if 2 < p1.1 then (some (0, p1.2)) else (if a2 < 0 then (some (0, p1.2)) else (if 999 < a2 then (some (0, p1.2)) else (some (1, p1.2))))))))
def a_X9_canChoose (N : Nat) : List Value → Wd → Option (Int32 × Wd) := fun as σ => kSI as (fun b0 r0 => kSI r0 (fun b1 r1 => kSI r1 (fun b2 r2 => kS0 r2 (f_X9_canChoose N b0 b1 b2 σ))))
set_option maxRecDepth 200000 in
theorem k_X9_302 : calchk RX9 302 1 0 yJ6_bitCount_0f7a4 cJ6_bitCount_0f7a4 1 (some .int) = true := by decide +kernel
def ct_X9_canChoose (N : Nat) : List (Nat × Cal) := [(302, 1, 0, .inl (a_J6_bitCount_0f7a4 N))]
set_option maxRecDepth 200000 in
theorem md_X9_canChoose (N : Nat) : MDOK T_X9_canChoose ft_X9 lt_X9 (ct_X9_canChoose N) cX9_canChoose RX9 2 := ⟨tc_X9_canChoose, fc_X9, lc_X9, List.forall_mem_cons.mpr ⟨Or.inl ⟨yJ6_bitCount_0f7a4, cJ6_bitCount_0f7a4, 1, (some .int), 1, k_X9_302, Nat.le_of_ble_eq_true rfl, C_J6_bitCount_0f7a4 N⟩, (fun _ z => absurd z List.not_mem_nil)⟩⟩
set_option maxRecDepth 200000 in
theorem C_X9_canChoose (N : Nat) : CTI 2 yX9_canChoose cX9_canChoose 3 (some .boolean) (a_X9_canChoose N) := by
  refine CTZ.of (own := RX9) (by decide) rfl (fun as σ r h => ?_)
  unfold a_X9_canChoose at h
  obtain ⟨b0, r0, rfl, h0⟩ := kSI_s h
  obtain ⟨b1, r1, rfl, h1⟩ := kSI_s h0
  obtain ⟨b2, r2, rfl, h2⟩ := kSI_s h1
  obtain ⟨rfl, h9⟩ := kS0_s h2
  exact ⟨Nat.le_of_ble_eq_true rfl, by refine GO.to (md_X9_canChoose N) (kl := []) ((fun _ z => absurd z List.not_mem_nil)) 30 ?_ ?_ <;> rfl⟩
def T_X9_known : List (Nat × Ent) := [(0, .aload_n 0, 1, []), (1, .getfield 21, 4, []), (4, .iload_n 1, 5, []), (5, .invokevirtual 104, 8, []), (8, .ifCond .ne 5, 11, [13]), (11, .iconst (-1), 12, []), (12, .ireturn, 13, []), (13, .aload_n 0, 14, []), (14, .getfield 28, 17, []), (17, .aload_n 0, 18, []), (18, .getfield 21, 21, []), (21, .getfield 114, 24, []), (24, .iload_n 1, 25, []), (25, .laload, 26, []), (26, .invokevirtual 211, 29, []), (29, .ifCond .eq 7, 32, [36]), (32, .iconst 1, 33, []), (33, .goto 4, 36, [37]), (36, .iconst 0, 37, []), (37, .ireturn, 38, [])]
set_option maxRecDepth 200000 in
theorem tc_X9_known : T_X9_known.all (chk cX9_known) = true := by decide +kernel
def f_X9_known (N : Nat) (a1 : Int32) (σ : Wd) : Option (Int32 × Wd) :=
  (f_X3_has N a1 σ).bind fun p1 => if p1.1 = 0 then (some ((-1), p1.2)) else ((xldL p1.2 16 12 a1).bind fun v2 => (f_X1_holds N v2 p1.2).bind fun p3 => if p3.1 = 0 then (some (0, p3.2)) else (some (1, p3.2)))
def a_X9_known (N : Nat) : List Value → Wd → Option (Int32 × Wd) := fun as σ => kSE 0 as (fun r0 => kSI r0 (fun b1 r1 => kS0 r1 (f_X9_known N b1 σ))) (none)
set_option maxRecDepth 200000 in
theorem k_X9_211 : calchk RX9 211 2 1 yX1_holds cX1_holds 3 (some .boolean) = true := by decide +kernel
def ct_X9_known (N : Nat) : List (Nat × Cal) := [(104, 2, 3, .inl (a_X3_has N)), (211, 2, 1, .inl (a_X1_holds N))]
set_option maxRecDepth 200000 in
theorem md_X9_known (N : Nat) : MDOK T_X9_known ft_X9 lt_X9 (ct_X9_known N) cX9_known RX9 3 := ⟨tc_X9_known, fc_X9, lc_X9, List.forall_mem_cons.mpr ⟨Or.inl ⟨yX3_has, cX3_has, 2, (some .boolean), 1, k_X9_104, Nat.le_of_ble_eq_true rfl, C_X3_has N⟩, List.forall_mem_cons.mpr ⟨Or.inl ⟨yX1_holds, cX1_holds, 3, (some .boolean), 2, k_X9_211, Nat.le_of_ble_eq_true rfl, C_X1_holds N⟩, (fun _ z => absurd z List.not_mem_nil)⟩⟩⟩
set_option maxRecDepth 200000 in
theorem C_X9_known (N : Nat) : CTI 3 yX9_known cX9_known 2 (some .int) (a_X9_known N) := by
  refine CTI.of (own := RX9) (by decide) rfl (fun as σ r h => ?_)
  unfold a_X9_known at h
  rcases kSE_s h with ⟨r0, rfl, h0⟩ | hn
  ·
    obtain ⟨b1, r1, rfl, h1⟩ := kSI_s h0
    obtain ⟨rfl, h9⟩ := kS0_s h1
    exact ⟨Nat.le_of_ble_eq_true rfl, by refine GO.to (md_X9_known N) (kl := []) ((fun _ z => absurd z List.not_mem_nil)) 25 ?_ ?_ <;> rfl⟩
  cases hn
def T_X9_from : List (Nat × Ent) := [(0, .iload_n 1, 1, []), (1, .invokestatic 245, 4, []), (4, .ifCond .eq 12, 7, [16]), (7, .iload_n 2, 8, []), (8, .ifCond .lt 8, 11, [16]), (11, .iload_n 2, 12, []), (12, .iconst 1, 13, []), (13, .if_icmp .le 5, 16, [18]), (16, .iconst (-1), 17, []), (17, .ireturn, 18, []), (18, .aload_n 0, 19, []), (19, .getfield 62, 22, []), (22, .iload_n 1, 23, []), (23, .aaload, 24, []), (24, .astore_n 3, 25, []), (25, .aload_n 3, 26, []), (26, .getfield 248, 29, []), (29, .iconst 1, 30, []), (30, .if_icmp .eq 19, 33, [49]), (33, .aload_n 3, 34, []), (34, .getfield 248, 37, []), (37, .iconst (-1), 38, []), (38, .if_icmp .ne 8, 41, [46]), (41, .bipush (-11), 43, []), (43, .goto 5, 46, [48]), (46, .bipush (-12), 48, []), (48, .ireturn, 49, []), (49, .aload_n 3, 50, []), (50, .invokevirtual 278, 53, []), (53, .istore 4, 55, []), (55, .iconst 0, 56, []), (56, .istore 5, 58, []), (58, .iload 5, 60, []), (60, .iload 4, 62, []), (62, .if_icmp .ge 32, 65, [94]), (65, .aload_n 0, 66, []), (66, .getfield 42, 69, []), (69, .getfield 146, 72, []), (72, .iload_n 2, 73, []), (73, .bipush 12, 75, []), (75, .imul, 76, []), (76, .iload 5, 78, []), (78, .iadd, 79, []), (79, .aload_n 3, 80, []), (80, .getfield 270, 83, []), (83, .iload 5, 85, []), (85, .laload, 86, []), (86, .l2i, 87, []), (87, .iastore, 88, []), (88, .iinc 5 1, 91, []), (91, .goto (-33), 94, [58]), (94, .iload 4, 96, []), (96, .ifCond .le 7, 99, [103]), (99, .aload_n 0, 100, []), (100, .invokevirtual 139, 103, []), (103, .iload 4, 105, []), (105, .ireturn, 106, [])]
set_option maxRecDepth 200000 in
theorem tc_X9_from : T_X9_from.all (chk cX9_from) = true := by decide +kernel
def f_X9_from_L58 (N : Nat) (KO94 : Int32 → Wd → Option (Int32 × Wd)) : Nat → Int32 → Nat → Int32 → Int32 → Wd → Option (Int32 × Wd)
  | 0, _, _, _, _, _ => none
  | n + 1, x2, k3, x4, x5, σ => if x4 ≤ x5 then (KO94 x4 σ) else ((xldL σ (k3 + 28) 20 x5).bind fun v4 => (xst σ 31 25 ((x2 * 12) + x5) (Int64.toInt32 v4)).bind fun σ5 => f_X9_from_L58 N KO94 n x2 k3 x4 (x5 + 1) σ5)
def f_X9_from_J94 (N : Nat) (x4 : Int32) (σ : Wd) : Option (Int32 × Wd) :=
  if x4 ≤ 0 then (some (x4, σ)) else ((f_X9_timesHaveChanged N σ).bind fun σ6 => some (x4, σ6))
def f_X9_from (N : Nat) (a1 : Int32) (a2 : Int32) (σ : Wd) : Option (Int32 × Wd) :=
  (f_X9_isShelf N a1 σ).bind fun p1 => if p1.1 = 0 then (some ((-1), p1.2)) else (if a2 < 0 then (some ((-1), p1.2)) else (if a2 ≤ 1 then (xsh a1 fun k2 => if (p1.2.1 k2 1) = 1 then ((f_X5_leadingArrivals N k2 p1.2).bind fun p3 => f_X9_from_L58 N (f_X9_from_J94 N) N a2 k2 p3.1 0 p3.2) else (if (p1.2.1 k2 1) = (-1) then (some ((-11), p1.2)) else (some ((-12), p1.2)))) else (some ((-1), p1.2))))
def a_X9_from (N : Nat) : List Value → Wd → Option (Int32 × Wd) := fun as σ => kSE 0 as (fun r0 => kSI r0 (fun b1 r1 => kSI r1 (fun b2 r2 => kS0 r2 (f_X9_from N b1 b2 σ)))) (none)
set_option maxRecDepth 200000 in
theorem k_X9_278 : calchk RX9 278 1 5 yX5_leadingArrivals cX5_leadingArrivals 3 (some .int) = true := by decide +kernel
def ct_X9_from (N : Nat) : List (Nat × Cal) := [(245, 1, 0, .inl (a_X9_isShelf N)), (278, 1, 5, .inl (a_X5_leadingArrivals N)), (139, 1, 9, .inr (.inr (a_X9_timesHaveChanged N)))]
set_option maxRecDepth 200000 in
theorem md_X9_from (N : Nat) : MDOK T_X9_from ft_X9 lt_X9 (ct_X9_from N) cX9_from RX9 3 := ⟨tc_X9_from, fc_X9, lc_X9, List.forall_mem_cons.mpr ⟨Or.inl ⟨yX9_isShelf, cX9_isShelf, 1, (some .boolean), 1, k_X9_245, Nat.le_of_ble_eq_true rfl, C_X9_isShelf N⟩, List.forall_mem_cons.mpr ⟨Or.inl ⟨yX5_leadingArrivals, cX5_leadingArrivals, 3, (some .int), 2, k_X9_278, Nat.le_of_ble_eq_true rfl, C_X5_leadingArrivals N⟩, List.forall_mem_cons.mpr ⟨Or.inl ⟨yX9_timesHaveChanged, cX9_timesHaveChanged, 1, none, 1, k_X9_139, Nat.le_of_ble_eq_true rfl, C_X9_timesHaveChanged N⟩, (fun _ z => absurd z List.not_mem_nil)⟩⟩⟩⟩
set_option maxRecDepth 200000 in
theorem g_X9_from_L58 (N : Nat) (KO94 : Int32 → Wd → Option (Int32 × Wd)) (hKO94 : ∀ (x4 : Int32) (σ : Wd), GO cX9_from RX9 6 3 sc0 rI nJ0 nV0 (KO94 x4 σ) 94 (mkp 0 6 [(0, .ref 0), (4, .int x4)]) [] σ) : ∀ (n : Nat), ∀ (x2 : Int32) (k3 : Nat) (hk3 : (k3 = 9 ∨ k3 = 10 ∨ k3 = 11 ∨ k3 = 12)) (x4 : Int32) (x5 : Int32) (σ : Wd), GO cX9_from RX9 6 3 sc0 rI nJ0 nV0 (f_X9_from_L58 N KO94 n x2 k3 x4 x5 σ) 58 (mkp 0 6 [(0, .ref 0), (2, .int x2), (3, .ref k3), (4, .int x4), (5, .int x5)]) [] σ
  | 0, x2, k3, hk3, x4, x5, σ => GO.none
  | n + 1, x2, k3, hk3, x4, x5, σ => by
    rcases hk3 with rfl | rfl | rfl | rfl
    · exact (by refine GO.to (md_X9_from N) (kl := [(94, fun vs st σ => kS0 st (kA 0 0 vs (kI 4 vs (fun x4 => KO94 x4 σ)))), (58, fun vs st σ => kS0 st (kA 0 0 vs (kI 2 vs (fun x2 => kAE 3 9 vs (kI 4 vs (fun x4 => kI 5 vs (fun x5 => f_X9_from_L58 N KO94 n x2 9 x4 x5 σ))) (kAE 3 10 vs (kI 4 vs (fun x4 => kI 5 vs (fun x5 => f_X9_from_L58 N KO94 n x2 10 x4 x5 σ))) (kAE 3 11 vs (kI 4 vs (fun x4 => kI 5 vs (fun x5 => f_X9_from_L58 N KO94 n x2 11 x4 x5 σ))) (kAE 3 12 vs (kI 4 vs (fun x4 => kI 5 vs (fun x5 => f_X9_from_L58 N KO94 n x2 12 x4 x5 σ))) (none))))))))]) (List.forall_mem_cons.mpr ⟨fun vs st σ => go_kS0 (go_kA (fun h0 => go_kI (fun x4 h4 => GO.pat [(0, .ref 0), (4, .int x4)] ⟨h0, h4, trivial⟩ (hKO94 x4 σ)))), List.forall_mem_cons.mpr ⟨fun vs st σ => go_kS0 (go_kA (fun h0 => go_kI (fun x2 h2 => go_kAE (fun h3 => go_kI (fun x4 h4 => go_kI (fun x5 h5 => GO.pat [(0, .ref 0), (2, .int x2), (3, .ref 9), (4, .int x4), (5, .int x5)] ⟨h0, h2, h3, h4, h5, trivial⟩ (g_X9_from_L58 N KO94 hKO94 n x2 9 (Or.inl rfl) x4 x5 σ)))) (go_kAE (fun h3 => go_kI (fun x4 h4 => go_kI (fun x5 h5 => GO.pat [(0, .ref 0), (2, .int x2), (3, .ref 10), (4, .int x4), (5, .int x5)] ⟨h0, h2, h3, h4, h5, trivial⟩ (g_X9_from_L58 N KO94 hKO94 n x2 10 (Or.inr (Or.inl rfl)) x4 x5 σ)))) (go_kAE (fun h3 => go_kI (fun x4 h4 => go_kI (fun x5 h5 => GO.pat [(0, .ref 0), (2, .int x2), (3, .ref 11), (4, .int x4), (5, .int x5)] ⟨h0, h2, h3, h4, h5, trivial⟩ (g_X9_from_L58 N KO94 hKO94 n x2 11 (Or.inr (Or.inr (Or.inl rfl))) x4 x5 σ)))) (go_kAE (fun h3 => go_kI (fun x4 h4 => go_kI (fun x5 h5 => GO.pat [(0, .ref 0), (2, .int x2), (3, .ref 12), (4, .int x4), (5, .int x5)] ⟨h0, h2, h3, h4, h5, trivial⟩ (g_X9_from_L58 N KO94 hKO94 n x2 12 (Or.inr (Or.inr (Or.inr rfl))) x4 x5 σ)))) (GO.none))))))), (fun _ z => absurd z List.not_mem_nil)⟩⟩) 62 ?_ ?_ <;> rfl)
    · exact (by refine GO.to (md_X9_from N) (kl := [(94, fun vs st σ => kS0 st (kA 0 0 vs (kI 4 vs (fun x4 => KO94 x4 σ)))), (58, fun vs st σ => kS0 st (kA 0 0 vs (kI 2 vs (fun x2 => kAE 3 9 vs (kI 4 vs (fun x4 => kI 5 vs (fun x5 => f_X9_from_L58 N KO94 n x2 9 x4 x5 σ))) (kAE 3 10 vs (kI 4 vs (fun x4 => kI 5 vs (fun x5 => f_X9_from_L58 N KO94 n x2 10 x4 x5 σ))) (kAE 3 11 vs (kI 4 vs (fun x4 => kI 5 vs (fun x5 => f_X9_from_L58 N KO94 n x2 11 x4 x5 σ))) (kAE 3 12 vs (kI 4 vs (fun x4 => kI 5 vs (fun x5 => f_X9_from_L58 N KO94 n x2 12 x4 x5 σ))) (none))))))))]) (List.forall_mem_cons.mpr ⟨fun vs st σ => go_kS0 (go_kA (fun h0 => go_kI (fun x4 h4 => GO.pat [(0, .ref 0), (4, .int x4)] ⟨h0, h4, trivial⟩ (hKO94 x4 σ)))), List.forall_mem_cons.mpr ⟨fun vs st σ => go_kS0 (go_kA (fun h0 => go_kI (fun x2 h2 => go_kAE (fun h3 => go_kI (fun x4 h4 => go_kI (fun x5 h5 => GO.pat [(0, .ref 0), (2, .int x2), (3, .ref 9), (4, .int x4), (5, .int x5)] ⟨h0, h2, h3, h4, h5, trivial⟩ (g_X9_from_L58 N KO94 hKO94 n x2 9 (Or.inl rfl) x4 x5 σ)))) (go_kAE (fun h3 => go_kI (fun x4 h4 => go_kI (fun x5 h5 => GO.pat [(0, .ref 0), (2, .int x2), (3, .ref 10), (4, .int x4), (5, .int x5)] ⟨h0, h2, h3, h4, h5, trivial⟩ (g_X9_from_L58 N KO94 hKO94 n x2 10 (Or.inr (Or.inl rfl)) x4 x5 σ)))) (go_kAE (fun h3 => go_kI (fun x4 h4 => go_kI (fun x5 h5 => GO.pat [(0, .ref 0), (2, .int x2), (3, .ref 11), (4, .int x4), (5, .int x5)] ⟨h0, h2, h3, h4, h5, trivial⟩ (g_X9_from_L58 N KO94 hKO94 n x2 11 (Or.inr (Or.inr (Or.inl rfl))) x4 x5 σ)))) (go_kAE (fun h3 => go_kI (fun x4 h4 => go_kI (fun x5 h5 => GO.pat [(0, .ref 0), (2, .int x2), (3, .ref 12), (4, .int x4), (5, .int x5)] ⟨h0, h2, h3, h4, h5, trivial⟩ (g_X9_from_L58 N KO94 hKO94 n x2 12 (Or.inr (Or.inr (Or.inr rfl))) x4 x5 σ)))) (GO.none))))))), (fun _ z => absurd z List.not_mem_nil)⟩⟩) 62 ?_ ?_ <;> rfl)
    · exact (by refine GO.to (md_X9_from N) (kl := [(94, fun vs st σ => kS0 st (kA 0 0 vs (kI 4 vs (fun x4 => KO94 x4 σ)))), (58, fun vs st σ => kS0 st (kA 0 0 vs (kI 2 vs (fun x2 => kAE 3 9 vs (kI 4 vs (fun x4 => kI 5 vs (fun x5 => f_X9_from_L58 N KO94 n x2 9 x4 x5 σ))) (kAE 3 10 vs (kI 4 vs (fun x4 => kI 5 vs (fun x5 => f_X9_from_L58 N KO94 n x2 10 x4 x5 σ))) (kAE 3 11 vs (kI 4 vs (fun x4 => kI 5 vs (fun x5 => f_X9_from_L58 N KO94 n x2 11 x4 x5 σ))) (kAE 3 12 vs (kI 4 vs (fun x4 => kI 5 vs (fun x5 => f_X9_from_L58 N KO94 n x2 12 x4 x5 σ))) (none))))))))]) (List.forall_mem_cons.mpr ⟨fun vs st σ => go_kS0 (go_kA (fun h0 => go_kI (fun x4 h4 => GO.pat [(0, .ref 0), (4, .int x4)] ⟨h0, h4, trivial⟩ (hKO94 x4 σ)))), List.forall_mem_cons.mpr ⟨fun vs st σ => go_kS0 (go_kA (fun h0 => go_kI (fun x2 h2 => go_kAE (fun h3 => go_kI (fun x4 h4 => go_kI (fun x5 h5 => GO.pat [(0, .ref 0), (2, .int x2), (3, .ref 9), (4, .int x4), (5, .int x5)] ⟨h0, h2, h3, h4, h5, trivial⟩ (g_X9_from_L58 N KO94 hKO94 n x2 9 (Or.inl rfl) x4 x5 σ)))) (go_kAE (fun h3 => go_kI (fun x4 h4 => go_kI (fun x5 h5 => GO.pat [(0, .ref 0), (2, .int x2), (3, .ref 10), (4, .int x4), (5, .int x5)] ⟨h0, h2, h3, h4, h5, trivial⟩ (g_X9_from_L58 N KO94 hKO94 n x2 10 (Or.inr (Or.inl rfl)) x4 x5 σ)))) (go_kAE (fun h3 => go_kI (fun x4 h4 => go_kI (fun x5 h5 => GO.pat [(0, .ref 0), (2, .int x2), (3, .ref 11), (4, .int x4), (5, .int x5)] ⟨h0, h2, h3, h4, h5, trivial⟩ (g_X9_from_L58 N KO94 hKO94 n x2 11 (Or.inr (Or.inr (Or.inl rfl))) x4 x5 σ)))) (go_kAE (fun h3 => go_kI (fun x4 h4 => go_kI (fun x5 h5 => GO.pat [(0, .ref 0), (2, .int x2), (3, .ref 12), (4, .int x4), (5, .int x5)] ⟨h0, h2, h3, h4, h5, trivial⟩ (g_X9_from_L58 N KO94 hKO94 n x2 12 (Or.inr (Or.inr (Or.inr rfl))) x4 x5 σ)))) (GO.none))))))), (fun _ z => absurd z List.not_mem_nil)⟩⟩) 62 ?_ ?_ <;> rfl)
    · exact (by refine GO.to (md_X9_from N) (kl := [(94, fun vs st σ => kS0 st (kA 0 0 vs (kI 4 vs (fun x4 => KO94 x4 σ)))), (58, fun vs st σ => kS0 st (kA 0 0 vs (kI 2 vs (fun x2 => kAE 3 9 vs (kI 4 vs (fun x4 => kI 5 vs (fun x5 => f_X9_from_L58 N KO94 n x2 9 x4 x5 σ))) (kAE 3 10 vs (kI 4 vs (fun x4 => kI 5 vs (fun x5 => f_X9_from_L58 N KO94 n x2 10 x4 x5 σ))) (kAE 3 11 vs (kI 4 vs (fun x4 => kI 5 vs (fun x5 => f_X9_from_L58 N KO94 n x2 11 x4 x5 σ))) (kAE 3 12 vs (kI 4 vs (fun x4 => kI 5 vs (fun x5 => f_X9_from_L58 N KO94 n x2 12 x4 x5 σ))) (none))))))))]) (List.forall_mem_cons.mpr ⟨fun vs st σ => go_kS0 (go_kA (fun h0 => go_kI (fun x4 h4 => GO.pat [(0, .ref 0), (4, .int x4)] ⟨h0, h4, trivial⟩ (hKO94 x4 σ)))), List.forall_mem_cons.mpr ⟨fun vs st σ => go_kS0 (go_kA (fun h0 => go_kI (fun x2 h2 => go_kAE (fun h3 => go_kI (fun x4 h4 => go_kI (fun x5 h5 => GO.pat [(0, .ref 0), (2, .int x2), (3, .ref 9), (4, .int x4), (5, .int x5)] ⟨h0, h2, h3, h4, h5, trivial⟩ (g_X9_from_L58 N KO94 hKO94 n x2 9 (Or.inl rfl) x4 x5 σ)))) (go_kAE (fun h3 => go_kI (fun x4 h4 => go_kI (fun x5 h5 => GO.pat [(0, .ref 0), (2, .int x2), (3, .ref 10), (4, .int x4), (5, .int x5)] ⟨h0, h2, h3, h4, h5, trivial⟩ (g_X9_from_L58 N KO94 hKO94 n x2 10 (Or.inr (Or.inl rfl)) x4 x5 σ)))) (go_kAE (fun h3 => go_kI (fun x4 h4 => go_kI (fun x5 h5 => GO.pat [(0, .ref 0), (2, .int x2), (3, .ref 11), (4, .int x4), (5, .int x5)] ⟨h0, h2, h3, h4, h5, trivial⟩ (g_X9_from_L58 N KO94 hKO94 n x2 11 (Or.inr (Or.inr (Or.inl rfl))) x4 x5 σ)))) (go_kAE (fun h3 => go_kI (fun x4 h4 => go_kI (fun x5 h5 => GO.pat [(0, .ref 0), (2, .int x2), (3, .ref 12), (4, .int x4), (5, .int x5)] ⟨h0, h2, h3, h4, h5, trivial⟩ (g_X9_from_L58 N KO94 hKO94 n x2 12 (Or.inr (Or.inr (Or.inr rfl))) x4 x5 σ)))) (GO.none))))))), (fun _ z => absurd z List.not_mem_nil)⟩⟩) 62 ?_ ?_ <;> rfl)
set_option maxRecDepth 200000 in
theorem g_X9_from_J94 (N : Nat) (x4 : Int32) (σ : Wd) : GO cX9_from RX9 6 3 sc0 rI nJ0 nV0 (f_X9_from_J94 N x4 σ) 94 (mkp 0 6 [(0, .ref 0), (4, .int x4)]) [] σ := by
  exact (by refine GO.to (md_X9_from N) (kl := []) ((fun _ z => absurd z List.not_mem_nil)) 62 ?_ ?_ <;> rfl)
set_option maxRecDepth 200000 in
theorem C_X9_from (N : Nat) : CTI 3 yX9_from cX9_from 6 (some .int) (a_X9_from N) := by
  refine CTI.of (own := RX9) (by decide) rfl (fun as σ r h => ?_)
  unfold a_X9_from at h
  rcases kSE_s h with ⟨r0, rfl, h0⟩ | hn
  ·
    obtain ⟨b1, r1, rfl, h1⟩ := kSI_s h0
    obtain ⟨b2, r2, rfl, h2⟩ := kSI_s h1
    obtain ⟨rfl, h9⟩ := kS0_s h2
    exact ⟨Nat.le_of_ble_eq_true rfl, by refine GO.to (md_X9_from N) (kl := [(58, fun vs st σ => kS0 st (kA 0 0 vs (kI 2 vs (fun x2 => kAE 3 9 vs (kI 4 vs (fun x4 => kI 5 vs (fun x5 => f_X9_from_L58 N (f_X9_from_J94 N) N x2 9 x4 x5 σ))) (kAE 3 10 vs (kI 4 vs (fun x4 => kI 5 vs (fun x5 => f_X9_from_L58 N (f_X9_from_J94 N) N x2 10 x4 x5 σ))) (kAE 3 11 vs (kI 4 vs (fun x4 => kI 5 vs (fun x5 => f_X9_from_L58 N (f_X9_from_J94 N) N x2 11 x4 x5 σ))) (kAE 3 12 vs (kI 4 vs (fun x4 => kI 5 vs (fun x5 => f_X9_from_L58 N (f_X9_from_J94 N) N x2 12 x4 x5 σ))) (none))))))))]) (List.forall_mem_cons.mpr ⟨fun vs st σ => go_kS0 (go_kA (fun h0 => go_kI (fun x2 h2 => go_kAE (fun h3 => go_kI (fun x4 h4 => go_kI (fun x5 h5 => GO.pat [(0, .ref 0), (2, .int x2), (3, .ref 9), (4, .int x4), (5, .int x5)] ⟨h0, h2, h3, h4, h5, trivial⟩ (g_X9_from_L58 N (f_X9_from_J94 N) (g_X9_from_J94 N) N x2 9 (Or.inl rfl) x4 x5 σ)))) (go_kAE (fun h3 => go_kI (fun x4 h4 => go_kI (fun x5 h5 => GO.pat [(0, .ref 0), (2, .int x2), (3, .ref 10), (4, .int x4), (5, .int x5)] ⟨h0, h2, h3, h4, h5, trivial⟩ (g_X9_from_L58 N (f_X9_from_J94 N) (g_X9_from_J94 N) N x2 10 (Or.inr (Or.inl rfl)) x4 x5 σ)))) (go_kAE (fun h3 => go_kI (fun x4 h4 => go_kI (fun x5 h5 => GO.pat [(0, .ref 0), (2, .int x2), (3, .ref 11), (4, .int x4), (5, .int x5)] ⟨h0, h2, h3, h4, h5, trivial⟩ (g_X9_from_L58 N (f_X9_from_J94 N) (g_X9_from_J94 N) N x2 11 (Or.inr (Or.inr (Or.inl rfl))) x4 x5 σ)))) (go_kAE (fun h3 => go_kI (fun x4 h4 => go_kI (fun x5 h5 => GO.pat [(0, .ref 0), (2, .int x2), (3, .ref 12), (4, .int x4), (5, .int x5)] ⟨h0, h2, h3, h4, h5, trivial⟩ (g_X9_from_L58 N (f_X9_from_J94 N) (g_X9_from_J94 N) N x2 12 (Or.inr (Or.inr (Or.inr rfl))) x4 x5 σ)))) (GO.none))))))), (fun _ z => absurd z List.not_mem_nil)⟩) 62 ?_ ?_ <;> rfl⟩
  cases hn
def T_X9_read : List (Nat × Ent) := [(0, .aload_n 0, 1, []), (1, .getfield 12, 4, []), (4, .invokevirtual 79, 7, []), (7, .istore_n 1, 8, []), (8, .aload_n 0, 9, []), (9, .getfield 12, 12, []), (12, .aload_n 0, 13, []), (13, .getfield 12, 16, []), (16, .invokevirtual 83, 19, []), (19, .invokevirtual 86, 22, []), (22, .istore_n 2, 23, []), (23, .aload_n 0, 24, []), (24, .getfield 12, 27, []), (27, .iconst 0, 28, []), (28, .putfield 75, 31, []), (31, .iload_n 1, 32, []), (32, .ifCond .lt 8, 35, [40]), (35, .bipush (-100), 37, []), (37, .iload_n 1, 38, []), (38, .isub, 39, []), (39, .ireturn, 40, []), (40, .aload_n 0, 41, []), (41, .getfield 21, 44, []), (44, .iload_n 2, 45, []), (45, .aload_n 0, 46, []), (46, .getfield 12, 49, []), (49, .getfield 90, 52, []), (52, .invokevirtual 94, 55, []), (55, .ireturn, 56, [])]
set_option maxRecDepth 200000 in
theorem tc_X9_read : T_X9_read.all (chk cX9_read) = true := by decide +kernel
def f_X9_read (N : Nat) (σ : Wd) : Option (Int32 × Wd) :=
  (f_X7_parse N σ).bind fun p1 => (f_X7_letters N p1.2).bind fun p2 => (f_X7_nameCode N p2.1 p2.2).bind fun p3 => let σ4 : Wd := sF p3.2 1 1 0
  if p1.1 < 0 then ((f_X3_tell N p3.1 (σ4.2 1 2) σ4).bind fun p5 => some (p5.1, p5.2)) else (some ((-100) - p1.1, σ4))
def a_X9_read (N : Nat) : List Value → Wd → Option (Int32 × Wd) := fun as σ => kSE 0 as (fun r0 => kS0 r0 (f_X9_read N σ)) (none)
set_option maxRecDepth 200000 in
theorem k_X9_79 : calchk RX9 79 1 7 yX7_parse cX7_parse 8 (some .int) = true := by decide +kernel
set_option maxRecDepth 200000 in
theorem k_X9_83 : calchk RX9 83 1 7 yX7_letters cX7_letters 2 (some .int) = true := by decide +kernel
set_option maxRecDepth 200000 in
theorem k_X9_86 : calchk RX9 86 2 7 yX7_nameCode cX7_nameCode 4 (some .int) = true := by decide +kernel
set_option maxRecDepth 200000 in
theorem k_X9_94 : calchk RX9 94 3 3 yX3_tell cX3_tell 5 (some .int) = true := by decide +kernel
def ct_X9_read (N : Nat) : List (Nat × Cal) := [(79, 1, 7, .inl (a_X7_parse N)), (83, 1, 7, .inl (a_X7_letters N)), (86, 2, 7, .inl (a_X7_nameCode N)), (94, 3, 3, .inl (a_X3_tell N))]
set_option maxRecDepth 200000 in
theorem md_X9_read (N : Nat) : MDOK T_X9_read ft_X9 lt_X9 (ct_X9_read N) cX9_read RX9 4 := ⟨tc_X9_read, fc_X9, lc_X9, List.forall_mem_cons.mpr ⟨Or.inl ⟨yX7_parse, cX7_parse, 8, (some .int), 3, k_X9_79, Nat.le_of_ble_eq_true rfl, C_X7_parse N⟩, List.forall_mem_cons.mpr ⟨Or.inl ⟨yX7_letters, cX7_letters, 2, (some .int), 2, k_X9_83, Nat.le_of_ble_eq_true rfl, C_X7_letters N⟩, List.forall_mem_cons.mpr ⟨Or.inl ⟨yX7_nameCode, cX7_nameCode, 4, (some .int), 1, k_X9_86, Nat.le_of_ble_eq_true rfl, C_X7_nameCode N⟩, List.forall_mem_cons.mpr ⟨Or.inl ⟨yX3_tell, cX3_tell, 5, (some .int), 2, k_X9_94, Nat.le_of_ble_eq_true rfl, C_X3_tell N⟩, (fun _ z => absurd z List.not_mem_nil)⟩⟩⟩⟩⟩
set_option maxRecDepth 200000 in
theorem C_X9_read (N : Nat) : CTI 4 yX9_read cX9_read 3 (some .int) (a_X9_read N) := by
  refine CTI.of (own := RX9) (by decide) rfl (fun as σ r h => ?_)
  unfold a_X9_read at h
  rcases kSE_s h with ⟨r0, rfl, h0⟩ | hn
  ·
    obtain ⟨rfl, h9⟩ := kS0_s h0
    exact ⟨Nat.le_of_ble_eq_true rfl, by refine GO.to (md_X9_read N) (kl := []) ((fun _ z => absurd z List.not_mem_nil)) 34 ?_ ?_ <;> rfl⟩
  cases hn
def T_X9_find : List (Nat × Ent) := [(0, .aload_n 0, 1, []), (1, .getfield 12, 4, []), (4, .invokevirtual 98, 7, []), (7, .istore_n 1, 8, []), (8, .iload_n 1, 9, []), (9, .ifCond .ne 8, 12, [17]), (12, .bipush (-2), 14, []), (14, .goto 11, 17, [25]), (17, .aload_n 0, 18, []), (18, .getfield 21, 21, []), (21, .iload_n 1, 22, []), (22, .invokevirtual 101, 25, []), (25, .ireturn, 26, [])]
set_option maxRecDepth 200000 in
theorem tc_X9_find : T_X9_find.all (chk cX9_find) = true := by decide +kernel
def f_X9_find (N : Nat) (σ : Wd) : Option (Int32 × Wd) :=
  (f_X7_takeName N σ).bind fun p1 => if p1.1 = 0 then (some ((-2), p1.2)) else ((f_X3_numberOf N p1.1 p1.2).bind fun p2 => some (p2.1, p2.2))
def a_X9_find (N : Nat) : List Value → Wd → Option (Int32 × Wd) := fun as σ => kSE 0 as (fun r0 => kS0 r0 (f_X9_find N σ)) (none)
set_option maxRecDepth 200000 in
theorem k_X9_98 : calchk RX9 98 1 7 yX7_takeName cX7_takeName 3 (some .int) = true := by decide +kernel
set_option maxRecDepth 200000 in
theorem k_X9_101 : calchk RX9 101 2 3 yX3_numberOf cX3_numberOf 3 (some .int) = true := by decide +kernel
def ct_X9_find (N : Nat) : List (Nat × Cal) := [(98, 1, 7, .inl (a_X7_takeName N)), (101, 2, 3, .inl (a_X3_numberOf N))]
set_option maxRecDepth 200000 in
theorem md_X9_find (N : Nat) : MDOK T_X9_find ft_X9 lt_X9 (ct_X9_find N) cX9_find RX9 4 := ⟨tc_X9_find, fc_X9, lc_X9, List.forall_mem_cons.mpr ⟨Or.inl ⟨yX7_takeName, cX7_takeName, 3, (some .int), 3, k_X9_98, Nat.le_of_ble_eq_true rfl, C_X7_takeName N⟩, List.forall_mem_cons.mpr ⟨Or.inl ⟨yX3_numberOf, cX3_numberOf, 3, (some .int), 1, k_X9_101, Nat.le_of_ble_eq_true rfl, C_X3_numberOf N⟩, (fun _ z => absurd z List.not_mem_nil)⟩⟩⟩
set_option maxRecDepth 200000 in
theorem C_X9_find (N : Nat) : CTI 4 yX9_find cX9_find 2 (some .int) (a_X9_find N) := by
  refine CTI.of (own := RX9) (by decide) rfl (fun as σ r h => ?_)
  unfold a_X9_find at h
  rcases kSE_s h with ⟨r0, rfl, h0⟩ | hn
  ·
    obtain ⟨rfl, h9⟩ := kS0_s h0
    exact ⟨Nat.le_of_ble_eq_true rfl, by refine GO.to (md_X9_find N) (kl := []) ((fun _ z => absurd z List.not_mem_nil)) 18 ?_ ?_ <;> rfl⟩
  cases hn
def T_X9_plan : List (Nat × Ent) := [(0, .aload_n 0, 1, []), (1, .getfield 21, 4, []), (4, .iload_n 1, 5, []), (5, .invokevirtual 104, 8, []), (8, .ifCond .eq 9, 11, [17]), (11, .iload_n 2, 12, []), (12, .bipush (-2), 14, []), (14, .if_icmp .ge 5, 17, [19]), (17, .iconst (-1), 18, []), (18, .ireturn, 19, []), (19, .aload_n 0, 20, []), (20, .getfield 21, 23, []), (23, .getfield 114, 26, []), (26, .iload_n 1, 27, []), (27, .laload, 28, []), (28, .lstore_n 3, 29, []), (29, .iload_n 2, 30, []), (30, .iconst (-1), 31, []), (31, .if_icmp .ne 8, 34, [39]), (34, .lload_n 3, 35, []), (35, .invokestatic 117, 38, []), (38, .ireturn, 39, []), (39, .iload_n 2, 40, []), (40, .bipush (-2), 42, []), (42, .if_icmp .ne 8, 45, [50]), (45, .lload_n 3, 46, []), (46, .invokestatic 123, 49, []), (49, .ireturn, 50, []), (50, .lload_n 3, 51, []), (51, .iload_n 2, 52, []), (52, .invokestatic 125, 55, []), (55, .ireturn, 56, [])]
set_option maxRecDepth 200000 in
theorem tc_X9_plan : T_X9_plan.all (chk cX9_plan) = true := by decide +kernel
def f_X9_plan (N : Nat) (a1 : Int32) (a2 : Int32) (σ : Wd) : Option (Int32 × Wd) :=
  (f_X3_has N a1 σ).bind fun p1 => if p1.1 = 0 then (some ((-1), p1.2)) else (if (-2) ≤ a2 then ((xldL p1.2 16 12 a1).bind fun v2 => if a2 = (-1) then ((f_X0_width N v2 p1.2).bind fun p3 => some (p3.1, p3.2)) else (if a2 = (-2) then ((f_X0_amount N v2 p1.2).bind fun p4 => some (p4.1, p4.2)) else ((f_X0_figureOf N v2 a2 p1.2).bind fun p5 => some (p5.1, p5.2)))) else (some ((-1), p1.2)))
def a_X9_plan (N : Nat) : List Value → Wd → Option (Int32 × Wd) := fun as σ => kSE 0 as (fun r0 => kSI r0 (fun b1 r1 => kSI r1 (fun b2 r2 => kS0 r2 (f_X9_plan N b1 b2 σ)))) (none)
set_option maxRecDepth 200000 in
theorem k_X9_117 : calchk RX9 117 1 0 yX0_width cX0_width 4 (some .int) = true := by decide +kernel
set_option maxRecDepth 200000 in
theorem k_X9_123 : calchk RX9 123 1 0 yX0_amount cX0_amount 3 (some .int) = true := by decide +kernel
set_option maxRecDepth 200000 in
theorem k_X9_125 : calchk RX9 125 2 0 yX0_figureOf cX0_figureOf 3 (some .int) = true := by decide +kernel
def ct_X9_plan (N : Nat) : List (Nat × Cal) := [(104, 2, 3, .inl (a_X3_has N)), (117, 1, 0, .inl (a_X0_width N)), (123, 1, 0, .inl (a_X0_amount N)), (125, 2, 0, .inl (a_X0_figureOf N))]
set_option maxRecDepth 200000 in
theorem md_X9_plan (N : Nat) : MDOK T_X9_plan ft_X9 lt_X9 (ct_X9_plan N) cX9_plan RX9 4 := ⟨tc_X9_plan, fc_X9, lc_X9, List.forall_mem_cons.mpr ⟨Or.inl ⟨yX3_has, cX3_has, 2, (some .boolean), 1, k_X9_104, Nat.le_of_ble_eq_true rfl, C_X3_has N⟩, List.forall_mem_cons.mpr ⟨Or.inl ⟨yX0_width, cX0_width, 4, (some .int), 3, k_X9_117, Nat.le_of_ble_eq_true rfl, C_X0_width N⟩, List.forall_mem_cons.mpr ⟨Or.inl ⟨yX0_amount, cX0_amount, 3, (some .int), 2, k_X9_123, Nat.le_of_ble_eq_true rfl, C_X0_amount N⟩, List.forall_mem_cons.mpr ⟨Or.inl ⟨yX0_figureOf, cX0_figureOf, 3, (some .int), 3, k_X9_125, Nat.le_of_ble_eq_true rfl, C_X0_figureOf N⟩, (fun _ z => absurd z List.not_mem_nil)⟩⟩⟩⟩⟩
set_option maxRecDepth 200000 in
theorem C_X9_plan (N : Nat) : CTI 4 yX9_plan cX9_plan 5 (some .int) (a_X9_plan N) := by
  refine CTI.of (own := RX9) (by decide) rfl (fun as σ r h => ?_)
  unfold a_X9_plan at h
  rcases kSE_s h with ⟨r0, rfl, h0⟩ | hn
  ·
    obtain ⟨b1, r1, rfl, h1⟩ := kSI_s h0
    obtain ⟨b2, r2, rfl, h2⟩ := kSI_s h1
    obtain ⟨rfl, h9⟩ := kS0_s h2
    exact ⟨Nat.le_of_ble_eq_true rfl, by refine GO.to (md_X9_plan N) (kl := []) ((fun _ z => absurd z List.not_mem_nil)) 37 ?_ ?_ <;> rfl⟩
  cases hn
def T_X9_alike : List (Nat × Ent) := [(0, .aload_n 0, 1, []), (1, .getfield 21, 4, []), (4, .iload_n 1, 5, []), (5, .invokevirtual 104, 8, []), (8, .ifCond .eq 14, 11, [22]), (11, .aload_n 0, 12, []), (12, .getfield 21, 15, []), (15, .iload_n 2, 16, []), (16, .invokevirtual 104, 19, []), (19, .ifCond .ne 5, 22, [24]), (22, .iconst (-1), 23, []), (23, .ireturn, 24, []), (24, .aload_n 0, 25, []), (25, .getfield 21, 28, []), (28, .getfield 114, 31, []), (31, .iload_n 1, 32, []), (32, .laload, 33, []), (33, .lstore_n 3, 34, []), (34, .aload_n 0, 35, []), (35, .getfield 21, 38, []), (38, .getfield 114, 41, []), (41, .iload_n 2, 42, []), (42, .laload, 43, []), (43, .lstore 5, 45, []), (45, .lload_n 3, 46, []), (46, .lload 5, 48, []), (48, .lcmp, 49, []), (49, .ifCond .ne 5, 52, [54]), (52, .iconst 2, 53, []), (53, .ireturn, 54, []), (54, .lload_n 3, 55, []), (55, .invokestatic 117, 58, []), (58, .lload 5, 60, []), (60, .invokestatic 117, 63, []), (63, .if_icmp .ne 7, 66, [70]), (66, .iconst 1, 67, []), (67, .goto 4, 70, [71]), (70, .iconst 0, 71, []), (71, .ireturn, 72, [])]
set_option maxRecDepth 200000 in
theorem tc_X9_alike : T_X9_alike.all (chk cX9_alike) = true := by decide +kernel
def f_X9_alike (N : Nat) (a1 : Int32) (a2 : Int32) (σ : Wd) : Option (Int32 × Wd) :=
  (f_X3_has N a1 σ).bind fun p1 => if p1.1 = 0 then (some ((-1), p1.2)) else ((f_X3_has N a2 p1.2).bind fun p2 => if p2.1 = 0 then (some ((-1), p2.2)) else ((xldL p2.2 16 12 a1).bind fun v3 => (xldL p2.2 16 12 a2).bind fun v4 => if (lg_cmp v3 v4) = 0 then (some (2, p2.2)) else ((f_X0_width N v3 p2.2).bind fun p5 => (f_X0_width N v4 p5.2).bind fun p6 => if p5.1 = p6.1 then (some (1, p6.2)) else (some (0, p6.2)))))
def a_X9_alike (N : Nat) : List Value → Wd → Option (Int32 × Wd) := fun as σ => kSE 0 as (fun r0 => kSI r0 (fun b1 r1 => kSI r1 (fun b2 r2 => kS0 r2 (f_X9_alike N b1 b2 σ)))) (none)
def ct_X9_alike (N : Nat) : List (Nat × Cal) := [(104, 2, 3, .inl (a_X3_has N)), (117, 1, 0, .inl (a_X0_width N))]
set_option maxRecDepth 200000 in
theorem md_X9_alike (N : Nat) : MDOK T_X9_alike ft_X9 lt_X9 (ct_X9_alike N) cX9_alike RX9 4 := ⟨tc_X9_alike, fc_X9, lc_X9, List.forall_mem_cons.mpr ⟨Or.inl ⟨yX3_has, cX3_has, 2, (some .boolean), 1, k_X9_104, Nat.le_of_ble_eq_true rfl, C_X3_has N⟩, List.forall_mem_cons.mpr ⟨Or.inl ⟨yX0_width, cX0_width, 4, (some .int), 3, k_X9_117, Nat.le_of_ble_eq_true rfl, C_X0_width N⟩, (fun _ z => absurd z List.not_mem_nil)⟩⟩⟩
set_option maxRecDepth 200000 in
theorem C_X9_alike (N : Nat) : CTI 4 yX9_alike cX9_alike 7 (some .int) (a_X9_alike N) := by
  refine CTI.of (own := RX9) (by decide) rfl (fun as σ r h => ?_)
  unfold a_X9_alike at h
  rcases kSE_s h with ⟨r0, rfl, h0⟩ | hn
  ·
    obtain ⟨b1, r1, rfl, h1⟩ := kSI_s h0
    obtain ⟨b2, r2, rfl, h2⟩ := kSI_s h1
    obtain ⟨rfl, h9⟩ := kS0_s h2
    exact ⟨Nat.le_of_ble_eq_true rfl, by refine GO.to (md_X9_alike N) (kl := []) ((fun _ z => absurd z List.not_mem_nil)) 44 ?_ ?_ <;> rfl⟩
  cases hn
def T_X9_taken : List (Nat × Ent) := [(0, .iload_n 1, 1, []), (1, .invokestatic 245, 4, []), (4, .ifCond .eq 12, 7, [16]), (7, .iload_n 2, 8, []), (8, .ifCond .lt 8, 11, [16]), (11, .iload_n 2, 12, []), (12, .iconst 2, 13, []), (13, .if_icmp .le 5, 16, [18]), (16, .iconst (-1), 17, []), (17, .ireturn, 18, []), (18, .aload_n 0, 19, []), (19, .getfield 62, 22, []), (22, .iload_n 1, 23, []), (23, .aaload, 24, []), (24, .astore_n 3, 25, []), (25, .aload_n 3, 26, []), (26, .getfield 248, 29, []), (29, .iconst 2, 30, []), (30, .if_icmp .eq 19, 33, [49]), (33, .aload_n 3, 34, []), (34, .getfield 248, 37, []), (37, .iconst (-1), 38, []), (38, .if_icmp .ne 8, 41, [46]), (41, .bipush (-11), 43, []), (43, .goto 5, 46, [48]), (46, .bipush (-12), 48, []), (48, .ireturn, 49, []), (49, .iload_n 2, 50, []), (50, .ifCond .ne 11, 53, [61]), (53, .aload_n 3, 54, []), (54, .getfield 254, 57, []), (57, .invokestatic 117, 60, []), (60, .ireturn, 61, []), (61, .iload_n 2, 62, []), (62, .iconst 1, 63, []), (63, .if_icmp .ne 23, 66, [86]), (66, .aload_n 0, 67, []), (67, .getfield 28, 70, []), (70, .aload_n 3, 71, []), (71, .getfield 254, 74, []), (74, .invokevirtual 211, 77, []), (77, .ifCond .eq 7, 80, [84]), (80, .iconst 1, 81, []), (81, .goto 4, 84, [85]), (84, .iconst 0, 85, []), (85, .ireturn, 86, []), (86, .aload_n 0, 87, []), (87, .getfield 21, 90, []), (90, .aload_n 3, 91, []), (91, .getfield 254, 94, []), (94, .invokevirtual 256, 97, []), (97, .ireturn, 98, [])]
set_option maxRecDepth 200000 in
theorem tc_X9_taken : T_X9_taken.all (chk cX9_taken) = true := by decide +kernel
def f_X9_taken (N : Nat) (a1 : Int32) (a2 : Int32) (σ : Wd) : Option (Int32 × Wd) :=
  (f_X9_isShelf N a1 σ).bind fun p1 => if p1.1 = 0 then (some ((-1), p1.2)) else (if a2 < 0 then (some ((-1), p1.2)) else (if a2 ≤ 2 then (xsh a1 fun k2 => if (p1.2.1 k2 1) = 2 then (if a2 = 0 then ((f_X0_width N (p1.2.2 k2 3) p1.2).bind fun p3 => some (p3.1, p3.2)) else (if a2 = 1 then ((f_X1_holds N (p1.2.2 k2 3) p1.2).bind fun p4 => if p4.1 = 0 then (some (0, p4.2)) else (some (1, p4.2))) else ((f_X3_amountWith N (p1.2.2 k2 3) p1.2).bind fun p5 => some (p5.1, p5.2)))) else (if (p1.2.1 k2 1) = (-1) then (some ((-11), p1.2)) else (some ((-12), p1.2)))) else (some ((-1), p1.2))))
def a_X9_taken (N : Nat) : List Value → Wd → Option (Int32 × Wd) := fun as σ => kSE 0 as (fun r0 => kSI r0 (fun b1 r1 => kSI r1 (fun b2 r2 => kS0 r2 (f_X9_taken N b1 b2 σ)))) (none)
set_option maxRecDepth 200000 in
theorem k_X9_256 : calchk RX9 256 2 3 yX3_amountWith cX3_amountWith 5 (some .int) = true := by decide +kernel
def ct_X9_taken (N : Nat) : List (Nat × Cal) := [(245, 1, 0, .inl (a_X9_isShelf N)), (117, 1, 0, .inl (a_X0_width N)), (211, 2, 1, .inl (a_X1_holds N)), (256, 2, 3, .inl (a_X3_amountWith N))]
set_option maxRecDepth 200000 in
theorem md_X9_taken (N : Nat) : MDOK T_X9_taken ft_X9 lt_X9 (ct_X9_taken N) cX9_taken RX9 4 := ⟨tc_X9_taken, fc_X9, lc_X9, List.forall_mem_cons.mpr ⟨Or.inl ⟨yX9_isShelf, cX9_isShelf, 1, (some .boolean), 1, k_X9_245, Nat.le_of_ble_eq_true rfl, C_X9_isShelf N⟩, List.forall_mem_cons.mpr ⟨Or.inl ⟨yX0_width, cX0_width, 4, (some .int), 3, k_X9_117, Nat.le_of_ble_eq_true rfl, C_X0_width N⟩, List.forall_mem_cons.mpr ⟨Or.inl ⟨yX1_holds, cX1_holds, 3, (some .boolean), 2, k_X9_211, Nat.le_of_ble_eq_true rfl, C_X1_holds N⟩, List.forall_mem_cons.mpr ⟨Or.inl ⟨yX3_amountWith, cX3_amountWith, 5, (some .int), 1, k_X9_256, Nat.le_of_ble_eq_true rfl, C_X3_amountWith N⟩, (fun _ z => absurd z List.not_mem_nil)⟩⟩⟩⟩⟩
set_option maxRecDepth 200000 in
theorem C_X9_taken (N : Nat) : CTI 4 yX9_taken cX9_taken 4 (some .int) (a_X9_taken N) := by
  refine CTI.of (own := RX9) (by decide) rfl (fun as σ r h => ?_)
  unfold a_X9_taken at h
  rcases kSE_s h with ⟨r0, rfl, h0⟩ | hn
  ·
    obtain ⟨b1, r1, rfl, h1⟩ := kSI_s h0
    obtain ⟨b2, r2, rfl, h2⟩ := kSI_s h1
    obtain ⟨rfl, h9⟩ := kS0_s h2
    exact ⟨Nat.le_of_ble_eq_true rfl, by refine GO.to (md_X9_taken N) (kl := []) ((fun _ z => absurd z List.not_mem_nil)) 57 ?_ ?_ <;> rfl⟩
  cases hn
def T_X9_count : List (Nat × Ent) := [(0, .iload_n 1, 1, []), (1, .tableswitch 84 0 5 #[39, 47, 55, 63, 68, 76], 40, [85, 40, 48, 56, 64, 69, 77]), (40, .aload_n 0, 41, []), (41, .getfield 21, 44, []), (44, .getfield 111, 47, []), (47, .ireturn, 48, []), (48, .aload_n 0, 49, []), (49, .getfield 28, 52, []), (52, .getfield 281, 55, []), (55, .ireturn, 56, []), (56, .aload_n 0, 57, []), (57, .getfield 12, 60, []), (60, .getfield 75, 63, []), (63, .ireturn, 64, []), (64, .aload_n 0, 65, []), (65, .invokevirtual 282, 68, []), (68, .ireturn, 69, []), (69, .aload_n 0, 70, []), (70, .getfield 21, 73, []), (73, .invokevirtual 285, 76, []), (76, .ireturn, 77, []), (77, .aload_n 0, 78, []), (78, .getfield 21, 81, []), (81, .invokevirtual 288, 84, []), (84, .ireturn, 85, []), (85, .iconst (-1), 86, []), (86, .ireturn, 87, [])]
set_option maxRecDepth 200000 in
theorem tc_X9_count : T_X9_count.all (chk cX9_count) = true := by decide +kernel
def f_X9_count (N : Nat) (a1 : Int32) (σ : Wd) : Option (Int32 × Wd) :=
  if a1 = 0 then (some (σ.1 2 2, σ)) else if a1 = 1 then (some (σ.1 3 1, σ)) else if a1 = 2 then (some (σ.1 1 1, σ)) else if a1 = 3 then ((f_X9_filledShelves N σ).bind fun p1 => some (p1.1, p1.2)) else if a1 = 4 then ((f_X3_amountOfBlocks N σ).bind fun p2 => some (p2.1, p2.2)) else if a1 = 5 then ((f_X3_unlikeBlocks N σ).bind fun p3 => some (p3.1, p3.2)) else (some ((-1), σ))
def a_X9_count (N : Nat) : List Value → Wd → Option (Int32 × Wd) := fun as σ => kSE 0 as (fun r0 => kSI r0 (fun b1 r1 => kS0 r1 (f_X9_count N b1 σ))) (none)
set_option maxRecDepth 200000 in
theorem k_X9_282 : calchk RX9 282 1 9 yX9_filledShelves cX9_filledShelves 3 (some .int) = true := by decide +kernel
set_option maxRecDepth 200000 in
theorem k_X9_285 : calchk RX9 285 1 3 yX3_amountOfBlocks cX3_amountOfBlocks 3 (some .int) = true := by decide +kernel
set_option maxRecDepth 200000 in
theorem k_X9_288 : calchk RX9 288 1 3 yX3_unlikeBlocks cX3_unlikeBlocks 6 (some .int) = true := by decide +kernel
def ct_X9_count (N : Nat) : List (Nat × Cal) := [(282, 1, 9, .inl (a_X9_filledShelves N)), (285, 1, 3, .inl (a_X3_amountOfBlocks N)), (288, 1, 3, .inl (a_X3_unlikeBlocks N))]
set_option maxRecDepth 200000 in
theorem md_X9_count (N : Nat) : MDOK T_X9_count ft_X9 lt_X9 (ct_X9_count N) cX9_count RX9 4 := ⟨tc_X9_count, fc_X9, lc_X9, List.forall_mem_cons.mpr ⟨Or.inl ⟨yX9_filledShelves, cX9_filledShelves, 3, (some .int), 1, k_X9_282, Nat.le_of_ble_eq_true rfl, C_X9_filledShelves N⟩, List.forall_mem_cons.mpr ⟨Or.inl ⟨yX3_amountOfBlocks, cX3_amountOfBlocks, 3, (some .int), 3, k_X9_285, Nat.le_of_ble_eq_true rfl, C_X3_amountOfBlocks N⟩, List.forall_mem_cons.mpr ⟨Or.inl ⟨yX3_unlikeBlocks, cX3_unlikeBlocks, 6, (some .int), 3, k_X9_288, Nat.le_of_ble_eq_true rfl, C_X3_unlikeBlocks N⟩, (fun _ z => absurd z List.not_mem_nil)⟩⟩⟩⟩
set_option maxRecDepth 200000 in
theorem C_X9_count (N : Nat) : CTI 4 yX9_count cX9_count 2 (some .int) (a_X9_count N) := by
  refine CTI.of (own := RX9) (by decide) rfl (fun as σ r h => ?_)
  unfold a_X9_count at h
  rcases kSE_s h with ⟨r0, rfl, h0⟩ | hn
  ·
    obtain ⟨b1, r1, rfl, h1⟩ := kSI_s h0
    obtain ⟨rfl, h9⟩ := kS0_s h1
    exact ⟨Nat.le_of_ble_eq_true rfl, by refine GO.to (md_X9_count N) (kl := []) ((fun _ z => absurd z List.not_mem_nil)) 32 ?_ ?_ <;> rfl⟩
  cases hn
def T_X9_hasOutcome : List (Nat × Ent) := [(0, .aload_n 0, 1, []), (1, .getfield 21, 4, []), (4, .iload_n 1, 5, []), (5, .invokevirtual 104, 8, []), (8, .ifCond .eq 28, 11, [36]), (11, .iload_n 2, 12, []), (12, .iconst (-1), 13, []), (13, .if_icmp .lt 23, 16, [36]), (16, .iload_n 2, 17, []), (17, .aload_n 0, 18, []), (18, .getfield 21, 21, []), (21, .getfield 114, 24, []), (24, .iload_n 1, 25, []), (25, .laload, 26, []), (26, .invokestatic 117, 29, []), (29, .if_icmp .gt 7, 32, [36]), (32, .iconst 1, 33, []), (33, .goto 4, 36, [37]), (36, .iconst 0, 37, []), (37, .ireturn, 38, [])]
set_option maxRecDepth 200000 in
theorem tc_X9_hasOutcome : T_X9_hasOutcome.all (chk cX9_hasOutcome) = true := by decide +kernel
def f_X9_hasOutcome (N : Nat) (a1 : Int32) (a2 : Int32) (σ : Wd) : Option (Int32 × Wd) :=
  (f_X3_has N a1 σ).bind fun p1 => if p1.1 = 0 then (some (0, p1.2)) else (if a2 < (-1) then (some (0, p1.2)) else ((xldL p1.2 16 12 a1).bind fun v2 => (f_X0_width N v2 p1.2).bind fun p3 => if p3.1 < a2 then (some (0, p3.2)) else (some (1, p3.2))))
def a_X9_hasOutcome (N : Nat) : List Value → Wd → Option (Int32 × Wd) := fun as σ => kSE 0 as (fun r0 => kSI r0 (fun b1 r1 => kSI r1 (fun b2 r2 => kS0 r2 (f_X9_hasOutcome N b1 b2 σ)))) (none)
def ct_X9_hasOutcome (N : Nat) : List (Nat × Cal) := [(104, 2, 3, .inl (a_X3_has N)), (117, 1, 0, .inl (a_X0_width N))]
set_option maxRecDepth 200000 in
theorem md_X9_hasOutcome (N : Nat) : MDOK T_X9_hasOutcome ft_X9 lt_X9 (ct_X9_hasOutcome N) cX9_hasOutcome RX9 4 := ⟨tc_X9_hasOutcome, fc_X9, lc_X9, List.forall_mem_cons.mpr ⟨Or.inl ⟨yX3_has, cX3_has, 2, (some .boolean), 1, k_X9_104, Nat.le_of_ble_eq_true rfl, C_X3_has N⟩, List.forall_mem_cons.mpr ⟨Or.inl ⟨yX0_width, cX0_width, 4, (some .int), 3, k_X9_117, Nat.le_of_ble_eq_true rfl, C_X0_width N⟩, (fun _ z => absurd z List.not_mem_nil)⟩⟩⟩
set_option maxRecDepth 200000 in
theorem C_X9_hasOutcome (N : Nat) : CTI 4 yX9_hasOutcome cX9_hasOutcome 3 (some .boolean) (a_X9_hasOutcome N) := by
  refine CTZ.of (own := RX9) (by decide) rfl (fun as σ r h => ?_)
  unfold a_X9_hasOutcome at h
  rcases kSE_s h with ⟨r0, rfl, h0⟩ | hn
  ·
    obtain ⟨b1, r1, rfl, h1⟩ := kSI_s h0
    obtain ⟨b2, r2, rfl, h2⟩ := kSI_s h1
    obtain ⟨rfl, h9⟩ := kS0_s h2
    exact ⟨Nat.le_of_ble_eq_true rfl, by refine GO.to (md_X9_hasOutcome N) (kl := []) ((fun _ z => absurd z List.not_mem_nil)) 25 ?_ ?_ <;> rfl⟩
  cases hn
def T_X9_buildNetOf : List (Nat × Ent) := [(0, .aload_n 0, 1, []), (1, .getfield 35, 4, []), (4, .invokevirtual 296, 7, []), (7, .aload_n 0, 8, []), (8, .getfield 35, 11, []), (11, .aload_n 0, 12, []), (12, .getfield 21, 15, []), (15, .getfield 114, 18, []), (18, .iload_n 1, 19, []), (19, .laload, 20, []), (20, .invokevirtual 299, 23, []), (23, .return_, 24, [])]
set_option maxRecDepth 200000 in
theorem tc_X9_buildNetOf : T_X9_buildNetOf.all (chk cX9_buildNetOf) = true := by decide +kernel
def f_X9_buildNetOf (N : Nat) (a1 : Int32) (σ : Wd) : Option Wd :=
  (f_X2_clear N σ).bind fun σ1 => (xldL σ1 16 12 a1).bind fun v2 => (f_X2_build N v2 σ1).bind fun σ3 => some σ3
def a_X9_buildNetOf (N : Nat) : List Value → Wd → Option Wd := fun as σ => kSE 0 as (fun r0 => kSI r0 (fun b1 r1 => kS0 r1 (f_X9_buildNetOf N b1 σ))) (none)
set_option maxRecDepth 200000 in
theorem k_X9_296 : calchk RX9 296 1 2 yX2_clear cX2_clear 2 none = true := by decide +kernel
set_option maxRecDepth 200000 in
theorem k_X9_299 : calchk RX9 299 2 2 yX2_build cX2_build 5 none = true := by decide +kernel
def ct_X9_buildNetOf (N : Nat) : List (Nat × Cal) := [(296, 1, 2, .inr (.inr (a_X2_clear N))), (299, 2, 2, .inr (.inr (a_X2_build N)))]
set_option maxRecDepth 200000 in
theorem md_X9_buildNetOf (N : Nat) : MDOK T_X9_buildNetOf ft_X9 lt_X9 (ct_X9_buildNetOf N) cX9_buildNetOf RX9 16 := ⟨tc_X9_buildNetOf, fc_X9, lc_X9, List.forall_mem_cons.mpr ⟨Or.inl ⟨yX2_clear, cX2_clear, 2, none, 1, k_X9_296, Nat.le_of_ble_eq_true rfl, C_X2_clear N⟩, List.forall_mem_cons.mpr ⟨Or.inl ⟨yX2_build, cX2_build, 5, none, 15, k_X9_299, Nat.le_of_ble_eq_true rfl, C_X2_build N⟩, (fun _ z => absurd z List.not_mem_nil)⟩⟩⟩
set_option maxRecDepth 200000 in
theorem C_X9_buildNetOf (N : Nat) : CTV 16 yX9_buildNetOf cX9_buildNetOf 2 none (a_X9_buildNetOf N) := by
  refine CTV.of (own := RX9) (by decide) rfl (fun as σ r h => ?_)
  unfold a_X9_buildNetOf at h
  rcases kSE_s h with ⟨r0, rfl, h0⟩ | hn
  ·
    obtain ⟨b1, r1, rfl, h1⟩ := kSI_s h0
    obtain ⟨rfl, h9⟩ := kS0_s h1
    exact ⟨Nat.le_of_ble_eq_true rfl, by refine GO.to (md_X9_buildNetOf N) (kl := []) ((fun _ z => absurd z List.not_mem_nil)) 17 ?_ ?_ <;> rfl⟩
  cases hn
def T_X9_gates : List (Nat × Ent) := [(0, .aload_n 0, 1, []), (1, .getfield 21, 4, []), (4, .iload_n 1, 5, []), (5, .invokevirtual 104, 8, []), (8, .ifCond .eq 13, 11, [21]), (11, .iload_n 2, 12, []), (12, .iconst (-1), 13, []), (13, .if_icmp .lt 8, 16, [21]), (16, .iload_n 2, 17, []), (17, .iconst 3, 18, []), (18, .if_icmp .le 5, 21, [23]), (21, .iconst (-1), 22, []), (22, .ireturn, 23, []), (23, .aload_n 0, 24, []), (24, .getfield 28, 27, []), (27, .aload_n 0, 28, []), (28, .getfield 21, 31, []), (31, .getfield 114, 34, []), (34, .iload_n 1, 35, []), (35, .laload, 36, []), (36, .invokevirtual 149, 39, []), (39, .aload_n 0, 40, []), (40, .iload_n 1, 41, []), (41, .invokevirtual 153, 44, []), (44, .aload_n 0, 45, []), (45, .getfield 35, 48, []), (48, .invokevirtual 156, 51, []), (51, .aload_n 0, 52, []), (52, .getfield 35, 55, []), (55, .iload_n 2, 56, []), (56, .invokevirtual 159, 59, []), (59, .ireturn, 60, [])]
set_option maxRecDepth 200000 in
theorem tc_X9_gates : T_X9_gates.all (chk cX9_gates) = true := by decide +kernel
def f_X9_gates (N : Nat) (a1 : Int32) (a2 : Int32) (σ : Wd) : Option (Int32 × Wd) :=
  (f_X3_has N a1 σ).bind fun p1 => if p1.1 = 0 then (some ((-1), p1.2)) else (if a2 < (-1) then (some ((-1), p1.2)) else (if a2 ≤ 3 then ((xldL p1.2 16 12 a1).bind fun v2 => (f_X1_ask N v2 p1.2).bind fun σ3 => (f_X9_buildNetOf N a1 σ3).bind fun σ4 => (f_X2_markUsed N σ4).bind fun σ5 => (f_X2_usedGates N a2 σ5).bind fun p6 => some (p6.1, p6.2)) else (some ((-1), p1.2))))
def a_X9_gates (N : Nat) : List Value → Wd → Option (Int32 × Wd) := fun as σ => kSE 0 as (fun r0 => kSI r0 (fun b1 r1 => kSI r1 (fun b2 r2 => kS0 r2 (f_X9_gates N b1 b2 σ)))) (none)
set_option maxRecDepth 200000 in
theorem k_X9_149 : calchk RX9 149 2 1 yX1_ask cX1_ask 5 none = true := by decide +kernel
set_option maxRecDepth 200000 in
theorem k_X9_153 : calchk RX9 153 2 9 yX9_buildNetOf cX9_buildNetOf 2 none = true := by decide +kernel
set_option maxRecDepth 200000 in
theorem k_X9_156 : calchk RX9 156 1 2 yX2_markUsed cX2_markUsed 2 none = true := by decide +kernel
set_option maxRecDepth 200000 in
theorem k_X9_159 : calchk RX9 159 2 2 yX2_usedGates cX2_usedGates 4 (some .int) = true := by decide +kernel
def ct_X9_gates (N : Nat) : List (Nat × Cal) := [(104, 2, 3, .inl (a_X3_has N)), (149, 2, 1, .inr (.inr (a_X1_ask N))), (153, 2, 9, .inr (.inr (a_X9_buildNetOf N))), (156, 1, 2, .inr (.inr (a_X2_markUsed N))), (159, 2, 2, .inl (a_X2_usedGates N))]
set_option maxRecDepth 200000 in
theorem md_X9_gates (N : Nat) : MDOK T_X9_gates ft_X9 lt_X9 (ct_X9_gates N) cX9_gates RX9 17 := ⟨tc_X9_gates, fc_X9, lc_X9, List.forall_mem_cons.mpr ⟨Or.inl ⟨yX3_has, cX3_has, 2, (some .boolean), 1, k_X9_104, Nat.le_of_ble_eq_true rfl, C_X3_has N⟩, List.forall_mem_cons.mpr ⟨Or.inl ⟨yX1_ask, cX1_ask, 5, none, 2, k_X9_149, Nat.le_of_ble_eq_true rfl, C_X1_ask N⟩, List.forall_mem_cons.mpr ⟨Or.inl ⟨yX9_buildNetOf, cX9_buildNetOf, 2, none, 16, k_X9_153, Nat.le_of_ble_eq_true rfl, C_X9_buildNetOf N⟩, List.forall_mem_cons.mpr ⟨Or.inl ⟨yX2_markUsed, cX2_markUsed, 2, none, 2, k_X9_156, Nat.le_of_ble_eq_true rfl, C_X2_markUsed N⟩, List.forall_mem_cons.mpr ⟨Or.inl ⟨yX2_usedGates, cX2_usedGates, 4, (some .int), 1, k_X9_159, Nat.le_of_ble_eq_true rfl, C_X2_usedGates N⟩, (fun _ z => absurd z List.not_mem_nil)⟩⟩⟩⟩⟩⟩
set_option maxRecDepth 200000 in
theorem C_X9_gates (N : Nat) : CTI 17 yX9_gates cX9_gates 3 (some .int) (a_X9_gates N) := by
  refine CTI.of (own := RX9) (by decide) rfl (fun as σ r h => ?_)
  unfold a_X9_gates at h
  rcases kSE_s h with ⟨r0, rfl, h0⟩ | hn
  ·
    obtain ⟨b1, r1, rfl, h1⟩ := kSI_s h0
    obtain ⟨b2, r2, rfl, h2⟩ := kSI_s h1
    obtain ⟨rfl, h9⟩ := kS0_s h2
    exact ⟨Nat.le_of_ble_eq_true rfl, by refine GO.to (md_X9_gates N) (kl := []) ((fun _ z => absurd z List.not_mem_nil)) 37 ?_ ?_ <;> rfl⟩
  cases hn
def T_X9_latest : List (Nat × Ent) := [(0, .aload_n 0, 1, []), (1, .iload_n 1, 2, []), (2, .iload_n 2, 3, []), (3, .invokevirtual 162, 6, []), (6, .ifCond .ne 5, 9, [11]), (9, .iconst (-1), 10, []), (10, .ireturn, 11, []), (11, .aload_n 0, 12, []), (12, .getfield 28, 15, []), (15, .aload_n 0, 16, []), (16, .getfield 21, 19, []), (19, .getfield 114, 22, []), (22, .iload_n 1, 23, []), (23, .laload, 24, []), (24, .invokevirtual 149, 27, []), (27, .aload_n 0, 28, []), (28, .iload_n 1, 29, []), (29, .invokevirtual 153, 32, []), (32, .aload_n 0, 33, []), (33, .getfield 42, 36, []), (36, .aload_n 0, 37, []), (37, .getfield 35, 40, []), (40, .invokevirtual 165, 43, []), (43, .aload_n 0, 44, []), (44, .getfield 42, 47, []), (47, .aload_n 0, 48, []), (48, .getfield 35, 51, []), (51, .iload_n 2, 52, []), (52, .invokevirtual 169, 55, []), (55, .ireturn, 56, [])]
set_option maxRecDepth 200000 in
theorem tc_X9_latest : T_X9_latest.all (chk cX9_latest) = true := by decide +kernel
def f_X9_latest (N : Nat) (a1 : Int32) (a2 : Int32) (σ : Wd) : Option (Int32 × Wd) :=
  (f_X9_hasOutcome N a1 a2 σ).bind fun p1 => if p1.1 = 0 then (some ((-1), p1.2)) else ((xldL p1.2 16 12 a1).bind fun v2 => (f_X1_ask N v2 p1.2).bind fun σ3 => (f_X9_buildNetOf N a1 σ3).bind fun σ4 => (f_X8_come N σ4).bind fun σ5 => (f_X8_ofOutcome N a2 σ5).bind fun p6 => some (p6.1, p6.2))
def a_X9_latest (N : Nat) : List Value → Wd → Option (Int32 × Wd) := fun as σ => kSE 0 as (fun r0 => kSI r0 (fun b1 r1 => kSI r1 (fun b2 r2 => kS0 r2 (f_X9_latest N b1 b2 σ)))) (none)
set_option maxRecDepth 200000 in
theorem k_X9_162 : calchk RX9 162 3 9 yX9_hasOutcome cX9_hasOutcome 3 (some .boolean) = true := by decide +kernel
set_option maxRecDepth 200000 in
theorem k_X9_165 : calchk RX9 165 2 8 yX8_come cX8_come 3 none = true := by decide +kernel
set_option maxRecDepth 200000 in
theorem k_X9_169 : calchk RX9 169 3 8 yX8_ofOutcome cX8_ofOutcome 3 (some .int) = true := by decide +kernel
def ct_X9_latest (N : Nat) : List (Nat × Cal) := [(162, 3, 9, .inl (a_X9_hasOutcome N)), (149, 2, 1, .inr (.inr (a_X1_ask N))), (153, 2, 9, .inr (.inr (a_X9_buildNetOf N))), (165, 2, 8, .inr (.inr (a_X8_come N))), (169, 3, 8, .inl (a_X8_ofOutcome N))]
set_option maxRecDepth 200000 in
theorem md_X9_latest (N : Nat) : MDOK T_X9_latest ft_X9 lt_X9 (ct_X9_latest N) cX9_latest RX9 17 := ⟨tc_X9_latest, fc_X9, lc_X9, List.forall_mem_cons.mpr ⟨Or.inl ⟨yX9_hasOutcome, cX9_hasOutcome, 3, (some .boolean), 4, k_X9_162, Nat.le_of_ble_eq_true rfl, C_X9_hasOutcome N⟩, List.forall_mem_cons.mpr ⟨Or.inl ⟨yX1_ask, cX1_ask, 5, none, 2, k_X9_149, Nat.le_of_ble_eq_true rfl, C_X1_ask N⟩, List.forall_mem_cons.mpr ⟨Or.inl ⟨yX9_buildNetOf, cX9_buildNetOf, 2, none, 16, k_X9_153, Nat.le_of_ble_eq_true rfl, C_X9_buildNetOf N⟩, List.forall_mem_cons.mpr ⟨Or.inl ⟨yX8_come, cX8_come, 3, none, 3, k_X9_165, Nat.le_of_ble_eq_true rfl, C_X8_come N⟩, List.forall_mem_cons.mpr ⟨Or.inl ⟨yX8_ofOutcome, cX8_ofOutcome, 3, (some .int), 3, k_X9_169, Nat.le_of_ble_eq_true rfl, C_X8_ofOutcome N⟩, (fun _ z => absurd z List.not_mem_nil)⟩⟩⟩⟩⟩⟩
set_option maxRecDepth 200000 in
theorem C_X9_latest (N : Nat) : CTI 17 yX9_latest cX9_latest 3 (some .int) (a_X9_latest N) := by
  refine CTI.of (own := RX9) (by decide) rfl (fun as σ r h => ?_)
  unfold a_X9_latest at h
  rcases kSE_s h with ⟨r0, rfl, h0⟩ | hn
  ·
    obtain ⟨b1, r1, rfl, h1⟩ := kSI_s h0
    obtain ⟨b2, r2, rfl, h2⟩ := kSI_s h1
    obtain ⟨rfl, h9⟩ := kS0_s h2
    exact ⟨Nat.le_of_ble_eq_true rfl, by refine GO.to (md_X9_latest N) (kl := []) ((fun _ z => absurd z List.not_mem_nil)) 35 ?_ ?_ <;> rfl⟩
  cases hn
def T_X9_deep : List (Nat × Ent) := [(0, .aload_n 0, 1, []), (1, .getfield 21, 4, []), (4, .iload_n 1, 5, []), (5, .invokevirtual 104, 8, []), (8, .ifCond .ne 5, 11, [13]), (11, .iconst (-1), 12, []), (12, .ireturn, 13, []), (13, .aload_n 0, 14, []), (14, .getfield 28, 17, []), (17, .aload_n 0, 18, []), (18, .getfield 21, 21, []), (21, .getfield 114, 24, []), (24, .iload_n 1, 25, []), (25, .laload, 26, []), (26, .invokevirtual 149, 29, []), (29, .aload_n 0, 30, []), (30, .iload_n 1, 31, []), (31, .invokevirtual 153, 34, []), (34, .aload_n 0, 35, []), (35, .getfield 42, 38, []), (38, .aload_n 0, 39, []), (39, .getfield 35, 42, []), (42, .invokevirtual 165, 45, []), (45, .aload_n 0, 46, []), (46, .getfield 42, 49, []), (49, .aload_n 0, 50, []), (50, .getfield 35, 53, []), (53, .invokevirtual 173, 56, []), (56, .ireturn, 57, [])]
set_option maxRecDepth 200000 in
theorem tc_X9_deep : T_X9_deep.all (chk cX9_deep) = true := by decide +kernel
def f_X9_deep (N : Nat) (a1 : Int32) (σ : Wd) : Option (Int32 × Wd) :=
  (f_X3_has N a1 σ).bind fun p1 => if p1.1 = 0 then (some ((-1), p1.2)) else ((xldL p1.2 16 12 a1).bind fun v2 => (f_X1_ask N v2 p1.2).bind fun σ3 => (f_X9_buildNetOf N a1 σ3).bind fun σ4 => (f_X8_come N σ4).bind fun σ5 => (f_X8_deepest N σ5).bind fun p6 => some (p6.1, p6.2))
def a_X9_deep (N : Nat) : List Value → Wd → Option (Int32 × Wd) := fun as σ => kSE 0 as (fun r0 => kSI r0 (fun b1 r1 => kS0 r1 (f_X9_deep N b1 σ))) (none)
set_option maxRecDepth 200000 in
theorem k_X9_173 : calchk RX9 173 2 8 yX8_deepest cX8_deepest 5 (some .int) = true := by decide +kernel
def ct_X9_deep (N : Nat) : List (Nat × Cal) := [(104, 2, 3, .inl (a_X3_has N)), (149, 2, 1, .inr (.inr (a_X1_ask N))), (153, 2, 9, .inr (.inr (a_X9_buildNetOf N))), (165, 2, 8, .inr (.inr (a_X8_come N))), (173, 2, 8, .inl (a_X8_deepest N))]
set_option maxRecDepth 200000 in
theorem md_X9_deep (N : Nat) : MDOK T_X9_deep ft_X9 lt_X9 (ct_X9_deep N) cX9_deep RX9 17 := ⟨tc_X9_deep, fc_X9, lc_X9, List.forall_mem_cons.mpr ⟨Or.inl ⟨yX3_has, cX3_has, 2, (some .boolean), 1, k_X9_104, Nat.le_of_ble_eq_true rfl, C_X3_has N⟩, List.forall_mem_cons.mpr ⟨Or.inl ⟨yX1_ask, cX1_ask, 5, none, 2, k_X9_149, Nat.le_of_ble_eq_true rfl, C_X1_ask N⟩, List.forall_mem_cons.mpr ⟨Or.inl ⟨yX9_buildNetOf, cX9_buildNetOf, 2, none, 16, k_X9_153, Nat.le_of_ble_eq_true rfl, C_X9_buildNetOf N⟩, List.forall_mem_cons.mpr ⟨Or.inl ⟨yX8_come, cX8_come, 3, none, 3, k_X9_165, Nat.le_of_ble_eq_true rfl, C_X8_come N⟩, List.forall_mem_cons.mpr ⟨Or.inl ⟨yX8_deepest, cX8_deepest, 5, (some .int), 4, k_X9_173, Nat.le_of_ble_eq_true rfl, C_X8_deepest N⟩, (fun _ z => absurd z List.not_mem_nil)⟩⟩⟩⟩⟩⟩
set_option maxRecDepth 200000 in
theorem C_X9_deep (N : Nat) : CTI 17 yX9_deep cX9_deep 2 (some .int) (a_X9_deep N) := by
  refine CTI.of (own := RX9) (by decide) rfl (fun as σ r h => ?_)
  unfold a_X9_deep at h
  rcases kSE_s h with ⟨r0, rfl, h0⟩ | hn
  ·
    obtain ⟨b1, r1, rfl, h1⟩ := kSI_s h0
    obtain ⟨rfl, h9⟩ := kS0_s h1
    exact ⟨Nat.le_of_ble_eq_true rfl, by refine GO.to (md_X9_deep N) (kl := []) ((fun _ z => absurd z List.not_mem_nil)) 34 ?_ ?_ <;> rfl⟩
  cases hn
def T_X9_hangs : List (Nat × Ent) := [(0, .aload_n 0, 1, []), (1, .getfield 21, 4, []), (4, .iload_n 1, 5, []), (5, .invokevirtual 104, 8, []), (8, .ifCond .ne 5, 11, [13]), (11, .iconst (-1), 12, []), (12, .ireturn, 13, []), (13, .aload_n 0, 14, []), (14, .iload_n 1, 15, []), (15, .invokevirtual 153, 18, []), (18, .aload_n 0, 19, []), (19, .getfield 42, 22, []), (22, .aload_n 0, 23, []), (23, .getfield 35, 26, []), (26, .invokevirtual 165, 29, []), (29, .aload_n 0, 30, []), (30, .getfield 42, 33, []), (33, .aload_n 0, 34, []), (34, .getfield 35, 37, []), (37, .invokevirtual 177, 40, []), (40, .aload_n 0, 41, []), (41, .getfield 42, 44, []), (44, .invokevirtual 180, 47, []), (47, .ireturn, 48, [])]
set_option maxRecDepth 200000 in
theorem tc_X9_hangs : T_X9_hangs.all (chk cX9_hangs) = true := by decide +kernel
def f_X9_hangs (N : Nat) (a1 : Int32) (σ : Wd) : Option (Int32 × Wd) :=
  (f_X3_has N a1 σ).bind fun p1 => if p1.1 = 0 then (some ((-1), p1.2)) else ((f_X9_buildNetOf N a1 p1.2).bind fun σ2 => (f_X8_come N σ2).bind fun σ3 => (f_X8_markHanging N σ3).bind fun σ4 => (f_X8_hangingInputs N σ4).bind fun p5 => some (p5.1, p5.2))
def a_X9_hangs (N : Nat) : List Value → Wd → Option (Int32 × Wd) := fun as σ => kSE 0 as (fun r0 => kSI r0 (fun b1 r1 => kS0 r1 (f_X9_hangs N b1 σ))) (none)
set_option maxRecDepth 200000 in
theorem k_X9_177 : calchk RX9 177 2 8 yX8_markHanging cX8_markHanging 4 none = true := by decide +kernel
set_option maxRecDepth 200000 in
theorem k_X9_180 : calchk RX9 180 1 8 yX8_hangingInputs cX8_hangingInputs 3 (some .int) = true := by decide +kernel
def ct_X9_hangs (N : Nat) : List (Nat × Cal) := [(104, 2, 3, .inl (a_X3_has N)), (153, 2, 9, .inr (.inr (a_X9_buildNetOf N))), (165, 2, 8, .inr (.inr (a_X8_come N))), (177, 2, 8, .inr (.inr (a_X8_markHanging N))), (180, 1, 8, .inl (a_X8_hangingInputs N))]
set_option maxRecDepth 200000 in
theorem md_X9_hangs (N : Nat) : MDOK T_X9_hangs ft_X9 lt_X9 (ct_X9_hangs N) cX9_hangs RX9 17 := ⟨tc_X9_hangs, fc_X9, lc_X9, List.forall_mem_cons.mpr ⟨Or.inl ⟨yX3_has, cX3_has, 2, (some .boolean), 1, k_X9_104, Nat.le_of_ble_eq_true rfl, C_X3_has N⟩, List.forall_mem_cons.mpr ⟨Or.inl ⟨yX9_buildNetOf, cX9_buildNetOf, 2, none, 16, k_X9_153, Nat.le_of_ble_eq_true rfl, C_X9_buildNetOf N⟩, List.forall_mem_cons.mpr ⟨Or.inl ⟨yX8_come, cX8_come, 3, none, 3, k_X9_165, Nat.le_of_ble_eq_true rfl, C_X8_come N⟩, List.forall_mem_cons.mpr ⟨Or.inl ⟨yX8_markHanging, cX8_markHanging, 4, none, 4, k_X9_177, Nat.le_of_ble_eq_true rfl, C_X8_markHanging N⟩, List.forall_mem_cons.mpr ⟨Or.inl ⟨yX8_hangingInputs, cX8_hangingInputs, 3, (some .int), 1, k_X9_180, Nat.le_of_ble_eq_true rfl, C_X8_hangingInputs N⟩, (fun _ z => absurd z List.not_mem_nil)⟩⟩⟩⟩⟩⟩
set_option maxRecDepth 200000 in
theorem C_X9_hangs (N : Nat) : CTI 17 yX9_hangs cX9_hangs 2 (some .int) (a_X9_hangs N) := by
  refine CTI.of (own := RX9) (by decide) rfl (fun as σ r h => ?_)
  unfold a_X9_hangs at h
  rcases kSE_s h with ⟨r0, rfl, h0⟩ | hn
  ·
    obtain ⟨b1, r1, rfl, h1⟩ := kSI_s h0
    obtain ⟨rfl, h9⟩ := kS0_s h1
    exact ⟨Nat.le_of_ble_eq_true rfl, by refine GO.to (md_X9_hangs N) (kl := []) ((fun _ z => absurd z List.not_mem_nil)) 29 ?_ ?_ <;> rfl⟩
  cases hn
def T_X9_times : List (Nat × Ent) := [(0, .aload_n 0, 1, []), (1, .getfield 21, 4, []), (4, .iload_n 1, 5, []), (5, .invokevirtual 104, 8, []), (8, .ifCond .ne 5, 11, [13]), (11, .iconst (-1), 12, []), (12, .ireturn, 13, []), (13, .aload_n 0, 14, []), (14, .iload_n 1, 15, []), (15, .invokevirtual 153, 18, []), (18, .aload_n 0, 19, []), (19, .getfield 42, 22, []), (22, .aload_n 0, 23, []), (23, .getfield 35, 26, []), (26, .invokevirtual 165, 29, []), (29, .aload_n 0, 30, []), (30, .getfield 42, 33, []), (33, .aload_n 0, 34, []), (34, .getfield 35, 37, []), (37, .invokevirtual 183, 40, []), (40, .ireturn, 41, [])]
set_option maxRecDepth 200000 in
theorem tc_X9_times : T_X9_times.all (chk cX9_times) = true := by decide +kernel
def f_X9_times (N : Nat) (a1 : Int32) (σ : Wd) : Option (Int32 × Wd) :=
  (f_X3_has N a1 σ).bind fun p1 => if p1.1 = 0 then (some ((-1), p1.2)) else ((f_X9_buildNetOf N a1 p1.2).bind fun σ2 => (f_X8_come N σ2).bind fun σ3 => (f_X8_unlikeTimes N σ3).bind fun p4 => some (p4.1, p4.2))
def a_X9_times (N : Nat) : List Value → Wd → Option (Int32 × Wd) := fun as σ => kSE 0 as (fun r0 => kSI r0 (fun b1 r1 => kS0 r1 (f_X9_times N b1 σ))) (none)
set_option maxRecDepth 200000 in
theorem k_X9_183 : calchk RX9 183 2 8 yX8_unlikeTimes cX8_unlikeTimes 5 (some .int) = true := by decide +kernel
def ct_X9_times (N : Nat) : List (Nat × Cal) := [(104, 2, 3, .inl (a_X3_has N)), (153, 2, 9, .inr (.inr (a_X9_buildNetOf N))), (165, 2, 8, .inr (.inr (a_X8_come N))), (183, 2, 8, .inl (a_X8_unlikeTimes N))]
set_option maxRecDepth 200000 in
theorem md_X9_times (N : Nat) : MDOK T_X9_times ft_X9 lt_X9 (ct_X9_times N) cX9_times RX9 17 := ⟨tc_X9_times, fc_X9, lc_X9, List.forall_mem_cons.mpr ⟨Or.inl ⟨yX3_has, cX3_has, 2, (some .boolean), 1, k_X9_104, Nat.le_of_ble_eq_true rfl, C_X3_has N⟩, List.forall_mem_cons.mpr ⟨Or.inl ⟨yX9_buildNetOf, cX9_buildNetOf, 2, none, 16, k_X9_153, Nat.le_of_ble_eq_true rfl, C_X9_buildNetOf N⟩, List.forall_mem_cons.mpr ⟨Or.inl ⟨yX8_come, cX8_come, 3, none, 3, k_X9_165, Nat.le_of_ble_eq_true rfl, C_X8_come N⟩, List.forall_mem_cons.mpr ⟨Or.inl ⟨yX8_unlikeTimes, cX8_unlikeTimes, 5, (some .int), 4, k_X9_183, Nat.le_of_ble_eq_true rfl, C_X8_unlikeTimes N⟩, (fun _ z => absurd z List.not_mem_nil)⟩⟩⟩⟩⟩
set_option maxRecDepth 200000 in
theorem C_X9_times (N : Nat) : CTI 17 yX9_times cX9_times 2 (some .int) (a_X9_times N) := by
  refine CTI.of (own := RX9) (by decide) rfl (fun as σ r h => ?_)
  unfold a_X9_times at h
  rcases kSE_s h with ⟨r0, rfl, h0⟩ | hn
  ·
    obtain ⟨b1, r1, rfl, h1⟩ := kSI_s h0
    obtain ⟨rfl, h9⟩ := kS0_s h1
    exact ⟨Nat.le_of_ble_eq_true rfl, by refine GO.to (md_X9_times N) (kl := []) ((fun _ z => absurd z List.not_mem_nil)) 26 ?_ ?_ <;> rfl⟩
  cases hn
def T_X9_adds : List (Nat × Ent) := [(0, .aload_n 0, 1, []), (1, .getfield 21, 4, []), (4, .iload_n 1, 5, []), (5, .invokevirtual 104, 8, []), (8, .ifCond .eq 25, 11, [33]), (11, .iload_n 2, 12, []), (12, .iload_n 3, 13, []), (13, .iload 4, 15, []), (15, .aload_n 0, 16, []), (16, .getfield 21, 19, []), (19, .getfield 114, 22, []), (22, .iload_n 1, 23, []), (23, .laload, 24, []), (24, .invokestatic 117, 27, []), (27, .invokestatic 186, 30, []), (30, .ifCond .ne 5, 33, [35]), (33, .iconst (-1), 34, []), (34, .ireturn, 35, []), (35, .aload_n 0, 36, []), (36, .iload_n 1, 37, []), (37, .invokevirtual 153, 40, []), (40, .aload_n 0, 41, []), (41, .getfield 42, 44, []), (44, .aload_n 0, 45, []), (45, .getfield 35, 48, []), (48, .iload_n 2, 49, []), (49, .iload_n 3, 50, []), (50, .iload 4, 52, []), (52, .invokevirtual 190, 55, []), (55, .aload_n 0, 56, []), (56, .getfield 42, 59, []), (59, .aload_n 0, 60, []), (60, .getfield 35, 63, []), (63, .invokevirtual 194, 66, []), (66, .ireturn, 67, [])]
set_option maxRecDepth 200000 in
theorem tc_X9_adds : T_X9_adds.all (chk cX9_adds) = true := by decide +kernel
def f_X9_adds (N : Nat) (a1 : Int32) (a2 : Int32) (a3 : Int32) (a4 : Int32) (σ : Wd) : Option (Int32 × Wd) :=
  (f_X3_has N a1 σ).bind fun p1 => if p1.1 = 0 then (some ((-1), p1.2)) else ((xldL p1.2 16 12 a1).bind fun v2 => (f_X0_width N v2 p1.2).bind fun p3 => (f_X9_areNumbers N a2 a3 a4 p3.1 p3.2).bind fun p4 => if p4.1 = 0 then (some ((-1), p4.2)) else ((f_X9_buildNetOf N a1 p4.2).bind fun σ5 => (f_X8_settle N a2 a3 a4 σ5).bind fun σ6 => (f_X8_outcomeBits N σ6).bind fun p7 => some (p7.1, p7.2)))
def a_X9_adds (N : Nat) : List Value → Wd → Option (Int32 × Wd) := fun as σ => kSE 0 as (fun r0 => kSI r0 (fun b1 r1 => kSI r1 (fun b2 r2 => kSI r2 (fun b3 r3 => kSI r3 (fun b4 r4 => kS0 r4 (f_X9_adds N b1 b2 b3 b4 σ)))))) (none)
set_option maxRecDepth 200000 in
theorem k_X9_190 : calchk RX9 190 5 8 yX8_settle cX8_settle 7 none = true := by decide +kernel
set_option maxRecDepth 200000 in
theorem k_X9_194 : calchk RX9 194 2 8 yX8_outcomeBits cX8_outcomeBits 4 (some .int) = true := by decide +kernel
def ct_X9_adds (N : Nat) : List (Nat × Cal) := [(104, 2, 3, .inl (a_X3_has N)), (117, 1, 0, .inl (a_X0_width N)), (186, 4, 0, .inl (a_X9_areNumbers N)), (153, 2, 9, .inr (.inr (a_X9_buildNetOf N))), (190, 5, 8, .inr (.inr (a_X8_settle N))), (194, 2, 8, .inl (a_X8_outcomeBits N))]
set_option maxRecDepth 200000 in
theorem md_X9_adds (N : Nat) : MDOK T_X9_adds ft_X9 lt_X9 (ct_X9_adds N) cX9_adds RX9 17 := ⟨tc_X9_adds, fc_X9, lc_X9, List.forall_mem_cons.mpr ⟨Or.inl ⟨yX3_has, cX3_has, 2, (some .boolean), 1, k_X9_104, Nat.le_of_ble_eq_true rfl, C_X3_has N⟩, List.forall_mem_cons.mpr ⟨Or.inl ⟨yX0_width, cX0_width, 4, (some .int), 3, k_X9_117, Nat.le_of_ble_eq_true rfl, C_X0_width N⟩, List.forall_mem_cons.mpr ⟨Or.inl ⟨yX9_areNumbers, cX9_areNumbers, 5, (some .boolean), 1, k_X9_186, Nat.le_of_ble_eq_true rfl, C_X9_areNumbers N⟩, List.forall_mem_cons.mpr ⟨Or.inl ⟨yX9_buildNetOf, cX9_buildNetOf, 2, none, 16, k_X9_153, Nat.le_of_ble_eq_true rfl, C_X9_buildNetOf N⟩, List.forall_mem_cons.mpr ⟨Or.inl ⟨yX8_settle, cX8_settle, 7, none, 3, k_X9_190, Nat.le_of_ble_eq_true rfl, C_X8_settle N⟩, List.forall_mem_cons.mpr ⟨Or.inl ⟨yX8_outcomeBits, cX8_outcomeBits, 4, (some .int), 2, k_X9_194, Nat.le_of_ble_eq_true rfl, C_X8_outcomeBits N⟩, (fun _ z => absurd z List.not_mem_nil)⟩⟩⟩⟩⟩⟩⟩
set_option maxRecDepth 200000 in
theorem C_X9_adds (N : Nat) : CTI 17 yX9_adds cX9_adds 5 (some .int) (a_X9_adds N) := by
  refine CTI.of (own := RX9) (by decide) rfl (fun as σ r h => ?_)
  unfold a_X9_adds at h
  rcases kSE_s h with ⟨r0, rfl, h0⟩ | hn
  ·
    obtain ⟨b1, r1, rfl, h1⟩ := kSI_s h0
    obtain ⟨b2, r2, rfl, h2⟩ := kSI_s h1
    obtain ⟨b3, r3, rfl, h3⟩ := kSI_s h2
    obtain ⟨b4, r4, rfl, h4⟩ := kSI_s h3
    obtain ⟨rfl, h9⟩ := kS0_s h4
    exact ⟨Nat.le_of_ble_eq_true rfl, by refine GO.to (md_X9_adds N) (kl := []) ((fun _ z => absurd z List.not_mem_nil)) 40 ?_ ?_ <;> rfl⟩
  cases hn
def T_X9_settles : List (Nat × Ent) := [(0, .aload_n 0, 1, []), (1, .iload_n 1, 2, []), (2, .iload_n 2, 3, []), (3, .invokevirtual 162, 6, []), (6, .ifCond .eq 26, 9, [32]), (9, .iload_n 3, 10, []), (10, .iload 4, 12, []), (12, .iload 5, 14, []), (14, .aload_n 0, 15, []), (15, .getfield 21, 18, []), (18, .getfield 114, 21, []), (21, .iload_n 1, 22, []), (22, .laload, 23, []), (23, .invokestatic 117, 26, []), (26, .invokestatic 186, 29, []), (29, .ifCond .ne 5, 32, [34]), (32, .iconst (-1), 33, []), (33, .ireturn, 34, []), (34, .aload_n 0, 35, []), (35, .iload_n 1, 36, []), (36, .invokevirtual 153, 39, []), (39, .aload_n 0, 40, []), (40, .getfield 42, 43, []), (43, .aload_n 0, 44, []), (44, .getfield 35, 47, []), (47, .iload_n 3, 48, []), (48, .iload 4, 50, []), (50, .iload 5, 52, []), (52, .invokevirtual 190, 55, []), (55, .aload_n 0, 56, []), (56, .getfield 42, 59, []), (59, .aload_n 0, 60, []), (60, .getfield 35, 63, []), (63, .iload_n 2, 64, []), (64, .invokevirtual 169, 67, []), (67, .ireturn, 68, [])]
set_option maxRecDepth 200000 in
theorem tc_X9_settles : T_X9_settles.all (chk cX9_settles) = true := by decide +kernel
def f_X9_settles (N : Nat) (a1 : Int32) (a2 : Int32) (a3 : Int32) (a4 : Int32) (a5 : Int32) (σ : Wd) : Option (Int32 × Wd) :=
  (f_X9_hasOutcome N a1 a2 σ).bind fun p1 => if p1.1 = 0 then (some ((-1), p1.2)) else ((xldL p1.2 16 12 a1).bind fun v2 => (f_X0_width N v2 p1.2).bind fun p3 => (f_X9_areNumbers N a3 a4 a5 p3.1 p3.2).bind fun p4 => if p4.1 = 0 then (some ((-1), p4.2)) else ((f_X9_buildNetOf N a1 p4.2).bind fun σ5 => (f_X8_settle N a3 a4 a5 σ5).bind fun σ6 => (f_X8_ofOutcome N a2 σ6).bind fun p7 => some (p7.1, p7.2)))
def a_X9_settles (N : Nat) : List Value → Wd → Option (Int32 × Wd) := fun as σ => kSE 0 as (fun r0 => kSI r0 (fun b1 r1 => kSI r1 (fun b2 r2 => kSI r2 (fun b3 r3 => kSI r3 (fun b4 r4 => kSI r4 (fun b5 r5 => kS0 r5 (f_X9_settles N b1 b2 b3 b4 b5 σ))))))) (none)
def ct_X9_settles (N : Nat) : List (Nat × Cal) := [(162, 3, 9, .inl (a_X9_hasOutcome N)), (117, 1, 0, .inl (a_X0_width N)), (186, 4, 0, .inl (a_X9_areNumbers N)), (153, 2, 9, .inr (.inr (a_X9_buildNetOf N))), (190, 5, 8, .inr (.inr (a_X8_settle N))), (169, 3, 8, .inl (a_X8_ofOutcome N))]
set_option maxRecDepth 200000 in
theorem md_X9_settles (N : Nat) : MDOK T_X9_settles ft_X9 lt_X9 (ct_X9_settles N) cX9_settles RX9 17 := ⟨tc_X9_settles, fc_X9, lc_X9, List.forall_mem_cons.mpr ⟨Or.inl ⟨yX9_hasOutcome, cX9_hasOutcome, 3, (some .boolean), 4, k_X9_162, Nat.le_of_ble_eq_true rfl, C_X9_hasOutcome N⟩, List.forall_mem_cons.mpr ⟨Or.inl ⟨yX0_width, cX0_width, 4, (some .int), 3, k_X9_117, Nat.le_of_ble_eq_true rfl, C_X0_width N⟩, List.forall_mem_cons.mpr ⟨Or.inl ⟨yX9_areNumbers, cX9_areNumbers, 5, (some .boolean), 1, k_X9_186, Nat.le_of_ble_eq_true rfl, C_X9_areNumbers N⟩, List.forall_mem_cons.mpr ⟨Or.inl ⟨yX9_buildNetOf, cX9_buildNetOf, 2, none, 16, k_X9_153, Nat.le_of_ble_eq_true rfl, C_X9_buildNetOf N⟩, List.forall_mem_cons.mpr ⟨Or.inl ⟨yX8_settle, cX8_settle, 7, none, 3, k_X9_190, Nat.le_of_ble_eq_true rfl, C_X8_settle N⟩, List.forall_mem_cons.mpr ⟨Or.inl ⟨yX8_ofOutcome, cX8_ofOutcome, 3, (some .int), 3, k_X9_169, Nat.le_of_ble_eq_true rfl, C_X8_ofOutcome N⟩, (fun _ z => absurd z List.not_mem_nil)⟩⟩⟩⟩⟩⟩⟩
set_option maxRecDepth 200000 in
theorem C_X9_settles (N : Nat) : CTI 17 yX9_settles cX9_settles 6 (some .int) (a_X9_settles N) := by
  refine CTI.of (own := RX9) (by decide) rfl (fun as σ r h => ?_)
  unfold a_X9_settles at h
  rcases kSE_s h with ⟨r0, rfl, h0⟩ | hn
  ·
    obtain ⟨b1, r1, rfl, h1⟩ := kSI_s h0
    obtain ⟨b2, r2, rfl, h2⟩ := kSI_s h1
    obtain ⟨b3, r3, rfl, h3⟩ := kSI_s h2
    obtain ⟨b4, r4, rfl, h4⟩ := kSI_s h3
    obtain ⟨b5, r5, rfl, h5⟩ := kSI_s h4
    obtain ⟨rfl, h9⟩ := kS0_s h5
    exact ⟨Nat.le_of_ble_eq_true rfl, by refine GO.to (md_X9_settles N) (kl := []) ((fun _ z => absurd z List.not_mem_nil)) 41 ?_ ?_ <;> rfl⟩
  cases hn
def T_X9_slowest : List (Nat × Ent) := [(0, .aload_n 0, 1, []), (1, .getfield 21, 4, []), (4, .iload_n 1, 5, []), (5, .invokevirtual 104, 8, []), (8, .ifCond .eq 12, 11, [20]), (11, .iload_n 2, 12, []), (12, .ifCond .lt 8, 15, [20]), (15, .iload_n 2, 16, []), (16, .iconst 3, 17, []), (17, .if_icmp .le 5, 20, [22]), (20, .iconst (-1), 21, []), (21, .ireturn, 22, []), (22, .aload_n 0, 23, []), (23, .getfield 21, 26, []), (26, .getfield 114, 29, []), (29, .iload_n 1, 30, []), (30, .laload, 31, []), (31, .lstore_n 3, 32, []), (32, .lload_n 3, 33, []), (33, .invokestatic 117, 36, []), (36, .iconst 4, 37, []), (37, .if_icmp .le 6, 40, [43]), (40, .bipush (-7), 42, []), (42, .ireturn, 43, []), (43, .aload_n 0, 44, []), (44, .getfield 49, 47, []), (47, .aload_n 0, 48, []), (48, .getfield 35, 51, []), (51, .aload_n 0, 52, []), (52, .getfield 42, 55, []), (55, .lload_n 3, 56, []), (56, .invokevirtual 197, 59, []), (59, .aload_n 0, 60, []), (60, .getfield 49, 63, []), (63, .iload_n 2, 64, []), (64, .invokevirtual 201, 67, []), (67, .ireturn, 68, [])]
set_option maxRecDepth 200000 in
theorem tc_X9_slowest : T_X9_slowest.all (chk cX9_slowest) = true := by decide +kernel
def f_X9_slowest (N : Nat) (a1 : Int32) (a2 : Int32) (σ : Wd) : Option (Int32 × Wd) :=
  (f_X3_has N a1 σ).bind fun p1 => if p1.1 = 0 then (some ((-1), p1.2)) else (if a2 < 0 then (some ((-1), p1.2)) else (if a2 ≤ 3 then ((xldL p1.2 16 12 a1).bind fun v2 => (f_X0_width N v2 p1.2).bind fun p3 => if p3.1 ≤ 4 then ((f_X6_over N v2 p3.2).bind fun σ4 => (f_X6_worst N a2 σ4).bind fun p5 => some (p5.1, p5.2)) else (some ((-7), p3.2))) else (some ((-1), p1.2))))
def a_X9_slowest (N : Nat) : List Value → Wd → Option (Int32 × Wd) := fun as σ => kSE 0 as (fun r0 => kSI r0 (fun b1 r1 => kSI r1 (fun b2 r2 => kS0 r2 (f_X9_slowest N b1 b2 σ)))) (none)
set_option maxRecDepth 200000 in
theorem k_X9_197 : calchk RX9 197 4 6 yX6_over cX6_over 6 none = true := by decide +kernel
set_option maxRecDepth 200000 in
theorem k_X9_201 : calchk RX9 201 2 6 yX6_worst cX6_worst 4 (some .int) = true := by decide +kernel
def ct_X9_slowest (N : Nat) : List (Nat × Cal) := [(104, 2, 3, .inl (a_X3_has N)), (117, 1, 0, .inl (a_X0_width N)), (197, 4, 6, .inr (.inr (a_X6_over N))), (201, 2, 6, .inl (a_X6_worst N))]
set_option maxRecDepth 200000 in
theorem md_X9_slowest (N : Nat) : MDOK T_X9_slowest ft_X9 lt_X9 (ct_X9_slowest N) cX9_slowest RX9 17 := ⟨tc_X9_slowest, fc_X9, lc_X9, List.forall_mem_cons.mpr ⟨Or.inl ⟨yX3_has, cX3_has, 2, (some .boolean), 1, k_X9_104, Nat.le_of_ble_eq_true rfl, C_X3_has N⟩, List.forall_mem_cons.mpr ⟨Or.inl ⟨yX0_width, cX0_width, 4, (some .int), 3, k_X9_117, Nat.le_of_ble_eq_true rfl, C_X0_width N⟩, List.forall_mem_cons.mpr ⟨Or.inl ⟨yX6_over, cX6_over, 6, none, 16, k_X9_197, Nat.le_of_ble_eq_true rfl, C_X6_over N⟩, List.forall_mem_cons.mpr ⟨Or.inl ⟨yX6_worst, cX6_worst, 4, (some .int), 2, k_X9_201, Nat.le_of_ble_eq_true rfl, C_X6_worst N⟩, (fun _ z => absurd z List.not_mem_nil)⟩⟩⟩⟩⟩
set_option maxRecDepth 200000 in
theorem C_X9_slowest (N : Nat) : CTI 17 yX9_slowest cX9_slowest 5 (some .int) (a_X9_slowest N) := by
  refine CTI.of (own := RX9) (by decide) rfl (fun as σ r h => ?_)
  unfold a_X9_slowest at h
  rcases kSE_s h with ⟨r0, rfl, h0⟩ | hn
  ·
    obtain ⟨b1, r1, rfl, h1⟩ := kSI_s h0
    obtain ⟨b2, r2, rfl, h2⟩ := kSI_s h1
    obtain ⟨rfl, h9⟩ := kS0_s h2
    exact ⟨Nat.le_of_ble_eq_true rfl, by refine GO.to (md_X9_slowest N) (kl := []) ((fun _ z => absurd z List.not_mem_nil)) 42 ?_ ?_ <;> rfl⟩
  cases hn
def T_X9_intime : List (Nat × Ent) := [(0, .aload_n 0, 1, []), (1, .getfield 21, 4, []), (4, .iload_n 1, 5, []), (5, .invokevirtual 104, 8, []), (8, .ifCond .eq 14, 11, [22]), (11, .iload_n 2, 12, []), (12, .ifCond .lt 10, 15, [22]), (15, .iload_n 2, 16, []), (16, .sipush 999, 19, []), (19, .if_icmp .le 5, 22, [24]), (22, .iconst (-1), 23, []), (23, .ireturn, 24, []), (24, .aload_n 0, 25, []), (25, .getfield 21, 28, []), (28, .getfield 114, 31, []), (31, .iload_n 1, 32, []), (32, .laload, 33, []), (33, .lstore_n 3, 34, []), (34, .lload_n 3, 35, []), (35, .invokestatic 117, 38, []), (38, .iconst 4, 39, []), (39, .if_icmp .le 6, 42, [45]), (42, .bipush (-7), 44, []), (44, .ireturn, 45, []), (45, .aload_n 0, 46, []), (46, .getfield 49, 49, []), (49, .aload_n 0, 50, []), (50, .getfield 35, 53, []), (53, .aload_n 0, 54, []), (54, .getfield 42, 57, []), (57, .lload_n 3, 58, []), (58, .invokevirtual 197, 61, []), (61, .aload_n 0, 62, []), (62, .getfield 49, 65, []), (65, .iload_n 2, 66, []), (66, .invokevirtual 204, 69, []), (69, .ireturn, 70, [])]
set_option maxRecDepth 200000 in
theorem tc_X9_intime : T_X9_intime.all (chk cX9_intime) = true := by decide +kernel
def f_X9_intime (N : Nat) (a1 : Int32) (a2 : Int32) (σ : Wd) : Option (Int32 × Wd) :=
  (f_X3_has N a1 σ).bind fun p1 => if p1.1 = 0 then (some ((-1), p1.2)) else (if a2 < 0 then (some ((-1), p1.2)) else (if a2 ≤ 999 then ((xldL p1.2 16 12 a1).bind fun v2 => (f_X0_width N v2 p1.2).bind fun p3 => if p3.1 ≤ 4 then ((f_X6_over N v2 p3.2).bind fun σ4 => (f_X6_settledBy N a2 σ4).bind fun p5 => some (p5.1, p5.2)) else (some ((-7), p3.2))) else (some ((-1), p1.2))))
def a_X9_intime (N : Nat) : List Value → Wd → Option (Int32 × Wd) := fun as σ => kSE 0 as (fun r0 => kSI r0 (fun b1 r1 => kSI r1 (fun b2 r2 => kS0 r2 (f_X9_intime N b1 b2 σ)))) (none)
set_option maxRecDepth 200000 in
theorem k_X9_204 : calchk RX9 204 2 6 yX6_settledBy cX6_settledBy 4 (some .int) = true := by decide +kernel
def ct_X9_intime (N : Nat) : List (Nat × Cal) := [(104, 2, 3, .inl (a_X3_has N)), (117, 1, 0, .inl (a_X0_width N)), (197, 4, 6, .inr (.inr (a_X6_over N))), (204, 2, 6, .inl (a_X6_settledBy N))]
set_option maxRecDepth 200000 in
theorem md_X9_intime (N : Nat) : MDOK T_X9_intime ft_X9 lt_X9 (ct_X9_intime N) cX9_intime RX9 17 := ⟨tc_X9_intime, fc_X9, lc_X9, List.forall_mem_cons.mpr ⟨Or.inl ⟨yX3_has, cX3_has, 2, (some .boolean), 1, k_X9_104, Nat.le_of_ble_eq_true rfl, C_X3_has N⟩, List.forall_mem_cons.mpr ⟨Or.inl ⟨yX0_width, cX0_width, 4, (some .int), 3, k_X9_117, Nat.le_of_ble_eq_true rfl, C_X0_width N⟩, List.forall_mem_cons.mpr ⟨Or.inl ⟨yX6_over, cX6_over, 6, none, 16, k_X9_197, Nat.le_of_ble_eq_true rfl, C_X6_over N⟩, List.forall_mem_cons.mpr ⟨Or.inl ⟨yX6_settledBy, cX6_settledBy, 4, (some .int), 2, k_X9_204, Nat.le_of_ble_eq_true rfl, C_X6_settledBy N⟩, (fun _ z => absurd z List.not_mem_nil)⟩⟩⟩⟩⟩
set_option maxRecDepth 200000 in
theorem C_X9_intime (N : Nat) : CTI 17 yX9_intime cX9_intime 5 (some .int) (a_X9_intime N) := by
  refine CTI.of (own := RX9) (by decide) rfl (fun as σ r h => ?_)
  unfold a_X9_intime at h
  rcases kSE_s h with ⟨r0, rfl, h0⟩ | hn
  ·
    obtain ⟨b1, r1, rfl, h1⟩ := kSI_s h0
    obtain ⟨b2, r2, rfl, h2⟩ := kSI_s h1
    obtain ⟨rfl, h9⟩ := kS0_s h2
    exact ⟨Nat.le_of_ble_eq_true rfl, by refine GO.to (md_X9_intime N) (kl := []) ((fun _ z => absurd z List.not_mem_nil)) 42 ?_ ?_ <;> rfl⟩
  cases hn
def T_X9_shared : List (Nat × Ent) := [(0, .aload_n 0, 1, []), (1, .getfield 21, 4, []), (4, .iload_n 1, 5, []), (5, .invokevirtual 104, 8, []), (8, .ifCond .eq 14, 11, [22]), (11, .aload_n 0, 12, []), (12, .getfield 21, 15, []), (15, .iload_n 2, 16, []), (16, .invokevirtual 104, 19, []), (19, .ifCond .ne 5, 22, [24]), (22, .iconst (-1), 23, []), (23, .ireturn, 24, []), (24, .aload_n 0, 25, []), (25, .getfield 35, 28, []), (28, .aload_n 0, 29, []), (29, .getfield 21, 32, []), (32, .getfield 114, 35, []), (35, .iload_n 1, 36, []), (36, .laload, 37, []), (37, .aload_n 0, 38, []), (38, .getfield 21, 41, []), (41, .getfield 114, 44, []), (44, .iload_n 2, 45, []), (45, .laload, 46, []), (46, .invokevirtual 207, 49, []), (49, .ireturn, 50, [])]
set_option maxRecDepth 200000 in
theorem tc_X9_shared : T_X9_shared.all (chk cX9_shared) = true := by decide +kernel
def f_X9_shared (N : Nat) (a1 : Int32) (a2 : Int32) (σ : Wd) : Option (Int32 × Wd) :=
  (f_X3_has N a1 σ).bind fun p1 => if p1.1 = 0 then (some ((-1), p1.2)) else ((f_X3_has N a2 p1.2).bind fun p2 => if p2.1 = 0 then (some ((-1), p2.2)) else ((xldL p2.2 16 12 a1).bind fun v3 => (xldL p2.2 16 12 a2).bind fun v4 => (f_X2_gatesOfBoth N v3 v4 p2.2).bind fun p5 => some (p5.1, p5.2)))
def a_X9_shared (N : Nat) : List Value → Wd → Option (Int32 × Wd) := fun as σ => kSE 0 as (fun r0 => kSI r0 (fun b1 r1 => kSI r1 (fun b2 r2 => kS0 r2 (f_X9_shared N b1 b2 σ)))) (none)
set_option maxRecDepth 200000 in
theorem k_X9_207 : calchk RX9 207 3 2 yX2_gatesOfBoth cX2_gatesOfBoth 8 (some .int) = true := by decide +kernel
def ct_X9_shared (N : Nat) : List (Nat × Cal) := [(104, 2, 3, .inl (a_X3_has N)), (207, 3, 2, .inl (a_X2_gatesOfBoth N))]
set_option maxRecDepth 200000 in
theorem md_X9_shared (N : Nat) : MDOK T_X9_shared ft_X9 lt_X9 (ct_X9_shared N) cX9_shared RX9 17 := ⟨tc_X9_shared, fc_X9, lc_X9, List.forall_mem_cons.mpr ⟨Or.inl ⟨yX3_has, cX3_has, 2, (some .boolean), 1, k_X9_104, Nat.le_of_ble_eq_true rfl, C_X3_has N⟩, List.forall_mem_cons.mpr ⟨Or.inl ⟨yX2_gatesOfBoth, cX2_gatesOfBoth, 8, (some .int), 16, k_X9_207, Nat.le_of_ble_eq_true rfl, C_X2_gatesOfBoth N⟩, (fun _ z => absurd z List.not_mem_nil)⟩⟩⟩
set_option maxRecDepth 200000 in
theorem C_X9_shared (N : Nat) : CTI 17 yX9_shared cX9_shared 3 (some .int) (a_X9_shared N) := by
  refine CTI.of (own := RX9) (by decide) rfl (fun as σ r h => ?_)
  unfold a_X9_shared at h
  rcases kSE_s h with ⟨r0, rfl, h0⟩ | hn
  ·
    obtain ⟨b1, r1, rfl, h1⟩ := kSI_s h0
    obtain ⟨b2, r2, rfl, h2⟩ := kSI_s h1
    obtain ⟨rfl, h9⟩ := kS0_s h2
    exact ⟨Nat.le_of_ble_eq_true rfl, by refine GO.to (md_X9_shared N) (kl := []) ((fun _ z => absurd z List.not_mem_nil)) 31 ?_ ?_ <;> rfl⟩
  cases hn
def T_X9_into : List (Nat × Ent) := [(0, .iload_n 1, 1, []), (1, .invokestatic 245, 4, []), (4, .ifCond .eq 14, 7, [18]), (7, .aload_n 0, 8, []), (8, .getfield 21, 11, []), (11, .iload_n 2, 12, []), (12, .invokevirtual 104, 15, []), (15, .ifCond .ne 5, 18, [20]), (18, .iconst (-1), 19, []), (19, .ireturn, 20, []), (20, .aload_n 0, 21, []), (21, .getfield 62, 24, []), (24, .iload_n 1, 25, []), (25, .aaload, 26, []), (26, .astore_n 3, 27, []), (27, .aload_n 3, 28, []), (28, .getfield 248, 31, []), (31, .ifCond .eq 19, 34, [50]), (34, .aload_n 3, 35, []), (35, .getfield 248, 38, []), (38, .iconst (-1), 39, []), (39, .if_icmp .ne 8, 42, [47]), (42, .bipush (-11), 44, []), (44, .goto 5, 47, [49]), (47, .bipush (-12), 49, []), (49, .ireturn, 50, []), (50, .aload_n 0, 51, []), (51, .iload_n 2, 52, []), (52, .invokevirtual 153, 55, []), (55, .aload_n 0, 56, []), (56, .getfield 42, 59, []), (59, .aload_n 0, 60, []), (60, .getfield 35, 63, []), (63, .invokevirtual 165, 66, []), (66, .aload_n 3, 67, []), (67, .getfield 267, 70, []), (70, .aload_n 0, 71, []), (71, .getfield 35, 74, []), (74, .getfield 273, 77, []), (77, .iconst 1, 78, []), (78, .iadd, 79, []), (79, .invokestatic 275, 82, []), (82, .istore 4, 84, []), (84, .iconst 0, 85, []), (85, .istore 5, 87, []), (87, .iload 5, 89, []), (89, .iload 4, 91, []), (91, .if_icmp .ge 30, 94, [121]), (94, .aload_n 3, 95, []), (95, .getfield 270, 98, []), (98, .iload 5, 100, []), (100, .aload_n 0, 101, []), (101, .getfield 42, 104, []), (104, .aload_n 0, 105, []), (105, .getfield 35, 108, []), (108, .iload 5, 110, []), (110, .invokevirtual 169, 113, []), (113, .i2l, 114, []), (114, .lastore, 115, []), (115, .iinc 5 1, 118, []), (118, .goto (-31), 121, [87]), (121, .iload 4, 123, []), (123, .ireturn, 124, [])]
set_option maxRecDepth 200000 in
theorem tc_X9_into : T_X9_into.all (chk cX9_into) = true := by decide +kernel
def f_X9_into_L87 (N : Nat) (KO121 : Int32 → Wd → Option (Int32 × Wd)) : Nat → Nat → Int32 → Int32 → Wd → Option (Int32 × Wd)
  | 0, _, _, _, _ => none
  | n + 1, k3, x4, x5, σ => if x4 ≤ x5 then (KO121 x4 σ) else ((f_X8_ofOutcome N x5 σ).bind fun p7 => (xstL p7.2 (k3 + 28) 20 x5 (Int32.toInt64 p7.1)).bind fun σ8 => f_X9_into_L87 N KO121 n k3 x4 (x5 + 1) σ8)
def f_X9_into_J121 (N : Nat) (x4 : Int32) (σ : Wd) : Option (Int32 × Wd) :=
  some (x4, σ)
def f_X9_into (N : Nat) (a1 : Int32) (a2 : Int32) (σ : Wd) : Option (Int32 × Wd) :=
  (f_X9_isShelf N a1 σ).bind fun p1 => if p1.1 = 0 then (some ((-1), p1.2)) else ((f_X3_has N a2 p1.2).bind fun p2 => if p2.1 = 0 then (some ((-1), p2.2)) else (xsh a1 fun k3 => if (p2.2.1 k3 1) = 0 then ((f_X9_buildNetOf N a2 p2.2).bind fun σ4 => (f_X8_come N σ4).bind fun σ5 => (f_J9_min_7cf53 N (σ5.1 k3 2) ((σ5.1 4 6) + 1) σ5).bind fun p6 => f_X9_into_L87 N (f_X9_into_J121 N) N k3 p6.1 0 p6.2) else (if (p2.2.1 k3 1) = (-1) then (some ((-11), p2.2)) else (some ((-12), p2.2)))))
def a_X9_into (N : Nat) : List Value → Wd → Option (Int32 × Wd) := fun as σ => kSE 0 as (fun r0 => kSI r0 (fun b1 r1 => kSI r1 (fun b2 r2 => kS0 r2 (f_X9_into N b1 b2 σ)))) (none)
set_option maxRecDepth 200000 in
theorem k_X9_275 : mmchk RX9 275 Lib.Math.min.name Lib.Math.min.code = true := by decide +kernel
def ct_X9_into (N : Nat) : List (Nat × Cal) := [(245, 1, 0, .inl (a_X9_isShelf N)), (104, 2, 3, .inl (a_X3_has N)), (153, 2, 9, .inr (.inr (a_X9_buildNetOf N))), (165, 2, 8, .inr (.inr (a_X8_come N))), (275, 2, 0, .inl amin), (169, 3, 8, .inl (a_X8_ofOutcome N))]
set_option maxRecDepth 200000 in
theorem md_X9_into (N : Nat) : MDOK T_X9_into ft_X9 lt_X9 (ct_X9_into N) cX9_into RX9 17 := ⟨tc_X9_into, fc_X9, lc_X9, List.forall_mem_cons.mpr ⟨Or.inl ⟨yX9_isShelf, cX9_isShelf, 1, (some .boolean), 1, k_X9_245, Nat.le_of_ble_eq_true rfl, C_X9_isShelf N⟩, List.forall_mem_cons.mpr ⟨Or.inl ⟨yX3_has, cX3_has, 2, (some .boolean), 1, k_X9_104, Nat.le_of_ble_eq_true rfl, C_X3_has N⟩, List.forall_mem_cons.mpr ⟨Or.inl ⟨yX9_buildNetOf, cX9_buildNetOf, 2, none, 16, k_X9_153, Nat.le_of_ble_eq_true rfl, C_X9_buildNetOf N⟩, List.forall_mem_cons.mpr ⟨Or.inl ⟨yX8_come, cX8_come, 3, none, 3, k_X9_165, Nat.le_of_ble_eq_true rfl, C_X8_come N⟩, List.forall_mem_cons.mpr ⟨Or.inr (Or.inr ⟨rfl, k_X9_275, Nat.le_of_ble_eq_true rfl⟩), List.forall_mem_cons.mpr ⟨Or.inl ⟨yX8_ofOutcome, cX8_ofOutcome, 3, (some .int), 3, k_X9_169, Nat.le_of_ble_eq_true rfl, C_X8_ofOutcome N⟩, (fun _ z => absurd z List.not_mem_nil)⟩⟩⟩⟩⟩⟩⟩
set_option maxRecDepth 200000 in
theorem g_X9_into_L87 (N : Nat) (KO121 : Int32 → Wd → Option (Int32 × Wd)) (hKO121 : ∀ (x4 : Int32) (σ : Wd), GO cX9_into RX9 6 17 sc0 rI nJ0 nV0 (KO121 x4 σ) 121 (mkp 0 6 [(4, .int x4)]) [] σ) : ∀ (n : Nat), ∀ (k3 : Nat) (hk3 : (k3 = 9 ∨ k3 = 10 ∨ k3 = 11 ∨ k3 = 12)) (x4 : Int32) (x5 : Int32) (σ : Wd), GO cX9_into RX9 6 17 sc0 rI nJ0 nV0 (f_X9_into_L87 N KO121 n k3 x4 x5 σ) 87 (mkp 0 6 [(0, .ref 0), (3, .ref k3), (4, .int x4), (5, .int x5)]) [] σ
  | 0, k3, hk3, x4, x5, σ => GO.none
  | n + 1, k3, hk3, x4, x5, σ => by
    rcases hk3 with rfl | rfl | rfl | rfl
    · exact (by refine GO.to (md_X9_into N) (kl := [(121, fun vs st σ => kS0 st (kI 4 vs (fun x4 => KO121 x4 σ))), (87, fun vs st σ => kS0 st (kA 0 0 vs (kAE 3 9 vs (kI 4 vs (fun x4 => kI 5 vs (fun x5 => f_X9_into_L87 N KO121 n 9 x4 x5 σ))) (kAE 3 10 vs (kI 4 vs (fun x4 => kI 5 vs (fun x5 => f_X9_into_L87 N KO121 n 10 x4 x5 σ))) (kAE 3 11 vs (kI 4 vs (fun x4 => kI 5 vs (fun x5 => f_X9_into_L87 N KO121 n 11 x4 x5 σ))) (kAE 3 12 vs (kI 4 vs (fun x4 => kI 5 vs (fun x5 => f_X9_into_L87 N KO121 n 12 x4 x5 σ))) (none)))))))]) (List.forall_mem_cons.mpr ⟨fun vs st σ => go_kS0 (go_kI (fun x4 h4 => GO.pat [(4, .int x4)] ⟨h4, trivial⟩ (hKO121 x4 σ))), List.forall_mem_cons.mpr ⟨fun vs st σ => go_kS0 (go_kA (fun h0 => go_kAE (fun h3 => go_kI (fun x4 h4 => go_kI (fun x5 h5 => GO.pat [(0, .ref 0), (3, .ref 9), (4, .int x4), (5, .int x5)] ⟨h0, h3, h4, h5, trivial⟩ (g_X9_into_L87 N KO121 hKO121 n 9 (Or.inl rfl) x4 x5 σ)))) (go_kAE (fun h3 => go_kI (fun x4 h4 => go_kI (fun x5 h5 => GO.pat [(0, .ref 0), (3, .ref 10), (4, .int x4), (5, .int x5)] ⟨h0, h3, h4, h5, trivial⟩ (g_X9_into_L87 N KO121 hKO121 n 10 (Or.inr (Or.inl rfl)) x4 x5 σ)))) (go_kAE (fun h3 => go_kI (fun x4 h4 => go_kI (fun x5 h5 => GO.pat [(0, .ref 0), (3, .ref 11), (4, .int x4), (5, .int x5)] ⟨h0, h3, h4, h5, trivial⟩ (g_X9_into_L87 N KO121 hKO121 n 11 (Or.inr (Or.inr (Or.inl rfl))) x4 x5 σ)))) (go_kAE (fun h3 => go_kI (fun x4 h4 => go_kI (fun x5 h5 => GO.pat [(0, .ref 0), (3, .ref 12), (4, .int x4), (5, .int x5)] ⟨h0, h3, h4, h5, trivial⟩ (g_X9_into_L87 N KO121 hKO121 n 12 (Or.inr (Or.inr (Or.inr rfl))) x4 x5 σ)))) (GO.none)))))), (fun _ z => absurd z List.not_mem_nil)⟩⟩) 68 ?_ ?_ <;> rfl)
    · exact (by refine GO.to (md_X9_into N) (kl := [(121, fun vs st σ => kS0 st (kI 4 vs (fun x4 => KO121 x4 σ))), (87, fun vs st σ => kS0 st (kA 0 0 vs (kAE 3 9 vs (kI 4 vs (fun x4 => kI 5 vs (fun x5 => f_X9_into_L87 N KO121 n 9 x4 x5 σ))) (kAE 3 10 vs (kI 4 vs (fun x4 => kI 5 vs (fun x5 => f_X9_into_L87 N KO121 n 10 x4 x5 σ))) (kAE 3 11 vs (kI 4 vs (fun x4 => kI 5 vs (fun x5 => f_X9_into_L87 N KO121 n 11 x4 x5 σ))) (kAE 3 12 vs (kI 4 vs (fun x4 => kI 5 vs (fun x5 => f_X9_into_L87 N KO121 n 12 x4 x5 σ))) (none)))))))]) (List.forall_mem_cons.mpr ⟨fun vs st σ => go_kS0 (go_kI (fun x4 h4 => GO.pat [(4, .int x4)] ⟨h4, trivial⟩ (hKO121 x4 σ))), List.forall_mem_cons.mpr ⟨fun vs st σ => go_kS0 (go_kA (fun h0 => go_kAE (fun h3 => go_kI (fun x4 h4 => go_kI (fun x5 h5 => GO.pat [(0, .ref 0), (3, .ref 9), (4, .int x4), (5, .int x5)] ⟨h0, h3, h4, h5, trivial⟩ (g_X9_into_L87 N KO121 hKO121 n 9 (Or.inl rfl) x4 x5 σ)))) (go_kAE (fun h3 => go_kI (fun x4 h4 => go_kI (fun x5 h5 => GO.pat [(0, .ref 0), (3, .ref 10), (4, .int x4), (5, .int x5)] ⟨h0, h3, h4, h5, trivial⟩ (g_X9_into_L87 N KO121 hKO121 n 10 (Or.inr (Or.inl rfl)) x4 x5 σ)))) (go_kAE (fun h3 => go_kI (fun x4 h4 => go_kI (fun x5 h5 => GO.pat [(0, .ref 0), (3, .ref 11), (4, .int x4), (5, .int x5)] ⟨h0, h3, h4, h5, trivial⟩ (g_X9_into_L87 N KO121 hKO121 n 11 (Or.inr (Or.inr (Or.inl rfl))) x4 x5 σ)))) (go_kAE (fun h3 => go_kI (fun x4 h4 => go_kI (fun x5 h5 => GO.pat [(0, .ref 0), (3, .ref 12), (4, .int x4), (5, .int x5)] ⟨h0, h3, h4, h5, trivial⟩ (g_X9_into_L87 N KO121 hKO121 n 12 (Or.inr (Or.inr (Or.inr rfl))) x4 x5 σ)))) (GO.none)))))), (fun _ z => absurd z List.not_mem_nil)⟩⟩) 68 ?_ ?_ <;> rfl)
    · exact (by refine GO.to (md_X9_into N) (kl := [(121, fun vs st σ => kS0 st (kI 4 vs (fun x4 => KO121 x4 σ))), (87, fun vs st σ => kS0 st (kA 0 0 vs (kAE 3 9 vs (kI 4 vs (fun x4 => kI 5 vs (fun x5 => f_X9_into_L87 N KO121 n 9 x4 x5 σ))) (kAE 3 10 vs (kI 4 vs (fun x4 => kI 5 vs (fun x5 => f_X9_into_L87 N KO121 n 10 x4 x5 σ))) (kAE 3 11 vs (kI 4 vs (fun x4 => kI 5 vs (fun x5 => f_X9_into_L87 N KO121 n 11 x4 x5 σ))) (kAE 3 12 vs (kI 4 vs (fun x4 => kI 5 vs (fun x5 => f_X9_into_L87 N KO121 n 12 x4 x5 σ))) (none)))))))]) (List.forall_mem_cons.mpr ⟨fun vs st σ => go_kS0 (go_kI (fun x4 h4 => GO.pat [(4, .int x4)] ⟨h4, trivial⟩ (hKO121 x4 σ))), List.forall_mem_cons.mpr ⟨fun vs st σ => go_kS0 (go_kA (fun h0 => go_kAE (fun h3 => go_kI (fun x4 h4 => go_kI (fun x5 h5 => GO.pat [(0, .ref 0), (3, .ref 9), (4, .int x4), (5, .int x5)] ⟨h0, h3, h4, h5, trivial⟩ (g_X9_into_L87 N KO121 hKO121 n 9 (Or.inl rfl) x4 x5 σ)))) (go_kAE (fun h3 => go_kI (fun x4 h4 => go_kI (fun x5 h5 => GO.pat [(0, .ref 0), (3, .ref 10), (4, .int x4), (5, .int x5)] ⟨h0, h3, h4, h5, trivial⟩ (g_X9_into_L87 N KO121 hKO121 n 10 (Or.inr (Or.inl rfl)) x4 x5 σ)))) (go_kAE (fun h3 => go_kI (fun x4 h4 => go_kI (fun x5 h5 => GO.pat [(0, .ref 0), (3, .ref 11), (4, .int x4), (5, .int x5)] ⟨h0, h3, h4, h5, trivial⟩ (g_X9_into_L87 N KO121 hKO121 n 11 (Or.inr (Or.inr (Or.inl rfl))) x4 x5 σ)))) (go_kAE (fun h3 => go_kI (fun x4 h4 => go_kI (fun x5 h5 => GO.pat [(0, .ref 0), (3, .ref 12), (4, .int x4), (5, .int x5)] ⟨h0, h3, h4, h5, trivial⟩ (g_X9_into_L87 N KO121 hKO121 n 12 (Or.inr (Or.inr (Or.inr rfl))) x4 x5 σ)))) (GO.none)))))), (fun _ z => absurd z List.not_mem_nil)⟩⟩) 68 ?_ ?_ <;> rfl)
    · exact (by refine GO.to (md_X9_into N) (kl := [(121, fun vs st σ => kS0 st (kI 4 vs (fun x4 => KO121 x4 σ))), (87, fun vs st σ => kS0 st (kA 0 0 vs (kAE 3 9 vs (kI 4 vs (fun x4 => kI 5 vs (fun x5 => f_X9_into_L87 N KO121 n 9 x4 x5 σ))) (kAE 3 10 vs (kI 4 vs (fun x4 => kI 5 vs (fun x5 => f_X9_into_L87 N KO121 n 10 x4 x5 σ))) (kAE 3 11 vs (kI 4 vs (fun x4 => kI 5 vs (fun x5 => f_X9_into_L87 N KO121 n 11 x4 x5 σ))) (kAE 3 12 vs (kI 4 vs (fun x4 => kI 5 vs (fun x5 => f_X9_into_L87 N KO121 n 12 x4 x5 σ))) (none)))))))]) (List.forall_mem_cons.mpr ⟨fun vs st σ => go_kS0 (go_kI (fun x4 h4 => GO.pat [(4, .int x4)] ⟨h4, trivial⟩ (hKO121 x4 σ))), List.forall_mem_cons.mpr ⟨fun vs st σ => go_kS0 (go_kA (fun h0 => go_kAE (fun h3 => go_kI (fun x4 h4 => go_kI (fun x5 h5 => GO.pat [(0, .ref 0), (3, .ref 9), (4, .int x4), (5, .int x5)] ⟨h0, h3, h4, h5, trivial⟩ (g_X9_into_L87 N KO121 hKO121 n 9 (Or.inl rfl) x4 x5 σ)))) (go_kAE (fun h3 => go_kI (fun x4 h4 => go_kI (fun x5 h5 => GO.pat [(0, .ref 0), (3, .ref 10), (4, .int x4), (5, .int x5)] ⟨h0, h3, h4, h5, trivial⟩ (g_X9_into_L87 N KO121 hKO121 n 10 (Or.inr (Or.inl rfl)) x4 x5 σ)))) (go_kAE (fun h3 => go_kI (fun x4 h4 => go_kI (fun x5 h5 => GO.pat [(0, .ref 0), (3, .ref 11), (4, .int x4), (5, .int x5)] ⟨h0, h3, h4, h5, trivial⟩ (g_X9_into_L87 N KO121 hKO121 n 11 (Or.inr (Or.inr (Or.inl rfl))) x4 x5 σ)))) (go_kAE (fun h3 => go_kI (fun x4 h4 => go_kI (fun x5 h5 => GO.pat [(0, .ref 0), (3, .ref 12), (4, .int x4), (5, .int x5)] ⟨h0, h3, h4, h5, trivial⟩ (g_X9_into_L87 N KO121 hKO121 n 12 (Or.inr (Or.inr (Or.inr rfl))) x4 x5 σ)))) (GO.none)))))), (fun _ z => absurd z List.not_mem_nil)⟩⟩) 68 ?_ ?_ <;> rfl)
set_option maxRecDepth 200000 in
theorem g_X9_into_J121 (N : Nat) (x4 : Int32) (σ : Wd) : GO cX9_into RX9 6 17 sc0 rI nJ0 nV0 (f_X9_into_J121 N x4 σ) 121 (mkp 0 6 [(4, .int x4)]) [] σ := by
  exact (by refine GO.to (md_X9_into N) (kl := []) ((fun _ z => absurd z List.not_mem_nil)) 68 ?_ ?_ <;> rfl)
set_option maxRecDepth 200000 in
theorem C_X9_into (N : Nat) : CTI 17 yX9_into cX9_into 6 (some .int) (a_X9_into N) := by
  refine CTI.of (own := RX9) (by decide) rfl (fun as σ r h => ?_)
  unfold a_X9_into at h
  rcases kSE_s h with ⟨r0, rfl, h0⟩ | hn
  ·
    obtain ⟨b1, r1, rfl, h1⟩ := kSI_s h0
    obtain ⟨b2, r2, rfl, h2⟩ := kSI_s h1
    obtain ⟨rfl, h9⟩ := kS0_s h2
    exact ⟨Nat.le_of_ble_eq_true rfl, by refine GO.to (md_X9_into N) (kl := [(87, fun vs st σ => kS0 st (kA 0 0 vs (kAE 3 9 vs (kI 4 vs (fun x4 => kI 5 vs (fun x5 => f_X9_into_L87 N (f_X9_into_J121 N) N 9 x4 x5 σ))) (kAE 3 10 vs (kI 4 vs (fun x4 => kI 5 vs (fun x5 => f_X9_into_L87 N (f_X9_into_J121 N) N 10 x4 x5 σ))) (kAE 3 11 vs (kI 4 vs (fun x4 => kI 5 vs (fun x5 => f_X9_into_L87 N (f_X9_into_J121 N) N 11 x4 x5 σ))) (kAE 3 12 vs (kI 4 vs (fun x4 => kI 5 vs (fun x5 => f_X9_into_L87 N (f_X9_into_J121 N) N 12 x4 x5 σ))) (none)))))))]) (List.forall_mem_cons.mpr ⟨fun vs st σ => go_kS0 (go_kA (fun h0 => go_kAE (fun h3 => go_kI (fun x4 h4 => go_kI (fun x5 h5 => GO.pat [(0, .ref 0), (3, .ref 9), (4, .int x4), (5, .int x5)] ⟨h0, h3, h4, h5, trivial⟩ (g_X9_into_L87 N (f_X9_into_J121 N) (g_X9_into_J121 N) N 9 (Or.inl rfl) x4 x5 σ)))) (go_kAE (fun h3 => go_kI (fun x4 h4 => go_kI (fun x5 h5 => GO.pat [(0, .ref 0), (3, .ref 10), (4, .int x4), (5, .int x5)] ⟨h0, h3, h4, h5, trivial⟩ (g_X9_into_L87 N (f_X9_into_J121 N) (g_X9_into_J121 N) N 10 (Or.inr (Or.inl rfl)) x4 x5 σ)))) (go_kAE (fun h3 => go_kI (fun x4 h4 => go_kI (fun x5 h5 => GO.pat [(0, .ref 0), (3, .ref 11), (4, .int x4), (5, .int x5)] ⟨h0, h3, h4, h5, trivial⟩ (g_X9_into_L87 N (f_X9_into_J121 N) (g_X9_into_J121 N) N 11 (Or.inr (Or.inr (Or.inl rfl))) x4 x5 σ)))) (go_kAE (fun h3 => go_kI (fun x4 h4 => go_kI (fun x5 h5 => GO.pat [(0, .ref 0), (3, .ref 12), (4, .int x4), (5, .int x5)] ⟨h0, h3, h4, h5, trivial⟩ (g_X9_into_L87 N (f_X9_into_J121 N) (g_X9_into_J121 N) N 12 (Or.inr (Or.inr (Or.inr rfl))) x4 x5 σ)))) (GO.none)))))), (fun _ z => absurd z List.not_mem_nil)⟩) 68 ?_ ?_ <;> rfl⟩
  cases hn
def T_X9_choose : List (Nat × Ent) := [(0, .iload_n 1, 1, []), (1, .iload_n 2, 2, []), (2, .iload_n 3, 3, []), (3, .invokestatic 215, 6, []), (6, .ifCond .eq 21, 9, [27]), (9, .iload 4, 11, []), (11, .ifCond .lt 16, 14, [27]), (14, .iload 4, 16, []), (16, .iconst 2, 17, []), (17, .if_icmp .le 12, 20, [29]), (20, .iload 4, 22, []), (22, .bipush 10, 24, []), (24, .if_icmp .ge 5, 27, [29]), (27, .iconst (-1), 28, []), (28, .ireturn, 29, []), (29, .aload_n 0, 30, []), (30, .getfield 56, 33, []), (33, .aload_n 0, 34, []), (34, .getfield 35, 37, []), (37, .aload_n 0, 38, []), (38, .getfield 42, 41, []), (41, .iload_n 1, 42, []), (42, .iload_n 2, 43, []), (43, .iload_n 3, 44, []), (44, .invokevirtual 219, 47, []), (47, .iload 4, 49, []), (49, .iconst 2, 50, []), (50, .if_icmp .ne 11, 53, [61]), (53, .aload_n 0, 54, []), (54, .getfield 56, 57, []), (57, .getfield 223, 60, []), (60, .ireturn, 61, []), (61, .aload_n 0, 62, []), (62, .getfield 56, 65, []), (65, .getfield 223, 68, []), (68, .ifCond .ne 6, 71, [74]), (71, .bipush (-2), 73, []), (73, .ireturn, 74, []), (74, .iload 4, 76, []), (76, .ifCond .ne 11, 79, [87]), (79, .aload_n 0, 80, []), (80, .getfield 56, 83, []), (83, .getfield 226, 86, []), (86, .ireturn, 87, []), (87, .iload 4, 89, []), (89, .iconst 1, 90, []), (90, .if_icmp .ne 13, 93, [103]), (93, .aload_n 0, 94, []), (94, .getfield 56, 97, []), (97, .getfield 229, 100, []), (100, .goto 18, 103, [118]), (103, .aload_n 0, 104, []), (104, .getfield 56, 107, []), (107, .getfield 232, 110, []), (110, .iload 4, 112, []), (112, .bipush 10, 114, []), (114, .isub, 115, []), (115, .invokestatic 125, 118, []), (118, .ireturn, 119, [])]
set_option maxRecDepth 200000 in
theorem tc_X9_choose : T_X9_choose.all (chk cX9_choose) = true := by decide +kernel
def f_X9_choose_J29 (N : Nat) (x1 : Int32) (x2 : Int32) (x3 : Int32) (x4 : Int32) (σ : Wd) : Option (Int32 × Wd) :=
  (f_X4_run N x1 x2 x3 σ).bind fun σ2 => if x4 = 2 then (some (σ2.1 7 1, σ2)) else (if (σ2.1 7 1) = 0 then (some ((-2), σ2)) else (if x4 = 0 then (some (σ2.1 7 2, σ2)) else (if x4 = 1 then (some (σ2.1 7 3, σ2)) else ((f_X0_figureOf N (σ2.2 7 4) (x4 - 10) σ2).bind fun p3 => some (p3.1, p3.2)))))
def f_X9_choose (N : Nat) (a1 : Int32) (a2 : Int32) (a3 : Int32) (a4 : Int32) (σ : Wd) : Option (Int32 × Wd) :=
  (f_X9_canChoose N a1 a2 a3 σ).bind fun p1 => if p1.1 = 0 then (some ((-1), p1.2)) else (if a4 < 0 then (some ((-1), p1.2)) else (if a4 ≤ 2 then (f_X9_choose_J29 N a1 a2 a3 a4 p1.2) else (if 10 ≤ a4 then (f_X9_choose_J29 N a1 a2 a3 a4 p1.2) else (some ((-1), p1.2)))))
def a_X9_choose (N : Nat) : List Value → Wd → Option (Int32 × Wd) := fun as σ => kSE 0 as (fun r0 => kSI r0 (fun b1 r1 => kSI r1 (fun b2 r2 => kSI r2 (fun b3 r3 => kSI r3 (fun b4 r4 => kS0 r4 (f_X9_choose N b1 b2 b3 b4 σ)))))) (none)
set_option maxRecDepth 200000 in
theorem k_X9_215 : calchk RX9 215 3 0 yX9_canChoose cX9_canChoose 3 (some .boolean) = true := by decide +kernel
set_option maxRecDepth 200000 in
theorem k_X9_219 : calchk RX9 219 6 4 yX4_run cX4_run 6 none = true := by decide +kernel
def ct_X9_choose (N : Nat) : List (Nat × Cal) := [(215, 3, 0, .inl (a_X9_canChoose N)), (219, 6, 4, .inr (.inr (a_X4_run N))), (125, 2, 0, .inl (a_X0_figureOf N))]
set_option maxRecDepth 200000 in
theorem md_X9_choose (N : Nat) : MDOK T_X9_choose ft_X9 lt_X9 (ct_X9_choose N) cX9_choose RX9 26 := ⟨tc_X9_choose, fc_X9, lc_X9, List.forall_mem_cons.mpr ⟨Or.inl ⟨yX9_canChoose, cX9_canChoose, 3, (some .boolean), 2, k_X9_215, Nat.le_of_ble_eq_true rfl, C_X9_canChoose N⟩, List.forall_mem_cons.mpr ⟨Or.inl ⟨yX4_run, cX4_run, 6, none, 25, k_X9_219, Nat.le_of_ble_eq_true rfl, C_X4_run N⟩, List.forall_mem_cons.mpr ⟨Or.inl ⟨yX0_figureOf, cX0_figureOf, 3, (some .int), 3, k_X9_125, Nat.le_of_ble_eq_true rfl, C_X0_figureOf N⟩, (fun _ z => absurd z List.not_mem_nil)⟩⟩⟩⟩
set_option maxRecDepth 200000 in
theorem g_X9_choose_J29 (N : Nat) (x1 : Int32) (x2 : Int32) (x3 : Int32) (x4 : Int32) (σ : Wd) : GO cX9_choose RX9 5 26 sc0 rI nJ0 nV0 (f_X9_choose_J29 N x1 x2 x3 x4 σ) 29 (mkp 0 5 [(0, .ref 0), (1, .int x1), (2, .int x2), (3, .int x3), (4, .int x4)]) [] σ := by
  exact (by refine GO.to (md_X9_choose N) (kl := []) ((fun _ z => absurd z List.not_mem_nil)) 64 ?_ ?_ <;> rfl)
set_option maxRecDepth 200000 in
theorem C_X9_choose (N : Nat) : CTI 26 yX9_choose cX9_choose 5 (some .int) (a_X9_choose N) := by
  refine CTI.of (own := RX9) (by decide) rfl (fun as σ r h => ?_)
  unfold a_X9_choose at h
  rcases kSE_s h with ⟨r0, rfl, h0⟩ | hn
  ·
    obtain ⟨b1, r1, rfl, h1⟩ := kSI_s h0
    obtain ⟨b2, r2, rfl, h2⟩ := kSI_s h1
    obtain ⟨b3, r3, rfl, h3⟩ := kSI_s h2
    obtain ⟨b4, r4, rfl, h4⟩ := kSI_s h3
    obtain ⟨rfl, h9⟩ := kS0_s h4
    exact ⟨Nat.le_of_ble_eq_true rfl, by refine GO.to (md_X9_choose N) (kl := [(29, fun vs st σ => kS0 st (kA 0 0 vs (kI 1 vs (fun x1 => kI 2 vs (fun x2 => kI 3 vs (fun x3 => kI 4 vs (fun x4 => f_X9_choose_J29 N x1 x2 x3 x4 σ)))))))]) (List.forall_mem_cons.mpr ⟨fun vs st σ => go_kS0 (go_kA (fun h0 => go_kI (fun x1 h1 => go_kI (fun x2 h2 => go_kI (fun x3 h3 => go_kI (fun x4 h4 => GO.pat [(0, .ref 0), (1, .int x1), (2, .int x2), (3, .int x3), (4, .int x4)] ⟨h0, h1, h2, h3, h4, trivial⟩ (g_X9_choose_J29 N x1 x2 x3 x4 σ))))))), (fun _ z => absurd z List.not_mem_nil)⟩) 64 ?_ ?_ <;> rfl⟩
  cases hn
def T_X9_chosen : List (Nat × Ent) := [(0, .iload_n 1, 1, []), (1, .iload_n 2, 2, []), (2, .iload_n 3, 3, []), (3, .invokestatic 215, 6, []), (6, .ifCond .ne 5, 9, [11]), (9, .iconst (-1), 10, []), (10, .ireturn, 11, []), (11, .aload_n 0, 12, []), (12, .getfield 12, 15, []), (15, .invokevirtual 98, 18, []), (18, .istore 4, 20, []), (20, .iload 4, 22, []), (22, .ifCond .ne 6, 25, [28]), (25, .bipush (-100), 27, []), (27, .ireturn, 28, []), (28, .aload_n 0, 29, []), (29, .getfield 56, 32, []), (32, .aload_n 0, 33, []), (33, .getfield 35, 36, []), (36, .aload_n 0, 37, []), (37, .getfield 42, 40, []), (40, .iload_n 1, 41, []), (41, .iload_n 2, 42, []), (42, .iload_n 3, 43, []), (43, .invokevirtual 219, 46, []), (46, .aload_n 0, 47, []), (47, .getfield 56, 50, []), (50, .getfield 223, 53, []), (53, .ifCond .ne 8, 56, [61]), (56, .bipush (-2), 58, []), (58, .goto 19, 61, [77]), (61, .aload_n 0, 62, []), (62, .getfield 21, 65, []), (65, .iload 4, 67, []), (67, .aload_n 0, 68, []), (68, .getfield 56, 71, []), (71, .getfield 232, 74, []), (74, .invokevirtual 94, 77, []), (77, .ireturn, 78, [])]
set_option maxRecDepth 200000 in
theorem tc_X9_chosen : T_X9_chosen.all (chk cX9_chosen) = true := by decide +kernel
def f_X9_chosen (N : Nat) (a1 : Int32) (a2 : Int32) (a3 : Int32) (σ : Wd) : Option (Int32 × Wd) :=
  (f_X9_canChoose N a1 a2 a3 σ).bind fun p1 => if p1.1 = 0 then (some ((-1), p1.2)) else ((f_X7_takeName N p1.2).bind fun p2 => if p2.1 = 0 then (some ((-100), p2.2)) else ((f_X4_run N a1 a2 a3 p2.2).bind fun σ3 => if (σ3.1 7 1) = 0 then (some ((-2), σ3)) else ((f_X3_tell N p2.1 (σ3.2 7 4) σ3).bind fun p4 => some (p4.1, p4.2))))
def a_X9_chosen (N : Nat) : List Value → Wd → Option (Int32 × Wd) := fun as σ => kSE 0 as (fun r0 => kSI r0 (fun b1 r1 => kSI r1 (fun b2 r2 => kSI r2 (fun b3 r3 => kS0 r3 (f_X9_chosen N b1 b2 b3 σ))))) (none)
def ct_X9_chosen (N : Nat) : List (Nat × Cal) := [(215, 3, 0, .inl (a_X9_canChoose N)), (98, 1, 7, .inl (a_X7_takeName N)), (219, 6, 4, .inr (.inr (a_X4_run N))), (94, 3, 3, .inl (a_X3_tell N))]
set_option maxRecDepth 200000 in
theorem md_X9_chosen (N : Nat) : MDOK T_X9_chosen ft_X9 lt_X9 (ct_X9_chosen N) cX9_chosen RX9 26 := ⟨tc_X9_chosen, fc_X9, lc_X9, List.forall_mem_cons.mpr ⟨Or.inl ⟨yX9_canChoose, cX9_canChoose, 3, (some .boolean), 2, k_X9_215, Nat.le_of_ble_eq_true rfl, C_X9_canChoose N⟩, List.forall_mem_cons.mpr ⟨Or.inl ⟨yX7_takeName, cX7_takeName, 3, (some .int), 3, k_X9_98, Nat.le_of_ble_eq_true rfl, C_X7_takeName N⟩, List.forall_mem_cons.mpr ⟨Or.inl ⟨yX4_run, cX4_run, 6, none, 25, k_X9_219, Nat.le_of_ble_eq_true rfl, C_X4_run N⟩, List.forall_mem_cons.mpr ⟨Or.inl ⟨yX3_tell, cX3_tell, 5, (some .int), 2, k_X9_94, Nat.le_of_ble_eq_true rfl, C_X3_tell N⟩, (fun _ z => absurd z List.not_mem_nil)⟩⟩⟩⟩⟩
set_option maxRecDepth 200000 in
theorem C_X9_chosen (N : Nat) : CTI 26 yX9_chosen cX9_chosen 5 (some .int) (a_X9_chosen N) := by
  refine CTI.of (own := RX9) (by decide) rfl (fun as σ r h => ?_)
  unfold a_X9_chosen at h
  rcases kSE_s h with ⟨r0, rfl, h0⟩ | hn
  ·
    obtain ⟨b1, r1, rfl, h1⟩ := kSI_s h0
    obtain ⟨b2, r2, rfl, h2⟩ := kSI_s h1
    obtain ⟨b3, r3, rfl, h3⟩ := kSI_s h2
    obtain ⟨rfl, h9⟩ := kS0_s h3
    exact ⟨Nat.le_of_ble_eq_true rfl, by refine GO.to (md_X9_chosen N) (kl := []) ((fun _ z => absurd z List.not_mem_nil)) 44 ?_ ?_ <;> rfl⟩
  cases hn
end
