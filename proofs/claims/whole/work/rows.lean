section
/-- a private method of a class that the tables say can be made, by its rows of tables_1 -/
def lw_okq (q : MethodName × Nat) : Prop := (q.1.cls ≠ "java/lang/invoke/MethodHandle" ∧ q.1.cls ≠ "java/lang/invoke/VarHandle") ∧ Cond.instantiable q.1.cls q.2 ∈ tables_1 ∧ Cond.privateMethod q.1 ∈ tables_1 ∧ Cond.instanceMethod q.1 ∈ tables_1
theorem lw_p0 : lw_okq (⟨"AdderChooser", "timesHaveChanged", "()V"⟩, 9) := ⟨⟨by decide +kernel, by decide +kernel⟩, List.mem_of_getElem? (i := 16) (by decide +kernel), List.mem_of_getElem? (i := 373) (by decide +kernel), List.mem_of_getElem? (i := 374) (by decide +kernel)⟩
theorem lw_p1 : lw_okq (⟨"AdderChooser$Known", "placeOf", "(J)I"⟩, 2) := ⟨⟨by decide +kernel, by decide +kernel⟩, List.mem_of_getElem? (i := 63) (by decide +kernel), List.mem_of_getElem? (i := 396) (by decide +kernel), List.mem_of_getElem? (i := 397) (by decide +kernel)⟩
theorem lw_p2 : lw_okq (⟨"AdderChooser", "buildNetOf", "(I)V"⟩, 9) := ⟨⟨by decide +kernel, by decide +kernel⟩, List.mem_of_getElem? (i := 16) (by decide +kernel), List.mem_of_getElem? (i := 400) (by decide +kernel), List.mem_of_getElem? (i := 401) (by decide +kernel)⟩
theorem lw_p3 : lw_okq (⟨"AdderChooser$Net", "xor", "(II)I"⟩, 15) := ⟨⟨by decide +kernel, by decide +kernel⟩, List.mem_of_getElem? (i := 77) (by decide +kernel), List.mem_of_getElem? (i := 419) (by decide +kernel), List.mem_of_getElem? (i := 420) (by decide +kernel)⟩
theorem lw_p4 : lw_okq (⟨"AdderChooser$Net", "made", "(III)I"⟩, 15) := ⟨⟨by decide +kernel, by decide +kernel⟩, List.mem_of_getElem? (i := 77) (by decide +kernel), List.mem_of_getElem? (i := 423) (by decide +kernel), List.mem_of_getElem? (i := 424) (by decide +kernel)⟩
theorem lw_p5 : lw_okq (⟨"AdderChooser$Net", "and", "(II)I"⟩, 15) := ⟨⟨by decide +kernel, by decide +kernel⟩, List.mem_of_getElem? (i := 77) (by decide +kernel), List.mem_of_getElem? (i := 427) (by decide +kernel), List.mem_of_getElem? (i := 428) (by decide +kernel)⟩
theorem lw_p6 : lw_okq (⟨"AdderChooser$Net", "laySkip", "(II)I"⟩, 15) := ⟨⟨by decide +kernel, by decide +kernel⟩, List.mem_of_getElem? (i := 77) (by decide +kernel), List.mem_of_getElem? (i := 431) (by decide +kernel), List.mem_of_getElem? (i := 432) (by decide +kernel)⟩
theorem lw_p7 : lw_okq (⟨"AdderChooser$Net", "ripple", "(III[I)I"⟩, 15) := ⟨⟨by decide +kernel, by decide +kernel⟩, List.mem_of_getElem? (i := 77) (by decide +kernel), List.mem_of_getElem? (i := 435) (by decide +kernel), List.mem_of_getElem? (i := 436) (by decide +kernel)⟩
theorem lw_p8 : lw_okq (⟨"AdderChooser$Net", "or", "(II)I"⟩, 15) := ⟨⟨by decide +kernel, by decide +kernel⟩, List.mem_of_getElem? (i := 77) (by decide +kernel), List.mem_of_getElem? (i := 439) (by decide +kernel), List.mem_of_getElem? (i := 440) (by decide +kernel)⟩
theorem lw_p9 : lw_okq (⟨"AdderChooser$Net", "laySelect", "(II)I"⟩, 15) := ⟨⟨by decide +kernel, by decide +kernel⟩, List.mem_of_getElem? (i := 77) (by decide +kernel), List.mem_of_getElem? (i := 443) (by decide +kernel), List.mem_of_getElem? (i := 444) (by decide +kernel)⟩
theorem lw_p10 : lw_okq (⟨"AdderChooser$Net", "not", "(I)I"⟩, 15) := ⟨⟨by decide +kernel, by decide +kernel⟩, List.mem_of_getElem? (i := 77) (by decide +kernel), List.mem_of_getElem? (i := 447) (by decide +kernel), List.mem_of_getElem? (i := 448) (by decide +kernel)⟩
theorem lw_p11 : lw_okq (⟨"AdderChooser$Net", "layAhead", "(II)I"⟩, 15) := ⟨⟨by decide +kernel, by decide +kernel⟩, List.mem_of_getElem? (i := 77) (by decide +kernel), List.mem_of_getElem? (i := 451) (by decide +kernel), List.mem_of_getElem? (i := 452) (by decide +kernel)⟩
theorem lw_p12 : lw_okq (⟨"AdderChooser", "hasOutcome", "(II)Z"⟩, 9) := ⟨⟨by decide +kernel, by decide +kernel⟩, List.mem_of_getElem? (i := 16) (by decide +kernel), List.mem_of_getElem? (i := 474) (by decide +kernel), List.mem_of_getElem? (i := 475) (by decide +kernel)⟩
theorem lw_p13 : lw_okq (⟨"AdderChooser$Timing", "inputsArrive", "()V"⟩, 6) := ⟨⟨by decide +kernel, by decide +kernel⟩, List.mem_of_getElem? (i := 140) (by decide +kernel), List.mem_of_getElem? (i := 482) (by decide +kernel), List.mem_of_getElem? (i := 483) (by decide +kernel)⟩
theorem lw_p14 : lw_okq (⟨"AdderChooser$Timing", "laterPart", "(LAdderChooser$Net;I)I"⟩, 6) := ⟨⟨by decide +kernel, by decide +kernel⟩, List.mem_of_getElem? (i := 140) (by decide +kernel), List.mem_of_getElem? (i := 486) (by decide +kernel), List.mem_of_getElem? (i := 487) (by decide +kernel)⟩
theorem lw_p15 : lw_okq (⟨"AdderChooser$Timing", "lastOutcome", "(LAdderChooser$Net;)I"⟩, 6) := ⟨⟨by decide +kernel, by decide +kernel⟩, List.mem_of_getElem? (i := 140) (by decide +kernel), List.mem_of_getElem? (i := 497) (by decide +kernel), List.mem_of_getElem? (i := 498) (by decide +kernel)⟩
def lw_privs_1 : List (MethodName × Nat) := [(⟨"AdderChooser", "timesHaveChanged", "()V"⟩, 9), (⟨"AdderChooser$Known", "placeOf", "(J)I"⟩, 2), (⟨"AdderChooser", "buildNetOf", "(I)V"⟩, 9), (⟨"AdderChooser$Net", "xor", "(II)I"⟩, 15), (⟨"AdderChooser$Net", "made", "(III)I"⟩, 15), (⟨"AdderChooser$Net", "and", "(II)I"⟩, 15), (⟨"AdderChooser$Net", "laySkip", "(II)I"⟩, 15), (⟨"AdderChooser$Net", "ripple", "(III[I)I"⟩, 15), (⟨"AdderChooser$Net", "or", "(II)I"⟩, 15), (⟨"AdderChooser$Net", "laySelect", "(II)I"⟩, 15), (⟨"AdderChooser$Net", "not", "(I)I"⟩, 15), (⟨"AdderChooser$Net", "layAhead", "(II)I"⟩, 15), (⟨"AdderChooser", "hasOutcome", "(II)Z"⟩, 9), (⟨"AdderChooser$Timing", "inputsArrive", "()V"⟩, 6), (⟨"AdderChooser$Timing", "laterPart", "(LAdderChooser$Net;I)I"⟩, 6), (⟨"AdderChooser$Timing", "lastOutcome", "(LAdderChooser$Net;)I"⟩, 6)]
theorem lw_r1 : ∀ q ∈ lw_privs_1, lw_okq q := List.forall_mem_cons.mpr ⟨lw_p0, List.forall_mem_cons.mpr ⟨lw_p1, List.forall_mem_cons.mpr ⟨lw_p2, List.forall_mem_cons.mpr ⟨lw_p3, List.forall_mem_cons.mpr ⟨lw_p4, List.forall_mem_cons.mpr ⟨lw_p5, List.forall_mem_cons.mpr ⟨lw_p6, List.forall_mem_cons.mpr ⟨lw_p7, List.forall_mem_cons.mpr ⟨lw_p8, List.forall_mem_cons.mpr ⟨lw_p9, List.forall_mem_cons.mpr ⟨lw_p10, List.forall_mem_cons.mpr ⟨lw_p11, List.forall_mem_cons.mpr ⟨lw_p12, List.forall_mem_cons.mpr ⟨lw_p13, List.forall_mem_cons.mpr ⟨lw_p14, List.forall_mem_cons.mpr ⟨lw_p15, fun _ h => absurd h List.not_mem_nil⟩⟩⟩⟩⟩⟩⟩⟩⟩⟩⟩⟩⟩⟩⟩⟩
theorem lw_p16 : lw_okq (⟨"AdderChooser$Timing", "depthBelow", "(LAdderChooser$Net;II)I"⟩, 6) := ⟨⟨by decide +kernel, by decide +kernel⟩, List.mem_of_getElem? (i := 140) (by decide +kernel), List.mem_of_getElem? (i := 510) (by decide +kernel), List.mem_of_getElem? (i := 511) (by decide +kernel)⟩
theorem lw_p17 : lw_okq (⟨"AdderChooser$Timing", "isHeldUpBy", "(LAdderChooser$Net;II)Z"⟩, 6) := ⟨⟨by decide +kernel, by decide +kernel⟩, List.mem_of_getElem? (i := 140) (by decide +kernel), List.mem_of_getElem? (i := 514) (by decide +kernel), List.mem_of_getElem? (i := 515) (by decide +kernel)⟩
theorem lw_p18 : lw_okq (⟨"AdderChooser$Timing", "valueOf", "(LAdderChooser$Net;I)I"⟩, 6) := ⟨⟨by decide +kernel, by decide +kernel⟩, List.mem_of_getElem? (i := 140) (by decide +kernel), List.mem_of_getElem? (i := 550) (by decide +kernel), List.mem_of_getElem? (i := 551) (by decide +kernel)⟩
theorem lw_p19 : lw_okq (⟨"AdderChooser$Timing", "rulingPart", "(LAdderChooser$Net;I)I"⟩, 6) := ⟨⟨by decide +kernel, by decide +kernel⟩, List.mem_of_getElem? (i := 140) (by decide +kernel), List.mem_of_getElem? (i := 557) (by decide +kernel), List.mem_of_getElem? (i := 558) (by decide +kernel)⟩
theorem lw_p20 : lw_okq (⟨"AdderChooser$Sweep", "amount", "()I"⟩, 4) := ⟨⟨by decide +kernel, by decide +kernel⟩, List.mem_of_getElem? (i := 167) (by decide +kernel), List.mem_of_getElem? (i := 583) (by decide +kernel), List.mem_of_getElem? (i := 584) (by decide +kernel)⟩
theorem lw_p21 : lw_okq (⟨"AdderChooser$Sweep", "numberA", "(I)I"⟩, 4) := ⟨⟨by decide +kernel, by decide +kernel⟩, List.mem_of_getElem? (i := 167) (by decide +kernel), List.mem_of_getElem? (i := 587) (by decide +kernel), List.mem_of_getElem? (i := 588) (by decide +kernel)⟩
theorem lw_p22 : lw_okq (⟨"AdderChooser$Sweep", "numberB", "(I)I"⟩, 4) := ⟨⟨by decide +kernel, by decide +kernel⟩, List.mem_of_getElem? (i := 167) (by decide +kernel), List.mem_of_getElem? (i := 591) (by decide +kernel), List.mem_of_getElem? (i := 592) (by decide +kernel)⟩
theorem lw_p23 : lw_okq (⟨"AdderChooser$Search", "weigh", "(LAdderChooser$Net;LAdderChooser$Timing;J)V"⟩, 8) := ⟨⟨by decide +kernel, by decide +kernel⟩, List.mem_of_getElem? (i := 187) (by decide +kernel), List.mem_of_getElem? (i := 653) (by decide +kernel), List.mem_of_getElem? (i := 654) (by decide +kernel)⟩
theorem lw_p24 : lw_okq (⟨"AdderChooser", "filledShelves", "()I"⟩, 9) := ⟨⟨by decide +kernel, by decide +kernel⟩, List.mem_of_getElem? (i := 16) (by decide +kernel), List.mem_of_getElem? (i := 741) (by decide +kernel), List.mem_of_getElem? (i := 742) (by decide +kernel)⟩
theorem lw_p25 : lw_okq (⟨"AdderChooserModel", "readsName", "()V"⟩, 47) := ⟨⟨by decide +kernel, by decide +kernel⟩, List.mem_of_getElem? (i := 761) (by decide +kernel), List.mem_of_getElem? (i := 922) (by decide +kernel), List.mem_of_getElem? (i := 923) (by decide +kernel)⟩
theorem lw_p26 : lw_okq (⟨"AdderChooserModel", "here", "()I"⟩, 47) := ⟨⟨by decide +kernel, by decide +kernel⟩, List.mem_of_getElem? (i := 761) (by decide +kernel), List.mem_of_getElem? (i := 926) (by decide +kernel), List.mem_of_getElem? (i := 927) (by decide +kernel)⟩
theorem lw_p27 : lw_okq (⟨"AdderChooserModel", "areBlocks", "()Z"⟩, 47) := ⟨⟨by decide +kernel, by decide +kernel⟩, List.mem_of_getElem? (i := 761) (by decide +kernel), List.mem_of_getElem? (i := 932) (by decide +kernel), List.mem_of_getElem? (i := 933) (by decide +kernel)⟩
theorem lw_p28 : lw_okq (⟨"AdderChooserModel", "becomes", "([II)I"⟩, 47) := ⟨⟨by decide +kernel, by decide +kernel⟩, List.mem_of_getElem? (i := 761) (by decide +kernel), List.mem_of_getElem? (i := 940) (by decide +kernel), List.mem_of_getElem? (i := 941) (by decide +kernel)⟩
theorem lw_p29 : lw_okq (⟨"AdderChooserModel", "planNamed", "()I"⟩, 47) := ⟨⟨by decide +kernel, by decide +kernel⟩, List.mem_of_getElem? (i := 761) (by decide +kernel), List.mem_of_getElem? (i := 944) (by decide +kernel), List.mem_of_getElem? (i := 945) (by decide +kernel)⟩
theorem lw_p30 : lw_okq (⟨"AdderChooserModel", "isNamed", "()Z"⟩, 47) := ⟨⟨by decide +kernel, by decide +kernel⟩, List.mem_of_getElem? (i := 761) (by decide +kernel), List.mem_of_getElem? (i := 955) (by decide +kernel), List.mem_of_getElem? (i := 956) (by decide +kernel)⟩
theorem lw_p31 : lw_okq (⟨"AdderChooserModel", "isPlan", "(I)Z"⟩, 47) := ⟨⟨by decide +kernel, by decide +kernel⟩, List.mem_of_getElem? (i := 761) (by decide +kernel), List.mem_of_getElem? (i := 963) (by decide +kernel), List.mem_of_getElem? (i := 964) (by decide +kernel)⟩
def lw_privs_2 : List (MethodName × Nat) := [(⟨"AdderChooser$Timing", "depthBelow", "(LAdderChooser$Net;II)I"⟩, 6), (⟨"AdderChooser$Timing", "isHeldUpBy", "(LAdderChooser$Net;II)Z"⟩, 6), (⟨"AdderChooser$Timing", "valueOf", "(LAdderChooser$Net;I)I"⟩, 6), (⟨"AdderChooser$Timing", "rulingPart", "(LAdderChooser$Net;I)I"⟩, 6), (⟨"AdderChooser$Sweep", "amount", "()I"⟩, 4), (⟨"AdderChooser$Sweep", "numberA", "(I)I"⟩, 4), (⟨"AdderChooser$Sweep", "numberB", "(I)I"⟩, 4), (⟨"AdderChooser$Search", "weigh", "(LAdderChooser$Net;LAdderChooser$Timing;J)V"⟩, 8), (⟨"AdderChooser", "filledShelves", "()I"⟩, 9), (⟨"AdderChooserModel", "readsName", "()V"⟩, 47), (⟨"AdderChooserModel", "here", "()I"⟩, 47), (⟨"AdderChooserModel", "areBlocks", "()Z"⟩, 47), (⟨"AdderChooserModel", "becomes", "([II)I"⟩, 47), (⟨"AdderChooserModel", "planNamed", "()I"⟩, 47), (⟨"AdderChooserModel", "isNamed", "()Z"⟩, 47), (⟨"AdderChooserModel", "isPlan", "(I)Z"⟩, 47)]
theorem lw_r2 : ∀ q ∈ lw_privs_2, lw_okq q := List.forall_mem_cons.mpr ⟨lw_p16, List.forall_mem_cons.mpr ⟨lw_p17, List.forall_mem_cons.mpr ⟨lw_p18, List.forall_mem_cons.mpr ⟨lw_p19, List.forall_mem_cons.mpr ⟨lw_p20, List.forall_mem_cons.mpr ⟨lw_p21, List.forall_mem_cons.mpr ⟨lw_p22, List.forall_mem_cons.mpr ⟨lw_p23, List.forall_mem_cons.mpr ⟨lw_p24, List.forall_mem_cons.mpr ⟨lw_p25, List.forall_mem_cons.mpr ⟨lw_p26, List.forall_mem_cons.mpr ⟨lw_p27, List.forall_mem_cons.mpr ⟨lw_p28, List.forall_mem_cons.mpr ⟨lw_p29, List.forall_mem_cons.mpr ⟨lw_p30, List.forall_mem_cons.mpr ⟨lw_p31, fun _ h => absurd h List.not_mem_nil⟩⟩⟩⟩⟩⟩⟩⟩⟩⟩⟩⟩⟩⟩⟩⟩
theorem lw_p32 : lw_okq (⟨"AdderChooserModel", "width", "(I)I"⟩, 47) := ⟨⟨by decide +kernel, by decide +kernel⟩, List.mem_of_getElem? (i := 761) (by decide +kernel), List.mem_of_getElem? (i := 971) (by decide +kernel), List.mem_of_getElem? (i := 972) (by decide +kernel)⟩
theorem lw_p33 : lw_okq (⟨"AdderChooserModel", "placeKnown", "([III)I"⟩, 47) := ⟨⟨by decide +kernel, by decide +kernel⟩, List.mem_of_getElem? (i := 761) (by decide +kernel), List.mem_of_getElem? (i := 986) (by decide +kernel), List.mem_of_getElem? (i := 987) (by decide +kernel)⟩
theorem lw_p34 : lw_okq (⟨"AdderChooserModel", "knows", "(I)V"⟩, 47) := ⟨⟨by decide +kernel, by decide +kernel⟩, List.mem_of_getElem? (i := 761) (by decide +kernel), List.mem_of_getElem? (i := 1014) (by decide +kernel), List.mem_of_getElem? (i := 1015) (by decide +kernel)⟩
theorem lw_p35 : lw_okq (⟨"AdderChooserModel", "leaves", "(I)V"⟩, 47) := ⟨⟨by decide +kernel, by decide +kernel⟩, List.mem_of_getElem? (i := 761) (by decide +kernel), List.mem_of_getElem? (i := 1018) (by decide +kernel), List.mem_of_getElem? (i := 1019) (by decide +kernel)⟩
theorem lw_p36 : lw_okq (⟨"AdderChooserModel", "laysPlan", "(I)V"⟩, 47) := ⟨⟨by decide +kernel, by decide +kernel⟩, List.mem_of_getElem? (i := 761) (by decide +kernel), List.mem_of_getElem? (i := 1022) (by decide +kernel), List.mem_of_getElem? (i := 1023) (by decide +kernel)⟩
theorem lw_p37 : lw_okq (⟨"AdderChooserModel", "lays", "([III)V"⟩, 47) := ⟨⟨by decide +kernel, by decide +kernel⟩, List.mem_of_getElem? (i := 761) (by decide +kernel), List.mem_of_getElem? (i := 1026) (by decide +kernel), List.mem_of_getElem? (i := 1027) (by decide +kernel)⟩
theorem lw_p38 : lw_okq (⟨"AdderChooserModel", "clears", "()V"⟩, 47) := ⟨⟨by decide +kernel, by decide +kernel⟩, List.mem_of_getElem? (i := 761) (by decide +kernel), List.mem_of_getElem? (i := 1030) (by decide +kernel), List.mem_of_getElem? (i := 1031) (by decide +kernel)⟩
theorem lw_p39 : lw_okq (⟨"AdderChooserModel", "builds", "([III)V"⟩, 47) := ⟨⟨by decide +kernel, by decide +kernel⟩, List.mem_of_getElem? (i := 761) (by decide +kernel), List.mem_of_getElem? (i := 1034) (by decide +kernel), List.mem_of_getElem? (i := 1035) (by decide +kernel)⟩
theorem lw_p40 : lw_okq (⟨"AdderChooserModel", "ripples", "(III[I)I"⟩, 47) := ⟨⟨by decide +kernel, by decide +kernel⟩, List.mem_of_getElem? (i := 761) (by decide +kernel), List.mem_of_getElem? (i := 1038) (by decide +kernel), List.mem_of_getElem? (i := 1039) (by decide +kernel)⟩
theorem lw_p41 : lw_okq (⟨"AdderChooserModel", "p", "(I)I"⟩, 47) := ⟨⟨by decide +kernel, by decide +kernel⟩, List.mem_of_getElem? (i := 761) (by decide +kernel), List.mem_of_getElem? (i := 1042) (by decide +kernel), List.mem_of_getElem? (i := 1043) (by decide +kernel)⟩
theorem lw_p42 : lw_okq (⟨"AdderChooserModel", "xor", "(II)I"⟩, 47) := ⟨⟨by decide +kernel, by decide +kernel⟩, List.mem_of_getElem? (i := 761) (by decide +kernel), List.mem_of_getElem? (i := 1046) (by decide +kernel), List.mem_of_getElem? (i := 1047) (by decide +kernel)⟩
theorem lw_p43 : lw_okq (⟨"AdderChooserModel", "not", "(I)I"⟩, 47) := ⟨⟨by decide +kernel, by decide +kernel⟩, List.mem_of_getElem? (i := 761) (by decide +kernel), List.mem_of_getElem? (i := 1050) (by decide +kernel), List.mem_of_getElem? (i := 1051) (by decide +kernel)⟩
theorem lw_p44 : lw_okq (⟨"AdderChooserModel", "gate", "(III)I"⟩, 47) := ⟨⟨by decide +kernel, by decide +kernel⟩, List.mem_of_getElem? (i := 761) (by decide +kernel), List.mem_of_getElem? (i := 1054) (by decide +kernel), List.mem_of_getElem? (i := 1055) (by decide +kernel)⟩
theorem lw_p45 : lw_okq (⟨"AdderChooserModel", "g", "(I)I"⟩, 47) := ⟨⟨by decide +kernel, by decide +kernel⟩, List.mem_of_getElem? (i := 761) (by decide +kernel), List.mem_of_getElem? (i := 1058) (by decide +kernel), List.mem_of_getElem? (i := 1059) (by decide +kernel)⟩
theorem lw_p46 : lw_okq (⟨"AdderChooserModel", "and", "(II)I"⟩, 47) := ⟨⟨by decide +kernel, by decide +kernel⟩, List.mem_of_getElem? (i := 761) (by decide +kernel), List.mem_of_getElem? (i := 1062) (by decide +kernel), List.mem_of_getElem? (i := 1063) (by decide +kernel)⟩
theorem lw_p47 : lw_okq (⟨"AdderChooserModel", "or", "(II)I"⟩, 47) := ⟨⟨by decide +kernel, by decide +kernel⟩, List.mem_of_getElem? (i := 761) (by decide +kernel), List.mem_of_getElem? (i := 1066) (by decide +kernel), List.mem_of_getElem? (i := 1067) (by decide +kernel)⟩
def lw_privs_3 : List (MethodName × Nat) := [(⟨"AdderChooserModel", "width", "(I)I"⟩, 47), (⟨"AdderChooserModel", "placeKnown", "([III)I"⟩, 47), (⟨"AdderChooserModel", "knows", "(I)V"⟩, 47), (⟨"AdderChooserModel", "leaves", "(I)V"⟩, 47), (⟨"AdderChooserModel", "laysPlan", "(I)V"⟩, 47), (⟨"AdderChooserModel", "lays", "([III)V"⟩, 47), (⟨"AdderChooserModel", "clears", "()V"⟩, 47), (⟨"AdderChooserModel", "builds", "([III)V"⟩, 47), (⟨"AdderChooserModel", "ripples", "(III[I)I"⟩, 47), (⟨"AdderChooserModel", "p", "(I)I"⟩, 47), (⟨"AdderChooserModel", "xor", "(II)I"⟩, 47), (⟨"AdderChooserModel", "not", "(I)I"⟩, 47), (⟨"AdderChooserModel", "gate", "(III)I"⟩, 47), (⟨"AdderChooserModel", "g", "(I)I"⟩, 47), (⟨"AdderChooserModel", "and", "(II)I"⟩, 47), (⟨"AdderChooserModel", "or", "(II)I"⟩, 47)]
theorem lw_r3 : ∀ q ∈ lw_privs_3, lw_okq q := List.forall_mem_cons.mpr ⟨lw_p32, List.forall_mem_cons.mpr ⟨lw_p33, List.forall_mem_cons.mpr ⟨lw_p34, List.forall_mem_cons.mpr ⟨lw_p35, List.forall_mem_cons.mpr ⟨lw_p36, List.forall_mem_cons.mpr ⟨lw_p37, List.forall_mem_cons.mpr ⟨lw_p38, List.forall_mem_cons.mpr ⟨lw_p39, List.forall_mem_cons.mpr ⟨lw_p40, List.forall_mem_cons.mpr ⟨lw_p41, List.forall_mem_cons.mpr ⟨lw_p42, List.forall_mem_cons.mpr ⟨lw_p43, List.forall_mem_cons.mpr ⟨lw_p44, List.forall_mem_cons.mpr ⟨lw_p45, List.forall_mem_cons.mpr ⟨lw_p46, List.forall_mem_cons.mpr ⟨lw_p47, fun _ h => absurd h List.not_mem_nil⟩⟩⟩⟩⟩⟩⟩⟩⟩⟩⟩⟩⟩⟩⟩⟩
theorem lw_p48 : lw_okq (⟨"AdderChooserModel", "skips", "(III)I"⟩, 47) := ⟨⟨by decide +kernel, by decide +kernel⟩, List.mem_of_getElem? (i := 761) (by decide +kernel), List.mem_of_getElem? (i := 1070) (by decide +kernel), List.mem_of_getElem? (i := 1071) (by decide +kernel)⟩
theorem lw_p49 : lw_okq (⟨"AdderChooserModel", "selects", "(III)I"⟩, 47) := ⟨⟨by decide +kernel, by decide +kernel⟩, List.mem_of_getElem? (i := 761) (by decide +kernel), List.mem_of_getElem? (i := 1074) (by decide +kernel), List.mem_of_getElem? (i := 1075) (by decide +kernel)⟩
theorem lw_p50 : lw_okq (⟨"AdderChooserModel", "looksAhead", "(III)I"⟩, 47) := ⟨⟨by decide +kernel, by decide +kernel⟩, List.mem_of_getElem? (i := 761) (by decide +kernel), List.mem_of_getElem? (i := 1078) (by decide +kernel), List.mem_of_getElem? (i := 1079) (by decide +kernel)⟩
theorem lw_p51 : lw_okq (⟨"AdderChooserModel", "spanG", "(II)I"⟩, 47) := ⟨⟨by decide +kernel, by decide +kernel⟩, List.mem_of_getElem? (i := 761) (by decide +kernel), List.mem_of_getElem? (i := 1082) (by decide +kernel), List.mem_of_getElem? (i := 1083) (by decide +kernel)⟩
theorem lw_p52 : lw_okq (⟨"AdderChooserModel", "spanP", "(II)I"⟩, 47) := ⟨⟨by decide +kernel, by decide +kernel⟩, List.mem_of_getElem? (i := 761) (by decide +kernel), List.mem_of_getElem? (i := 1086) (by decide +kernel), List.mem_of_getElem? (i := 1087) (by decide +kernel)⟩
theorem lw_p53 : lw_okq (⟨"AdderChooserModel", "marks", "(I)V"⟩, 47) := ⟨⟨by decide +kernel, by decide +kernel⟩, List.mem_of_getElem? (i := 761) (by decide +kernel), List.mem_of_getElem? (i := 1090) (by decide +kernel), List.mem_of_getElem? (i := 1091) (by decide +kernel)⟩
theorem lw_p54 : lw_okq (⟨"AdderChooserModel", "tellsTimes", "()V"⟩, 47) := ⟨⟨by decide +kernel, by decide +kernel⟩, List.mem_of_getElem? (i := 761) (by decide +kernel), List.mem_of_getElem? (i := 1094) (by decide +kernel), List.mem_of_getElem? (i := 1095) (by decide +kernel)⟩
theorem lw_p55 : lw_okq (⟨"AdderChooserModel", "manyUsed", "(II)I"⟩, 47) := ⟨⟨by decide +kernel, by decide +kernel⟩, List.mem_of_getElem? (i := 761) (by decide +kernel), List.mem_of_getElem? (i := 1098) (by decide +kernel), List.mem_of_getElem? (i := 1099) (by decide +kernel)⟩
theorem lw_p56 : lw_okq (⟨"AdderChooserModel", "lastOut", "()I"⟩, 47) := ⟨⟨by decide +kernel, by decide +kernel⟩, List.mem_of_getElem? (i := 761) (by decide +kernel), List.mem_of_getElem? (i := 1106) (by decide +kernel), List.mem_of_getElem? (i := 1107) (by decide +kernel)⟩
theorem lw_p57 : lw_okq (⟨"AdderChooserModel", "areNumbers", "(IIII)Z"⟩, 47) := ⟨⟨by decide +kernel, by decide +kernel⟩, List.mem_of_getElem? (i := 761) (by decide +kernel), List.mem_of_getElem? (i := 1129) (by decide +kernel), List.mem_of_getElem? (i := 1130) (by decide +kernel)⟩
theorem lw_p58 : lw_okq (⟨"AdderChooserModel", "evaluates", "(III)V"⟩, 47) := ⟨⟨by decide +kernel, by decide +kernel⟩, List.mem_of_getElem? (i := 761) (by decide +kernel), List.mem_of_getElem? (i := 1133) (by decide +kernel), List.mem_of_getElem? (i := 1134) (by decide +kernel)⟩
theorem lw_p59 : lw_okq (⟨"AdderChooserModel", "settlesAll", "()V"⟩, 47) := ⟨⟨by decide +kernel, by decide +kernel⟩, List.mem_of_getElem? (i := 761) (by decide +kernel), List.mem_of_getElem? (i := 1141) (by decide +kernel), List.mem_of_getElem? (i := 1142) (by decide +kernel)⟩
theorem lw_p60 : lw_okq (⟨"AdderChooserModel", "goesThrough", "(II)I"⟩, 47) := ⟨⟨by decide +kernel, by decide +kernel⟩, List.mem_of_getElem? (i := 761) (by decide +kernel), List.mem_of_getElem? (i := 1149) (by decide +kernel), List.mem_of_getElem? (i := 1150) (by decide +kernel)⟩
theorem lw_p61 : lw_okq (⟨"AdderChooserModel", "chooses", "(III)V"⟩, 47) := ⟨⟨by decide +kernel, by decide +kernel⟩, List.mem_of_getElem? (i := 761) (by decide +kernel), List.mem_of_getElem? (i := 1175) (by decide +kernel), List.mem_of_getElem? (i := 1176) (by decide +kernel)⟩
theorem lw_p62 : lw_okq (⟨"AdderChooserModel", "goesOn", "(IIII)V"⟩, 47) := ⟨⟨by decide +kernel, by decide +kernel⟩, List.mem_of_getElem? (i := 761) (by decide +kernel), List.mem_of_getElem? (i := 1179) (by decide +kernel), List.mem_of_getElem? (i := 1180) (by decide +kernel)⟩
theorem lw_p63 : lw_okq (⟨"AdderChooserModel", "judges", "(II)V"⟩, 47) := ⟨⟨by decide +kernel, by decide +kernel⟩, List.mem_of_getElem? (i := 761) (by decide +kernel), List.mem_of_getElem? (i := 1183) (by decide +kernel), List.mem_of_getElem? (i := 1184) (by decide +kernel)⟩
def lw_privs_4 : List (MethodName × Nat) := [(⟨"AdderChooserModel", "skips", "(III)I"⟩, 47), (⟨"AdderChooserModel", "selects", "(III)I"⟩, 47), (⟨"AdderChooserModel", "looksAhead", "(III)I"⟩, 47), (⟨"AdderChooserModel", "spanG", "(II)I"⟩, 47), (⟨"AdderChooserModel", "spanP", "(II)I"⟩, 47), (⟨"AdderChooserModel", "marks", "(I)V"⟩, 47), (⟨"AdderChooserModel", "tellsTimes", "()V"⟩, 47), (⟨"AdderChooserModel", "manyUsed", "(II)I"⟩, 47), (⟨"AdderChooserModel", "lastOut", "()I"⟩, 47), (⟨"AdderChooserModel", "areNumbers", "(IIII)Z"⟩, 47), (⟨"AdderChooserModel", "evaluates", "(III)V"⟩, 47), (⟨"AdderChooserModel", "settlesAll", "()V"⟩, 47), (⟨"AdderChooserModel", "goesThrough", "(II)I"⟩, 47), (⟨"AdderChooserModel", "chooses", "(III)V"⟩, 47), (⟨"AdderChooserModel", "goesOn", "(IIII)V"⟩, 47), (⟨"AdderChooserModel", "judges", "(II)V"⟩, 47)]
theorem lw_r4 : ∀ q ∈ lw_privs_4, lw_okq q := List.forall_mem_cons.mpr ⟨lw_p48, List.forall_mem_cons.mpr ⟨lw_p49, List.forall_mem_cons.mpr ⟨lw_p50, List.forall_mem_cons.mpr ⟨lw_p51, List.forall_mem_cons.mpr ⟨lw_p52, List.forall_mem_cons.mpr ⟨lw_p53, List.forall_mem_cons.mpr ⟨lw_p54, List.forall_mem_cons.mpr ⟨lw_p55, List.forall_mem_cons.mpr ⟨lw_p56, List.forall_mem_cons.mpr ⟨lw_p57, List.forall_mem_cons.mpr ⟨lw_p58, List.forall_mem_cons.mpr ⟨lw_p59, List.forall_mem_cons.mpr ⟨lw_p60, List.forall_mem_cons.mpr ⟨lw_p61, List.forall_mem_cons.mpr ⟨lw_p62, List.forall_mem_cons.mpr ⟨lw_p63, fun _ h => absurd h List.not_mem_nil⟩⟩⟩⟩⟩⟩⟩⟩⟩⟩⟩⟩⟩⟩⟩⟩
theorem lw_p64 : lw_okq (⟨"AdderChooserModel", "meets", "(II)V"⟩, 47) := ⟨⟨by decide +kernel, by decide +kernel⟩, List.mem_of_getElem? (i := 761) (by decide +kernel), List.mem_of_getElem? (i := 1196) (by decide +kernel), List.mem_of_getElem? (i := 1197) (by decide +kernel)⟩
theorem lw_p65 : lw_okq (⟨"AdderChooserModel", "unlike", "()I"⟩, 47) := ⟨⟨by decide +kernel, by decide +kernel⟩, List.mem_of_getElem? (i := 761) (by decide +kernel), List.mem_of_getElem? (i := 1240) (by decide +kernel), List.mem_of_getElem? (i := 1241) (by decide +kernel)⟩
def lw_privs_5 : List (MethodName × Nat) := [(⟨"AdderChooserModel", "meets", "(II)V"⟩, 47), (⟨"AdderChooserModel", "unlike", "()I"⟩, 47)]
theorem lw_r5 : ∀ q ∈ lw_privs_5, lw_okq q := List.forall_mem_cons.mpr ⟨lw_p64, List.forall_mem_cons.mpr ⟨lw_p65, fun _ h => absurd h List.not_mem_nil⟩⟩
def lw_privs : List (MethodName × Nat) := lw_privs_1 ++ (lw_privs_2 ++ (lw_privs_3 ++ (lw_privs_4 ++ (lw_privs_5))))
def lw_tbl : List Cond := k2_sels lw_privs ++ tables_1
theorem lw_privs_ok : ∀ q ∈ lw_privs, lw_okq q := by
  show ∀ q ∈ lw_privs_1 ++ (lw_privs_2 ++ (lw_privs_3 ++ (lw_privs_4 ++ (lw_privs_5)))), lw_okq q
  exact List.forall_mem_append.mpr ⟨lw_r1, List.forall_mem_append.mpr ⟨lw_r2, List.forall_mem_append.mpr ⟨lw_r3, List.forall_mem_append.mpr ⟨lw_r4, lw_r5⟩⟩⟩⟩
def RX0 : String := "AdderChooser$Blocks"
def TX0 : u_T := fun k => match k with
  | _ => ("", "", "", false)
def tyX0 : Nat → FieldType := fun k => match k with
  | _ => .int
abbrev wsX00 : List Cond := u_ws RX0 TX0 0
theorem nmX0 : ∀ a, a < 0 → ∀ b, b < 0 → a ≠ b → (TX0 a).2.1 ≠ (TX0 b).2.1 := by decide +kernel
theorem tyX0_ok : ∀ k, k < 0 → parseFieldDescriptor (TX0 k).2.2.1 = some (tyX0 k) := by decide +kernel
abbrev cX0_amount : ByteArray := prog_2_method_2_code
def yX0_amount : MethodName := ⟨RX0, "amount", "(J)I"⟩
abbrev cX0_width : ByteArray := prog_2_method_3_code
def yX0_width : MethodName := ⟨RX0, "width", "(J)I"⟩
abbrev cX0_codeAt : ByteArray := prog_2_method_4_code
def yX0_codeAt : MethodName := ⟨RX0, "codeAt", "(JI)I"⟩
abbrev cX0_kindAt : ByteArray := prog_2_method_5_code
def yX0_kindAt : MethodName := ⟨RX0, "kindAt", "(JI)I"⟩
abbrev cX0_widthAt : ByteArray := prog_2_method_6_code
def yX0_widthAt : MethodName := ⟨RX0, "widthAt", "(JI)I"⟩
abbrev cX0_figureOf : ByteArray := prog_2_method_7_code
def yX0_figureOf : MethodName := ⟨RX0, "figureOf", "(JI)I"⟩
abbrev cX0_with : ByteArray := prog_2_method_8_code
def yX0_with : MethodName := ⟨RX0, "with", "(JIII)J"⟩
def RX1 : String := "AdderChooser$Known"
def TX1 : u_T := fun k => match k with
  | 0 => ("AdderChooser$Known", "asked", "[J", true)
  | _ => ("AdderChooser$Known", "size", "I", false)
def tyX1 : Nat → FieldType := fun k => match k with
  | 0 => .array .long
  | _ => .int
abbrev wsX10 : List Cond := u_ws RX1 TX1 2
theorem nmX1 : ∀ a, a < 2 → ∀ b, b < 2 → a ≠ b → (TX1 a).2.1 ≠ (TX1 b).2.1 := by decide +kernel
theorem tyX1_ok : ∀ k, k < 2 → parseFieldDescriptor (TX1 k).2.2.1 = some (tyX1 k) := by decide +kernel
abbrev cX1_init : ByteArray := prog_3_method_1_code
def yX1_init : MethodName := ⟨RX1, "<init>", "()V"⟩
abbrev cX1_holds : ByteArray := prog_3_method_2_code
def yX1_holds : MethodName := ⟨RX1, "holds", "(J)Z"⟩
abbrev cX1_ask : ByteArray := prog_3_method_3_code
def yX1_ask : MethodName := ⟨RX1, "ask", "(J)V"⟩
abbrev cX1_placeOf : ByteArray := prog_3_method_4_code
def yX1_placeOf : MethodName := ⟨RX1, "placeOf", "(J)I"⟩
def RX2 : String := "AdderChooser$Net"
def TX2 : u_T := fun k => match k with
  | 0 => ("AdderChooser$Net", "sort", "[I", true)
  | 1 => ("AdderChooser$Net", "lower", "[I", true)
  | 2 => ("AdderChooser$Net", "upper", "[I", true)
  | 3 => ("AdderChooser$Net", "used", "[Z", true)
  | 4 => ("AdderChooser$Net", "sums", "[I", true)
  | 5 => ("AdderChooser$Net", "size", "I", false)
  | 6 => ("AdderChooser$Net", "width", "I", false)
  | 7 => ("AdderChooser$Net", "carry", "I", false)
  | 8 => ("AdderChooser$Net", "newest", "[I", true)
  | 9 => ("AdderChooser$Net", "before", "[I", true)
  | 10 => ("AdderChooser$Net", "usedByFirst", "[Z", true)
  | 11 => ("AdderChooser$Net", "onlyOne", "[I", true)
  | 12 => ("AdderChooser$Net", "bothOf", "[I", true)
  | 13 => ("AdderChooser$Net", "sumsByZero", "[I", true)
  | _ => ("AdderChooser$Net", "sumsByOne", "[I", true)
def tyX2 : Nat → FieldType := fun k => match k with
  | 0 => .array .int
  | 1 => .array .int
  | 2 => .array .int
  | 3 => .array .boolean
  | 4 => .array .int
  | 5 => .int
  | 6 => .int
  | 7 => .int
  | 8 => .array .int
  | 9 => .array .int
  | 10 => .array .boolean
  | 11 => .array .int
  | 12 => .array .int
  | 13 => .array .int
  | _ => .array .int
abbrev wsX20 : List Cond := u_ws RX2 TX2 15
theorem nmX2 : ∀ a, a < 15 → ∀ b, b < 15 → a ≠ b → (TX2 a).2.1 ≠ (TX2 b).2.1 := by decide +kernel
theorem tyX2_ok : ∀ k, k < 15 → parseFieldDescriptor (TX2 k).2.2.1 = some (tyX2 k) := by decide +kernel
abbrev cX2_init : ByteArray := prog_4_method_1_code
def yX2_init : MethodName := ⟨RX2, "<init>", "()V"⟩
abbrev cX2_clear : ByteArray := prog_4_method_2_code
def yX2_clear : MethodName := ⟨RX2, "clear", "()V"⟩
abbrev cX2_cutBack : ByteArray := prog_4_method_3_code
def yX2_cutBack : MethodName := ⟨RX2, "cutBack", "(III)V"⟩
abbrev cX2_build : ByteArray := prog_4_method_4_code
def yX2_build : MethodName := ⟨RX2, "build", "(J)V"⟩
abbrev cX2_lay : ByteArray := prog_4_method_5_code
def yX2_lay : MethodName := ⟨RX2, "lay", "(II)V"⟩
abbrev cX2_outcomeGate : ByteArray := prog_4_method_6_code
def yX2_outcomeGate : MethodName := ⟨RX2, "outcomeGate", "(I)I"⟩
abbrev cX2_markUsed : ByteArray := prog_4_method_7_code
def yX2_markUsed : MethodName := ⟨RX2, "markUsed", "()V"⟩
abbrev cX2_usedGates : ByteArray := prog_4_method_8_code
def yX2_usedGates : MethodName := ⟨RX2, "usedGates", "(I)I"⟩
abbrev cX2_gatesOfBoth : ByteArray := prog_4_method_9_code
def yX2_gatesOfBoth : MethodName := ⟨RX2, "gatesOfBoth", "(JJ)I"⟩
abbrev cX2_ripple : ByteArray := prog_4_method_10_code
def yX2_ripple : MethodName := ⟨RX2, "ripple", "(III[I)I"⟩
abbrev cX2_laySkip : ByteArray := prog_4_method_11_code
def yX2_laySkip : MethodName := ⟨RX2, "laySkip", "(II)I"⟩
abbrev cX2_laySelect : ByteArray := prog_4_method_12_code
def yX2_laySelect : MethodName := ⟨RX2, "laySelect", "(II)I"⟩
abbrev cX2_layAhead : ByteArray := prog_4_method_13_code
def yX2_layAhead : MethodName := ⟨RX2, "layAhead", "(II)I"⟩
abbrev cX2_span : ByteArray := prog_4_method_14_code
def yX2_span : MethodName := ⟨RX2, "span", "(LAdderChooser$Net;IIZ)I"⟩
abbrev cX2_not : ByteArray := prog_4_method_15_code
def yX2_not : MethodName := ⟨RX2, "not", "(I)I"⟩
abbrev cX2_and : ByteArray := prog_4_method_16_code
def yX2_and : MethodName := ⟨RX2, "and", "(II)I"⟩
abbrev cX2_or : ByteArray := prog_4_method_17_code
def yX2_or : MethodName := ⟨RX2, "or", "(II)I"⟩
abbrev cX2_xor : ByteArray := prog_4_method_18_code
def yX2_xor : MethodName := ⟨RX2, "xor", "(II)I"⟩
abbrev cX2_made : ByteArray := prog_4_method_19_code
def yX2_made : MethodName := ⟨RX2, "made", "(III)I"⟩
def RX3 : String := "AdderChooser$Plans"
def TX3 : u_T := fun k => match k with
  | 0 => ("AdderChooser$Plans", "names", "[I", true)
  | 1 => ("AdderChooser$Plans", "blocks", "[J", true)
  | _ => ("AdderChooser$Plans", "amount", "I", false)
def tyX3 : Nat → FieldType := fun k => match k with
  | 0 => .array .int
  | 1 => .array .long
  | _ => .int
abbrev wsX30 : List Cond := u_ws RX3 TX3 3
theorem nmX3 : ∀ a, a < 3 → ∀ b, b < 3 → a ≠ b → (TX3 a).2.1 ≠ (TX3 b).2.1 := by decide +kernel
theorem tyX3_ok : ∀ k, k < 3 → parseFieldDescriptor (TX3 k).2.2.1 = some (tyX3 k) := by decide +kernel
abbrev cX3_init : ByteArray := prog_5_method_1_code
def yX3_init : MethodName := ⟨RX3, "<init>", "()V"⟩
abbrev cX3_has : ByteArray := prog_5_method_2_code
def yX3_has : MethodName := ⟨RX3, "has", "(I)Z"⟩
abbrev cX3_numberOf : ByteArray := prog_5_method_3_code
def yX3_numberOf : MethodName := ⟨RX3, "numberOf", "(I)I"⟩
abbrev cX3_tell : ByteArray := prog_5_method_4_code
def yX3_tell : MethodName := ⟨RX3, "tell", "(IJ)I"⟩
abbrev cX3_remove : ByteArray := prog_5_method_5_code
def yX3_remove : MethodName := ⟨RX3, "remove", "(I)V"⟩
abbrev cX3_nameLength : ByteArray := prog_5_method_6_code
def yX3_nameLength : MethodName := ⟨RX3, "nameLength", "(I)I"⟩
abbrev cX3_amountWith : ByteArray := prog_5_method_7_code
def yX3_amountWith : MethodName := ⟨RX3, "amountWith", "(J)I"⟩
abbrev cX3_amountOfBlocks : ByteArray := prog_5_method_8_code
def yX3_amountOfBlocks : MethodName := ⟨RX3, "amountOfBlocks", "()I"⟩
abbrev cX3_unlikeBlocks : ByteArray := prog_5_method_9_code
def yX3_unlikeBlocks : MethodName := ⟨RX3, "unlikeBlocks", "()I"⟩
def RX4 : String := "AdderChooser$Search"
def TX4 : u_T := fun k => match k with
  | 0 => ("AdderChooser$Search", "done", "Z", false)
  | 1 => ("AdderChooser$Search", "inTime", "I", false)
  | 2 => ("AdderChooser$Search", "fewest", "I", false)
  | 3 => ("AdderChooser$Search", "when", "I", false)
  | 4 => ("AdderChooser$Search", "best", "J", false)
  | 5 => ("AdderChooser$Search", "width", "I", false)
  | 6 => ("AdderChooser$Search", "kinds", "I", false)
  | _ => ("AdderChooser$Search", "limit", "I", false)
def tyX4 : Nat → FieldType := fun k => match k with
  | 0 => .boolean
  | 1 => .int
  | 2 => .int
  | 3 => .int
  | 4 => .long
  | 5 => .int
  | 6 => .int
  | _ => .int
abbrev wsX40 : List Cond := u_ws RX4 TX4 8
theorem nmX4 : ∀ a, a < 8 → ∀ b, b < 8 → a ≠ b → (TX4 a).2.1 ≠ (TX4 b).2.1 := by decide +kernel
theorem tyX4_ok : ∀ k, k < 8 → parseFieldDescriptor (TX4 k).2.2.1 = some (tyX4 k) := by decide +kernel
abbrev cX4_init : ByteArray := prog_6_method_1_code
def yX4_init : MethodName := ⟨RX4, "<init>", "()V"⟩
abbrev cX4_run : ByteArray := prog_6_method_2_code
def yX4_run : MethodName := ⟨RX4, "run", "(LAdderChooser$Net;LAdderChooser$Timing;III)V"⟩
abbrev cX4_grow : ByteArray := prog_6_method_3_code
def yX4_grow : MethodName := ⟨RX4, "grow", "(LAdderChooser$Search;LAdderChooser$Net;LAdderChooser$Timing;JI)V"⟩
abbrev cX4_weigh : ByteArray := prog_6_method_4_code
def yX4_weigh : MethodName := ⟨RX4, "weigh", "(LAdderChooser$Net;LAdderChooser$Timing;J)V"⟩
def RX5 : String := "AdderChooser$Shelf"
def TX5 : u_T := fun k => match k with
  | 0 => ("AdderChooser$Shelf", "items", "[J", true)
  | 1 => ("AdderChooser$Shelf", "sort", "I", false)
  | 2 => ("AdderChooser$Shelf", "size", "I", false)
  | _ => ("AdderChooser$Shelf", "blocks", "J", false)
def tyX5 : Nat → FieldType := fun k => match k with
  | 0 => .array .long
  | 1 => .int
  | 2 => .int
  | _ => .long
abbrev wsX50 : List Cond := u_ws RX5 TX5 4
theorem nmX5 : ∀ a, a < 4 → ∀ b, b < 4 → a ≠ b → (TX5 a).2.1 ≠ (TX5 b).2.1 := by decide +kernel
theorem tyX5_ok : ∀ k, k < 4 → parseFieldDescriptor (TX5 k).2.2.1 = some (tyX5 k) := by decide +kernel
abbrev cX5_init : ByteArray := prog_7_method_1_code
def yX5_init : MethodName := ⟨RX5, "<init>", "()V"⟩
abbrev cX5_holdBlocks : ByteArray := prog_7_method_2_code
def yX5_holdBlocks : MethodName := ⟨RX5, "holdBlocks", "(J)V"⟩
abbrev cX5_holdRow : ByteArray := prog_7_method_3_code
def yX5_holdRow : MethodName := ⟨RX5, "holdRow", "(II)V"⟩
abbrev cX5_isRow : ByteArray := prog_7_method_4_code
def yX5_isRow : MethodName := ⟨RX5, "isRow", "()Z"⟩
abbrev cX5_leadingArrivals : ByteArray := prog_7_method_5_code
def yX5_leadingArrivals : MethodName := ⟨RX5, "leadingArrivals", "()I"⟩
def RX6 : String := "AdderChooser$Sweep"
def TX6 : u_T := fun k => match k with
  | 0 => ("AdderChooser$Sweep", "done", "Z", false)
  | 1 => ("AdderChooser$Sweep", "settled", "[I", true)
  | 2 => ("AdderChooser$Sweep", "swept", "J", false)
  | _ => ("AdderChooser$Sweep", "width", "I", false)
def tyX6 : Nat → FieldType := fun k => match k with
  | 0 => .boolean
  | 1 => .array .int
  | 2 => .long
  | _ => .int
abbrev wsX60 : List Cond := u_ws RX6 TX6 4
theorem nmX6 : ∀ a, a < 4 → ∀ b, b < 4 → a ≠ b → (TX6 a).2.1 ≠ (TX6 b).2.1 := by decide +kernel
theorem tyX6_ok : ∀ k, k < 4 → parseFieldDescriptor (TX6 k).2.2.1 = some (tyX6 k) := by decide +kernel
abbrev cX6_init : ByteArray := prog_8_method_1_code
def yX6_init : MethodName := ⟨RX6, "<init>", "()V"⟩
abbrev cX6_over : ByteArray := prog_8_method_2_code
def yX6_over : MethodName := ⟨RX6, "over", "(LAdderChooser$Net;LAdderChooser$Timing;J)V"⟩
abbrev cX6_worst : ByteArray := prog_8_method_3_code
def yX6_worst : MethodName := ⟨RX6, "worst", "(I)I"⟩
abbrev cX6_settledBy : ByteArray := prog_8_method_4_code
def yX6_settledBy : MethodName := ⟨RX6, "settledBy", "(I)I"⟩
abbrev cX6_amount : ByteArray := prog_8_method_5_code
def yX6_amount : MethodName := ⟨RX6, "amount", "()I"⟩
abbrev cX6_numberA : ByteArray := prog_8_method_6_code
def yX6_numberA : MethodName := ⟨RX6, "numberA", "(I)I"⟩
abbrev cX6_numberB : ByteArray := prog_8_method_7_code
def yX6_numberB : MethodName := ⟨RX6, "numberB", "(I)I"⟩
def RX7 : String := "AdderChooser$Tape"
def TX7 : u_T := fun k => match k with
  | 0 => ("AdderChooser$Tape", "bytes", "[I", true)
  | 1 => ("AdderChooser$Tape", "length", "I", false)
  | _ => ("AdderChooser$Tape", "told", "J", false)
def tyX7 : Nat → FieldType := fun k => match k with
  | 0 => .array .int
  | 1 => .int
  | _ => .long
abbrev wsX70 : List Cond := u_ws RX7 TX7 3
theorem nmX7 : ∀ a, a < 3 → ∀ b, b < 3 → a ≠ b → (TX7 a).2.1 ≠ (TX7 b).2.1 := by decide +kernel
theorem tyX7_ok : ∀ k, k < 3 → parseFieldDescriptor (TX7 k).2.2.1 = some (tyX7 k) := by decide +kernel
abbrev cX7_init : ByteArray := prog_9_method_1_code
def yX7_init : MethodName := ⟨RX7, "<init>", "()V"⟩
abbrev cX7_append : ByteArray := prog_9_method_2_code
def yX7_append : MethodName := ⟨RX7, "append", "(I)Z"⟩
abbrev cX7_letters : ByteArray := prog_9_method_3_code
def yX7_letters : MethodName := ⟨RX7, "letters", "()I"⟩
abbrev cX7_nameCode : ByteArray := prog_9_method_4_code
def yX7_nameCode : MethodName := ⟨RX7, "nameCode", "(I)I"⟩
abbrev cX7_takeName : ByteArray := prog_9_method_5_code
def yX7_takeName : MethodName := ⟨RX7, "takeName", "()I"⟩
abbrev cX7_parse : ByteArray := prog_9_method_6_code
def yX7_parse : MethodName := ⟨RX7, "parse", "()I"⟩
abbrev cX7_isLetter : ByteArray := prog_9_method_7_code
def yX7_isLetter : MethodName := ⟨RX7, "isLetter", "(I)Z"⟩
abbrev cX7_kindOf : ByteArray := prog_9_method_8_code
def yX7_kindOf : MethodName := ⟨RX7, "kindOf", "(I)I"⟩
def RX8 : String := "AdderChooser$Timing"
def TX8 : u_T := fun k => match k with
  | 0 => ("AdderChooser$Timing", "delays", "[I", true)
  | 1 => ("AdderChooser$Timing", "arrivals", "[I", true)
  | 2 => ("AdderChooser$Timing", "when", "[I", true)
  | 3 => ("AdderChooser$Timing", "value", "[I", true)
  | 4 => ("AdderChooser$Timing", "hanging", "[Z", true)
  | _ => ("AdderChooser$Timing", "depth", "[I", true)
def tyX8 : Nat → FieldType := fun k => match k with
  | 0 => .array .int
  | 1 => .array .int
  | 2 => .array .int
  | 3 => .array .int
  | 4 => .array .boolean
  | _ => .array .int
abbrev wsX80 : List Cond := u_ws RX8 TX8 6
theorem nmX8 : ∀ a, a < 6 → ∀ b, b < 6 → a ≠ b → (TX8 a).2.1 ≠ (TX8 b).2.1 := by decide +kernel
theorem tyX8_ok : ∀ k, k < 6 → parseFieldDescriptor (TX8 k).2.2.1 = some (tyX8 k) := by decide +kernel
abbrev cX8_init : ByteArray := prog_10_method_1_code
def yX8_init : MethodName := ⟨RX8, "<init>", "()V"⟩
abbrev cX8_come : ByteArray := prog_10_method_2_code
def yX8_come : MethodName := ⟨RX8, "come", "(LAdderChooser$Net;)V"⟩
abbrev cX8_settle : ByteArray := prog_10_method_3_code
def yX8_settle : MethodName := ⟨RX8, "settle", "(LAdderChooser$Net;III)V"⟩
abbrev cX8_ofOutcome : ByteArray := prog_10_method_4_code
def yX8_ofOutcome : MethodName := ⟨RX8, "ofOutcome", "(LAdderChooser$Net;I)I"⟩
abbrev cX8_outcomeBits : ByteArray := prog_10_method_5_code
def yX8_outcomeBits : MethodName := ⟨RX8, "outcomeBits", "(LAdderChooser$Net;)I"⟩
abbrev cX8_unlikeTimes : ByteArray := prog_10_method_6_code
def yX8_unlikeTimes : MethodName := ⟨RX8, "unlikeTimes", "(LAdderChooser$Net;)I"⟩
abbrev cX8_markHanging : ByteArray := prog_10_method_7_code
def yX8_markHanging : MethodName := ⟨RX8, "markHanging", "(LAdderChooser$Net;)V"⟩
abbrev cX8_hangingInputs : ByteArray := prog_10_method_8_code
def yX8_hangingInputs : MethodName := ⟨RX8, "hangingInputs", "()I"⟩
abbrev cX8_deepest : ByteArray := prog_10_method_9_code
def yX8_deepest : MethodName := ⟨RX8, "deepest", "(LAdderChooser$Net;)I"⟩
abbrev cX8_inputsArrive : ByteArray := prog_10_method_10_code
def yX8_inputsArrive : MethodName := ⟨RX8, "inputsArrive", "()V"⟩
abbrev cX8_lastOutcome : ByteArray := prog_10_method_11_code
def yX8_lastOutcome : MethodName := ⟨RX8, "lastOutcome", "(LAdderChooser$Net;)I"⟩
abbrev cX8_laterPart : ByteArray := prog_10_method_12_code
def yX8_laterPart : MethodName := ⟨RX8, "laterPart", "(LAdderChooser$Net;I)I"⟩
abbrev cX8_isRuled : ByteArray := prog_10_method_13_code
def yX8_isRuled : MethodName := ⟨RX8, "isRuled", "(II)Z"⟩
abbrev cX8_rulingPart : ByteArray := prog_10_method_14_code
def yX8_rulingPart : MethodName := ⟨RX8, "rulingPart", "(LAdderChooser$Net;I)I"⟩
abbrev cX8_valueOf : ByteArray := prog_10_method_15_code
def yX8_valueOf : MethodName := ⟨RX8, "valueOf", "(LAdderChooser$Net;I)I"⟩
abbrev cX8_isHeldUpBy : ByteArray := prog_10_method_16_code
def yX8_isHeldUpBy : MethodName := ⟨RX8, "isHeldUpBy", "(LAdderChooser$Net;II)Z"⟩
abbrev cX8_depthBelow : ByteArray := prog_10_method_17_code
def yX8_depthBelow : MethodName := ⟨RX8, "depthBelow", "(LAdderChooser$Net;II)I"⟩
def RX9 : String := "AdderChooser"
def TX9 : u_T := fun k => match k with
  | 0 => ("AdderChooser", "tape", "LAdderChooser$Tape;", true)
  | 1 => ("AdderChooser", "plans", "LAdderChooser$Plans;", true)
  | 2 => ("AdderChooser", "memory", "LAdderChooser$Known;", true)
  | 3 => ("AdderChooser", "net", "LAdderChooser$Net;", true)
  | 4 => ("AdderChooser", "timing", "LAdderChooser$Timing;", true)
  | 5 => ("AdderChooser", "sweep", "LAdderChooser$Sweep;", true)
  | 6 => ("AdderChooser", "search", "LAdderChooser$Search;", true)
  | 7 => ("AdderChooser", "shelves", "[LAdderChooser$Shelf;", true)
  | _ => ("AdderChooser", "live", "[J", true)
def tyX9 : Nat → FieldType := fun k => match k with
  | 0 => .object "AdderChooser$Tape"
  | 1 => .object "AdderChooser$Plans"
  | 2 => .object "AdderChooser$Known"
  | 3 => .object "AdderChooser$Net"
  | 4 => .object "AdderChooser$Timing"
  | 5 => .object "AdderChooser$Sweep"
  | 6 => .object "AdderChooser$Search"
  | 7 => .array (.object "AdderChooser$Shelf")
  | _ => .array .long
abbrev wsX90 : List Cond := u_ws RX9 TX9 9
theorem nmX9 : ∀ a, a < 9 → ∀ b, b < 9 → a ≠ b → (TX9 a).2.1 ≠ (TX9 b).2.1 := by decide +kernel
theorem tyX9_ok : ∀ k, k < 9 → parseFieldDescriptor (TX9 k).2.2.1 = some (tyX9 k) := by decide +kernel
abbrev cX9_init : ByteArray := prog_1_method_1_code
def yX9_init : MethodName := ⟨RX9, "<init>", "()V"⟩
abbrev cX9_feed : ByteArray := prog_1_method_2_code
def yX9_feed : MethodName := ⟨RX9, "feed", "(I)I"⟩
abbrev cX9_read : ByteArray := prog_1_method_3_code
def yX9_read : MethodName := ⟨RX9, "read", "()I"⟩
abbrev cX9_find : ByteArray := prog_1_method_4_code
def yX9_find : MethodName := ⟨RX9, "find", "()I"⟩
abbrev cX9_forget : ByteArray := prog_1_method_5_code
def yX9_forget : MethodName := ⟨RX9, "forget", "(I)I"⟩
abbrev cX9_plan : ByteArray := prog_1_method_6_code
def yX9_plan : MethodName := ⟨RX9, "plan", "(II)I"⟩
abbrev cX9_name : ByteArray := prog_1_method_7_code
def yX9_name : MethodName := ⟨RX9, "name", "(II)I"⟩
abbrev cX9_delay : ByteArray := prog_1_method_8_code
def yX9_delay : MethodName := ⟨RX9, "delay", "(II)I"⟩
abbrev cX9_arrival : ByteArray := prog_1_method_9_code
def yX9_arrival : MethodName := ⟨RX9, "arrival", "(III)I"⟩
abbrev cX9_arrives : ByteArray := prog_1_method_10_code
def yX9_arrives : MethodName := ⟨RX9, "arrives", "(II)I"⟩
abbrev cX9_gates : ByteArray := prog_1_method_11_code
def yX9_gates : MethodName := ⟨RX9, "gates", "(II)I"⟩
abbrev cX9_latest : ByteArray := prog_1_method_12_code
def yX9_latest : MethodName := ⟨RX9, "latest", "(II)I"⟩
abbrev cX9_deep : ByteArray := prog_1_method_13_code
def yX9_deep : MethodName := ⟨RX9, "deep", "(I)I"⟩
abbrev cX9_hangs : ByteArray := prog_1_method_14_code
def yX9_hangs : MethodName := ⟨RX9, "hangs", "(I)I"⟩
abbrev cX9_times : ByteArray := prog_1_method_15_code
def yX9_times : MethodName := ⟨RX9, "times", "(I)I"⟩
abbrev cX9_adds : ByteArray := prog_1_method_16_code
def yX9_adds : MethodName := ⟨RX9, "adds", "(IIII)I"⟩
abbrev cX9_settles : ByteArray := prog_1_method_17_code
def yX9_settles : MethodName := ⟨RX9, "settles", "(IIIII)I"⟩
abbrev cX9_slowest : ByteArray := prog_1_method_18_code
def yX9_slowest : MethodName := ⟨RX9, "slowest", "(II)I"⟩
abbrev cX9_intime : ByteArray := prog_1_method_19_code
def yX9_intime : MethodName := ⟨RX9, "intime", "(II)I"⟩
abbrev cX9_shared : ByteArray := prog_1_method_20_code
def yX9_shared : MethodName := ⟨RX9, "shared", "(II)I"⟩
abbrev cX9_alike : ByteArray := prog_1_method_21_code
def yX9_alike : MethodName := ⟨RX9, "alike", "(II)I"⟩
abbrev cX9_known : ByteArray := prog_1_method_22_code
def yX9_known : MethodName := ⟨RX9, "known", "(I)I"⟩
abbrev cX9_choose : ByteArray := prog_1_method_23_code
def yX9_choose : MethodName := ⟨RX9, "choose", "(IIII)I"⟩
abbrev cX9_chosen : ByteArray := prog_1_method_24_code
def yX9_chosen : MethodName := ⟨RX9, "chosen", "(III)I"⟩
abbrev cX9_longest : ByteArray := prog_1_method_25_code
def yX9_longest : MethodName := ⟨RX9, "longest", "(IIIII)I"⟩
abbrev cX9_runs : ByteArray := prog_1_method_26_code
def yX9_runs : MethodName := ⟨RX9, "runs", "(II)J"⟩
abbrev cX9_shelve : ByteArray := prog_1_method_27_code
def yX9_shelve : MethodName := ⟨RX9, "shelve", "(II)I"⟩
abbrev cX9_taken : ByteArray := prog_1_method_28_code
def yX9_taken : MethodName := ⟨RX9, "taken", "(II)I"⟩
abbrev cX9_row : ByteArray := prog_1_method_29_code
def yX9_row : MethodName := ⟨RX9, "row", "(III)I"⟩
abbrev cX9_put : ByteArray := prog_1_method_30_code
def yX9_put : MethodName := ⟨RX9, "put", "(IIJ)I"⟩
abbrev cX9_get : ByteArray := prog_1_method_31_code
def yX9_get : MethodName := ⟨RX9, "get", "(II)J"⟩
abbrev cX9_into : ByteArray := prog_1_method_32_code
def yX9_into : MethodName := ⟨RX9, "into", "(II)I"⟩
abbrev cX9_from : ByteArray := prog_1_method_33_code
def yX9_from : MethodName := ⟨RX9, "from", "(II)I"⟩
abbrev cX9_count : ByteArray := prog_1_method_34_code
def yX9_count : MethodName := ⟨RX9, "count", "(I)I"⟩
abbrev cX9_timesHaveChanged : ByteArray := prog_1_method_35_code
def yX9_timesHaveChanged : MethodName := ⟨RX9, "timesHaveChanged", "()V"⟩
abbrev cX9_buildNetOf : ByteArray := prog_1_method_36_code
def yX9_buildNetOf : MethodName := ⟨RX9, "buildNetOf", "(I)V"⟩
abbrev cX9_hasOutcome : ByteArray := prog_1_method_37_code
def yX9_hasOutcome : MethodName := ⟨RX9, "hasOutcome", "(II)Z"⟩
abbrev cX9_filledShelves : ByteArray := prog_1_method_38_code
def yX9_filledShelves : MethodName := ⟨RX9, "filledShelves", "()I"⟩
abbrev cX9_isInput : ByteArray := prog_1_method_39_code
def yX9_isInput : MethodName := ⟨RX9, "isInput", "(II)Z"⟩
abbrev cX9_areNumbers : ByteArray := prog_1_method_40_code
def yX9_areNumbers : MethodName := ⟨RX9, "areNumbers", "(IIII)Z"⟩
abbrev cX9_canChoose : ByteArray := prog_1_method_41_code
def yX9_canChoose : MethodName := ⟨RX9, "canChoose", "(III)Z"⟩
abbrev cX9_isShelf : ByteArray := prog_1_method_42_code
def yX9_isShelf : MethodName := ⟨RX9, "isShelf", "(I)Z"⟩
def RX10 : String := "AdderChooserModel"
def TX10 : u_T := fun k => match k with
  | 0 => ("AdderChooserModel", "names", "[I", true)
  | 1 => ("AdderChooserModel", "nameLong", "[I", true)
  | 2 => ("AdderChooserModel", "blocks", "[I", true)
  | 3 => ("AdderChooserModel", "blockMany", "[I", true)
  | 4 => ("AdderChooserModel", "plans", "I", false)
  | 5 => ("AdderChooserModel", "tape", "[I", true)
  | 6 => ("AdderChooserModel", "named", "[I", true)
  | 7 => ("AdderChooserModel", "told", "[I", true)
  | 8 => ("AdderChooserModel", "fed", "I", false)
  | 9 => ("AdderChooserModel", "namedLong", "I", false)
  | 10 => ("AdderChooserModel", "toldMany", "I", false)
  | 11 => ("AdderChooserModel", "at", "I", false)
  | 12 => ("AdderChooserModel", "knownBlocks", "[I", true)
  | 13 => ("AdderChooserModel", "knownMany", "[I", true)
  | 14 => ("AdderChooserModel", "known", "I", false)
  | 15 => ("AdderChooserModel", "delays", "[I", true)
  | 16 => ("AdderChooserModel", "arrivals", "[I", true)
  | 17 => ("AdderChooserModel", "kinds", "[I", true)
  | 18 => ("AdderChooserModel", "lefts", "[I", true)
  | 19 => ("AdderChooserModel", "rights", "[I", true)
  | 20 => ("AdderChooserModel", "used", "[I", true)
  | 21 => ("AdderChooserModel", "comes", "[I", true)
  | 22 => ("AdderChooserModel", "values", "[I", true)
  | 23 => ("AdderChooserModel", "chains", "[I", true)
  | 24 => ("AdderChooserModel", "outs", "[I", true)
  | 25 => ("AdderChooserModel", "zeros", "[I", true)
  | 26 => ("AdderChooserModel", "others", "[I", true)
  | 27 => ("AdderChooserModel", "gates", "I", false)
  | 28 => ("AdderChooserModel", "outMany", "I", false)
  | 29 => ("AdderChooserModel", "slowestA", "I", false)
  | 30 => ("AdderChooserModel", "slowestB", "I", false)
  | 31 => ("AdderChooserModel", "slowestC", "I", false)
  | 32 => ("AdderChooserModel", "slowestBy", "I", false)
  | 33 => ("AdderChooserModel", "row", "[I", true)
  | 34 => ("AdderChooserModel", "best", "[I", true)
  | 35 => ("AdderChooserModel", "bestMany", "I", false)
  | 36 => ("AdderChooserModel", "bestGates", "I", false)
  | 37 => ("AdderChooserModel", "bestLatest", "I", false)
  | 38 => ("AdderChooserModel", "inTime", "I", false)
  | 39 => ("AdderChooserModel", "runMost", "I", false)
  | 40 => ("AdderChooserModel", "runFrom", "I", false)
  | 41 => ("AdderChooserModel", "ways", "[J", true)
  | 42 => ("AdderChooserModel", "then", "[J", true)
  | 43 => ("AdderChooserModel", "sorts", "[I", true)
  | 44 => ("AdderChooserModel", "sizes", "[I", true)
  | 45 => ("AdderChooserModel", "shelved", "[I", true)
  | _ => ("AdderChooserModel", "items", "[J", true)
def tyX10 : Nat → FieldType := fun k => match k with
  | 0 => .array .int
  | 1 => .array .int
  | 2 => .array .int
  | 3 => .array .int
  | 4 => .int
  | 5 => .array .int
  | 6 => .array .int
  | 7 => .array .int
  | 8 => .int
  | 9 => .int
  | 10 => .int
  | 11 => .int
  | 12 => .array .int
  | 13 => .array .int
  | 14 => .int
  | 15 => .array .int
  | 16 => .array .int
  | 17 => .array .int
  | 18 => .array .int
  | 19 => .array .int
  | 20 => .array .int
  | 21 => .array .int
  | 22 => .array .int
  | 23 => .array .int
  | 24 => .array .int
  | 25 => .array .int
  | 26 => .array .int
  | 27 => .int
  | 28 => .int
  | 29 => .int
  | 30 => .int
  | 31 => .int
  | 32 => .int
  | 33 => .array .int
  | 34 => .array .int
  | 35 => .int
  | 36 => .int
  | 37 => .int
  | 38 => .int
  | 39 => .int
  | 40 => .int
  | 41 => .array .long
  | 42 => .array .long
  | 43 => .array .int
  | 44 => .array .int
  | 45 => .array .int
  | _ => .array .long
abbrev wsX100 : List Cond := u_ws RX10 TX10 47
theorem nmX10 : ∀ a, a < 47 → ∀ b, b < 47 → a ≠ b → (TX10 a).2.1 ≠ (TX10 b).2.1 := by decide +kernel
theorem tyX10_ok : ∀ k, k < 47 → parseFieldDescriptor (TX10 k).2.2.1 = some (tyX10 k) := by decide +kernel
abbrev cX10_init : ByteArray := prog_12_method_1_code
def yX10_init : MethodName := ⟨RX10, "<init>", "()V"⟩
abbrev cX10_in : ByteArray := prog_12_method_2_code
def yX10_in : MethodName := ⟨RX10, "in", "(JJJ)Z"⟩
abbrev cX10_has : ByteArray := prog_12_method_3_code
def yX10_has : MethodName := ⟨RX10, "has", "(II)Z"⟩
abbrev cX10_isPlan : ByteArray := prog_12_method_4_code
def yX10_isPlan : MethodName := ⟨RX10, "isPlan", "(I)Z"⟩
abbrev cX10_widthOf : ByteArray := prog_12_method_5_code
def yX10_widthOf : MethodName := ⟨RX10, "widthOf", "([III)I"⟩
abbrev cX10_width : ByteArray := prog_12_method_6_code
def yX10_width : MethodName := ⟨RX10, "width", "(I)I"⟩
abbrev cX10_areAlike : ByteArray := prog_12_method_7_code
def yX10_areAlike : MethodName := ⟨RX10, "areAlike", "([III[III)Z"⟩
abbrev cX10_feed : ByteArray := prog_12_method_8_code
def yX10_feed : MethodName := ⟨RX10, "feed", "(I)I"⟩
abbrev cX10_here : ByteArray := prog_12_method_9_code
def yX10_here : MethodName := ⟨RX10, "here", "()I"⟩
abbrev cX10_readsName : ByteArray := prog_12_method_10_code
def yX10_readsName : MethodName := ⟨RX10, "readsName", "()V"⟩
abbrev cX10_kindOf : ByteArray := prog_12_method_11_code
def yX10_kindOf : MethodName := ⟨RX10, "kindOf", "(I)I"⟩
abbrev cX10_areBlocks : ByteArray := prog_12_method_12_code
def yX10_areBlocks : MethodName := ⟨RX10, "areBlocks", "()Z"⟩
abbrev cX10_planNamed : ByteArray := prog_12_method_13_code
def yX10_planNamed : MethodName := ⟨RX10, "planNamed", "()I"⟩
abbrev cX10_becomes : ByteArray := prog_12_method_14_code
def yX10_becomes : MethodName := ⟨RX10, "becomes", "([II)I"⟩
abbrev cX10_read : ByteArray := prog_12_method_15_code
def yX10_read : MethodName := ⟨RX10, "read", "()I"⟩
abbrev cX10_isNamed : ByteArray := prog_12_method_16_code
def yX10_isNamed : MethodName := ⟨RX10, "isNamed", "()Z"⟩
abbrev cX10_find : ByteArray := prog_12_method_17_code
def yX10_find : MethodName := ⟨RX10, "find", "()I"⟩
abbrev cX10_forget : ByteArray := prog_12_method_18_code
def yX10_forget : MethodName := ⟨RX10, "forget", "(I)I"⟩
abbrev cX10_plan : ByteArray := prog_12_method_19_code
def yX10_plan : MethodName := ⟨RX10, "plan", "(II)I"⟩
abbrev cX10_name : ByteArray := prog_12_method_20_code
def yX10_name : MethodName := ⟨RX10, "name", "(II)I"⟩
abbrev cX10_placeKnown : ByteArray := prog_12_method_21_code
def yX10_placeKnown : MethodName := ⟨RX10, "placeKnown", "([III)I"⟩
abbrev cX10_leaves : ByteArray := prog_12_method_22_code
def yX10_leaves : MethodName := ⟨RX10, "leaves", "(I)V"⟩
abbrev cX10_knows : ByteArray := prog_12_method_23_code
def yX10_knows : MethodName := ⟨RX10, "knows", "(I)V"⟩
abbrev cX10_known : ByteArray := prog_12_method_24_code
def yX10_known : MethodName := ⟨RX10, "known", "(I)I"⟩
abbrev cX10_sideAt : ByteArray := prog_12_method_25_code
def yX10_sideAt : MethodName := ⟨RX10, "sideAt", "(II)I"⟩
abbrev cX10_delay : ByteArray := prog_12_method_26_code
def yX10_delay : MethodName := ⟨RX10, "delay", "(II)I"⟩
abbrev cX10_arrival : ByteArray := prog_12_method_27_code
def yX10_arrival : MethodName := ⟨RX10, "arrival", "(III)I"⟩
abbrev cX10_arrives : ByteArray := prog_12_method_28_code
def yX10_arrives : MethodName := ⟨RX10, "arrives", "(II)I"⟩
abbrev cX10_clears : ByteArray := prog_12_method_29_code
def yX10_clears : MethodName := ⟨RX10, "clears", "()V"⟩
abbrev cX10_gate : ByteArray := prog_12_method_30_code
def yX10_gate : MethodName := ⟨RX10, "gate", "(III)I"⟩
abbrev cX10_not : ByteArray := prog_12_method_31_code
def yX10_not : MethodName := ⟨RX10, "not", "(I)I"⟩
abbrev cX10_and : ByteArray := prog_12_method_32_code
def yX10_and : MethodName := ⟨RX10, "and", "(II)I"⟩
abbrev cX10_or : ByteArray := prog_12_method_33_code
def yX10_or : MethodName := ⟨RX10, "or", "(II)I"⟩
abbrev cX10_xor : ByteArray := prog_12_method_34_code
def yX10_xor : MethodName := ⟨RX10, "xor", "(II)I"⟩
abbrev cX10_p : ByteArray := prog_12_method_35_code
def yX10_p : MethodName := ⟨RX10, "p", "(I)I"⟩
abbrev cX10_g : ByteArray := prog_12_method_36_code
def yX10_g : MethodName := ⟨RX10, "g", "(I)I"⟩
abbrev cX10_ripples : ByteArray := prog_12_method_37_code
def yX10_ripples : MethodName := ⟨RX10, "ripples", "(III[I)I"⟩
abbrev cX10_skips : ByteArray := prog_12_method_38_code
def yX10_skips : MethodName := ⟨RX10, "skips", "(III)I"⟩
abbrev cX10_selects : ByteArray := prog_12_method_39_code
def yX10_selects : MethodName := ⟨RX10, "selects", "(III)I"⟩
abbrev cX10_spanP : ByteArray := prog_12_method_40_code
def yX10_spanP : MethodName := ⟨RX10, "spanP", "(II)I"⟩
abbrev cX10_spanG : ByteArray := prog_12_method_41_code
def yX10_spanG : MethodName := ⟨RX10, "spanG", "(II)I"⟩
abbrev cX10_looksAhead : ByteArray := prog_12_method_42_code
def yX10_looksAhead : MethodName := ⟨RX10, "looksAhead", "(III)I"⟩
abbrev cX10_builds : ByteArray := prog_12_method_43_code
def yX10_builds : MethodName := ⟨RX10, "builds", "([III)V"⟩
abbrev cX10_marks : ByteArray := prog_12_method_44_code
def yX10_marks : MethodName := ⟨RX10, "marks", "(I)V"⟩
abbrev cX10_manyUsed : ByteArray := prog_12_method_45_code
def yX10_manyUsed : MethodName := ⟨RX10, "manyUsed", "(II)I"⟩
abbrev cX10_tellsTimes : ByteArray := prog_12_method_46_code
def yX10_tellsTimes : MethodName := ⟨RX10, "tellsTimes", "()V"⟩
abbrev cX10_lastOut : ByteArray := prog_12_method_47_code
def yX10_lastOut : MethodName := ⟨RX10, "lastOut", "()I"⟩
abbrev cX10_lays : ByteArray := prog_12_method_48_code
def yX10_lays : MethodName := ⟨RX10, "lays", "([III)V"⟩
abbrev cX10_laysPlan : ByteArray := prog_12_method_49_code
def yX10_laysPlan : MethodName := ⟨RX10, "laysPlan", "(I)V"⟩
abbrev cX10_gates : ByteArray := prog_12_method_50_code
def yX10_gates : MethodName := ⟨RX10, "gates", "(II)I"⟩
abbrev cX10_latest : ByteArray := prog_12_method_51_code
def yX10_latest : MethodName := ⟨RX10, "latest", "(II)I"⟩
abbrev cX10_deep : ByteArray := prog_12_method_52_code
def yX10_deep : MethodName := ⟨RX10, "deep", "(I)I"⟩
abbrev cX10_hangs : ByteArray := prog_12_method_53_code
def yX10_hangs : MethodName := ⟨RX10, "hangs", "(I)I"⟩
abbrev cX10_times : ByteArray := prog_12_method_54_code
def yX10_times : MethodName := ⟨RX10, "times", "(I)I"⟩
abbrev cX10_evaluates : ByteArray := prog_12_method_55_code
def yX10_evaluates : MethodName := ⟨RX10, "evaluates", "(III)V"⟩
abbrev cX10_settlesAll : ByteArray := prog_12_method_56_code
def yX10_settlesAll : MethodName := ⟨RX10, "settlesAll", "()V"⟩
abbrev cX10_areNumbers : ByteArray := prog_12_method_57_code
def yX10_areNumbers : MethodName := ⟨RX10, "areNumbers", "(IIII)Z"⟩
abbrev cX10_adds : ByteArray := prog_12_method_58_code
def yX10_adds : MethodName := ⟨RX10, "adds", "(IIII)I"⟩
abbrev cX10_settles : ByteArray := prog_12_method_59_code
def yX10_settles : MethodName := ⟨RX10, "settles", "(IIIII)I"⟩
abbrev cX10_goesThrough : ByteArray := prog_12_method_60_code
def yX10_goesThrough : MethodName := ⟨RX10, "goesThrough", "(II)I"⟩
abbrev cX10_slowest : ByteArray := prog_12_method_61_code
def yX10_slowest : MethodName := ⟨RX10, "slowest", "(II)I"⟩
abbrev cX10_intime : ByteArray := prog_12_method_62_code
def yX10_intime : MethodName := ⟨RX10, "intime", "(II)I"⟩
abbrev cX10_shared : ByteArray := prog_12_method_63_code
def yX10_shared : MethodName := ⟨RX10, "shared", "(II)I"⟩
abbrev cX10_alike : ByteArray := prog_12_method_64_code
def yX10_alike : MethodName := ⟨RX10, "alike", "(II)I"⟩
abbrev cX10_judges : ByteArray := prog_12_method_65_code
def yX10_judges : MethodName := ⟨RX10, "judges", "(II)V"⟩
abbrev cX10_goesOn : ByteArray := prog_12_method_66_code
def yX10_goesOn : MethodName := ⟨RX10, "goesOn", "(IIII)V"⟩
abbrev cX10_isWanted : ByteArray := prog_12_method_67_code
def yX10_isWanted : MethodName := ⟨RX10, "isWanted", "(III)Z"⟩
abbrev cX10_chooses : ByteArray := prog_12_method_68_code
def yX10_chooses : MethodName := ⟨RX10, "chooses", "(III)V"⟩
abbrev cX10_choose : ByteArray := prog_12_method_69_code
def yX10_choose : MethodName := ⟨RX10, "choose", "(IIII)I"⟩
abbrev cX10_chosen : ByteArray := prog_12_method_70_code
def yX10_chosen : MethodName := ⟨RX10, "chosen", "(III)I"⟩
abbrev cX10_meets : ByteArray := prog_12_method_71_code
def yX10_meets : MethodName := ⟨RX10, "meets", "(II)V"⟩
abbrev cX10_longest : ByteArray := prog_12_method_72_code
def yX10_longest : MethodName := ⟨RX10, "longest", "(IIIII)I"⟩
abbrev cX10_runs : ByteArray := prog_12_method_73_code
def yX10_runs : MethodName := ⟨RX10, "runs", "(II)J"⟩
abbrev cX10_isShelf : ByteArray := prog_12_method_74_code
def yX10_isShelf : MethodName := ⟨RX10, "isShelf", "(I)Z"⟩
abbrev cX10_shelve : ByteArray := prog_12_method_75_code
def yX10_shelve : MethodName := ⟨RX10, "shelve", "(II)I"⟩
abbrev cX10_taken : ByteArray := prog_12_method_76_code
def yX10_taken : MethodName := ⟨RX10, "taken", "(II)I"⟩
abbrev cX10_row : ByteArray := prog_12_method_77_code
def yX10_row : MethodName := ⟨RX10, "row", "(III)I"⟩
abbrev cX10_put : ByteArray := prog_12_method_78_code
def yX10_put : MethodName := ⟨RX10, "put", "(IIJ)I"⟩
abbrev cX10_get : ByteArray := prog_12_method_79_code
def yX10_get : MethodName := ⟨RX10, "get", "(II)J"⟩
abbrev cX10_into : ByteArray := prog_12_method_80_code
def yX10_into : MethodName := ⟨RX10, "into", "(II)I"⟩
abbrev cX10_from : ByteArray := prog_12_method_81_code
def yX10_from : MethodName := ⟨RX10, "from", "(II)I"⟩
abbrev cX10_unlike : ByteArray := prog_12_method_82_code
def yX10_unlike : MethodName := ⟨RX10, "unlike", "()I"⟩
abbrev cX10_count : ByteArray := prog_12_method_83_code
def yX10_count : MethodName := ⟨RX10, "count", "(I)I"⟩
def RJ6 : String := "java/lang/Integer"
def TJ6 : u_T := fun k => match k with
  | _ => ("", "", "", false)
def tyJ6 : Nat → FieldType := fun k => match k with
  | _ => .int
abbrev wsJ60 : List Cond := u_ws RJ6 TJ6 0
theorem nmJ6 : ∀ a, a < 0 → ∀ b, b < 0 → a ≠ b → (TJ6 a).2.1 ≠ (TJ6 b).2.1 := by decide +kernel
theorem tyJ6_ok : ∀ k, k < 0 → parseFieldDescriptor (TJ6 k).2.2.1 = some (tyJ6 k) := by decide +kernel
abbrev cJ6_bitCount_0f7a4 : ByteArray := prog_13_method_49_code
def yJ6_bitCount_0f7a4 : MethodName := ⟨RJ6, "bitCount", "(I)I"⟩
def RJ13 : String := "java/lang/Long"
def TJ13 : u_T := fun k => match k with
  | _ => ("", "", "", false)
def tyJ13 : Nat → FieldType := fun k => match k with
  | _ => .int
abbrev wsJ130 : List Cond := u_ws RJ13 TJ13 0
theorem nmJ13 : ∀ a, a < 0 → ∀ b, b < 0 → a ≠ b → (TJ13 a).2.1 ≠ (TJ13 b).2.1 := by decide +kernel
theorem tyJ13_ok : ∀ k, k < 0 → parseFieldDescriptor (TJ13 k).2.2.1 = some (tyJ13 k) := by decide +kernel
abbrev cJ13_bitCount_95d88 : ByteArray := prog_14_method_50_code
def yJ13_bitCount_95d88 : MethodName := ⟨RJ13, "bitCount", "(J)I"⟩
def RJ9 : String := "java/lang/Math"
def TJ9 : u_T := fun k => match k with
  | _ => ("", "", "", false)
def tyJ9 : Nat → FieldType := fun k => match k with
  | _ => .int
abbrev wsJ90 : List Cond := u_ws RJ9 TJ9 0
theorem nmJ9 : ∀ a, a < 0 → ∀ b, b < 0 → a ≠ b → (TJ9 a).2.1 ≠ (TJ9 b).2.1 := by decide +kernel
theorem tyJ9_ok : ∀ k, k < 0 → parseFieldDescriptor (TJ9 k).2.2.1 = some (tyJ9 k) := by decide +kernel
abbrev cJ9_max_7cf53 : ByteArray := prog_15_method_65_code
def yJ9_max_7cf53 : MethodName := ⟨RJ9, "max", "(II)I"⟩
abbrev cJ9_min_7cf53 : ByteArray := prog_15_method_69_code
def yJ9_min_7cf53 : MethodName := ⟨RJ9, "min", "(II)I"⟩
def RL : String := "AdderChooserLaw"
abbrev cL_law : ByteArray := code
def yL_law : MethodName := ⟨RL, "law", "([I)Z"⟩
theorem inX0 : ∀ w ∈ wsX00, w ∈ lw_tbl := by decide +kernel
theorem inX1 : ∀ w ∈ wsX10, w ∈ lw_tbl := by decide +kernel
theorem inX2 : ∀ w ∈ wsX20, w ∈ lw_tbl := by decide +kernel
theorem inX3 : ∀ w ∈ wsX30, w ∈ lw_tbl := by decide +kernel
theorem inX4 : ∀ w ∈ wsX40, w ∈ lw_tbl := by decide +kernel
theorem inX5 : ∀ w ∈ wsX50, w ∈ lw_tbl := by decide +kernel
theorem inX6 : ∀ w ∈ wsX60, w ∈ lw_tbl := by decide +kernel
theorem inX7 : ∀ w ∈ wsX70, w ∈ lw_tbl := by decide +kernel
theorem inX8 : ∀ w ∈ wsX80, w ∈ lw_tbl := by decide +kernel
theorem inX9 : ∀ w ∈ wsX90, w ∈ lw_tbl := by decide +kernel
theorem inX10 : ∀ w ∈ wsX100, w ∈ lw_tbl := by decide +kernel
end
section
/-! A small machine over pure worlds: cells by number, ints and longs by cell and place; what it computes, the machine does (xsound). -/
def WT : List Cond := lw_tbl.filter goodWord
def inT (w : Cond) : Bool := decide (w ∈ lw_tbl) && goodWord w
theorem inT_mem {w : Cond} (h : inT w = true) : w ∈ WT := by
  simp only [inT, Bool.and_eq_true, decide_eq_true_eq] at h
  exact List.mem_filter.mpr h
theorem wt_good {w : Cond} (h : w ∈ WT) : (w.onTables && w.keeps) = true ∨ ∃ ty, w = .arrayClass ty := good_of_word (List.mem_filter.mp h).2
theorem gi_wt {ws : List Cond} (h : ∀ w ∈ ws, w ∈ WT) : GoodIn WT ws := fun w hw => ⟨h w hw, wt_good (h w hw)⟩
theorem inW {ws : List Cond} (h : ∀ w ∈ ws, w ∈ lw_tbl) (hg : ws.all goodWord = true) : ∀ w ∈ ws, w ∈ WT := fun w hw => List.mem_filter.mpr ⟨h w hw, List.all_eq_true.mp hg w hw⟩
-- worlds
abbrev Wd : Type := (Nat → Nat → Int32) × (Nat → Nat → Int64)
def sF (σ : Wd) (k n : Nat) (x : Int32) : Wd := (fun a b => if a = k then (if b = n then x else σ.1 a b) else σ.1 a b, σ.2)
def sG (σ : Wd) (k n : Nat) (x : Int64) : Wd := (σ.1, fun a b => if a = k then (if b = n then x else σ.2 a b) else σ.2 a b)
abbrev ShE : Type := (Nat × List Nat) ⊕ (Nat × Nat)
def clsL : List vw_C := [(RX1, TX1, 2), (RX2, TX2, 15), (RX3, TX3, 3), (RX4, TX4, 8), (RX5, TX5, 4), (RX6, TX6, 4), (RX7, TX7, 3), (RX8, TX8, 6), (RX9, TX9, 9), (RX10, TX10, 47)]
/-! cells: 0 X, 1 Tape, 2 Plans, 3 Known, 4 Net, 5 Timing, 6 Sweep, 7 Search, 8 X.shelves, 9 Shelf0, 10 Shelf1, 11 Shelf2, 12 Shelf3, 13 X.live, 14 Tape.bytes, 15 Plans.names, 16 Plans.blocks, 17 Known.asked, 18 Net.sort, 19 Net.lower, 20 Net.upper, 21 Net.used, 22 Net.sums, 23 Net.newest, 24 Net.before, 25 Net.usedByFirst, 26 Net.onlyOne, 27 Net.bothOf, 28 Net.sumsByZero, 29 Net.sumsByOne, 30 Timing.delays, 31 Timing.arrivals, 32 Timing.when, 33 Timing.value, 34 Timing.hanging, 35 Timing.depth, 36 Sweep.settled, 37 Shelf0.items, 38 Shelf1.items, 39 Shelf2.items, 40 Shelf3.items, 41 M, 42 M.names, 43 M.nameLong, 44 M.blocks, 45 M.blockMany, 46 M.tape, 47 M.named, 48 M.told, 49 M.knownBlocks, 50 M.knownMany, 51 M.delays, 52 M.arrivals, 53 M.kinds, 54 M.lefts, 55 M.rights, 56 M.used, 57 M.comes, 58 M.values, 59 M.chains, 60 M.outs, 61 M.zeros, 62 M.others, 63 M.row, 64 M.best, 65 M.ways, 66 M.then, 67 M.sorts, 68 M.sizes, 69 M.shelved, 70 M.items -/
def SH : List ShE := [.inl (8, [4, 5, 6, 7, 8, 9, 10, 11, 16]), .inl (6, [17, 0, 1]), .inl (2, [18, 19, 0]), .inl (0, [20, 0]), .inl (1, [21, 22, 23, 24, 25, 0, 0, 0, 26, 27, 28, 29, 30, 31, 32]), .inl (7, [33, 34, 35, 36, 37, 38]), .inl (5, [2, 39, 1, 0]), .inl (3, [2, 0, 0, 0, 1, 0, 0, 0]), .inr (3, 4), .inl (4, [40, 0, 0, 1]), .inl (4, [41, 0, 0, 1]), .inl (4, [42, 0, 0, 1]), .inl (4, [43, 0, 0, 1]), .inr (1, 13), .inr (0, 40), .inr (0, 12), .inr (1, 12), .inr (1, 20), .inr (0, 512), .inr (0, 512), .inr (0, 512), .inr (2, 512), .inr (0, 12), .inr (0, 512), .inr (0, 512), .inr (2, 512), .inr (0, 12), .inr (0, 12), .inr (0, 12), .inr (0, 12), .inr (0, 4), .inr (0, 25), .inr (0, 512), .inr (0, 512), .inr (2, 512), .inr (0, 512), .inr (0, 512), .inr (1, 20), .inr (1, 20), .inr (1, 20), .inr (1, 20), .inl (9, [45, 46, 47, 48, 0, 49, 50, 51, 0, 0, 0, 0, 52, 53, 0, 54, 55, 56, 57, 58, 59, 60, 61, 62, 63, 64, 65, 0, 0, 0, 0, 0, 0, 66, 67, 0, 0, 0, 0, 0, 0, 68, 69, 70, 71, 72, 73]), .inr (0, 48), .inr (0, 12), .inr (0, 96), .inr (0, 12), .inr (0, 40), .inr (0, 4), .inr (0, 8), .inr (0, 168), .inr (0, 21), .inr (0, 4), .inr (0, 25), .inr (0, 2048), .inr (0, 2048), .inr (0, 2048), .inr (0, 2048), .inr (0, 2048), .inr (0, 2048), .inr (0, 2048), .inr (0, 13), .inr (0, 12), .inr (0, 12), .inr (0, 8), .inr (0, 8), .inr (1, 14), .inr (1, 14), .inr (0, 4), .inr (0, 4), .inr (0, 32), .inr (1, 80)]
abbrev NC : Nat := 71
def tysL (cy : Nat → ClassId) : List (ClassId × FieldType) := [(cy 0, .int), (cy 1, .long), (cy 2, .boolean), (cy 3, .object "AdderChooser$Shelf")]
theorem cls_ok : ∀ (ci : Nat) (C : String) (T : u_T) (N : Nat), clsL[ci]? = some (C, T, N) → ∃ ty : Nat → FieldType, (∀ w ∈ u_ws C T N, w ∈ WT) ∧ (∀ k, k < N → parseFieldDescriptor (T k).2.2.1 = some (ty k)) ∧ (∀ a, a < N → ∀ b, b < N → a ≠ b → (T a).2.1 ≠ (T b).2.1) := by
  intro ci C T N h
  match ci, h with
  | 0, h => cases h; exact ⟨tyX1, inW inX1 (by decide +kernel), tyX1_ok, nmX1⟩
  | 1, h => cases h; exact ⟨tyX2, inW inX2 (by decide +kernel), tyX2_ok, nmX2⟩
  | 2, h => cases h; exact ⟨tyX3, inW inX3 (by decide +kernel), tyX3_ok, nmX3⟩
  | 3, h => cases h; exact ⟨tyX4, inW inX4 (by decide +kernel), tyX4_ok, nmX4⟩
  | 4, h => cases h; exact ⟨tyX5, inW inX5 (by decide +kernel), tyX5_ok, nmX5⟩
  | 5, h => cases h; exact ⟨tyX6, inW inX6 (by decide +kernel), tyX6_ok, nmX6⟩
  | 6, h => cases h; exact ⟨tyX7, inW inX7 (by decide +kernel), tyX7_ok, nmX7⟩
  | 7, h => cases h; exact ⟨tyX8, inW inX8 (by decide +kernel), tyX8_ok, nmX8⟩
  | 8, h => cases h; exact ⟨tyX9, inW inX9 (by decide +kernel), tyX9_ok, nmX9⟩
  | 9, h => cases h; exact ⟨tyX10, inW inX10 (by decide +kernel), tyX10_ok, nmX10⟩
  | n + 10, h => simp [clsL] at h
-- the cells of a world
def fdv (q : Nat → Nat) (σ : Wd) (k j : Nat) : Nat → Value
  | 0 => .int (σ.1 k j)
  | 1 => .long (σ.2 k j)
  | 2 => .int (σ.1 k j)
  | r + 3 => .ref (q r)
def fvs (q : Nat → Nat) (σ : Wd) (k : Nat) : Nat → List Nat → List Value
  | _, [] => []
  | j, d :: ds => fdv q σ k j d :: fvs q σ k (j + 1) ds
def celle (q : Nat → Nat) (cy : Nat → ClassId) (σ : Wd) (k : Nat) : ShE → va_E
  | .inl (ci, fds) => .inr (ci, fvs q σ k 0 fds)
  | .inr (0, n) => .inl (cy 0, n, .inl (σ.1 k))
  | .inr (1, n) => .inl (cy 1, n, .inr (.inl (σ.2 k)))
  | .inr (2, n) => .inl (cy 2, n, .inl (σ.1 k))
  | .inr (_ + 3, n) => .inl (cy 3, n, .inr (.inr (.inr (.inr (fun j => some (q (9 + j)))))))
def wl (q : Nat → Nat) (cy : Nat → ClassId) (σ : Wd) : Nat → List ShE → va_W
  | _, [] => []
  | k, e :: es => (q k, celle q cy σ k e) :: wl q cy σ (k + 1) es
def wls (q : Nat → Nat) (cy : Nat → ClassId) (σ : Wd) : va_W := wl q cy σ 0 SH
theorem fvs_get (q : Nat → Nat) (σ : Wd) (k : Nat) : ∀ (ds : List Nat) (b i : Nat), (fvs q σ k b ds)[i]? = (ds[i]?).map (fdv q σ k (b + i))
  | [], _, _ => by simp [fvs]
  | d :: ds, b, 0 => by simp [fvs]
  | d :: ds, b, i + 1 => by
    have h := fvs_get q σ k ds (b + 1) i
    simp only [fvs, List.getElem?_cons_succ]
    rw [h, show b + 1 + i = b + (i + 1) by omega]
theorem fvs_len (q : Nat → Nat) (σ : Wd) (k : Nat) : ∀ (ds : List Nat) (b : Nat), (fvs q σ k b ds).length = ds.length
  | [], _ => rfl
  | d :: ds, b => by simp [fvs, fvs_len q σ k ds (b + 1)]
theorem wl_get (q : Nat → Nat) (cy : Nat → ClassId) (σ : Wd) : ∀ (es : List ShE) (b i : Nat), (wl q cy σ b es)[i]? = (es[i]?).map (fun e => (q (b + i), celle q cy σ (b + i) e))
  | [], _, _ => by simp [wl]
  | e :: es, b, 0 => by simp [wl]
  | e :: es, b, i + 1 => by
    have h := wl_get q cy σ es (b + 1) i
    simp only [wl, List.getElem?_cons_succ]
    rw [h, show b + 1 + i = b + (i + 1) by omega]
theorem wls_get (q : Nat → Nat) (cy : Nat → ClassId) (σ : Wd) (i : Nat) : (wls q cy σ)[i]? = (SH[i]?).map (fun e => (q i, celle q cy σ i e)) := by
  unfold wls
  rw [wl_get, Nat.zero_add]
theorem celle_F {q : Nat → Nat} {cy : Nat → ClassId} {σ : Wd} {k n i : Nat} {x : Int32} (h : i ≠ k) (e : ShE) : celle q cy (sF σ k n x) i e = celle q cy σ i e := by
  have h1 : (sF σ k n x).1 i = σ.1 i := by funext b; simp [sF, h]
  have h2 : ∀ (ds : List Nat) (b : Nat), fvs q (sF σ k n x) i b ds = fvs q σ i b ds := by
    intro ds
    induction ds with
    | nil => intro b; rfl
    | cons d ds ih => intro b; rw [fvs, fvs, ih]; congr 1; match d with
      | 0 => show Value.int ((sF σ k n x).1 i b) = _; rw [h1]; rfl
      | 1 => rfl
      | 2 => show Value.int ((sF σ k n x).1 i b) = _; rw [h1]; rfl
      | r + 3 => rfl
  match e with
  | .inl (ci, fds) => show Sum.inr (ci, _) = Sum.inr (ci, _); rw [h2]
  | .inr (0, m) => show Sum.inl (cy 0, m, Sum.inl ((sF σ k n x).1 i)) = _; rw [h1]; rfl
  | .inr (1, m) => rfl
  | .inr (2, m) => show Sum.inl (cy 2, m, Sum.inl ((sF σ k n x).1 i)) = _; rw [h1]; rfl
  | .inr (t + 3, m) => rfl
theorem celle_G {q : Nat → Nat} {cy : Nat → ClassId} {σ : Wd} {k n i : Nat} {x : Int64} (h : i ≠ k) (e : ShE) : celle q cy (sG σ k n x) i e = celle q cy σ i e := by
  have h1 : (sG σ k n x).2 i = σ.2 i := by funext b; simp [sG, h]
  have h2 : ∀ (ds : List Nat) (b : Nat), fvs q (sG σ k n x) i b ds = fvs q σ i b ds := by
    intro ds
    induction ds with
    | nil => intro b; rfl
    | cons d ds ih => intro b; rw [fvs, fvs, ih]; congr 1; match d with
      | 0 => rfl
      | 1 => show Value.long ((sG σ k n x).2 i b) = _; rw [h1]; rfl
      | 2 => rfl
      | r + 3 => rfl
  match e with
  | .inl (ci, fds) => show Sum.inr (ci, _) = Sum.inr (ci, _); rw [h2]
  | .inr (0, m) => rfl
  | .inr (1, m) => show Sum.inl (cy 1, m, Sum.inr (Sum.inl ((sG σ k n x).2 i))) = _; rw [h1]; rfl
  | .inr (2, m) => rfl
  | .inr (t + 3, m) => rfl
theorem wls_set {q : Nat → Nat} {cy : Nat → ClassId} {σ τ : Wd} {k : Nat} {e : ShE} {w : va_E} (hs : SH[k]? = some e) (ho : ∀ i, i ≠ k → ∀ e, celle q cy τ i e = celle q cy σ i e) (hk : celle q cy τ k e = w) : (wls q cy σ).set k (q k, w) = wls q cy τ := by
  apply List.ext_getElem?
  intro i
  rw [List.getElem?_set, wls_get, wls_get]
  by_cases hi : k = i
  · subst hi
    have hl : k < (wls q cy σ).length := by
      have h := wls_get q cy σ k
      rw [hs] at h
      exact (List.getElem?_eq_some_iff.mp h).1
    rw [if_pos rfl, if_pos hl, hs]
    simp [hk]
  · rw [if_neg hi]
    cases hh : SH[i]? with
    | none => rfl
    | some e2 => simp [ho i (Ne.symm hi)]
-- locals
def cv (q : Nat → Nat) : Value → Value
  | .ref k => .ref (q k)
  | v => v
def cat2 : Value → Bool
  | .long _ => true
  | .double _ => true
  | _ => false
theorem cv_cat (q : Nat → Nat) (v : Value) : (cv q v).category = v.category := by cases v <;> rfl
theorem cat2_iff (v : Value) : cat2 v = true ↔ v.category = 2 := by cases v <;> simp [cat2, Value.category]
def st1 : List Value → Nat → Value → List Value
  | [], _, _ => []
  | _ :: vs, 0, v => v :: vs
  | w :: vs, i + 1, v => cond (Nat.beq i 0 && cat2 w) .null w :: st1 vs i v
def st2 : List Value → Nat → Value → List Value
  | [], _, _ => []
  | _ :: [], 0, v => [v]
  | _ :: _ :: vs, 0, v => v :: .null :: vs
  | w :: vs, i + 1, v => cond (Nat.beq i 0 && cat2 w) .null w :: st2 vs i v
theorem st1_get : ∀ (vs : List Value) (i : Nat) (v : Value) (j : Nat) (w : Value), (st1 vs i v)[j]? = some w → w ≠ .null → (j = i ∧ w = v) ∨ (j ≠ i ∧ vs[j]? = some w ∧ ¬ (j + 1 = i ∧ w.category = 2))
  | [], i, v, j, w, h, hn => by simp [st1] at h
  | a :: vs, 0, v, 0, w, h, hn => by simp [st1] at h; exact Or.inl ⟨rfl, h.symm⟩
  | a :: vs, 0, v, j + 1, w, h, hn => by simp [st1] at h; exact Or.inr ⟨by omega, by simpa using h, by omega⟩
  | a :: vs, i + 1, v, 0, w, h, hn => by
    simp only [st1, List.getElem?_cons_zero, Option.some.injEq] at h
    cases hb : (Nat.beq i 0 && cat2 a) with
    | true => rw [hb] at h; exact absurd h.symm hn
    | false =>
      rw [hb] at h
      refine Or.inr ⟨by omega, by simpa using h, fun hx => ?_⟩
      have h1 : i = 0 := by omega
      have h2 : a = w := h
      subst h1; subst h2
      rw [(cat2_iff a).mpr hx.2] at hb
      simp at hb
  | a :: vs, i + 1, v, j + 1, w, h, hn => by
    simp only [st1, List.getElem?_cons_succ] at h
    rcases st1_get vs i v j w h hn with ⟨h1, h2⟩ | ⟨h1, h2, h3⟩
    · exact Or.inl ⟨by omega, h2⟩
    · exact Or.inr ⟨by omega, by simpa using h2, by omega⟩
theorem st2_get : ∀ (vs : List Value) (i : Nat) (v : Value) (j : Nat) (w : Value), (st2 vs i v)[j]? = some w → w ≠ .null → (j = i ∧ w = v) ∨ (j ≠ i ∧ j ≠ i + 1 ∧ vs[j]? = some w ∧ ¬ (j + 1 = i ∧ w.category = 2))
  | [], i, v, j, w, h, hn => by simp [st2] at h
  | [a], 0, v, j, w, h, hn => by
    match j, h with
    | 0, h => simp [st2] at h; exact Or.inl ⟨rfl, h.symm⟩
    | j + 1, h => simp [st2] at h
  | a :: b :: vs, 0, v, j, w, h, hn => by
    match j, h with
    | 0, h => simp [st2] at h; exact Or.inl ⟨rfl, h.symm⟩
    | 1, h => simp [st2] at h; exact absurd h.symm hn
    | j + 2, h => simp [st2] at h; exact Or.inr ⟨by omega, by omega, by simpa using h, by omega⟩
  | a :: vs, i + 1, v, 0, w, h, hn => by
    simp only [st2, List.getElem?_cons_zero, Option.some.injEq] at h
    cases hb : (Nat.beq i 0 && cat2 a) with
    | true => rw [hb] at h; exact absurd h.symm hn
    | false =>
      rw [hb] at h
      refine Or.inr ⟨by omega, by omega, by simpa using h, fun hx => ?_⟩
      have h1 : i = 0 := by omega
      have h2 : a = w := h
      subst h1; subst h2
      rw [(cat2_iff a).mpr hx.2] at hb
      simp at hb
  | a :: vs, i + 1, v, j + 1, w, h, hn => by
    simp only [st2, List.getElem?_cons_succ] at h
    rcases st2_get vs i v j w h hn with ⟨h1, h2⟩ | ⟨h1, h2, h3, h4⟩
    · exact Or.inl ⟨by omega, h2⟩
    · exact Or.inr ⟨by omega, by omega, by simpa using h3, by omega⟩
def LH (q : Nat → Nat) (ls : Array Slot) (nL : Nat) (vs : List Value) : Prop := ls.size = nL ∧ lv_wf ls ∧ ∀ (i : Nat) (v : Value), vs[i]? = some v → v ≠ .null → ls[i]? = some (.val (cv q v))
def lhl (q : Nat → Nat) (vs : List Value) : List (Nat × Value) := (List.range vs.length).filterMap (fun i => match vs[i]? with | some v => if v = .null then none else some (i, cv q v) | none => none)
theorem lhl_mem {q : Nat → Nat} {vs : List Value} {z : Nat × Value} : z ∈ lhl q vs ↔ ∃ v, vs[z.1]? = some v ∧ v ≠ .null ∧ z.2 = cv q v := by
  unfold lhl
  rw [List.mem_filterMap]
  constructor
  · rintro ⟨i, -, hi⟩
    cases hv : vs[i]? with
    | none => rw [hv] at hi; cases hi
    | some v =>
      rw [hv] at hi
      dsimp only at hi
      by_cases hn : v = .null
      · rw [if_pos hn] at hi; cases hi
      · rw [if_neg hn] at hi
        cases hi
        exact ⟨v, hv, hn, rfl⟩
  · rintro ⟨v, h1, h2, h3⟩
    refine ⟨z.1, List.mem_range.mpr (List.getElem?_eq_some_iff.mp h1).1, ?_⟩
    rw [h1]
    dsimp only
    rw [if_neg h2, ← h3]
theorem LH.has {q : Nat → Nat} {ls : Array Slot} {nL : Nat} {vs : List Value} (h : LH q ls nL vs) : lv_has ls nL (lhl q vs) := ⟨h.1, h.2.1, fun z hz => by
  obtain ⟨v, h1, h2, h3⟩ := lhl_mem.mp hz
  rw [h3]
  exact h.2.2 z.1 v h1 h2⟩
theorem LH.s1 {q : Nat → Nat} {ls' : Array Slot} {nL i : Nat} {vs : List Value} {v : Value} (h : lv_has ls' nL ((i, cv q v) :: (lhl q vs).filter (fun z => !(z.1 == i) && !(z.1 + 1 == i && z.2.category == 2)))) : LH q ls' nL (st1 vs i v) := by
  refine ⟨h.1, h.2.1, fun j w hj hn => ?_⟩
  rcases st1_get vs i v j w hj hn with ⟨rfl, rfl⟩ | ⟨h1, h2, h3⟩
  · exact h.2.2 (j, cv q w) List.mem_cons_self
  · refine h.2.2 (j, cv q w) (List.mem_cons_of_mem _ (List.mem_filter.mpr ⟨lhl_mem.mpr ⟨w, h2, hn, rfl⟩, ?_⟩))
    simp only [Bool.and_eq_true, Bool.not_eq_true', beq_eq_false_iff_ne, ne_eq, Bool.and_eq_false_imp, beq_iff_eq, cv_cat]
    exact ⟨h1, fun a b => h3 ⟨a, b⟩⟩
theorem LH.s2 {q : Nat → Nat} {ls' : Array Slot} {nL i : Nat} {vs : List Value} {v : Value} (h : lv_has ls' nL ((i, cv q v) :: (lhl q vs).filter (fun z => !(z.1 == i) && (!(z.1 == i + 1) && !(z.1 + 1 == i && z.2.category == 2))))) : LH q ls' nL (st2 vs i v) := by
  refine ⟨h.1, h.2.1, fun j w hj hn => ?_⟩
  rcases st2_get vs i v j w hj hn with ⟨rfl, rfl⟩ | ⟨h1, h2, h3, h4⟩
  · exact h.2.2 (j, cv q w) List.mem_cons_self
  · refine h.2.2 (j, cv q w) (List.mem_cons_of_mem _ (List.mem_filter.mpr ⟨lhl_mem.mpr ⟨w, h3, hn, rfl⟩, ?_⟩))
    simp only [Bool.and_eq_true, Bool.not_eq_true', beq_eq_false_iff_ne, ne_eq, Bool.and_eq_false_imp, beq_iff_eq, cv_cat]
    exact ⟨h1, h2, fun a b => h4 ⟨a, b⟩⟩
/-- the first locals of a call -/
def lay : List Value → List Value
  | [] => []
  | v :: vs => cond (cat2 v) (v :: .null :: lay vs) (v :: lay vs)
theorem lay_get (q : Nat → Nat) : ∀ (as : List Value) (b j : Nat) (w : Value), (lay as)[j]? = some w → w ≠ .null → (b + j, cv q w) ∈ lv_args b (as.map (cv q))
  | [], b, j, w, h, hn => by simp [lay] at h
  | v :: vs, b, j, w, h, hn => by
    cases hc : cat2 v with
    | true =>
      have hc2 := (cat2_iff v).mp hc
      simp only [lay, hc, cond_true] at h
      simp only [List.map_cons, lv_args, cv_cat, hc2, if_true]
      match j, h with
      | 0, h => simp at h; subst h; simp
      | 1, h => simp at h; exact absurd h.symm hn
      | j + 2, h =>
        have h' : (lay vs)[j]? = some w := by simpa using h
        have := lay_get q vs (b + 2) j w h' hn
        rw [show b + (j + 2) = b + 2 + j by omega]
        exact List.mem_cons_of_mem _ this
    | false =>
      have hc2 : ¬ v.category = 2 := fun z => by rw [(cat2_iff v).mpr z] at hc; cases hc
      simp only [lay, hc, cond_false] at h
      simp only [List.map_cons, lv_args, cv_cat, hc2, if_false]
      match j, h with
      | 0, h => simp at h; subst h; simp
      | j + 1, h =>
        have h' : (lay vs)[j]? = some w := by simpa using h
        have := lay_get q vs (b + 1) j w h' hn
        rw [show b + (j + 1) = b + 1 + j by omega]
        exact List.mem_cons_of_mem _ this
def pad : Nat → List Value → List Value
  | 0, vs => vs
  | n + 1, [] => .null :: pad n []
  | n + 1, v :: vs => v :: pad n vs
theorem pad_get : ∀ (n : Nat) (vs : List Value) (j : Nat) (w : Value), (pad n vs)[j]? = some w → w ≠ .null → vs[j]? = some w
  | 0, vs, j, w, h, hn => h
  | n + 1, [], 0, w, h, hn => by simp [pad] at h; exact absurd h.symm hn
  | n + 1, [], j + 1, w, h, hn => by
    simp only [pad, List.getElem?_cons_succ] at h
    have := pad_get n [] j w h hn
    simp at this
  | n + 1, v :: vs, 0, w, h, hn => by simpa [pad] using h
  | n + 1, v :: vs, j + 1, w, h, hn => by
    simp only [pad, List.getElem?_cons_succ] at h
    simpa using pad_get n vs j w h hn
theorem LH.entry {q : Nat → Nat} {as : List Value} {n : Nat} {ls : Array Slot} (h : lv_has ls n (lv_args 0 (as.map (cv q)))) : LH q ls n (pad n (lay as)) := by
  refine ⟨h.1, h.2.1, fun j w hj hn => ?_⟩
  have h1 := lay_get q as 0 j w (pad_get n _ j w hj hn) hn
  rw [Nat.zero_add] at h1
  exact h.2.2 (j, cv q w) h1
/-- some places forgotten -/
def msk : List Bool → List Value → List Value
  | b :: bs, v :: vs => cond b v .null :: msk bs vs
  | _, _ => []
theorem msk_get : ∀ (bs : List Bool) (vs : List Value) (j : Nat) (w : Value), (msk bs vs)[j]? = some w → w ≠ .null → vs[j]? = some w
  | [], vs, j, w, h, hn => by simp [msk] at h
  | b :: bs, [], j, w, h, hn => by simp [msk] at h
  | b :: bs, v :: vs, 0, w, h, hn => by
    simp only [msk, List.getElem?_cons_zero, Option.some.injEq] at h
    cases b with
    | true => simpa using h
    | false => exact absurd h.symm hn
  | b :: bs, v :: vs, j + 1, w, h, hn => by
    simp only [msk, List.getElem?_cons_succ] at h
    simpa using msk_get bs vs j w h hn
theorem LH.mask {q : Nat → Nat} {ls : Array Slot} {nL : Nat} {vs : List Value} (h : LH q ls nL vs) (bs : List Bool) : LH q ls nL (msk bs vs) := ⟨h.1, h.2.1, fun j w hj hn => h.2.2 j w (msk_get bs vs j w hj hn) hn⟩
end
section
-- one instruction, and runs of them
def fnd {α : Type} : List (Nat × α) → Nat → Option α
  | [], _ => none
  | (k, a) :: t, n => cond (Nat.beq k n) (some a) (fnd t n)
theorem fnd_mem {α : Type} : ∀ (t : List (Nat × α)) (n : Nat) (a : α), fnd t n = some a → (n, a) ∈ t
  | [], n, a, h => by cases h
  | (k, b) :: t, n, a, h => by
    simp only [fnd] at h
    cases hb : Nat.beq k n with
    | true =>
      rw [hb] at h
      have h1 : b = a := Option.some.inj h
      rw [← Nat.eq_of_beq_eq_true hb, h1]
      exact List.mem_cons_self
    | false => rw [hb] at h; exact List.mem_cons_of_mem _ (fnd_mem t n a h)
abbrev Ent : Type := Instr × Nat × List Nat
abbrev FTE : Type := Nat × Nat × Nat
abbrev Cal : Type := Nat × Nat × ((List Value → Wd → Option (Int32 × Wd)) ⊕ (List Value → Wd → Option (Int64 × Wd)) ⊕ (List Value → Wd → Option Wd))
abbrev Scr : Type := Nat × (Nat → Int32)
abbrev PK (β : Type) : Type := Nat → List Value → List Value → Wd → Option β
def arrn (k t : Nat) : Option Nat := match SH[k]? with
  | some (.inr (t', n)) => cond (Nat.beq t' t) (some n) none
  | _ => none
def objf (k ci : Nat) : Option (List Nat) := match SH[k]? with
  | some (.inl (c, fds)) => cond (Nat.beq c ci) (some fds) none
  | _ => none
theorem arrn_sh {k t n : Nat} (h : arrn k t = some n) : SH[k]? = some (.inr (t, n)) := by
  unfold arrn at h
  split at h
  · rename_i t' n' hs
    cases hb : Nat.beq t' t with
    | true => rw [hb] at h; rw [hs, Nat.eq_of_beq_eq_true hb, Option.some.inj h]
    | false => rw [hb] at h; cases h
  · cases h
theorem objf_sh {k ci : Nat} {fds : List Nat} (h : objf k ci = some fds) : SH[k]? = some (.inl (ci, fds)) := by
  unfold objf at h
  split at h
  · rename_i t' n' hs
    cases hb : Nat.beq t' ci with
    | true => rw [hb] at h; rw [hs, Nat.eq_of_beq_eq_true hb, Option.some.inj h]
    | false => rw [hb] at h; cases h
  · cases h
def xld (σ : Wd) (k n : Nat) (i : Int32) : Option Int32 := if i < 0 ∨ n ≤ i.toNatClampNeg then none else some (σ.1 k i.toNatClampNeg)
def xldL (σ : Wd) (k n : Nat) (i : Int32) : Option Int64 := if i < 0 ∨ n ≤ i.toNatClampNeg then none else some (σ.2 k i.toNatClampNeg)
def xsc (sc : Scr) (i : Int32) : Option Int32 := if i < 0 ∨ sc.1 - 1 ≤ i.toNatClampNeg then none else some (sc.2 i.toNatClampNeg)
def xst (σ : Wd) (k n : Nat) (i x : Int32) : Option Wd := if i < 0 ∨ n ≤ i.toNatClampNeg then none else some (sF σ k i.toNatClampNeg x)
def xstL (σ : Wd) (k n : Nat) (i : Int32) (x : Int64) : Option Wd := if i < 0 ∨ n ≤ i.toNatClampNeg then none else some (sG σ k i.toNatClampNeg x)
def xstZ (σ : Wd) (k n : Nat) (i x : Int32) : Option Wd := if x = 0 ∨ x = 1 then xst σ k n i x else none
theorem xld_s {σ : Wd} {k n : Nat} {i v : Int32} (h : xld σ k n i = some v) : vp_in i n ∧ v = σ.1 k i.toNatClampNeg := by
  unfold xld at h
  by_cases c : i < 0 ∨ n ≤ i.toNatClampNeg
  · rw [if_pos c] at h; cases h
  · rw [if_neg c] at h; exact ⟨c, (Option.some.inj h).symm⟩
theorem xldL_s {σ : Wd} {k n : Nat} {i : Int32} {v : Int64} (h : xldL σ k n i = some v) : vp_in i n ∧ v = σ.2 k i.toNatClampNeg := by
  unfold xldL at h
  by_cases c : i < 0 ∨ n ≤ i.toNatClampNeg
  · rw [if_pos c] at h; cases h
  · rw [if_neg c] at h; exact ⟨c, (Option.some.inj h).symm⟩
theorem xsc_s {sc : Scr} {i v : Int32} (h : xsc sc i = some v) : vp_in i (sc.1 - 1) ∧ v = sc.2 i.toNatClampNeg := by
  unfold xsc at h
  by_cases c : i < 0 ∨ sc.1 - 1 ≤ i.toNatClampNeg
  · rw [if_pos c] at h; cases h
  · rw [if_neg c] at h; exact ⟨c, (Option.some.inj h).symm⟩
theorem xst_s {σ τ : Wd} {k n : Nat} {i x : Int32} (h : xst σ k n i x = some τ) : vp_in i n ∧ τ = sF σ k i.toNatClampNeg x := by
  unfold xst at h
  by_cases c : i < 0 ∨ n ≤ i.toNatClampNeg
  · rw [if_pos c] at h; cases h
  · rw [if_neg c] at h; exact ⟨c, (Option.some.inj h).symm⟩
theorem xstL_s {σ τ : Wd} {k n : Nat} {i : Int32} {x : Int64} (h : xstL σ k n i x = some τ) : vp_in i n ∧ τ = sG σ k i.toNatClampNeg x := by
  unfold xstL at h
  by_cases c : i < 0 ∨ n ≤ i.toNatClampNeg
  · rw [if_pos c] at h; cases h
  · rw [if_neg c] at h; exact ⟨c, (Option.some.inj h).symm⟩
theorem xstZ_s {σ τ : Wd} {k n : Nat} {i x : Int32} (h : xstZ σ k n i x = some τ) : (x = 0 ∨ x = 1) ∧ vp_in i n ∧ τ = sF σ k i.toNatClampNeg x := by
  unfold xstZ at h
  by_cases c : x = 0 ∨ x = 1
  · rw [if_pos c] at h; exact ⟨c, xst_s h⟩
  · rw [if_neg c] at h; cases h
section POP
variable {β : Type}
def pI (st : List Value) (k : Int32 → List Value → Option β) : Option β := match st with
  | .int x :: r => k x r
  | _ => none
def pII (st : List Value) (k : Int32 → Int32 → List Value → Option β) : Option β := match st with
  | .int y :: .int x :: r => k x y r
  | _ => none
def pJ (st : List Value) (k : Int64 → List Value → Option β) : Option β := match st with
  | .long x :: r => k x r
  | _ => none
def pJJ (st : List Value) (k : Int64 → Int64 → List Value → Option β) : Option β := match st with
  | .long y :: .long x :: r => k x y r
  | _ => none
def pJI (st : List Value) (k : Int64 → Int32 → List Value → Option β) : Option β := match st with
  | .int y :: .long x :: r => k x y r
  | _ => none
def pA (st : List Value) (k : Nat → List Value → Option β) : Option β := match st with
  | .ref a :: r => k a r
  | _ => none
def pAI (st : List Value) (k : Nat → Int32 → List Value → Option β) : Option β := match st with
  | .int i :: .ref a :: r => k a i r
  | _ => none
def pAII (st : List Value) (k : Nat → Int32 → Int32 → List Value → Option β) : Option β := match st with
  | .int x :: .int i :: .ref a :: r => k a i x r
  | _ => none
def pAIJ (st : List Value) (k : Nat → Int32 → Int64 → List Value → Option β) : Option β := match st with
  | .long x :: .int i :: .ref a :: r => k a i x r
  | _ => none
def pVA (st : List Value) (k : Value → Nat → List Value → Option β) : Option β := match st with
  | v :: .ref a :: r => k v a r
  | _ => none
def pV (st : List Value) (k : Value → List Value → Option β) : Option β := match st with
  | v :: r => cond (cat2 v) none (k v r)
  | _ => none
def pVV (st : List Value) (k : Value → Value → List Value → Option β) : Option β := match st with
  | v :: w :: r => cond (cat2 v || cat2 w) none (k v w r)
  | _ => none
def oV (v : Option Value) (k : Value → Option β) : Option β := match v with
  | some v => k v
  | none => none
def vI (v : Value) (k : Int32 → Option β) : Option β := match v with
  | .int x => k x
  | _ => none
def vJ (v : Value) (k : Int64 → Option β) : Option β := match v with
  | .long x => k x
  | _ => none
def vA (v : Value) (k : Nat → Option β) : Option β := match v with
  | .ref x => k x
  | _ => none
def oN {α : Type} (v : Option α) (k : α → Option β) : Option β := match v with
  | some v => k v
  | none => none
def t1 (ts : List Nat) (k : Nat → Option β) : Option β := match ts with
  | t :: _ => k t
  | [] => none
theorem pI_s {st : List Value} {k : Int32 → List Value → Option β} {r : β} (h : pI st k = some r) : ∃ x rs, st = .int x :: rs ∧ k x rs = some r := by
  unfold pI at h; split at h
  · exact ⟨_, _, rfl, h⟩
  · cases h
theorem pII_s {st : List Value} {k : Int32 → Int32 → List Value → Option β} {r : β} (h : pII st k = some r) : ∃ x y rs, st = .int y :: .int x :: rs ∧ k x y rs = some r := by
  unfold pII at h; split at h
  · exact ⟨_, _, _, rfl, h⟩
  · cases h
theorem pJ_s {st : List Value} {k : Int64 → List Value → Option β} {r : β} (h : pJ st k = some r) : ∃ x rs, st = .long x :: rs ∧ k x rs = some r := by
  unfold pJ at h; split at h
  · exact ⟨_, _, rfl, h⟩
  · cases h
theorem pJJ_s {st : List Value} {k : Int64 → Int64 → List Value → Option β} {r : β} (h : pJJ st k = some r) : ∃ x y rs, st = .long y :: .long x :: rs ∧ k x y rs = some r := by
  unfold pJJ at h; split at h
  · exact ⟨_, _, _, rfl, h⟩
  · cases h
theorem pJI_s {st : List Value} {k : Int64 → Int32 → List Value → Option β} {r : β} (h : pJI st k = some r) : ∃ x y rs, st = .int y :: .long x :: rs ∧ k x y rs = some r := by
  unfold pJI at h; split at h
  · exact ⟨_, _, _, rfl, h⟩
  · cases h
theorem pA_s {st : List Value} {k : Nat → List Value → Option β} {r : β} (h : pA st k = some r) : ∃ a rs, st = .ref a :: rs ∧ k a rs = some r := by
  unfold pA at h; split at h
  · exact ⟨_, _, rfl, h⟩
  · cases h
theorem pAI_s {st : List Value} {k : Nat → Int32 → List Value → Option β} {r : β} (h : pAI st k = some r) : ∃ a i rs, st = .int i :: .ref a :: rs ∧ k a i rs = some r := by
  unfold pAI at h; split at h
  · exact ⟨_, _, _, rfl, h⟩
  · cases h
theorem pAII_s {st : List Value} {k : Nat → Int32 → Int32 → List Value → Option β} {r : β} (h : pAII st k = some r) : ∃ a i x rs, st = .int x :: .int i :: .ref a :: rs ∧ k a i x rs = some r := by
  unfold pAII at h; split at h
  · exact ⟨_, _, _, _, rfl, h⟩
  · cases h
theorem pAIJ_s {st : List Value} {k : Nat → Int32 → Int64 → List Value → Option β} {r : β} (h : pAIJ st k = some r) : ∃ a i x rs, st = .long x :: .int i :: .ref a :: rs ∧ k a i x rs = some r := by
  unfold pAIJ at h; split at h
  · exact ⟨_, _, _, _, rfl, h⟩
  · cases h
theorem pVA_s {st : List Value} {k : Value → Nat → List Value → Option β} {r : β} (h : pVA st k = some r) : ∃ v a rs, st = v :: .ref a :: rs ∧ k v a rs = some r := by
  unfold pVA at h; split at h
  · exact ⟨_, _, _, rfl, h⟩
  · cases h
theorem cat1_of {v : Value} (h : cat2 v = false) : v.category = 1 := by cases v <;> first | rfl | cases h
theorem pV_s {st : List Value} {k : Value → List Value → Option β} {r : β} (h : pV st k = some r) : ∃ v rs, st = v :: rs ∧ v.category = 1 ∧ k v rs = some r := by
  unfold pV at h; split at h
  · rename_i v rs
    cases hc : cat2 v with
    | true => rw [hc] at h; cases h
    | false => rw [hc] at h; exact ⟨_, _, rfl, cat1_of hc, h⟩
  · cases h
theorem pVV_s {st : List Value} {k : Value → Value → List Value → Option β} {r : β} (h : pVV st k = some r) : ∃ v w rs, st = v :: w :: rs ∧ v.category = 1 ∧ w.category = 1 ∧ k v w rs = some r := by
  unfold pVV at h; split at h
  · rename_i v w rs
    cases hc : cat2 v with
    | true => rw [hc] at h; cases h
    | false =>
      cases hd : cat2 w with
      | true => rw [hc, hd] at h; cases h
      | false => rw [hc, hd] at h; exact ⟨_, _, _, rfl, cat1_of hc, cat1_of hd, h⟩
  · cases h
theorem oV_s {v : Option Value} {k : Value → Option β} {r : β} (h : oV v k = some r) : ∃ w, v = some w ∧ k w = some r := by
  unfold oV at h; split at h
  · exact ⟨_, rfl, h⟩
  · cases h
theorem vI_s {v : Value} {k : Int32 → Option β} {r : β} (h : vI v k = some r) : ∃ x, v = .int x ∧ k x = some r := by
  unfold vI at h; split at h
  · exact ⟨_, rfl, h⟩
  · cases h
theorem vJ_s {v : Value} {k : Int64 → Option β} {r : β} (h : vJ v k = some r) : ∃ x, v = .long x ∧ k x = some r := by
  unfold vJ at h; split at h
  · exact ⟨_, rfl, h⟩
  · cases h
theorem vA_s {v : Value} {k : Nat → Option β} {r : β} (h : vA v k = some r) : ∃ x, v = .ref x ∧ k x = some r := by
  unfold vA at h; split at h
  · exact ⟨_, rfl, h⟩
  · cases h
theorem oN_s {α : Type} {v : Option α} {k : α → Option β} {r : β} (h : oN v k = some r) : ∃ w, v = some w ∧ k w = some r := by
  unfold oN at h; split at h
  · exact ⟨_, rfl, h⟩
  · cases h
theorem t1_s {ts : List Nat} {k : Nat → Option β} {r : β} (h : t1 ts k = some r) : ∃ t l, ts = t :: l ∧ k t = some r := by
  unfold t1 at h; split at h
  · exact ⟨_, _, rfl, h⟩
  · cases h
theorem bnd_s {α : Type} {v : Option α} {k : α → Option β} {r : β} (h : v.bind k = some r) : ∃ w, v = some w ∧ k w = some r := by
  cases v with
  | none => cases h
  | some w => exact ⟨w, rfl, h⟩
def swT (x : Int32) (k : Nat → Option β) (d : Nat) : Int → List Nat → Option β
  | _, [] => k d
  | v, t :: ts => if x = Int32.ofInt v then k t else swT x k d (v + 1) ts
def swL (x : Int32) (k : Nat → Option β) (d : Nat) : List (Int × Int) → List Nat → Option β
  | (a, _) :: ps, t :: ts => if x = Int32.ofInt a then k t else swL x k d ps ts
  | _, _ => k d
end POP
/-- what a field or a place of an object is, as a value -/
def fdx (σ : Wd) (k j : Nat) : Nat → Value
  | 0 => .int (σ.1 k j)
  | 1 => .long (σ.2 k j)
  | 2 => .int (σ.1 k j)
  | r + 3 => .ref r
theorem fdx_v (q : Nat → Nat) (σ : Wd) (k j d : Nat) : cv q (fdx σ k j d) = fdv q σ k j d := by
  match d with
  | 0 => rfl
  | 1 => rfl
  | 2 => rfl
  | r + 3 => rfl
section RUN
variable {β : Type}
def recOK (stat : Bool) (kd : Nat) (as : List Value) : Bool := match stat with
  | true => Nat.beq kd 0
  | false => (match as with
    | .ref a :: _ => Nat.blt 0 kd && (objf a (kd - 1)).isSome
    | _ => false)
def xcall (ct : List (Nat × Cal)) (sc : Scr) (nx : Nat) (vs st : List Value) (σ : Wd) (k : PK β) (ix : Nat) (stat : Bool) : Option β :=
  oN (fnd ct ix) fun e =>
    cond (Nat.ble e.1 st.length && Nat.ble ((st.drop e.1).map fun v => v.category).sum 8 && recOK stat e.2.1 (st.take e.1).reverse)
    (match e.2.2 with
      | .inl f => (f (st.take e.1).reverse σ).bind fun p => k nx vs (.int p.1 :: st.drop e.1) p.2
      | .inr (.inl f) => (f (st.take e.1).reverse σ).bind fun p => k nx vs (.long p.1 :: st.drop e.1) p.2
      | .inr (.inr f) => (f (st.take e.1).reverse σ).bind fun τ => k nx vs (st.drop e.1) τ)
    none
def xstep (ft : List (Nat × FTE)) (lt : List (Nat × Int64)) (ct : List (Nat × Cal)) (sc : Scr) (RI : Int32 → Wd → Option β) (RL : Int64 → Wd → Option β) (RV : Wd → Option β) (k : PK β) (ins : Instr) (nx : Nat) (ts : List Nat) (vs st : List Value) (σ : Wd) : Option β :=
  match ins with
  | .iconst n => k nx vs (.int (Int32.ofInt n) :: st) σ
  | .bipush n => k nx vs (.int (Int8.ofInt n).toInt32 :: st) σ
  | .sipush n => k nx vs (.int (Int16.ofInt n).toInt32 :: st) σ
  | .lconst n => k nx vs (.long (Int64.ofNat n) :: st) σ
  | .ldc2_w ix => cond (Nat.blt ix 100000) (oN (fnd lt ix) fun v => k nx vs (.long v :: st) σ) none
  | .ldc_w ix => oN (fnd lt (ix + 100000)) fun v => k nx vs (.int v.toInt32 :: st) σ
  | .iload n => oV vs[n]? fun v => vI v fun x => k nx vs (.int x :: st) σ
  | .iload_n n => oV vs[n.val]? fun v => vI v fun x => k nx vs (.int x :: st) σ
  | .lload n => oV vs[n]? fun v => vJ v fun x => k nx vs (.long x :: st) σ
  | .lload_n n => oV vs[n.val]? fun v => vJ v fun x => k nx vs (.long x :: st) σ
  | .aload n => oV vs[n]? fun v => vA v fun x => k nx vs (.ref x :: st) σ
  | .aload_n n => oV vs[n.val]? fun v => vA v fun x => k nx vs (.ref x :: st) σ
  | .istore n => pI st fun x r => cond (Nat.blt n vs.length) (k nx (st1 vs n (.int x)) r σ) none
  | .istore_n n => pI st fun x r => cond (Nat.blt n.val vs.length) (k nx (st1 vs n.val (.int x)) r σ) none
  | .lstore n => pJ st fun x r => cond (Nat.blt (n + 1) vs.length) (k nx (st2 vs n (.long x)) r σ) none
  | .lstore_n n => pJ st fun x r => cond (Nat.blt (n.val + 1) vs.length) (k nx (st2 vs n.val (.long x)) r σ) none
  | .astore n => pA st fun x r => cond (Nat.blt n vs.length) (k nx (st1 vs n (.ref x)) r σ) none
  | .astore_n n => pA st fun x r => cond (Nat.blt n.val vs.length) (k nx (st1 vs n.val (.ref x)) r σ) none
  | .iinc n d => oV vs[n]? fun v => vI v fun x => cond (Nat.blt n vs.length) (k nx (st1 vs n (.int (x + Int32.ofInt d))) st σ) none
  | .iadd => pII st fun x y r => k nx vs (.int (x + y) :: r) σ
  | .isub => pII st fun x y r => k nx vs (.int (x - y) :: r) σ
  | .imul => pII st fun x y r => k nx vs (.int (x * y) :: r) σ
  | .idiv => pII st fun x y r => if y = 0 then none else k nx vs (.int (x / y) :: r) σ
  | .irem => pII st fun x y r => if y = 0 then none else k nx vs (.int (x - x / y * y) :: r) σ
  | .iand => pII st fun x y r => k nx vs (.int (x &&& y) :: r) σ
  | .ior => pII st fun x y r => k nx vs (.int (x ||| y) :: r) σ
  | .ixor => pII st fun x y r => k nx vs (.int (x ^^^ y) :: r) σ
  | .ishl => pII st fun x y r => k nx vs (.int (x <<< (y &&& 31)) :: r) σ
  | .ishr => pII st fun x y r => k nx vs (.int (x >>> (y &&& 31)) :: r) σ
  | .iushr => pII st fun x y r => k nx vs (.int (x.toUInt32 >>> (y.toUInt32 &&& Int32.toUInt32 31)).toInt32 :: r) σ
  | .ladd => pJJ st fun x y r => k nx vs (.long (x + y) :: r) σ
  | .lsub => pJJ st fun x y r => k nx vs (.long (x - y) :: r) σ
  | .lmul => pJJ st fun x y r => k nx vs (.long (x * y) :: r) σ
  | .land => pJJ st fun x y r => k nx vs (.long (x &&& y) :: r) σ
  | .lor => pJJ st fun x y r => k nx vs (.long (x ||| y) :: r) σ
  | .lcmp => pJJ st fun x y r => k nx vs (.int (lg_cmp x y) :: r) σ
  | .lshl => pJI st fun x y r => k nx vs (.long (x <<< (y.toInt64 &&& 63)) :: r) σ
  | .lushr => pJI st fun x y r => k nx vs (.long (x.toUInt64 >>> (y.toInt64.toUInt64 &&& Int64.toUInt64 63)).toInt64 :: r) σ
  | .i2l => pI st fun x r => k nx vs (.long x.toInt64 :: r) σ
  | .l2i => pJ st fun x r => k nx vs (.int x.toInt32 :: r) σ
  | .i2b => pI st fun x r => k nx vs (.int x.toInt8.toInt32 :: r) σ
  | .dup => pV st fun v r => k nx vs (v :: v :: r) σ
  | .dup2 => pVV st fun v w r => k nx vs (v :: w :: v :: w :: r) σ
  | .goto _ => t1 ts fun t => k t vs st σ
  | .ifCond c _ => t1 ts fun t => pI st fun x r => match c with
    | .eq => if x = 0 then k t vs r σ else k nx vs r σ
    | .ne => if x = 0 then k nx vs r σ else k t vs r σ
    | .lt => if x < 0 then k t vs r σ else k nx vs r σ
    | .ge => if 0 ≤ x then k t vs r σ else k nx vs r σ
    | .gt => if 0 < x then k t vs r σ else k nx vs r σ
    | .le => if x ≤ 0 then k t vs r σ else k nx vs r σ
  | .if_icmp c _ => t1 ts fun t => pII st fun x y r => match c with
    | .eq => if x = y then k t vs r σ else k nx vs r σ
    | .ne => if x = y then k nx vs r σ else k t vs r σ
    | .lt => if x < y then k t vs r σ else k nx vs r σ
    | .ge => if y ≤ x then k t vs r σ else k nx vs r σ
    | .gt => if y < x then k t vs r σ else k nx vs r σ
    | .le => if x ≤ y then k t vs r σ else k nx vs r σ
  | .tableswitch _ lo _ _ => pI st fun x r => (match ts with
    | d :: tl => swT x (fun t => k t vs r σ) d lo tl
    | [] => none)
  | .lookupswitch _ ps => pI st fun x r => (match ts with
    | d :: tl => swL x (fun t => k t vs r σ) d ps.toList tl
    | [] => none)
  | .getfield ix => oN (fnd ft ix) fun e => pA st fun a r => oN (objf a e.1) fun fds => oN fds[e.2.1]? fun d => k nx vs (fdx σ a e.2.1 d :: r) σ
  | .putfield ix => oN (fnd ft ix) fun e => pVA st fun v a r => oN (objf a e.1) fun fds => oN fds[e.2.1]? fun d => (match d with
    | 0 => vI v fun x => k nx vs r (sF σ a e.2.1 x)
    | 1 => vJ v fun x => k nx vs r (sG σ a e.2.1 x)
    | 2 => vI v fun x => if x = 0 ∨ x = 1 then k nx vs r (sF σ a e.2.1 x) else none
    | _ + 3 => none)
  | .iaload => pAI st fun a i r => (match arrn a 0 with
    | some n => (xld σ a n i).bind fun v => k nx vs (.int v :: r) σ
    | none => cond (Nat.beq a 999) ((xsc sc i).bind fun v => k nx vs (.int v :: r) σ) none)
  | .baload => pAI st fun a i r => oN (arrn a 2) fun n => (xld σ a n i).bind fun v => k nx vs (.int v :: r) σ
  | .laload => pAI st fun a i r => oN (arrn a 1) fun n => (xldL σ a n i).bind fun v => k nx vs (.long v :: r) σ
  | .aaload => pAI st fun a i r => oN (arrn a 3) fun _ => if i = 0 then k nx vs (.ref 9 :: r) σ else if i = 1 then k nx vs (.ref 10 :: r) σ else if i = 2 then k nx vs (.ref 11 :: r) σ else if i = 3 then k nx vs (.ref 12 :: r) σ else none
  | .iastore => pAII st fun a i x r => oN (arrn a 0) fun n => (xst σ a n i x).bind fun τ => k nx vs r τ
  | .bastore => pAII st fun a i x r => oN (arrn a 2) fun n => (xstZ σ a n i x).bind fun τ => k nx vs r τ
  | .lastore => pAIJ st fun a i x r => oN (arrn a 1) fun n => (xstL σ a n i x).bind fun τ => k nx vs r τ
  | .arraylength => pA st fun a r => cond (Nat.beq a 999 && Nat.blt 0 sc.1) (k nx vs (.int (Int32.ofNat (sc.1 - 1)) :: r) σ) none
  | .invokevirtual ix => xcall ct sc nx vs st σ k ix false
  | .invokestatic ix => xcall ct sc nx vs st σ k ix true
  | .ireturn => (match st with
    | [.int v] => RI v σ
    | _ => none)
  | .lreturn => (match st with
    | [.long v] => RL v σ
    | _ => none)
  | .return_ => (match st with
    | [] => RV σ
    | _ => none)
  | _ => none
def inC (cuts : List Nat) (pc : Nat) : Bool := cuts.any (Nat.beq pc)
def xrun (T : List (Nat × Ent)) (ft : List (Nat × FTE)) (lt : List (Nat × Int64)) (ct : List (Nat × Cal)) (sc : Scr) (RI : Int32 → Wd → Option β) (RL : Int64 → Wd → Option β) (RV : Wd → Option β) (cuts : List Nat) (K : PK β) : Nat → PK β
  | 0 => fun _ _ _ _ => none
  | n + 1 => fun pc vs st σ => oN (fnd T pc) fun e => xstep ft lt ct sc RI RL RV (fun pc' vs' st' σ' => cond (inC cuts pc') (K pc' vs' st' σ') (xrun T ft lt ct sc RI RL RV cuts K n pc' vs' st' σ')) e.1 e.2.1 e.2.2 vs st σ
end RUN
end
section
-- what the small machine computes, the machine does
def AQ (q : Nat → Nat) : Nat → Prop := fun a => ∃ k, k < NC ∧ a = q k
def QI (q : Nat → Nat) : Prop := ∀ i j, i < NC → j < NC → q i = q j → i = j
theorem sh_lt {k : Nat} {e : ShE} (h : SH[k]? = some e) : k < NC := (List.getElem?_eq_some_iff.mp h).1
theorem wls_at {q : Nat → Nat} {cy : Nat → ClassId} {σ : Wd} {k : Nat} {e : ShE} (h : SH[k]? = some e) : (wls q cy σ)[k]? = some (q k, celle q cy σ k e) := by rw [wls_get, h]; rfl
theorem wls_D {q : Nat → Nat} (hq : QI q) (cy : Nat → ClassId) (σ : Wd) : va_D (AQ q) (wls q cy σ) := by
  have g : ∀ (i : Nat) (p : Nat × va_E), (wls q cy σ)[i]? = some p → i < NC ∧ p.1 = q i := by
    intro i p h
    rw [wls_get] at h
    cases hs : SH[i]? with
    | none => rw [hs] at h; cases h
    | some e => rw [hs] at h; cases h; exact ⟨sh_lt hs, rfl⟩
  refine ⟨fun i j p r h1 h2 he => ?_, fun k p h => ?_⟩
  · obtain ⟨a1, a2⟩ := g i p h1
    obtain ⟨b1, b2⟩ := g j r h2
    exact hq i j a1 b1 (by rw [← a2, ← b2, he])
  · obtain ⟨a1, a2⟩ := g k p h
    exact ⟨k, a1, a2⟩
def rmL (lvl : Nat) : Room := { frames := lvl, cells := 0, slots := 0, locals := 64 * lvl }
def wsM (y : MethodName) (bytes : ByteArray) (maxL : Nat) (ret : Option FieldType) : List Cond := .code y bytes maxL ret :: WT
def PcX (D : va_G) (q : Nat → Nat) (cy : Nat → ClassId) (as : List Value) (σ : Wd) : Array Value → State → Prop := va_Pc (as.map (cv q)) (fun U => va_P D clsL (wls q cy σ) U.heap ∧ va_K D clsL (tysL cy) U)
def BX (D : va_G) (q : Nat → Nat) (cy : Nat → ClassId) (u : Wd) (t : State) : Prop := va_P D clsL (wls q cy u) t.heap ∧ va_K D clsL (tysL cy) t
theorem PcX_blind {D : va_G} {q : Nat → Nat} {cy : Nat → ClassId} {as : List Value} {σ : Wd} : FrameBlind (PcX D q cy as σ) := fun a U g mk h => ⟨h.1, h.2.1, va_K.moved (u := U) (U := U.calling g mk a) (Vm.Alike.refl U.vm) h.2.2⟩
def CTI (lvl : Nat) (y : MethodName) (bytes : ByteArray) (maxL : Nat) (ret : Option FieldType) (f : List Value → Wd → Option (Int32 × Wd)) : Prop :=
  ∀ (l : Launch) (D : va_G) (q : Nat → Nat) (cy : Nat → ClassId), QI q → ∀ (as : List Value) (σ : Wd) (r : Int32) (τ : Wd), f as σ = some (r, τ) → Met l y (wsM y bytes maxL ret) (rmL lvl) (PcX D q cy as σ) (va_Qi (fun (r' : Int32) (u : Wd) => r' = r ∧ u = τ) (BX D q cy) (AQ q)) 0 0 (AQ q)
def CTL (lvl : Nat) (y : MethodName) (bytes : ByteArray) (maxL : Nat) (ret : Option FieldType) (f : List Value → Wd → Option (Int64 × Wd)) : Prop :=
  ∀ (l : Launch) (D : va_G) (q : Nat → Nat) (cy : Nat → ClassId), QI q → ∀ (as : List Value) (σ : Wd) (r : Int64) (τ : Wd), f as σ = some (r, τ) → Met l y (wsM y bytes maxL ret) (rmL lvl) (PcX D q cy as σ) (va_Ql (fun (r' : Int64) (u : Wd) => r' = r ∧ u = τ) (BX D q cy) (AQ q)) 0 0 (AQ q)
def CTV (lvl : Nat) (y : MethodName) (bytes : ByteArray) (maxL : Nat) (ret : Option FieldType) (f : List Value → Wd → Option Wd) : Prop :=
  ∀ (l : Launch) (D : va_G) (q : Nat → Nat) (cy : Nat → ClassId), QI q → ∀ (as : List Value) (σ τ : Wd), f as σ = some τ → Met l y (wsM y bytes maxL ret) (rmL lvl) (PcX D q cy as σ) (va_Qv (fun u : Wd => u = τ) (BX D q cy) (AQ q)) 0 0 (AQ q)
def ltchk (own : String) (e : Nat × Int64) : Bool := cond (Nat.blt e.1 100000) (inT (.constantLong own e.1 e.2)) (inT (.constant own (e.1 - 100000) e.2.toInt32))
def nar : Nat → Nat → Nat
  | 0, na => na
  | _ + 1, na => na - 1
def calchk (own : String) (ix na kd : Nat) (y : MethodName) (bytes : ByteArray) (maxL : Nat) (ret : Option FieldType) : Bool :=
  inT (.methodLink own ix y) && inT (.code y bytes maxL ret) && inT (.initialized y.cls) && (match kd with
    | 0 => inT (.static y)
    | c + 1 => inT (.instanceMethod y) && inT (.selects y.cls y y) && decide (clsL[c]?.map (·.1) = some y.cls)) && Nat.ble maxL 45 && decide (y.cls ≠ "java/lang/invoke/MethodHandle") && decide (y.cls ≠ "java/lang/invoke/VarHandle") && decide ((parseMethodDescriptor y.desc).map (fun d => d.parameters.length) = some (nar kd na)) && (match kd with | 0 => true | _ + 1 => Nat.blt 0 na)
def imax (x y : Int32) : Int32 := if x < y then y else x
def imin (x y : Int32) : Int32 := if y < x then y else x
def amax : List Value → Wd → Option (Int32 × Wd) := fun as σ => match as with
  | [.int x, .int y] => some (imax x y, σ)
  | _ => none
def amin : List Value → Wd → Option (Int32 × Wd) := fun as σ => match as with
  | [.int x, .int y] => some (imin x y, σ)
  | _ => none
def mmchk (own : String) (ix : Nat) (y : MethodName) (bytes : ByteArray) : Bool := inT (.methodLink own ix y) && inT (.code y bytes 2 (some .int)) && inT (.initialized "java/lang/Math") && inT (.static y)
def CalG (lvl : Nat) (own : String) (e : Nat × Cal) : Prop := ∃ (y : MethodName) (bytes : ByteArray) (maxL : Nat) (ret : Option FieldType) (lv : Nat), calchk own e.1 e.2.1 e.2.2.1 y bytes maxL ret = true ∧ lv + 1 ≤ lvl ∧ (match e.2.2.2 with
  | .inl f => CTI lv y bytes maxL ret f
  | .inr (.inl f) => CTL lv y bytes maxL ret f
  | .inr (.inr f) => CTV lv y bytes maxL ret f)
def CalOK (lvl : Nat) (own : String) (e : Nat × Cal) : Prop := CalG lvl own e ∨ (e.2 = (2, 0, .inl amax) ∧ mmchk own e.1 Lib.Math.max.name Lib.Math.max.code = true ∧ 1 ≤ lvl) ∨ (e.2 = (2, 0, .inl amin) ∧ mmchk own e.1 Lib.Math.min.name Lib.Math.min.code = true ∧ 1 ≤ lvl)
def lenOf : Instr → Nat
  | .iconst _ => 1 | .bipush _ => 2 | .sipush _ => 3 | .lconst _ => 1 | .ldc2_w _ => 3 | .ldc_w _ => 3
  | .iload _ => 2 | .iload_n _ => 1 | .lload _ => 2 | .lload_n _ => 1 | .aload _ => 2 | .aload_n _ => 1
  | .istore _ => 2 | .istore_n _ => 1 | .lstore _ => 2 | .lstore_n _ => 1 | .astore _ => 2 | .astore_n _ => 1
  | .iinc _ _ => 3 | .goto _ => 3 | .ifCond _ _ => 3 | .if_icmp _ _ => 3
  | .getfield _ => 3 | .putfield _ => 3 | .invokevirtual _ => 3 | .invokestatic _ => 3
  | .tableswitch _ _ _ _ => 0 | .lookupswitch _ _ => 0
  | _ => 1
def zipok (pc : Nat) : List Int → List Nat → Bool
  | [], [] => true
  | o :: os, t :: ts => decide ((pc : Int) + o = (t : Int)) && zipok pc os ts
  | _, _ => false
def chk (cc : ByteArray) (e : Nat × Ent) : Bool := match e.2.1 with
  | .tableswitch d lo hi offs => decide (decode cc e.1 = .ok (e.2.1, e.2.2.1 - e.1)) && zipok e.1 (d :: offs.toList) e.2.2.2 && decide (-100 ≤ lo) && decide (hi ≤ 1000) && decide ((offs.size : Int) = hi - lo + 1)
  | .lookupswitch d ps => decide (decode cc e.1 = .ok (e.2.1, e.2.2.1 - e.1)) && zipok e.1 (d :: ps.toList.map (·.2)) e.2.2.2 && (ps.toList.zip (ps.toList.drop 1)).all (fun (a, next) => a.1 < next.1) && ps.toList.all (fun z => decide (-100 ≤ z.1) && decide (z.1 ≤ 1000))
  | .goto o => decide (decode cc e.1 = .ok (e.2.1, lenOf e.2.1)) && Nat.beq e.2.2.1 (e.1 + lenOf e.2.1) && zipok e.1 [o] e.2.2.2
  | .ifCond _ o => decide (decode cc e.1 = .ok (e.2.1, lenOf e.2.1)) && Nat.beq e.2.2.1 (e.1 + lenOf e.2.1) && zipok e.1 [o] e.2.2.2
  | .if_icmp _ o => decide (decode cc e.1 = .ok (e.2.1, lenOf e.2.1)) && Nat.beq e.2.2.1 (e.1 + lenOf e.2.1) && zipok e.1 [o] e.2.2.2
  | _ => decide (decode cc e.1 = .ok (e.2.1, lenOf e.2.1)) && Nat.beq e.2.2.1 (e.1 + lenOf e.2.1)
/-- a row of the field table: its link, its class and place, whether it can be written (0 int, 1 long, 2 boolean; 3: no) -/
def fldchk (own : String) (e : Nat × FTE) : Bool := match clsL[e.2.1]? with
  | none => false
  | some r => Nat.blt e.2.2.1 r.2.2 && inT (.fieldLink own e.1 (r.2.1 e.2.2.1).1 (r.2.1 e.2.2.1).2.1 (r.2.1 e.2.2.1).2.2.1) && (match e.2.2.2 with
    | 0 => decide ((r.2.1 e.2.2.1).2.2.1 = "I") && !(r.2.1 e.2.2.1).2.2.2
    | 1 => decide ((r.2.1 e.2.2.1).2.2.1 = "J") && !(r.2.1 e.2.2.1).2.2.2
    | 2 => decide ((r.2.1 e.2.2.1).2.2.1 = "Z") && !(r.2.1 e.2.2.1).2.2.2
    | _ + 3 => true)
/-- the shape's codes fit the field table's: place j of a cell of class ci has that code, if the table's is below 3 -/
def shchk (e : Nat × FTE) : Bool := SH.all fun s => match s with
  | .inl (c, fds) => !(Nat.beq c e.2.1) || (match fds[e.2.2.1]? with
    | none => false
    | some d => (Nat.ble 3 d && Nat.ble 3 e.2.2.2) || Nat.beq d e.2.2.2)
  | .inr _ => true
end
section
section SOUND
variable {β : Type} {p : Program} {l : Launch} {e : Env} {R : Room} {s : State} {m : MethodId} {args : Array Value} {below : List Frame} {meth : Method} {c : Code} {cells slots : Nat} {Q : State → Prop}
/-- what holds all through a method -/
def XC (p : Program) (R : Room) (s : State) (m : MethodId) (args : Array Value) (c : Code) (cc : ByteArray) (own : String) (nL : Nat) (D : va_G) (q : Nat → Nat) (cy : Nat → ClassId) (A : Nat → Prop) (sc : Scr) (lvl cells slots : Nat) : Prop :=
  p.tables.exec = Jvm.exec ∧ c.code = cc ∧ c.maxLocals = nL ∧ s.vm.findClass own = some m.cls ∧ (∀ w ∈ WT, w.before args s = true) ∧ va_K D clsL (tysL cy) s ∧ QI q ∧ (sc.1 = 0 ∨ (va_X (q 999) (sc.1 - 1) sc.2 s s.heap ∧ q 999 < s.heap.size ∧ ¬ A (q 999))) ∧ lvl ≤ R.frames ∧ 64 * lvl ≤ R.locals ∧ cells ≤ R.cells ∧ slots ≤ R.slots ∧ (∀ x, AQ q x → A x)
def WG (p : Program) (l : Launch) (e : Env) (R : Room) (s : State) (m : MethodId) (args : Array Value) (below : List Frame) (meth : Method) (c : Code) (nL : Nat) (D : va_G) (q : Nat → Nat) (cy : Nat → ClassId) (A : Nat → Prop) (cells slots : Nat) (Q : State → Prop) (r0 : β) (o : Option β) (pc : Nat) (vs st : List Value) (σ : Wd) : Prop :=
  o = some r0 → ∀ (H : Heap) (locs : List Loc) (ls : Array Slot), va_P D clsL (wls q cy σ) H → va_S A s.heap H locs → LH q ls nL vs → W p l e R s m args below meth c H locs cells slots Q (F0 m pc ls (st.map (cv q)))
theorem toI {n : Int} (h1 : -100 ≤ n) (h2 : n ≤ 1000) : (Int32.ofInt n).toInt = n := by
  rw [Int32.toInt_ofInt]
  have hs : (Int32.size : Int) = 4294967296 := by decide
  exact Int.bmod_eq_of_le (by omega) (by omega)
theorem zip_get {pc : Nat} : ∀ {os : List Int} {ts : List Nat} {i t : Nat}, zipok pc os ts = true → ts[i]? = some t → ∃ o, os[i]? = some o ∧ (pc : Int) + o = (t : Int)
  | [], [], i, t, h, ht => by simp at ht
  | [], _ :: _, i, t, h, ht => by simp [zipok] at h
  | _ :: _, [], i, t, h, ht => by simp at ht
  | o :: os, u :: ts, 0, t, h, ht => by
    simp only [zipok, Bool.and_eq_true, decide_eq_true_eq] at h
    simp at ht
    exact ⟨o, rfl, by rw [← ht]; exact h.1⟩
  | o :: os, u :: ts, i + 1, t, h, ht => by
    simp only [zipok, Bool.and_eq_true, decide_eq_true_eq] at h
    rw [List.getElem?_cons_succ] at ht ⊢
    exact zip_get (i := i) h.2 ht
theorem zip_len {pc : Nat} : ∀ {os : List Int} {ts : List Nat}, zipok pc os ts = true → os.length = ts.length
  | [], [], h => rfl
  | [], _ :: _, h => by simp [zipok] at h
  | _ :: _, [], h => by simp [zipok] at h
  | o :: os, u :: ts, h => by
    simp only [zipok, Bool.and_eq_true, decide_eq_true_eq] at h
    simp [zip_len h.2]
theorem swT_ok {x : Int32} {k : Nat → Option β} {d : Nat} {r : β} : ∀ (tl : List Nat) (v : Int), -100 ≤ v → v + tl.length ≤ 1001 → swT x k d v tl = some r → (∃ (i t : Nat), tl[i]? = some t ∧ x.toInt = v + i ∧ k t = some r) ∨ ((∀ i : Nat, i < tl.length → x.toInt ≠ v + i) ∧ k d = some r)
  | [], v, h1, h2, h => Or.inr ⟨fun i hi => absurd hi (Nat.not_lt_zero i), h⟩
  | t :: tl, v, h1, h2, h => by
    simp only [List.length_cons] at h2
    unfold swT at h
    by_cases hx : x = Int32.ofInt v
    · rw [if_pos hx] at h
      exact Or.inl ⟨0, t, rfl, by rw [hx, toI h1 (by omega)]; simp, h⟩
    · rw [if_neg hx] at h
      rcases swT_ok tl (v + 1) (by omega) (by omega) h with ⟨i, t', a1, a2, a3⟩ | ⟨a1, a2⟩
      · exact Or.inl ⟨i + 1, t', by simpa using a1, by rw [a2]; push_cast; omega, a3⟩
      · refine Or.inr ⟨fun i hi => ?_, a2⟩
        match i with
        | 0 =>
          intro he
          apply hx
          apply Int32.toInt_inj.mp
          rw [toI h1 (by omega), he]; simp
        | i + 1 =>
          have := a1 i (by simp at hi; omega)
          intro he
          apply this
          rw [he]; push_cast; omega
theorem swL_ok {x : Int32} {k : Nat → Option β} {d pc : Nat} {dflt : Int} {r : β} (hd : (pc : Int) + dflt = (d : Int)) : ∀ (ps : List (Int × Int)) (tl : List Nat), (ps.all (fun z => decide (-100 ≤ z.1) && decide (z.1 ≤ 1000))) = true → zipok pc (ps.map (·.2)) tl = true → swL x k d ps tl = some r → ∃ (off : Int) (t : Nat), Op.lookupswitch.offset ps dflt x.toInt = off ∧ (pc : Int) + off = (t : Int) ∧ k t = some r
  | [], [], h1, h2, h => ⟨dflt, d, Op.lookupswitch.offset_nil _ _, hd, h⟩
  | [], _ :: _, h1, h2, h => by simp [zipok] at h2
  | _ :: _, [], h1, h2, h => by simp [zipok] at h2
  | (a, o) :: ps, t :: tl, h1, h2, h => by
    simp only [List.all_cons, Bool.and_eq_true, decide_eq_true_eq] at h1
    simp only [List.map_cons, zipok, Bool.and_eq_true, decide_eq_true_eq] at h2
    unfold swL at h
    rw [Op.lookupswitch.offset_cons]
    by_cases hx : x = Int32.ofInt a
    · rw [if_pos hx] at h
      exact ⟨o, t, by rw [if_pos (by rw [hx, toI h1.1.1 h1.1.2])], h2.1, h⟩
    · rw [if_neg hx] at h
      rw [if_neg (fun he => hx (Int32.toInt_inj.mp (by rw [toI h1.1.1 h1.1.2, he])))]
      exact swL_ok hd ps tl h1.2 h2.2 h
variable {cc : ByteArray} {own : String} {nL : Nat} {D : va_G} {q : Nat → Nat} {cy : Nat → ClassId} {A : Nat → Prop} {sc : Scr} {lvl : Nat} {r0 : β}
theorem LH.at {q : Nat → Nat} {ls : Array Slot} {nL : Nat} {vs : List Value} {n : Nat} {v : Value} (h : LH q ls nL vs) (hv : vs[n]? = some v) (hn : v ≠ .null) : ls[n]? = some (.val (cv q v)) := h.2.2 n v hv hn
theorem blt_of {a b : Nat} (h : Nat.blt a b = true) : a < b := Nat.le_of_ble_eq_true h
/-- a stored int or reference -/
theorem xs_call {ct : List (Nat × Cal)} (C : XC p R s m args c cc own nL D q cy A sc lvl cells slots) (hct : ∀ e ∈ ct, CalOK lvl own e) {k : PK β} (hk : ∀ pc vs st σ, vs.length = nL → WG p l e R s m args below meth c nL D q cy A cells slots Q r0 (k pc vs st σ) pc vs st σ) {pc ix : Nat} {stat : Bool} {vs st : List Value} {σ : Wd} (hnL : vs.length = nL) (hd : decode cc pc = .ok (cond stat (.invokestatic ix) (.invokevirtual ix), 3)) : WG p l e R s m args below meth c nL D q cy A cells slots Q r0 (xcall ct sc (pc + 3) vs st σ k ix stat) pc vs st σ := by
  intro h H locs ls hP hS hL
  obtain ⟨hx, hb, hml, hown, hts, hK, hq, -, hfr, hlo, hce, hsl, hAQ⟩ := C
  unfold xcall at h
  obtain ⟨⟨na, kd, fn⟩, hf, h1⟩ := oN_s h
  clear h
  cases hcnd : (Nat.ble na st.length && Nat.ble ((st.drop na).map fun v => v.category).sum 8 && recOK stat kd (st.take na).reverse) with
  | false => dsimp only at h1; rw [hcnd] at h1; cases h1
  | true =>
    dsimp only at h1
    rw [hcnd, cond_true] at h1
    simp only [Bool.and_eq_true] at hcnd
    obtain ⟨⟨hna, hcat⟩, hrec⟩ := hcnd
    have hna := Nat.le_of_ble_eq_true hna
    have hcat := Nat.le_of_ble_eq_true hcat
    have hsize : ls.size = nL := hL.1
    rcases hct _ (fnd_mem _ _ _ hf) with hG | ⟨he, hm, hl1⟩ | ⟨he, hm, hl1⟩
    rotate_left
    · cases he
      dsimp only at h1
      obtain ⟨⟨r, τ⟩, hr, h2⟩ := bnd_s h1
      have hstk : st = (st.take 2).reverse.reverse ++ st.drop 2 := by rw [List.reverse_reverse, List.take_append_drop]
      generalize (st.take 2).reverse = as at hr hstk
      generalize st.drop 2 = rest at h2 hstk hcat
      unfold amax at hr
      split at hr
      · rename_i x y
        cases hr
        subst hstk
        have hcat2 : ((rest.map (cv q)).map fun v => v.category).sum ≤ 8 := by
          rw [List.map_map, show ((fun v : Value => v.category) ∘ cv q) = (fun v : Value => v.category) from funext fun v => cv_cat q v]
          exact Nat.le_of_ble_eq_true hcat
        simp only [mmchk, Bool.and_eq_true] at hm
        cases stat with
        | false => simp [recOK] at hrec
        | true => exact va_mmax (rest := rest.map (cv q)) hx hb (hml.trans hsize.symm) hown (hts _ (inT_mem hm.1.1.1)) (hts _ (inT_mem hm.2)) (hts _ (inT_mem hm.1.2)) (hts _ (inT_mem hm.1.1.2)) (by omega) (by omega) (by omega) (by omega) hd (hk _ _ _ _ hnL h2 H locs ls hP hS hL)
      · cases hr
    · cases he
      dsimp only at h1
      obtain ⟨⟨r, τ⟩, hr, h2⟩ := bnd_s h1
      have hstk : st = (st.take 2).reverse.reverse ++ st.drop 2 := by rw [List.reverse_reverse, List.take_append_drop]
      generalize (st.take 2).reverse = as at hr hstk
      generalize st.drop 2 = rest at h2 hstk hcat
      unfold amin at hr
      split at hr
      · rename_i x y
        cases hr
        subst hstk
        have hcat2 : ((rest.map (cv q)).map fun v => v.category).sum ≤ 8 := by
          rw [List.map_map, show ((fun v : Value => v.category) ∘ cv q) = (fun v : Value => v.category) from funext fun v => cv_cat q v]
          exact Nat.le_of_ble_eq_true hcat
        simp only [mmchk, Bool.and_eq_true] at hm
        cases stat with
        | false => simp [recOK] at hrec
        | true => exact va_mmin (rest := rest.map (cv q)) hx hb (hml.trans hsize.symm) hown (hts _ (inT_mem hm.1.1.1)) (hts _ (inT_mem hm.2)) (hts _ (inT_mem hm.1.2)) (hts _ (inT_mem hm.1.1.2)) (by omega) (by omega) (by omega) (by omega) hd (hk _ _ _ _ hnL h2 H locs ls hP hS hL)
      · cases hr
    obtain ⟨y, bytes, maxL, ret, lv, hchk, hlv, hCT⟩ := hG
    dsimp only at hchk hCT
    simp only [calchk, Bool.and_eq_true, decide_eq_true_eq] at hchk
    obtain ⟨⟨⟨⟨⟨⟨⟨⟨w1, w2⟩, w3⟩, w4⟩, w5⟩, w6⟩, w7⟩, w8⟩, w9⟩ := hchk
    have w5 := Nat.le_of_ble_eq_true w5
    generalize has : (st.take na).reverse = as at h1 hrec
    have hlen : as.length = na := by rw [← has, List.length_reverse, List.length_take]; omega
    have hst : st = as.reverse ++ st.drop na := by rw [← has, List.reverse_reverse, List.take_append_drop]
    generalize st.drop na = rest at h1 hst hcat
    have hcat2 : ((rest.map (cv q)).map fun v => v.category).sum ≤ 8 := by
      rw [List.map_map, show ((fun v : Value => v.category) ∘ cv q) = (fun v : Value => v.category) from funext fun v => cv_cat q v]
      exact hcat
    have hwsm : ∀ w ∈ wsM y bytes maxL ret, w ∈ WT := fun w hw => by
      rcases List.mem_cons.mp hw with rfl | hw
      · exact inT_mem w2
      · exact hw
    have hlvl1 : (rmL lv).frames + 1 ≤ R.frames := Nat.le_trans hlv hfr
    have hlvl2 : 8 + (maxL + 11) + (rmL lv).locals ≤ R.locals := by
      show 8 + (maxL + 11) + 64 * lv ≤ R.locals
      omega
    have hHS := hS.1
    have hpre : ∀ (U : State), U.heap = H → s.WarmedH U.vm → PcX D q cy as σ (as.map (cv q)).toArray U := fun U hU hW => ⟨rfl, by rw [hU]; exact hP, va_K.moved hW.alike hK⟩
    have hcb : (hdp : (parseMethodDescriptor y.desc).map (fun d => d.parameters.length) = some (nar kd na)) → CallB R s args own ix y bytes maxL ret (wsM y bytes maxL ret) (rmL lv) 0 0 (nar kd na) := fun hdp =>
      callB_of _ hts (gi_wt hwsm) rfl rfl rfl (hts _ (inT_mem w3)) (hts _ (inT_mem w1)) ⟨w6, w7, hdp⟩ ⟨hlvl1, hlvl2⟩
    cases stat with
    | true =>
      have hkd : kd = 0 := Nat.eq_of_beq_eq_true hrec
      subst hkd
      dsimp only at w4 w8
      have hstk : st.map (cv q) = (as.map (cv q)).reverse ++ rest.map (cv q) := by rw [hst, List.map_append, List.map_reverse]
      match fn, h1, hCT with
      | .inl f, h2, hCT =>
        obtain ⟨⟨r, τ⟩, hr, h3⟩ := bnd_s h2
        refine va_calli (va_runS (As := as.map (cv q)) (rest := rest.map (cv q)) ⟨hx, hb, hml, hown, hts⟩ (hCT l D q cy hq as σ r τ hr) ⟨hcb w8, hts _ (inT_mem w4)⟩ ⟨PcX_blind, hpre⟩ rfl (by rw [List.length_map]; exact hlen) hsize hstk (lv_room hcat2) hd ⟨hce, hsl⟩) hS (fun _ _ z => hAQ _ z) (fun _ z => hAQ _ z) (fun r' u t H1 locs1 ht hvm hp hB hz hk1 hS1 => ?_)
        obtain ⟨rfl, rfl⟩ := hp
        exact hk _ _ _ _ hnL h3 H1 locs1 ls (by rw [← ht]; exact hB.1) hS1 hL
      | .inr (.inl f), h2, hCT =>
        obtain ⟨⟨r, τ⟩, hr, h3⟩ := bnd_s h2
        refine va_calll (va_runS (As := as.map (cv q)) (rest := rest.map (cv q)) ⟨hx, hb, hml, hown, hts⟩ (hCT l D q cy hq as σ r τ hr) ⟨hcb w8, hts _ (inT_mem w4)⟩ ⟨PcX_blind, hpre⟩ rfl (by rw [List.length_map]; exact hlen) hsize hstk (lv_room hcat2) hd ⟨hce, hsl⟩) hS (fun _ _ z => hAQ _ z) (fun _ z => hAQ _ z) (fun r' u t H1 locs1 ht hvm hp hB hz hk1 hS1 => ?_)
        obtain ⟨rfl, rfl⟩ := hp
        exact hk _ _ _ _ hnL h3 H1 locs1 ls (by rw [← ht]; exact hB.1) hS1 hL
      | .inr (.inr f), h2, hCT =>
        obtain ⟨τ, hr, h3⟩ := bnd_s h2
        refine va_callv (va_runS (As := as.map (cv q)) (rest := rest.map (cv q)) ⟨hx, hb, hml, hown, hts⟩ (hCT l D q cy hq as σ τ hr) ⟨hcb w8, hts _ (inT_mem w4)⟩ ⟨PcX_blind, hpre⟩ rfl (by rw [List.length_map]; exact hlen) hsize hstk (lv_room hcat2) hd ⟨hce, hsl⟩) hS (fun _ _ z => hAQ _ z) (fun _ z => hAQ _ z) (fun u t H1 locs1 ht hvm hp hB hz hk1 hS1 => ?_)
        subst hp
        exact hk _ _ _ _ hnL h3 H1 locs1 ls (by rw [← ht]; exact hB.1) hS1 hL
    | false =>
      match as, hrec with
      | .ref a :: as', hrec =>
        simp only [recOK, Bool.and_eq_true] at hrec
        obtain ⟨hk0, hob⟩ := hrec
        obtain ⟨ci, rfl⟩ : ∃ ci, kd = ci + 1 := ⟨kd - 1, by have := blt_of hk0; omega⟩
        obtain ⟨fds, hfd⟩ := Option.isSome_iff_exists.mp hob
        have hsh := objf_sh hfd
        simp only [Nat.add_sub_cancel] at hsh
        dsimp only at w4 w8
        simp only [Bool.and_eq_true, decide_eq_true_eq] at w4
        obtain ⟨⟨w4a, w4b⟩, w4c⟩ := w4
        have hlen' : as'.length = na - 1 := by simp at hlen; omega
        have hstk : st.map (cv q) = (as'.map (cv q)).reverse ++ .ref (q a) :: rest.map (cv q) := by
          rw [hst]
          simp [cv]
        obtain ⟨rc, hrc, hrn⟩ : ∃ rc, clsL[ci]? = some rc ∧ rc.1 = y.cls := by
          cases hcl : clsL[ci]? with
          | none => rw [hcl] at w4c; cases w4c
          | some rc => rw [hcl] at w4c; exact ⟨rc, rfl, Option.some.inj w4c⟩
        have hcell := wls_at (q := q) (cy := cy) (σ := σ) hsh
        have hrecv := va_recv hK hP hrc hcell
        rw [hrn] at hrecv
        match fn, h1, hCT with
        | .inl f, h2, hCT =>
          obtain ⟨⟨r, τ⟩, hr, h3⟩ := bnd_s h2
          refine va_calli (va_runV (C := y.cls) (b := q a) (As := as'.map (cv q)) (rest := rest.map (cv q)) ⟨hx, hb, hml, hown, hts⟩ (hCT l D q cy hq _ σ r τ hr) ⟨hcb w8, hts _ (inT_mem w4a), hts _ (inT_mem w4b)⟩ ⟨PcX_blind, hrecv, hpre⟩ rfl (by rw [List.length_map]; exact hlen') hsize hstk (lv_room hcat2) hd ⟨hce, hsl⟩) hS (fun _ _ z => hAQ _ z) (fun _ z => hAQ _ z) (fun r' u t H1 locs1 ht hvm hp hB hz hk1 hS1 => ?_)
          obtain ⟨rfl, rfl⟩ := hp
          exact hk _ _ _ _ hnL h3 H1 locs1 ls (by rw [← ht]; exact hB.1) hS1 hL
        | .inr (.inl f), h2, hCT =>
          obtain ⟨⟨r, τ⟩, hr, h3⟩ := bnd_s h2
          refine va_calll (va_runV (C := y.cls) (b := q a) (As := as'.map (cv q)) (rest := rest.map (cv q)) ⟨hx, hb, hml, hown, hts⟩ (hCT l D q cy hq _ σ r τ hr) ⟨hcb w8, hts _ (inT_mem w4a), hts _ (inT_mem w4b)⟩ ⟨PcX_blind, hrecv, hpre⟩ rfl (by rw [List.length_map]; exact hlen') hsize hstk (lv_room hcat2) hd ⟨hce, hsl⟩) hS (fun _ _ z => hAQ _ z) (fun _ z => hAQ _ z) (fun r' u t H1 locs1 ht hvm hp hB hz hk1 hS1 => ?_)
          obtain ⟨rfl, rfl⟩ := hp
          exact hk _ _ _ _ hnL h3 H1 locs1 ls (by rw [← ht]; exact hB.1) hS1 hL
        | .inr (.inr f), h2, hCT =>
          obtain ⟨τ, hr, h3⟩ := bnd_s h2
          refine va_callv (va_runV (C := y.cls) (b := q a) (As := as'.map (cv q)) (rest := rest.map (cv q)) ⟨hx, hb, hml, hown, hts⟩ (hCT l D q cy hq _ σ τ hr) ⟨hcb w8, hts _ (inT_mem w4a), hts _ (inT_mem w4b)⟩ ⟨PcX_blind, hrecv, hpre⟩ rfl (by rw [List.length_map]; exact hlen') hsize hstk (lv_room hcat2) hd ⟨hce, hsl⟩) hS (fun _ _ z => hAQ _ z) (fun _ z => hAQ _ z) (fun u t H1 locs1 ht hvm hp hB hz hk1 hS1 => ?_)
          subst hp
          exact hk _ _ _ _ hnL h3 H1 locs1 ls (by rw [← ht]; exact hB.1) hS1 hL
end SOUND
end
section
section SOUND2
variable {β : Type} {p : Program} {l : Launch} {e : Env} {R : Room} {s : State} {m : MethodId} {args : Array Value} {below : List Frame} {meth : Method} {c : Code} {cells slots : Nat} {Q : State → Prop}
variable {cc : ByteArray} {own : String} {nL : Nat} {D : va_G} {q : Nat → Nat} {cy : Nat → ClassId} {A : Nat → Prop} {sc : Scr} {lvl : Nat} {r0 : β}
theorem ifs {P : Prop} [Decidable P] {a b : Option β} {r : β} {X : Prop} (h : (if P then a else b) = some r) (f : P → a = some r → X) (g : ¬ P → b = some r → X) : X := by
  by_cases hp : P
  · rw [if_pos hp] at h; exact f hp h
  · rw [if_neg hp] at h; exact g hp h
theorem cnd_s {b : Bool} {a : Option β} {r : β} (h : cond b a none = some r) : b = true ∧ a = some r := by
  cases b with
  | true => exact ⟨rfl, h⟩
  | false => cases h
theorem chk_d {e : Nat × Ent} (h : chk cc e = true) (h1 : lenOf e.2.1 ≠ 0) : decode cc e.1 = .ok (e.2.1, lenOf e.2.1) ∧ e.2.2.1 = e.1 + lenOf e.2.1 := by
  obtain ⟨pc, ins, nx, ts⟩ := e
  unfold chk at h
  dsimp only at h h1 ⊢
  split at h
  · exact absurd rfl h1
  · exact absurd rfl h1
  all_goals
    simp only [Bool.and_eq_true, decide_eq_true_eq] at h
  · exact ⟨h.1.1, Nat.eq_of_beq_eq_true h.1.2⟩
  · exact ⟨h.1.1, Nat.eq_of_beq_eq_true h.1.2⟩
  · exact ⟨h.1.1, Nat.eq_of_beq_eq_true h.1.2⟩
  · exact ⟨h.1, Nat.eq_of_beq_eq_true h.2⟩
theorem fld_ok {ft : List (Nat × FTE)} (hft : ft.all (fun e => fldchk own e && shchk e) = true) {ix : Nat} {fe : FTE} (hf : fnd ft ix = some fe) {a : Nat} {fds : List Nat} (hs : SH[a]? = some (.inl (fe.1, fds))) {d : Nat} (hd : fds[fe.2.1]? = some d) : ∃ (C : String) (T : u_T) (N : Nat), clsL[fe.1]? = some (C, T, N) ∧ fe.2.1 < N ∧ Cond.fieldLink own ix (T fe.2.1).1 (T fe.2.1).2.1 (T fe.2.1).2.2.1 ∈ WT ∧ (d = 0 → (T fe.2.1).2.2.1 = "I" ∧ (T fe.2.1).2.2.2 = false) ∧ (d = 1 → (T fe.2.1).2.2.1 = "J" ∧ (T fe.2.1).2.2.2 = false) ∧ (d = 2 → (T fe.2.1).2.2.1 = "Z" ∧ (T fe.2.1).2.2.2 = false) := by
  have h := List.all_eq_true.mp hft _ (fnd_mem _ _ _ hf)
  obtain ⟨ci, j, cd⟩ := fe
  rw [Bool.and_eq_true] at h
  obtain ⟨h1, h2⟩ := h
  have h3 := List.all_eq_true.mp h2 _ (List.mem_of_getElem? hs)
  dsimp only at h3 hd hs ⊢
  have hb : Nat.beq ci ci = true := Nat.beq_refl ci
  rw [hb, hd] at h3
  simp only [Bool.not_true, Bool.false_or, Bool.or_eq_true, Bool.and_eq_true] at h3
  unfold fldchk at h1
  cases hcl : clsL[ci]? with
  | none => dsimp only at h1; rw [hcl] at h1; cases h1
  | some r =>
    obtain ⟨C, T, N⟩ := r
    dsimp only at h1
    rw [hcl] at h1
    simp only [Bool.and_eq_true] at h1
    obtain ⟨⟨g1, g2⟩, g3⟩ := h1
    refine ⟨C, T, N, rfl, blt_of g1, inT_mem g2, fun hd0 => ?_, fun hd0 => ?_, fun hd0 => ?_⟩
    all_goals
      subst hd0
      rcases h3 with ⟨h4, -⟩ | h4
      · exact absurd (Nat.le_of_ble_eq_true h4) (by decide)
      · have h5 := Nat.eq_of_beq_eq_true h4
        subst h5
        simpa using g3
theorem setF_obj {σ : Wd} {k ci j : Nat} {fds : List Nat} {x : Int32} (hs : SH[k]? = some (.inl (ci, fds))) (hd : fds[j]? = some 0 ∨ fds[j]? = some 2) : (wls q cy σ).set k (q k, .inr (ci, (fvs q σ k 0 fds).set j (.int x))) = wls q cy (sF σ k j x) := by
  refine wls_set hs (fun i hi e => celle_F hi e) ?_
  show Sum.inr (ci, _) = Sum.inr (ci, _)
  congr 2
  apply List.ext_getElem?
  intro i
  rw [List.getElem?_set, fvs_get, fvs_get]
  by_cases hi : j = i
  · subst hi
    have hl : j < (fvs q σ k 0 fds).length := by
      rw [fvs_len]
      rcases hd with h | h <;> exact (List.getElem?_eq_some_iff.mp h).1
    rw [if_pos rfl, if_pos hl]
    rcases hd with h | h <;> rw [h] <;> simp [fdv, sF]
  · rw [if_neg hi]
    cases hh : fds[i]? with
    | none => rfl
    | some d =>
      simp only [Option.map_some, Option.some.injEq, Nat.zero_add]
      match d with
      | 0 => simp [fdv, sF, Ne.symm hi]
      | 1 => rfl
      | 2 => simp [fdv, sF, Ne.symm hi]
      | r + 3 => rfl
theorem setG_obj {σ : Wd} {k ci j : Nat} {fds : List Nat} {x : Int64} (hs : SH[k]? = some (.inl (ci, fds))) (hd : fds[j]? = some 1) : (wls q cy σ).set k (q k, .inr (ci, (fvs q σ k 0 fds).set j (.long x))) = wls q cy (sG σ k j x) := by
  refine wls_set hs (fun i hi e => celle_G hi e) ?_
  show Sum.inr (ci, _) = Sum.inr (ci, _)
  congr 2
  apply List.ext_getElem?
  intro i
  rw [List.getElem?_set, fvs_get, fvs_get]
  by_cases hi : j = i
  · subst hi
    have hl : j < (fvs q σ k 0 fds).length := by
      rw [fvs_len]
      exact (List.getElem?_eq_some_iff.mp hd).1
    rw [if_pos rfl, if_pos hl, hd]
    simp [fdv, sG]
  · rw [if_neg hi]
    cases hh : fds[i]? with
    | none => rfl
    | some d =>
      simp only [Option.map_some, Option.some.injEq, Nat.zero_add]
      match d with
      | 0 => rfl
      | 1 => simp [fdv, sG, Ne.symm hi]
      | 2 => rfl
      | r + 3 => rfl
theorem setF_arr {σ : Wd} {k t n j : Nat} {x : Int32} (ht : t = 0 ∨ t = 2) (hs : SH[k]? = some (.inr (t, n))) : (wls q cy σ).set k (q k, .inl (cy t, n, .inl (upd (σ.1 k) j x))) = wls q cy (sF σ k j x) := by
  refine wls_set hs (fun i hi e => celle_F hi e) ?_
  have h1 : (sF σ k j x).1 k = upd (σ.1 k) j x := by funext b; simp [sF, upd]
  rcases ht with rfl | rfl
  · show Sum.inl (cy 0, n, Sum.inl ((sF σ k j x).1 k)) = _; rw [h1]
  · show Sum.inl (cy 2, n, Sum.inl ((sF σ k j x).1 k)) = _; rw [h1]
theorem setG_arr {σ : Wd} {k n j : Nat} {x : Int64} (hs : SH[k]? = some (.inr (1, n))) : (wls q cy σ).set k (q k, .inl (cy 1, n, .inr (.inl (vp_updL (σ.2 k) j x)))) = wls q cy (sG σ k j x) := by
  refine wls_set hs (fun i hi e => celle_G hi e) ?_
  have h1 : (sG σ k j x).2 k = vp_updL (σ.2 k) j x := by funext b; simp [sG, vp_updL]
  show Sum.inl (cy 1, n, Sum.inr (Sum.inl ((sG σ k j x).2 k))) = _; rw [h1]
theorem nar_bool {x : Int32} (h : x = 0 ∨ x = 1) : vp_nar .boolean x = x ∧ narrow .boolean (.int x) = .int x ∧ fits .boolean (.int x) = true := by
  rcases h with rfl | rfl <;> decide +kernel
theorem st1_len : ∀ (vs : List Value) (i : Nat) (v : Value), (st1 vs i v).length = vs.length
  | [], i, v => rfl
  | a :: vs, 0, v => rfl
  | a :: vs, i + 1, v => by simp [st1, st1_len vs i v]
theorem st2_len : ∀ (vs : List Value) (i : Nat) (v : Value), (st2 vs i v).length = vs.length
  | [], i, v => rfl
  | [a], 0, v => rfl
  | a :: b :: vs, 0, v => rfl
  | a :: vs, i + 1, v => by simp [st2, st2_len vs i v]
theorem ift {P : Prop} [Decidable P] {a b o : Option β} (h : (if P then a else b) = o) (z : P) : a = o := by rw [if_pos z] at h; exact h
theorem iff {P : Prop} [Decidable P] {a b o : Option β} (h : (if P then a else b) = o) (z : ¬ P) : b = o := by rw [if_neg z] at h; exact h
theorem arr3 {a n : Nat} (h : arrn a 3 = some n) : a = 8 ∧ n = 4 := by
  have h1 := arrn_sh h
  have h2 : ((List.range NC).all fun k => match SH[k]? with | some (.inr (t, z)) => !(Nat.beq t 3) || (Nat.beq k 8 && Nat.beq z 4) | _ => true) = true := by decide +kernel
  have h3 := List.all_eq_true.mp h2 a (List.mem_range.mpr (sh_lt h1))
  rw [h1] at h3
  simp only [Nat.beq_refl, Bool.not_true, Bool.false_or, Bool.and_eq_true] at h3
  exact ⟨Nat.eq_of_beq_eq_true h3.1, Nat.eq_of_beq_eq_true h3.2⟩
theorem xstep_ok {RI : Int32 → Wd → Option β} {RL : Int64 → Wd → Option β} {RV : Wd → Option β} {ft : List (Nat × FTE)} {lt : List (Nat × Int64)} {ct : List (Nat × Cal)} (C : XC p R s m args c cc own nL D q cy A sc lvl cells slots) (hft : ft.all (fun e => fldchk own e && shchk e) = true) (hlt : lt.all (ltchk own) = true) (hct : ∀ e ∈ ct, CalOK lvl own e)
    (hRI : ∀ (v : Int32) (σ : Wd), RI v σ = some r0 → ∀ (pc : Nat) (ls : Array Slot) (H : Heap) (locs : List Loc), decode cc pc = .ok (.ireturn, 1) → va_P D clsL (wls q cy σ) H → va_S A s.heap H locs → W p l e R s m args below meth c H locs cells slots Q (F0 m pc ls [.int v]))
    (hRL : ∀ (v : Int64) (σ : Wd), RL v σ = some r0 → ∀ (pc : Nat) (ls : Array Slot) (H : Heap) (locs : List Loc), decode cc pc = .ok (.lreturn, 1) → va_P D clsL (wls q cy σ) H → va_S A s.heap H locs → W p l e R s m args below meth c H locs cells slots Q (F0 m pc ls [.long v]))
    (hRV : ∀ (σ : Wd), RV σ = some r0 → ∀ (pc : Nat) (ls : Array Slot) (H : Heap) (locs : List Loc), decode cc pc = .ok (.return_, 1) → va_P D clsL (wls q cy σ) H → va_S A s.heap H locs → W p l e R s m args below meth c H locs cells slots Q (F0 m pc ls []))
    {k : PK β} (hk : ∀ pc vs st σ, vs.length = nL → WG p l e R s m args below meth c nL D q cy A cells slots Q r0 (k pc vs st σ) pc vs st σ) {pc nx : Nat} {ins : Instr} {ts : List Nat} (hc : chk cc (pc, ins, nx, ts) = true) {vs st : List Value} {σ : Wd} (hn : vs.length = nL) : WG p l e R s m args below meth c nL D q cy A cells slots Q r0 (xstep ft lt ct sc RI RL RV k ins nx ts vs st σ) pc vs st σ := by
  have hcd : lenOf ins ≠ 0 → decode cc pc = .ok (ins, lenOf ins) ∧ nx = pc + lenOf ins := fun h1 => chk_d (e := (pc, ins, nx, ts)) hc h1
  obtain ⟨hx, hb, hml, hown, hts, hK, hq, hsc, hfr, hlo, hce, hsl, hAQ⟩ := id C
  have jmp : ∀ {o : Int} {t : Nat} {tl : List Nat}, zipok pc [o] ts = true → ts = t :: tl → (pc : Int) + o = (t : Int) := fun {o t tl} hz ht => by
    subst ht
    simp only [zipok, Bool.and_eq_true, decide_eq_true_eq] at hz
    exact hz.1
  intro h H locs ls hP hS hL
  have hs1 : ∀ (i : Nat) (v : Value), (st1 vs i v).length = nL := fun i v => by rw [st1_len]; exact hn
  have hs2 : ∀ (i : Nat) (v : Value), (st2 vs i v).length = nL := fun i v => by rw [st2_len]; exact hn
  cases ins with
  | iconst n =>
    obtain ⟨hd, rfl⟩ := hcd (Nat.succ_ne_zero _)
    exact lv_iconst hx hb hd rfl (hk _ _ _ _ hn h H locs ls hP hS hL)
  | bipush n =>
    obtain ⟨hd, rfl⟩ := hcd (Nat.succ_ne_zero _)
    exact lv_bipush hx hb hd rfl (hk _ _ _ _ hn h H locs ls hP hS hL)
  | sipush n =>
    obtain ⟨hd, rfl⟩ := hcd (Nat.succ_ne_zero _)
    exact lv_sipush hx hb hd rfl (hk _ _ _ _ hn h H locs ls hP hS hL)
  | lconst n =>
    obtain ⟨hd, rfl⟩ := hcd (Nat.succ_ne_zero _)
    exact lv_lconst hx hb hd rfl (hk _ _ _ _ hn h H locs ls hP hS hL)
  | ldc2_w ix =>
    obtain ⟨hd, rfl⟩ := hcd (Nat.succ_ne_zero _)
    obtain ⟨hbl, h⟩ := cnd_s h
    obtain ⟨v, hf, h⟩ := oN_s h
    have hw := List.all_eq_true.mp hlt _ (fnd_mem _ _ _ hf)
    unfold ltchk at hw
    dsimp only at hw
    rw [hbl, cond_true] at hw
    exact lv_ldc2 hx hb hown (hts _ (inT_mem hw)) hd (hk _ _ _ _ hn h H locs ls hP hS hL)
  | ldc_w ix =>
    obtain ⟨hd, rfl⟩ := hcd (Nat.succ_ne_zero _)
    obtain ⟨v, hf, h⟩ := oN_s h
    have hw := List.all_eq_true.mp hlt _ (fnd_mem _ _ _ hf)
    unfold ltchk at hw
    dsimp only at hw
    have hbl : Nat.blt (ix + 100000) 100000 = false := by
      cases hb9 : Nat.blt (ix + 100000) 100000 with
      | false => rfl
      | true => have := blt_of hb9; omega
    rw [hbl, cond_false, Nat.add_sub_cancel] at hw
    exact lv_ldcw hx hb hown (hts _ (inT_mem hw)) hd (hk _ _ _ _ hn h H locs ls hP hS hL)
  | iload n =>
    obtain ⟨hd, rfl⟩ := hcd (Nat.succ_ne_zero _)
    obtain ⟨v, hv, h⟩ := oV_s h
    obtain ⟨x, rfl, h⟩ := vI_s h
    exact lv_iload hx hb hd (hL.at hv (by intro z; cases z)) (hk _ _ _ _ hn h H locs ls hP hS hL)
  | iload_n n =>
    obtain ⟨hd, rfl⟩ := hcd (Nat.succ_ne_zero _)
    obtain ⟨v, hv, h⟩ := oV_s h
    obtain ⟨x, rfl, h⟩ := vI_s h
    exact lv_iload_n hx hb hd rfl (hL.at hv (by intro z; cases z)) (hk _ _ _ _ hn h H locs ls hP hS hL)
  | lload n =>
    obtain ⟨hd, rfl⟩ := hcd (Nat.succ_ne_zero _)
    obtain ⟨v, hv, h⟩ := oV_s h
    obtain ⟨x, rfl, h⟩ := vJ_s h
    exact lv_lload hx hb hd (hL.at hv (by intro z; cases z)) (hk _ _ _ _ hn h H locs ls hP hS hL)
  | lload_n n =>
    obtain ⟨hd, rfl⟩ := hcd (Nat.succ_ne_zero _)
    obtain ⟨v, hv, h⟩ := oV_s h
    obtain ⟨x, rfl, h⟩ := vJ_s h
    exact lv_lload_n hx hb hd rfl (hL.at hv (by intro z; cases z)) (hk _ _ _ _ hn h H locs ls hP hS hL)
  | aload n =>
    obtain ⟨hd, rfl⟩ := hcd (Nat.succ_ne_zero _)
    obtain ⟨v, hv, h⟩ := oV_s h
    obtain ⟨x, rfl, h⟩ := vA_s h
    exact lv_aload hx hb hd (hL.at hv (by intro z; cases z)) (hk _ _ _ _ hn h H locs ls hP hS hL)
  | aload_n n =>
    obtain ⟨hd, rfl⟩ := hcd (Nat.succ_ne_zero _)
    obtain ⟨v, hv, h⟩ := oV_s h
    obtain ⟨x, rfl, h⟩ := vA_s h
    exact lv_aload_n hx hb hd rfl (hL.at hv (by intro z; cases z)) (hk _ _ _ _ hn h H locs ls hP hS hL)
  | istore n =>
    obtain ⟨hd, rfl⟩ := hcd (Nat.succ_ne_zero _)
    obtain ⟨x, r, rfl, h⟩ := pI_s h
    obtain ⟨hb1, h⟩ := cnd_s h
    exact lv_istore hx hb hd hL.has (by rw [← hn]; exact blt_of hb1) rfl (fun ls2 hl2 => hk _ _ _ _ (hs1 _ _) h H locs ls2 hP hS (LH.s1 (v := .int x) hl2))
  | istore_n n =>
    obtain ⟨hd, rfl⟩ := hcd (Nat.succ_ne_zero _)
    obtain ⟨x, r, rfl, h⟩ := pI_s h
    obtain ⟨hb1, h⟩ := cnd_s h
    exact lv_istore_n hx hb hd rfl hL.has (by rw [← hn]; exact blt_of hb1) rfl (fun ls2 hl2 => hk _ _ _ _ (hs1 _ _) h H locs ls2 hP hS (LH.s1 (v := .int x) hl2))
  | astore n =>
    obtain ⟨hd, rfl⟩ := hcd (Nat.succ_ne_zero _)
    obtain ⟨x, r, rfl, h⟩ := pA_s h
    obtain ⟨hb1, h⟩ := cnd_s h
    exact lv_astore hx hb hd hL.has (by rw [← hn]; exact blt_of hb1) rfl (fun ls2 hl2 => hk _ _ _ _ (hs1 _ _) h H locs ls2 hP hS (LH.s1 (v := .ref x) hl2))
  | astore_n n =>
    obtain ⟨hd, rfl⟩ := hcd (Nat.succ_ne_zero _)
    obtain ⟨x, r, rfl, h⟩ := pA_s h
    obtain ⟨hb1, h⟩ := cnd_s h
    exact lv_astore_n hx hb hd rfl hL.has (by rw [← hn]; exact blt_of hb1) rfl (fun ls2 hl2 => hk _ _ _ _ (hs1 _ _) h H locs ls2 hP hS (LH.s1 (v := .ref x) hl2))
  | lstore n =>
    obtain ⟨hd, rfl⟩ := hcd (Nat.succ_ne_zero _)
    obtain ⟨x, r, rfl, h⟩ := pJ_s h
    obtain ⟨hb1, h⟩ := cnd_s h
    exact lv_lstore hx hb hd hL.has (by rw [← hn]; exact blt_of hb1) rfl (fun ls2 hl2 => hk _ _ _ _ (hs2 _ _) h H locs ls2 hP hS (LH.s2 (v := .long x) hl2))
  | lstore_n n =>
    obtain ⟨hd, rfl⟩ := hcd (Nat.succ_ne_zero _)
    obtain ⟨x, r, rfl, h⟩ := pJ_s h
    obtain ⟨hb1, h⟩ := cnd_s h
    exact lv_lstore_n hx hb hd rfl hL.has (by rw [← hn]; exact blt_of hb1) rfl (fun ls2 hl2 => hk _ _ _ _ (hs2 _ _) h H locs ls2 hP hS (LH.s2 (v := .long x) hl2))
  | iinc n d =>
    obtain ⟨hd, rfl⟩ := hcd (Nat.succ_ne_zero _)
    obtain ⟨v, hv, h⟩ := oV_s h
    obtain ⟨x, rfl, h⟩ := vI_s h
    obtain ⟨hb1, h⟩ := cnd_s h
    obtain ⟨kk, hkk⟩ := List.getElem?_of_mem (lhl_mem (q := q) (vs := vs) (z := (n, .int x)) |>.mpr ⟨_, hv, (by intro z; cases z), rfl⟩)
    exact lv_iinc (k := kk) hx hb hd hL.has hkk rfl (by rw [← hn]; exact blt_of hb1) rfl (fun ls2 hl2 => hk _ _ _ _ (hs1 _ _) h H locs ls2 hP hS (LH.s1 (v := .int (x + Int32.ofInt d)) hl2))
  | iadd =>
    obtain ⟨hd, rfl⟩ := hcd (Nat.succ_ne_zero _)
    obtain ⟨x, y, r, rfl, h⟩ := pII_s h
    exact lv_iadd hx hb hd (hk _ _ _ _ hn h H locs ls hP hS hL)
  | isub =>
    obtain ⟨hd, rfl⟩ := hcd (Nat.succ_ne_zero _)
    obtain ⟨x, y, r, rfl, h⟩ := pII_s h
    exact lv_isub hx hb hd (hk _ _ _ _ hn h H locs ls hP hS hL)
  | imul =>
    obtain ⟨hd, rfl⟩ := hcd (Nat.succ_ne_zero _)
    obtain ⟨x, y, r, rfl, h⟩ := pII_s h
    exact lv_imul hx hb hd (hk _ _ _ _ hn h H locs ls hP hS hL)
  | iand =>
    obtain ⟨hd, rfl⟩ := hcd (Nat.succ_ne_zero _)
    obtain ⟨x, y, r, rfl, h⟩ := pII_s h
    exact lv_iand hx hb hd (hk _ _ _ _ hn h H locs ls hP hS hL)
  | ior =>
    obtain ⟨hd, rfl⟩ := hcd (Nat.succ_ne_zero _)
    obtain ⟨x, y, r, rfl, h⟩ := pII_s h
    exact lv_ior hx hb hd (hk _ _ _ _ hn h H locs ls hP hS hL)
  | ixor =>
    obtain ⟨hd, rfl⟩ := hcd (Nat.succ_ne_zero _)
    obtain ⟨x, y, r, rfl, h⟩ := pII_s h
    exact lv_ixor hx hb hd (hk _ _ _ _ hn h H locs ls hP hS hL)
  | ishl =>
    obtain ⟨hd, rfl⟩ := hcd (Nat.succ_ne_zero _)
    obtain ⟨x, y, r, rfl, h⟩ := pII_s h
    exact lv_ishl hx hb hd (hk _ _ _ _ hn h H locs ls hP hS hL)
  | ishr =>
    obtain ⟨hd, rfl⟩ := hcd (Nat.succ_ne_zero _)
    obtain ⟨x, y, r, rfl, h⟩ := pII_s h
    exact lv_ishr hx hb hd (hk _ _ _ _ hn h H locs ls hP hS hL)
  | iushr =>
    obtain ⟨hd, rfl⟩ := hcd (Nat.succ_ne_zero _)
    obtain ⟨x, y, r, rfl, h⟩ := pII_s h
    exact lv_iushr hx hb hd rfl (hk _ _ _ _ hn h H locs ls hP hS hL)
  | idiv =>
    obtain ⟨hd, rfl⟩ := hcd (Nat.succ_ne_zero _)
    obtain ⟨x, y, r, rfl, h⟩ := pII_s h
    exact ifs h (fun _ z => by cases z) (fun hz h => lv_idiv hx hb hd hz (hk _ _ _ _ hn h H locs ls hP hS hL))
  | irem =>
    obtain ⟨hd, rfl⟩ := hcd (Nat.succ_ne_zero _)
    obtain ⟨x, y, r, rfl, h⟩ := pII_s h
    exact ifs h (fun _ z => by cases z) (fun hz h => lv_irem hx hb hd hz (hk _ _ _ _ hn h H locs ls hP hS hL))
  | ladd =>
    obtain ⟨hd, rfl⟩ := hcd (Nat.succ_ne_zero _)
    obtain ⟨x, y, r, rfl, h⟩ := pJJ_s h
    exact lv_ladd hx hb hd (hk _ _ _ _ hn h H locs ls hP hS hL)
  | lsub =>
    obtain ⟨hd, rfl⟩ := hcd (Nat.succ_ne_zero _)
    obtain ⟨x, y, r, rfl, h⟩ := pJJ_s h
    exact lv_lsub hx hb hd (hk _ _ _ _ hn h H locs ls hP hS hL)
  | lmul =>
    obtain ⟨hd, rfl⟩ := hcd (Nat.succ_ne_zero _)
    obtain ⟨x, y, r, rfl, h⟩ := pJJ_s h
    exact lv_lmul hx hb hd (hk _ _ _ _ hn h H locs ls hP hS hL)
  | land =>
    obtain ⟨hd, rfl⟩ := hcd (Nat.succ_ne_zero _)
    obtain ⟨x, y, r, rfl, h⟩ := pJJ_s h
    exact lv_land hx hb hd (hk _ _ _ _ hn h H locs ls hP hS hL)
  | lor =>
    obtain ⟨hd, rfl⟩ := hcd (Nat.succ_ne_zero _)
    obtain ⟨x, y, r, rfl, h⟩ := pJJ_s h
    exact lv_lor hx hb hd (hk _ _ _ _ hn h H locs ls hP hS hL)
  | lcmp =>
    obtain ⟨hd, rfl⟩ := hcd (Nat.succ_ne_zero _)
    obtain ⟨x, y, r, rfl, h⟩ := pJJ_s h
    exact W.lcmp hx hb hd (hk _ _ _ _ hn h H locs ls hP hS hL)
  | lshl =>
    obtain ⟨hd, rfl⟩ := hcd (Nat.succ_ne_zero _)
    obtain ⟨x, y, r, rfl, h⟩ := pJI_s h
    exact lv_lshl hx hb hd rfl (hk _ _ _ _ hn h H locs ls hP hS hL)
  | lushr =>
    obtain ⟨hd, rfl⟩ := hcd (Nat.succ_ne_zero _)
    obtain ⟨x, y, r, rfl, h⟩ := pJI_s h
    exact lv_lushr hx hb hd rfl (hk _ _ _ _ hn h H locs ls hP hS hL)
  | i2l =>
    obtain ⟨hd, rfl⟩ := hcd (Nat.succ_ne_zero _)
    obtain ⟨x, r, rfl, h⟩ := pI_s h
    exact lv_i2l hx hb hd rfl (hk _ _ _ _ hn h H locs ls hP hS hL)
  | i2b =>
    obtain ⟨hd, rfl⟩ := hcd (Nat.succ_ne_zero _)
    obtain ⟨x, r, rfl, h⟩ := pI_s h
    exact lv_i2b hx hb hd rfl (hk _ _ _ _ hn h H locs ls hP hS hL)
  | l2i =>
    obtain ⟨hd, rfl⟩ := hcd (Nat.succ_ne_zero _)
    obtain ⟨x, r, rfl, h⟩ := pJ_s h
    exact lv_l2i hx hb hd rfl (hk _ _ _ _ hn h H locs ls hP hS hL)
  | dup =>
    obtain ⟨hd, rfl⟩ := hcd (Nat.succ_ne_zero _)
    obtain ⟨v, r, rfl, hv, h⟩ := pV_s h
    exact lv_dup hx hb hd (by rw [cv_cat]; exact hv) (hk _ _ _ _ hn h H locs ls hP hS hL)
  | dup2 =>
    obtain ⟨hd, rfl⟩ := hcd (Nat.succ_ne_zero _)
    obtain ⟨v, w, r, rfl, hv, hw, h⟩ := pVV_s h
    exact lv_dup2_11 hx hb hd (by rw [cv_cat]; exact hv) (by rw [cv_cat]; exact hw) (hk _ _ _ _ hn h H locs ls hP hS hL)
  | goto o =>
    obtain ⟨hd, rfl⟩ := hcd (Nat.succ_ne_zero _)
    obtain ⟨t, tl, ht, h⟩ := t1_s h
    have hz : zipok pc [o] ts = true := by unfold chk at hc; simp only [Bool.and_eq_true] at hc; exact hc.2
    exact lv_goto hx hb hd (jmp hz ht) (hk _ _ _ _ hn h H locs ls hP hS hL)
  | ifCond cc2 o =>
    obtain ⟨hd, rfl⟩ := hcd (Nat.succ_ne_zero _)
    obtain ⟨t, tl, ht, h⟩ := t1_s h
    have hz : zipok pc [o] ts = true := by unfold chk at hc; simp only [Bool.and_eq_true] at hc; exact hc.2
    have hj := jmp hz ht
    obtain ⟨x, r, rfl, h⟩ := pI_s h
    cases cc2 with
    | eq => exact lv_if_eq hx hb hd hj (fun z => hk _ _ _ _ hn (ift h z) H locs ls hP hS hL) (fun z => hk _ _ _ _ hn (iff h z) H locs ls hP hS hL)
    | ne => exact lv_if_ne hx hb hd hj (fun z => hk _ _ _ _ hn (iff h z) H locs ls hP hS hL) (fun z => hk _ _ _ _ hn (ift h z) H locs ls hP hS hL)
    | lt => exact lv_if_lt hx hb hd hj (fun z => hk _ _ _ _ hn (ift h z) H locs ls hP hS hL) (fun z => hk _ _ _ _ hn (iff h z) H locs ls hP hS hL)
    | ge => exact lv_if_ge hx hb hd hj (fun z => hk _ _ _ _ hn (ift h z) H locs ls hP hS hL) (fun z => hk _ _ _ _ hn (iff h z) H locs ls hP hS hL)
    | gt => exact lv_if_gt hx hb hd hj (fun z => hk _ _ _ _ hn (ift h z) H locs ls hP hS hL) (fun z => hk _ _ _ _ hn (iff h z) H locs ls hP hS hL)
    | le => exact lv_if_le hx hb hd hj (fun z => hk _ _ _ _ hn (ift h z) H locs ls hP hS hL) (fun z => hk _ _ _ _ hn (iff h z) H locs ls hP hS hL)
  | if_icmp cc2 o =>
    obtain ⟨hd, rfl⟩ := hcd (Nat.succ_ne_zero _)
    obtain ⟨t, tl, ht, h⟩ := t1_s h
    have hz : zipok pc [o] ts = true := by unfold chk at hc; simp only [Bool.and_eq_true] at hc; exact hc.2
    have hj := jmp hz ht
    obtain ⟨x, y, r, rfl, h⟩ := pII_s h
    cases cc2 with
    | eq => exact lv_icmp_eq hx hb hd hj (fun z => hk _ _ _ _ hn (ift h z) H locs ls hP hS hL) (fun z => hk _ _ _ _ hn (iff h z) H locs ls hP hS hL)
    | ne => exact lv_icmp_ne hx hb hd hj (fun z => hk _ _ _ _ hn (iff h z) H locs ls hP hS hL) (fun z => hk _ _ _ _ hn (ift h z) H locs ls hP hS hL)
    | lt => exact lv_icmp_lt hx hb hd hj (fun z => hk _ _ _ _ hn (ift h z) H locs ls hP hS hL) (fun z => hk _ _ _ _ hn (iff h z) H locs ls hP hS hL)
    | ge => exact lv_icmp_ge hx hb hd hj (fun z => hk _ _ _ _ hn (ift h z) H locs ls hP hS hL) (fun z => hk _ _ _ _ hn (iff h z) H locs ls hP hS hL)
    | gt => exact lv_icmp_gt hx hb hd hj (fun z => hk _ _ _ _ hn (ift h z) H locs ls hP hS hL) (fun z => hk _ _ _ _ hn (iff h z) H locs ls hP hS hL)
    | le => exact lv_icmp_le hx hb hd hj (fun z => hk _ _ _ _ hn (ift h z) H locs ls hP hS hL) (fun z => hk _ _ _ _ hn (iff h z) H locs ls hP hS hL)
  | tableswitch df lo hi offs =>
    obtain ⟨x, r, rfl, h⟩ := pI_s h
    unfold chk at hc
    simp only [Bool.and_eq_true, decide_eq_true_eq] at hc
    obtain ⟨⟨⟨⟨hd, hz⟩, hl1⟩, hl2⟩, hl3⟩ := hc
    match ts, h, hz with
    | d :: tl, h, hz =>
      have hzl := zip_len hz
      simp only [zipok, Bool.and_eq_true, decide_eq_true_eq] at hz
      simp only [List.length_cons, Array.length_toList] at hzl
      rcases swT_ok tl lo hl1 (by omega) h with ⟨i, t, h1, h2, h3⟩ | ⟨h1, h2⟩
      · obtain ⟨o, ho1, ho2⟩ := zip_get hz.2 h1
        have hi := (List.getElem?_eq_some_iff.mp h1).1
        exact lv_tableIn (off := o) hx hb hd (by omega) (by omega) (by rw [h2, show (lo + (i : Int) - lo).toNat = i by omega, ← Array.getElem?_toList]; exact ho1) ho2 (hk _ _ _ _ hn h3 H locs ls hP hS hL)
      · refine lv_tableOut hx hb hd ?_ hz.1 (hk _ _ _ _ hn h2 H locs ls hP hS hL)
        by_cases q1 : x.toInt < lo
        · exact Or.inl q1
        · refine Or.inr ?_
          have := h1 (x.toInt - lo).toNat
          omega
  | lookupswitch df ps =>
    obtain ⟨x, r, rfl, h⟩ := pI_s h
    unfold chk at hc
    simp only [Bool.and_eq_true, decide_eq_true_eq] at hc
    obtain ⟨⟨⟨hd, hz⟩, hl1⟩, hl2⟩ := hc
    match ts, h, hz with
    | d :: tl, h, hz =>
      simp only [zipok, Bool.and_eq_true, decide_eq_true_eq] at hz
      obtain ⟨off, t, h1, h2, h3⟩ := swL_ok hz.1 ps.toList tl (by simpa only [Bool.and_eq_true, decide_eq_true_eq] using hl2) hz.2 h
      exact lv_lookup hx hb hd hl1 h1 h2 (hk _ _ _ _ hn h3 H locs ls hP hS hL)
  | getfield ix =>
    obtain ⟨hd, rfl⟩ := hcd (Nat.succ_ne_zero _)
    obtain ⟨fe, hf, h⟩ := oN_s h
    obtain ⟨a, r, rfl, h⟩ := pA_s h
    obtain ⟨fds, hfo, h⟩ := oN_s h
    obtain ⟨d, hfd, h⟩ := oN_s h
    have hsh := objf_sh hfo
    obtain ⟨C0, T0, N0, g1, g2, g3, -, -, -⟩ := fld_ok hft hf hsh hfd
    obtain ⟨ty, k1, k2, k3⟩ := cls_ok _ _ _ _ g1
    refine va_get (D := D) (v := fdv q σ a fe.2.1 d) hx hb hts k1 hown hK hP a (wls_at hsh) g1 fe.2.1 g2 (hts _ g3) (fun _ z => z) (by rw [fvs_get, hfd]; simp) hd ?_
    have hh := hk _ _ _ _ hn h H locs ls hP hS hL
    rw [List.map_cons, fdx_v] at hh
    exact hh
  | putfield ix =>
    obtain ⟨hd, rfl⟩ := hcd (Nat.succ_ne_zero _)
    obtain ⟨fe, hf, h⟩ := oN_s h
    obtain ⟨v, a, r, rfl, h⟩ := pVA_s h
    obtain ⟨fds, hfo, h⟩ := oN_s h
    obtain ⟨d, hfd, h⟩ := oN_s h
    have hsh := objf_sh hfo
    obtain ⟨C0, T0, N0, g1, g2, g3, g4, g5, g6⟩ := fld_ok hft hf hsh hfd
    obtain ⟨ty, k1, k2, k3⟩ := cls_ok _ _ _ _ g1
    have hln : fe.2.1 < (fvs q σ a 0 fds).length := by rw [fvs_len]; exact (List.getElem?_eq_some_iff.mp hfd).1
    match d, h, hfd, g4, g5, g6 with
    | 0, h, hfd, g4, g5, g6 =>
      obtain ⟨x, rfl, h⟩ := vI_s h
      refine va_put (D := D) (v := .int x) (ty := .int) hx hb hts k1 ty k2 k3 hown hK hP ((wls_D hq cy σ).weaken (fun _ _ _ z => hAQ _ z)) hS a (wls_at hsh) g1 fe.2.1 g2 (hts _ g3) (fun _ z => z) (g4 rfl).2 (by rw [(g4 rfl).1]; decide +kernel) rfl rfl hln hd (fun H1 locs1 hP1 hD1 hS1 => ?_)
      rw [setF_obj hsh (Or.inl hfd)] at hP1
      exact hk _ _ _ _ hn h H1 locs1 ls hP1 hS1 hL
    | 1, h, hfd, g4, g5, g6 =>
      obtain ⟨x, rfl, h⟩ := vJ_s h
      refine va_put (D := D) (v := .long x) (ty := .long) hx hb hts k1 ty k2 k3 hown hK hP ((wls_D hq cy σ).weaken (fun _ _ _ z => hAQ _ z)) hS a (wls_at hsh) g1 fe.2.1 g2 (hts _ g3) (fun _ z => z) (g5 rfl).2 (by rw [(g5 rfl).1]; decide +kernel) rfl rfl hln hd (fun H1 locs1 hP1 hD1 hS1 => ?_)
      rw [setG_obj hsh hfd] at hP1
      exact hk _ _ _ _ hn h H1 locs1 ls hP1 hS1 hL
    | 2, h, hfd, g4, g5, g6 =>
      obtain ⟨x, rfl, h⟩ := vI_s h
      refine ifs h (fun hx01 h => ?_) (fun _ z => by cases z)
      refine va_put (D := D) (v := .int x) (ty := .boolean) hx hb hts k1 ty k2 k3 hown hK hP ((wls_D hq cy σ).weaken (fun _ _ _ z => hAQ _ z)) hS a (wls_at hsh) g1 fe.2.1 g2 (hts _ g3) (fun _ z => z) (g6 rfl).2 (by rw [(g6 rfl).1]; decide +kernel) (nar_bool hx01).2.1 (nar_bool hx01).2.2 hln hd (fun H1 locs1 hP1 hD1 hS1 => ?_)
      rw [setF_obj hsh (Or.inr hfd)] at hP1
      exact hk _ _ _ _ hn h H1 locs1 ls hP1 hS1 hL
    | r3 + 3, h, hfd, g4, g5, g6 => exact absurd h (by intro z; cases z)
  | iaload =>
    obtain ⟨hd, rfl⟩ := hcd (Nat.succ_ne_zero _)
    obtain ⟨a, i, r, rfl, h1⟩ := pAI_s h
    cases ha : arrn a 0 with
    | some n =>
      rw [ha] at h1
      obtain ⟨v, hv, h3⟩ := bnd_s h1
      obtain ⟨hi, rfl⟩ := xld_s hv
      exact va_iald (D := D) hx hb hK hP a 0 (wls_at (arrn_sh ha)) rfl hi hd (hk _ _ _ _ hn h3 H locs ls hP hS hL)
    | none =>
      rw [ha] at h1
      obtain ⟨hb9, h2⟩ := cnd_s h1
      have ha9 := Nat.eq_of_beq_eq_true hb9
      subst ha9
      obtain ⟨v, hv, h3⟩ := bnd_s h2
      obtain ⟨hi, rfl⟩ := xsc_s hv
      rcases hsc with h0 | ⟨q1, q2, q3⟩
      · rw [h0] at hi; exact absurd (Or.inr (Nat.zero_le _)) hi
      · exact va_sld hx hb q1 q2 q3 hS hi hd (hk _ _ _ _ hn h3 H locs ls hP hS hL)
  | baload =>
    obtain ⟨hd, rfl⟩ := hcd (Nat.succ_ne_zero _)
    obtain ⟨a, i, r, rfl, h⟩ := pAI_s h
    obtain ⟨n, ha, h⟩ := oN_s h
    obtain ⟨v, hv, h⟩ := bnd_s h
    obtain ⟨hi, rfl⟩ := xld_s hv
    exact va_zald (D := D) hx hb hK hP a 2 (wls_at (arrn_sh ha)) rfl hi hd (hk _ _ _ _ hn h H locs ls hP hS hL)
  | laload =>
    obtain ⟨hd, rfl⟩ := hcd (Nat.succ_ne_zero _)
    obtain ⟨a, i, r, rfl, h⟩ := pAI_s h
    obtain ⟨n, ha, h⟩ := oN_s h
    obtain ⟨v, hv, h⟩ := bnd_s h
    obtain ⟨hi, rfl⟩ := xldL_s hv
    exact va_lald (D := D) hx hb hK hP a 1 (wls_at (arrn_sh ha)) rfl hi hd (hk _ _ _ _ hn h H locs ls hP hS hL)
  | aaload =>
    obtain ⟨hd, rfl⟩ := hcd (Nat.succ_ne_zero _)
    obtain ⟨a, i, r, rfl, h⟩ := pAI_s h
    obtain ⟨n, ha, h⟩ := oN_s h
    have hn4 : a = 8 ∧ n = 4 := arr3 ha
    obtain ⟨rfl, rfl⟩ := hn4
    have key : ∀ j : Nat, j < 4 → i = nI j → k (pc + lenOf .aaload) vs (.ref (9 + j) :: r) σ = some r0 → W p l e R s m args below meth c H locs cells slots Q (F0 m pc ls ((Value.int i :: .ref 8 :: r).map (cv q))) := fun j hj hij hkj => by
      have hi : vp_in i 4 := by rw [hij]; exact vp_in_nI hj (by decide)
      have hjn : i.toNatClampNeg = j := by rw [hij]; exact nI_clamp (by omega)
      refine va_aldq (D := D) hx hb hK hP 8 3 (wls_at (arrn_sh ha)) rfl hi hd ?_
      rw [hjn]
      exact hk _ _ _ _ hn hkj H locs ls hP hS hL
    refine ifs h (fun z h => key 0 (by decide) z h) (fun _ h => ifs h (fun z h => key 1 (by decide) z h) (fun _ h => ifs h (fun z h => key 2 (by decide) z h) (fun _ h => ifs h (fun z h => key 3 (by decide) z h) (fun _ z => by cases z))))
  | iastore =>
    obtain ⟨hd, rfl⟩ := hcd (Nat.succ_ne_zero _)
    obtain ⟨a, i, x, r, rfl, h⟩ := pAII_s h
    obtain ⟨n, ha, h⟩ := oN_s h
    obtain ⟨τ, hv, h⟩ := bnd_s h
    obtain ⟨hi, rfl⟩ := xst_s hv
    refine va_iast (D := D) hx hb hK hP ((wls_D hq cy σ).weaken (fun _ _ _ z => hAQ _ z)) hS a 0 (wls_at (arrn_sh ha)) rfl hi hd (fun H1 locs1 hP1 hD1 hS1 => ?_)
    rw [setF_arr (Or.inl rfl) (arrn_sh ha)] at hP1
    exact hk _ _ _ _ hn h H1 locs1 ls hP1 hS1 hL
  | bastore =>
    obtain ⟨hd, rfl⟩ := hcd (Nat.succ_ne_zero _)
    obtain ⟨a, i, x, r, rfl, h⟩ := pAII_s h
    obtain ⟨n, ha, h⟩ := oN_s h
    obtain ⟨τ, hv, h⟩ := bnd_s h
    obtain ⟨hx01, hi, rfl⟩ := xstZ_s hv
    refine va_zast (D := D) hx hb hK hP ((wls_D hq cy σ).weaken (fun _ _ _ z => hAQ _ z)) hS a 2 (wls_at (arrn_sh ha)) rfl hi hd (fun H1 locs1 hP1 hD1 hS1 => ?_)
    rw [(nar_bool hx01).1, setF_arr (Or.inr rfl) (arrn_sh ha)] at hP1
    exact hk _ _ _ _ hn h H1 locs1 ls hP1 hS1 hL
  | lastore =>
    obtain ⟨hd, rfl⟩ := hcd (Nat.succ_ne_zero _)
    obtain ⟨a, i, x, r, rfl, h⟩ := pAIJ_s h
    obtain ⟨n, ha, h⟩ := oN_s h
    obtain ⟨τ, hv, h⟩ := bnd_s h
    obtain ⟨hi, rfl⟩ := xstL_s hv
    refine va_last (D := D) hx hb hK hP ((wls_D hq cy σ).weaken (fun _ _ _ z => hAQ _ z)) hS a 1 (wls_at (arrn_sh ha)) rfl hi hd (fun H1 locs1 hP1 hD1 hS1 => ?_)
    rw [setG_arr (arrn_sh ha)] at hP1
    exact hk _ _ _ _ hn h H1 locs1 ls hP1 hS1 hL
  | arraylength =>
    obtain ⟨hd, rfl⟩ := hcd (Nat.succ_ne_zero _)
    obtain ⟨a, r, rfl, h1⟩ := pA_s h
    obtain ⟨hb9, h2⟩ := cnd_s h1
    rw [Bool.and_eq_true] at hb9
    have ha9 := Nat.eq_of_beq_eq_true hb9.1
    subst ha9
    have hpos := blt_of hb9.2
    rcases hsc with h0 | ⟨q1, q2, q3⟩
    · omega
    · exact va_slen hx hb q1 q2 q3 hS hd (hk _ _ _ _ hn h2 H locs ls hP hS hL)
  | invokevirtual ix =>
    obtain ⟨hd, rfl⟩ := hcd (Nat.succ_ne_zero _)
    exact xs_call C hct hk (stat := false) hn hd h H locs ls hP hS hL
  | invokestatic ix =>
    obtain ⟨hd, rfl⟩ := hcd (Nat.succ_ne_zero _)
    exact xs_call C hct hk (stat := true) hn hd h H locs ls hP hS hL
  | ireturn =>
    obtain ⟨hd, rfl⟩ := hcd (Nat.succ_ne_zero _)
    match st, h with
    | [.int v], h => exact hRI v σ h pc ls H locs hd hP hS
  | lreturn =>
    obtain ⟨hd, rfl⟩ := hcd (Nat.succ_ne_zero _)
    match st, h with
    | [.long v], h => exact hRL v σ h pc ls H locs hd hP hS
  | return_ =>
    obtain ⟨hd, rfl⟩ := hcd (Nat.succ_ne_zero _)
    match st, h with
    | [], h => exact hRV σ h pc ls H locs hd hP hS
  | _ =>
    exact absurd (show (none : Option β) = some r0 from h) (fun z => by cases z)
end SOUND2
end
section
-- methods over the small machine
section METH
variable {β : Type}
/-- 'o' is what the method's code comes to from there, in every context -/
def GO (cc : ByteArray) (own : String) (nL lvl : Nat) (sc : Scr) (RI : Int32 → Wd → Option β) (RL : Int64 → Wd → Option β) (RV : Wd → Option β) (o : Option β) (pc : Nat) (vs st : List Value) (σ : Wd) : Prop :=
  ∀ (p : Program) (l : Launch) (e : Env) (R : Room) (s : State) (m : MethodId) (args : Array Value) (below : List Frame) (meth : Method) (c : Code) (cells slots : Nat) (Q : State → Prop) (D : va_G) (q : Nat → Nat) (cy : Nat → ClassId) (A : Nat → Prop) (r0 : β),
    XC p R s m args c cc own nL D q cy A sc lvl cells slots →
    (∀ (v : Int32) (σ : Wd), RI v σ = some r0 → ∀ (pc : Nat) (ls : Array Slot) (H : Heap) (locs : List Loc), decode cc pc = .ok (.ireturn, 1) → va_P D clsL (wls q cy σ) H → va_S A s.heap H locs → W p l e R s m args below meth c H locs cells slots Q (F0 m pc ls [.int v])) →
    (∀ (v : Int64) (σ : Wd), RL v σ = some r0 → ∀ (pc : Nat) (ls : Array Slot) (H : Heap) (locs : List Loc), decode cc pc = .ok (.lreturn, 1) → va_P D clsL (wls q cy σ) H → va_S A s.heap H locs → W p l e R s m args below meth c H locs cells slots Q (F0 m pc ls [.long v])) →
    (∀ (σ : Wd), RV σ = some r0 → ∀ (pc : Nat) (ls : Array Slot) (H : Heap) (locs : List Loc), decode cc pc = .ok (.return_, 1) → va_P D clsL (wls q cy σ) H → va_S A s.heap H locs → W p l e R s m args below meth c H locs cells slots Q (F0 m pc ls [])) →
    WG p l e R s m args below meth c nL D q cy A cells slots Q r0 o pc vs st σ
def MDOK (T : List (Nat × Ent)) (ft : List (Nat × FTE)) (lt : List (Nat × Int64)) (ct : List (Nat × Cal)) (cc : ByteArray) (own : String) (lvl : Nat) : Prop :=
  T.all (chk cc) = true ∧ ft.all (fun e => fldchk own e && shchk e) = true ∧ lt.all (ltchk own) = true ∧ ∀ e ∈ ct, CalOK lvl own e
def pick (kl : List (Nat × (List Value → List Value → Wd → Option β))) : PK β := fun pc vs st σ => oN (fnd kl pc) fun f => f vs st σ
variable {cc : ByteArray} {own : String} {nL lvl : Nat} {sc : Scr} {RI : Int32 → Wd → Option β} {RL : Int64 → Wd → Option β} {RV : Wd → Option β} {T : List (Nat × Ent)} {ft : List (Nat × FTE)} {lt : List (Nat × Int64)} {ct : List (Nat × Cal)}
theorem GO.none {pc : Nat} {vs st : List Value} {σ : Wd} : GO cc own nL lvl sc RI RL RV (none : Option β) pc vs st σ := by
  intro p l e R s m args below meth c cells slots Q D q cy A r0 _ _ _ _ h
  cases h
theorem GO.mask {o : Option β} {pc : Nat} {vs st : List Value} {σ : Wd} (bs : List Bool) (h : GO cc own nL lvl sc RI RL RV o pc (msk bs vs) st σ) : GO cc own nL lvl sc RI RL RV o pc vs st σ := by
  intro p l e R s m args below meth c cells slots Q D q cy A r0 C h1 h2 h3 ho H locs ls hP hS hL
  exact h p l e R s m args below meth c cells slots Q D q cy A r0 C h1 h2 h3 ho H locs ls hP hS (hL.mask bs)
theorem GO.cnd {o : Option β} {pc : Nat} {vs st : List Value} {σ : Wd} {b : Bool} (h : b = true → GO cc own nL lvl sc RI RL RV o pc vs st σ) : GO cc own nL lvl sc RI RL RV (cond b o .none) pc vs st σ := by
  cases b with
  | true => exact h rfl
  | false => exact GO.none
theorem GO.run (M : MDOK T ft lt ct cc own lvl) {kl : List (Nat × (List Value → List Value → Wd → Option β))} (hkl : ∀ z ∈ kl, ∀ vs st σ, GO cc own nL lvl sc RI RL RV (z.2 vs st σ) z.1 vs st σ) : ∀ (N : Nat) {pc : Nat} {vs st : List Value} {σ : Wd}, vs.length = nL → GO cc own nL lvl sc RI RL RV (xrun T ft lt ct sc RI RL RV (kl.map (·.1)) (pick kl) N pc vs st σ) pc vs st σ
  | 0, pc, vs, st, σ, hn => GO.none
  | N + 1, pc, vs, st, σ, hn => by
    intro p l e R s m args below meth c cells slots Q D q cy A r0 C h1 h2 h3 ho H locs ls hP hS hL
    obtain ⟨hT, hft, hlt, hct⟩ := M
    unfold xrun at ho
    obtain ⟨⟨ins, nx, ts⟩, hf, ho2⟩ := oN_s ho
    have hc := List.all_eq_true.mp hT _ (fnd_mem _ _ _ hf)
    refine xstep_ok C hft hlt hct h1 h2 h3 (fun pc2 vs2 st2 σ2 hn2 => ?_) hc hn ho2 H locs ls hP hS hL
    cases hcut : inC (kl.map (·.1)) pc2 with
    | false => rw [cond_false]; exact GO.run ⟨hT, hft, hlt, hct⟩ hkl N hn2 p l e R s m args below meth c cells slots Q D q cy A r0 C h1 h2 h3
    | true =>
      rw [cond_true]
      intro hpick
      obtain ⟨f, hff, hfo⟩ := oN_s hpick
      exact hkl _ (fnd_mem _ _ _ hff) vs2 st2 σ2 p l e R s m args below meth c cells slots Q D q cy A r0 C h1 h2 h3 hfo
theorem GO.to (M : MDOK T ft lt ct cc own lvl) {kl : List (Nat × (List Value → List Value → Wd → Option β))} (hkl : ∀ z ∈ kl, ∀ vs st σ, GO cc own nL lvl sc RI RL RV (z.2 vs st σ) z.1 vs st σ) (N : Nat) {pc : Nat} {vs st : List Value} {σ : Wd} (hn : vs.length = nL) {o : Option β} (ho : o = xrun T ft lt ct sc RI RL RV (kl.map (·.1)) (pick kl) N pc vs st σ) : GO cc own nL lvl sc RI RL RV o pc vs st σ := ho ▸ GO.run M hkl N hn
end METH
def sc0 : Scr := (0, fun _ => 0)
def rI (v : Int32) (σ : Wd) : Option (Int32 × Wd) := some (v, σ)
def rZ (v : Int32) (σ : Wd) : Option (Int32 × Wd) := if v = 0 ∨ v = 1 then some (v, σ) else none
def rJ (v : Int64) (σ : Wd) : Option (Int64 × Wd) := some (v, σ)
def nI0 {β : Type} (_ : Int32) (_ : Wd) : Option β := none
def nJ0 {β : Type} (_ : Int64) (_ : Wd) : Option β := none
def nV0 {β : Type} (_ : Wd) : Option β := none
section CT
variable {cc : ByteArray} {own : String} {nL lvl : Nat} {y : MethodName}
theorem XC.of {l : Launch} {p : Program} {e : Env} {s : State} {m : MethodId} {args : Array Value} {below : List Frame} {meth : Method} {c : Code} {s₁ : State} {ret : Option FieldType} {D : va_G} {q : Nat → Nat} {cy : Nat → ClassId} (B : BodyLoose p l y (headSpec (wsM y cc nL ret) (rmL lvl)) cc nL ret e s m args below meth c s₁) (hml : c.maxLocals = nL) (ho : y.cls = own) (hK : va_K D clsL (tysL cy) s) (hq : QI q) : XC p (headSpec (wsM y cc nL ret) (rmL lvl)).room s m args c cc own nL D q cy (AQ q) sc0 lvl 0 0 := by
  have hts := atoms_spec (ws := wsM y cc nL ret) B.pre
  exact ⟨B.exec, B.bytes, hml, by rw [← ho]; exact findClass_of_methodNamed B.named, fun w hw => hts w (List.mem_cons_of_mem _ hw), hK, hq, Or.inl rfl, Nat.le_refl _, Nat.le_refl _, Nat.le_refl _, Nat.le_refl _, fun _ z => z⟩
theorem slen {q : Nat → Nat} {as : List Value} {nL : Nat} (h : (lg_sl as).length ≤ nL) : (lg_sl (as.map (cv q))).length ≤ nL := by
  rw [show (lg_sl (as.map (cv q))).length = (lg_sl as).length from ?_]
  · exact h
  · simp only [lg_sl, List.length_flatMap, List.map_map]
    congr 1
    apply List.map_congr_left
    intro v _
    simp only [Function.comp, cv_cat]
    split <;> rfl
theorem CTI.of {f : List Value → Wd → Option (Int32 × Wd)} (hy : plainName y.cls = true) (ho : y.cls = own) (hf : ∀ (as : List Value) (σ : Wd) (r : (Int32 × Wd)), f as σ = some r → (lg_sl as).length ≤ nL ∧ GO cc own nL lvl sc0 rI nJ0 nV0 (f as σ) 0 (pad nL (lay as)) [] σ) : CTI lvl y cc nL (some .int) f := by
  intro l D q cy hq as σ r τ hr
  refine Met.ofW (cc := cc) (maxL := nL) (ret := (some .int)) hy rfl ?_
  intro p e s m args below meth c s₁ B hml hv
  obtain ⟨rfl, hP, hK⟩ := hv
  obtain ⟨hlen, hgo⟩ := hf as σ _ hr
  have hl := lv_entry (as.map (cv q)) (slen hlen)
  rw [lg_entry_eq]
  refine hgo p l e _ s m _ below meth c 0 0 _ D q cy (AQ q) _ (XC.of B hml ho hK hq) (fun v σ2 h1 pc ls H locs hd hP1 hS1 => ?_) (fun v σ2 h1 => by cases h1) (fun σ2 h1 => by cases h1) hr s.heap [] _ hP va_S.rf (LH.entry hl)
  obtain ⟨rfl, rfl⟩ : v = r ∧ σ2 = τ := by
    have h2 := Option.some.inj h1
    exact ⟨congrArg Prod.fst h2, congrArg Prod.snd h2⟩
  exact W.iret (v := v) B.exec B.bytes B.returns (fun t ht hW => ⟨⟨v, σ2, rfl, ⟨rfl, rfl⟩, by rw [ht]; exact hP1, va_K.moved hW.alike hK⟩, hS1.F ht⟩) hS1.2.2 hd B.notSynchronized
theorem CTZ.of {f : List Value → Wd → Option (Int32 × Wd)} (hy : plainName y.cls = true) (ho : y.cls = own) (hf : ∀ (as : List Value) (σ : Wd) (r : (Int32 × Wd)), f as σ = some r → (lg_sl as).length ≤ nL ∧ GO cc own nL lvl sc0 rZ nJ0 nV0 (f as σ) 0 (pad nL (lay as)) [] σ) : CTI lvl y cc nL (some .boolean) f := by
  intro l D q cy hq as σ r τ hr
  refine Met.ofW (cc := cc) (maxL := nL) (ret := (some .boolean)) hy rfl ?_
  intro p e s m args below meth c s₁ B hml hv
  obtain ⟨rfl, hP, hK⟩ := hv
  obtain ⟨hlen, hgo⟩ := hf as σ _ hr
  have hl := lv_entry (as.map (cv q)) (slen hlen)
  rw [lg_entry_eq]
  refine hgo p l e _ s m _ below meth c 0 0 _ D q cy (AQ q) _ (XC.of B hml ho hK hq) (fun v σ2 h1 pc ls H locs hd hP1 hS1 => ?_) (fun v σ2 h1 => by cases h1) (fun σ2 h1 => by cases h1) hr s.heap [] _ hP va_S.rf (LH.entry hl)
  by_cases h01 : v = 0 ∨ v = 1
  · unfold rZ at h1
    rw [if_pos h01] at h1
    obtain ⟨rfl, rfl⟩ : v = r ∧ σ2 = τ := by
      have h2 := Option.some.inj h1
      exact ⟨congrArg Prod.fst h2, congrArg Prod.snd h2⟩
    exact W.zret (v := v) B.exec B.bytes B.returns (nar_bool h01).2.1 (fun t ht hW => ⟨⟨v, σ2, rfl, ⟨rfl, rfl⟩, by rw [ht]; exact hP1, va_K.moved hW.alike hK⟩, hS1.F ht⟩) hS1.2.2 hd B.notSynchronized
  · unfold rZ at h1
    rw [if_neg h01] at h1
    cases h1
theorem CTL.of {f : List Value → Wd → Option (Int64 × Wd)} (hy : plainName y.cls = true) (ho : y.cls = own) (hf : ∀ (as : List Value) (σ : Wd) (r : (Int64 × Wd)), f as σ = some r → (lg_sl as).length ≤ nL ∧ GO cc own nL lvl sc0 nI0 rJ nV0 (f as σ) 0 (pad nL (lay as)) [] σ) : CTL lvl y cc nL (some .long) f := by
  intro l D q cy hq as σ r τ hr
  refine Met.ofW (cc := cc) (maxL := nL) (ret := (some .long)) hy rfl ?_
  intro p e s m args below meth c s₁ B hml hv
  obtain ⟨rfl, hP, hK⟩ := hv
  obtain ⟨hlen, hgo⟩ := hf as σ _ hr
  have hl := lv_entry (as.map (cv q)) (slen hlen)
  rw [lg_entry_eq]
  refine hgo p l e _ s m _ below meth c 0 0 _ D q cy (AQ q) _ (XC.of B hml ho hK hq) (fun v σ2 h1 => by cases h1) (fun v σ2 h1 pc ls H locs hd hP1 hS1 => ?_) (fun σ2 h1 => by cases h1) hr s.heap [] _ hP va_S.rf (LH.entry hl)
  obtain ⟨rfl, rfl⟩ : v = r ∧ σ2 = τ := by
    have h2 := Option.some.inj h1
    exact ⟨congrArg Prod.fst h2, congrArg Prod.snd h2⟩
  exact W.lret (v := v) B.exec B.bytes B.returns (fun t ht hW => ⟨⟨v, σ2, rfl, ⟨rfl, rfl⟩, by rw [ht]; exact hP1, va_K.moved hW.alike hK⟩, hS1.F ht⟩) hS1.2.2 hd B.notSynchronized
theorem CTV.of {f : List Value → Wd → Option Wd} (hy : plainName y.cls = true) (ho : y.cls = own) (hf : ∀ (as : List Value) (σ : Wd) (r : Wd), f as σ = some r → (lg_sl as).length ≤ nL ∧ GO cc own nL lvl sc0 nI0 nJ0 some (f as σ) 0 (pad nL (lay as)) [] σ) : CTV lvl y cc nL none f := by
  intro l D q cy hq as σ τ hr
  refine Met.ofW (cc := cc) (maxL := nL) (ret := none) hy rfl ?_
  intro p e s m args below meth c s₁ B hml hv
  obtain ⟨rfl, hP, hK⟩ := hv
  obtain ⟨hlen, hgo⟩ := hf as σ _ hr
  have hl := lv_entry (as.map (cv q)) (slen hlen)
  rw [lg_entry_eq]
  refine hgo p l e _ s m _ below meth c 0 0 _ D q cy (AQ q) _ (XC.of B hml ho hK hq) (fun v σ2 h1 => by cases h1) (fun v σ2 h1 => by cases h1) (fun σ2 h1 pc ls H locs hd hP1 hS1 => ?_) hr s.heap [] _ hP va_S.rf (LH.entry hl)
  obtain rfl : σ2 = τ := Option.some.inj h1
  exact W.vret B.exec B.bytes B.returns (fun t ht hW => ⟨⟨σ2, rfl, rfl, by rw [ht]; exact hP1, va_K.moved hW.alike hK⟩, hS1.F ht⟩) hS1.2.2 hd B.notSynchronized
end CT
end
section
-- places of locals and stacks by pattern
def lookv : List (Nat × Value) → Nat → Value
  | [], _ => .null
  | (k, a) :: t, n => cond (Nat.beq k n) a (lookv t n)
def mkp : Nat → Nat → List (Nat × Value) → List Value
  | _, 0, _ => []
  | i, n + 1, l => lookv l i :: mkp (i + 1) n l
def allP : List (Nat × Value) → List Value → Prop
  | [], _ => True
  | z :: l, vs => vs[z.1]? = some z.2 ∧ allP l vs
theorem lookv_mem : ∀ (l : List (Nat × Value)) (n : Nat) (v : Value), lookv l n = v → v ≠ .null → (n, v) ∈ l
  | [], n, v, h, hn => absurd h.symm hn
  | (k, a) :: t, n, v, h, hn => by
    simp only [lookv] at h
    cases hb : Nat.beq k n with
    | true => rw [hb, cond_true] at h; rw [← Nat.eq_of_beq_eq_true hb, h]; exact List.mem_cons_self
    | false => rw [hb, cond_false] at h; exact List.mem_cons_of_mem _ (lookv_mem t n v h hn)
theorem mkp_get : ∀ (n i j : Nat) (l : List (Nat × Value)) (v : Value), (mkp i n l)[j]? = some v → v ≠ .null → (i + j, v) ∈ l
  | 0, i, j, l, v, h, hn => by simp [mkp] at h
  | n + 1, i, 0, l, v, h, hn => by
    simp only [mkp, List.getElem?_cons_zero, Option.some.injEq] at h
    exact lookv_mem l i v h hn
  | n + 1, i, j + 1, l, v, h, hn => by
    simp only [mkp, List.getElem?_cons_succ] at h
    have := mkp_get n (i + 1) j l v h hn
    rw [show i + (j + 1) = i + 1 + j by omega]
    exact this
theorem allP_mem : ∀ {l : List (Nat × Value)} {vs : List Value} {z : Nat × Value}, allP l vs → z ∈ l → vs[z.1]? = some z.2
  | [], vs, z, h, hz => by cases hz
  | a :: l, vs, z, h, hz => by
    rcases List.mem_cons.mp hz with rfl | hz
    · exact h.1
    · exact allP_mem h.2 hz
section PATS
variable {β : Type}
def kI (i : Nat) (vs : List Value) (k : Int32 → Option β) : Option β := match vs[i]? with
  | some (.int x) => k x
  | _ => none
def kJ (i : Nat) (vs : List Value) (k : Int64 → Option β) : Option β := match vs[i]? with
  | some (.long x) => k x
  | _ => none
def kA (i c : Nat) (vs : List Value) (k : Option β) : Option β := match vs[i]? with
  | some (.ref x) => cond (Nat.beq x c) k none
  | _ => none
def kS0 (st : List Value) (k : Option β) : Option β := match st with
  | [] => k
  | _ => none
def kSI (st : List Value) (k : Int32 → List Value → Option β) : Option β := match st with
  | .int x :: r => k x r
  | _ => none
def kSJ (st : List Value) (k : Int64 → List Value → Option β) : Option β := match st with
  | .long x :: r => k x r
  | _ => none
def kSA (c : Nat) (st : List Value) (k : List Value → Option β) : Option β := match st with
  | .ref x :: r => cond (Nat.beq x c) (k r) none
  | _ => none
theorem kS0_s {st : List Value} {k : Option β} {r : β} (h : kS0 st k = some r) : st = [] ∧ k = some r := by
  unfold kS0 at h; split at h
  · exact ⟨rfl, h⟩
  · cases h
theorem kSI_s {st : List Value} {k : Int32 → List Value → Option β} {r : β} (h : kSI st k = some r) : ∃ x rs, st = .int x :: rs ∧ k x rs = some r := by
  unfold kSI at h; split at h
  · exact ⟨_, _, rfl, h⟩
  · cases h
theorem kSJ_s {st : List Value} {k : Int64 → List Value → Option β} {r : β} (h : kSJ st k = some r) : ∃ x rs, st = .long x :: rs ∧ k x rs = some r := by
  unfold kSJ at h; split at h
  · exact ⟨_, _, rfl, h⟩
  · cases h
theorem kSA_s {c : Nat} {st : List Value} {k : List Value → Option β} {r : β} (h : kSA c st k = some r) : ∃ rs, st = .ref c :: rs ∧ k rs = some r := by
  unfold kSA at h; split at h
  · rename_i x rs
    cases hb : Nat.beq x c with
    | true => rw [hb] at h; have := Nat.eq_of_beq_eq_true hb; subst this; exact ⟨_, rfl, h⟩
    | false => rw [hb] at h; cases h
  · cases h
variable {cc : ByteArray} {own : String} {nL lvl : Nat} {sc : Scr} {RI : Int32 → Wd → Option β} {RL : Int64 → Wd → Option β} {RV : Wd → Option β} {o : Option β} {pc : Nat} {vs st : List Value} {σ : Wd}
theorem GO.pat (l : List (Nat × Value)) (hl : allP l vs) (h : GO cc own nL lvl sc RI RL RV o pc (mkp 0 nL l) st σ) : GO cc own nL lvl sc RI RL RV o pc vs st σ := by
  intro p l2 e R s m args below meth c cells slots Q D q cy A r0 C h1 h2 h3 ho H locs ls hP hS hL
  refine h p l2 e R s m args below meth c cells slots Q D q cy A r0 C h1 h2 h3 ho H locs ls hP hS ⟨hL.1, hL.2.1, fun j w hj hn => ?_⟩
  have h9 := mkp_get nL 0 j l w hj hn
  rw [Nat.zero_add] at h9
  exact hL.2.2 j w (allP_mem hl h9) hn
theorem go_kI {i : Nat} {k : Int32 → Option β} (h : ∀ x, vs[i]? = some (.int x) → GO cc own nL lvl sc RI RL RV (k x) pc vs st σ) : GO cc own nL lvl sc RI RL RV (kI i vs k) pc vs st σ := by
  unfold kI
  split
  · rename_i x hx; exact h x hx
  · exact GO.none
theorem go_kJ {i : Nat} {k : Int64 → Option β} (h : ∀ x, vs[i]? = some (.long x) → GO cc own nL lvl sc RI RL RV (k x) pc vs st σ) : GO cc own nL lvl sc RI RL RV (kJ i vs k) pc vs st σ := by
  unfold kJ
  split
  · rename_i x hx; exact h x hx
  · exact GO.none
theorem go_kA {i a : Nat} {k : Option β} (h : vs[i]? = some (.ref a) → GO cc own nL lvl sc RI RL RV k pc vs st σ) : GO cc own nL lvl sc RI RL RV (kA i a vs k) pc vs st σ := by
  unfold kA
  split
  · rename_i x hx
    refine GO.cnd (fun hb => ?_)
    have := Nat.eq_of_beq_eq_true hb
    subst this
    exact h hx
  · exact GO.none
theorem go_kS0 {k : Option β} (h : GO cc own nL lvl sc RI RL RV k pc vs [] σ) : GO cc own nL lvl sc RI RL RV (kS0 st k) pc vs st σ := by
  unfold kS0
  split
  · exact h
  · exact GO.none
end PATS
section PATS2
variable {β : Type}
def kSE (c : Nat) (st : List Value) (k : List Value → Option β) (e : Option β) : Option β := match st with
  | .ref x :: r => cond (Nat.beq x c) (k r) e
  | _ => none
def kAE (i c : Nat) (vs : List Value) (k e : Option β) : Option β := match vs[i]? with
  | some (.ref x) => cond (Nat.beq x c) k e
  | _ => none
theorem kSE_s {c : Nat} {st : List Value} {k : List Value → Option β} {e : Option β} {r : β} (h : kSE c st k e = some r) : (∃ rs, st = .ref c :: rs ∧ k rs = some r) ∨ e = some r := by
  unfold kSE at h; split at h
  · rename_i x rs
    cases hb : Nat.beq x c with
    | true => rw [hb] at h; have := Nat.eq_of_beq_eq_true hb; subst this; exact Or.inl ⟨_, rfl, h⟩
    | false => rw [hb] at h; exact Or.inr h
  · cases h
def kSti (st : List Value) (k : Int32 → Option β) : Option β := match st with
  | [.int x] => k x
  | _ => none
def kStii (st : List Value) (k : Int32 → Int32 → Option β) : Option β := match st with
  | [.int y, .int x] => k x y
  | _ => none
def kStai (c : Nat) (st : List Value) (k : Int32 → Option β) : Option β := match st with
  | [.int y, .ref x] => cond (Nat.beq x c) (k y) none
  | _ => none
def kStaii (c : Nat) (st : List Value) (k : Int32 → Int32 → Option β) : Option β := match st with
  | [.int z, .int y, .ref x] => cond (Nat.beq x c) (k y z) none
  | _ => none
def kStaiii (c : Nat) (st : List Value) (k : Int32 → Int32 → Int32 → Option β) : Option β := match st with
  | [.int w, .int z, .int y, .ref x] => cond (Nat.beq x c) (k y z w) none
  | _ => none
def kStj (st : List Value) (k : Int64 → Option β) : Option β := match st with
  | [.long x] => k x
  | _ => none
def xsh (i : Int32) (k : Nat → Option β) : Option β := if i = 0 then k 9 else if i = 1 then k 10 else if i = 2 then k 11 else if i = 3 then k 12 else none
variable {cc : ByteArray} {own : String} {nL lvl : Nat} {sc : Scr} {RI : Int32 → Wd → Option β} {RL : Int64 → Wd → Option β} {RV : Wd → Option β} {o : Option β} {pc : Nat} {vs st : List Value} {σ : Wd}
theorem go_kSti {k : Int32 → Option β} (h : ∀ x, GO cc own nL lvl sc RI RL RV (k x) pc vs [.int x] σ) : GO cc own nL lvl sc RI RL RV (kSti st k) pc vs st σ := by
  unfold kSti; split
  · exact h _
  · exact GO.none
theorem go_kStii {k : Int32 → Int32 → Option β} (h : ∀ x y, GO cc own nL lvl sc RI RL RV (k x y) pc vs [.int y, .int x] σ) : GO cc own nL lvl sc RI RL RV (kStii st k) pc vs st σ := by
  unfold kStii; split
  · exact h _ _
  · exact GO.none
theorem go_kStai {c : Nat} {k : Int32 → Option β} (h : ∀ y, GO cc own nL lvl sc RI RL RV (k y) pc vs [.int y, .ref c] σ) : GO cc own nL lvl sc RI RL RV (kStai c st k) pc vs st σ := by
  unfold kStai; split
  · refine GO.cnd (fun hb => ?_)
    have := Nat.eq_of_beq_eq_true hb
    subst this
    exact h _
  · exact GO.none
theorem go_kStaii {c : Nat} {k : Int32 → Int32 → Option β} (h : ∀ y z, GO cc own nL lvl sc RI RL RV (k y z) pc vs [.int z, .int y, .ref c] σ) : GO cc own nL lvl sc RI RL RV (kStaii c st k) pc vs st σ := by
  unfold kStaii; split
  · refine GO.cnd (fun hb => ?_)
    have := Nat.eq_of_beq_eq_true hb
    subst this
    exact h _ _
  · exact GO.none
theorem go_kStaiii {c : Nat} {k : Int32 → Int32 → Int32 → Option β} (h : ∀ y z w, GO cc own nL lvl sc RI RL RV (k y z w) pc vs [.int w, .int z, .int y, .ref c] σ) : GO cc own nL lvl sc RI RL RV (kStaiii c st k) pc vs st σ := by
  unfold kStaiii; split
  · refine GO.cnd (fun hb => ?_)
    have := Nat.eq_of_beq_eq_true hb
    subst this
    exact h _ _ _
  · exact GO.none
theorem go_kStj {k : Int64 → Option β} (h : ∀ x, GO cc own nL lvl sc RI RL RV (k x) pc vs [.long x] σ) : GO cc own nL lvl sc RI RL RV (kStj st k) pc vs st σ := by
  unfold kStj; split
  · exact h _
  · exact GO.none
theorem go_kAE {i a : Nat} {k e : Option β} (h : vs[i]? = some (.ref a) → GO cc own nL lvl sc RI RL RV k pc vs st σ) (h2 : GO cc own nL lvl sc RI RL RV e pc vs st σ) : GO cc own nL lvl sc RI RL RV (kAE i a vs k e) pc vs st σ := by
  unfold kAE; split
  · rename_i x hx
    cases hb : Nat.beq x a with
    | true => have := Nat.eq_of_beq_eq_true hb; subst this; exact h hx
    | false => exact h2
  · exact GO.none
end PATS2
end
section
-- constructors
section NW
variable {p : Program} {l : Launch} {e : Env} {R : Room} {s : State} {m : MethodId} {args : Array Value} {below : List Frame} {meth : Method} {c : Code} {H : Heap} {locs : List Loc} {cells slots : Nat} {Q : State → Prop}
variable {cc : ByteArray} {pc : Nat} {ls : Array Slot} {rest : List Value} {D : va_G} {cl : List vw_C} {A : Nat → Prop} {a : Nat} {tys : List (ClassId × FieldType)} {ws : va_W} {H0 : Heap}
/-- a new array of ints, longs or booleans, its class known already -/
theorem nwA (hexec : p.tables.exec = Jvm.exec) (hb : c.code = cc) {atype : ArrayType} (harr : (Cond.arrayClass (newarray.typeOf atype)).before args s = true) {ty : FieldType} (hty : newarray.typeOf atype = ty) (hK : va_K D cl tys s) {t0 : Nat} {cK : ClassId} (ht0 : tys[t0]? = some (cK, ty)) (hP : va_P D cl ws H) (hD : va_D A ws) (hS : va_S A H0 H locs) (hA : ∀ q, H0.size ≤ q → A q)
    {n : Int32} {N' : Nat} {a0 : vp_A} (ha : ∀ cA : ClassId, vp_cell cA a0 = arrV cA N' (fun _ => defaultValue ty)) (hn : ¬ n < 0) (hN : n.toNatClampNeg = N') (hbytes : N' * componentBytes ty ≤ 536870912) (hcells : cells + 1 ≤ R.cells) (hslots : slots + N' ≤ R.slots) (hdg : decode cc pc = .ok (.newarray atype, 2))
    (kk : ∀ (q : Nat) (H1 : Heap), va_P D cl (ws ++ [(q, .inl (cK, a0))]) H1 → va_D A (ws ++ [(q, .inl (cK, a0))]) → va_S A H0 H1 locs →
      W p l e R s m args below meth c H1 locs (cells + 1) (slots + N') Q (F0 m (pc + 2) ls (.ref q :: rest))) : W p l e R s m args below meth c H locs cells slots Q (F0 m pc ls (.int n :: rest)) := by
  refine va_newa hexec hb harr hty hK hP hD hS hA ha hn hN hbytes hcells hslots hdg (fun q cA H1 hK1 hP1 hD1 hS1 => ?_)
  have h1 := (hK.2 t0 _ ht0).2
  have h2 := (hK1.2 tys.length (cA, ty) (by simp)).2
  subst hty
  have h3 : cA = cK := by
    cases atype <;> exact Option.some.inj (Eq.trans (Eq.symm h2) h1)
  subst h3
  exact kk q H1 hP1 hD1 hS1
theorem nwQ (hexec : p.tables.exec = Jvm.exec) (hb : c.code = cc) {own C : String} {index : Nat} (hown : s.vm.findClass own = some m.cls) (hclink : (Cond.classLink own index C).before args s = true) (hover : va_AO C s) (hK : va_K D cl tys s) {cK : ClassId} (ht0 : tys[3]? = some (cK, .object C)) (hP : va_P D cl ws H) (hD : va_D A ws) (hS : va_S A H0 H locs) (hA : ∀ q, H0.size ≤ q → A q)
    {n : Int32} {N' : Nat} (hn : ¬ n < 0) (hN : n.toNatClampNeg = N') (hbytes : N' * 4 ≤ 536870912) (hcells : cells + 1 ≤ R.cells) (hslots : slots + N' ≤ R.slots) (hdg : decode cc pc = .ok (.anewarray index, 3))
    (kk : ∀ (q : Nat) (H1 : Heap), va_P D cl (ws ++ [(q, .inl (cK, N', .inr (.inr (.inr (.inr (fun _ => none))))))]) H1 → va_D A (ws ++ [(q, .inl (cK, N', .inr (.inr (.inr (.inr (fun _ => none))))))]) → va_S A H0 H1 locs →
      W p l e R s m args below meth c H1 locs (cells + 1) (slots + N') Q (F0 m (pc + 3) ls (.ref q :: rest))) : W p l e R s m args below meth c H locs cells slots Q (F0 m pc ls (.int n :: rest)) := by
  refine va_newq hexec hb hown hclink hover hK hP hD hS hA hn hN hbytes hcells hslots hdg (fun q cA H1 hK1 hP1 hD1 hS1 => ?_)
  obtain ⟨-, -, -, -, -, h1⟩ := (hK.2 3 _ ht0).2
  obtain ⟨-, -, -, -, -, h2⟩ := (hK1.2 tys.length (cA, .object C) (by simp)).2
  have h3 : cA = cK := Option.some.inj (Eq.trans (Eq.symm h2) h1)
  subst h3
  exact kk q H1 hP1 hD1 hS1
end NW
theorem wsM_in {y : MethodName} {bytes : ByteArray} {maxL : Nat} {ret : Option FieldType} (h : inT (.code y bytes maxL ret) = true) : ∀ w ∈ wsM y bytes maxL ret, w ∈ WT := fun w hw => by
  rcases List.mem_cons.mp hw with rfl | hw
  · exact inT_mem h
  · exact hw
theorem PcN_blind {D : va_G} {cy : Nat → ClassId} {h0 sz : Nat} {w : va_W} : FrameBlind (va_Pc [.ref h0] (fun U => U.heap.size = sz ∧ va_P D clsL w U.heap ∧ va_K D clsL (tysL cy) U ∧ va_D (fun _ => True) w)) := fun a U g mk q => by
  obtain ⟨q0, q1, qP, qK, qD⟩ := q
  exact ⟨q0, q1, qP, va_K.moved (u := U) (U := U.calling g mk a) (Vm.Alike.refl U.vm) qK, qD⟩
theorem PcN9_blind {D : va_G} {cy : Nat → ClassId} {h0 sz : Nat} {w : va_W} : FrameBlind (va_Pc [.ref h0] (fun U => U.heap.size = sz ∧ va_P D clsL w U.heap ∧ va_K D clsL (tysL cy) U ∧ va_D (fun _ => True) w ∧ va_AO "AdderChooser$Shelf" U ∧ va_Nw (.methodLinkNest RX9 11 yX7_init "AdderChooser") U ∧ va_Nw (.methodLinkNest RX9 20 yX3_init "AdderChooser") U ∧ va_Nw (.methodLinkNest RX9 27 yX1_init "AdderChooser") U ∧ va_Nw (.methodLinkNest RX9 34 yX2_init "AdderChooser") U ∧ va_Nw (.methodLinkNest RX9 41 yX8_init "AdderChooser") U ∧ va_Nw (.methodLinkNest RX9 48 yX6_init "AdderChooser") U ∧ va_Nw (.methodLinkNest RX9 55 yX4_init "AdderChooser") U ∧ va_Nw (.methodLinkNest RX9 66 yX5_init "AdderChooser") U)) := fun a U g mk q => by
  obtain ⟨q0, q1, qP, qK, qD, qA, qN⟩ := q
  refine ⟨q0, q1, qP, va_K.moved (u := U) (U := U.calling g mk a) (Vm.Alike.refl U.vm) qK, qD, va_AO.moved (u := U) (U := U.calling g mk a) (Vm.Alike.refl U.vm) qA, ?_⟩
  obtain ⟨n11, n20, n27, n34, n41, n48, n55, n66⟩ := qN
  exact ⟨va_Nw.same rfl (U := U.calling g mk a) rfl n11, va_Nw.same rfl (U := U.calling g mk a) rfl n20, va_Nw.same rfl (U := U.calling g mk a) rfl n27, va_Nw.same rfl (U := U.calling g mk a) rfl n34, va_Nw.same rfl (U := U.calling g mk a) rfl n41, va_Nw.same rfl (U := U.calling g mk a) rfl n48, va_Nw.same rfl (U := U.calling g mk a) rfl n55, va_Nw.same rfl (U := U.calling g mk a) rfl n66⟩
theorem nwfsX1 : ∀ j, j < 2 → defaultValue (tyX1 j) = vp_V [.null, .int 0] j := by decide +kernel
theorem nwfsX2 : ∀ j, j < 15 → defaultValue (tyX2 j) = vp_V [.null, .null, .null, .null, .null, .int 0, .int 0, .int 0, .null, .null, .null, .null, .null, .null, .null] j := by decide +kernel
theorem nwfsX3 : ∀ j, j < 3 → defaultValue (tyX3 j) = vp_V [.null, .null, .int 0] j := by decide +kernel
theorem nwfsX4 : ∀ j, j < 8 → defaultValue (tyX4 j) = vp_V [.int 0, .int 0, .int 0, .int 0, .long 0, .int 0, .int 0, .int 0] j := by decide +kernel
theorem nwfsX5 : ∀ j, j < 4 → defaultValue (tyX5 j) = vp_V [.null, .int 0, .int 0, .long 0] j := by decide +kernel
theorem nwfsX6 : ∀ j, j < 4 → defaultValue (tyX6 j) = vp_V [.int 0, .null, .long 0, .int 0] j := by decide +kernel
theorem nwfsX7 : ∀ j, j < 3 → defaultValue (tyX7 j) = vp_V [.null, .int 0, .long 0] j := by decide +kernel
theorem nwfsX8 : ∀ j, j < 6 → defaultValue (tyX8 j) = vp_V [.null, .null, .null, .null, .null, .null] j := by decide +kernel
theorem nwfsX9 : ∀ j, j < 9 → defaultValue (tyX9 j) = vp_V [.null, .null, .null, .null, .null, .null, .null, .null, .null] j := by decide +kernel
theorem nwfsX10 : ∀ j, j < 47 → defaultValue (tyX10 j) = vp_V [.null, .null, .null, .null, .int 0, .null, .null, .null, .int 0, .int 0, .int 0, .int 0, .null, .null, .int 0, .null, .null, .null, .null, .null, .null, .null, .null, .null, .null, .null, .null, .int 0, .int 0, .int 0, .int 0, .int 0, .int 0, .null, .null, .int 0, .int 0, .int 0, .int 0, .int 0, .int 0, .null, .null, .null, .null, .null, .null] j := by decide +kernel
theorem dX7_init_0 : decode cX7_init 0 = .ok (.aload_n 0, 1) := by decide +kernel
theorem dX7_init_1 : decode cX7_init 1 = .ok (.invokespecial 3, 3) := by decide +kernel
theorem dX7_init_4 : decode cX7_init 4 = .ok (.aload_n 0, 1) := by decide +kernel
theorem dX7_init_5 : decode cX7_init 5 = .ok (.bipush 40, 2) := by decide +kernel
theorem dX7_init_7 : decode cX7_init 7 = .ok (.newarray .int, 2) := by decide +kernel
theorem dX7_init_9 : decode cX7_init 9 = .ok (.putfield 11, 3) := by decide +kernel
theorem dX7_init_12 : decode cX7_init 12 = .ok (.return_, 1) := by decide +kernel
set_option maxHeartbeats 4000000 in
set_option maxRecDepth 100000 in
theorem N_X7 (l : Launch) (D : va_G) (cy : Nat → ClassId) (h0 sz : Nat) : Met l yX7_init (wsM yX7_init cX7_init 1 none) ({ frames := 2, cells := 1, slots := 40, locals := 128 }) (va_Pc [.ref h0] (fun U => U.heap.size = sz ∧ va_P D clsL [(h0, .inr (6, [.null, .int 0, .long 0]))] U.heap ∧ va_K D clsL (tysL cy) U ∧ va_D (fun _ => True) [(h0, .inr (6, [.null, .int 0, .long 0]))])) (va_Qv (fun _ : Nat → Nat => True) (fun g t => va_P D clsL [(h0, .inr (6, [.ref (g 0), .int 0, .long 0])), ((g 0), .inl (cy 0, 40, .inl (fun _ => 0)))] t.heap ∧ va_K D clsL (tysL cy) t ∧ va_D (va_A [(h0, .inr (6, [.null, .int 0, .long 0]))] sz) [(h0, .inr (6, [.ref (g 0), .int 0, .long 0])), ((g 0), .inl (cy 0, 40, .inl (fun _ => 0)))]) (va_A [(h0, .inr (6, [.null, .int 0, .long 0]))] sz)) 1 40 (va_A [(h0, .inr (6, [.null, .int 0, .long 0]))] sz) := by
  refine Met.ofW (cc := cX7_init) (maxL := 1) (ret := none) (by decide) rfl ?_
  intro p e s m args below meth c s₁ B hml hv
  obtain ⟨rfl, hsz, hP, hK, hD0⟩ := hv
  have hx := B.exec
  have hb := B.bytes
  have hr := B.returns
  have hts : ∀ w ∈ WT, w.before [Value.ref h0].toArray s = true := fun w hw => atoms_spec (ws := wsM yX7_init cX7_init 1 none) B.pre w (List.mem_cons_of_mem _ hw)
  have hown : s.vm.findClass RX7 = some m.cls := findClass_of_methodNamed B.named
  have hlocks := B.notSynchronized
  have hin : meth.name = "<init>" := (name_of_methodNamed B.named B.method).1
  subst hsz
  have hD := hD0.self (sz := s.heap.size)
  generalize hAe : va_A [(h0, .inr (6, [.null, .int 0, .long 0]))] s.heap.size = A at hD ⊢
  have hA : ∀ q : Nat, s.heap.size ≤ q → A q := fun q h => by rw [← hAe]; exact Or.inr h
  have hS : va_S A s.heap s.heap [] := va_S.rf
  have hP : va_P D clsL [(h0, .inr (6, [.null, .int 0, .long 0]))] s.heap := hP
  have hl := lv_entry ([.ref h0]) (n := 1) (Nat.le_of_ble_eq_true rfl)
  rw [lg_entry_eq]
  generalize (lg_sl ([.ref h0]) ++ List.replicate (1 - (lg_sl ([.ref h0])).length) Slot.unset).toArray = ls at hl ⊢
  have hl : lv_has ls 1 [(0, .ref h0)] := hl
  refine lv_aload_n hx hb dX7_init_0 rfl (lv_at hl 0 rfl) ?_
  refine W.objInit hx hb hown (hts (.methodLink RX7 3 objectInit) (inT_mem (by decide +kernel))) (hts (.instanceMethod objectInit) (inT_mem (by decide +kernel))) (hts (.code objectInit ⟨#[0xb1]⟩ 1 none) (inT_mem (by decide +kernel))) rfl (by rw [hml]; exact hl.1) rfl dX7_init_1 (Nat.le_of_ble_eq_true rfl) (Nat.le_of_ble_eq_true rfl) ?_
  refine W.eq (g2 := F0 m 4 ls []) rfl ?_
  refine lv_aload_n hx hb dX7_init_4 rfl (lv_at hl 0 rfl) ?_
  refine lv_bipush (v := 40) hx hb dX7_init_5 (by decide) ?_
  refine nwA (atype := .int) (t0 := 0) (N' := 40) (a0 := (40, .inl (fun _ => 0))) hx hb (hts (.arrayClass .int) (inT_mem (by decide +kernel))) rfl hK rfl hP hD hS hA (fun _ => rfl) (by decide) (by decide) (Nat.le_of_ble_eq_true rfl) (Nat.le_of_ble_eq_true rfl) (Nat.le_of_ble_eq_true rfl) dX7_init_7 (fun q0 H hP hD hS => ?_)
  have hP : va_P D clsL [(h0, .inr (6, [.null, .int 0, .long 0])), (q0, .inl (cy 0, 40, .inl (fun _ => 0)))] H := hP
  have hD : va_D A [(h0, .inr (6, [.null, .int 0, .long 0])), (q0, .inl (cy 0, 40, .inl (fun _ => 0)))] := hD
  refine W.widen (k := 1) (n := 40) (Nat.le_of_ble_eq_true rfl) (Nat.le_of_ble_eq_true rfl) ?_
  refine va_putF (D := D) (ci := 6) (v := .ref q0) (ty := .array .int) (C := RX7) (T := TX7) (N := 3) hx hb hts (inW inX7 (by decide +kernel)) tyX7 tyX7_ok nmX7 hown hK hP hD hS 0 rfl rfl 0 (by decide) (hts (.fieldLink RX7 11 "AdderChooser$Tape" "bytes" "[I") (inT_mem (by decide +kernel))) (fun _ h9 => h9) rfl hin rfl (by decide +kernel) rfl rfl (Nat.le_of_ble_eq_true rfl) dX7_init_9 (fun H _ hP hD hS => ?_)
  have hP : va_P D clsL [(h0, .inr (6, [.ref q0, .int 0, .long 0])), (q0, .inl (cy 0, 40, .inl (fun _ => 0)))] H := hP
  have hD : va_D A [(h0, .inr (6, [.ref q0, .int 0, .long 0])), (q0, .inl (cy 0, 40, .inl (fun _ => 0)))] := hD
  exact W.vret hx hb hr (fun t ht hW => ⟨⟨(fun i => ([q0] : List Nat).getD i 0), rfl, trivial, by rw [ht]; exact hP, va_K.moved hW.alike hK, hD⟩, hS.F ht⟩) hS.2.2 dX7_init_12
theorem dX3_init_0 : decode cX3_init 0 = .ok (.aload_n 0, 1) := by decide +kernel
theorem dX3_init_1 : decode cX3_init 1 = .ok (.invokespecial 3, 3) := by decide +kernel
theorem dX3_init_4 : decode cX3_init 4 = .ok (.aload_n 0, 1) := by decide +kernel
theorem dX3_init_5 : decode cX3_init 5 = .ok (.bipush 12, 2) := by decide +kernel
theorem dX3_init_7 : decode cX3_init 7 = .ok (.newarray .int, 2) := by decide +kernel
theorem dX3_init_9 : decode cX3_init 9 = .ok (.putfield 9, 3) := by decide +kernel
theorem dX3_init_12 : decode cX3_init 12 = .ok (.aload_n 0, 1) := by decide +kernel
theorem dX3_init_13 : decode cX3_init 13 = .ok (.bipush 12, 2) := by decide +kernel
theorem dX3_init_15 : decode cX3_init 15 = .ok (.newarray .long, 2) := by decide +kernel
theorem dX3_init_17 : decode cX3_init 17 = .ok (.putfield 15, 3) := by decide +kernel
theorem dX3_init_20 : decode cX3_init 20 = .ok (.return_, 1) := by decide +kernel
set_option maxHeartbeats 4000000 in
set_option maxRecDepth 100000 in
theorem N_X3 (l : Launch) (D : va_G) (cy : Nat → ClassId) (h0 sz : Nat) : Met l yX3_init (wsM yX3_init cX3_init 1 none) ({ frames := 2, cells := 2, slots := 24, locals := 128 }) (va_Pc [.ref h0] (fun U => U.heap.size = sz ∧ va_P D clsL [(h0, .inr (2, [.null, .null, .int 0]))] U.heap ∧ va_K D clsL (tysL cy) U ∧ va_D (fun _ => True) [(h0, .inr (2, [.null, .null, .int 0]))])) (va_Qv (fun _ : Nat → Nat => True) (fun g t => va_P D clsL [(h0, .inr (2, [.ref (g 0), .ref (g 1), .int 0])), ((g 0), .inl (cy 0, 12, .inl (fun _ => 0))), ((g 1), .inl (cy 1, 12, .inr (.inl (fun _ => 0))))] t.heap ∧ va_K D clsL (tysL cy) t ∧ va_D (va_A [(h0, .inr (2, [.null, .null, .int 0]))] sz) [(h0, .inr (2, [.ref (g 0), .ref (g 1), .int 0])), ((g 0), .inl (cy 0, 12, .inl (fun _ => 0))), ((g 1), .inl (cy 1, 12, .inr (.inl (fun _ => 0))))]) (va_A [(h0, .inr (2, [.null, .null, .int 0]))] sz)) 2 24 (va_A [(h0, .inr (2, [.null, .null, .int 0]))] sz) := by
  refine Met.ofW (cc := cX3_init) (maxL := 1) (ret := none) (by decide) rfl ?_
  intro p e s m args below meth c s₁ B hml hv
  obtain ⟨rfl, hsz, hP, hK, hD0⟩ := hv
  have hx := B.exec
  have hb := B.bytes
  have hr := B.returns
  have hts : ∀ w ∈ WT, w.before [Value.ref h0].toArray s = true := fun w hw => atoms_spec (ws := wsM yX3_init cX3_init 1 none) B.pre w (List.mem_cons_of_mem _ hw)
  have hown : s.vm.findClass RX3 = some m.cls := findClass_of_methodNamed B.named
  have hlocks := B.notSynchronized
  have hin : meth.name = "<init>" := (name_of_methodNamed B.named B.method).1
  subst hsz
  have hD := hD0.self (sz := s.heap.size)
  generalize hAe : va_A [(h0, .inr (2, [.null, .null, .int 0]))] s.heap.size = A at hD ⊢
  have hA : ∀ q : Nat, s.heap.size ≤ q → A q := fun q h => by rw [← hAe]; exact Or.inr h
  have hS : va_S A s.heap s.heap [] := va_S.rf
  have hP : va_P D clsL [(h0, .inr (2, [.null, .null, .int 0]))] s.heap := hP
  have hl := lv_entry ([.ref h0]) (n := 1) (Nat.le_of_ble_eq_true rfl)
  rw [lg_entry_eq]
  generalize (lg_sl ([.ref h0]) ++ List.replicate (1 - (lg_sl ([.ref h0])).length) Slot.unset).toArray = ls at hl ⊢
  have hl : lv_has ls 1 [(0, .ref h0)] := hl
  refine lv_aload_n hx hb dX3_init_0 rfl (lv_at hl 0 rfl) ?_
  refine W.objInit hx hb hown (hts (.methodLink RX3 3 objectInit) (inT_mem (by decide +kernel))) (hts (.instanceMethod objectInit) (inT_mem (by decide +kernel))) (hts (.code objectInit ⟨#[0xb1]⟩ 1 none) (inT_mem (by decide +kernel))) rfl (by rw [hml]; exact hl.1) rfl dX3_init_1 (Nat.le_of_ble_eq_true rfl) (Nat.le_of_ble_eq_true rfl) ?_
  refine W.eq (g2 := F0 m 4 ls []) rfl ?_
  refine lv_aload_n hx hb dX3_init_4 rfl (lv_at hl 0 rfl) ?_
  refine lv_bipush (v := 12) hx hb dX3_init_5 (by decide) ?_
  refine nwA (atype := .int) (t0 := 0) (N' := 12) (a0 := (12, .inl (fun _ => 0))) hx hb (hts (.arrayClass .int) (inT_mem (by decide +kernel))) rfl hK rfl hP hD hS hA (fun _ => rfl) (by decide) (by decide) (Nat.le_of_ble_eq_true rfl) (Nat.le_of_ble_eq_true rfl) (Nat.le_of_ble_eq_true rfl) dX3_init_7 (fun q0 H hP hD hS => ?_)
  have hP : va_P D clsL [(h0, .inr (2, [.null, .null, .int 0])), (q0, .inl (cy 0, 12, .inl (fun _ => 0)))] H := hP
  have hD : va_D A [(h0, .inr (2, [.null, .null, .int 0])), (q0, .inl (cy 0, 12, .inl (fun _ => 0)))] := hD
  refine W.widen (k := 1) (n := 12) (Nat.le_of_ble_eq_true rfl) (Nat.le_of_ble_eq_true rfl) ?_
  refine va_putF (D := D) (ci := 2) (v := .ref q0) (ty := .array .int) (C := RX3) (T := TX3) (N := 3) hx hb hts (inW inX3 (by decide +kernel)) tyX3 tyX3_ok nmX3 hown hK hP hD hS 0 rfl rfl 0 (by decide) (hts (.fieldLink RX3 9 "AdderChooser$Plans" "names" "[I") (inT_mem (by decide +kernel))) (fun _ h9 => h9) rfl hin rfl (by decide +kernel) rfl rfl (Nat.le_of_ble_eq_true rfl) dX3_init_9 (fun H _ hP hD hS => ?_)
  have hP : va_P D clsL [(h0, .inr (2, [.ref q0, .null, .int 0])), (q0, .inl (cy 0, 12, .inl (fun _ => 0)))] H := hP
  have hD : va_D A [(h0, .inr (2, [.ref q0, .null, .int 0])), (q0, .inl (cy 0, 12, .inl (fun _ => 0)))] := hD
  refine lv_aload_n hx hb dX3_init_12 rfl (lv_at hl 0 rfl) ?_
  refine lv_bipush (v := 12) hx hb dX3_init_13 (by decide) ?_
  refine nwA (atype := .long) (t0 := 1) (N' := 12) (a0 := (12, .inr (.inl (fun _ => 0)))) hx hb (hts (.arrayClass .long) (inT_mem (by decide +kernel))) rfl hK rfl hP hD hS hA (fun _ => rfl) (by decide) (by decide) (Nat.le_of_ble_eq_true rfl) (Nat.le_of_ble_eq_true rfl) (Nat.le_of_ble_eq_true rfl) dX3_init_15 (fun q1 H hP hD hS => ?_)
  have hP : va_P D clsL [(h0, .inr (2, [.ref q0, .null, .int 0])), (q0, .inl (cy 0, 12, .inl (fun _ => 0))), (q1, .inl (cy 1, 12, .inr (.inl (fun _ => 0))))] H := hP
  have hD : va_D A [(h0, .inr (2, [.ref q0, .null, .int 0])), (q0, .inl (cy 0, 12, .inl (fun _ => 0))), (q1, .inl (cy 1, 12, .inr (.inl (fun _ => 0))))] := hD
  refine W.widen (k := 2) (n := 24) (Nat.le_of_ble_eq_true rfl) (Nat.le_of_ble_eq_true rfl) ?_
  refine va_putF (D := D) (ci := 2) (v := .ref q1) (ty := .array .long) (C := RX3) (T := TX3) (N := 3) hx hb hts (inW inX3 (by decide +kernel)) tyX3 tyX3_ok nmX3 hown hK hP hD hS 0 rfl rfl 1 (by decide) (hts (.fieldLink RX3 15 "AdderChooser$Plans" "blocks" "[J") (inT_mem (by decide +kernel))) (fun _ h9 => h9) rfl hin rfl (by decide +kernel) rfl rfl (Nat.le_of_ble_eq_true rfl) dX3_init_17 (fun H _ hP hD hS => ?_)
  have hP : va_P D clsL [(h0, .inr (2, [.ref q0, .ref q1, .int 0])), (q0, .inl (cy 0, 12, .inl (fun _ => 0))), (q1, .inl (cy 1, 12, .inr (.inl (fun _ => 0))))] H := hP
  have hD : va_D A [(h0, .inr (2, [.ref q0, .ref q1, .int 0])), (q0, .inl (cy 0, 12, .inl (fun _ => 0))), (q1, .inl (cy 1, 12, .inr (.inl (fun _ => 0))))] := hD
  exact W.vret hx hb hr (fun t ht hW => ⟨⟨(fun i => ([q0, q1] : List Nat).getD i 0), rfl, trivial, by rw [ht]; exact hP, va_K.moved hW.alike hK, hD⟩, hS.F ht⟩) hS.2.2 dX3_init_20
theorem dX1_init_0 : decode cX1_init 0 = .ok (.aload_n 0, 1) := by decide +kernel
theorem dX1_init_1 : decode cX1_init 1 = .ok (.invokespecial 1, 3) := by decide +kernel
theorem dX1_init_4 : decode cX1_init 4 = .ok (.aload_n 0, 1) := by decide +kernel
theorem dX1_init_5 : decode cX1_init 5 = .ok (.bipush 20, 2) := by decide +kernel
theorem dX1_init_7 : decode cX1_init 7 = .ok (.newarray .long, 2) := by decide +kernel
theorem dX1_init_9 : decode cX1_init 9 = .ok (.putfield 9, 3) := by decide +kernel
theorem dX1_init_12 : decode cX1_init 12 = .ok (.return_, 1) := by decide +kernel
set_option maxHeartbeats 4000000 in
set_option maxRecDepth 100000 in
theorem N_X1 (l : Launch) (D : va_G) (cy : Nat → ClassId) (h0 sz : Nat) : Met l yX1_init (wsM yX1_init cX1_init 1 none) ({ frames := 2, cells := 1, slots := 20, locals := 128 }) (va_Pc [.ref h0] (fun U => U.heap.size = sz ∧ va_P D clsL [(h0, .inr (0, [.null, .int 0]))] U.heap ∧ va_K D clsL (tysL cy) U ∧ va_D (fun _ => True) [(h0, .inr (0, [.null, .int 0]))])) (va_Qv (fun _ : Nat → Nat => True) (fun g t => va_P D clsL [(h0, .inr (0, [.ref (g 0), .int 0])), ((g 0), .inl (cy 1, 20, .inr (.inl (fun _ => 0))))] t.heap ∧ va_K D clsL (tysL cy) t ∧ va_D (va_A [(h0, .inr (0, [.null, .int 0]))] sz) [(h0, .inr (0, [.ref (g 0), .int 0])), ((g 0), .inl (cy 1, 20, .inr (.inl (fun _ => 0))))]) (va_A [(h0, .inr (0, [.null, .int 0]))] sz)) 1 20 (va_A [(h0, .inr (0, [.null, .int 0]))] sz) := by
  refine Met.ofW (cc := cX1_init) (maxL := 1) (ret := none) (by decide) rfl ?_
  intro p e s m args below meth c s₁ B hml hv
  obtain ⟨rfl, hsz, hP, hK, hD0⟩ := hv
  have hx := B.exec
  have hb := B.bytes
  have hr := B.returns
  have hts : ∀ w ∈ WT, w.before [Value.ref h0].toArray s = true := fun w hw => atoms_spec (ws := wsM yX1_init cX1_init 1 none) B.pre w (List.mem_cons_of_mem _ hw)
  have hown : s.vm.findClass RX1 = some m.cls := findClass_of_methodNamed B.named
  have hlocks := B.notSynchronized
  have hin : meth.name = "<init>" := (name_of_methodNamed B.named B.method).1
  subst hsz
  have hD := hD0.self (sz := s.heap.size)
  generalize hAe : va_A [(h0, .inr (0, [.null, .int 0]))] s.heap.size = A at hD ⊢
  have hA : ∀ q : Nat, s.heap.size ≤ q → A q := fun q h => by rw [← hAe]; exact Or.inr h
  have hS : va_S A s.heap s.heap [] := va_S.rf
  have hP : va_P D clsL [(h0, .inr (0, [.null, .int 0]))] s.heap := hP
  have hl := lv_entry ([.ref h0]) (n := 1) (Nat.le_of_ble_eq_true rfl)
  rw [lg_entry_eq]
  generalize (lg_sl ([.ref h0]) ++ List.replicate (1 - (lg_sl ([.ref h0])).length) Slot.unset).toArray = ls at hl ⊢
  have hl : lv_has ls 1 [(0, .ref h0)] := hl
  refine lv_aload_n hx hb dX1_init_0 rfl (lv_at hl 0 rfl) ?_
  refine W.objInit hx hb hown (hts (.methodLink RX1 1 objectInit) (inT_mem (by decide +kernel))) (hts (.instanceMethod objectInit) (inT_mem (by decide +kernel))) (hts (.code objectInit ⟨#[0xb1]⟩ 1 none) (inT_mem (by decide +kernel))) rfl (by rw [hml]; exact hl.1) rfl dX1_init_1 (Nat.le_of_ble_eq_true rfl) (Nat.le_of_ble_eq_true rfl) ?_
  refine W.eq (g2 := F0 m 4 ls []) rfl ?_
  refine lv_aload_n hx hb dX1_init_4 rfl (lv_at hl 0 rfl) ?_
  refine lv_bipush (v := 20) hx hb dX1_init_5 (by decide) ?_
  refine nwA (atype := .long) (t0 := 1) (N' := 20) (a0 := (20, .inr (.inl (fun _ => 0)))) hx hb (hts (.arrayClass .long) (inT_mem (by decide +kernel))) rfl hK rfl hP hD hS hA (fun _ => rfl) (by decide) (by decide) (Nat.le_of_ble_eq_true rfl) (Nat.le_of_ble_eq_true rfl) (Nat.le_of_ble_eq_true rfl) dX1_init_7 (fun q0 H hP hD hS => ?_)
  have hP : va_P D clsL [(h0, .inr (0, [.null, .int 0])), (q0, .inl (cy 1, 20, .inr (.inl (fun _ => 0))))] H := hP
  have hD : va_D A [(h0, .inr (0, [.null, .int 0])), (q0, .inl (cy 1, 20, .inr (.inl (fun _ => 0))))] := hD
  refine W.widen (k := 1) (n := 20) (Nat.le_of_ble_eq_true rfl) (Nat.le_of_ble_eq_true rfl) ?_
  refine va_putF (D := D) (ci := 0) (v := .ref q0) (ty := .array .long) (C := RX1) (T := TX1) (N := 2) hx hb hts (inW inX1 (by decide +kernel)) tyX1 tyX1_ok nmX1 hown hK hP hD hS 0 rfl rfl 0 (by decide) (hts (.fieldLink RX1 9 "AdderChooser$Known" "asked" "[J") (inT_mem (by decide +kernel))) (fun _ h9 => h9) rfl hin rfl (by decide +kernel) rfl rfl (Nat.le_of_ble_eq_true rfl) dX1_init_9 (fun H _ hP hD hS => ?_)
  have hP : va_P D clsL [(h0, .inr (0, [.ref q0, .int 0])), (q0, .inl (cy 1, 20, .inr (.inl (fun _ => 0))))] H := hP
  have hD : va_D A [(h0, .inr (0, [.ref q0, .int 0])), (q0, .inl (cy 1, 20, .inr (.inl (fun _ => 0))))] := hD
  exact W.vret hx hb hr (fun t ht hW => ⟨⟨(fun i => ([q0] : List Nat).getD i 0), rfl, trivial, by rw [ht]; exact hP, va_K.moved hW.alike hK, hD⟩, hS.F ht⟩) hS.2.2 dX1_init_12
theorem dX2_init_0 : decode cX2_init 0 = .ok (.aload_n 0, 1) := by decide +kernel
theorem dX2_init_1 : decode cX2_init 1 = .ok (.invokespecial 5, 3) := by decide +kernel
theorem dX2_init_4 : decode cX2_init 4 = .ok (.aload_n 0, 1) := by decide +kernel
theorem dX2_init_5 : decode cX2_init 5 = .ok (.sipush 512, 3) := by decide +kernel
theorem dX2_init_8 : decode cX2_init 8 = .ok (.newarray .int, 2) := by decide +kernel
theorem dX2_init_10 : decode cX2_init 10 = .ok (.putfield 11, 3) := by decide +kernel
theorem dX2_init_13 : decode cX2_init 13 = .ok (.aload_n 0, 1) := by decide +kernel
theorem dX2_init_14 : decode cX2_init 14 = .ok (.sipush 512, 3) := by decide +kernel
theorem dX2_init_17 : decode cX2_init 17 = .ok (.newarray .int, 2) := by decide +kernel
theorem dX2_init_19 : decode cX2_init 19 = .ok (.putfield 15, 3) := by decide +kernel
theorem dX2_init_22 : decode cX2_init 22 = .ok (.aload_n 0, 1) := by decide +kernel
theorem dX2_init_23 : decode cX2_init 23 = .ok (.sipush 512, 3) := by decide +kernel
theorem dX2_init_26 : decode cX2_init 26 = .ok (.newarray .int, 2) := by decide +kernel
theorem dX2_init_28 : decode cX2_init 28 = .ok (.putfield 18, 3) := by decide +kernel
theorem dX2_init_31 : decode cX2_init 31 = .ok (.aload_n 0, 1) := by decide +kernel
theorem dX2_init_32 : decode cX2_init 32 = .ok (.sipush 512, 3) := by decide +kernel
theorem dX2_init_35 : decode cX2_init 35 = .ok (.newarray .boolean, 2) := by decide +kernel
theorem dX2_init_37 : decode cX2_init 37 = .ok (.putfield 21, 3) := by decide +kernel
theorem dX2_init_40 : decode cX2_init 40 = .ok (.aload_n 0, 1) := by decide +kernel
theorem dX2_init_41 : decode cX2_init 41 = .ok (.bipush 12, 2) := by decide +kernel
theorem dX2_init_43 : decode cX2_init 43 = .ok (.newarray .int, 2) := by decide +kernel
theorem dX2_init_45 : decode cX2_init 45 = .ok (.putfield 25, 3) := by decide +kernel
theorem dX2_init_48 : decode cX2_init 48 = .ok (.aload_n 0, 1) := by decide +kernel
theorem dX2_init_49 : decode cX2_init 49 = .ok (.sipush 512, 3) := by decide +kernel
theorem dX2_init_52 : decode cX2_init 52 = .ok (.newarray .int, 2) := by decide +kernel
theorem dX2_init_54 : decode cX2_init 54 = .ok (.putfield 28, 3) := by decide +kernel
theorem dX2_init_57 : decode cX2_init 57 = .ok (.aload_n 0, 1) := by decide +kernel
theorem dX2_init_58 : decode cX2_init 58 = .ok (.sipush 512, 3) := by decide +kernel
theorem dX2_init_61 : decode cX2_init 61 = .ok (.newarray .int, 2) := by decide +kernel
theorem dX2_init_63 : decode cX2_init 63 = .ok (.putfield 31, 3) := by decide +kernel
theorem dX2_init_66 : decode cX2_init 66 = .ok (.aload_n 0, 1) := by decide +kernel
theorem dX2_init_67 : decode cX2_init 67 = .ok (.sipush 512, 3) := by decide +kernel
theorem dX2_init_70 : decode cX2_init 70 = .ok (.newarray .boolean, 2) := by decide +kernel
theorem dX2_init_72 : decode cX2_init 72 = .ok (.putfield 34, 3) := by decide +kernel
theorem dX2_init_75 : decode cX2_init 75 = .ok (.aload_n 0, 1) := by decide +kernel
theorem dX2_init_76 : decode cX2_init 76 = .ok (.bipush 12, 2) := by decide +kernel
theorem dX2_init_78 : decode cX2_init 78 = .ok (.newarray .int, 2) := by decide +kernel
theorem dX2_init_80 : decode cX2_init 80 = .ok (.putfield 37, 3) := by decide +kernel
theorem dX2_init_83 : decode cX2_init 83 = .ok (.aload_n 0, 1) := by decide +kernel
theorem dX2_init_84 : decode cX2_init 84 = .ok (.bipush 12, 2) := by decide +kernel
theorem dX2_init_86 : decode cX2_init 86 = .ok (.newarray .int, 2) := by decide +kernel
theorem dX2_init_88 : decode cX2_init 88 = .ok (.putfield 40, 3) := by decide +kernel
theorem dX2_init_91 : decode cX2_init 91 = .ok (.aload_n 0, 1) := by decide +kernel
theorem dX2_init_92 : decode cX2_init 92 = .ok (.bipush 12, 2) := by decide +kernel
theorem dX2_init_94 : decode cX2_init 94 = .ok (.newarray .int, 2) := by decide +kernel
theorem dX2_init_96 : decode cX2_init 96 = .ok (.putfield 43, 3) := by decide +kernel
theorem dX2_init_99 : decode cX2_init 99 = .ok (.aload_n 0, 1) := by decide +kernel
theorem dX2_init_100 : decode cX2_init 100 = .ok (.bipush 12, 2) := by decide +kernel
theorem dX2_init_102 : decode cX2_init 102 = .ok (.newarray .int, 2) := by decide +kernel
theorem dX2_init_104 : decode cX2_init 104 = .ok (.putfield 46, 3) := by decide +kernel
theorem dX2_init_107 : decode cX2_init 107 = .ok (.return_, 1) := by decide +kernel
set_option maxHeartbeats 4000000 in
set_option maxRecDepth 100000 in
theorem N_X2 (l : Launch) (D : va_G) (cy : Nat → ClassId) (h0 sz : Nat) : Met l yX2_init (wsM yX2_init cX2_init 1 none) ({ frames := 2, cells := 12, slots := 3644, locals := 128 }) (va_Pc [.ref h0] (fun U => U.heap.size = sz ∧ va_P D clsL [(h0, .inr (1, [.null, .null, .null, .null, .null, .int 0, .int 0, .int 0, .null, .null, .null, .null, .null, .null, .null]))] U.heap ∧ va_K D clsL (tysL cy) U ∧ va_D (fun _ => True) [(h0, .inr (1, [.null, .null, .null, .null, .null, .int 0, .int 0, .int 0, .null, .null, .null, .null, .null, .null, .null]))])) (va_Qv (fun _ : Nat → Nat => True) (fun g t => va_P D clsL [(h0, .inr (1, [.ref (g 0), .ref (g 1), .ref (g 2), .ref (g 3), .ref (g 4), .int 0, .int 0, .int 0, .ref (g 5), .ref (g 6), .ref (g 7), .ref (g 8), .ref (g 9), .ref (g 10), .ref (g 11)])), ((g 0), .inl (cy 0, 512, .inl (fun _ => 0))), ((g 1), .inl (cy 0, 512, .inl (fun _ => 0))), ((g 2), .inl (cy 0, 512, .inl (fun _ => 0))), ((g 3), .inl (cy 2, 512, .inl (fun _ => 0))), ((g 4), .inl (cy 0, 12, .inl (fun _ => 0))), ((g 5), .inl (cy 0, 512, .inl (fun _ => 0))), ((g 6), .inl (cy 0, 512, .inl (fun _ => 0))), ((g 7), .inl (cy 2, 512, .inl (fun _ => 0))), ((g 8), .inl (cy 0, 12, .inl (fun _ => 0))), ((g 9), .inl (cy 0, 12, .inl (fun _ => 0))), ((g 10), .inl (cy 0, 12, .inl (fun _ => 0))), ((g 11), .inl (cy 0, 12, .inl (fun _ => 0)))] t.heap ∧ va_K D clsL (tysL cy) t ∧ va_D (va_A [(h0, .inr (1, [.null, .null, .null, .null, .null, .int 0, .int 0, .int 0, .null, .null, .null, .null, .null, .null, .null]))] sz) [(h0, .inr (1, [.ref (g 0), .ref (g 1), .ref (g 2), .ref (g 3), .ref (g 4), .int 0, .int 0, .int 0, .ref (g 5), .ref (g 6), .ref (g 7), .ref (g 8), .ref (g 9), .ref (g 10), .ref (g 11)])), ((g 0), .inl (cy 0, 512, .inl (fun _ => 0))), ((g 1), .inl (cy 0, 512, .inl (fun _ => 0))), ((g 2), .inl (cy 0, 512, .inl (fun _ => 0))), ((g 3), .inl (cy 2, 512, .inl (fun _ => 0))), ((g 4), .inl (cy 0, 12, .inl (fun _ => 0))), ((g 5), .inl (cy 0, 512, .inl (fun _ => 0))), ((g 6), .inl (cy 0, 512, .inl (fun _ => 0))), ((g 7), .inl (cy 2, 512, .inl (fun _ => 0))), ((g 8), .inl (cy 0, 12, .inl (fun _ => 0))), ((g 9), .inl (cy 0, 12, .inl (fun _ => 0))), ((g 10), .inl (cy 0, 12, .inl (fun _ => 0))), ((g 11), .inl (cy 0, 12, .inl (fun _ => 0)))]) (va_A [(h0, .inr (1, [.null, .null, .null, .null, .null, .int 0, .int 0, .int 0, .null, .null, .null, .null, .null, .null, .null]))] sz)) 12 3644 (va_A [(h0, .inr (1, [.null, .null, .null, .null, .null, .int 0, .int 0, .int 0, .null, .null, .null, .null, .null, .null, .null]))] sz) := by
  refine Met.ofW (cc := cX2_init) (maxL := 1) (ret := none) (by decide) rfl ?_
  intro p e s m args below meth c s₁ B hml hv
  obtain ⟨rfl, hsz, hP, hK, hD0⟩ := hv
  have hx := B.exec
  have hb := B.bytes
  have hr := B.returns
  have hts : ∀ w ∈ WT, w.before [Value.ref h0].toArray s = true := fun w hw => atoms_spec (ws := wsM yX2_init cX2_init 1 none) B.pre w (List.mem_cons_of_mem _ hw)
  have hown : s.vm.findClass RX2 = some m.cls := findClass_of_methodNamed B.named
  have hlocks := B.notSynchronized
  have hin : meth.name = "<init>" := (name_of_methodNamed B.named B.method).1
  subst hsz
  have hD := hD0.self (sz := s.heap.size)
  generalize hAe : va_A [(h0, .inr (1, [.null, .null, .null, .null, .null, .int 0, .int 0, .int 0, .null, .null, .null, .null, .null, .null, .null]))] s.heap.size = A at hD ⊢
  have hA : ∀ q : Nat, s.heap.size ≤ q → A q := fun q h => by rw [← hAe]; exact Or.inr h
  have hS : va_S A s.heap s.heap [] := va_S.rf
  have hP : va_P D clsL [(h0, .inr (1, [.null, .null, .null, .null, .null, .int 0, .int 0, .int 0, .null, .null, .null, .null, .null, .null, .null]))] s.heap := hP
  have hl := lv_entry ([.ref h0]) (n := 1) (Nat.le_of_ble_eq_true rfl)
  rw [lg_entry_eq]
  generalize (lg_sl ([.ref h0]) ++ List.replicate (1 - (lg_sl ([.ref h0])).length) Slot.unset).toArray = ls at hl ⊢
  have hl : lv_has ls 1 [(0, .ref h0)] := hl
  refine lv_aload_n hx hb dX2_init_0 rfl (lv_at hl 0 rfl) ?_
  refine W.objInit hx hb hown (hts (.methodLink RX2 5 objectInit) (inT_mem (by decide +kernel))) (hts (.instanceMethod objectInit) (inT_mem (by decide +kernel))) (hts (.code objectInit ⟨#[0xb1]⟩ 1 none) (inT_mem (by decide +kernel))) rfl (by rw [hml]; exact hl.1) rfl dX2_init_1 (Nat.le_of_ble_eq_true rfl) (Nat.le_of_ble_eq_true rfl) ?_
  refine W.eq (g2 := F0 m 4 ls []) rfl ?_
  refine lv_aload_n hx hb dX2_init_4 rfl (lv_at hl 0 rfl) ?_
  refine lv_sipush (v := 512) hx hb dX2_init_5 (by decide) ?_
  refine nwA (atype := .int) (t0 := 0) (N' := 512) (a0 := (512, .inl (fun _ => 0))) hx hb (hts (.arrayClass .int) (inT_mem (by decide +kernel))) rfl hK rfl hP hD hS hA (fun _ => rfl) (by decide) (by decide) (Nat.le_of_ble_eq_true rfl) (Nat.le_of_ble_eq_true rfl) (Nat.le_of_ble_eq_true rfl) dX2_init_8 (fun q0 H hP hD hS => ?_)
  have hP : va_P D clsL [(h0, .inr (1, [.null, .null, .null, .null, .null, .int 0, .int 0, .int 0, .null, .null, .null, .null, .null, .null, .null])), (q0, .inl (cy 0, 512, .inl (fun _ => 0)))] H := hP
  have hD : va_D A [(h0, .inr (1, [.null, .null, .null, .null, .null, .int 0, .int 0, .int 0, .null, .null, .null, .null, .null, .null, .null])), (q0, .inl (cy 0, 512, .inl (fun _ => 0)))] := hD
  refine W.widen (k := 1) (n := 512) (Nat.le_of_ble_eq_true rfl) (Nat.le_of_ble_eq_true rfl) ?_
  refine va_putF (D := D) (ci := 1) (v := .ref q0) (ty := .array .int) (C := RX2) (T := TX2) (N := 15) hx hb hts (inW inX2 (by decide +kernel)) tyX2 tyX2_ok nmX2 hown hK hP hD hS 0 rfl rfl 0 (by decide) (hts (.fieldLink RX2 11 "AdderChooser$Net" "sort" "[I") (inT_mem (by decide +kernel))) (fun _ h9 => h9) rfl hin rfl (by decide +kernel) rfl rfl (Nat.le_of_ble_eq_true rfl) dX2_init_10 (fun H _ hP hD hS => ?_)
  have hP : va_P D clsL [(h0, .inr (1, [.ref q0, .null, .null, .null, .null, .int 0, .int 0, .int 0, .null, .null, .null, .null, .null, .null, .null])), (q0, .inl (cy 0, 512, .inl (fun _ => 0)))] H := hP
  have hD : va_D A [(h0, .inr (1, [.ref q0, .null, .null, .null, .null, .int 0, .int 0, .int 0, .null, .null, .null, .null, .null, .null, .null])), (q0, .inl (cy 0, 512, .inl (fun _ => 0)))] := hD
  refine lv_aload_n hx hb dX2_init_13 rfl (lv_at hl 0 rfl) ?_
  refine lv_sipush (v := 512) hx hb dX2_init_14 (by decide) ?_
  refine nwA (atype := .int) (t0 := 0) (N' := 512) (a0 := (512, .inl (fun _ => 0))) hx hb (hts (.arrayClass .int) (inT_mem (by decide +kernel))) rfl hK rfl hP hD hS hA (fun _ => rfl) (by decide) (by decide) (Nat.le_of_ble_eq_true rfl) (Nat.le_of_ble_eq_true rfl) (Nat.le_of_ble_eq_true rfl) dX2_init_17 (fun q1 H hP hD hS => ?_)
  have hP : va_P D clsL [(h0, .inr (1, [.ref q0, .null, .null, .null, .null, .int 0, .int 0, .int 0, .null, .null, .null, .null, .null, .null, .null])), (q0, .inl (cy 0, 512, .inl (fun _ => 0))), (q1, .inl (cy 0, 512, .inl (fun _ => 0)))] H := hP
  have hD : va_D A [(h0, .inr (1, [.ref q0, .null, .null, .null, .null, .int 0, .int 0, .int 0, .null, .null, .null, .null, .null, .null, .null])), (q0, .inl (cy 0, 512, .inl (fun _ => 0))), (q1, .inl (cy 0, 512, .inl (fun _ => 0)))] := hD
  refine W.widen (k := 2) (n := 1024) (Nat.le_of_ble_eq_true rfl) (Nat.le_of_ble_eq_true rfl) ?_
  refine va_putF (D := D) (ci := 1) (v := .ref q1) (ty := .array .int) (C := RX2) (T := TX2) (N := 15) hx hb hts (inW inX2 (by decide +kernel)) tyX2 tyX2_ok nmX2 hown hK hP hD hS 0 rfl rfl 1 (by decide) (hts (.fieldLink RX2 15 "AdderChooser$Net" "lower" "[I") (inT_mem (by decide +kernel))) (fun _ h9 => h9) rfl hin rfl (by decide +kernel) rfl rfl (Nat.le_of_ble_eq_true rfl) dX2_init_19 (fun H _ hP hD hS => ?_)
  have hP : va_P D clsL [(h0, .inr (1, [.ref q0, .ref q1, .null, .null, .null, .int 0, .int 0, .int 0, .null, .null, .null, .null, .null, .null, .null])), (q0, .inl (cy 0, 512, .inl (fun _ => 0))), (q1, .inl (cy 0, 512, .inl (fun _ => 0)))] H := hP
  have hD : va_D A [(h0, .inr (1, [.ref q0, .ref q1, .null, .null, .null, .int 0, .int 0, .int 0, .null, .null, .null, .null, .null, .null, .null])), (q0, .inl (cy 0, 512, .inl (fun _ => 0))), (q1, .inl (cy 0, 512, .inl (fun _ => 0)))] := hD
  refine lv_aload_n hx hb dX2_init_22 rfl (lv_at hl 0 rfl) ?_
  refine lv_sipush (v := 512) hx hb dX2_init_23 (by decide) ?_
  refine nwA (atype := .int) (t0 := 0) (N' := 512) (a0 := (512, .inl (fun _ => 0))) hx hb (hts (.arrayClass .int) (inT_mem (by decide +kernel))) rfl hK rfl hP hD hS hA (fun _ => rfl) (by decide) (by decide) (Nat.le_of_ble_eq_true rfl) (Nat.le_of_ble_eq_true rfl) (Nat.le_of_ble_eq_true rfl) dX2_init_26 (fun q2 H hP hD hS => ?_)
  have hP : va_P D clsL [(h0, .inr (1, [.ref q0, .ref q1, .null, .null, .null, .int 0, .int 0, .int 0, .null, .null, .null, .null, .null, .null, .null])), (q0, .inl (cy 0, 512, .inl (fun _ => 0))), (q1, .inl (cy 0, 512, .inl (fun _ => 0))), (q2, .inl (cy 0, 512, .inl (fun _ => 0)))] H := hP
  have hD : va_D A [(h0, .inr (1, [.ref q0, .ref q1, .null, .null, .null, .int 0, .int 0, .int 0, .null, .null, .null, .null, .null, .null, .null])), (q0, .inl (cy 0, 512, .inl (fun _ => 0))), (q1, .inl (cy 0, 512, .inl (fun _ => 0))), (q2, .inl (cy 0, 512, .inl (fun _ => 0)))] := hD
  refine W.widen (k := 3) (n := 1536) (Nat.le_of_ble_eq_true rfl) (Nat.le_of_ble_eq_true rfl) ?_
  refine va_putF (D := D) (ci := 1) (v := .ref q2) (ty := .array .int) (C := RX2) (T := TX2) (N := 15) hx hb hts (inW inX2 (by decide +kernel)) tyX2 tyX2_ok nmX2 hown hK hP hD hS 0 rfl rfl 2 (by decide) (hts (.fieldLink RX2 18 "AdderChooser$Net" "upper" "[I") (inT_mem (by decide +kernel))) (fun _ h9 => h9) rfl hin rfl (by decide +kernel) rfl rfl (Nat.le_of_ble_eq_true rfl) dX2_init_28 (fun H _ hP hD hS => ?_)
  have hP : va_P D clsL [(h0, .inr (1, [.ref q0, .ref q1, .ref q2, .null, .null, .int 0, .int 0, .int 0, .null, .null, .null, .null, .null, .null, .null])), (q0, .inl (cy 0, 512, .inl (fun _ => 0))), (q1, .inl (cy 0, 512, .inl (fun _ => 0))), (q2, .inl (cy 0, 512, .inl (fun _ => 0)))] H := hP
  have hD : va_D A [(h0, .inr (1, [.ref q0, .ref q1, .ref q2, .null, .null, .int 0, .int 0, .int 0, .null, .null, .null, .null, .null, .null, .null])), (q0, .inl (cy 0, 512, .inl (fun _ => 0))), (q1, .inl (cy 0, 512, .inl (fun _ => 0))), (q2, .inl (cy 0, 512, .inl (fun _ => 0)))] := hD
  refine lv_aload_n hx hb dX2_init_31 rfl (lv_at hl 0 rfl) ?_
  refine lv_sipush (v := 512) hx hb dX2_init_32 (by decide) ?_
  refine nwA (atype := .boolean) (t0 := 2) (N' := 512) (a0 := (512, .inl (fun _ => 0))) hx hb (hts (.arrayClass .boolean) (inT_mem (by decide +kernel))) rfl hK rfl hP hD hS hA (fun _ => rfl) (by decide) (by decide) (Nat.le_of_ble_eq_true rfl) (Nat.le_of_ble_eq_true rfl) (Nat.le_of_ble_eq_true rfl) dX2_init_35 (fun q3 H hP hD hS => ?_)
  have hP : va_P D clsL [(h0, .inr (1, [.ref q0, .ref q1, .ref q2, .null, .null, .int 0, .int 0, .int 0, .null, .null, .null, .null, .null, .null, .null])), (q0, .inl (cy 0, 512, .inl (fun _ => 0))), (q1, .inl (cy 0, 512, .inl (fun _ => 0))), (q2, .inl (cy 0, 512, .inl (fun _ => 0))), (q3, .inl (cy 2, 512, .inl (fun _ => 0)))] H := hP
  have hD : va_D A [(h0, .inr (1, [.ref q0, .ref q1, .ref q2, .null, .null, .int 0, .int 0, .int 0, .null, .null, .null, .null, .null, .null, .null])), (q0, .inl (cy 0, 512, .inl (fun _ => 0))), (q1, .inl (cy 0, 512, .inl (fun _ => 0))), (q2, .inl (cy 0, 512, .inl (fun _ => 0))), (q3, .inl (cy 2, 512, .inl (fun _ => 0)))] := hD
  refine W.widen (k := 4) (n := 2048) (Nat.le_of_ble_eq_true rfl) (Nat.le_of_ble_eq_true rfl) ?_
  refine va_putF (D := D) (ci := 1) (v := .ref q3) (ty := .array .boolean) (C := RX2) (T := TX2) (N := 15) hx hb hts (inW inX2 (by decide +kernel)) tyX2 tyX2_ok nmX2 hown hK hP hD hS 0 rfl rfl 3 (by decide) (hts (.fieldLink RX2 21 "AdderChooser$Net" "used" "[Z") (inT_mem (by decide +kernel))) (fun _ h9 => h9) rfl hin rfl (by decide +kernel) rfl rfl (Nat.le_of_ble_eq_true rfl) dX2_init_37 (fun H _ hP hD hS => ?_)
  have hP : va_P D clsL [(h0, .inr (1, [.ref q0, .ref q1, .ref q2, .ref q3, .null, .int 0, .int 0, .int 0, .null, .null, .null, .null, .null, .null, .null])), (q0, .inl (cy 0, 512, .inl (fun _ => 0))), (q1, .inl (cy 0, 512, .inl (fun _ => 0))), (q2, .inl (cy 0, 512, .inl (fun _ => 0))), (q3, .inl (cy 2, 512, .inl (fun _ => 0)))] H := hP
  have hD : va_D A [(h0, .inr (1, [.ref q0, .ref q1, .ref q2, .ref q3, .null, .int 0, .int 0, .int 0, .null, .null, .null, .null, .null, .null, .null])), (q0, .inl (cy 0, 512, .inl (fun _ => 0))), (q1, .inl (cy 0, 512, .inl (fun _ => 0))), (q2, .inl (cy 0, 512, .inl (fun _ => 0))), (q3, .inl (cy 2, 512, .inl (fun _ => 0)))] := hD
  refine lv_aload_n hx hb dX2_init_40 rfl (lv_at hl 0 rfl) ?_
  refine lv_bipush (v := 12) hx hb dX2_init_41 (by decide) ?_
  refine nwA (atype := .int) (t0 := 0) (N' := 12) (a0 := (12, .inl (fun _ => 0))) hx hb (hts (.arrayClass .int) (inT_mem (by decide +kernel))) rfl hK rfl hP hD hS hA (fun _ => rfl) (by decide) (by decide) (Nat.le_of_ble_eq_true rfl) (Nat.le_of_ble_eq_true rfl) (Nat.le_of_ble_eq_true rfl) dX2_init_43 (fun q4 H hP hD hS => ?_)
  have hP : va_P D clsL [(h0, .inr (1, [.ref q0, .ref q1, .ref q2, .ref q3, .null, .int 0, .int 0, .int 0, .null, .null, .null, .null, .null, .null, .null])), (q0, .inl (cy 0, 512, .inl (fun _ => 0))), (q1, .inl (cy 0, 512, .inl (fun _ => 0))), (q2, .inl (cy 0, 512, .inl (fun _ => 0))), (q3, .inl (cy 2, 512, .inl (fun _ => 0))), (q4, .inl (cy 0, 12, .inl (fun _ => 0)))] H := hP
  have hD : va_D A [(h0, .inr (1, [.ref q0, .ref q1, .ref q2, .ref q3, .null, .int 0, .int 0, .int 0, .null, .null, .null, .null, .null, .null, .null])), (q0, .inl (cy 0, 512, .inl (fun _ => 0))), (q1, .inl (cy 0, 512, .inl (fun _ => 0))), (q2, .inl (cy 0, 512, .inl (fun _ => 0))), (q3, .inl (cy 2, 512, .inl (fun _ => 0))), (q4, .inl (cy 0, 12, .inl (fun _ => 0)))] := hD
  refine W.widen (k := 5) (n := 2060) (Nat.le_of_ble_eq_true rfl) (Nat.le_of_ble_eq_true rfl) ?_
  refine va_putF (D := D) (ci := 1) (v := .ref q4) (ty := .array .int) (C := RX2) (T := TX2) (N := 15) hx hb hts (inW inX2 (by decide +kernel)) tyX2 tyX2_ok nmX2 hown hK hP hD hS 0 rfl rfl 4 (by decide) (hts (.fieldLink RX2 25 "AdderChooser$Net" "sums" "[I") (inT_mem (by decide +kernel))) (fun _ h9 => h9) rfl hin rfl (by decide +kernel) rfl rfl (Nat.le_of_ble_eq_true rfl) dX2_init_45 (fun H _ hP hD hS => ?_)
  have hP : va_P D clsL [(h0, .inr (1, [.ref q0, .ref q1, .ref q2, .ref q3, .ref q4, .int 0, .int 0, .int 0, .null, .null, .null, .null, .null, .null, .null])), (q0, .inl (cy 0, 512, .inl (fun _ => 0))), (q1, .inl (cy 0, 512, .inl (fun _ => 0))), (q2, .inl (cy 0, 512, .inl (fun _ => 0))), (q3, .inl (cy 2, 512, .inl (fun _ => 0))), (q4, .inl (cy 0, 12, .inl (fun _ => 0)))] H := hP
  have hD : va_D A [(h0, .inr (1, [.ref q0, .ref q1, .ref q2, .ref q3, .ref q4, .int 0, .int 0, .int 0, .null, .null, .null, .null, .null, .null, .null])), (q0, .inl (cy 0, 512, .inl (fun _ => 0))), (q1, .inl (cy 0, 512, .inl (fun _ => 0))), (q2, .inl (cy 0, 512, .inl (fun _ => 0))), (q3, .inl (cy 2, 512, .inl (fun _ => 0))), (q4, .inl (cy 0, 12, .inl (fun _ => 0)))] := hD
  refine lv_aload_n hx hb dX2_init_48 rfl (lv_at hl 0 rfl) ?_
  refine lv_sipush (v := 512) hx hb dX2_init_49 (by decide) ?_
  refine nwA (atype := .int) (t0 := 0) (N' := 512) (a0 := (512, .inl (fun _ => 0))) hx hb (hts (.arrayClass .int) (inT_mem (by decide +kernel))) rfl hK rfl hP hD hS hA (fun _ => rfl) (by decide) (by decide) (Nat.le_of_ble_eq_true rfl) (Nat.le_of_ble_eq_true rfl) (Nat.le_of_ble_eq_true rfl) dX2_init_52 (fun q5 H hP hD hS => ?_)
  have hP : va_P D clsL [(h0, .inr (1, [.ref q0, .ref q1, .ref q2, .ref q3, .ref q4, .int 0, .int 0, .int 0, .null, .null, .null, .null, .null, .null, .null])), (q0, .inl (cy 0, 512, .inl (fun _ => 0))), (q1, .inl (cy 0, 512, .inl (fun _ => 0))), (q2, .inl (cy 0, 512, .inl (fun _ => 0))), (q3, .inl (cy 2, 512, .inl (fun _ => 0))), (q4, .inl (cy 0, 12, .inl (fun _ => 0))), (q5, .inl (cy 0, 512, .inl (fun _ => 0)))] H := hP
  have hD : va_D A [(h0, .inr (1, [.ref q0, .ref q1, .ref q2, .ref q3, .ref q4, .int 0, .int 0, .int 0, .null, .null, .null, .null, .null, .null, .null])), (q0, .inl (cy 0, 512, .inl (fun _ => 0))), (q1, .inl (cy 0, 512, .inl (fun _ => 0))), (q2, .inl (cy 0, 512, .inl (fun _ => 0))), (q3, .inl (cy 2, 512, .inl (fun _ => 0))), (q4, .inl (cy 0, 12, .inl (fun _ => 0))), (q5, .inl (cy 0, 512, .inl (fun _ => 0)))] := hD
  refine W.widen (k := 6) (n := 2572) (Nat.le_of_ble_eq_true rfl) (Nat.le_of_ble_eq_true rfl) ?_
  refine va_putF (D := D) (ci := 1) (v := .ref q5) (ty := .array .int) (C := RX2) (T := TX2) (N := 15) hx hb hts (inW inX2 (by decide +kernel)) tyX2 tyX2_ok nmX2 hown hK hP hD hS 0 rfl rfl 8 (by decide) (hts (.fieldLink RX2 28 "AdderChooser$Net" "newest" "[I") (inT_mem (by decide +kernel))) (fun _ h9 => h9) rfl hin rfl (by decide +kernel) rfl rfl (Nat.le_of_ble_eq_true rfl) dX2_init_54 (fun H _ hP hD hS => ?_)
  have hP : va_P D clsL [(h0, .inr (1, [.ref q0, .ref q1, .ref q2, .ref q3, .ref q4, .int 0, .int 0, .int 0, .ref q5, .null, .null, .null, .null, .null, .null])), (q0, .inl (cy 0, 512, .inl (fun _ => 0))), (q1, .inl (cy 0, 512, .inl (fun _ => 0))), (q2, .inl (cy 0, 512, .inl (fun _ => 0))), (q3, .inl (cy 2, 512, .inl (fun _ => 0))), (q4, .inl (cy 0, 12, .inl (fun _ => 0))), (q5, .inl (cy 0, 512, .inl (fun _ => 0)))] H := hP
  have hD : va_D A [(h0, .inr (1, [.ref q0, .ref q1, .ref q2, .ref q3, .ref q4, .int 0, .int 0, .int 0, .ref q5, .null, .null, .null, .null, .null, .null])), (q0, .inl (cy 0, 512, .inl (fun _ => 0))), (q1, .inl (cy 0, 512, .inl (fun _ => 0))), (q2, .inl (cy 0, 512, .inl (fun _ => 0))), (q3, .inl (cy 2, 512, .inl (fun _ => 0))), (q4, .inl (cy 0, 12, .inl (fun _ => 0))), (q5, .inl (cy 0, 512, .inl (fun _ => 0)))] := hD
  refine lv_aload_n hx hb dX2_init_57 rfl (lv_at hl 0 rfl) ?_
  refine lv_sipush (v := 512) hx hb dX2_init_58 (by decide) ?_
  refine nwA (atype := .int) (t0 := 0) (N' := 512) (a0 := (512, .inl (fun _ => 0))) hx hb (hts (.arrayClass .int) (inT_mem (by decide +kernel))) rfl hK rfl hP hD hS hA (fun _ => rfl) (by decide) (by decide) (Nat.le_of_ble_eq_true rfl) (Nat.le_of_ble_eq_true rfl) (Nat.le_of_ble_eq_true rfl) dX2_init_61 (fun q6 H hP hD hS => ?_)
  have hP : va_P D clsL [(h0, .inr (1, [.ref q0, .ref q1, .ref q2, .ref q3, .ref q4, .int 0, .int 0, .int 0, .ref q5, .null, .null, .null, .null, .null, .null])), (q0, .inl (cy 0, 512, .inl (fun _ => 0))), (q1, .inl (cy 0, 512, .inl (fun _ => 0))), (q2, .inl (cy 0, 512, .inl (fun _ => 0))), (q3, .inl (cy 2, 512, .inl (fun _ => 0))), (q4, .inl (cy 0, 12, .inl (fun _ => 0))), (q5, .inl (cy 0, 512, .inl (fun _ => 0))), (q6, .inl (cy 0, 512, .inl (fun _ => 0)))] H := hP
  have hD : va_D A [(h0, .inr (1, [.ref q0, .ref q1, .ref q2, .ref q3, .ref q4, .int 0, .int 0, .int 0, .ref q5, .null, .null, .null, .null, .null, .null])), (q0, .inl (cy 0, 512, .inl (fun _ => 0))), (q1, .inl (cy 0, 512, .inl (fun _ => 0))), (q2, .inl (cy 0, 512, .inl (fun _ => 0))), (q3, .inl (cy 2, 512, .inl (fun _ => 0))), (q4, .inl (cy 0, 12, .inl (fun _ => 0))), (q5, .inl (cy 0, 512, .inl (fun _ => 0))), (q6, .inl (cy 0, 512, .inl (fun _ => 0)))] := hD
  refine W.widen (k := 7) (n := 3084) (Nat.le_of_ble_eq_true rfl) (Nat.le_of_ble_eq_true rfl) ?_
  refine va_putF (D := D) (ci := 1) (v := .ref q6) (ty := .array .int) (C := RX2) (T := TX2) (N := 15) hx hb hts (inW inX2 (by decide +kernel)) tyX2 tyX2_ok nmX2 hown hK hP hD hS 0 rfl rfl 9 (by decide) (hts (.fieldLink RX2 31 "AdderChooser$Net" "before" "[I") (inT_mem (by decide +kernel))) (fun _ h9 => h9) rfl hin rfl (by decide +kernel) rfl rfl (Nat.le_of_ble_eq_true rfl) dX2_init_63 (fun H _ hP hD hS => ?_)
  have hP : va_P D clsL [(h0, .inr (1, [.ref q0, .ref q1, .ref q2, .ref q3, .ref q4, .int 0, .int 0, .int 0, .ref q5, .ref q6, .null, .null, .null, .null, .null])), (q0, .inl (cy 0, 512, .inl (fun _ => 0))), (q1, .inl (cy 0, 512, .inl (fun _ => 0))), (q2, .inl (cy 0, 512, .inl (fun _ => 0))), (q3, .inl (cy 2, 512, .inl (fun _ => 0))), (q4, .inl (cy 0, 12, .inl (fun _ => 0))), (q5, .inl (cy 0, 512, .inl (fun _ => 0))), (q6, .inl (cy 0, 512, .inl (fun _ => 0)))] H := hP
  have hD : va_D A [(h0, .inr (1, [.ref q0, .ref q1, .ref q2, .ref q3, .ref q4, .int 0, .int 0, .int 0, .ref q5, .ref q6, .null, .null, .null, .null, .null])), (q0, .inl (cy 0, 512, .inl (fun _ => 0))), (q1, .inl (cy 0, 512, .inl (fun _ => 0))), (q2, .inl (cy 0, 512, .inl (fun _ => 0))), (q3, .inl (cy 2, 512, .inl (fun _ => 0))), (q4, .inl (cy 0, 12, .inl (fun _ => 0))), (q5, .inl (cy 0, 512, .inl (fun _ => 0))), (q6, .inl (cy 0, 512, .inl (fun _ => 0)))] := hD
  refine lv_aload_n hx hb dX2_init_66 rfl (lv_at hl 0 rfl) ?_
  refine lv_sipush (v := 512) hx hb dX2_init_67 (by decide) ?_
  refine nwA (atype := .boolean) (t0 := 2) (N' := 512) (a0 := (512, .inl (fun _ => 0))) hx hb (hts (.arrayClass .boolean) (inT_mem (by decide +kernel))) rfl hK rfl hP hD hS hA (fun _ => rfl) (by decide) (by decide) (Nat.le_of_ble_eq_true rfl) (Nat.le_of_ble_eq_true rfl) (Nat.le_of_ble_eq_true rfl) dX2_init_70 (fun q7 H hP hD hS => ?_)
  have hP : va_P D clsL [(h0, .inr (1, [.ref q0, .ref q1, .ref q2, .ref q3, .ref q4, .int 0, .int 0, .int 0, .ref q5, .ref q6, .null, .null, .null, .null, .null])), (q0, .inl (cy 0, 512, .inl (fun _ => 0))), (q1, .inl (cy 0, 512, .inl (fun _ => 0))), (q2, .inl (cy 0, 512, .inl (fun _ => 0))), (q3, .inl (cy 2, 512, .inl (fun _ => 0))), (q4, .inl (cy 0, 12, .inl (fun _ => 0))), (q5, .inl (cy 0, 512, .inl (fun _ => 0))), (q6, .inl (cy 0, 512, .inl (fun _ => 0))), (q7, .inl (cy 2, 512, .inl (fun _ => 0)))] H := hP
  have hD : va_D A [(h0, .inr (1, [.ref q0, .ref q1, .ref q2, .ref q3, .ref q4, .int 0, .int 0, .int 0, .ref q5, .ref q6, .null, .null, .null, .null, .null])), (q0, .inl (cy 0, 512, .inl (fun _ => 0))), (q1, .inl (cy 0, 512, .inl (fun _ => 0))), (q2, .inl (cy 0, 512, .inl (fun _ => 0))), (q3, .inl (cy 2, 512, .inl (fun _ => 0))), (q4, .inl (cy 0, 12, .inl (fun _ => 0))), (q5, .inl (cy 0, 512, .inl (fun _ => 0))), (q6, .inl (cy 0, 512, .inl (fun _ => 0))), (q7, .inl (cy 2, 512, .inl (fun _ => 0)))] := hD
  refine W.widen (k := 8) (n := 3596) (Nat.le_of_ble_eq_true rfl) (Nat.le_of_ble_eq_true rfl) ?_
  refine va_putF (D := D) (ci := 1) (v := .ref q7) (ty := .array .boolean) (C := RX2) (T := TX2) (N := 15) hx hb hts (inW inX2 (by decide +kernel)) tyX2 tyX2_ok nmX2 hown hK hP hD hS 0 rfl rfl 10 (by decide) (hts (.fieldLink RX2 34 "AdderChooser$Net" "usedByFirst" "[Z") (inT_mem (by decide +kernel))) (fun _ h9 => h9) rfl hin rfl (by decide +kernel) rfl rfl (Nat.le_of_ble_eq_true rfl) dX2_init_72 (fun H _ hP hD hS => ?_)
  have hP : va_P D clsL [(h0, .inr (1, [.ref q0, .ref q1, .ref q2, .ref q3, .ref q4, .int 0, .int 0, .int 0, .ref q5, .ref q6, .ref q7, .null, .null, .null, .null])), (q0, .inl (cy 0, 512, .inl (fun _ => 0))), (q1, .inl (cy 0, 512, .inl (fun _ => 0))), (q2, .inl (cy 0, 512, .inl (fun _ => 0))), (q3, .inl (cy 2, 512, .inl (fun _ => 0))), (q4, .inl (cy 0, 12, .inl (fun _ => 0))), (q5, .inl (cy 0, 512, .inl (fun _ => 0))), (q6, .inl (cy 0, 512, .inl (fun _ => 0))), (q7, .inl (cy 2, 512, .inl (fun _ => 0)))] H := hP
  have hD : va_D A [(h0, .inr (1, [.ref q0, .ref q1, .ref q2, .ref q3, .ref q4, .int 0, .int 0, .int 0, .ref q5, .ref q6, .ref q7, .null, .null, .null, .null])), (q0, .inl (cy 0, 512, .inl (fun _ => 0))), (q1, .inl (cy 0, 512, .inl (fun _ => 0))), (q2, .inl (cy 0, 512, .inl (fun _ => 0))), (q3, .inl (cy 2, 512, .inl (fun _ => 0))), (q4, .inl (cy 0, 12, .inl (fun _ => 0))), (q5, .inl (cy 0, 512, .inl (fun _ => 0))), (q6, .inl (cy 0, 512, .inl (fun _ => 0))), (q7, .inl (cy 2, 512, .inl (fun _ => 0)))] := hD
  refine lv_aload_n hx hb dX2_init_75 rfl (lv_at hl 0 rfl) ?_
  refine lv_bipush (v := 12) hx hb dX2_init_76 (by decide) ?_
  refine nwA (atype := .int) (t0 := 0) (N' := 12) (a0 := (12, .inl (fun _ => 0))) hx hb (hts (.arrayClass .int) (inT_mem (by decide +kernel))) rfl hK rfl hP hD hS hA (fun _ => rfl) (by decide) (by decide) (Nat.le_of_ble_eq_true rfl) (Nat.le_of_ble_eq_true rfl) (Nat.le_of_ble_eq_true rfl) dX2_init_78 (fun q8 H hP hD hS => ?_)
  have hP : va_P D clsL [(h0, .inr (1, [.ref q0, .ref q1, .ref q2, .ref q3, .ref q4, .int 0, .int 0, .int 0, .ref q5, .ref q6, .ref q7, .null, .null, .null, .null])), (q0, .inl (cy 0, 512, .inl (fun _ => 0))), (q1, .inl (cy 0, 512, .inl (fun _ => 0))), (q2, .inl (cy 0, 512, .inl (fun _ => 0))), (q3, .inl (cy 2, 512, .inl (fun _ => 0))), (q4, .inl (cy 0, 12, .inl (fun _ => 0))), (q5, .inl (cy 0, 512, .inl (fun _ => 0))), (q6, .inl (cy 0, 512, .inl (fun _ => 0))), (q7, .inl (cy 2, 512, .inl (fun _ => 0))), (q8, .inl (cy 0, 12, .inl (fun _ => 0)))] H := hP
  have hD : va_D A [(h0, .inr (1, [.ref q0, .ref q1, .ref q2, .ref q3, .ref q4, .int 0, .int 0, .int 0, .ref q5, .ref q6, .ref q7, .null, .null, .null, .null])), (q0, .inl (cy 0, 512, .inl (fun _ => 0))), (q1, .inl (cy 0, 512, .inl (fun _ => 0))), (q2, .inl (cy 0, 512, .inl (fun _ => 0))), (q3, .inl (cy 2, 512, .inl (fun _ => 0))), (q4, .inl (cy 0, 12, .inl (fun _ => 0))), (q5, .inl (cy 0, 512, .inl (fun _ => 0))), (q6, .inl (cy 0, 512, .inl (fun _ => 0))), (q7, .inl (cy 2, 512, .inl (fun _ => 0))), (q8, .inl (cy 0, 12, .inl (fun _ => 0)))] := hD
  refine W.widen (k := 9) (n := 3608) (Nat.le_of_ble_eq_true rfl) (Nat.le_of_ble_eq_true rfl) ?_
  refine va_putF (D := D) (ci := 1) (v := .ref q8) (ty := .array .int) (C := RX2) (T := TX2) (N := 15) hx hb hts (inW inX2 (by decide +kernel)) tyX2 tyX2_ok nmX2 hown hK hP hD hS 0 rfl rfl 11 (by decide) (hts (.fieldLink RX2 37 "AdderChooser$Net" "onlyOne" "[I") (inT_mem (by decide +kernel))) (fun _ h9 => h9) rfl hin rfl (by decide +kernel) rfl rfl (Nat.le_of_ble_eq_true rfl) dX2_init_80 (fun H _ hP hD hS => ?_)
  have hP : va_P D clsL [(h0, .inr (1, [.ref q0, .ref q1, .ref q2, .ref q3, .ref q4, .int 0, .int 0, .int 0, .ref q5, .ref q6, .ref q7, .ref q8, .null, .null, .null])), (q0, .inl (cy 0, 512, .inl (fun _ => 0))), (q1, .inl (cy 0, 512, .inl (fun _ => 0))), (q2, .inl (cy 0, 512, .inl (fun _ => 0))), (q3, .inl (cy 2, 512, .inl (fun _ => 0))), (q4, .inl (cy 0, 12, .inl (fun _ => 0))), (q5, .inl (cy 0, 512, .inl (fun _ => 0))), (q6, .inl (cy 0, 512, .inl (fun _ => 0))), (q7, .inl (cy 2, 512, .inl (fun _ => 0))), (q8, .inl (cy 0, 12, .inl (fun _ => 0)))] H := hP
  have hD : va_D A [(h0, .inr (1, [.ref q0, .ref q1, .ref q2, .ref q3, .ref q4, .int 0, .int 0, .int 0, .ref q5, .ref q6, .ref q7, .ref q8, .null, .null, .null])), (q0, .inl (cy 0, 512, .inl (fun _ => 0))), (q1, .inl (cy 0, 512, .inl (fun _ => 0))), (q2, .inl (cy 0, 512, .inl (fun _ => 0))), (q3, .inl (cy 2, 512, .inl (fun _ => 0))), (q4, .inl (cy 0, 12, .inl (fun _ => 0))), (q5, .inl (cy 0, 512, .inl (fun _ => 0))), (q6, .inl (cy 0, 512, .inl (fun _ => 0))), (q7, .inl (cy 2, 512, .inl (fun _ => 0))), (q8, .inl (cy 0, 12, .inl (fun _ => 0)))] := hD
  refine lv_aload_n hx hb dX2_init_83 rfl (lv_at hl 0 rfl) ?_
  refine lv_bipush (v := 12) hx hb dX2_init_84 (by decide) ?_
  refine nwA (atype := .int) (t0 := 0) (N' := 12) (a0 := (12, .inl (fun _ => 0))) hx hb (hts (.arrayClass .int) (inT_mem (by decide +kernel))) rfl hK rfl hP hD hS hA (fun _ => rfl) (by decide) (by decide) (Nat.le_of_ble_eq_true rfl) (Nat.le_of_ble_eq_true rfl) (Nat.le_of_ble_eq_true rfl) dX2_init_86 (fun q9 H hP hD hS => ?_)
  have hP : va_P D clsL [(h0, .inr (1, [.ref q0, .ref q1, .ref q2, .ref q3, .ref q4, .int 0, .int 0, .int 0, .ref q5, .ref q6, .ref q7, .ref q8, .null, .null, .null])), (q0, .inl (cy 0, 512, .inl (fun _ => 0))), (q1, .inl (cy 0, 512, .inl (fun _ => 0))), (q2, .inl (cy 0, 512, .inl (fun _ => 0))), (q3, .inl (cy 2, 512, .inl (fun _ => 0))), (q4, .inl (cy 0, 12, .inl (fun _ => 0))), (q5, .inl (cy 0, 512, .inl (fun _ => 0))), (q6, .inl (cy 0, 512, .inl (fun _ => 0))), (q7, .inl (cy 2, 512, .inl (fun _ => 0))), (q8, .inl (cy 0, 12, .inl (fun _ => 0))), (q9, .inl (cy 0, 12, .inl (fun _ => 0)))] H := hP
  have hD : va_D A [(h0, .inr (1, [.ref q0, .ref q1, .ref q2, .ref q3, .ref q4, .int 0, .int 0, .int 0, .ref q5, .ref q6, .ref q7, .ref q8, .null, .null, .null])), (q0, .inl (cy 0, 512, .inl (fun _ => 0))), (q1, .inl (cy 0, 512, .inl (fun _ => 0))), (q2, .inl (cy 0, 512, .inl (fun _ => 0))), (q3, .inl (cy 2, 512, .inl (fun _ => 0))), (q4, .inl (cy 0, 12, .inl (fun _ => 0))), (q5, .inl (cy 0, 512, .inl (fun _ => 0))), (q6, .inl (cy 0, 512, .inl (fun _ => 0))), (q7, .inl (cy 2, 512, .inl (fun _ => 0))), (q8, .inl (cy 0, 12, .inl (fun _ => 0))), (q9, .inl (cy 0, 12, .inl (fun _ => 0)))] := hD
  refine W.widen (k := 10) (n := 3620) (Nat.le_of_ble_eq_true rfl) (Nat.le_of_ble_eq_true rfl) ?_
  refine va_putF (D := D) (ci := 1) (v := .ref q9) (ty := .array .int) (C := RX2) (T := TX2) (N := 15) hx hb hts (inW inX2 (by decide +kernel)) tyX2 tyX2_ok nmX2 hown hK hP hD hS 0 rfl rfl 12 (by decide) (hts (.fieldLink RX2 40 "AdderChooser$Net" "bothOf" "[I") (inT_mem (by decide +kernel))) (fun _ h9 => h9) rfl hin rfl (by decide +kernel) rfl rfl (Nat.le_of_ble_eq_true rfl) dX2_init_88 (fun H _ hP hD hS => ?_)
  have hP : va_P D clsL [(h0, .inr (1, [.ref q0, .ref q1, .ref q2, .ref q3, .ref q4, .int 0, .int 0, .int 0, .ref q5, .ref q6, .ref q7, .ref q8, .ref q9, .null, .null])), (q0, .inl (cy 0, 512, .inl (fun _ => 0))), (q1, .inl (cy 0, 512, .inl (fun _ => 0))), (q2, .inl (cy 0, 512, .inl (fun _ => 0))), (q3, .inl (cy 2, 512, .inl (fun _ => 0))), (q4, .inl (cy 0, 12, .inl (fun _ => 0))), (q5, .inl (cy 0, 512, .inl (fun _ => 0))), (q6, .inl (cy 0, 512, .inl (fun _ => 0))), (q7, .inl (cy 2, 512, .inl (fun _ => 0))), (q8, .inl (cy 0, 12, .inl (fun _ => 0))), (q9, .inl (cy 0, 12, .inl (fun _ => 0)))] H := hP
  have hD : va_D A [(h0, .inr (1, [.ref q0, .ref q1, .ref q2, .ref q3, .ref q4, .int 0, .int 0, .int 0, .ref q5, .ref q6, .ref q7, .ref q8, .ref q9, .null, .null])), (q0, .inl (cy 0, 512, .inl (fun _ => 0))), (q1, .inl (cy 0, 512, .inl (fun _ => 0))), (q2, .inl (cy 0, 512, .inl (fun _ => 0))), (q3, .inl (cy 2, 512, .inl (fun _ => 0))), (q4, .inl (cy 0, 12, .inl (fun _ => 0))), (q5, .inl (cy 0, 512, .inl (fun _ => 0))), (q6, .inl (cy 0, 512, .inl (fun _ => 0))), (q7, .inl (cy 2, 512, .inl (fun _ => 0))), (q8, .inl (cy 0, 12, .inl (fun _ => 0))), (q9, .inl (cy 0, 12, .inl (fun _ => 0)))] := hD
  refine lv_aload_n hx hb dX2_init_91 rfl (lv_at hl 0 rfl) ?_
  refine lv_bipush (v := 12) hx hb dX2_init_92 (by decide) ?_
  refine nwA (atype := .int) (t0 := 0) (N' := 12) (a0 := (12, .inl (fun _ => 0))) hx hb (hts (.arrayClass .int) (inT_mem (by decide +kernel))) rfl hK rfl hP hD hS hA (fun _ => rfl) (by decide) (by decide) (Nat.le_of_ble_eq_true rfl) (Nat.le_of_ble_eq_true rfl) (Nat.le_of_ble_eq_true rfl) dX2_init_94 (fun q10 H hP hD hS => ?_)
  have hP : va_P D clsL [(h0, .inr (1, [.ref q0, .ref q1, .ref q2, .ref q3, .ref q4, .int 0, .int 0, .int 0, .ref q5, .ref q6, .ref q7, .ref q8, .ref q9, .null, .null])), (q0, .inl (cy 0, 512, .inl (fun _ => 0))), (q1, .inl (cy 0, 512, .inl (fun _ => 0))), (q2, .inl (cy 0, 512, .inl (fun _ => 0))), (q3, .inl (cy 2, 512, .inl (fun _ => 0))), (q4, .inl (cy 0, 12, .inl (fun _ => 0))), (q5, .inl (cy 0, 512, .inl (fun _ => 0))), (q6, .inl (cy 0, 512, .inl (fun _ => 0))), (q7, .inl (cy 2, 512, .inl (fun _ => 0))), (q8, .inl (cy 0, 12, .inl (fun _ => 0))), (q9, .inl (cy 0, 12, .inl (fun _ => 0))), (q10, .inl (cy 0, 12, .inl (fun _ => 0)))] H := hP
  have hD : va_D A [(h0, .inr (1, [.ref q0, .ref q1, .ref q2, .ref q3, .ref q4, .int 0, .int 0, .int 0, .ref q5, .ref q6, .ref q7, .ref q8, .ref q9, .null, .null])), (q0, .inl (cy 0, 512, .inl (fun _ => 0))), (q1, .inl (cy 0, 512, .inl (fun _ => 0))), (q2, .inl (cy 0, 512, .inl (fun _ => 0))), (q3, .inl (cy 2, 512, .inl (fun _ => 0))), (q4, .inl (cy 0, 12, .inl (fun _ => 0))), (q5, .inl (cy 0, 512, .inl (fun _ => 0))), (q6, .inl (cy 0, 512, .inl (fun _ => 0))), (q7, .inl (cy 2, 512, .inl (fun _ => 0))), (q8, .inl (cy 0, 12, .inl (fun _ => 0))), (q9, .inl (cy 0, 12, .inl (fun _ => 0))), (q10, .inl (cy 0, 12, .inl (fun _ => 0)))] := hD
  refine W.widen (k := 11) (n := 3632) (Nat.le_of_ble_eq_true rfl) (Nat.le_of_ble_eq_true rfl) ?_
  refine va_putF (D := D) (ci := 1) (v := .ref q10) (ty := .array .int) (C := RX2) (T := TX2) (N := 15) hx hb hts (inW inX2 (by decide +kernel)) tyX2 tyX2_ok nmX2 hown hK hP hD hS 0 rfl rfl 13 (by decide) (hts (.fieldLink RX2 43 "AdderChooser$Net" "sumsByZero" "[I") (inT_mem (by decide +kernel))) (fun _ h9 => h9) rfl hin rfl (by decide +kernel) rfl rfl (Nat.le_of_ble_eq_true rfl) dX2_init_96 (fun H _ hP hD hS => ?_)
  have hP : va_P D clsL [(h0, .inr (1, [.ref q0, .ref q1, .ref q2, .ref q3, .ref q4, .int 0, .int 0, .int 0, .ref q5, .ref q6, .ref q7, .ref q8, .ref q9, .ref q10, .null])), (q0, .inl (cy 0, 512, .inl (fun _ => 0))), (q1, .inl (cy 0, 512, .inl (fun _ => 0))), (q2, .inl (cy 0, 512, .inl (fun _ => 0))), (q3, .inl (cy 2, 512, .inl (fun _ => 0))), (q4, .inl (cy 0, 12, .inl (fun _ => 0))), (q5, .inl (cy 0, 512, .inl (fun _ => 0))), (q6, .inl (cy 0, 512, .inl (fun _ => 0))), (q7, .inl (cy 2, 512, .inl (fun _ => 0))), (q8, .inl (cy 0, 12, .inl (fun _ => 0))), (q9, .inl (cy 0, 12, .inl (fun _ => 0))), (q10, .inl (cy 0, 12, .inl (fun _ => 0)))] H := hP
  have hD : va_D A [(h0, .inr (1, [.ref q0, .ref q1, .ref q2, .ref q3, .ref q4, .int 0, .int 0, .int 0, .ref q5, .ref q6, .ref q7, .ref q8, .ref q9, .ref q10, .null])), (q0, .inl (cy 0, 512, .inl (fun _ => 0))), (q1, .inl (cy 0, 512, .inl (fun _ => 0))), (q2, .inl (cy 0, 512, .inl (fun _ => 0))), (q3, .inl (cy 2, 512, .inl (fun _ => 0))), (q4, .inl (cy 0, 12, .inl (fun _ => 0))), (q5, .inl (cy 0, 512, .inl (fun _ => 0))), (q6, .inl (cy 0, 512, .inl (fun _ => 0))), (q7, .inl (cy 2, 512, .inl (fun _ => 0))), (q8, .inl (cy 0, 12, .inl (fun _ => 0))), (q9, .inl (cy 0, 12, .inl (fun _ => 0))), (q10, .inl (cy 0, 12, .inl (fun _ => 0)))] := hD
  refine lv_aload_n hx hb dX2_init_99 rfl (lv_at hl 0 rfl) ?_
  refine lv_bipush (v := 12) hx hb dX2_init_100 (by decide) ?_
  refine nwA (atype := .int) (t0 := 0) (N' := 12) (a0 := (12, .inl (fun _ => 0))) hx hb (hts (.arrayClass .int) (inT_mem (by decide +kernel))) rfl hK rfl hP hD hS hA (fun _ => rfl) (by decide) (by decide) (Nat.le_of_ble_eq_true rfl) (Nat.le_of_ble_eq_true rfl) (Nat.le_of_ble_eq_true rfl) dX2_init_102 (fun q11 H hP hD hS => ?_)
  have hP : va_P D clsL [(h0, .inr (1, [.ref q0, .ref q1, .ref q2, .ref q3, .ref q4, .int 0, .int 0, .int 0, .ref q5, .ref q6, .ref q7, .ref q8, .ref q9, .ref q10, .null])), (q0, .inl (cy 0, 512, .inl (fun _ => 0))), (q1, .inl (cy 0, 512, .inl (fun _ => 0))), (q2, .inl (cy 0, 512, .inl (fun _ => 0))), (q3, .inl (cy 2, 512, .inl (fun _ => 0))), (q4, .inl (cy 0, 12, .inl (fun _ => 0))), (q5, .inl (cy 0, 512, .inl (fun _ => 0))), (q6, .inl (cy 0, 512, .inl (fun _ => 0))), (q7, .inl (cy 2, 512, .inl (fun _ => 0))), (q8, .inl (cy 0, 12, .inl (fun _ => 0))), (q9, .inl (cy 0, 12, .inl (fun _ => 0))), (q10, .inl (cy 0, 12, .inl (fun _ => 0))), (q11, .inl (cy 0, 12, .inl (fun _ => 0)))] H := hP
  have hD : va_D A [(h0, .inr (1, [.ref q0, .ref q1, .ref q2, .ref q3, .ref q4, .int 0, .int 0, .int 0, .ref q5, .ref q6, .ref q7, .ref q8, .ref q9, .ref q10, .null])), (q0, .inl (cy 0, 512, .inl (fun _ => 0))), (q1, .inl (cy 0, 512, .inl (fun _ => 0))), (q2, .inl (cy 0, 512, .inl (fun _ => 0))), (q3, .inl (cy 2, 512, .inl (fun _ => 0))), (q4, .inl (cy 0, 12, .inl (fun _ => 0))), (q5, .inl (cy 0, 512, .inl (fun _ => 0))), (q6, .inl (cy 0, 512, .inl (fun _ => 0))), (q7, .inl (cy 2, 512, .inl (fun _ => 0))), (q8, .inl (cy 0, 12, .inl (fun _ => 0))), (q9, .inl (cy 0, 12, .inl (fun _ => 0))), (q10, .inl (cy 0, 12, .inl (fun _ => 0))), (q11, .inl (cy 0, 12, .inl (fun _ => 0)))] := hD
  refine W.widen (k := 12) (n := 3644) (Nat.le_of_ble_eq_true rfl) (Nat.le_of_ble_eq_true rfl) ?_
  refine va_putF (D := D) (ci := 1) (v := .ref q11) (ty := .array .int) (C := RX2) (T := TX2) (N := 15) hx hb hts (inW inX2 (by decide +kernel)) tyX2 tyX2_ok nmX2 hown hK hP hD hS 0 rfl rfl 14 (by decide) (hts (.fieldLink RX2 46 "AdderChooser$Net" "sumsByOne" "[I") (inT_mem (by decide +kernel))) (fun _ h9 => h9) rfl hin rfl (by decide +kernel) rfl rfl (Nat.le_of_ble_eq_true rfl) dX2_init_104 (fun H _ hP hD hS => ?_)
  have hP : va_P D clsL [(h0, .inr (1, [.ref q0, .ref q1, .ref q2, .ref q3, .ref q4, .int 0, .int 0, .int 0, .ref q5, .ref q6, .ref q7, .ref q8, .ref q9, .ref q10, .ref q11])), (q0, .inl (cy 0, 512, .inl (fun _ => 0))), (q1, .inl (cy 0, 512, .inl (fun _ => 0))), (q2, .inl (cy 0, 512, .inl (fun _ => 0))), (q3, .inl (cy 2, 512, .inl (fun _ => 0))), (q4, .inl (cy 0, 12, .inl (fun _ => 0))), (q5, .inl (cy 0, 512, .inl (fun _ => 0))), (q6, .inl (cy 0, 512, .inl (fun _ => 0))), (q7, .inl (cy 2, 512, .inl (fun _ => 0))), (q8, .inl (cy 0, 12, .inl (fun _ => 0))), (q9, .inl (cy 0, 12, .inl (fun _ => 0))), (q10, .inl (cy 0, 12, .inl (fun _ => 0))), (q11, .inl (cy 0, 12, .inl (fun _ => 0)))] H := hP
  have hD : va_D A [(h0, .inr (1, [.ref q0, .ref q1, .ref q2, .ref q3, .ref q4, .int 0, .int 0, .int 0, .ref q5, .ref q6, .ref q7, .ref q8, .ref q9, .ref q10, .ref q11])), (q0, .inl (cy 0, 512, .inl (fun _ => 0))), (q1, .inl (cy 0, 512, .inl (fun _ => 0))), (q2, .inl (cy 0, 512, .inl (fun _ => 0))), (q3, .inl (cy 2, 512, .inl (fun _ => 0))), (q4, .inl (cy 0, 12, .inl (fun _ => 0))), (q5, .inl (cy 0, 512, .inl (fun _ => 0))), (q6, .inl (cy 0, 512, .inl (fun _ => 0))), (q7, .inl (cy 2, 512, .inl (fun _ => 0))), (q8, .inl (cy 0, 12, .inl (fun _ => 0))), (q9, .inl (cy 0, 12, .inl (fun _ => 0))), (q10, .inl (cy 0, 12, .inl (fun _ => 0))), (q11, .inl (cy 0, 12, .inl (fun _ => 0)))] := hD
  exact W.vret hx hb hr (fun t ht hW => ⟨⟨(fun i => ([q0, q1, q2, q3, q4, q5, q6, q7, q8, q9, q10, q11] : List Nat).getD i 0), rfl, trivial, by rw [ht]; exact hP, va_K.moved hW.alike hK, hD⟩, hS.F ht⟩) hS.2.2 dX2_init_107
theorem dX8_init_0 : decode cX8_init 0 = .ok (.aload_n 0, 1) := by decide +kernel
theorem dX8_init_1 : decode cX8_init 1 = .ok (.invokespecial 3, 3) := by decide +kernel
theorem dX8_init_4 : decode cX8_init 4 = .ok (.aload_n 0, 1) := by decide +kernel
theorem dX8_init_5 : decode cX8_init 5 = .ok (.iconst 4, 1) := by decide +kernel
theorem dX8_init_6 : decode cX8_init 6 = .ok (.newarray .int, 2) := by decide +kernel
theorem dX8_init_8 : decode cX8_init 8 = .ok (.dup, 1) := by decide +kernel
theorem dX8_init_9 : decode cX8_init 9 = .ok (.iconst 0, 1) := by decide +kernel
theorem dX8_init_10 : decode cX8_init 10 = .ok (.iconst 1, 1) := by decide +kernel
theorem dX8_init_11 : decode cX8_init 11 = .ok (.iastore, 1) := by decide +kernel
theorem dX8_init_12 : decode cX8_init 12 = .ok (.dup, 1) := by decide +kernel
theorem dX8_init_13 : decode cX8_init 13 = .ok (.iconst 1, 1) := by decide +kernel
theorem dX8_init_14 : decode cX8_init 14 = .ok (.iconst 2, 1) := by decide +kernel
theorem dX8_init_15 : decode cX8_init 15 = .ok (.iastore, 1) := by decide +kernel
theorem dX8_init_16 : decode cX8_init 16 = .ok (.dup, 1) := by decide +kernel
theorem dX8_init_17 : decode cX8_init 17 = .ok (.iconst 2, 1) := by decide +kernel
theorem dX8_init_18 : decode cX8_init 18 = .ok (.iconst 2, 1) := by decide +kernel
theorem dX8_init_19 : decode cX8_init 19 = .ok (.iastore, 1) := by decide +kernel
theorem dX8_init_20 : decode cX8_init 20 = .ok (.dup, 1) := by decide +kernel
theorem dX8_init_21 : decode cX8_init 21 = .ok (.iconst 3, 1) := by decide +kernel
theorem dX8_init_22 : decode cX8_init 22 = .ok (.iconst 3, 1) := by decide +kernel
theorem dX8_init_23 : decode cX8_init 23 = .ok (.iastore, 1) := by decide +kernel
theorem dX8_init_24 : decode cX8_init 24 = .ok (.putfield 9, 3) := by decide +kernel
theorem dX8_init_27 : decode cX8_init 27 = .ok (.aload_n 0, 1) := by decide +kernel
theorem dX8_init_28 : decode cX8_init 28 = .ok (.bipush 25, 2) := by decide +kernel
theorem dX8_init_30 : decode cX8_init 30 = .ok (.newarray .int, 2) := by decide +kernel
theorem dX8_init_32 : decode cX8_init 32 = .ok (.putfield 15, 3) := by decide +kernel
theorem dX8_init_35 : decode cX8_init 35 = .ok (.aload_n 0, 1) := by decide +kernel
theorem dX8_init_36 : decode cX8_init 36 = .ok (.sipush 512, 3) := by decide +kernel
theorem dX8_init_39 : decode cX8_init 39 = .ok (.newarray .int, 2) := by decide +kernel
theorem dX8_init_41 : decode cX8_init 41 = .ok (.putfield 20, 3) := by decide +kernel
theorem dX8_init_44 : decode cX8_init 44 = .ok (.aload_n 0, 1) := by decide +kernel
theorem dX8_init_45 : decode cX8_init 45 = .ok (.sipush 512, 3) := by decide +kernel
theorem dX8_init_48 : decode cX8_init 48 = .ok (.newarray .int, 2) := by decide +kernel
theorem dX8_init_50 : decode cX8_init 50 = .ok (.putfield 23, 3) := by decide +kernel
theorem dX8_init_53 : decode cX8_init 53 = .ok (.aload_n 0, 1) := by decide +kernel
theorem dX8_init_54 : decode cX8_init 54 = .ok (.sipush 512, 3) := by decide +kernel
theorem dX8_init_57 : decode cX8_init 57 = .ok (.newarray .boolean, 2) := by decide +kernel
theorem dX8_init_59 : decode cX8_init 59 = .ok (.putfield 26, 3) := by decide +kernel
theorem dX8_init_62 : decode cX8_init 62 = .ok (.aload_n 0, 1) := by decide +kernel
theorem dX8_init_63 : decode cX8_init 63 = .ok (.sipush 512, 3) := by decide +kernel
theorem dX8_init_66 : decode cX8_init 66 = .ok (.newarray .int, 2) := by decide +kernel
theorem dX8_init_68 : decode cX8_init 68 = .ok (.putfield 30, 3) := by decide +kernel
theorem dX8_init_71 : decode cX8_init 71 = .ok (.return_, 1) := by decide +kernel
set_option maxHeartbeats 4000000 in
set_option maxRecDepth 100000 in
theorem N_X8 (l : Launch) (D : va_G) (cy : Nat → ClassId) (h0 sz : Nat) : Met l yX8_init (wsM yX8_init cX8_init 1 none) ({ frames := 2, cells := 6, slots := 2077, locals := 128 }) (va_Pc [.ref h0] (fun U => U.heap.size = sz ∧ va_P D clsL [(h0, .inr (7, [.null, .null, .null, .null, .null, .null]))] U.heap ∧ va_K D clsL (tysL cy) U ∧ va_D (fun _ => True) [(h0, .inr (7, [.null, .null, .null, .null, .null, .null]))])) (va_Qv (fun _ : Nat → Nat => True) (fun g t => va_P D clsL [(h0, .inr (7, [.ref (g 0), .ref (g 1), .ref (g 2), .ref (g 3), .ref (g 4), .ref (g 5)])), ((g 0), .inl (cy 0, 4, .inl (upd (upd (upd (upd (fun _ => 0) 0 1) 1 2) 2 2) 3 3))), ((g 1), .inl (cy 0, 25, .inl (fun _ => 0))), ((g 2), .inl (cy 0, 512, .inl (fun _ => 0))), ((g 3), .inl (cy 0, 512, .inl (fun _ => 0))), ((g 4), .inl (cy 2, 512, .inl (fun _ => 0))), ((g 5), .inl (cy 0, 512, .inl (fun _ => 0)))] t.heap ∧ va_K D clsL (tysL cy) t ∧ va_D (va_A [(h0, .inr (7, [.null, .null, .null, .null, .null, .null]))] sz) [(h0, .inr (7, [.ref (g 0), .ref (g 1), .ref (g 2), .ref (g 3), .ref (g 4), .ref (g 5)])), ((g 0), .inl (cy 0, 4, .inl (upd (upd (upd (upd (fun _ => 0) 0 1) 1 2) 2 2) 3 3))), ((g 1), .inl (cy 0, 25, .inl (fun _ => 0))), ((g 2), .inl (cy 0, 512, .inl (fun _ => 0))), ((g 3), .inl (cy 0, 512, .inl (fun _ => 0))), ((g 4), .inl (cy 2, 512, .inl (fun _ => 0))), ((g 5), .inl (cy 0, 512, .inl (fun _ => 0)))]) (va_A [(h0, .inr (7, [.null, .null, .null, .null, .null, .null]))] sz)) 6 2077 (va_A [(h0, .inr (7, [.null, .null, .null, .null, .null, .null]))] sz) := by
  refine Met.ofW (cc := cX8_init) (maxL := 1) (ret := none) (by decide) rfl ?_
  intro p e s m args below meth c s₁ B hml hv
  obtain ⟨rfl, hsz, hP, hK, hD0⟩ := hv
  have hx := B.exec
  have hb := B.bytes
  have hr := B.returns
  have hts : ∀ w ∈ WT, w.before [Value.ref h0].toArray s = true := fun w hw => atoms_spec (ws := wsM yX8_init cX8_init 1 none) B.pre w (List.mem_cons_of_mem _ hw)
  have hown : s.vm.findClass RX8 = some m.cls := findClass_of_methodNamed B.named
  have hlocks := B.notSynchronized
  have hin : meth.name = "<init>" := (name_of_methodNamed B.named B.method).1
  subst hsz
  have hD := hD0.self (sz := s.heap.size)
  generalize hAe : va_A [(h0, .inr (7, [.null, .null, .null, .null, .null, .null]))] s.heap.size = A at hD ⊢
  have hA : ∀ q : Nat, s.heap.size ≤ q → A q := fun q h => by rw [← hAe]; exact Or.inr h
  have hS : va_S A s.heap s.heap [] := va_S.rf
  have hP : va_P D clsL [(h0, .inr (7, [.null, .null, .null, .null, .null, .null]))] s.heap := hP
  have hl := lv_entry ([.ref h0]) (n := 1) (Nat.le_of_ble_eq_true rfl)
  rw [lg_entry_eq]
  generalize (lg_sl ([.ref h0]) ++ List.replicate (1 - (lg_sl ([.ref h0])).length) Slot.unset).toArray = ls at hl ⊢
  have hl : lv_has ls 1 [(0, .ref h0)] := hl
  refine lv_aload_n hx hb dX8_init_0 rfl (lv_at hl 0 rfl) ?_
  refine W.objInit hx hb hown (hts (.methodLink RX8 3 objectInit) (inT_mem (by decide +kernel))) (hts (.instanceMethod objectInit) (inT_mem (by decide +kernel))) (hts (.code objectInit ⟨#[0xb1]⟩ 1 none) (inT_mem (by decide +kernel))) rfl (by rw [hml]; exact hl.1) rfl dX8_init_1 (Nat.le_of_ble_eq_true rfl) (Nat.le_of_ble_eq_true rfl) ?_
  refine W.eq (g2 := F0 m 4 ls []) rfl ?_
  refine lv_aload_n hx hb dX8_init_4 rfl (lv_at hl 0 rfl) ?_
  refine lv_iconst (v := 4) hx hb dX8_init_5 (by decide) ?_
  refine nwA (atype := .int) (t0 := 0) (N' := 4) (a0 := (4, .inl (fun _ => 0))) hx hb (hts (.arrayClass .int) (inT_mem (by decide +kernel))) rfl hK rfl hP hD hS hA (fun _ => rfl) (by decide) (by decide) (Nat.le_of_ble_eq_true rfl) (Nat.le_of_ble_eq_true rfl) (Nat.le_of_ble_eq_true rfl) dX8_init_6 (fun q0 H hP hD hS => ?_)
  have hP : va_P D clsL [(h0, .inr (7, [.null, .null, .null, .null, .null, .null])), (q0, .inl (cy 0, 4, .inl (fun _ => 0)))] H := hP
  have hD : va_D A [(h0, .inr (7, [.null, .null, .null, .null, .null, .null])), (q0, .inl (cy 0, 4, .inl (fun _ => 0)))] := hD
  refine W.widen (k := 1) (n := 4) (Nat.le_of_ble_eq_true rfl) (Nat.le_of_ble_eq_true rfl) ?_
  refine lv_dup hx hb dX8_init_8 rfl ?_
  refine lv_iconst (v := 0) hx hb dX8_init_9 (by decide) ?_
  refine lv_iconst (v := 1) hx hb dX8_init_10 (by decide) ?_
  refine va_iast (D := D) hx hb hK hP hD hS 1 0 rfl rfl (show vp_in (nI 0) 4 from vp_in_nI (by decide) (by decide)) dX8_init_11 (fun H _ hP hD hS => ?_)
  have hP : va_P D clsL [(h0, .inr (7, [.null, .null, .null, .null, .null, .null])), (q0, .inl (cy 0, 4, .inl (upd (fun _ => 0) 0 1)))] H := hP
  have hD : va_D A [(h0, .inr (7, [.null, .null, .null, .null, .null, .null])), (q0, .inl (cy 0, 4, .inl (upd (fun _ => 0) 0 1)))] := hD
  refine lv_dup hx hb dX8_init_12 rfl ?_
  refine lv_iconst (v := 1) hx hb dX8_init_13 (by decide) ?_
  refine lv_iconst (v := 2) hx hb dX8_init_14 (by decide) ?_
  refine va_iast (D := D) hx hb hK hP hD hS 1 0 rfl rfl (show vp_in (nI 1) 4 from vp_in_nI (by decide) (by decide)) dX8_init_15 (fun H _ hP hD hS => ?_)
  have hP : va_P D clsL [(h0, .inr (7, [.null, .null, .null, .null, .null, .null])), (q0, .inl (cy 0, 4, .inl (upd (upd (fun _ => 0) 0 1) 1 2)))] H := hP
  have hD : va_D A [(h0, .inr (7, [.null, .null, .null, .null, .null, .null])), (q0, .inl (cy 0, 4, .inl (upd (upd (fun _ => 0) 0 1) 1 2)))] := hD
  refine lv_dup hx hb dX8_init_16 rfl ?_
  refine lv_iconst (v := 2) hx hb dX8_init_17 (by decide) ?_
  refine lv_iconst (v := 2) hx hb dX8_init_18 (by decide) ?_
  refine va_iast (D := D) hx hb hK hP hD hS 1 0 rfl rfl (show vp_in (nI 2) 4 from vp_in_nI (by decide) (by decide)) dX8_init_19 (fun H _ hP hD hS => ?_)
  have hP : va_P D clsL [(h0, .inr (7, [.null, .null, .null, .null, .null, .null])), (q0, .inl (cy 0, 4, .inl (upd (upd (upd (fun _ => 0) 0 1) 1 2) 2 2)))] H := hP
  have hD : va_D A [(h0, .inr (7, [.null, .null, .null, .null, .null, .null])), (q0, .inl (cy 0, 4, .inl (upd (upd (upd (fun _ => 0) 0 1) 1 2) 2 2)))] := hD
  refine lv_dup hx hb dX8_init_20 rfl ?_
  refine lv_iconst (v := 3) hx hb dX8_init_21 (by decide) ?_
  refine lv_iconst (v := 3) hx hb dX8_init_22 (by decide) ?_
  refine va_iast (D := D) hx hb hK hP hD hS 1 0 rfl rfl (show vp_in (nI 3) 4 from vp_in_nI (by decide) (by decide)) dX8_init_23 (fun H _ hP hD hS => ?_)
  have hP : va_P D clsL [(h0, .inr (7, [.null, .null, .null, .null, .null, .null])), (q0, .inl (cy 0, 4, .inl (upd (upd (upd (upd (fun _ => 0) 0 1) 1 2) 2 2) 3 3)))] H := hP
  have hD : va_D A [(h0, .inr (7, [.null, .null, .null, .null, .null, .null])), (q0, .inl (cy 0, 4, .inl (upd (upd (upd (upd (fun _ => 0) 0 1) 1 2) 2 2) 3 3)))] := hD
  refine va_putF (D := D) (ci := 7) (v := .ref q0) (ty := .array .int) (C := RX8) (T := TX8) (N := 6) hx hb hts (inW inX8 (by decide +kernel)) tyX8 tyX8_ok nmX8 hown hK hP hD hS 0 rfl rfl 0 (by decide) (hts (.fieldLink RX8 9 "AdderChooser$Timing" "delays" "[I") (inT_mem (by decide +kernel))) (fun _ h9 => h9) rfl hin rfl (by decide +kernel) rfl rfl (Nat.le_of_ble_eq_true rfl) dX8_init_24 (fun H _ hP hD hS => ?_)
  have hP : va_P D clsL [(h0, .inr (7, [.ref q0, .null, .null, .null, .null, .null])), (q0, .inl (cy 0, 4, .inl (upd (upd (upd (upd (fun _ => 0) 0 1) 1 2) 2 2) 3 3)))] H := hP
  have hD : va_D A [(h0, .inr (7, [.ref q0, .null, .null, .null, .null, .null])), (q0, .inl (cy 0, 4, .inl (upd (upd (upd (upd (fun _ => 0) 0 1) 1 2) 2 2) 3 3)))] := hD
  refine lv_aload_n hx hb dX8_init_27 rfl (lv_at hl 0 rfl) ?_
  refine lv_bipush (v := 25) hx hb dX8_init_28 (by decide) ?_
  refine nwA (atype := .int) (t0 := 0) (N' := 25) (a0 := (25, .inl (fun _ => 0))) hx hb (hts (.arrayClass .int) (inT_mem (by decide +kernel))) rfl hK rfl hP hD hS hA (fun _ => rfl) (by decide) (by decide) (Nat.le_of_ble_eq_true rfl) (Nat.le_of_ble_eq_true rfl) (Nat.le_of_ble_eq_true rfl) dX8_init_30 (fun q1 H hP hD hS => ?_)
  have hP : va_P D clsL [(h0, .inr (7, [.ref q0, .null, .null, .null, .null, .null])), (q0, .inl (cy 0, 4, .inl (upd (upd (upd (upd (fun _ => 0) 0 1) 1 2) 2 2) 3 3))), (q1, .inl (cy 0, 25, .inl (fun _ => 0)))] H := hP
  have hD : va_D A [(h0, .inr (7, [.ref q0, .null, .null, .null, .null, .null])), (q0, .inl (cy 0, 4, .inl (upd (upd (upd (upd (fun _ => 0) 0 1) 1 2) 2 2) 3 3))), (q1, .inl (cy 0, 25, .inl (fun _ => 0)))] := hD
  refine W.widen (k := 2) (n := 29) (Nat.le_of_ble_eq_true rfl) (Nat.le_of_ble_eq_true rfl) ?_
  refine va_putF (D := D) (ci := 7) (v := .ref q1) (ty := .array .int) (C := RX8) (T := TX8) (N := 6) hx hb hts (inW inX8 (by decide +kernel)) tyX8 tyX8_ok nmX8 hown hK hP hD hS 0 rfl rfl 1 (by decide) (hts (.fieldLink RX8 15 "AdderChooser$Timing" "arrivals" "[I") (inT_mem (by decide +kernel))) (fun _ h9 => h9) rfl hin rfl (by decide +kernel) rfl rfl (Nat.le_of_ble_eq_true rfl) dX8_init_32 (fun H _ hP hD hS => ?_)
  have hP : va_P D clsL [(h0, .inr (7, [.ref q0, .ref q1, .null, .null, .null, .null])), (q0, .inl (cy 0, 4, .inl (upd (upd (upd (upd (fun _ => 0) 0 1) 1 2) 2 2) 3 3))), (q1, .inl (cy 0, 25, .inl (fun _ => 0)))] H := hP
  have hD : va_D A [(h0, .inr (7, [.ref q0, .ref q1, .null, .null, .null, .null])), (q0, .inl (cy 0, 4, .inl (upd (upd (upd (upd (fun _ => 0) 0 1) 1 2) 2 2) 3 3))), (q1, .inl (cy 0, 25, .inl (fun _ => 0)))] := hD
  refine lv_aload_n hx hb dX8_init_35 rfl (lv_at hl 0 rfl) ?_
  refine lv_sipush (v := 512) hx hb dX8_init_36 (by decide) ?_
  refine nwA (atype := .int) (t0 := 0) (N' := 512) (a0 := (512, .inl (fun _ => 0))) hx hb (hts (.arrayClass .int) (inT_mem (by decide +kernel))) rfl hK rfl hP hD hS hA (fun _ => rfl) (by decide) (by decide) (Nat.le_of_ble_eq_true rfl) (Nat.le_of_ble_eq_true rfl) (Nat.le_of_ble_eq_true rfl) dX8_init_39 (fun q2 H hP hD hS => ?_)
  have hP : va_P D clsL [(h0, .inr (7, [.ref q0, .ref q1, .null, .null, .null, .null])), (q0, .inl (cy 0, 4, .inl (upd (upd (upd (upd (fun _ => 0) 0 1) 1 2) 2 2) 3 3))), (q1, .inl (cy 0, 25, .inl (fun _ => 0))), (q2, .inl (cy 0, 512, .inl (fun _ => 0)))] H := hP
  have hD : va_D A [(h0, .inr (7, [.ref q0, .ref q1, .null, .null, .null, .null])), (q0, .inl (cy 0, 4, .inl (upd (upd (upd (upd (fun _ => 0) 0 1) 1 2) 2 2) 3 3))), (q1, .inl (cy 0, 25, .inl (fun _ => 0))), (q2, .inl (cy 0, 512, .inl (fun _ => 0)))] := hD
  refine W.widen (k := 3) (n := 541) (Nat.le_of_ble_eq_true rfl) (Nat.le_of_ble_eq_true rfl) ?_
  refine va_putF (D := D) (ci := 7) (v := .ref q2) (ty := .array .int) (C := RX8) (T := TX8) (N := 6) hx hb hts (inW inX8 (by decide +kernel)) tyX8 tyX8_ok nmX8 hown hK hP hD hS 0 rfl rfl 2 (by decide) (hts (.fieldLink RX8 20 "AdderChooser$Timing" "when" "[I") (inT_mem (by decide +kernel))) (fun _ h9 => h9) rfl hin rfl (by decide +kernel) rfl rfl (Nat.le_of_ble_eq_true rfl) dX8_init_41 (fun H _ hP hD hS => ?_)
  have hP : va_P D clsL [(h0, .inr (7, [.ref q0, .ref q1, .ref q2, .null, .null, .null])), (q0, .inl (cy 0, 4, .inl (upd (upd (upd (upd (fun _ => 0) 0 1) 1 2) 2 2) 3 3))), (q1, .inl (cy 0, 25, .inl (fun _ => 0))), (q2, .inl (cy 0, 512, .inl (fun _ => 0)))] H := hP
  have hD : va_D A [(h0, .inr (7, [.ref q0, .ref q1, .ref q2, .null, .null, .null])), (q0, .inl (cy 0, 4, .inl (upd (upd (upd (upd (fun _ => 0) 0 1) 1 2) 2 2) 3 3))), (q1, .inl (cy 0, 25, .inl (fun _ => 0))), (q2, .inl (cy 0, 512, .inl (fun _ => 0)))] := hD
  refine lv_aload_n hx hb dX8_init_44 rfl (lv_at hl 0 rfl) ?_
  refine lv_sipush (v := 512) hx hb dX8_init_45 (by decide) ?_
  refine nwA (atype := .int) (t0 := 0) (N' := 512) (a0 := (512, .inl (fun _ => 0))) hx hb (hts (.arrayClass .int) (inT_mem (by decide +kernel))) rfl hK rfl hP hD hS hA (fun _ => rfl) (by decide) (by decide) (Nat.le_of_ble_eq_true rfl) (Nat.le_of_ble_eq_true rfl) (Nat.le_of_ble_eq_true rfl) dX8_init_48 (fun q3 H hP hD hS => ?_)
  have hP : va_P D clsL [(h0, .inr (7, [.ref q0, .ref q1, .ref q2, .null, .null, .null])), (q0, .inl (cy 0, 4, .inl (upd (upd (upd (upd (fun _ => 0) 0 1) 1 2) 2 2) 3 3))), (q1, .inl (cy 0, 25, .inl (fun _ => 0))), (q2, .inl (cy 0, 512, .inl (fun _ => 0))), (q3, .inl (cy 0, 512, .inl (fun _ => 0)))] H := hP
  have hD : va_D A [(h0, .inr (7, [.ref q0, .ref q1, .ref q2, .null, .null, .null])), (q0, .inl (cy 0, 4, .inl (upd (upd (upd (upd (fun _ => 0) 0 1) 1 2) 2 2) 3 3))), (q1, .inl (cy 0, 25, .inl (fun _ => 0))), (q2, .inl (cy 0, 512, .inl (fun _ => 0))), (q3, .inl (cy 0, 512, .inl (fun _ => 0)))] := hD
  refine W.widen (k := 4) (n := 1053) (Nat.le_of_ble_eq_true rfl) (Nat.le_of_ble_eq_true rfl) ?_
  refine va_putF (D := D) (ci := 7) (v := .ref q3) (ty := .array .int) (C := RX8) (T := TX8) (N := 6) hx hb hts (inW inX8 (by decide +kernel)) tyX8 tyX8_ok nmX8 hown hK hP hD hS 0 rfl rfl 3 (by decide) (hts (.fieldLink RX8 23 "AdderChooser$Timing" "value" "[I") (inT_mem (by decide +kernel))) (fun _ h9 => h9) rfl hin rfl (by decide +kernel) rfl rfl (Nat.le_of_ble_eq_true rfl) dX8_init_50 (fun H _ hP hD hS => ?_)
  have hP : va_P D clsL [(h0, .inr (7, [.ref q0, .ref q1, .ref q2, .ref q3, .null, .null])), (q0, .inl (cy 0, 4, .inl (upd (upd (upd (upd (fun _ => 0) 0 1) 1 2) 2 2) 3 3))), (q1, .inl (cy 0, 25, .inl (fun _ => 0))), (q2, .inl (cy 0, 512, .inl (fun _ => 0))), (q3, .inl (cy 0, 512, .inl (fun _ => 0)))] H := hP
  have hD : va_D A [(h0, .inr (7, [.ref q0, .ref q1, .ref q2, .ref q3, .null, .null])), (q0, .inl (cy 0, 4, .inl (upd (upd (upd (upd (fun _ => 0) 0 1) 1 2) 2 2) 3 3))), (q1, .inl (cy 0, 25, .inl (fun _ => 0))), (q2, .inl (cy 0, 512, .inl (fun _ => 0))), (q3, .inl (cy 0, 512, .inl (fun _ => 0)))] := hD
  refine lv_aload_n hx hb dX8_init_53 rfl (lv_at hl 0 rfl) ?_
  refine lv_sipush (v := 512) hx hb dX8_init_54 (by decide) ?_
  refine nwA (atype := .boolean) (t0 := 2) (N' := 512) (a0 := (512, .inl (fun _ => 0))) hx hb (hts (.arrayClass .boolean) (inT_mem (by decide +kernel))) rfl hK rfl hP hD hS hA (fun _ => rfl) (by decide) (by decide) (Nat.le_of_ble_eq_true rfl) (Nat.le_of_ble_eq_true rfl) (Nat.le_of_ble_eq_true rfl) dX8_init_57 (fun q4 H hP hD hS => ?_)
  have hP : va_P D clsL [(h0, .inr (7, [.ref q0, .ref q1, .ref q2, .ref q3, .null, .null])), (q0, .inl (cy 0, 4, .inl (upd (upd (upd (upd (fun _ => 0) 0 1) 1 2) 2 2) 3 3))), (q1, .inl (cy 0, 25, .inl (fun _ => 0))), (q2, .inl (cy 0, 512, .inl (fun _ => 0))), (q3, .inl (cy 0, 512, .inl (fun _ => 0))), (q4, .inl (cy 2, 512, .inl (fun _ => 0)))] H := hP
  have hD : va_D A [(h0, .inr (7, [.ref q0, .ref q1, .ref q2, .ref q3, .null, .null])), (q0, .inl (cy 0, 4, .inl (upd (upd (upd (upd (fun _ => 0) 0 1) 1 2) 2 2) 3 3))), (q1, .inl (cy 0, 25, .inl (fun _ => 0))), (q2, .inl (cy 0, 512, .inl (fun _ => 0))), (q3, .inl (cy 0, 512, .inl (fun _ => 0))), (q4, .inl (cy 2, 512, .inl (fun _ => 0)))] := hD
  refine W.widen (k := 5) (n := 1565) (Nat.le_of_ble_eq_true rfl) (Nat.le_of_ble_eq_true rfl) ?_
  refine va_putF (D := D) (ci := 7) (v := .ref q4) (ty := .array .boolean) (C := RX8) (T := TX8) (N := 6) hx hb hts (inW inX8 (by decide +kernel)) tyX8 tyX8_ok nmX8 hown hK hP hD hS 0 rfl rfl 4 (by decide) (hts (.fieldLink RX8 26 "AdderChooser$Timing" "hanging" "[Z") (inT_mem (by decide +kernel))) (fun _ h9 => h9) rfl hin rfl (by decide +kernel) rfl rfl (Nat.le_of_ble_eq_true rfl) dX8_init_59 (fun H _ hP hD hS => ?_)
  have hP : va_P D clsL [(h0, .inr (7, [.ref q0, .ref q1, .ref q2, .ref q3, .ref q4, .null])), (q0, .inl (cy 0, 4, .inl (upd (upd (upd (upd (fun _ => 0) 0 1) 1 2) 2 2) 3 3))), (q1, .inl (cy 0, 25, .inl (fun _ => 0))), (q2, .inl (cy 0, 512, .inl (fun _ => 0))), (q3, .inl (cy 0, 512, .inl (fun _ => 0))), (q4, .inl (cy 2, 512, .inl (fun _ => 0)))] H := hP
  have hD : va_D A [(h0, .inr (7, [.ref q0, .ref q1, .ref q2, .ref q3, .ref q4, .null])), (q0, .inl (cy 0, 4, .inl (upd (upd (upd (upd (fun _ => 0) 0 1) 1 2) 2 2) 3 3))), (q1, .inl (cy 0, 25, .inl (fun _ => 0))), (q2, .inl (cy 0, 512, .inl (fun _ => 0))), (q3, .inl (cy 0, 512, .inl (fun _ => 0))), (q4, .inl (cy 2, 512, .inl (fun _ => 0)))] := hD
  refine lv_aload_n hx hb dX8_init_62 rfl (lv_at hl 0 rfl) ?_
  refine lv_sipush (v := 512) hx hb dX8_init_63 (by decide) ?_
  refine nwA (atype := .int) (t0 := 0) (N' := 512) (a0 := (512, .inl (fun _ => 0))) hx hb (hts (.arrayClass .int) (inT_mem (by decide +kernel))) rfl hK rfl hP hD hS hA (fun _ => rfl) (by decide) (by decide) (Nat.le_of_ble_eq_true rfl) (Nat.le_of_ble_eq_true rfl) (Nat.le_of_ble_eq_true rfl) dX8_init_66 (fun q5 H hP hD hS => ?_)
  have hP : va_P D clsL [(h0, .inr (7, [.ref q0, .ref q1, .ref q2, .ref q3, .ref q4, .null])), (q0, .inl (cy 0, 4, .inl (upd (upd (upd (upd (fun _ => 0) 0 1) 1 2) 2 2) 3 3))), (q1, .inl (cy 0, 25, .inl (fun _ => 0))), (q2, .inl (cy 0, 512, .inl (fun _ => 0))), (q3, .inl (cy 0, 512, .inl (fun _ => 0))), (q4, .inl (cy 2, 512, .inl (fun _ => 0))), (q5, .inl (cy 0, 512, .inl (fun _ => 0)))] H := hP
  have hD : va_D A [(h0, .inr (7, [.ref q0, .ref q1, .ref q2, .ref q3, .ref q4, .null])), (q0, .inl (cy 0, 4, .inl (upd (upd (upd (upd (fun _ => 0) 0 1) 1 2) 2 2) 3 3))), (q1, .inl (cy 0, 25, .inl (fun _ => 0))), (q2, .inl (cy 0, 512, .inl (fun _ => 0))), (q3, .inl (cy 0, 512, .inl (fun _ => 0))), (q4, .inl (cy 2, 512, .inl (fun _ => 0))), (q5, .inl (cy 0, 512, .inl (fun _ => 0)))] := hD
  refine W.widen (k := 6) (n := 2077) (Nat.le_of_ble_eq_true rfl) (Nat.le_of_ble_eq_true rfl) ?_
  refine va_putF (D := D) (ci := 7) (v := .ref q5) (ty := .array .int) (C := RX8) (T := TX8) (N := 6) hx hb hts (inW inX8 (by decide +kernel)) tyX8 tyX8_ok nmX8 hown hK hP hD hS 0 rfl rfl 5 (by decide) (hts (.fieldLink RX8 30 "AdderChooser$Timing" "depth" "[I") (inT_mem (by decide +kernel))) (fun _ h9 => h9) rfl hin rfl (by decide +kernel) rfl rfl (Nat.le_of_ble_eq_true rfl) dX8_init_68 (fun H _ hP hD hS => ?_)
  have hP : va_P D clsL [(h0, .inr (7, [.ref q0, .ref q1, .ref q2, .ref q3, .ref q4, .ref q5])), (q0, .inl (cy 0, 4, .inl (upd (upd (upd (upd (fun _ => 0) 0 1) 1 2) 2 2) 3 3))), (q1, .inl (cy 0, 25, .inl (fun _ => 0))), (q2, .inl (cy 0, 512, .inl (fun _ => 0))), (q3, .inl (cy 0, 512, .inl (fun _ => 0))), (q4, .inl (cy 2, 512, .inl (fun _ => 0))), (q5, .inl (cy 0, 512, .inl (fun _ => 0)))] H := hP
  have hD : va_D A [(h0, .inr (7, [.ref q0, .ref q1, .ref q2, .ref q3, .ref q4, .ref q5])), (q0, .inl (cy 0, 4, .inl (upd (upd (upd (upd (fun _ => 0) 0 1) 1 2) 2 2) 3 3))), (q1, .inl (cy 0, 25, .inl (fun _ => 0))), (q2, .inl (cy 0, 512, .inl (fun _ => 0))), (q3, .inl (cy 0, 512, .inl (fun _ => 0))), (q4, .inl (cy 2, 512, .inl (fun _ => 0))), (q5, .inl (cy 0, 512, .inl (fun _ => 0)))] := hD
  exact W.vret hx hb hr (fun t ht hW => ⟨⟨(fun i => ([q0, q1, q2, q3, q4, q5] : List Nat).getD i 0), rfl, trivial, by rw [ht]; exact hP, va_K.moved hW.alike hK, hD⟩, hS.F ht⟩) hS.2.2 dX8_init_71
theorem dX6_init_0 : decode cX6_init 0 = .ok (.aload_n 0, 1) := by decide +kernel
theorem dX6_init_1 : decode cX6_init 1 = .ok (.invokespecial 3, 3) := by decide +kernel
theorem dX6_init_4 : decode cX6_init 4 = .ok (.aload_n 0, 1) := by decide +kernel
theorem dX6_init_5 : decode cX6_init 5 = .ok (.sipush 512, 3) := by decide +kernel
theorem dX6_init_8 : decode cX6_init 8 = .ok (.newarray .int, 2) := by decide +kernel
theorem dX6_init_10 : decode cX6_init 10 = .ok (.putfield 11, 3) := by decide +kernel
theorem dX6_init_13 : decode cX6_init 13 = .ok (.return_, 1) := by decide +kernel
set_option maxHeartbeats 4000000 in
set_option maxRecDepth 100000 in
theorem N_X6 (l : Launch) (D : va_G) (cy : Nat → ClassId) (h0 sz : Nat) : Met l yX6_init (wsM yX6_init cX6_init 1 none) ({ frames := 2, cells := 1, slots := 512, locals := 128 }) (va_Pc [.ref h0] (fun U => U.heap.size = sz ∧ va_P D clsL [(h0, .inr (5, [.int 0, .null, .long 0, .int 0]))] U.heap ∧ va_K D clsL (tysL cy) U ∧ va_D (fun _ => True) [(h0, .inr (5, [.int 0, .null, .long 0, .int 0]))])) (va_Qv (fun _ : Nat → Nat => True) (fun g t => va_P D clsL [(h0, .inr (5, [.int 0, .ref (g 0), .long 0, .int 0])), ((g 0), .inl (cy 0, 512, .inl (fun _ => 0)))] t.heap ∧ va_K D clsL (tysL cy) t ∧ va_D (va_A [(h0, .inr (5, [.int 0, .null, .long 0, .int 0]))] sz) [(h0, .inr (5, [.int 0, .ref (g 0), .long 0, .int 0])), ((g 0), .inl (cy 0, 512, .inl (fun _ => 0)))]) (va_A [(h0, .inr (5, [.int 0, .null, .long 0, .int 0]))] sz)) 1 512 (va_A [(h0, .inr (5, [.int 0, .null, .long 0, .int 0]))] sz) := by
  refine Met.ofW (cc := cX6_init) (maxL := 1) (ret := none) (by decide) rfl ?_
  intro p e s m args below meth c s₁ B hml hv
  obtain ⟨rfl, hsz, hP, hK, hD0⟩ := hv
  have hx := B.exec
  have hb := B.bytes
  have hr := B.returns
  have hts : ∀ w ∈ WT, w.before [Value.ref h0].toArray s = true := fun w hw => atoms_spec (ws := wsM yX6_init cX6_init 1 none) B.pre w (List.mem_cons_of_mem _ hw)
  have hown : s.vm.findClass RX6 = some m.cls := findClass_of_methodNamed B.named
  have hlocks := B.notSynchronized
  have hin : meth.name = "<init>" := (name_of_methodNamed B.named B.method).1
  subst hsz
  have hD := hD0.self (sz := s.heap.size)
  generalize hAe : va_A [(h0, .inr (5, [.int 0, .null, .long 0, .int 0]))] s.heap.size = A at hD ⊢
  have hA : ∀ q : Nat, s.heap.size ≤ q → A q := fun q h => by rw [← hAe]; exact Or.inr h
  have hS : va_S A s.heap s.heap [] := va_S.rf
  have hP : va_P D clsL [(h0, .inr (5, [.int 0, .null, .long 0, .int 0]))] s.heap := hP
  have hl := lv_entry ([.ref h0]) (n := 1) (Nat.le_of_ble_eq_true rfl)
  rw [lg_entry_eq]
  generalize (lg_sl ([.ref h0]) ++ List.replicate (1 - (lg_sl ([.ref h0])).length) Slot.unset).toArray = ls at hl ⊢
  have hl : lv_has ls 1 [(0, .ref h0)] := hl
  refine lv_aload_n hx hb dX6_init_0 rfl (lv_at hl 0 rfl) ?_
  refine W.objInit hx hb hown (hts (.methodLink RX6 3 objectInit) (inT_mem (by decide +kernel))) (hts (.instanceMethod objectInit) (inT_mem (by decide +kernel))) (hts (.code objectInit ⟨#[0xb1]⟩ 1 none) (inT_mem (by decide +kernel))) rfl (by rw [hml]; exact hl.1) rfl dX6_init_1 (Nat.le_of_ble_eq_true rfl) (Nat.le_of_ble_eq_true rfl) ?_
  refine W.eq (g2 := F0 m 4 ls []) rfl ?_
  refine lv_aload_n hx hb dX6_init_4 rfl (lv_at hl 0 rfl) ?_
  refine lv_sipush (v := 512) hx hb dX6_init_5 (by decide) ?_
  refine nwA (atype := .int) (t0 := 0) (N' := 512) (a0 := (512, .inl (fun _ => 0))) hx hb (hts (.arrayClass .int) (inT_mem (by decide +kernel))) rfl hK rfl hP hD hS hA (fun _ => rfl) (by decide) (by decide) (Nat.le_of_ble_eq_true rfl) (Nat.le_of_ble_eq_true rfl) (Nat.le_of_ble_eq_true rfl) dX6_init_8 (fun q0 H hP hD hS => ?_)
  have hP : va_P D clsL [(h0, .inr (5, [.int 0, .null, .long 0, .int 0])), (q0, .inl (cy 0, 512, .inl (fun _ => 0)))] H := hP
  have hD : va_D A [(h0, .inr (5, [.int 0, .null, .long 0, .int 0])), (q0, .inl (cy 0, 512, .inl (fun _ => 0)))] := hD
  refine W.widen (k := 1) (n := 512) (Nat.le_of_ble_eq_true rfl) (Nat.le_of_ble_eq_true rfl) ?_
  refine va_putF (D := D) (ci := 5) (v := .ref q0) (ty := .array .int) (C := RX6) (T := TX6) (N := 4) hx hb hts (inW inX6 (by decide +kernel)) tyX6 tyX6_ok nmX6 hown hK hP hD hS 0 rfl rfl 1 (by decide) (hts (.fieldLink RX6 11 "AdderChooser$Sweep" "settled" "[I") (inT_mem (by decide +kernel))) (fun _ h9 => h9) rfl hin rfl (by decide +kernel) rfl rfl (Nat.le_of_ble_eq_true rfl) dX6_init_10 (fun H _ hP hD hS => ?_)
  have hP : va_P D clsL [(h0, .inr (5, [.int 0, .ref q0, .long 0, .int 0])), (q0, .inl (cy 0, 512, .inl (fun _ => 0)))] H := hP
  have hD : va_D A [(h0, .inr (5, [.int 0, .ref q0, .long 0, .int 0])), (q0, .inl (cy 0, 512, .inl (fun _ => 0)))] := hD
  exact W.vret hx hb hr (fun t ht hW => ⟨⟨(fun i => ([q0] : List Nat).getD i 0), rfl, trivial, by rw [ht]; exact hP, va_K.moved hW.alike hK, hD⟩, hS.F ht⟩) hS.2.2 dX6_init_13
theorem dX4_init_0 : decode cX4_init 0 = .ok (.aload_n 0, 1) := by decide +kernel
theorem dX4_init_1 : decode cX4_init 1 = .ok (.invokespecial 3, 3) := by decide +kernel
theorem dX4_init_4 : decode cX4_init 4 = .ok (.return_, 1) := by decide +kernel
set_option maxHeartbeats 4000000 in
set_option maxRecDepth 100000 in
theorem N_X4 (l : Launch) (D : va_G) (cy : Nat → ClassId) (h0 sz : Nat) : Met l yX4_init (wsM yX4_init cX4_init 1 none) ({ frames := 2, cells := 0, slots := 0, locals := 128 }) (va_Pc [.ref h0] (fun U => U.heap.size = sz ∧ va_P D clsL [(h0, .inr (3, [.int 0, .int 0, .int 0, .int 0, .long 0, .int 0, .int 0, .int 0]))] U.heap ∧ va_K D clsL (tysL cy) U ∧ va_D (fun _ => True) [(h0, .inr (3, [.int 0, .int 0, .int 0, .int 0, .long 0, .int 0, .int 0, .int 0]))])) (va_Qv (fun _ : Nat → Nat => True) (fun g t => va_P D clsL [(h0, .inr (3, [.int 0, .int 0, .int 0, .int 0, .long 0, .int 0, .int 0, .int 0]))] t.heap ∧ va_K D clsL (tysL cy) t ∧ va_D (va_A [(h0, .inr (3, [.int 0, .int 0, .int 0, .int 0, .long 0, .int 0, .int 0, .int 0]))] sz) [(h0, .inr (3, [.int 0, .int 0, .int 0, .int 0, .long 0, .int 0, .int 0, .int 0]))]) (va_A [(h0, .inr (3, [.int 0, .int 0, .int 0, .int 0, .long 0, .int 0, .int 0, .int 0]))] sz)) 0 0 (va_A [(h0, .inr (3, [.int 0, .int 0, .int 0, .int 0, .long 0, .int 0, .int 0, .int 0]))] sz) := by
  refine Met.ofW (cc := cX4_init) (maxL := 1) (ret := none) (by decide) rfl ?_
  intro p e s m args below meth c s₁ B hml hv
  obtain ⟨rfl, hsz, hP, hK, hD0⟩ := hv
  have hx := B.exec
  have hb := B.bytes
  have hr := B.returns
  have hts : ∀ w ∈ WT, w.before [Value.ref h0].toArray s = true := fun w hw => atoms_spec (ws := wsM yX4_init cX4_init 1 none) B.pre w (List.mem_cons_of_mem _ hw)
  have hown : s.vm.findClass RX4 = some m.cls := findClass_of_methodNamed B.named
  have hlocks := B.notSynchronized
  have hin : meth.name = "<init>" := (name_of_methodNamed B.named B.method).1
  subst hsz
  have hD := hD0.self (sz := s.heap.size)
  generalize hAe : va_A [(h0, .inr (3, [.int 0, .int 0, .int 0, .int 0, .long 0, .int 0, .int 0, .int 0]))] s.heap.size = A at hD ⊢
  have hA : ∀ q : Nat, s.heap.size ≤ q → A q := fun q h => by rw [← hAe]; exact Or.inr h
  have hS : va_S A s.heap s.heap [] := va_S.rf
  have hP : va_P D clsL [(h0, .inr (3, [.int 0, .int 0, .int 0, .int 0, .long 0, .int 0, .int 0, .int 0]))] s.heap := hP
  have hl := lv_entry ([.ref h0]) (n := 1) (Nat.le_of_ble_eq_true rfl)
  rw [lg_entry_eq]
  generalize (lg_sl ([.ref h0]) ++ List.replicate (1 - (lg_sl ([.ref h0])).length) Slot.unset).toArray = ls at hl ⊢
  have hl : lv_has ls 1 [(0, .ref h0)] := hl
  refine lv_aload_n hx hb dX4_init_0 rfl (lv_at hl 0 rfl) ?_
  refine W.objInit hx hb hown (hts (.methodLink RX4 3 objectInit) (inT_mem (by decide +kernel))) (hts (.instanceMethod objectInit) (inT_mem (by decide +kernel))) (hts (.code objectInit ⟨#[0xb1]⟩ 1 none) (inT_mem (by decide +kernel))) rfl (by rw [hml]; exact hl.1) rfl dX4_init_1 (Nat.le_of_ble_eq_true rfl) (Nat.le_of_ble_eq_true rfl) ?_
  refine W.eq (g2 := F0 m 4 ls []) rfl ?_
  exact W.vret hx hb hr (fun t ht hW => ⟨⟨(fun i => ([] : List Nat).getD i 0), rfl, trivial, by rw [ht]; exact hP, va_K.moved hW.alike hK, hD⟩, hS.F ht⟩) hS.2.2 dX4_init_4
theorem dX5_init_0 : decode cX5_init 0 = .ok (.aload_n 0, 1) := by decide +kernel
theorem dX5_init_1 : decode cX5_init 1 = .ok (.invokespecial 3, 3) := by decide +kernel
theorem dX5_init_4 : decode cX5_init 4 = .ok (.aload_n 0, 1) := by decide +kernel
theorem dX5_init_5 : decode cX5_init 5 = .ok (.bipush 20, 2) := by decide +kernel
theorem dX5_init_7 : decode cX5_init 7 = .ok (.newarray .long, 2) := by decide +kernel
theorem dX5_init_9 : decode cX5_init 9 = .ok (.putfield 11, 3) := by decide +kernel
theorem dX5_init_12 : decode cX5_init 12 = .ok (.aload_n 0, 1) := by decide +kernel
theorem dX5_init_13 : decode cX5_init 13 = .ok (.iconst (-1), 1) := by decide +kernel
theorem dX5_init_14 : decode cX5_init 14 = .ok (.putfield 15, 3) := by decide +kernel
theorem dX5_init_17 : decode cX5_init 17 = .ok (.return_, 1) := by decide +kernel
set_option maxHeartbeats 4000000 in
set_option maxRecDepth 100000 in
theorem N_X5 (l : Launch) (D : va_G) (cy : Nat → ClassId) (h0 sz : Nat) : Met l yX5_init (wsM yX5_init cX5_init 1 none) ({ frames := 2, cells := 1, slots := 20, locals := 128 }) (va_Pc [.ref h0] (fun U => U.heap.size = sz ∧ va_P D clsL [(h0, .inr (4, [.null, .int 0, .int 0, .long 0]))] U.heap ∧ va_K D clsL (tysL cy) U ∧ va_D (fun _ => True) [(h0, .inr (4, [.null, .int 0, .int 0, .long 0]))])) (va_Qv (fun _ : Nat → Nat => True) (fun g t => va_P D clsL [(h0, .inr (4, [.ref (g 0), .int (-1), .int 0, .long 0])), ((g 0), .inl (cy 1, 20, .inr (.inl (fun _ => 0))))] t.heap ∧ va_K D clsL (tysL cy) t ∧ va_D (va_A [(h0, .inr (4, [.null, .int 0, .int 0, .long 0]))] sz) [(h0, .inr (4, [.ref (g 0), .int (-1), .int 0, .long 0])), ((g 0), .inl (cy 1, 20, .inr (.inl (fun _ => 0))))]) (va_A [(h0, .inr (4, [.null, .int 0, .int 0, .long 0]))] sz)) 1 20 (va_A [(h0, .inr (4, [.null, .int 0, .int 0, .long 0]))] sz) := by
  refine Met.ofW (cc := cX5_init) (maxL := 1) (ret := none) (by decide) rfl ?_
  intro p e s m args below meth c s₁ B hml hv
  obtain ⟨rfl, hsz, hP, hK, hD0⟩ := hv
  have hx := B.exec
  have hb := B.bytes
  have hr := B.returns
  have hts : ∀ w ∈ WT, w.before [Value.ref h0].toArray s = true := fun w hw => atoms_spec (ws := wsM yX5_init cX5_init 1 none) B.pre w (List.mem_cons_of_mem _ hw)
  have hown : s.vm.findClass RX5 = some m.cls := findClass_of_methodNamed B.named
  have hlocks := B.notSynchronized
  have hin : meth.name = "<init>" := (name_of_methodNamed B.named B.method).1
  subst hsz
  have hD := hD0.self (sz := s.heap.size)
  generalize hAe : va_A [(h0, .inr (4, [.null, .int 0, .int 0, .long 0]))] s.heap.size = A at hD ⊢
  have hA : ∀ q : Nat, s.heap.size ≤ q → A q := fun q h => by rw [← hAe]; exact Or.inr h
  have hS : va_S A s.heap s.heap [] := va_S.rf
  have hP : va_P D clsL [(h0, .inr (4, [.null, .int 0, .int 0, .long 0]))] s.heap := hP
  have hl := lv_entry ([.ref h0]) (n := 1) (Nat.le_of_ble_eq_true rfl)
  rw [lg_entry_eq]
  generalize (lg_sl ([.ref h0]) ++ List.replicate (1 - (lg_sl ([.ref h0])).length) Slot.unset).toArray = ls at hl ⊢
  have hl : lv_has ls 1 [(0, .ref h0)] := hl
  refine lv_aload_n hx hb dX5_init_0 rfl (lv_at hl 0 rfl) ?_
  refine W.objInit hx hb hown (hts (.methodLink RX5 3 objectInit) (inT_mem (by decide +kernel))) (hts (.instanceMethod objectInit) (inT_mem (by decide +kernel))) (hts (.code objectInit ⟨#[0xb1]⟩ 1 none) (inT_mem (by decide +kernel))) rfl (by rw [hml]; exact hl.1) rfl dX5_init_1 (Nat.le_of_ble_eq_true rfl) (Nat.le_of_ble_eq_true rfl) ?_
  refine W.eq (g2 := F0 m 4 ls []) rfl ?_
  refine lv_aload_n hx hb dX5_init_4 rfl (lv_at hl 0 rfl) ?_
  refine lv_bipush (v := 20) hx hb dX5_init_5 (by decide) ?_
  refine nwA (atype := .long) (t0 := 1) (N' := 20) (a0 := (20, .inr (.inl (fun _ => 0)))) hx hb (hts (.arrayClass .long) (inT_mem (by decide +kernel))) rfl hK rfl hP hD hS hA (fun _ => rfl) (by decide) (by decide) (Nat.le_of_ble_eq_true rfl) (Nat.le_of_ble_eq_true rfl) (Nat.le_of_ble_eq_true rfl) dX5_init_7 (fun q0 H hP hD hS => ?_)
  have hP : va_P D clsL [(h0, .inr (4, [.null, .int 0, .int 0, .long 0])), (q0, .inl (cy 1, 20, .inr (.inl (fun _ => 0))))] H := hP
  have hD : va_D A [(h0, .inr (4, [.null, .int 0, .int 0, .long 0])), (q0, .inl (cy 1, 20, .inr (.inl (fun _ => 0))))] := hD
  refine W.widen (k := 1) (n := 20) (Nat.le_of_ble_eq_true rfl) (Nat.le_of_ble_eq_true rfl) ?_
  refine va_putF (D := D) (ci := 4) (v := .ref q0) (ty := .array .long) (C := RX5) (T := TX5) (N := 4) hx hb hts (inW inX5 (by decide +kernel)) tyX5 tyX5_ok nmX5 hown hK hP hD hS 0 rfl rfl 0 (by decide) (hts (.fieldLink RX5 11 "AdderChooser$Shelf" "items" "[J") (inT_mem (by decide +kernel))) (fun _ h9 => h9) rfl hin rfl (by decide +kernel) rfl rfl (Nat.le_of_ble_eq_true rfl) dX5_init_9 (fun H _ hP hD hS => ?_)
  have hP : va_P D clsL [(h0, .inr (4, [.ref q0, .int 0, .int 0, .long 0])), (q0, .inl (cy 1, 20, .inr (.inl (fun _ => 0))))] H := hP
  have hD : va_D A [(h0, .inr (4, [.ref q0, .int 0, .int 0, .long 0])), (q0, .inl (cy 1, 20, .inr (.inl (fun _ => 0))))] := hD
  refine lv_aload_n hx hb dX5_init_12 rfl (lv_at hl 0 rfl) ?_
  refine lv_iconst (v := (-1)) hx hb dX5_init_13 (by decide) ?_
  refine va_put (D := D) (ci := 4) (v := .int (-1)) (ty := .int) (C := RX5) (T := TX5) (N := 4) hx hb hts (inW inX5 (by decide +kernel)) tyX5 tyX5_ok nmX5 hown hK hP hD hS 0 rfl rfl 1 (by decide) (hts (.fieldLink RX5 15 "AdderChooser$Shelf" "sort" "I") (inT_mem (by decide +kernel))) (fun _ h9 => h9) rfl (by decide +kernel) rfl rfl (Nat.le_of_ble_eq_true rfl) dX5_init_14 (fun H _ hP hD hS => ?_)
  have hP : va_P D clsL [(h0, .inr (4, [.ref q0, .int (-1), .int 0, .long 0])), (q0, .inl (cy 1, 20, .inr (.inl (fun _ => 0))))] H := hP
  have hD : va_D A [(h0, .inr (4, [.ref q0, .int (-1), .int 0, .long 0])), (q0, .inl (cy 1, 20, .inr (.inl (fun _ => 0))))] := hD
  exact W.vret hx hb hr (fun t ht hW => ⟨⟨(fun i => ([q0] : List Nat).getD i 0), rfl, trivial, by rw [ht]; exact hP, va_K.moved hW.alike hK, hD⟩, hS.F ht⟩) hS.2.2 dX5_init_17
theorem dX9_init_0 : decode cX9_init 0 = .ok (.aload_n 0, 1) := by decide +kernel
theorem dX9_init_1 : decode cX9_init 1 = .ok (.invokespecial 3, 3) := by decide +kernel
theorem dX9_init_4 : decode cX9_init 4 = .ok (.aload_n 0, 1) := by decide +kernel
theorem dX9_init_5 : decode cX9_init 5 = .ok (.new 9, 3) := by decide +kernel
theorem dX9_init_8 : decode cX9_init 8 = .ok (.dup, 1) := by decide +kernel
theorem dX9_init_9 : decode cX9_init 9 = .ok (.invokespecial 11, 3) := by decide +kernel
theorem dX9_init_12 : decode cX9_init 12 = .ok (.putfield 12, 3) := by decide +kernel
theorem dX9_init_15 : decode cX9_init 15 = .ok (.aload_n 0, 1) := by decide +kernel
theorem dX9_init_16 : decode cX9_init 16 = .ok (.new 18, 3) := by decide +kernel
theorem dX9_init_19 : decode cX9_init 19 = .ok (.dup, 1) := by decide +kernel
theorem dX9_init_20 : decode cX9_init 20 = .ok (.invokespecial 20, 3) := by decide +kernel
theorem dX9_init_23 : decode cX9_init 23 = .ok (.putfield 21, 3) := by decide +kernel
theorem dX9_init_26 : decode cX9_init 26 = .ok (.aload_n 0, 1) := by decide +kernel
theorem dX9_init_27 : decode cX9_init 27 = .ok (.new 25, 3) := by decide +kernel
theorem dX9_init_30 : decode cX9_init 30 = .ok (.dup, 1) := by decide +kernel
theorem dX9_init_31 : decode cX9_init 31 = .ok (.invokespecial 27, 3) := by decide +kernel
theorem dX9_init_34 : decode cX9_init 34 = .ok (.putfield 28, 3) := by decide +kernel
theorem dX9_init_37 : decode cX9_init 37 = .ok (.aload_n 0, 1) := by decide +kernel
theorem dX9_init_38 : decode cX9_init 38 = .ok (.new 32, 3) := by decide +kernel
theorem dX9_init_41 : decode cX9_init 41 = .ok (.dup, 1) := by decide +kernel
theorem dX9_init_42 : decode cX9_init 42 = .ok (.invokespecial 34, 3) := by decide +kernel
theorem dX9_init_45 : decode cX9_init 45 = .ok (.putfield 35, 3) := by decide +kernel
theorem dX9_init_48 : decode cX9_init 48 = .ok (.aload_n 0, 1) := by decide +kernel
theorem dX9_init_49 : decode cX9_init 49 = .ok (.new 39, 3) := by decide +kernel
theorem dX9_init_52 : decode cX9_init 52 = .ok (.dup, 1) := by decide +kernel
theorem dX9_init_53 : decode cX9_init 53 = .ok (.invokespecial 41, 3) := by decide +kernel
theorem dX9_init_56 : decode cX9_init 56 = .ok (.putfield 42, 3) := by decide +kernel
theorem dX9_init_59 : decode cX9_init 59 = .ok (.aload_n 0, 1) := by decide +kernel
theorem dX9_init_60 : decode cX9_init 60 = .ok (.new 46, 3) := by decide +kernel
theorem dX9_init_63 : decode cX9_init 63 = .ok (.dup, 1) := by decide +kernel
theorem dX9_init_64 : decode cX9_init 64 = .ok (.invokespecial 48, 3) := by decide +kernel
theorem dX9_init_67 : decode cX9_init 67 = .ok (.putfield 49, 3) := by decide +kernel
theorem dX9_init_70 : decode cX9_init 70 = .ok (.aload_n 0, 1) := by decide +kernel
theorem dX9_init_71 : decode cX9_init 71 = .ok (.new 53, 3) := by decide +kernel
theorem dX9_init_74 : decode cX9_init 74 = .ok (.dup, 1) := by decide +kernel
theorem dX9_init_75 : decode cX9_init 75 = .ok (.invokespecial 55, 3) := by decide +kernel
theorem dX9_init_78 : decode cX9_init 78 = .ok (.putfield 56, 3) := by decide +kernel
theorem dX9_init_81 : decode cX9_init 81 = .ok (.aload_n 0, 1) := by decide +kernel
theorem dX9_init_82 : decode cX9_init 82 = .ok (.iconst 4, 1) := by decide +kernel
theorem dX9_init_83 : decode cX9_init 83 = .ok (.anewarray 60, 3) := by decide +kernel
theorem dX9_init_86 : decode cX9_init 86 = .ok (.putfield 62, 3) := by decide +kernel
theorem dX9_init_89 : decode cX9_init 89 = .ok (.iconst 0, 1) := by decide +kernel
theorem dX9_init_90 : decode cX9_init 90 = .ok (.istore_n 1, 1) := by decide +kernel
theorem dX9_init_91 : decode cX9_init 91 = .ok (.iload_n 1, 1) := by decide +kernel
theorem dX9_init_92 : decode cX9_init 92 = .ok (.iconst 4, 1) := by decide +kernel
theorem dX9_init_93 : decode cX9_init 93 = .ok (.if_icmp .ge 22, 3) := by decide +kernel
theorem dX9_init_96 : decode cX9_init 96 = .ok (.aload_n 0, 1) := by decide +kernel
theorem dX9_init_97 : decode cX9_init 97 = .ok (.getfield 62, 3) := by decide +kernel
theorem dX9_init_100 : decode cX9_init 100 = .ok (.iload_n 1, 1) := by decide +kernel
theorem dX9_init_101 : decode cX9_init 101 = .ok (.new 60, 3) := by decide +kernel
theorem dX9_init_104 : decode cX9_init 104 = .ok (.dup, 1) := by decide +kernel
theorem dX9_init_105 : decode cX9_init 105 = .ok (.invokespecial 66, 3) := by decide +kernel
theorem dX9_init_108 : decode cX9_init 108 = .ok (.aastore, 1) := by decide +kernel
theorem dX9_init_109 : decode cX9_init 109 = .ok (.iinc 1 1, 3) := by decide +kernel
theorem dX9_init_112 : decode cX9_init 112 = .ok (.goto (-21), 3) := by decide +kernel
theorem dX9_init_91 : decode cX9_init 91 = .ok (.iload_n 1, 1) := by decide +kernel
theorem dX9_init_92 : decode cX9_init 92 = .ok (.iconst 4, 1) := by decide +kernel
theorem dX9_init_93 : decode cX9_init 93 = .ok (.if_icmp .ge 22, 3) := by decide +kernel
theorem dX9_init_96 : decode cX9_init 96 = .ok (.aload_n 0, 1) := by decide +kernel
theorem dX9_init_97 : decode cX9_init 97 = .ok (.getfield 62, 3) := by decide +kernel
theorem dX9_init_100 : decode cX9_init 100 = .ok (.iload_n 1, 1) := by decide +kernel
theorem dX9_init_101 : decode cX9_init 101 = .ok (.new 60, 3) := by decide +kernel
theorem dX9_init_104 : decode cX9_init 104 = .ok (.dup, 1) := by decide +kernel
theorem dX9_init_105 : decode cX9_init 105 = .ok (.invokespecial 66, 3) := by decide +kernel
theorem dX9_init_108 : decode cX9_init 108 = .ok (.aastore, 1) := by decide +kernel
theorem dX9_init_109 : decode cX9_init 109 = .ok (.iinc 1 1, 3) := by decide +kernel
theorem dX9_init_112 : decode cX9_init 112 = .ok (.goto (-21), 3) := by decide +kernel
theorem dX9_init_91 : decode cX9_init 91 = .ok (.iload_n 1, 1) := by decide +kernel
theorem dX9_init_92 : decode cX9_init 92 = .ok (.iconst 4, 1) := by decide +kernel
theorem dX9_init_93 : decode cX9_init 93 = .ok (.if_icmp .ge 22, 3) := by decide +kernel
theorem dX9_init_96 : decode cX9_init 96 = .ok (.aload_n 0, 1) := by decide +kernel
theorem dX9_init_97 : decode cX9_init 97 = .ok (.getfield 62, 3) := by decide +kernel
theorem dX9_init_100 : decode cX9_init 100 = .ok (.iload_n 1, 1) := by decide +kernel
theorem dX9_init_101 : decode cX9_init 101 = .ok (.new 60, 3) := by decide +kernel
theorem dX9_init_104 : decode cX9_init 104 = .ok (.dup, 1) := by decide +kernel
theorem dX9_init_105 : decode cX9_init 105 = .ok (.invokespecial 66, 3) := by decide +kernel
theorem dX9_init_108 : decode cX9_init 108 = .ok (.aastore, 1) := by decide +kernel
theorem dX9_init_109 : decode cX9_init 109 = .ok (.iinc 1 1, 3) := by decide +kernel
theorem dX9_init_112 : decode cX9_init 112 = .ok (.goto (-21), 3) := by decide +kernel
theorem dX9_init_91 : decode cX9_init 91 = .ok (.iload_n 1, 1) := by decide +kernel
theorem dX9_init_92 : decode cX9_init 92 = .ok (.iconst 4, 1) := by decide +kernel
theorem dX9_init_93 : decode cX9_init 93 = .ok (.if_icmp .ge 22, 3) := by decide +kernel
theorem dX9_init_96 : decode cX9_init 96 = .ok (.aload_n 0, 1) := by decide +kernel
theorem dX9_init_97 : decode cX9_init 97 = .ok (.getfield 62, 3) := by decide +kernel
theorem dX9_init_100 : decode cX9_init 100 = .ok (.iload_n 1, 1) := by decide +kernel
theorem dX9_init_101 : decode cX9_init 101 = .ok (.new 60, 3) := by decide +kernel
theorem dX9_init_104 : decode cX9_init 104 = .ok (.dup, 1) := by decide +kernel
theorem dX9_init_105 : decode cX9_init 105 = .ok (.invokespecial 66, 3) := by decide +kernel
theorem dX9_init_108 : decode cX9_init 108 = .ok (.aastore, 1) := by decide +kernel
theorem dX9_init_109 : decode cX9_init 109 = .ok (.iinc 1 1, 3) := by decide +kernel
theorem dX9_init_112 : decode cX9_init 112 = .ok (.goto (-21), 3) := by decide +kernel
theorem dX9_init_91 : decode cX9_init 91 = .ok (.iload_n 1, 1) := by decide +kernel
theorem dX9_init_92 : decode cX9_init 92 = .ok (.iconst 4, 1) := by decide +kernel
theorem dX9_init_93 : decode cX9_init 93 = .ok (.if_icmp .ge 22, 3) := by decide +kernel
theorem dX9_init_115 : decode cX9_init 115 = .ok (.aload_n 0, 1) := by decide +kernel
theorem dX9_init_116 : decode cX9_init 116 = .ok (.bipush 13, 2) := by decide +kernel
theorem dX9_init_118 : decode cX9_init 118 = .ok (.newarray .long, 2) := by decide +kernel
theorem dX9_init_120 : decode cX9_init 120 = .ok (.putfield 67, 3) := by decide +kernel
theorem dX9_init_123 : decode cX9_init 123 = .ok (.return_, 1) := by decide +kernel
set_option maxHeartbeats 4000000 in
set_option maxRecDepth 100000 in
theorem N_X9 (l : Launch) (D : va_G) (cy : Nat → ClassId) (h0 sz : Nat) : Met l yX9_init (wsM yX9_init cX9_init 2 none) ({ frames := 4, cells := 40, slots := 6471, locals := 256 }) (va_Pc [.ref h0] (fun U => U.heap.size = sz ∧ va_P D clsL [(h0, .inr (8, [.null, .null, .null, .null, .null, .null, .null, .null, .null]))] U.heap ∧ va_K D clsL (tysL cy) U ∧ va_D (fun _ => True) [(h0, .inr (8, [.null, .null, .null, .null, .null, .null, .null, .null, .null]))] ∧ va_AO "AdderChooser$Shelf" U ∧ va_Nw (.methodLinkNest RX9 11 yX7_init "AdderChooser") U ∧ va_Nw (.methodLinkNest RX9 20 yX3_init "AdderChooser") U ∧ va_Nw (.methodLinkNest RX9 27 yX1_init "AdderChooser") U ∧ va_Nw (.methodLinkNest RX9 34 yX2_init "AdderChooser") U ∧ va_Nw (.methodLinkNest RX9 41 yX8_init "AdderChooser") U ∧ va_Nw (.methodLinkNest RX9 48 yX6_init "AdderChooser") U ∧ va_Nw (.methodLinkNest RX9 55 yX4_init "AdderChooser") U ∧ va_Nw (.methodLinkNest RX9 66 yX5_init "AdderChooser") U)) (va_Qv (fun _ : Nat → Nat => True) (fun g t => va_P D clsL [(h0, .inr (8, [.ref (g 0), .ref (g 2), .ref (g 5), .ref (g 7), .ref (g 20), .ref (g 27), .ref (g 29), .ref (g 30), .ref (g 39)])), ((g 0), .inr (6, [.ref (g 1), .int 0, .long 0])), ((g 1), .inl (cy 0, 40, .inl (fun _ => 0))), ((g 2), .inr (2, [.ref (g 3), .ref (g 4), .int 0])), ((g 3), .inl (cy 0, 12, .inl (fun _ => 0))), ((g 4), .inl (cy 1, 12, .inr (.inl (fun _ => 0)))), ((g 5), .inr (0, [.ref (g 6), .int 0])), ((g 6), .inl (cy 1, 20, .inr (.inl (fun _ => 0)))), ((g 7), .inr (1, [.ref (g 8), .ref (g 9), .ref (g 10), .ref (g 11), .ref (g 12), .int 0, .int 0, .int 0, .ref (g 13), .ref (g 14), .ref (g 15), .ref (g 16), .ref (g 17), .ref (g 18), .ref (g 19)])), ((g 8), .inl (cy 0, 512, .inl (fun _ => 0))), ((g 9), .inl (cy 0, 512, .inl (fun _ => 0))), ((g 10), .inl (cy 0, 512, .inl (fun _ => 0))), ((g 11), .inl (cy 2, 512, .inl (fun _ => 0))), ((g 12), .inl (cy 0, 12, .inl (fun _ => 0))), ((g 13), .inl (cy 0, 512, .inl (fun _ => 0))), ((g 14), .inl (cy 0, 512, .inl (fun _ => 0))), ((g 15), .inl (cy 2, 512, .inl (fun _ => 0))), ((g 16), .inl (cy 0, 12, .inl (fun _ => 0))), ((g 17), .inl (cy 0, 12, .inl (fun _ => 0))), ((g 18), .inl (cy 0, 12, .inl (fun _ => 0))), ((g 19), .inl (cy 0, 12, .inl (fun _ => 0))), ((g 20), .inr (7, [.ref (g 21), .ref (g 22), .ref (g 23), .ref (g 24), .ref (g 25), .ref (g 26)])), ((g 21), .inl (cy 0, 4, .inl (upd (upd (upd (upd (fun _ => 0) 0 1) 1 2) 2 2) 3 3))), ((g 22), .inl (cy 0, 25, .inl (fun _ => 0))), ((g 23), .inl (cy 0, 512, .inl (fun _ => 0))), ((g 24), .inl (cy 0, 512, .inl (fun _ => 0))), ((g 25), .inl (cy 2, 512, .inl (fun _ => 0))), ((g 26), .inl (cy 0, 512, .inl (fun _ => 0))), ((g 27), .inr (5, [.int 0, .ref (g 28), .long 0, .int 0])), ((g 28), .inl (cy 0, 512, .inl (fun _ => 0))), ((g 29), .inr (3, [.int 0, .int 0, .int 0, .int 0, .long 0, .int 0, .int 0, .int 0])), ((g 30), .inl (cy 3, 4, .inr (.inr (.inr (.inr (va_up (va_up (va_up (va_up (fun _ => none) 0 (some (g 31))) 1 (some (g 33))) 2 (some (g 35))) 3 (some (g 37)))))))), ((g 31), .inr (4, [.ref (g 32), .int (-1), .int 0, .long 0])), ((g 32), .inl (cy 1, 20, .inr (.inl (fun _ => 0)))), ((g 33), .inr (4, [.ref (g 34), .int (-1), .int 0, .long 0])), ((g 34), .inl (cy 1, 20, .inr (.inl (fun _ => 0)))), ((g 35), .inr (4, [.ref (g 36), .int (-1), .int 0, .long 0])), ((g 36), .inl (cy 1, 20, .inr (.inl (fun _ => 0)))), ((g 37), .inr (4, [.ref (g 38), .int (-1), .int 0, .long 0])), ((g 38), .inl (cy 1, 20, .inr (.inl (fun _ => 0)))), ((g 39), .inl (cy 1, 13, .inr (.inl (fun _ => 0))))] t.heap ∧ va_K D clsL (tysL cy) t ∧ va_D (va_A [(h0, .inr (8, [.null, .null, .null, .null, .null, .null, .null, .null, .null]))] sz) [(h0, .inr (8, [.ref (g 0), .ref (g 2), .ref (g 5), .ref (g 7), .ref (g 20), .ref (g 27), .ref (g 29), .ref (g 30), .ref (g 39)])), ((g 0), .inr (6, [.ref (g 1), .int 0, .long 0])), ((g 1), .inl (cy 0, 40, .inl (fun _ => 0))), ((g 2), .inr (2, [.ref (g 3), .ref (g 4), .int 0])), ((g 3), .inl (cy 0, 12, .inl (fun _ => 0))), ((g 4), .inl (cy 1, 12, .inr (.inl (fun _ => 0)))), ((g 5), .inr (0, [.ref (g 6), .int 0])), ((g 6), .inl (cy 1, 20, .inr (.inl (fun _ => 0)))), ((g 7), .inr (1, [.ref (g 8), .ref (g 9), .ref (g 10), .ref (g 11), .ref (g 12), .int 0, .int 0, .int 0, .ref (g 13), .ref (g 14), .ref (g 15), .ref (g 16), .ref (g 17), .ref (g 18), .ref (g 19)])), ((g 8), .inl (cy 0, 512, .inl (fun _ => 0))), ((g 9), .inl (cy 0, 512, .inl (fun _ => 0))), ((g 10), .inl (cy 0, 512, .inl (fun _ => 0))), ((g 11), .inl (cy 2, 512, .inl (fun _ => 0))), ((g 12), .inl (cy 0, 12, .inl (fun _ => 0))), ((g 13), .inl (cy 0, 512, .inl (fun _ => 0))), ((g 14), .inl (cy 0, 512, .inl (fun _ => 0))), ((g 15), .inl (cy 2, 512, .inl (fun _ => 0))), ((g 16), .inl (cy 0, 12, .inl (fun _ => 0))), ((g 17), .inl (cy 0, 12, .inl (fun _ => 0))), ((g 18), .inl (cy 0, 12, .inl (fun _ => 0))), ((g 19), .inl (cy 0, 12, .inl (fun _ => 0))), ((g 20), .inr (7, [.ref (g 21), .ref (g 22), .ref (g 23), .ref (g 24), .ref (g 25), .ref (g 26)])), ((g 21), .inl (cy 0, 4, .inl (upd (upd (upd (upd (fun _ => 0) 0 1) 1 2) 2 2) 3 3))), ((g 22), .inl (cy 0, 25, .inl (fun _ => 0))), ((g 23), .inl (cy 0, 512, .inl (fun _ => 0))), ((g 24), .inl (cy 0, 512, .inl (fun _ => 0))), ((g 25), .inl (cy 2, 512, .inl (fun _ => 0))), ((g 26), .inl (cy 0, 512, .inl (fun _ => 0))), ((g 27), .inr (5, [.int 0, .ref (g 28), .long 0, .int 0])), ((g 28), .inl (cy 0, 512, .inl (fun _ => 0))), ((g 29), .inr (3, [.int 0, .int 0, .int 0, .int 0, .long 0, .int 0, .int 0, .int 0])), ((g 30), .inl (cy 3, 4, .inr (.inr (.inr (.inr (va_up (va_up (va_up (va_up (fun _ => none) 0 (some (g 31))) 1 (some (g 33))) 2 (some (g 35))) 3 (some (g 37)))))))), ((g 31), .inr (4, [.ref (g 32), .int (-1), .int 0, .long 0])), ((g 32), .inl (cy 1, 20, .inr (.inl (fun _ => 0)))), ((g 33), .inr (4, [.ref (g 34), .int (-1), .int 0, .long 0])), ((g 34), .inl (cy 1, 20, .inr (.inl (fun _ => 0)))), ((g 35), .inr (4, [.ref (g 36), .int (-1), .int 0, .long 0])), ((g 36), .inl (cy 1, 20, .inr (.inl (fun _ => 0)))), ((g 37), .inr (4, [.ref (g 38), .int (-1), .int 0, .long 0])), ((g 38), .inl (cy 1, 20, .inr (.inl (fun _ => 0)))), ((g 39), .inl (cy 1, 13, .inr (.inl (fun _ => 0))))]) (va_A [(h0, .inr (8, [.null, .null, .null, .null, .null, .null, .null, .null, .null]))] sz)) 40 6471 (va_A [(h0, .inr (8, [.null, .null, .null, .null, .null, .null, .null, .null, .null]))] sz) := by
  refine Met.ofW (cc := cX9_init) (maxL := 2) (ret := none) (by decide) rfl ?_
  intro p e s m args below meth c s₁ B hml hv
  obtain ⟨rfl, hsz, hP, hK, hD0, hAO, hn11, hn20, hn27, hn34, hn41, hn48, hn55, hn66⟩ := hv
  have hx := B.exec
  have hb := B.bytes
  have hr := B.returns
  have hts : ∀ w ∈ WT, w.before [Value.ref h0].toArray s = true := fun w hw => atoms_spec (ws := wsM yX9_init cX9_init 2 none) B.pre w (List.mem_cons_of_mem _ hw)
  have hown : s.vm.findClass RX9 = some m.cls := findClass_of_methodNamed B.named
  have hlocks := B.notSynchronized
  have hin : meth.name = "<init>" := (name_of_methodNamed B.named B.method).1
  subst hsz
  have hD := hD0.self (sz := s.heap.size)
  generalize hAe : va_A [(h0, .inr (8, [.null, .null, .null, .null, .null, .null, .null, .null, .null]))] s.heap.size = A at hD ⊢
  have hA : ∀ q : Nat, s.heap.size ≤ q → A q := fun q h => by rw [← hAe]; exact Or.inr h
  have hS : va_S A s.heap s.heap [] := va_S.rf
  have hP : va_P D clsL [(h0, .inr (8, [.null, .null, .null, .null, .null, .null, .null, .null, .null]))] s.heap := hP
  have hl := lv_entry ([.ref h0]) (n := 2) (Nat.le_of_ble_eq_true rfl)
  rw [lg_entry_eq]
  generalize (lg_sl ([.ref h0]) ++ List.replicate (2 - (lg_sl ([.ref h0])).length) Slot.unset).toArray = ls at hl ⊢
  have hl : lv_has ls 2 [(0, .ref h0)] := hl
  refine lv_aload_n hx hb dX9_init_0 rfl (lv_at hl 0 rfl) ?_
  refine W.objInit hx hb hown (hts (.methodLink RX9 3 objectInit) (inT_mem (by decide +kernel))) (hts (.instanceMethod objectInit) (inT_mem (by decide +kernel))) (hts (.code objectInit ⟨#[0xb1]⟩ 1 none) (inT_mem (by decide +kernel))) rfl (by rw [hml]; exact hl.1) rfl dX9_init_1 (Nat.le_of_ble_eq_true rfl) (Nat.le_of_ble_eq_true rfl) ?_
  refine W.eq (g2 := F0 m 4 ls []) rfl ?_
  refine lv_aload_n hx hb dX9_init_4 rfl (lv_at hl 0 rfl) ?_
  refine va_new (ci := 6) (fs := [.null, .int 0, .long 0]) (C := RX7) (T := TX7) (N := 3) hx hb hts (inW inX7 (by decide +kernel)) tyX7 tyX7_ok hown (hts (.classLink RX9 9 RX7) (inT_mem (by decide +kernel))) (hts (.instantiable RX7 3) (inT_mem (by decide +kernel))) (hts (.initialized RX7) (inT_mem (by decide +kernel))) hK hP hD hS hA rfl (fun j hj => by exact nwfsX7 j hj) (Nat.le_of_ble_eq_true rfl) (Nat.le_of_ble_eq_true rfl) dX9_init_5 (fun q0 H hP hD hS => ?_)
  have hP : va_P D clsL [(h0, .inr (8, [.null, .null, .null, .null, .null, .null, .null, .null, .null])), (q0, .inr (6, [.null, .int 0, .long 0]))] H := hP
  have hD : va_D A [(h0, .inr (8, [.null, .null, .null, .null, .null, .null, .null, .null, .null])), (q0, .inr (6, [.null, .int 0, .long 0]))] := hD
  refine W.widen (k := 1) (n := 3) (Nat.le_of_ble_eq_true rfl) (Nat.le_of_ble_eq_true rfl) ?_
  refine lv_dup hx hb dX9_init_8 rfl ?_
  have hPc := hP.sub (ws' := [(q0, .inr (6, [.null, .int 0, .long 0]))]) [1] rfl
  have hDc := hD.sub (ws' := [(q0, .inr (6, [.null, .int 0, .long 0]))]) [1] (by decide) rfl
  have hFc := va_free (wc := [(q0, .inr (6, [.null, .int 0, .long 0]))]) hD hS hA [1] rfl
  refine va_callv (va_runIN (As := []) (rest := [.ref q0, .ref h0]) ⟨hx, hb, hml, hown, hts⟩ (N_X7 l D cy q0 H.size) ⟨va_cnB (bytes := cX7_init) (maxL := 1) 0 hts (gi_wt (ws := wsM yX7_init cX7_init 1 none) (wsM_in (by decide +kernel))) rfl rfl rfl hn11 (hts (.initialized RX7) (inT_mem (by decide +kernel))) ⟨by decide +kernel, by decide +kernel, by decide +kernel⟩ ⟨Nat.le_of_ble_eq_true rfl, Nat.le_of_ble_eq_true rfl⟩, rfl, (hts (.instanceMethod yX7_init) (inT_mem (by decide +kernel)))⟩ ⟨PcN_blind, fun U hU hW => ⟨rfl, by rw [hU], by rw [hU]; exact hPc, va_K.moved hW.alike hK, hDc.weaken (fun _ _ _ _ => trivial)⟩⟩ rfl rfl hl.1 rfl (lv_room (Nat.le_of_ble_eq_true rfl)) dX9_init_9 ⟨Nat.le_of_ble_eq_true rfl, Nat.le_of_ble_eq_true rfl⟩) hS (fun q _ h => hFc q h) hFc (fun g1 t H1 locs ht hvm _ hB hz1 hk1 hS => ?_)
  obtain ⟨hP1, hK1, hD1⟩ := hB
  rw [ht] at hP1
  obtain ⟨hP, hD⟩ := va_join (wr := [(h0, .inr (8, [.null, .null, .null, .null, .null, .null, .null, .null, .null]))]) (w1 := [(q0, .inr (6, [.ref (g1 0), .int 0, .long 0])), ((g1 0), .inl (cy 0, 40, .inl (fun _ => 0)))]) hP hD [1] [0] rfl rfl (by decide) (by decide) hk1 hFc hP1 hD1
  generalize H1 = H at hP hS ⊢
  have hP : va_P D clsL [(h0, .inr (8, [.null, .null, .null, .null, .null, .null, .null, .null, .null])), (q0, .inr (6, [.ref (g1 0), .int 0, .long 0])), ((g1 0), .inl (cy 0, 40, .inl (fun _ => 0)))] H := hP
  have hD : va_D A [(h0, .inr (8, [.null, .null, .null, .null, .null, .null, .null, .null, .null])), (q0, .inr (6, [.ref (g1 0), .int 0, .long 0])), ((g1 0), .inl (cy 0, 40, .inl (fun _ => 0)))] := hD
  refine W.widen (k := 2) (n := 43) (Nat.le_of_ble_eq_true rfl) (Nat.le_of_ble_eq_true rfl) ?_
  refine va_putF (D := D) (ci := 8) (v := .ref q0) (ty := .object "AdderChooser$Tape") (C := RX9) (T := TX9) (N := 9) hx hb hts (inW inX9 (by decide +kernel)) tyX9 tyX9_ok nmX9 hown hK hP hD hS 0 rfl rfl 0 (by decide) (hts (.fieldLink RX9 12 "AdderChooser" "tape" "LAdderChooser$Tape;") (inT_mem (by decide +kernel))) (fun _ h9 => h9) rfl hin rfl (by decide +kernel) rfl rfl (Nat.le_of_ble_eq_true rfl) dX9_init_12 (fun H _ hP hD hS => ?_)
  have hP : va_P D clsL [(h0, .inr (8, [.ref q0, .null, .null, .null, .null, .null, .null, .null, .null])), (q0, .inr (6, [.ref (g1 0), .int 0, .long 0])), ((g1 0), .inl (cy 0, 40, .inl (fun _ => 0)))] H := hP
  have hD : va_D A [(h0, .inr (8, [.ref q0, .null, .null, .null, .null, .null, .null, .null, .null])), (q0, .inr (6, [.ref (g1 0), .int 0, .long 0])), ((g1 0), .inl (cy 0, 40, .inl (fun _ => 0)))] := hD
  refine lv_aload_n hx hb dX9_init_15 rfl (lv_at hl 0 rfl) ?_
  refine va_new (ci := 2) (fs := [.null, .null, .int 0]) (C := RX3) (T := TX3) (N := 3) hx hb hts (inW inX3 (by decide +kernel)) tyX3 tyX3_ok hown (hts (.classLink RX9 18 RX3) (inT_mem (by decide +kernel))) (hts (.instantiable RX3 3) (inT_mem (by decide +kernel))) (hts (.initialized RX3) (inT_mem (by decide +kernel))) hK hP hD hS hA rfl (fun j hj => by exact nwfsX3 j hj) (Nat.le_of_ble_eq_true rfl) (Nat.le_of_ble_eq_true rfl) dX9_init_16 (fun q2 H hP hD hS => ?_)
  have hP : va_P D clsL [(h0, .inr (8, [.ref q0, .null, .null, .null, .null, .null, .null, .null, .null])), (q0, .inr (6, [.ref (g1 0), .int 0, .long 0])), ((g1 0), .inl (cy 0, 40, .inl (fun _ => 0))), (q2, .inr (2, [.null, .null, .int 0]))] H := hP
  have hD : va_D A [(h0, .inr (8, [.ref q0, .null, .null, .null, .null, .null, .null, .null, .null])), (q0, .inr (6, [.ref (g1 0), .int 0, .long 0])), ((g1 0), .inl (cy 0, 40, .inl (fun _ => 0))), (q2, .inr (2, [.null, .null, .int 0]))] := hD
  refine W.widen (k := 3) (n := 46) (Nat.le_of_ble_eq_true rfl) (Nat.le_of_ble_eq_true rfl) ?_
  refine lv_dup hx hb dX9_init_19 rfl ?_
  have hPc := hP.sub (ws' := [(q2, .inr (2, [.null, .null, .int 0]))]) [3] rfl
  have hDc := hD.sub (ws' := [(q2, .inr (2, [.null, .null, .int 0]))]) [3] (by decide) rfl
  have hFc := va_free (wc := [(q2, .inr (2, [.null, .null, .int 0]))]) hD hS hA [3] rfl
  refine va_callv (va_runIN (As := []) (rest := [.ref q2, .ref h0]) ⟨hx, hb, hml, hown, hts⟩ (N_X3 l D cy q2 H.size) ⟨va_cnB (bytes := cX3_init) (maxL := 1) 0 hts (gi_wt (ws := wsM yX3_init cX3_init 1 none) (wsM_in (by decide +kernel))) rfl rfl rfl hn20 (hts (.initialized RX3) (inT_mem (by decide +kernel))) ⟨by decide +kernel, by decide +kernel, by decide +kernel⟩ ⟨Nat.le_of_ble_eq_true rfl, Nat.le_of_ble_eq_true rfl⟩, rfl, (hts (.instanceMethod yX3_init) (inT_mem (by decide +kernel)))⟩ ⟨PcN_blind, fun U hU hW => ⟨rfl, by rw [hU], by rw [hU]; exact hPc, va_K.moved hW.alike hK, hDc.weaken (fun _ _ _ _ => trivial)⟩⟩ rfl rfl hl.1 rfl (lv_room (Nat.le_of_ble_eq_true rfl)) dX9_init_20 ⟨Nat.le_of_ble_eq_true rfl, Nat.le_of_ble_eq_true rfl⟩) hS (fun q _ h => hFc q h) hFc (fun g3 t H1 locs ht hvm _ hB hz1 hk1 hS => ?_)
  obtain ⟨hP1, hK1, hD1⟩ := hB
  rw [ht] at hP1
  obtain ⟨hP, hD⟩ := va_join (wr := [(h0, .inr (8, [.ref q0, .null, .null, .null, .null, .null, .null, .null, .null])), (q0, .inr (6, [.ref (g1 0), .int 0, .long 0])), ((g1 0), .inl (cy 0, 40, .inl (fun _ => 0)))]) (w1 := [(q2, .inr (2, [.ref (g3 0), .ref (g3 1), .int 0])), ((g3 0), .inl (cy 0, 12, .inl (fun _ => 0))), ((g3 1), .inl (cy 1, 12, .inr (.inl (fun _ => 0))))]) hP hD [3] [0, 1, 2] rfl rfl (by decide) (by decide) hk1 hFc hP1 hD1
  generalize H1 = H at hP hS ⊢
  have hP : va_P D clsL [(h0, .inr (8, [.ref q0, .null, .null, .null, .null, .null, .null, .null, .null])), (q0, .inr (6, [.ref (g1 0), .int 0, .long 0])), ((g1 0), .inl (cy 0, 40, .inl (fun _ => 0))), (q2, .inr (2, [.ref (g3 0), .ref (g3 1), .int 0])), ((g3 0), .inl (cy 0, 12, .inl (fun _ => 0))), ((g3 1), .inl (cy 1, 12, .inr (.inl (fun _ => 0))))] H := hP
  have hD : va_D A [(h0, .inr (8, [.ref q0, .null, .null, .null, .null, .null, .null, .null, .null])), (q0, .inr (6, [.ref (g1 0), .int 0, .long 0])), ((g1 0), .inl (cy 0, 40, .inl (fun _ => 0))), (q2, .inr (2, [.ref (g3 0), .ref (g3 1), .int 0])), ((g3 0), .inl (cy 0, 12, .inl (fun _ => 0))), ((g3 1), .inl (cy 1, 12, .inr (.inl (fun _ => 0))))] := hD
  refine W.widen (k := 5) (n := 70) (Nat.le_of_ble_eq_true rfl) (Nat.le_of_ble_eq_true rfl) ?_
  refine va_putF (D := D) (ci := 8) (v := .ref q2) (ty := .object "AdderChooser$Plans") (C := RX9) (T := TX9) (N := 9) hx hb hts (inW inX9 (by decide +kernel)) tyX9 tyX9_ok nmX9 hown hK hP hD hS 0 rfl rfl 1 (by decide) (hts (.fieldLink RX9 21 "AdderChooser" "plans" "LAdderChooser$Plans;") (inT_mem (by decide +kernel))) (fun _ h9 => h9) rfl hin rfl (by decide +kernel) rfl rfl (Nat.le_of_ble_eq_true rfl) dX9_init_23 (fun H _ hP hD hS => ?_)
  have hP : va_P D clsL [(h0, .inr (8, [.ref q0, .ref q2, .null, .null, .null, .null, .null, .null, .null])), (q0, .inr (6, [.ref (g1 0), .int 0, .long 0])), ((g1 0), .inl (cy 0, 40, .inl (fun _ => 0))), (q2, .inr (2, [.ref (g3 0), .ref (g3 1), .int 0])), ((g3 0), .inl (cy 0, 12, .inl (fun _ => 0))), ((g3 1), .inl (cy 1, 12, .inr (.inl (fun _ => 0))))] H := hP
  have hD : va_D A [(h0, .inr (8, [.ref q0, .ref q2, .null, .null, .null, .null, .null, .null, .null])), (q0, .inr (6, [.ref (g1 0), .int 0, .long 0])), ((g1 0), .inl (cy 0, 40, .inl (fun _ => 0))), (q2, .inr (2, [.ref (g3 0), .ref (g3 1), .int 0])), ((g3 0), .inl (cy 0, 12, .inl (fun _ => 0))), ((g3 1), .inl (cy 1, 12, .inr (.inl (fun _ => 0))))] := hD
  refine lv_aload_n hx hb dX9_init_26 rfl (lv_at hl 0 rfl) ?_
  refine va_new (ci := 0) (fs := [.null, .int 0]) (C := RX1) (T := TX1) (N := 2) hx hb hts (inW inX1 (by decide +kernel)) tyX1 tyX1_ok hown (hts (.classLink RX9 25 RX1) (inT_mem (by decide +kernel))) (hts (.instantiable RX1 2) (inT_mem (by decide +kernel))) (hts (.initialized RX1) (inT_mem (by decide +kernel))) hK hP hD hS hA rfl (fun j hj => by exact nwfsX1 j hj) (Nat.le_of_ble_eq_true rfl) (Nat.le_of_ble_eq_true rfl) dX9_init_27 (fun q4 H hP hD hS => ?_)
  have hP : va_P D clsL [(h0, .inr (8, [.ref q0, .ref q2, .null, .null, .null, .null, .null, .null, .null])), (q0, .inr (6, [.ref (g1 0), .int 0, .long 0])), ((g1 0), .inl (cy 0, 40, .inl (fun _ => 0))), (q2, .inr (2, [.ref (g3 0), .ref (g3 1), .int 0])), ((g3 0), .inl (cy 0, 12, .inl (fun _ => 0))), ((g3 1), .inl (cy 1, 12, .inr (.inl (fun _ => 0)))), (q4, .inr (0, [.null, .int 0]))] H := hP
  have hD : va_D A [(h0, .inr (8, [.ref q0, .ref q2, .null, .null, .null, .null, .null, .null, .null])), (q0, .inr (6, [.ref (g1 0), .int 0, .long 0])), ((g1 0), .inl (cy 0, 40, .inl (fun _ => 0))), (q2, .inr (2, [.ref (g3 0), .ref (g3 1), .int 0])), ((g3 0), .inl (cy 0, 12, .inl (fun _ => 0))), ((g3 1), .inl (cy 1, 12, .inr (.inl (fun _ => 0)))), (q4, .inr (0, [.null, .int 0]))] := hD
  refine W.widen (k := 6) (n := 72) (Nat.le_of_ble_eq_true rfl) (Nat.le_of_ble_eq_true rfl) ?_
  refine lv_dup hx hb dX9_init_30 rfl ?_
  have hPc := hP.sub (ws' := [(q4, .inr (0, [.null, .int 0]))]) [6] rfl
  have hDc := hD.sub (ws' := [(q4, .inr (0, [.null, .int 0]))]) [6] (by decide) rfl
  have hFc := va_free (wc := [(q4, .inr (0, [.null, .int 0]))]) hD hS hA [6] rfl
  refine va_callv (va_runIN (As := []) (rest := [.ref q4, .ref h0]) ⟨hx, hb, hml, hown, hts⟩ (N_X1 l D cy q4 H.size) ⟨va_cnB (bytes := cX1_init) (maxL := 1) 0 hts (gi_wt (ws := wsM yX1_init cX1_init 1 none) (wsM_in (by decide +kernel))) rfl rfl rfl hn27 (hts (.initialized RX1) (inT_mem (by decide +kernel))) ⟨by decide +kernel, by decide +kernel, by decide +kernel⟩ ⟨Nat.le_of_ble_eq_true rfl, Nat.le_of_ble_eq_true rfl⟩, rfl, (hts (.instanceMethod yX1_init) (inT_mem (by decide +kernel)))⟩ ⟨PcN_blind, fun U hU hW => ⟨rfl, by rw [hU], by rw [hU]; exact hPc, va_K.moved hW.alike hK, hDc.weaken (fun _ _ _ _ => trivial)⟩⟩ rfl rfl hl.1 rfl (lv_room (Nat.le_of_ble_eq_true rfl)) dX9_init_31 ⟨Nat.le_of_ble_eq_true rfl, Nat.le_of_ble_eq_true rfl⟩) hS (fun q _ h => hFc q h) hFc (fun g5 t H1 locs ht hvm _ hB hz1 hk1 hS => ?_)
  obtain ⟨hP1, hK1, hD1⟩ := hB
  rw [ht] at hP1
  obtain ⟨hP, hD⟩ := va_join (wr := [(h0, .inr (8, [.ref q0, .ref q2, .null, .null, .null, .null, .null, .null, .null])), (q0, .inr (6, [.ref (g1 0), .int 0, .long 0])), ((g1 0), .inl (cy 0, 40, .inl (fun _ => 0))), (q2, .inr (2, [.ref (g3 0), .ref (g3 1), .int 0])), ((g3 0), .inl (cy 0, 12, .inl (fun _ => 0))), ((g3 1), .inl (cy 1, 12, .inr (.inl (fun _ => 0))))]) (w1 := [(q4, .inr (0, [.ref (g5 0), .int 0])), ((g5 0), .inl (cy 1, 20, .inr (.inl (fun _ => 0))))]) hP hD [6] [0, 1, 2, 3, 4, 5] rfl rfl (by decide) (by decide) hk1 hFc hP1 hD1
  generalize H1 = H at hP hS ⊢
  have hP : va_P D clsL [(h0, .inr (8, [.ref q0, .ref q2, .null, .null, .null, .null, .null, .null, .null])), (q0, .inr (6, [.ref (g1 0), .int 0, .long 0])), ((g1 0), .inl (cy 0, 40, .inl (fun _ => 0))), (q2, .inr (2, [.ref (g3 0), .ref (g3 1), .int 0])), ((g3 0), .inl (cy 0, 12, .inl (fun _ => 0))), ((g3 1), .inl (cy 1, 12, .inr (.inl (fun _ => 0)))), (q4, .inr (0, [.ref (g5 0), .int 0])), ((g5 0), .inl (cy 1, 20, .inr (.inl (fun _ => 0))))] H := hP
  have hD : va_D A [(h0, .inr (8, [.ref q0, .ref q2, .null, .null, .null, .null, .null, .null, .null])), (q0, .inr (6, [.ref (g1 0), .int 0, .long 0])), ((g1 0), .inl (cy 0, 40, .inl (fun _ => 0))), (q2, .inr (2, [.ref (g3 0), .ref (g3 1), .int 0])), ((g3 0), .inl (cy 0, 12, .inl (fun _ => 0))), ((g3 1), .inl (cy 1, 12, .inr (.inl (fun _ => 0)))), (q4, .inr (0, [.ref (g5 0), .int 0])), ((g5 0), .inl (cy 1, 20, .inr (.inl (fun _ => 0))))] := hD
  refine W.widen (k := 7) (n := 92) (Nat.le_of_ble_eq_true rfl) (Nat.le_of_ble_eq_true rfl) ?_
  refine va_putF (D := D) (ci := 8) (v := .ref q4) (ty := .object "AdderChooser$Known") (C := RX9) (T := TX9) (N := 9) hx hb hts (inW inX9 (by decide +kernel)) tyX9 tyX9_ok nmX9 hown hK hP hD hS 0 rfl rfl 2 (by decide) (hts (.fieldLink RX9 28 "AdderChooser" "memory" "LAdderChooser$Known;") (inT_mem (by decide +kernel))) (fun _ h9 => h9) rfl hin rfl (by decide +kernel) rfl rfl (Nat.le_of_ble_eq_true rfl) dX9_init_34 (fun H _ hP hD hS => ?_)
  have hP : va_P D clsL [(h0, .inr (8, [.ref q0, .ref q2, .ref q4, .null, .null, .null, .null, .null, .null])), (q0, .inr (6, [.ref (g1 0), .int 0, .long 0])), ((g1 0), .inl (cy 0, 40, .inl (fun _ => 0))), (q2, .inr (2, [.ref (g3 0), .ref (g3 1), .int 0])), ((g3 0), .inl (cy 0, 12, .inl (fun _ => 0))), ((g3 1), .inl (cy 1, 12, .inr (.inl (fun _ => 0)))), (q4, .inr (0, [.ref (g5 0), .int 0])), ((g5 0), .inl (cy 1, 20, .inr (.inl (fun _ => 0))))] H := hP
  have hD : va_D A [(h0, .inr (8, [.ref q0, .ref q2, .ref q4, .null, .null, .null, .null, .null, .null])), (q0, .inr (6, [.ref (g1 0), .int 0, .long 0])), ((g1 0), .inl (cy 0, 40, .inl (fun _ => 0))), (q2, .inr (2, [.ref (g3 0), .ref (g3 1), .int 0])), ((g3 0), .inl (cy 0, 12, .inl (fun _ => 0))), ((g3 1), .inl (cy 1, 12, .inr (.inl (fun _ => 0)))), (q4, .inr (0, [.ref (g5 0), .int 0])), ((g5 0), .inl (cy 1, 20, .inr (.inl (fun _ => 0))))] := hD
  refine lv_aload_n hx hb dX9_init_37 rfl (lv_at hl 0 rfl) ?_
  refine va_new (ci := 1) (fs := [.null, .null, .null, .null, .null, .int 0, .int 0, .int 0, .null, .null, .null, .null, .null, .null, .null]) (C := RX2) (T := TX2) (N := 15) hx hb hts (inW inX2 (by decide +kernel)) tyX2 tyX2_ok hown (hts (.classLink RX9 32 RX2) (inT_mem (by decide +kernel))) (hts (.instantiable RX2 15) (inT_mem (by decide +kernel))) (hts (.initialized RX2) (inT_mem (by decide +kernel))) hK hP hD hS hA rfl (fun j hj => by exact nwfsX2 j hj) (Nat.le_of_ble_eq_true rfl) (Nat.le_of_ble_eq_true rfl) dX9_init_38 (fun q6 H hP hD hS => ?_)
  have hP : va_P D clsL [(h0, .inr (8, [.ref q0, .ref q2, .ref q4, .null, .null, .null, .null, .null, .null])), (q0, .inr (6, [.ref (g1 0), .int 0, .long 0])), ((g1 0), .inl (cy 0, 40, .inl (fun _ => 0))), (q2, .inr (2, [.ref (g3 0), .ref (g3 1), .int 0])), ((g3 0), .inl (cy 0, 12, .inl (fun _ => 0))), ((g3 1), .inl (cy 1, 12, .inr (.inl (fun _ => 0)))), (q4, .inr (0, [.ref (g5 0), .int 0])), ((g5 0), .inl (cy 1, 20, .inr (.inl (fun _ => 0)))), (q6, .inr (1, [.null, .null, .null, .null, .null, .int 0, .int 0, .int 0, .null, .null, .null, .null, .null, .null, .null]))] H := hP
  have hD : va_D A [(h0, .inr (8, [.ref q0, .ref q2, .ref q4, .null, .null, .null, .null, .null, .null])), (q0, .inr (6, [.ref (g1 0), .int 0, .long 0])), ((g1 0), .inl (cy 0, 40, .inl (fun _ => 0))), (q2, .inr (2, [.ref (g3 0), .ref (g3 1), .int 0])), ((g3 0), .inl (cy 0, 12, .inl (fun _ => 0))), ((g3 1), .inl (cy 1, 12, .inr (.inl (fun _ => 0)))), (q4, .inr (0, [.ref (g5 0), .int 0])), ((g5 0), .inl (cy 1, 20, .inr (.inl (fun _ => 0)))), (q6, .inr (1, [.null, .null, .null, .null, .null, .int 0, .int 0, .int 0, .null, .null, .null, .null, .null, .null, .null]))] := hD
  refine W.widen (k := 8) (n := 107) (Nat.le_of_ble_eq_true rfl) (Nat.le_of_ble_eq_true rfl) ?_
  refine lv_dup hx hb dX9_init_41 rfl ?_
  have hPc := hP.sub (ws' := [(q6, .inr (1, [.null, .null, .null, .null, .null, .int 0, .int 0, .int 0, .null, .null, .null, .null, .null, .null, .null]))]) [8] rfl
  have hDc := hD.sub (ws' := [(q6, .inr (1, [.null, .null, .null, .null, .null, .int 0, .int 0, .int 0, .null, .null, .null, .null, .null, .null, .null]))]) [8] (by decide) rfl
  have hFc := va_free (wc := [(q6, .inr (1, [.null, .null, .null, .null, .null, .int 0, .int 0, .int 0, .null, .null, .null, .null, .null, .null, .null]))]) hD hS hA [8] rfl
  refine va_callv (va_runIN (As := []) (rest := [.ref q6, .ref h0]) ⟨hx, hb, hml, hown, hts⟩ (N_X2 l D cy q6 H.size) ⟨va_cnB (bytes := cX2_init) (maxL := 1) 0 hts (gi_wt (ws := wsM yX2_init cX2_init 1 none) (wsM_in (by decide +kernel))) rfl rfl rfl hn34 (hts (.initialized RX2) (inT_mem (by decide +kernel))) ⟨by decide +kernel, by decide +kernel, by decide +kernel⟩ ⟨Nat.le_of_ble_eq_true rfl, Nat.le_of_ble_eq_true rfl⟩, rfl, (hts (.instanceMethod yX2_init) (inT_mem (by decide +kernel)))⟩ ⟨PcN_blind, fun U hU hW => ⟨rfl, by rw [hU], by rw [hU]; exact hPc, va_K.moved hW.alike hK, hDc.weaken (fun _ _ _ _ => trivial)⟩⟩ rfl rfl hl.1 rfl (lv_room (Nat.le_of_ble_eq_true rfl)) dX9_init_42 ⟨Nat.le_of_ble_eq_true rfl, Nat.le_of_ble_eq_true rfl⟩) hS (fun q _ h => hFc q h) hFc (fun g7 t H1 locs ht hvm _ hB hz1 hk1 hS => ?_)
  obtain ⟨hP1, hK1, hD1⟩ := hB
  rw [ht] at hP1
  obtain ⟨hP, hD⟩ := va_join (wr := [(h0, .inr (8, [.ref q0, .ref q2, .ref q4, .null, .null, .null, .null, .null, .null])), (q0, .inr (6, [.ref (g1 0), .int 0, .long 0])), ((g1 0), .inl (cy 0, 40, .inl (fun _ => 0))), (q2, .inr (2, [.ref (g3 0), .ref (g3 1), .int 0])), ((g3 0), .inl (cy 0, 12, .inl (fun _ => 0))), ((g3 1), .inl (cy 1, 12, .inr (.inl (fun _ => 0)))), (q4, .inr (0, [.ref (g5 0), .int 0])), ((g5 0), .inl (cy 1, 20, .inr (.inl (fun _ => 0))))]) (w1 := [(q6, .inr (1, [.ref (g7 0), .ref (g7 1), .ref (g7 2), .ref (g7 3), .ref (g7 4), .int 0, .int 0, .int 0, .ref (g7 5), .ref (g7 6), .ref (g7 7), .ref (g7 8), .ref (g7 9), .ref (g7 10), .ref (g7 11)])), ((g7 0), .inl (cy 0, 512, .inl (fun _ => 0))), ((g7 1), .inl (cy 0, 512, .inl (fun _ => 0))), ((g7 2), .inl (cy 0, 512, .inl (fun _ => 0))), ((g7 3), .inl (cy 2, 512, .inl (fun _ => 0))), ((g7 4), .inl (cy 0, 12, .inl (fun _ => 0))), ((g7 5), .inl (cy 0, 512, .inl (fun _ => 0))), ((g7 6), .inl (cy 0, 512, .inl (fun _ => 0))), ((g7 7), .inl (cy 2, 512, .inl (fun _ => 0))), ((g7 8), .inl (cy 0, 12, .inl (fun _ => 0))), ((g7 9), .inl (cy 0, 12, .inl (fun _ => 0))), ((g7 10), .inl (cy 0, 12, .inl (fun _ => 0))), ((g7 11), .inl (cy 0, 12, .inl (fun _ => 0)))]) hP hD [8] [0, 1, 2, 3, 4, 5, 6, 7] rfl rfl (by decide) (by decide) hk1 hFc hP1 hD1
  generalize H1 = H at hP hS ⊢
  have hP : va_P D clsL [(h0, .inr (8, [.ref q0, .ref q2, .ref q4, .null, .null, .null, .null, .null, .null])), (q0, .inr (6, [.ref (g1 0), .int 0, .long 0])), ((g1 0), .inl (cy 0, 40, .inl (fun _ => 0))), (q2, .inr (2, [.ref (g3 0), .ref (g3 1), .int 0])), ((g3 0), .inl (cy 0, 12, .inl (fun _ => 0))), ((g3 1), .inl (cy 1, 12, .inr (.inl (fun _ => 0)))), (q4, .inr (0, [.ref (g5 0), .int 0])), ((g5 0), .inl (cy 1, 20, .inr (.inl (fun _ => 0)))), (q6, .inr (1, [.ref (g7 0), .ref (g7 1), .ref (g7 2), .ref (g7 3), .ref (g7 4), .int 0, .int 0, .int 0, .ref (g7 5), .ref (g7 6), .ref (g7 7), .ref (g7 8), .ref (g7 9), .ref (g7 10), .ref (g7 11)])), ((g7 0), .inl (cy 0, 512, .inl (fun _ => 0))), ((g7 1), .inl (cy 0, 512, .inl (fun _ => 0))), ((g7 2), .inl (cy 0, 512, .inl (fun _ => 0))), ((g7 3), .inl (cy 2, 512, .inl (fun _ => 0))), ((g7 4), .inl (cy 0, 12, .inl (fun _ => 0))), ((g7 5), .inl (cy 0, 512, .inl (fun _ => 0))), ((g7 6), .inl (cy 0, 512, .inl (fun _ => 0))), ((g7 7), .inl (cy 2, 512, .inl (fun _ => 0))), ((g7 8), .inl (cy 0, 12, .inl (fun _ => 0))), ((g7 9), .inl (cy 0, 12, .inl (fun _ => 0))), ((g7 10), .inl (cy 0, 12, .inl (fun _ => 0))), ((g7 11), .inl (cy 0, 12, .inl (fun _ => 0)))] H := hP
  have hD : va_D A [(h0, .inr (8, [.ref q0, .ref q2, .ref q4, .null, .null, .null, .null, .null, .null])), (q0, .inr (6, [.ref (g1 0), .int 0, .long 0])), ((g1 0), .inl (cy 0, 40, .inl (fun _ => 0))), (q2, .inr (2, [.ref (g3 0), .ref (g3 1), .int 0])), ((g3 0), .inl (cy 0, 12, .inl (fun _ => 0))), ((g3 1), .inl (cy 1, 12, .inr (.inl (fun _ => 0)))), (q4, .inr (0, [.ref (g5 0), .int 0])), ((g5 0), .inl (cy 1, 20, .inr (.inl (fun _ => 0)))), (q6, .inr (1, [.ref (g7 0), .ref (g7 1), .ref (g7 2), .ref (g7 3), .ref (g7 4), .int 0, .int 0, .int 0, .ref (g7 5), .ref (g7 6), .ref (g7 7), .ref (g7 8), .ref (g7 9), .ref (g7 10), .ref (g7 11)])), ((g7 0), .inl (cy 0, 512, .inl (fun _ => 0))), ((g7 1), .inl (cy 0, 512, .inl (fun _ => 0))), ((g7 2), .inl (cy 0, 512, .inl (fun _ => 0))), ((g7 3), .inl (cy 2, 512, .inl (fun _ => 0))), ((g7 4), .inl (cy 0, 12, .inl (fun _ => 0))), ((g7 5), .inl (cy 0, 512, .inl (fun _ => 0))), ((g7 6), .inl (cy 0, 512, .inl (fun _ => 0))), ((g7 7), .inl (cy 2, 512, .inl (fun _ => 0))), ((g7 8), .inl (cy 0, 12, .inl (fun _ => 0))), ((g7 9), .inl (cy 0, 12, .inl (fun _ => 0))), ((g7 10), .inl (cy 0, 12, .inl (fun _ => 0))), ((g7 11), .inl (cy 0, 12, .inl (fun _ => 0)))] := hD
  refine W.widen (k := 20) (n := 3751) (Nat.le_of_ble_eq_true rfl) (Nat.le_of_ble_eq_true rfl) ?_
  refine va_putF (D := D) (ci := 8) (v := .ref q6) (ty := .object "AdderChooser$Net") (C := RX9) (T := TX9) (N := 9) hx hb hts (inW inX9 (by decide +kernel)) tyX9 tyX9_ok nmX9 hown hK hP hD hS 0 rfl rfl 3 (by decide) (hts (.fieldLink RX9 35 "AdderChooser" "net" "LAdderChooser$Net;") (inT_mem (by decide +kernel))) (fun _ h9 => h9) rfl hin rfl (by decide +kernel) rfl rfl (Nat.le_of_ble_eq_true rfl) dX9_init_45 (fun H _ hP hD hS => ?_)
  have hP : va_P D clsL [(h0, .inr (8, [.ref q0, .ref q2, .ref q4, .ref q6, .null, .null, .null, .null, .null])), (q0, .inr (6, [.ref (g1 0), .int 0, .long 0])), ((g1 0), .inl (cy 0, 40, .inl (fun _ => 0))), (q2, .inr (2, [.ref (g3 0), .ref (g3 1), .int 0])), ((g3 0), .inl (cy 0, 12, .inl (fun _ => 0))), ((g3 1), .inl (cy 1, 12, .inr (.inl (fun _ => 0)))), (q4, .inr (0, [.ref (g5 0), .int 0])), ((g5 0), .inl (cy 1, 20, .inr (.inl (fun _ => 0)))), (q6, .inr (1, [.ref (g7 0), .ref (g7 1), .ref (g7 2), .ref (g7 3), .ref (g7 4), .int 0, .int 0, .int 0, .ref (g7 5), .ref (g7 6), .ref (g7 7), .ref (g7 8), .ref (g7 9), .ref (g7 10), .ref (g7 11)])), ((g7 0), .inl (cy 0, 512, .inl (fun _ => 0))), ((g7 1), .inl (cy 0, 512, .inl (fun _ => 0))), ((g7 2), .inl (cy 0, 512, .inl (fun _ => 0))), ((g7 3), .inl (cy 2, 512, .inl (fun _ => 0))), ((g7 4), .inl (cy 0, 12, .inl (fun _ => 0))), ((g7 5), .inl (cy 0, 512, .inl (fun _ => 0))), ((g7 6), .inl (cy 0, 512, .inl (fun _ => 0))), ((g7 7), .inl (cy 2, 512, .inl (fun _ => 0))), ((g7 8), .inl (cy 0, 12, .inl (fun _ => 0))), ((g7 9), .inl (cy 0, 12, .inl (fun _ => 0))), ((g7 10), .inl (cy 0, 12, .inl (fun _ => 0))), ((g7 11), .inl (cy 0, 12, .inl (fun _ => 0)))] H := hP
  have hD : va_D A [(h0, .inr (8, [.ref q0, .ref q2, .ref q4, .ref q6, .null, .null, .null, .null, .null])), (q0, .inr (6, [.ref (g1 0), .int 0, .long 0])), ((g1 0), .inl (cy 0, 40, .inl (fun _ => 0))), (q2, .inr (2, [.ref (g3 0), .ref (g3 1), .int 0])), ((g3 0), .inl (cy 0, 12, .inl (fun _ => 0))), ((g3 1), .inl (cy 1, 12, .inr (.inl (fun _ => 0)))), (q4, .inr (0, [.ref (g5 0), .int 0])), ((g5 0), .inl (cy 1, 20, .inr (.inl (fun _ => 0)))), (q6, .inr (1, [.ref (g7 0), .ref (g7 1), .ref (g7 2), .ref (g7 3), .ref (g7 4), .int 0, .int 0, .int 0, .ref (g7 5), .ref (g7 6), .ref (g7 7), .ref (g7 8), .ref (g7 9), .ref (g7 10), .ref (g7 11)])), ((g7 0), .inl (cy 0, 512, .inl (fun _ => 0))), ((g7 1), .inl (cy 0, 512, .inl (fun _ => 0))), ((g7 2), .inl (cy 0, 512, .inl (fun _ => 0))), ((g7 3), .inl (cy 2, 512, .inl (fun _ => 0))), ((g7 4), .inl (cy 0, 12, .inl (fun _ => 0))), ((g7 5), .inl (cy 0, 512, .inl (fun _ => 0))), ((g7 6), .inl (cy 0, 512, .inl (fun _ => 0))), ((g7 7), .inl (cy 2, 512, .inl (fun _ => 0))), ((g7 8), .inl (cy 0, 12, .inl (fun _ => 0))), ((g7 9), .inl (cy 0, 12, .inl (fun _ => 0))), ((g7 10), .inl (cy 0, 12, .inl (fun _ => 0))), ((g7 11), .inl (cy 0, 12, .inl (fun _ => 0)))] := hD
  refine lv_aload_n hx hb dX9_init_48 rfl (lv_at hl 0 rfl) ?_
  refine va_new (ci := 7) (fs := [.null, .null, .null, .null, .null, .null]) (C := RX8) (T := TX8) (N := 6) hx hb hts (inW inX8 (by decide +kernel)) tyX8 tyX8_ok hown (hts (.classLink RX9 39 RX8) (inT_mem (by decide +kernel))) (hts (.instantiable RX8 6) (inT_mem (by decide +kernel))) (hts (.initialized RX8) (inT_mem (by decide +kernel))) hK hP hD hS hA rfl (fun j hj => by exact nwfsX8 j hj) (Nat.le_of_ble_eq_true rfl) (Nat.le_of_ble_eq_true rfl) dX9_init_49 (fun q8 H hP hD hS => ?_)
  have hP : va_P D clsL [(h0, .inr (8, [.ref q0, .ref q2, .ref q4, .ref q6, .null, .null, .null, .null, .null])), (q0, .inr (6, [.ref (g1 0), .int 0, .long 0])), ((g1 0), .inl (cy 0, 40, .inl (fun _ => 0))), (q2, .inr (2, [.ref (g3 0), .ref (g3 1), .int 0])), ((g3 0), .inl (cy 0, 12, .inl (fun _ => 0))), ((g3 1), .inl (cy 1, 12, .inr (.inl (fun _ => 0)))), (q4, .inr (0, [.ref (g5 0), .int 0])), ((g5 0), .inl (cy 1, 20, .inr (.inl (fun _ => 0)))), (q6, .inr (1, [.ref (g7 0), .ref (g7 1), .ref (g7 2), .ref (g7 3), .ref (g7 4), .int 0, .int 0, .int 0, .ref (g7 5), .ref (g7 6), .ref (g7 7), .ref (g7 8), .ref (g7 9), .ref (g7 10), .ref (g7 11)])), ((g7 0), .inl (cy 0, 512, .inl (fun _ => 0))), ((g7 1), .inl (cy 0, 512, .inl (fun _ => 0))), ((g7 2), .inl (cy 0, 512, .inl (fun _ => 0))), ((g7 3), .inl (cy 2, 512, .inl (fun _ => 0))), ((g7 4), .inl (cy 0, 12, .inl (fun _ => 0))), ((g7 5), .inl (cy 0, 512, .inl (fun _ => 0))), ((g7 6), .inl (cy 0, 512, .inl (fun _ => 0))), ((g7 7), .inl (cy 2, 512, .inl (fun _ => 0))), ((g7 8), .inl (cy 0, 12, .inl (fun _ => 0))), ((g7 9), .inl (cy 0, 12, .inl (fun _ => 0))), ((g7 10), .inl (cy 0, 12, .inl (fun _ => 0))), ((g7 11), .inl (cy 0, 12, .inl (fun _ => 0))), (q8, .inr (7, [.null, .null, .null, .null, .null, .null]))] H := hP
  have hD : va_D A [(h0, .inr (8, [.ref q0, .ref q2, .ref q4, .ref q6, .null, .null, .null, .null, .null])), (q0, .inr (6, [.ref (g1 0), .int 0, .long 0])), ((g1 0), .inl (cy 0, 40, .inl (fun _ => 0))), (q2, .inr (2, [.ref (g3 0), .ref (g3 1), .int 0])), ((g3 0), .inl (cy 0, 12, .inl (fun _ => 0))), ((g3 1), .inl (cy 1, 12, .inr (.inl (fun _ => 0)))), (q4, .inr (0, [.ref (g5 0), .int 0])), ((g5 0), .inl (cy 1, 20, .inr (.inl (fun _ => 0)))), (q6, .inr (1, [.ref (g7 0), .ref (g7 1), .ref (g7 2), .ref (g7 3), .ref (g7 4), .int 0, .int 0, .int 0, .ref (g7 5), .ref (g7 6), .ref (g7 7), .ref (g7 8), .ref (g7 9), .ref (g7 10), .ref (g7 11)])), ((g7 0), .inl (cy 0, 512, .inl (fun _ => 0))), ((g7 1), .inl (cy 0, 512, .inl (fun _ => 0))), ((g7 2), .inl (cy 0, 512, .inl (fun _ => 0))), ((g7 3), .inl (cy 2, 512, .inl (fun _ => 0))), ((g7 4), .inl (cy 0, 12, .inl (fun _ => 0))), ((g7 5), .inl (cy 0, 512, .inl (fun _ => 0))), ((g7 6), .inl (cy 0, 512, .inl (fun _ => 0))), ((g7 7), .inl (cy 2, 512, .inl (fun _ => 0))), ((g7 8), .inl (cy 0, 12, .inl (fun _ => 0))), ((g7 9), .inl (cy 0, 12, .inl (fun _ => 0))), ((g7 10), .inl (cy 0, 12, .inl (fun _ => 0))), ((g7 11), .inl (cy 0, 12, .inl (fun _ => 0))), (q8, .inr (7, [.null, .null, .null, .null, .null, .null]))] := hD
  refine W.widen (k := 21) (n := 3757) (Nat.le_of_ble_eq_true rfl) (Nat.le_of_ble_eq_true rfl) ?_
  refine lv_dup hx hb dX9_init_52 rfl ?_
  have hPc := hP.sub (ws' := [(q8, .inr (7, [.null, .null, .null, .null, .null, .null]))]) [21] rfl
  have hDc := hD.sub (ws' := [(q8, .inr (7, [.null, .null, .null, .null, .null, .null]))]) [21] (by decide) rfl
  have hFc := va_free (wc := [(q8, .inr (7, [.null, .null, .null, .null, .null, .null]))]) hD hS hA [21] rfl
  refine va_callv (va_runIN (As := []) (rest := [.ref q8, .ref h0]) ⟨hx, hb, hml, hown, hts⟩ (N_X8 l D cy q8 H.size) ⟨va_cnB (bytes := cX8_init) (maxL := 1) 0 hts (gi_wt (ws := wsM yX8_init cX8_init 1 none) (wsM_in (by decide +kernel))) rfl rfl rfl hn41 (hts (.initialized RX8) (inT_mem (by decide +kernel))) ⟨by decide +kernel, by decide +kernel, by decide +kernel⟩ ⟨Nat.le_of_ble_eq_true rfl, Nat.le_of_ble_eq_true rfl⟩, rfl, (hts (.instanceMethod yX8_init) (inT_mem (by decide +kernel)))⟩ ⟨PcN_blind, fun U hU hW => ⟨rfl, by rw [hU], by rw [hU]; exact hPc, va_K.moved hW.alike hK, hDc.weaken (fun _ _ _ _ => trivial)⟩⟩ rfl rfl hl.1 rfl (lv_room (Nat.le_of_ble_eq_true rfl)) dX9_init_53 ⟨Nat.le_of_ble_eq_true rfl, Nat.le_of_ble_eq_true rfl⟩) hS (fun q _ h => hFc q h) hFc (fun g9 t H1 locs ht hvm _ hB hz1 hk1 hS => ?_)
  obtain ⟨hP1, hK1, hD1⟩ := hB
  rw [ht] at hP1
  obtain ⟨hP, hD⟩ := va_join (wr := [(h0, .inr (8, [.ref q0, .ref q2, .ref q4, .ref q6, .null, .null, .null, .null, .null])), (q0, .inr (6, [.ref (g1 0), .int 0, .long 0])), ((g1 0), .inl (cy 0, 40, .inl (fun _ => 0))), (q2, .inr (2, [.ref (g3 0), .ref (g3 1), .int 0])), ((g3 0), .inl (cy 0, 12, .inl (fun _ => 0))), ((g3 1), .inl (cy 1, 12, .inr (.inl (fun _ => 0)))), (q4, .inr (0, [.ref (g5 0), .int 0])), ((g5 0), .inl (cy 1, 20, .inr (.inl (fun _ => 0)))), (q6, .inr (1, [.ref (g7 0), .ref (g7 1), .ref (g7 2), .ref (g7 3), .ref (g7 4), .int 0, .int 0, .int 0, .ref (g7 5), .ref (g7 6), .ref (g7 7), .ref (g7 8), .ref (g7 9), .ref (g7 10), .ref (g7 11)])), ((g7 0), .inl (cy 0, 512, .inl (fun _ => 0))), ((g7 1), .inl (cy 0, 512, .inl (fun _ => 0))), ((g7 2), .inl (cy 0, 512, .inl (fun _ => 0))), ((g7 3), .inl (cy 2, 512, .inl (fun _ => 0))), ((g7 4), .inl (cy 0, 12, .inl (fun _ => 0))), ((g7 5), .inl (cy 0, 512, .inl (fun _ => 0))), ((g7 6), .inl (cy 0, 512, .inl (fun _ => 0))), ((g7 7), .inl (cy 2, 512, .inl (fun _ => 0))), ((g7 8), .inl (cy 0, 12, .inl (fun _ => 0))), ((g7 9), .inl (cy 0, 12, .inl (fun _ => 0))), ((g7 10), .inl (cy 0, 12, .inl (fun _ => 0))), ((g7 11), .inl (cy 0, 12, .inl (fun _ => 0)))]) (w1 := [(q8, .inr (7, [.ref (g9 0), .ref (g9 1), .ref (g9 2), .ref (g9 3), .ref (g9 4), .ref (g9 5)])), ((g9 0), .inl (cy 0, 4, .inl (upd (upd (upd (upd (fun _ => 0) 0 1) 1 2) 2 2) 3 3))), ((g9 1), .inl (cy 0, 25, .inl (fun _ => 0))), ((g9 2), .inl (cy 0, 512, .inl (fun _ => 0))), ((g9 3), .inl (cy 0, 512, .inl (fun _ => 0))), ((g9 4), .inl (cy 2, 512, .inl (fun _ => 0))), ((g9 5), .inl (cy 0, 512, .inl (fun _ => 0)))]) hP hD [21] [0, 1, 2, 3, 4, 5, 6, 7, 8, 9, 10, 11, 12, 13, 14, 15, 16, 17, 18, 19, 20] rfl rfl (by decide) (by decide) hk1 hFc hP1 hD1
  generalize H1 = H at hP hS ⊢
  have hP : va_P D clsL [(h0, .inr (8, [.ref q0, .ref q2, .ref q4, .ref q6, .null, .null, .null, .null, .null])), (q0, .inr (6, [.ref (g1 0), .int 0, .long 0])), ((g1 0), .inl (cy 0, 40, .inl (fun _ => 0))), (q2, .inr (2, [.ref (g3 0), .ref (g3 1), .int 0])), ((g3 0), .inl (cy 0, 12, .inl (fun _ => 0))), ((g3 1), .inl (cy 1, 12, .inr (.inl (fun _ => 0)))), (q4, .inr (0, [.ref (g5 0), .int 0])), ((g5 0), .inl (cy 1, 20, .inr (.inl (fun _ => 0)))), (q6, .inr (1, [.ref (g7 0), .ref (g7 1), .ref (g7 2), .ref (g7 3), .ref (g7 4), .int 0, .int 0, .int 0, .ref (g7 5), .ref (g7 6), .ref (g7 7), .ref (g7 8), .ref (g7 9), .ref (g7 10), .ref (g7 11)])), ((g7 0), .inl (cy 0, 512, .inl (fun _ => 0))), ((g7 1), .inl (cy 0, 512, .inl (fun _ => 0))), ((g7 2), .inl (cy 0, 512, .inl (fun _ => 0))), ((g7 3), .inl (cy 2, 512, .inl (fun _ => 0))), ((g7 4), .inl (cy 0, 12, .inl (fun _ => 0))), ((g7 5), .inl (cy 0, 512, .inl (fun _ => 0))), ((g7 6), .inl (cy 0, 512, .inl (fun _ => 0))), ((g7 7), .inl (cy 2, 512, .inl (fun _ => 0))), ((g7 8), .inl (cy 0, 12, .inl (fun _ => 0))), ((g7 9), .inl (cy 0, 12, .inl (fun _ => 0))), ((g7 10), .inl (cy 0, 12, .inl (fun _ => 0))), ((g7 11), .inl (cy 0, 12, .inl (fun _ => 0))), (q8, .inr (7, [.ref (g9 0), .ref (g9 1), .ref (g9 2), .ref (g9 3), .ref (g9 4), .ref (g9 5)])), ((g9 0), .inl (cy 0, 4, .inl (upd (upd (upd (upd (fun _ => 0) 0 1) 1 2) 2 2) 3 3))), ((g9 1), .inl (cy 0, 25, .inl (fun _ => 0))), ((g9 2), .inl (cy 0, 512, .inl (fun _ => 0))), ((g9 3), .inl (cy 0, 512, .inl (fun _ => 0))), ((g9 4), .inl (cy 2, 512, .inl (fun _ => 0))), ((g9 5), .inl (cy 0, 512, .inl (fun _ => 0)))] H := hP
  have hD : va_D A [(h0, .inr (8, [.ref q0, .ref q2, .ref q4, .ref q6, .null, .null, .null, .null, .null])), (q0, .inr (6, [.ref (g1 0), .int 0, .long 0])), ((g1 0), .inl (cy 0, 40, .inl (fun _ => 0))), (q2, .inr (2, [.ref (g3 0), .ref (g3 1), .int 0])), ((g3 0), .inl (cy 0, 12, .inl (fun _ => 0))), ((g3 1), .inl (cy 1, 12, .inr (.inl (fun _ => 0)))), (q4, .inr (0, [.ref (g5 0), .int 0])), ((g5 0), .inl (cy 1, 20, .inr (.inl (fun _ => 0)))), (q6, .inr (1, [.ref (g7 0), .ref (g7 1), .ref (g7 2), .ref (g7 3), .ref (g7 4), .int 0, .int 0, .int 0, .ref (g7 5), .ref (g7 6), .ref (g7 7), .ref (g7 8), .ref (g7 9), .ref (g7 10), .ref (g7 11)])), ((g7 0), .inl (cy 0, 512, .inl (fun _ => 0))), ((g7 1), .inl (cy 0, 512, .inl (fun _ => 0))), ((g7 2), .inl (cy 0, 512, .inl (fun _ => 0))), ((g7 3), .inl (cy 2, 512, .inl (fun _ => 0))), ((g7 4), .inl (cy 0, 12, .inl (fun _ => 0))), ((g7 5), .inl (cy 0, 512, .inl (fun _ => 0))), ((g7 6), .inl (cy 0, 512, .inl (fun _ => 0))), ((g7 7), .inl (cy 2, 512, .inl (fun _ => 0))), ((g7 8), .inl (cy 0, 12, .inl (fun _ => 0))), ((g7 9), .inl (cy 0, 12, .inl (fun _ => 0))), ((g7 10), .inl (cy 0, 12, .inl (fun _ => 0))), ((g7 11), .inl (cy 0, 12, .inl (fun _ => 0))), (q8, .inr (7, [.ref (g9 0), .ref (g9 1), .ref (g9 2), .ref (g9 3), .ref (g9 4), .ref (g9 5)])), ((g9 0), .inl (cy 0, 4, .inl (upd (upd (upd (upd (fun _ => 0) 0 1) 1 2) 2 2) 3 3))), ((g9 1), .inl (cy 0, 25, .inl (fun _ => 0))), ((g9 2), .inl (cy 0, 512, .inl (fun _ => 0))), ((g9 3), .inl (cy 0, 512, .inl (fun _ => 0))), ((g9 4), .inl (cy 2, 512, .inl (fun _ => 0))), ((g9 5), .inl (cy 0, 512, .inl (fun _ => 0)))] := hD
  refine W.widen (k := 27) (n := 5834) (Nat.le_of_ble_eq_true rfl) (Nat.le_of_ble_eq_true rfl) ?_
  refine va_putF (D := D) (ci := 8) (v := .ref q8) (ty := .object "AdderChooser$Timing") (C := RX9) (T := TX9) (N := 9) hx hb hts (inW inX9 (by decide +kernel)) tyX9 tyX9_ok nmX9 hown hK hP hD hS 0 rfl rfl 4 (by decide) (hts (.fieldLink RX9 42 "AdderChooser" "timing" "LAdderChooser$Timing;") (inT_mem (by decide +kernel))) (fun _ h9 => h9) rfl hin rfl (by decide +kernel) rfl rfl (Nat.le_of_ble_eq_true rfl) dX9_init_56 (fun H _ hP hD hS => ?_)
  have hP : va_P D clsL [(h0, .inr (8, [.ref q0, .ref q2, .ref q4, .ref q6, .ref q8, .null, .null, .null, .null])), (q0, .inr (6, [.ref (g1 0), .int 0, .long 0])), ((g1 0), .inl (cy 0, 40, .inl (fun _ => 0))), (q2, .inr (2, [.ref (g3 0), .ref (g3 1), .int 0])), ((g3 0), .inl (cy 0, 12, .inl (fun _ => 0))), ((g3 1), .inl (cy 1, 12, .inr (.inl (fun _ => 0)))), (q4, .inr (0, [.ref (g5 0), .int 0])), ((g5 0), .inl (cy 1, 20, .inr (.inl (fun _ => 0)))), (q6, .inr (1, [.ref (g7 0), .ref (g7 1), .ref (g7 2), .ref (g7 3), .ref (g7 4), .int 0, .int 0, .int 0, .ref (g7 5), .ref (g7 6), .ref (g7 7), .ref (g7 8), .ref (g7 9), .ref (g7 10), .ref (g7 11)])), ((g7 0), .inl (cy 0, 512, .inl (fun _ => 0))), ((g7 1), .inl (cy 0, 512, .inl (fun _ => 0))), ((g7 2), .inl (cy 0, 512, .inl (fun _ => 0))), ((g7 3), .inl (cy 2, 512, .inl (fun _ => 0))), ((g7 4), .inl (cy 0, 12, .inl (fun _ => 0))), ((g7 5), .inl (cy 0, 512, .inl (fun _ => 0))), ((g7 6), .inl (cy 0, 512, .inl (fun _ => 0))), ((g7 7), .inl (cy 2, 512, .inl (fun _ => 0))), ((g7 8), .inl (cy 0, 12, .inl (fun _ => 0))), ((g7 9), .inl (cy 0, 12, .inl (fun _ => 0))), ((g7 10), .inl (cy 0, 12, .inl (fun _ => 0))), ((g7 11), .inl (cy 0, 12, .inl (fun _ => 0))), (q8, .inr (7, [.ref (g9 0), .ref (g9 1), .ref (g9 2), .ref (g9 3), .ref (g9 4), .ref (g9 5)])), ((g9 0), .inl (cy 0, 4, .inl (upd (upd (upd (upd (fun _ => 0) 0 1) 1 2) 2 2) 3 3))), ((g9 1), .inl (cy 0, 25, .inl (fun _ => 0))), ((g9 2), .inl (cy 0, 512, .inl (fun _ => 0))), ((g9 3), .inl (cy 0, 512, .inl (fun _ => 0))), ((g9 4), .inl (cy 2, 512, .inl (fun _ => 0))), ((g9 5), .inl (cy 0, 512, .inl (fun _ => 0)))] H := hP
  have hD : va_D A [(h0, .inr (8, [.ref q0, .ref q2, .ref q4, .ref q6, .ref q8, .null, .null, .null, .null])), (q0, .inr (6, [.ref (g1 0), .int 0, .long 0])), ((g1 0), .inl (cy 0, 40, .inl (fun _ => 0))), (q2, .inr (2, [.ref (g3 0), .ref (g3 1), .int 0])), ((g3 0), .inl (cy 0, 12, .inl (fun _ => 0))), ((g3 1), .inl (cy 1, 12, .inr (.inl (fun _ => 0)))), (q4, .inr (0, [.ref (g5 0), .int 0])), ((g5 0), .inl (cy 1, 20, .inr (.inl (fun _ => 0)))), (q6, .inr (1, [.ref (g7 0), .ref (g7 1), .ref (g7 2), .ref (g7 3), .ref (g7 4), .int 0, .int 0, .int 0, .ref (g7 5), .ref (g7 6), .ref (g7 7), .ref (g7 8), .ref (g7 9), .ref (g7 10), .ref (g7 11)])), ((g7 0), .inl (cy 0, 512, .inl (fun _ => 0))), ((g7 1), .inl (cy 0, 512, .inl (fun _ => 0))), ((g7 2), .inl (cy 0, 512, .inl (fun _ => 0))), ((g7 3), .inl (cy 2, 512, .inl (fun _ => 0))), ((g7 4), .inl (cy 0, 12, .inl (fun _ => 0))), ((g7 5), .inl (cy 0, 512, .inl (fun _ => 0))), ((g7 6), .inl (cy 0, 512, .inl (fun _ => 0))), ((g7 7), .inl (cy 2, 512, .inl (fun _ => 0))), ((g7 8), .inl (cy 0, 12, .inl (fun _ => 0))), ((g7 9), .inl (cy 0, 12, .inl (fun _ => 0))), ((g7 10), .inl (cy 0, 12, .inl (fun _ => 0))), ((g7 11), .inl (cy 0, 12, .inl (fun _ => 0))), (q8, .inr (7, [.ref (g9 0), .ref (g9 1), .ref (g9 2), .ref (g9 3), .ref (g9 4), .ref (g9 5)])), ((g9 0), .inl (cy 0, 4, .inl (upd (upd (upd (upd (fun _ => 0) 0 1) 1 2) 2 2) 3 3))), ((g9 1), .inl (cy 0, 25, .inl (fun _ => 0))), ((g9 2), .inl (cy 0, 512, .inl (fun _ => 0))), ((g9 3), .inl (cy 0, 512, .inl (fun _ => 0))), ((g9 4), .inl (cy 2, 512, .inl (fun _ => 0))), ((g9 5), .inl (cy 0, 512, .inl (fun _ => 0)))] := hD
  refine lv_aload_n hx hb dX9_init_59 rfl (lv_at hl 0 rfl) ?_
  refine va_new (ci := 5) (fs := [.int 0, .null, .long 0, .int 0]) (C := RX6) (T := TX6) (N := 4) hx hb hts (inW inX6 (by decide +kernel)) tyX6 tyX6_ok hown (hts (.classLink RX9 46 RX6) (inT_mem (by decide +kernel))) (hts (.instantiable RX6 4) (inT_mem (by decide +kernel))) (hts (.initialized RX6) (inT_mem (by decide +kernel))) hK hP hD hS hA rfl (fun j hj => by exact nwfsX6 j hj) (Nat.le_of_ble_eq_true rfl) (Nat.le_of_ble_eq_true rfl) dX9_init_60 (fun q10 H hP hD hS => ?_)
  have hP : va_P D clsL [(h0, .inr (8, [.ref q0, .ref q2, .ref q4, .ref q6, .ref q8, .null, .null, .null, .null])), (q0, .inr (6, [.ref (g1 0), .int 0, .long 0])), ((g1 0), .inl (cy 0, 40, .inl (fun _ => 0))), (q2, .inr (2, [.ref (g3 0), .ref (g3 1), .int 0])), ((g3 0), .inl (cy 0, 12, .inl (fun _ => 0))), ((g3 1), .inl (cy 1, 12, .inr (.inl (fun _ => 0)))), (q4, .inr (0, [.ref (g5 0), .int 0])), ((g5 0), .inl (cy 1, 20, .inr (.inl (fun _ => 0)))), (q6, .inr (1, [.ref (g7 0), .ref (g7 1), .ref (g7 2), .ref (g7 3), .ref (g7 4), .int 0, .int 0, .int 0, .ref (g7 5), .ref (g7 6), .ref (g7 7), .ref (g7 8), .ref (g7 9), .ref (g7 10), .ref (g7 11)])), ((g7 0), .inl (cy 0, 512, .inl (fun _ => 0))), ((g7 1), .inl (cy 0, 512, .inl (fun _ => 0))), ((g7 2), .inl (cy 0, 512, .inl (fun _ => 0))), ((g7 3), .inl (cy 2, 512, .inl (fun _ => 0))), ((g7 4), .inl (cy 0, 12, .inl (fun _ => 0))), ((g7 5), .inl (cy 0, 512, .inl (fun _ => 0))), ((g7 6), .inl (cy 0, 512, .inl (fun _ => 0))), ((g7 7), .inl (cy 2, 512, .inl (fun _ => 0))), ((g7 8), .inl (cy 0, 12, .inl (fun _ => 0))), ((g7 9), .inl (cy 0, 12, .inl (fun _ => 0))), ((g7 10), .inl (cy 0, 12, .inl (fun _ => 0))), ((g7 11), .inl (cy 0, 12, .inl (fun _ => 0))), (q8, .inr (7, [.ref (g9 0), .ref (g9 1), .ref (g9 2), .ref (g9 3), .ref (g9 4), .ref (g9 5)])), ((g9 0), .inl (cy 0, 4, .inl (upd (upd (upd (upd (fun _ => 0) 0 1) 1 2) 2 2) 3 3))), ((g9 1), .inl (cy 0, 25, .inl (fun _ => 0))), ((g9 2), .inl (cy 0, 512, .inl (fun _ => 0))), ((g9 3), .inl (cy 0, 512, .inl (fun _ => 0))), ((g9 4), .inl (cy 2, 512, .inl (fun _ => 0))), ((g9 5), .inl (cy 0, 512, .inl (fun _ => 0))), (q10, .inr (5, [.int 0, .null, .long 0, .int 0]))] H := hP
  have hD : va_D A [(h0, .inr (8, [.ref q0, .ref q2, .ref q4, .ref q6, .ref q8, .null, .null, .null, .null])), (q0, .inr (6, [.ref (g1 0), .int 0, .long 0])), ((g1 0), .inl (cy 0, 40, .inl (fun _ => 0))), (q2, .inr (2, [.ref (g3 0), .ref (g3 1), .int 0])), ((g3 0), .inl (cy 0, 12, .inl (fun _ => 0))), ((g3 1), .inl (cy 1, 12, .inr (.inl (fun _ => 0)))), (q4, .inr (0, [.ref (g5 0), .int 0])), ((g5 0), .inl (cy 1, 20, .inr (.inl (fun _ => 0)))), (q6, .inr (1, [.ref (g7 0), .ref (g7 1), .ref (g7 2), .ref (g7 3), .ref (g7 4), .int 0, .int 0, .int 0, .ref (g7 5), .ref (g7 6), .ref (g7 7), .ref (g7 8), .ref (g7 9), .ref (g7 10), .ref (g7 11)])), ((g7 0), .inl (cy 0, 512, .inl (fun _ => 0))), ((g7 1), .inl (cy 0, 512, .inl (fun _ => 0))), ((g7 2), .inl (cy 0, 512, .inl (fun _ => 0))), ((g7 3), .inl (cy 2, 512, .inl (fun _ => 0))), ((g7 4), .inl (cy 0, 12, .inl (fun _ => 0))), ((g7 5), .inl (cy 0, 512, .inl (fun _ => 0))), ((g7 6), .inl (cy 0, 512, .inl (fun _ => 0))), ((g7 7), .inl (cy 2, 512, .inl (fun _ => 0))), ((g7 8), .inl (cy 0, 12, .inl (fun _ => 0))), ((g7 9), .inl (cy 0, 12, .inl (fun _ => 0))), ((g7 10), .inl (cy 0, 12, .inl (fun _ => 0))), ((g7 11), .inl (cy 0, 12, .inl (fun _ => 0))), (q8, .inr (7, [.ref (g9 0), .ref (g9 1), .ref (g9 2), .ref (g9 3), .ref (g9 4), .ref (g9 5)])), ((g9 0), .inl (cy 0, 4, .inl (upd (upd (upd (upd (fun _ => 0) 0 1) 1 2) 2 2) 3 3))), ((g9 1), .inl (cy 0, 25, .inl (fun _ => 0))), ((g9 2), .inl (cy 0, 512, .inl (fun _ => 0))), ((g9 3), .inl (cy 0, 512, .inl (fun _ => 0))), ((g9 4), .inl (cy 2, 512, .inl (fun _ => 0))), ((g9 5), .inl (cy 0, 512, .inl (fun _ => 0))), (q10, .inr (5, [.int 0, .null, .long 0, .int 0]))] := hD
  refine W.widen (k := 28) (n := 5838) (Nat.le_of_ble_eq_true rfl) (Nat.le_of_ble_eq_true rfl) ?_
  refine lv_dup hx hb dX9_init_63 rfl ?_
  have hPc := hP.sub (ws' := [(q10, .inr (5, [.int 0, .null, .long 0, .int 0]))]) [28] rfl
  have hDc := hD.sub (ws' := [(q10, .inr (5, [.int 0, .null, .long 0, .int 0]))]) [28] (by decide) rfl
  have hFc := va_free (wc := [(q10, .inr (5, [.int 0, .null, .long 0, .int 0]))]) hD hS hA [28] rfl
  refine va_callv (va_runIN (As := []) (rest := [.ref q10, .ref h0]) ⟨hx, hb, hml, hown, hts⟩ (N_X6 l D cy q10 H.size) ⟨va_cnB (bytes := cX6_init) (maxL := 1) 0 hts (gi_wt (ws := wsM yX6_init cX6_init 1 none) (wsM_in (by decide +kernel))) rfl rfl rfl hn48 (hts (.initialized RX6) (inT_mem (by decide +kernel))) ⟨by decide +kernel, by decide +kernel, by decide +kernel⟩ ⟨Nat.le_of_ble_eq_true rfl, Nat.le_of_ble_eq_true rfl⟩, rfl, (hts (.instanceMethod yX6_init) (inT_mem (by decide +kernel)))⟩ ⟨PcN_blind, fun U hU hW => ⟨rfl, by rw [hU], by rw [hU]; exact hPc, va_K.moved hW.alike hK, hDc.weaken (fun _ _ _ _ => trivial)⟩⟩ rfl rfl hl.1 rfl (lv_room (Nat.le_of_ble_eq_true rfl)) dX9_init_64 ⟨Nat.le_of_ble_eq_true rfl, Nat.le_of_ble_eq_true rfl⟩) hS (fun q _ h => hFc q h) hFc (fun g11 t H1 locs ht hvm _ hB hz1 hk1 hS => ?_)
  obtain ⟨hP1, hK1, hD1⟩ := hB
  rw [ht] at hP1
  obtain ⟨hP, hD⟩ := va_join (wr := [(h0, .inr (8, [.ref q0, .ref q2, .ref q4, .ref q6, .ref q8, .null, .null, .null, .null])), (q0, .inr (6, [.ref (g1 0), .int 0, .long 0])), ((g1 0), .inl (cy 0, 40, .inl (fun _ => 0))), (q2, .inr (2, [.ref (g3 0), .ref (g3 1), .int 0])), ((g3 0), .inl (cy 0, 12, .inl (fun _ => 0))), ((g3 1), .inl (cy 1, 12, .inr (.inl (fun _ => 0)))), (q4, .inr (0, [.ref (g5 0), .int 0])), ((g5 0), .inl (cy 1, 20, .inr (.inl (fun _ => 0)))), (q6, .inr (1, [.ref (g7 0), .ref (g7 1), .ref (g7 2), .ref (g7 3), .ref (g7 4), .int 0, .int 0, .int 0, .ref (g7 5), .ref (g7 6), .ref (g7 7), .ref (g7 8), .ref (g7 9), .ref (g7 10), .ref (g7 11)])), ((g7 0), .inl (cy 0, 512, .inl (fun _ => 0))), ((g7 1), .inl (cy 0, 512, .inl (fun _ => 0))), ((g7 2), .inl (cy 0, 512, .inl (fun _ => 0))), ((g7 3), .inl (cy 2, 512, .inl (fun _ => 0))), ((g7 4), .inl (cy 0, 12, .inl (fun _ => 0))), ((g7 5), .inl (cy 0, 512, .inl (fun _ => 0))), ((g7 6), .inl (cy 0, 512, .inl (fun _ => 0))), ((g7 7), .inl (cy 2, 512, .inl (fun _ => 0))), ((g7 8), .inl (cy 0, 12, .inl (fun _ => 0))), ((g7 9), .inl (cy 0, 12, .inl (fun _ => 0))), ((g7 10), .inl (cy 0, 12, .inl (fun _ => 0))), ((g7 11), .inl (cy 0, 12, .inl (fun _ => 0))), (q8, .inr (7, [.ref (g9 0), .ref (g9 1), .ref (g9 2), .ref (g9 3), .ref (g9 4), .ref (g9 5)])), ((g9 0), .inl (cy 0, 4, .inl (upd (upd (upd (upd (fun _ => 0) 0 1) 1 2) 2 2) 3 3))), ((g9 1), .inl (cy 0, 25, .inl (fun _ => 0))), ((g9 2), .inl (cy 0, 512, .inl (fun _ => 0))), ((g9 3), .inl (cy 0, 512, .inl (fun _ => 0))), ((g9 4), .inl (cy 2, 512, .inl (fun _ => 0))), ((g9 5), .inl (cy 0, 512, .inl (fun _ => 0)))]) (w1 := [(q10, .inr (5, [.int 0, .ref (g11 0), .long 0, .int 0])), ((g11 0), .inl (cy 0, 512, .inl (fun _ => 0)))]) hP hD [28] [0, 1, 2, 3, 4, 5, 6, 7, 8, 9, 10, 11, 12, 13, 14, 15, 16, 17, 18, 19, 20, 21, 22, 23, 24, 25, 26, 27] rfl rfl (by decide) (by decide) hk1 hFc hP1 hD1
  generalize H1 = H at hP hS ⊢
  have hP : va_P D clsL [(h0, .inr (8, [.ref q0, .ref q2, .ref q4, .ref q6, .ref q8, .null, .null, .null, .null])), (q0, .inr (6, [.ref (g1 0), .int 0, .long 0])), ((g1 0), .inl (cy 0, 40, .inl (fun _ => 0))), (q2, .inr (2, [.ref (g3 0), .ref (g3 1), .int 0])), ((g3 0), .inl (cy 0, 12, .inl (fun _ => 0))), ((g3 1), .inl (cy 1, 12, .inr (.inl (fun _ => 0)))), (q4, .inr (0, [.ref (g5 0), .int 0])), ((g5 0), .inl (cy 1, 20, .inr (.inl (fun _ => 0)))), (q6, .inr (1, [.ref (g7 0), .ref (g7 1), .ref (g7 2), .ref (g7 3), .ref (g7 4), .int 0, .int 0, .int 0, .ref (g7 5), .ref (g7 6), .ref (g7 7), .ref (g7 8), .ref (g7 9), .ref (g7 10), .ref (g7 11)])), ((g7 0), .inl (cy 0, 512, .inl (fun _ => 0))), ((g7 1), .inl (cy 0, 512, .inl (fun _ => 0))), ((g7 2), .inl (cy 0, 512, .inl (fun _ => 0))), ((g7 3), .inl (cy 2, 512, .inl (fun _ => 0))), ((g7 4), .inl (cy 0, 12, .inl (fun _ => 0))), ((g7 5), .inl (cy 0, 512, .inl (fun _ => 0))), ((g7 6), .inl (cy 0, 512, .inl (fun _ => 0))), ((g7 7), .inl (cy 2, 512, .inl (fun _ => 0))), ((g7 8), .inl (cy 0, 12, .inl (fun _ => 0))), ((g7 9), .inl (cy 0, 12, .inl (fun _ => 0))), ((g7 10), .inl (cy 0, 12, .inl (fun _ => 0))), ((g7 11), .inl (cy 0, 12, .inl (fun _ => 0))), (q8, .inr (7, [.ref (g9 0), .ref (g9 1), .ref (g9 2), .ref (g9 3), .ref (g9 4), .ref (g9 5)])), ((g9 0), .inl (cy 0, 4, .inl (upd (upd (upd (upd (fun _ => 0) 0 1) 1 2) 2 2) 3 3))), ((g9 1), .inl (cy 0, 25, .inl (fun _ => 0))), ((g9 2), .inl (cy 0, 512, .inl (fun _ => 0))), ((g9 3), .inl (cy 0, 512, .inl (fun _ => 0))), ((g9 4), .inl (cy 2, 512, .inl (fun _ => 0))), ((g9 5), .inl (cy 0, 512, .inl (fun _ => 0))), (q10, .inr (5, [.int 0, .ref (g11 0), .long 0, .int 0])), ((g11 0), .inl (cy 0, 512, .inl (fun _ => 0)))] H := hP
  have hD : va_D A [(h0, .inr (8, [.ref q0, .ref q2, .ref q4, .ref q6, .ref q8, .null, .null, .null, .null])), (q0, .inr (6, [.ref (g1 0), .int 0, .long 0])), ((g1 0), .inl (cy 0, 40, .inl (fun _ => 0))), (q2, .inr (2, [.ref (g3 0), .ref (g3 1), .int 0])), ((g3 0), .inl (cy 0, 12, .inl (fun _ => 0))), ((g3 1), .inl (cy 1, 12, .inr (.inl (fun _ => 0)))), (q4, .inr (0, [.ref (g5 0), .int 0])), ((g5 0), .inl (cy 1, 20, .inr (.inl (fun _ => 0)))), (q6, .inr (1, [.ref (g7 0), .ref (g7 1), .ref (g7 2), .ref (g7 3), .ref (g7 4), .int 0, .int 0, .int 0, .ref (g7 5), .ref (g7 6), .ref (g7 7), .ref (g7 8), .ref (g7 9), .ref (g7 10), .ref (g7 11)])), ((g7 0), .inl (cy 0, 512, .inl (fun _ => 0))), ((g7 1), .inl (cy 0, 512, .inl (fun _ => 0))), ((g7 2), .inl (cy 0, 512, .inl (fun _ => 0))), ((g7 3), .inl (cy 2, 512, .inl (fun _ => 0))), ((g7 4), .inl (cy 0, 12, .inl (fun _ => 0))), ((g7 5), .inl (cy 0, 512, .inl (fun _ => 0))), ((g7 6), .inl (cy 0, 512, .inl (fun _ => 0))), ((g7 7), .inl (cy 2, 512, .inl (fun _ => 0))), ((g7 8), .inl (cy 0, 12, .inl (fun _ => 0))), ((g7 9), .inl (cy 0, 12, .inl (fun _ => 0))), ((g7 10), .inl (cy 0, 12, .inl (fun _ => 0))), ((g7 11), .inl (cy 0, 12, .inl (fun _ => 0))), (q8, .inr (7, [.ref (g9 0), .ref (g9 1), .ref (g9 2), .ref (g9 3), .ref (g9 4), .ref (g9 5)])), ((g9 0), .inl (cy 0, 4, .inl (upd (upd (upd (upd (fun _ => 0) 0 1) 1 2) 2 2) 3 3))), ((g9 1), .inl (cy 0, 25, .inl (fun _ => 0))), ((g9 2), .inl (cy 0, 512, .inl (fun _ => 0))), ((g9 3), .inl (cy 0, 512, .inl (fun _ => 0))), ((g9 4), .inl (cy 2, 512, .inl (fun _ => 0))), ((g9 5), .inl (cy 0, 512, .inl (fun _ => 0))), (q10, .inr (5, [.int 0, .ref (g11 0), .long 0, .int 0])), ((g11 0), .inl (cy 0, 512, .inl (fun _ => 0)))] := hD
  refine W.widen (k := 29) (n := 6350) (Nat.le_of_ble_eq_true rfl) (Nat.le_of_ble_eq_true rfl) ?_
  refine va_putF (D := D) (ci := 8) (v := .ref q10) (ty := .object "AdderChooser$Sweep") (C := RX9) (T := TX9) (N := 9) hx hb hts (inW inX9 (by decide +kernel)) tyX9 tyX9_ok nmX9 hown hK hP hD hS 0 rfl rfl 5 (by decide) (hts (.fieldLink RX9 49 "AdderChooser" "sweep" "LAdderChooser$Sweep;") (inT_mem (by decide +kernel))) (fun _ h9 => h9) rfl hin rfl (by decide +kernel) rfl rfl (Nat.le_of_ble_eq_true rfl) dX9_init_67 (fun H _ hP hD hS => ?_)
  have hP : va_P D clsL [(h0, .inr (8, [.ref q0, .ref q2, .ref q4, .ref q6, .ref q8, .ref q10, .null, .null, .null])), (q0, .inr (6, [.ref (g1 0), .int 0, .long 0])), ((g1 0), .inl (cy 0, 40, .inl (fun _ => 0))), (q2, .inr (2, [.ref (g3 0), .ref (g3 1), .int 0])), ((g3 0), .inl (cy 0, 12, .inl (fun _ => 0))), ((g3 1), .inl (cy 1, 12, .inr (.inl (fun _ => 0)))), (q4, .inr (0, [.ref (g5 0), .int 0])), ((g5 0), .inl (cy 1, 20, .inr (.inl (fun _ => 0)))), (q6, .inr (1, [.ref (g7 0), .ref (g7 1), .ref (g7 2), .ref (g7 3), .ref (g7 4), .int 0, .int 0, .int 0, .ref (g7 5), .ref (g7 6), .ref (g7 7), .ref (g7 8), .ref (g7 9), .ref (g7 10), .ref (g7 11)])), ((g7 0), .inl (cy 0, 512, .inl (fun _ => 0))), ((g7 1), .inl (cy 0, 512, .inl (fun _ => 0))), ((g7 2), .inl (cy 0, 512, .inl (fun _ => 0))), ((g7 3), .inl (cy 2, 512, .inl (fun _ => 0))), ((g7 4), .inl (cy 0, 12, .inl (fun _ => 0))), ((g7 5), .inl (cy 0, 512, .inl (fun _ => 0))), ((g7 6), .inl (cy 0, 512, .inl (fun _ => 0))), ((g7 7), .inl (cy 2, 512, .inl (fun _ => 0))), ((g7 8), .inl (cy 0, 12, .inl (fun _ => 0))), ((g7 9), .inl (cy 0, 12, .inl (fun _ => 0))), ((g7 10), .inl (cy 0, 12, .inl (fun _ => 0))), ((g7 11), .inl (cy 0, 12, .inl (fun _ => 0))), (q8, .inr (7, [.ref (g9 0), .ref (g9 1), .ref (g9 2), .ref (g9 3), .ref (g9 4), .ref (g9 5)])), ((g9 0), .inl (cy 0, 4, .inl (upd (upd (upd (upd (fun _ => 0) 0 1) 1 2) 2 2) 3 3))), ((g9 1), .inl (cy 0, 25, .inl (fun _ => 0))), ((g9 2), .inl (cy 0, 512, .inl (fun _ => 0))), ((g9 3), .inl (cy 0, 512, .inl (fun _ => 0))), ((g9 4), .inl (cy 2, 512, .inl (fun _ => 0))), ((g9 5), .inl (cy 0, 512, .inl (fun _ => 0))), (q10, .inr (5, [.int 0, .ref (g11 0), .long 0, .int 0])), ((g11 0), .inl (cy 0, 512, .inl (fun _ => 0)))] H := hP
  have hD : va_D A [(h0, .inr (8, [.ref q0, .ref q2, .ref q4, .ref q6, .ref q8, .ref q10, .null, .null, .null])), (q0, .inr (6, [.ref (g1 0), .int 0, .long 0])), ((g1 0), .inl (cy 0, 40, .inl (fun _ => 0))), (q2, .inr (2, [.ref (g3 0), .ref (g3 1), .int 0])), ((g3 0), .inl (cy 0, 12, .inl (fun _ => 0))), ((g3 1), .inl (cy 1, 12, .inr (.inl (fun _ => 0)))), (q4, .inr (0, [.ref (g5 0), .int 0])), ((g5 0), .inl (cy 1, 20, .inr (.inl (fun _ => 0)))), (q6, .inr (1, [.ref (g7 0), .ref (g7 1), .ref (g7 2), .ref (g7 3), .ref (g7 4), .int 0, .int 0, .int 0, .ref (g7 5), .ref (g7 6), .ref (g7 7), .ref (g7 8), .ref (g7 9), .ref (g7 10), .ref (g7 11)])), ((g7 0), .inl (cy 0, 512, .inl (fun _ => 0))), ((g7 1), .inl (cy 0, 512, .inl (fun _ => 0))), ((g7 2), .inl (cy 0, 512, .inl (fun _ => 0))), ((g7 3), .inl (cy 2, 512, .inl (fun _ => 0))), ((g7 4), .inl (cy 0, 12, .inl (fun _ => 0))), ((g7 5), .inl (cy 0, 512, .inl (fun _ => 0))), ((g7 6), .inl (cy 0, 512, .inl (fun _ => 0))), ((g7 7), .inl (cy 2, 512, .inl (fun _ => 0))), ((g7 8), .inl (cy 0, 12, .inl (fun _ => 0))), ((g7 9), .inl (cy 0, 12, .inl (fun _ => 0))), ((g7 10), .inl (cy 0, 12, .inl (fun _ => 0))), ((g7 11), .inl (cy 0, 12, .inl (fun _ => 0))), (q8, .inr (7, [.ref (g9 0), .ref (g9 1), .ref (g9 2), .ref (g9 3), .ref (g9 4), .ref (g9 5)])), ((g9 0), .inl (cy 0, 4, .inl (upd (upd (upd (upd (fun _ => 0) 0 1) 1 2) 2 2) 3 3))), ((g9 1), .inl (cy 0, 25, .inl (fun _ => 0))), ((g9 2), .inl (cy 0, 512, .inl (fun _ => 0))), ((g9 3), .inl (cy 0, 512, .inl (fun _ => 0))), ((g9 4), .inl (cy 2, 512, .inl (fun _ => 0))), ((g9 5), .inl (cy 0, 512, .inl (fun _ => 0))), (q10, .inr (5, [.int 0, .ref (g11 0), .long 0, .int 0])), ((g11 0), .inl (cy 0, 512, .inl (fun _ => 0)))] := hD
  refine lv_aload_n hx hb dX9_init_70 rfl (lv_at hl 0 rfl) ?_
  refine va_new (ci := 3) (fs := [.int 0, .int 0, .int 0, .int 0, .long 0, .int 0, .int 0, .int 0]) (C := RX4) (T := TX4) (N := 8) hx hb hts (inW inX4 (by decide +kernel)) tyX4 tyX4_ok hown (hts (.classLink RX9 53 RX4) (inT_mem (by decide +kernel))) (hts (.instantiable RX4 8) (inT_mem (by decide +kernel))) (hts (.initialized RX4) (inT_mem (by decide +kernel))) hK hP hD hS hA rfl (fun j hj => by exact nwfsX4 j hj) (Nat.le_of_ble_eq_true rfl) (Nat.le_of_ble_eq_true rfl) dX9_init_71 (fun q12 H hP hD hS => ?_)
  have hP : va_P D clsL [(h0, .inr (8, [.ref q0, .ref q2, .ref q4, .ref q6, .ref q8, .ref q10, .null, .null, .null])), (q0, .inr (6, [.ref (g1 0), .int 0, .long 0])), ((g1 0), .inl (cy 0, 40, .inl (fun _ => 0))), (q2, .inr (2, [.ref (g3 0), .ref (g3 1), .int 0])), ((g3 0), .inl (cy 0, 12, .inl (fun _ => 0))), ((g3 1), .inl (cy 1, 12, .inr (.inl (fun _ => 0)))), (q4, .inr (0, [.ref (g5 0), .int 0])), ((g5 0), .inl (cy 1, 20, .inr (.inl (fun _ => 0)))), (q6, .inr (1, [.ref (g7 0), .ref (g7 1), .ref (g7 2), .ref (g7 3), .ref (g7 4), .int 0, .int 0, .int 0, .ref (g7 5), .ref (g7 6), .ref (g7 7), .ref (g7 8), .ref (g7 9), .ref (g7 10), .ref (g7 11)])), ((g7 0), .inl (cy 0, 512, .inl (fun _ => 0))), ((g7 1), .inl (cy 0, 512, .inl (fun _ => 0))), ((g7 2), .inl (cy 0, 512, .inl (fun _ => 0))), ((g7 3), .inl (cy 2, 512, .inl (fun _ => 0))), ((g7 4), .inl (cy 0, 12, .inl (fun _ => 0))), ((g7 5), .inl (cy 0, 512, .inl (fun _ => 0))), ((g7 6), .inl (cy 0, 512, .inl (fun _ => 0))), ((g7 7), .inl (cy 2, 512, .inl (fun _ => 0))), ((g7 8), .inl (cy 0, 12, .inl (fun _ => 0))), ((g7 9), .inl (cy 0, 12, .inl (fun _ => 0))), ((g7 10), .inl (cy 0, 12, .inl (fun _ => 0))), ((g7 11), .inl (cy 0, 12, .inl (fun _ => 0))), (q8, .inr (7, [.ref (g9 0), .ref (g9 1), .ref (g9 2), .ref (g9 3), .ref (g9 4), .ref (g9 5)])), ((g9 0), .inl (cy 0, 4, .inl (upd (upd (upd (upd (fun _ => 0) 0 1) 1 2) 2 2) 3 3))), ((g9 1), .inl (cy 0, 25, .inl (fun _ => 0))), ((g9 2), .inl (cy 0, 512, .inl (fun _ => 0))), ((g9 3), .inl (cy 0, 512, .inl (fun _ => 0))), ((g9 4), .inl (cy 2, 512, .inl (fun _ => 0))), ((g9 5), .inl (cy 0, 512, .inl (fun _ => 0))), (q10, .inr (5, [.int 0, .ref (g11 0), .long 0, .int 0])), ((g11 0), .inl (cy 0, 512, .inl (fun _ => 0))), (q12, .inr (3, [.int 0, .int 0, .int 0, .int 0, .long 0, .int 0, .int 0, .int 0]))] H := hP
  have hD : va_D A [(h0, .inr (8, [.ref q0, .ref q2, .ref q4, .ref q6, .ref q8, .ref q10, .null, .null, .null])), (q0, .inr (6, [.ref (g1 0), .int 0, .long 0])), ((g1 0), .inl (cy 0, 40, .inl (fun _ => 0))), (q2, .inr (2, [.ref (g3 0), .ref (g3 1), .int 0])), ((g3 0), .inl (cy 0, 12, .inl (fun _ => 0))), ((g3 1), .inl (cy 1, 12, .inr (.inl (fun _ => 0)))), (q4, .inr (0, [.ref (g5 0), .int 0])), ((g5 0), .inl (cy 1, 20, .inr (.inl (fun _ => 0)))), (q6, .inr (1, [.ref (g7 0), .ref (g7 1), .ref (g7 2), .ref (g7 3), .ref (g7 4), .int 0, .int 0, .int 0, .ref (g7 5), .ref (g7 6), .ref (g7 7), .ref (g7 8), .ref (g7 9), .ref (g7 10), .ref (g7 11)])), ((g7 0), .inl (cy 0, 512, .inl (fun _ => 0))), ((g7 1), .inl (cy 0, 512, .inl (fun _ => 0))), ((g7 2), .inl (cy 0, 512, .inl (fun _ => 0))), ((g7 3), .inl (cy 2, 512, .inl (fun _ => 0))), ((g7 4), .inl (cy 0, 12, .inl (fun _ => 0))), ((g7 5), .inl (cy 0, 512, .inl (fun _ => 0))), ((g7 6), .inl (cy 0, 512, .inl (fun _ => 0))), ((g7 7), .inl (cy 2, 512, .inl (fun _ => 0))), ((g7 8), .inl (cy 0, 12, .inl (fun _ => 0))), ((g7 9), .inl (cy 0, 12, .inl (fun _ => 0))), ((g7 10), .inl (cy 0, 12, .inl (fun _ => 0))), ((g7 11), .inl (cy 0, 12, .inl (fun _ => 0))), (q8, .inr (7, [.ref (g9 0), .ref (g9 1), .ref (g9 2), .ref (g9 3), .ref (g9 4), .ref (g9 5)])), ((g9 0), .inl (cy 0, 4, .inl (upd (upd (upd (upd (fun _ => 0) 0 1) 1 2) 2 2) 3 3))), ((g9 1), .inl (cy 0, 25, .inl (fun _ => 0))), ((g9 2), .inl (cy 0, 512, .inl (fun _ => 0))), ((g9 3), .inl (cy 0, 512, .inl (fun _ => 0))), ((g9 4), .inl (cy 2, 512, .inl (fun _ => 0))), ((g9 5), .inl (cy 0, 512, .inl (fun _ => 0))), (q10, .inr (5, [.int 0, .ref (g11 0), .long 0, .int 0])), ((g11 0), .inl (cy 0, 512, .inl (fun _ => 0))), (q12, .inr (3, [.int 0, .int 0, .int 0, .int 0, .long 0, .int 0, .int 0, .int 0]))] := hD
  refine W.widen (k := 30) (n := 6358) (Nat.le_of_ble_eq_true rfl) (Nat.le_of_ble_eq_true rfl) ?_
  refine lv_dup hx hb dX9_init_74 rfl ?_
  have hPc := hP.sub (ws' := [(q12, .inr (3, [.int 0, .int 0, .int 0, .int 0, .long 0, .int 0, .int 0, .int 0]))]) [30] rfl
  have hDc := hD.sub (ws' := [(q12, .inr (3, [.int 0, .int 0, .int 0, .int 0, .long 0, .int 0, .int 0, .int 0]))]) [30] (by decide) rfl
  have hFc := va_free (wc := [(q12, .inr (3, [.int 0, .int 0, .int 0, .int 0, .long 0, .int 0, .int 0, .int 0]))]) hD hS hA [30] rfl
  refine va_callv (va_runIN (As := []) (rest := [.ref q12, .ref h0]) ⟨hx, hb, hml, hown, hts⟩ (N_X4 l D cy q12 H.size) ⟨va_cnB (bytes := cX4_init) (maxL := 1) 0 hts (gi_wt (ws := wsM yX4_init cX4_init 1 none) (wsM_in (by decide +kernel))) rfl rfl rfl hn55 (hts (.initialized RX4) (inT_mem (by decide +kernel))) ⟨by decide +kernel, by decide +kernel, by decide +kernel⟩ ⟨Nat.le_of_ble_eq_true rfl, Nat.le_of_ble_eq_true rfl⟩, rfl, (hts (.instanceMethod yX4_init) (inT_mem (by decide +kernel)))⟩ ⟨PcN_blind, fun U hU hW => ⟨rfl, by rw [hU], by rw [hU]; exact hPc, va_K.moved hW.alike hK, hDc.weaken (fun _ _ _ _ => trivial)⟩⟩ rfl rfl hl.1 rfl (lv_room (Nat.le_of_ble_eq_true rfl)) dX9_init_75 ⟨Nat.le_of_ble_eq_true rfl, Nat.le_of_ble_eq_true rfl⟩) hS (fun q _ h => hFc q h) hFc (fun g13 t H1 locs ht hvm _ hB hz1 hk1 hS => ?_)
  obtain ⟨hP1, hK1, hD1⟩ := hB
  rw [ht] at hP1
  obtain ⟨hP, hD⟩ := va_join (wr := [(h0, .inr (8, [.ref q0, .ref q2, .ref q4, .ref q6, .ref q8, .ref q10, .null, .null, .null])), (q0, .inr (6, [.ref (g1 0), .int 0, .long 0])), ((g1 0), .inl (cy 0, 40, .inl (fun _ => 0))), (q2, .inr (2, [.ref (g3 0), .ref (g3 1), .int 0])), ((g3 0), .inl (cy 0, 12, .inl (fun _ => 0))), ((g3 1), .inl (cy 1, 12, .inr (.inl (fun _ => 0)))), (q4, .inr (0, [.ref (g5 0), .int 0])), ((g5 0), .inl (cy 1, 20, .inr (.inl (fun _ => 0)))), (q6, .inr (1, [.ref (g7 0), .ref (g7 1), .ref (g7 2), .ref (g7 3), .ref (g7 4), .int 0, .int 0, .int 0, .ref (g7 5), .ref (g7 6), .ref (g7 7), .ref (g7 8), .ref (g7 9), .ref (g7 10), .ref (g7 11)])), ((g7 0), .inl (cy 0, 512, .inl (fun _ => 0))), ((g7 1), .inl (cy 0, 512, .inl (fun _ => 0))), ((g7 2), .inl (cy 0, 512, .inl (fun _ => 0))), ((g7 3), .inl (cy 2, 512, .inl (fun _ => 0))), ((g7 4), .inl (cy 0, 12, .inl (fun _ => 0))), ((g7 5), .inl (cy 0, 512, .inl (fun _ => 0))), ((g7 6), .inl (cy 0, 512, .inl (fun _ => 0))), ((g7 7), .inl (cy 2, 512, .inl (fun _ => 0))), ((g7 8), .inl (cy 0, 12, .inl (fun _ => 0))), ((g7 9), .inl (cy 0, 12, .inl (fun _ => 0))), ((g7 10), .inl (cy 0, 12, .inl (fun _ => 0))), ((g7 11), .inl (cy 0, 12, .inl (fun _ => 0))), (q8, .inr (7, [.ref (g9 0), .ref (g9 1), .ref (g9 2), .ref (g9 3), .ref (g9 4), .ref (g9 5)])), ((g9 0), .inl (cy 0, 4, .inl (upd (upd (upd (upd (fun _ => 0) 0 1) 1 2) 2 2) 3 3))), ((g9 1), .inl (cy 0, 25, .inl (fun _ => 0))), ((g9 2), .inl (cy 0, 512, .inl (fun _ => 0))), ((g9 3), .inl (cy 0, 512, .inl (fun _ => 0))), ((g9 4), .inl (cy 2, 512, .inl (fun _ => 0))), ((g9 5), .inl (cy 0, 512, .inl (fun _ => 0))), (q10, .inr (5, [.int 0, .ref (g11 0), .long 0, .int 0])), ((g11 0), .inl (cy 0, 512, .inl (fun _ => 0)))]) (w1 := [(q12, .inr (3, [.int 0, .int 0, .int 0, .int 0, .long 0, .int 0, .int 0, .int 0]))]) hP hD [30] [0, 1, 2, 3, 4, 5, 6, 7, 8, 9, 10, 11, 12, 13, 14, 15, 16, 17, 18, 19, 20, 21, 22, 23, 24, 25, 26, 27, 28, 29] rfl rfl (by decide) (by decide) hk1 hFc hP1 hD1
  generalize H1 = H at hP hS ⊢
  have hP : va_P D clsL [(h0, .inr (8, [.ref q0, .ref q2, .ref q4, .ref q6, .ref q8, .ref q10, .null, .null, .null])), (q0, .inr (6, [.ref (g1 0), .int 0, .long 0])), ((g1 0), .inl (cy 0, 40, .inl (fun _ => 0))), (q2, .inr (2, [.ref (g3 0), .ref (g3 1), .int 0])), ((g3 0), .inl (cy 0, 12, .inl (fun _ => 0))), ((g3 1), .inl (cy 1, 12, .inr (.inl (fun _ => 0)))), (q4, .inr (0, [.ref (g5 0), .int 0])), ((g5 0), .inl (cy 1, 20, .inr (.inl (fun _ => 0)))), (q6, .inr (1, [.ref (g7 0), .ref (g7 1), .ref (g7 2), .ref (g7 3), .ref (g7 4), .int 0, .int 0, .int 0, .ref (g7 5), .ref (g7 6), .ref (g7 7), .ref (g7 8), .ref (g7 9), .ref (g7 10), .ref (g7 11)])), ((g7 0), .inl (cy 0, 512, .inl (fun _ => 0))), ((g7 1), .inl (cy 0, 512, .inl (fun _ => 0))), ((g7 2), .inl (cy 0, 512, .inl (fun _ => 0))), ((g7 3), .inl (cy 2, 512, .inl (fun _ => 0))), ((g7 4), .inl (cy 0, 12, .inl (fun _ => 0))), ((g7 5), .inl (cy 0, 512, .inl (fun _ => 0))), ((g7 6), .inl (cy 0, 512, .inl (fun _ => 0))), ((g7 7), .inl (cy 2, 512, .inl (fun _ => 0))), ((g7 8), .inl (cy 0, 12, .inl (fun _ => 0))), ((g7 9), .inl (cy 0, 12, .inl (fun _ => 0))), ((g7 10), .inl (cy 0, 12, .inl (fun _ => 0))), ((g7 11), .inl (cy 0, 12, .inl (fun _ => 0))), (q8, .inr (7, [.ref (g9 0), .ref (g9 1), .ref (g9 2), .ref (g9 3), .ref (g9 4), .ref (g9 5)])), ((g9 0), .inl (cy 0, 4, .inl (upd (upd (upd (upd (fun _ => 0) 0 1) 1 2) 2 2) 3 3))), ((g9 1), .inl (cy 0, 25, .inl (fun _ => 0))), ((g9 2), .inl (cy 0, 512, .inl (fun _ => 0))), ((g9 3), .inl (cy 0, 512, .inl (fun _ => 0))), ((g9 4), .inl (cy 2, 512, .inl (fun _ => 0))), ((g9 5), .inl (cy 0, 512, .inl (fun _ => 0))), (q10, .inr (5, [.int 0, .ref (g11 0), .long 0, .int 0])), ((g11 0), .inl (cy 0, 512, .inl (fun _ => 0))), (q12, .inr (3, [.int 0, .int 0, .int 0, .int 0, .long 0, .int 0, .int 0, .int 0]))] H := hP
  have hD : va_D A [(h0, .inr (8, [.ref q0, .ref q2, .ref q4, .ref q6, .ref q8, .ref q10, .null, .null, .null])), (q0, .inr (6, [.ref (g1 0), .int 0, .long 0])), ((g1 0), .inl (cy 0, 40, .inl (fun _ => 0))), (q2, .inr (2, [.ref (g3 0), .ref (g3 1), .int 0])), ((g3 0), .inl (cy 0, 12, .inl (fun _ => 0))), ((g3 1), .inl (cy 1, 12, .inr (.inl (fun _ => 0)))), (q4, .inr (0, [.ref (g5 0), .int 0])), ((g5 0), .inl (cy 1, 20, .inr (.inl (fun _ => 0)))), (q6, .inr (1, [.ref (g7 0), .ref (g7 1), .ref (g7 2), .ref (g7 3), .ref (g7 4), .int 0, .int 0, .int 0, .ref (g7 5), .ref (g7 6), .ref (g7 7), .ref (g7 8), .ref (g7 9), .ref (g7 10), .ref (g7 11)])), ((g7 0), .inl (cy 0, 512, .inl (fun _ => 0))), ((g7 1), .inl (cy 0, 512, .inl (fun _ => 0))), ((g7 2), .inl (cy 0, 512, .inl (fun _ => 0))), ((g7 3), .inl (cy 2, 512, .inl (fun _ => 0))), ((g7 4), .inl (cy 0, 12, .inl (fun _ => 0))), ((g7 5), .inl (cy 0, 512, .inl (fun _ => 0))), ((g7 6), .inl (cy 0, 512, .inl (fun _ => 0))), ((g7 7), .inl (cy 2, 512, .inl (fun _ => 0))), ((g7 8), .inl (cy 0, 12, .inl (fun _ => 0))), ((g7 9), .inl (cy 0, 12, .inl (fun _ => 0))), ((g7 10), .inl (cy 0, 12, .inl (fun _ => 0))), ((g7 11), .inl (cy 0, 12, .inl (fun _ => 0))), (q8, .inr (7, [.ref (g9 0), .ref (g9 1), .ref (g9 2), .ref (g9 3), .ref (g9 4), .ref (g9 5)])), ((g9 0), .inl (cy 0, 4, .inl (upd (upd (upd (upd (fun _ => 0) 0 1) 1 2) 2 2) 3 3))), ((g9 1), .inl (cy 0, 25, .inl (fun _ => 0))), ((g9 2), .inl (cy 0, 512, .inl (fun _ => 0))), ((g9 3), .inl (cy 0, 512, .inl (fun _ => 0))), ((g9 4), .inl (cy 2, 512, .inl (fun _ => 0))), ((g9 5), .inl (cy 0, 512, .inl (fun _ => 0))), (q10, .inr (5, [.int 0, .ref (g11 0), .long 0, .int 0])), ((g11 0), .inl (cy 0, 512, .inl (fun _ => 0))), (q12, .inr (3, [.int 0, .int 0, .int 0, .int 0, .long 0, .int 0, .int 0, .int 0]))] := hD
  refine W.widen (k := 30) (n := 6358) (Nat.le_of_ble_eq_true rfl) (Nat.le_of_ble_eq_true rfl) ?_
  refine va_putF (D := D) (ci := 8) (v := .ref q12) (ty := .object "AdderChooser$Search") (C := RX9) (T := TX9) (N := 9) hx hb hts (inW inX9 (by decide +kernel)) tyX9 tyX9_ok nmX9 hown hK hP hD hS 0 rfl rfl 6 (by decide) (hts (.fieldLink RX9 56 "AdderChooser" "search" "LAdderChooser$Search;") (inT_mem (by decide +kernel))) (fun _ h9 => h9) rfl hin rfl (by decide +kernel) rfl rfl (Nat.le_of_ble_eq_true rfl) dX9_init_78 (fun H _ hP hD hS => ?_)
  have hP : va_P D clsL [(h0, .inr (8, [.ref q0, .ref q2, .ref q4, .ref q6, .ref q8, .ref q10, .ref q12, .null, .null])), (q0, .inr (6, [.ref (g1 0), .int 0, .long 0])), ((g1 0), .inl (cy 0, 40, .inl (fun _ => 0))), (q2, .inr (2, [.ref (g3 0), .ref (g3 1), .int 0])), ((g3 0), .inl (cy 0, 12, .inl (fun _ => 0))), ((g3 1), .inl (cy 1, 12, .inr (.inl (fun _ => 0)))), (q4, .inr (0, [.ref (g5 0), .int 0])), ((g5 0), .inl (cy 1, 20, .inr (.inl (fun _ => 0)))), (q6, .inr (1, [.ref (g7 0), .ref (g7 1), .ref (g7 2), .ref (g7 3), .ref (g7 4), .int 0, .int 0, .int 0, .ref (g7 5), .ref (g7 6), .ref (g7 7), .ref (g7 8), .ref (g7 9), .ref (g7 10), .ref (g7 11)])), ((g7 0), .inl (cy 0, 512, .inl (fun _ => 0))), ((g7 1), .inl (cy 0, 512, .inl (fun _ => 0))), ((g7 2), .inl (cy 0, 512, .inl (fun _ => 0))), ((g7 3), .inl (cy 2, 512, .inl (fun _ => 0))), ((g7 4), .inl (cy 0, 12, .inl (fun _ => 0))), ((g7 5), .inl (cy 0, 512, .inl (fun _ => 0))), ((g7 6), .inl (cy 0, 512, .inl (fun _ => 0))), ((g7 7), .inl (cy 2, 512, .inl (fun _ => 0))), ((g7 8), .inl (cy 0, 12, .inl (fun _ => 0))), ((g7 9), .inl (cy 0, 12, .inl (fun _ => 0))), ((g7 10), .inl (cy 0, 12, .inl (fun _ => 0))), ((g7 11), .inl (cy 0, 12, .inl (fun _ => 0))), (q8, .inr (7, [.ref (g9 0), .ref (g9 1), .ref (g9 2), .ref (g9 3), .ref (g9 4), .ref (g9 5)])), ((g9 0), .inl (cy 0, 4, .inl (upd (upd (upd (upd (fun _ => 0) 0 1) 1 2) 2 2) 3 3))), ((g9 1), .inl (cy 0, 25, .inl (fun _ => 0))), ((g9 2), .inl (cy 0, 512, .inl (fun _ => 0))), ((g9 3), .inl (cy 0, 512, .inl (fun _ => 0))), ((g9 4), .inl (cy 2, 512, .inl (fun _ => 0))), ((g9 5), .inl (cy 0, 512, .inl (fun _ => 0))), (q10, .inr (5, [.int 0, .ref (g11 0), .long 0, .int 0])), ((g11 0), .inl (cy 0, 512, .inl (fun _ => 0))), (q12, .inr (3, [.int 0, .int 0, .int 0, .int 0, .long 0, .int 0, .int 0, .int 0]))] H := hP
  have hD : va_D A [(h0, .inr (8, [.ref q0, .ref q2, .ref q4, .ref q6, .ref q8, .ref q10, .ref q12, .null, .null])), (q0, .inr (6, [.ref (g1 0), .int 0, .long 0])), ((g1 0), .inl (cy 0, 40, .inl (fun _ => 0))), (q2, .inr (2, [.ref (g3 0), .ref (g3 1), .int 0])), ((g3 0), .inl (cy 0, 12, .inl (fun _ => 0))), ((g3 1), .inl (cy 1, 12, .inr (.inl (fun _ => 0)))), (q4, .inr (0, [.ref (g5 0), .int 0])), ((g5 0), .inl (cy 1, 20, .inr (.inl (fun _ => 0)))), (q6, .inr (1, [.ref (g7 0), .ref (g7 1), .ref (g7 2), .ref (g7 3), .ref (g7 4), .int 0, .int 0, .int 0, .ref (g7 5), .ref (g7 6), .ref (g7 7), .ref (g7 8), .ref (g7 9), .ref (g7 10), .ref (g7 11)])), ((g7 0), .inl (cy 0, 512, .inl (fun _ => 0))), ((g7 1), .inl (cy 0, 512, .inl (fun _ => 0))), ((g7 2), .inl (cy 0, 512, .inl (fun _ => 0))), ((g7 3), .inl (cy 2, 512, .inl (fun _ => 0))), ((g7 4), .inl (cy 0, 12, .inl (fun _ => 0))), ((g7 5), .inl (cy 0, 512, .inl (fun _ => 0))), ((g7 6), .inl (cy 0, 512, .inl (fun _ => 0))), ((g7 7), .inl (cy 2, 512, .inl (fun _ => 0))), ((g7 8), .inl (cy 0, 12, .inl (fun _ => 0))), ((g7 9), .inl (cy 0, 12, .inl (fun _ => 0))), ((g7 10), .inl (cy 0, 12, .inl (fun _ => 0))), ((g7 11), .inl (cy 0, 12, .inl (fun _ => 0))), (q8, .inr (7, [.ref (g9 0), .ref (g9 1), .ref (g9 2), .ref (g9 3), .ref (g9 4), .ref (g9 5)])), ((g9 0), .inl (cy 0, 4, .inl (upd (upd (upd (upd (fun _ => 0) 0 1) 1 2) 2 2) 3 3))), ((g9 1), .inl (cy 0, 25, .inl (fun _ => 0))), ((g9 2), .inl (cy 0, 512, .inl (fun _ => 0))), ((g9 3), .inl (cy 0, 512, .inl (fun _ => 0))), ((g9 4), .inl (cy 2, 512, .inl (fun _ => 0))), ((g9 5), .inl (cy 0, 512, .inl (fun _ => 0))), (q10, .inr (5, [.int 0, .ref (g11 0), .long 0, .int 0])), ((g11 0), .inl (cy 0, 512, .inl (fun _ => 0))), (q12, .inr (3, [.int 0, .int 0, .int 0, .int 0, .long 0, .int 0, .int 0, .int 0]))] := hD
  refine lv_aload_n hx hb dX9_init_81 rfl (lv_at hl 0 rfl) ?_
  refine lv_iconst (v := 4) hx hb dX9_init_82 (by decide) ?_
  refine nwQ (N' := 4) hx hb hown (hts (.classLink RX9 60 "AdderChooser$Shelf") (inT_mem (by decide +kernel))) hAO hK rfl hP hD hS hA (by decide) (by decide) (Nat.le_of_ble_eq_true rfl) (Nat.le_of_ble_eq_true rfl) (Nat.le_of_ble_eq_true rfl) dX9_init_83 (fun q14 H hP hD hS => ?_)
  have hP : va_P D clsL [(h0, .inr (8, [.ref q0, .ref q2, .ref q4, .ref q6, .ref q8, .ref q10, .ref q12, .null, .null])), (q0, .inr (6, [.ref (g1 0), .int 0, .long 0])), ((g1 0), .inl (cy 0, 40, .inl (fun _ => 0))), (q2, .inr (2, [.ref (g3 0), .ref (g3 1), .int 0])), ((g3 0), .inl (cy 0, 12, .inl (fun _ => 0))), ((g3 1), .inl (cy 1, 12, .inr (.inl (fun _ => 0)))), (q4, .inr (0, [.ref (g5 0), .int 0])), ((g5 0), .inl (cy 1, 20, .inr (.inl (fun _ => 0)))), (q6, .inr (1, [.ref (g7 0), .ref (g7 1), .ref (g7 2), .ref (g7 3), .ref (g7 4), .int 0, .int 0, .int 0, .ref (g7 5), .ref (g7 6), .ref (g7 7), .ref (g7 8), .ref (g7 9), .ref (g7 10), .ref (g7 11)])), ((g7 0), .inl (cy 0, 512, .inl (fun _ => 0))), ((g7 1), .inl (cy 0, 512, .inl (fun _ => 0))), ((g7 2), .inl (cy 0, 512, .inl (fun _ => 0))), ((g7 3), .inl (cy 2, 512, .inl (fun _ => 0))), ((g7 4), .inl (cy 0, 12, .inl (fun _ => 0))), ((g7 5), .inl (cy 0, 512, .inl (fun _ => 0))), ((g7 6), .inl (cy 0, 512, .inl (fun _ => 0))), ((g7 7), .inl (cy 2, 512, .inl (fun _ => 0))), ((g7 8), .inl (cy 0, 12, .inl (fun _ => 0))), ((g7 9), .inl (cy 0, 12, .inl (fun _ => 0))), ((g7 10), .inl (cy 0, 12, .inl (fun _ => 0))), ((g7 11), .inl (cy 0, 12, .inl (fun _ => 0))), (q8, .inr (7, [.ref (g9 0), .ref (g9 1), .ref (g9 2), .ref (g9 3), .ref (g9 4), .ref (g9 5)])), ((g9 0), .inl (cy 0, 4, .inl (upd (upd (upd (upd (fun _ => 0) 0 1) 1 2) 2 2) 3 3))), ((g9 1), .inl (cy 0, 25, .inl (fun _ => 0))), ((g9 2), .inl (cy 0, 512, .inl (fun _ => 0))), ((g9 3), .inl (cy 0, 512, .inl (fun _ => 0))), ((g9 4), .inl (cy 2, 512, .inl (fun _ => 0))), ((g9 5), .inl (cy 0, 512, .inl (fun _ => 0))), (q10, .inr (5, [.int 0, .ref (g11 0), .long 0, .int 0])), ((g11 0), .inl (cy 0, 512, .inl (fun _ => 0))), (q12, .inr (3, [.int 0, .int 0, .int 0, .int 0, .long 0, .int 0, .int 0, .int 0])), (q14, .inl (cy 3, 4, .inr (.inr (.inr (.inr (fun _ => none))))))] H := hP
  have hD : va_D A [(h0, .inr (8, [.ref q0, .ref q2, .ref q4, .ref q6, .ref q8, .ref q10, .ref q12, .null, .null])), (q0, .inr (6, [.ref (g1 0), .int 0, .long 0])), ((g1 0), .inl (cy 0, 40, .inl (fun _ => 0))), (q2, .inr (2, [.ref (g3 0), .ref (g3 1), .int 0])), ((g3 0), .inl (cy 0, 12, .inl (fun _ => 0))), ((g3 1), .inl (cy 1, 12, .inr (.inl (fun _ => 0)))), (q4, .inr (0, [.ref (g5 0), .int 0])), ((g5 0), .inl (cy 1, 20, .inr (.inl (fun _ => 0)))), (q6, .inr (1, [.ref (g7 0), .ref (g7 1), .ref (g7 2), .ref (g7 3), .ref (g7 4), .int 0, .int 0, .int 0, .ref (g7 5), .ref (g7 6), .ref (g7 7), .ref (g7 8), .ref (g7 9), .ref (g7 10), .ref (g7 11)])), ((g7 0), .inl (cy 0, 512, .inl (fun _ => 0))), ((g7 1), .inl (cy 0, 512, .inl (fun _ => 0))), ((g7 2), .inl (cy 0, 512, .inl (fun _ => 0))), ((g7 3), .inl (cy 2, 512, .inl (fun _ => 0))), ((g7 4), .inl (cy 0, 12, .inl (fun _ => 0))), ((g7 5), .inl (cy 0, 512, .inl (fun _ => 0))), ((g7 6), .inl (cy 0, 512, .inl (fun _ => 0))), ((g7 7), .inl (cy 2, 512, .inl (fun _ => 0))), ((g7 8), .inl (cy 0, 12, .inl (fun _ => 0))), ((g7 9), .inl (cy 0, 12, .inl (fun _ => 0))), ((g7 10), .inl (cy 0, 12, .inl (fun _ => 0))), ((g7 11), .inl (cy 0, 12, .inl (fun _ => 0))), (q8, .inr (7, [.ref (g9 0), .ref (g9 1), .ref (g9 2), .ref (g9 3), .ref (g9 4), .ref (g9 5)])), ((g9 0), .inl (cy 0, 4, .inl (upd (upd (upd (upd (fun _ => 0) 0 1) 1 2) 2 2) 3 3))), ((g9 1), .inl (cy 0, 25, .inl (fun _ => 0))), ((g9 2), .inl (cy 0, 512, .inl (fun _ => 0))), ((g9 3), .inl (cy 0, 512, .inl (fun _ => 0))), ((g9 4), .inl (cy 2, 512, .inl (fun _ => 0))), ((g9 5), .inl (cy 0, 512, .inl (fun _ => 0))), (q10, .inr (5, [.int 0, .ref (g11 0), .long 0, .int 0])), ((g11 0), .inl (cy 0, 512, .inl (fun _ => 0))), (q12, .inr (3, [.int 0, .int 0, .int 0, .int 0, .long 0, .int 0, .int 0, .int 0])), (q14, .inl (cy 3, 4, .inr (.inr (.inr (.inr (fun _ => none))))))] := hD
  refine W.widen (k := 31) (n := 6362) (Nat.le_of_ble_eq_true rfl) (Nat.le_of_ble_eq_true rfl) ?_
  refine va_putF (D := D) (ci := 8) (v := .ref q14) (ty := .array (.object "AdderChooser$Shelf")) (C := RX9) (T := TX9) (N := 9) hx hb hts (inW inX9 (by decide +kernel)) tyX9 tyX9_ok nmX9 hown hK hP hD hS 0 rfl rfl 7 (by decide) (hts (.fieldLink RX9 62 "AdderChooser" "shelves" "[LAdderChooser$Shelf;") (inT_mem (by decide +kernel))) (fun _ h9 => h9) rfl hin rfl (by decide +kernel) rfl rfl (Nat.le_of_ble_eq_true rfl) dX9_init_86 (fun H _ hP hD hS => ?_)
  have hP : va_P D clsL [(h0, .inr (8, [.ref q0, .ref q2, .ref q4, .ref q6, .ref q8, .ref q10, .ref q12, .ref q14, .null])), (q0, .inr (6, [.ref (g1 0), .int 0, .long 0])), ((g1 0), .inl (cy 0, 40, .inl (fun _ => 0))), (q2, .inr (2, [.ref (g3 0), .ref (g3 1), .int 0])), ((g3 0), .inl (cy 0, 12, .inl (fun _ => 0))), ((g3 1), .inl (cy 1, 12, .inr (.inl (fun _ => 0)))), (q4, .inr (0, [.ref (g5 0), .int 0])), ((g5 0), .inl (cy 1, 20, .inr (.inl (fun _ => 0)))), (q6, .inr (1, [.ref (g7 0), .ref (g7 1), .ref (g7 2), .ref (g7 3), .ref (g7 4), .int 0, .int 0, .int 0, .ref (g7 5), .ref (g7 6), .ref (g7 7), .ref (g7 8), .ref (g7 9), .ref (g7 10), .ref (g7 11)])), ((g7 0), .inl (cy 0, 512, .inl (fun _ => 0))), ((g7 1), .inl (cy 0, 512, .inl (fun _ => 0))), ((g7 2), .inl (cy 0, 512, .inl (fun _ => 0))), ((g7 3), .inl (cy 2, 512, .inl (fun _ => 0))), ((g7 4), .inl (cy 0, 12, .inl (fun _ => 0))), ((g7 5), .inl (cy 0, 512, .inl (fun _ => 0))), ((g7 6), .inl (cy 0, 512, .inl (fun _ => 0))), ((g7 7), .inl (cy 2, 512, .inl (fun _ => 0))), ((g7 8), .inl (cy 0, 12, .inl (fun _ => 0))), ((g7 9), .inl (cy 0, 12, .inl (fun _ => 0))), ((g7 10), .inl (cy 0, 12, .inl (fun _ => 0))), ((g7 11), .inl (cy 0, 12, .inl (fun _ => 0))), (q8, .inr (7, [.ref (g9 0), .ref (g9 1), .ref (g9 2), .ref (g9 3), .ref (g9 4), .ref (g9 5)])), ((g9 0), .inl (cy 0, 4, .inl (upd (upd (upd (upd (fun _ => 0) 0 1) 1 2) 2 2) 3 3))), ((g9 1), .inl (cy 0, 25, .inl (fun _ => 0))), ((g9 2), .inl (cy 0, 512, .inl (fun _ => 0))), ((g9 3), .inl (cy 0, 512, .inl (fun _ => 0))), ((g9 4), .inl (cy 2, 512, .inl (fun _ => 0))), ((g9 5), .inl (cy 0, 512, .inl (fun _ => 0))), (q10, .inr (5, [.int 0, .ref (g11 0), .long 0, .int 0])), ((g11 0), .inl (cy 0, 512, .inl (fun _ => 0))), (q12, .inr (3, [.int 0, .int 0, .int 0, .int 0, .long 0, .int 0, .int 0, .int 0])), (q14, .inl (cy 3, 4, .inr (.inr (.inr (.inr (fun _ => none))))))] H := hP
  have hD : va_D A [(h0, .inr (8, [.ref q0, .ref q2, .ref q4, .ref q6, .ref q8, .ref q10, .ref q12, .ref q14, .null])), (q0, .inr (6, [.ref (g1 0), .int 0, .long 0])), ((g1 0), .inl (cy 0, 40, .inl (fun _ => 0))), (q2, .inr (2, [.ref (g3 0), .ref (g3 1), .int 0])), ((g3 0), .inl (cy 0, 12, .inl (fun _ => 0))), ((g3 1), .inl (cy 1, 12, .inr (.inl (fun _ => 0)))), (q4, .inr (0, [.ref (g5 0), .int 0])), ((g5 0), .inl (cy 1, 20, .inr (.inl (fun _ => 0)))), (q6, .inr (1, [.ref (g7 0), .ref (g7 1), .ref (g7 2), .ref (g7 3), .ref (g7 4), .int 0, .int 0, .int 0, .ref (g7 5), .ref (g7 6), .ref (g7 7), .ref (g7 8), .ref (g7 9), .ref (g7 10), .ref (g7 11)])), ((g7 0), .inl (cy 0, 512, .inl (fun _ => 0))), ((g7 1), .inl (cy 0, 512, .inl (fun _ => 0))), ((g7 2), .inl (cy 0, 512, .inl (fun _ => 0))), ((g7 3), .inl (cy 2, 512, .inl (fun _ => 0))), ((g7 4), .inl (cy 0, 12, .inl (fun _ => 0))), ((g7 5), .inl (cy 0, 512, .inl (fun _ => 0))), ((g7 6), .inl (cy 0, 512, .inl (fun _ => 0))), ((g7 7), .inl (cy 2, 512, .inl (fun _ => 0))), ((g7 8), .inl (cy 0, 12, .inl (fun _ => 0))), ((g7 9), .inl (cy 0, 12, .inl (fun _ => 0))), ((g7 10), .inl (cy 0, 12, .inl (fun _ => 0))), ((g7 11), .inl (cy 0, 12, .inl (fun _ => 0))), (q8, .inr (7, [.ref (g9 0), .ref (g9 1), .ref (g9 2), .ref (g9 3), .ref (g9 4), .ref (g9 5)])), ((g9 0), .inl (cy 0, 4, .inl (upd (upd (upd (upd (fun _ => 0) 0 1) 1 2) 2 2) 3 3))), ((g9 1), .inl (cy 0, 25, .inl (fun _ => 0))), ((g9 2), .inl (cy 0, 512, .inl (fun _ => 0))), ((g9 3), .inl (cy 0, 512, .inl (fun _ => 0))), ((g9 4), .inl (cy 2, 512, .inl (fun _ => 0))), ((g9 5), .inl (cy 0, 512, .inl (fun _ => 0))), (q10, .inr (5, [.int 0, .ref (g11 0), .long 0, .int 0])), ((g11 0), .inl (cy 0, 512, .inl (fun _ => 0))), (q12, .inr (3, [.int 0, .int 0, .int 0, .int 0, .long 0, .int 0, .int 0, .int 0])), (q14, .inl (cy 3, 4, .inr (.inr (.inr (.inr (fun _ => none))))))] := hD
  refine lv_iconst (v := 0) hx hb dX9_init_89 (by decide) ?_
  refine lv_istore_n (lv' := [(1, .int 0), (0, .ref h0)]) hx hb dX9_init_90 rfl hl (by decide) rfl (fun ls hl => ?_)
  refine lv_iload_n hx hb dX9_init_91 rfl (lv_at hl 0 rfl) ?_
  refine lv_iconst (v := 4) hx hb dX9_init_92 (by decide) ?_
  refine lv_icmp_ge (tgt := 115) hx hb dX9_init_93 (by decide) (fun z => absurd z (by decide)) (fun _ => ?_)
  refine lv_aload_n hx hb dX9_init_96 rfl (lv_at hl 1 rfl) ?_
  refine va_get (D := D) (ci := 8) (v := .ref q14) (C := RX9) (T := TX9) (N := 9) hx hb hts (inW inX9 (by decide +kernel)) hown hK hP 0 rfl rfl 7 (by decide) (hts (.fieldLink RX9 62 "AdderChooser" "shelves" "[LAdderChooser$Shelf;") (inT_mem (by decide +kernel))) (fun _ h9 => h9) rfl dX9_init_97 ?_
  refine lv_iload_n hx hb dX9_init_100 rfl (lv_at hl 0 rfl) ?_
  refine va_new (ci := 4) (fs := [.null, .int 0, .int 0, .long 0]) (C := RX5) (T := TX5) (N := 4) hx hb hts (inW inX5 (by decide +kernel)) tyX5 tyX5_ok hown (hts (.classLink RX9 60 RX5) (inT_mem (by decide +kernel))) (hts (.instantiable RX5 4) (inT_mem (by decide +kernel))) (hts (.initialized RX5) (inT_mem (by decide +kernel))) hK hP hD hS hA rfl (fun j hj => by exact nwfsX5 j hj) (Nat.le_of_ble_eq_true rfl) (Nat.le_of_ble_eq_true rfl) dX9_init_101 (fun q15 H hP hD hS => ?_)
  have hP : va_P D clsL [(h0, .inr (8, [.ref q0, .ref q2, .ref q4, .ref q6, .ref q8, .ref q10, .ref q12, .ref q14, .null])), (q0, .inr (6, [.ref (g1 0), .int 0, .long 0])), ((g1 0), .inl (cy 0, 40, .inl (fun _ => 0))), (q2, .inr (2, [.ref (g3 0), .ref (g3 1), .int 0])), ((g3 0), .inl (cy 0, 12, .inl (fun _ => 0))), ((g3 1), .inl (cy 1, 12, .inr (.inl (fun _ => 0)))), (q4, .inr (0, [.ref (g5 0), .int 0])), ((g5 0), .inl (cy 1, 20, .inr (.inl (fun _ => 0)))), (q6, .inr (1, [.ref (g7 0), .ref (g7 1), .ref (g7 2), .ref (g7 3), .ref (g7 4), .int 0, .int 0, .int 0, .ref (g7 5), .ref (g7 6), .ref (g7 7), .ref (g7 8), .ref (g7 9), .ref (g7 10), .ref (g7 11)])), ((g7 0), .inl (cy 0, 512, .inl (fun _ => 0))), ((g7 1), .inl (cy 0, 512, .inl (fun _ => 0))), ((g7 2), .inl (cy 0, 512, .inl (fun _ => 0))), ((g7 3), .inl (cy 2, 512, .inl (fun _ => 0))), ((g7 4), .inl (cy 0, 12, .inl (fun _ => 0))), ((g7 5), .inl (cy 0, 512, .inl (fun _ => 0))), ((g7 6), .inl (cy 0, 512, .inl (fun _ => 0))), ((g7 7), .inl (cy 2, 512, .inl (fun _ => 0))), ((g7 8), .inl (cy 0, 12, .inl (fun _ => 0))), ((g7 9), .inl (cy 0, 12, .inl (fun _ => 0))), ((g7 10), .inl (cy 0, 12, .inl (fun _ => 0))), ((g7 11), .inl (cy 0, 12, .inl (fun _ => 0))), (q8, .inr (7, [.ref (g9 0), .ref (g9 1), .ref (g9 2), .ref (g9 3), .ref (g9 4), .ref (g9 5)])), ((g9 0), .inl (cy 0, 4, .inl (upd (upd (upd (upd (fun _ => 0) 0 1) 1 2) 2 2) 3 3))), ((g9 1), .inl (cy 0, 25, .inl (fun _ => 0))), ((g9 2), .inl (cy 0, 512, .inl (fun _ => 0))), ((g9 3), .inl (cy 0, 512, .inl (fun _ => 0))), ((g9 4), .inl (cy 2, 512, .inl (fun _ => 0))), ((g9 5), .inl (cy 0, 512, .inl (fun _ => 0))), (q10, .inr (5, [.int 0, .ref (g11 0), .long 0, .int 0])), ((g11 0), .inl (cy 0, 512, .inl (fun _ => 0))), (q12, .inr (3, [.int 0, .int 0, .int 0, .int 0, .long 0, .int 0, .int 0, .int 0])), (q14, .inl (cy 3, 4, .inr (.inr (.inr (.inr (fun _ => none)))))), (q15, .inr (4, [.null, .int 0, .int 0, .long 0]))] H := hP
  have hD : va_D A [(h0, .inr (8, [.ref q0, .ref q2, .ref q4, .ref q6, .ref q8, .ref q10, .ref q12, .ref q14, .null])), (q0, .inr (6, [.ref (g1 0), .int 0, .long 0])), ((g1 0), .inl (cy 0, 40, .inl (fun _ => 0))), (q2, .inr (2, [.ref (g3 0), .ref (g3 1), .int 0])), ((g3 0), .inl (cy 0, 12, .inl (fun _ => 0))), ((g3 1), .inl (cy 1, 12, .inr (.inl (fun _ => 0)))), (q4, .inr (0, [.ref (g5 0), .int 0])), ((g5 0), .inl (cy 1, 20, .inr (.inl (fun _ => 0)))), (q6, .inr (1, [.ref (g7 0), .ref (g7 1), .ref (g7 2), .ref (g7 3), .ref (g7 4), .int 0, .int 0, .int 0, .ref (g7 5), .ref (g7 6), .ref (g7 7), .ref (g7 8), .ref (g7 9), .ref (g7 10), .ref (g7 11)])), ((g7 0), .inl (cy 0, 512, .inl (fun _ => 0))), ((g7 1), .inl (cy 0, 512, .inl (fun _ => 0))), ((g7 2), .inl (cy 0, 512, .inl (fun _ => 0))), ((g7 3), .inl (cy 2, 512, .inl (fun _ => 0))), ((g7 4), .inl (cy 0, 12, .inl (fun _ => 0))), ((g7 5), .inl (cy 0, 512, .inl (fun _ => 0))), ((g7 6), .inl (cy 0, 512, .inl (fun _ => 0))), ((g7 7), .inl (cy 2, 512, .inl (fun _ => 0))), ((g7 8), .inl (cy 0, 12, .inl (fun _ => 0))), ((g7 9), .inl (cy 0, 12, .inl (fun _ => 0))), ((g7 10), .inl (cy 0, 12, .inl (fun _ => 0))), ((g7 11), .inl (cy 0, 12, .inl (fun _ => 0))), (q8, .inr (7, [.ref (g9 0), .ref (g9 1), .ref (g9 2), .ref (g9 3), .ref (g9 4), .ref (g9 5)])), ((g9 0), .inl (cy 0, 4, .inl (upd (upd (upd (upd (fun _ => 0) 0 1) 1 2) 2 2) 3 3))), ((g9 1), .inl (cy 0, 25, .inl (fun _ => 0))), ((g9 2), .inl (cy 0, 512, .inl (fun _ => 0))), ((g9 3), .inl (cy 0, 512, .inl (fun _ => 0))), ((g9 4), .inl (cy 2, 512, .inl (fun _ => 0))), ((g9 5), .inl (cy 0, 512, .inl (fun _ => 0))), (q10, .inr (5, [.int 0, .ref (g11 0), .long 0, .int 0])), ((g11 0), .inl (cy 0, 512, .inl (fun _ => 0))), (q12, .inr (3, [.int 0, .int 0, .int 0, .int 0, .long 0, .int 0, .int 0, .int 0])), (q14, .inl (cy 3, 4, .inr (.inr (.inr (.inr (fun _ => none)))))), (q15, .inr (4, [.null, .int 0, .int 0, .long 0]))] := hD
  refine W.widen (k := 32) (n := 6366) (Nat.le_of_ble_eq_true rfl) (Nat.le_of_ble_eq_true rfl) ?_
  refine lv_dup hx hb dX9_init_104 rfl ?_
  have hPc := hP.sub (ws' := [(q15, .inr (4, [.null, .int 0, .int 0, .long 0]))]) [32] rfl
  have hDc := hD.sub (ws' := [(q15, .inr (4, [.null, .int 0, .int 0, .long 0]))]) [32] (by decide) rfl
  have hFc := va_free (wc := [(q15, .inr (4, [.null, .int 0, .int 0, .long 0]))]) hD hS hA [32] rfl
  refine va_callv (va_runIN (As := []) (rest := [.ref q15, .int 0, .ref q14]) ⟨hx, hb, hml, hown, hts⟩ (N_X5 l D cy q15 H.size) ⟨va_cnB (bytes := cX5_init) (maxL := 1) 0 hts (gi_wt (ws := wsM yX5_init cX5_init 1 none) (wsM_in (by decide +kernel))) rfl rfl rfl hn66 (hts (.initialized RX5) (inT_mem (by decide +kernel))) ⟨by decide +kernel, by decide +kernel, by decide +kernel⟩ ⟨Nat.le_of_ble_eq_true rfl, Nat.le_of_ble_eq_true rfl⟩, rfl, (hts (.instanceMethod yX5_init) (inT_mem (by decide +kernel)))⟩ ⟨PcN_blind, fun U hU hW => ⟨rfl, by rw [hU], by rw [hU]; exact hPc, va_K.moved hW.alike hK, hDc.weaken (fun _ _ _ _ => trivial)⟩⟩ rfl rfl hl.1 rfl (lv_room (Nat.le_of_ble_eq_true rfl)) dX9_init_105 ⟨Nat.le_of_ble_eq_true rfl, Nat.le_of_ble_eq_true rfl⟩) hS (fun q _ h => hFc q h) hFc (fun g16 t H1 locs ht hvm _ hB hz1 hk1 hS => ?_)
  obtain ⟨hP1, hK1, hD1⟩ := hB
  rw [ht] at hP1
  obtain ⟨hP, hD⟩ := va_join (wr := [(h0, .inr (8, [.ref q0, .ref q2, .ref q4, .ref q6, .ref q8, .ref q10, .ref q12, .ref q14, .null])), (q0, .inr (6, [.ref (g1 0), .int 0, .long 0])), ((g1 0), .inl (cy 0, 40, .inl (fun _ => 0))), (q2, .inr (2, [.ref (g3 0), .ref (g3 1), .int 0])), ((g3 0), .inl (cy 0, 12, .inl (fun _ => 0))), ((g3 1), .inl (cy 1, 12, .inr (.inl (fun _ => 0)))), (q4, .inr (0, [.ref (g5 0), .int 0])), ((g5 0), .inl (cy 1, 20, .inr (.inl (fun _ => 0)))), (q6, .inr (1, [.ref (g7 0), .ref (g7 1), .ref (g7 2), .ref (g7 3), .ref (g7 4), .int 0, .int 0, .int 0, .ref (g7 5), .ref (g7 6), .ref (g7 7), .ref (g7 8), .ref (g7 9), .ref (g7 10), .ref (g7 11)])), ((g7 0), .inl (cy 0, 512, .inl (fun _ => 0))), ((g7 1), .inl (cy 0, 512, .inl (fun _ => 0))), ((g7 2), .inl (cy 0, 512, .inl (fun _ => 0))), ((g7 3), .inl (cy 2, 512, .inl (fun _ => 0))), ((g7 4), .inl (cy 0, 12, .inl (fun _ => 0))), ((g7 5), .inl (cy 0, 512, .inl (fun _ => 0))), ((g7 6), .inl (cy 0, 512, .inl (fun _ => 0))), ((g7 7), .inl (cy 2, 512, .inl (fun _ => 0))), ((g7 8), .inl (cy 0, 12, .inl (fun _ => 0))), ((g7 9), .inl (cy 0, 12, .inl (fun _ => 0))), ((g7 10), .inl (cy 0, 12, .inl (fun _ => 0))), ((g7 11), .inl (cy 0, 12, .inl (fun _ => 0))), (q8, .inr (7, [.ref (g9 0), .ref (g9 1), .ref (g9 2), .ref (g9 3), .ref (g9 4), .ref (g9 5)])), ((g9 0), .inl (cy 0, 4, .inl (upd (upd (upd (upd (fun _ => 0) 0 1) 1 2) 2 2) 3 3))), ((g9 1), .inl (cy 0, 25, .inl (fun _ => 0))), ((g9 2), .inl (cy 0, 512, .inl (fun _ => 0))), ((g9 3), .inl (cy 0, 512, .inl (fun _ => 0))), ((g9 4), .inl (cy 2, 512, .inl (fun _ => 0))), ((g9 5), .inl (cy 0, 512, .inl (fun _ => 0))), (q10, .inr (5, [.int 0, .ref (g11 0), .long 0, .int 0])), ((g11 0), .inl (cy 0, 512, .inl (fun _ => 0))), (q12, .inr (3, [.int 0, .int 0, .int 0, .int 0, .long 0, .int 0, .int 0, .int 0])), (q14, .inl (cy 3, 4, .inr (.inr (.inr (.inr (fun _ => none))))))]) (w1 := [(q15, .inr (4, [.ref (g16 0), .int (-1), .int 0, .long 0])), ((g16 0), .inl (cy 1, 20, .inr (.inl (fun _ => 0))))]) hP hD [32] [0, 1, 2, 3, 4, 5, 6, 7, 8, 9, 10, 11, 12, 13, 14, 15, 16, 17, 18, 19, 20, 21, 22, 23, 24, 25, 26, 27, 28, 29, 30, 31] rfl rfl (by decide) (by decide) hk1 hFc hP1 hD1
  generalize H1 = H at hP hS ⊢
  have hP : va_P D clsL [(h0, .inr (8, [.ref q0, .ref q2, .ref q4, .ref q6, .ref q8, .ref q10, .ref q12, .ref q14, .null])), (q0, .inr (6, [.ref (g1 0), .int 0, .long 0])), ((g1 0), .inl (cy 0, 40, .inl (fun _ => 0))), (q2, .inr (2, [.ref (g3 0), .ref (g3 1), .int 0])), ((g3 0), .inl (cy 0, 12, .inl (fun _ => 0))), ((g3 1), .inl (cy 1, 12, .inr (.inl (fun _ => 0)))), (q4, .inr (0, [.ref (g5 0), .int 0])), ((g5 0), .inl (cy 1, 20, .inr (.inl (fun _ => 0)))), (q6, .inr (1, [.ref (g7 0), .ref (g7 1), .ref (g7 2), .ref (g7 3), .ref (g7 4), .int 0, .int 0, .int 0, .ref (g7 5), .ref (g7 6), .ref (g7 7), .ref (g7 8), .ref (g7 9), .ref (g7 10), .ref (g7 11)])), ((g7 0), .inl (cy 0, 512, .inl (fun _ => 0))), ((g7 1), .inl (cy 0, 512, .inl (fun _ => 0))), ((g7 2), .inl (cy 0, 512, .inl (fun _ => 0))), ((g7 3), .inl (cy 2, 512, .inl (fun _ => 0))), ((g7 4), .inl (cy 0, 12, .inl (fun _ => 0))), ((g7 5), .inl (cy 0, 512, .inl (fun _ => 0))), ((g7 6), .inl (cy 0, 512, .inl (fun _ => 0))), ((g7 7), .inl (cy 2, 512, .inl (fun _ => 0))), ((g7 8), .inl (cy 0, 12, .inl (fun _ => 0))), ((g7 9), .inl (cy 0, 12, .inl (fun _ => 0))), ((g7 10), .inl (cy 0, 12, .inl (fun _ => 0))), ((g7 11), .inl (cy 0, 12, .inl (fun _ => 0))), (q8, .inr (7, [.ref (g9 0), .ref (g9 1), .ref (g9 2), .ref (g9 3), .ref (g9 4), .ref (g9 5)])), ((g9 0), .inl (cy 0, 4, .inl (upd (upd (upd (upd (fun _ => 0) 0 1) 1 2) 2 2) 3 3))), ((g9 1), .inl (cy 0, 25, .inl (fun _ => 0))), ((g9 2), .inl (cy 0, 512, .inl (fun _ => 0))), ((g9 3), .inl (cy 0, 512, .inl (fun _ => 0))), ((g9 4), .inl (cy 2, 512, .inl (fun _ => 0))), ((g9 5), .inl (cy 0, 512, .inl (fun _ => 0))), (q10, .inr (5, [.int 0, .ref (g11 0), .long 0, .int 0])), ((g11 0), .inl (cy 0, 512, .inl (fun _ => 0))), (q12, .inr (3, [.int 0, .int 0, .int 0, .int 0, .long 0, .int 0, .int 0, .int 0])), (q14, .inl (cy 3, 4, .inr (.inr (.inr (.inr (fun _ => none)))))), (q15, .inr (4, [.ref (g16 0), .int (-1), .int 0, .long 0])), ((g16 0), .inl (cy 1, 20, .inr (.inl (fun _ => 0))))] H := hP
  have hD : va_D A [(h0, .inr (8, [.ref q0, .ref q2, .ref q4, .ref q6, .ref q8, .ref q10, .ref q12, .ref q14, .null])), (q0, .inr (6, [.ref (g1 0), .int 0, .long 0])), ((g1 0), .inl (cy 0, 40, .inl (fun _ => 0))), (q2, .inr (2, [.ref (g3 0), .ref (g3 1), .int 0])), ((g3 0), .inl (cy 0, 12, .inl (fun _ => 0))), ((g3 1), .inl (cy 1, 12, .inr (.inl (fun _ => 0)))), (q4, .inr (0, [.ref (g5 0), .int 0])), ((g5 0), .inl (cy 1, 20, .inr (.inl (fun _ => 0)))), (q6, .inr (1, [.ref (g7 0), .ref (g7 1), .ref (g7 2), .ref (g7 3), .ref (g7 4), .int 0, .int 0, .int 0, .ref (g7 5), .ref (g7 6), .ref (g7 7), .ref (g7 8), .ref (g7 9), .ref (g7 10), .ref (g7 11)])), ((g7 0), .inl (cy 0, 512, .inl (fun _ => 0))), ((g7 1), .inl (cy 0, 512, .inl (fun _ => 0))), ((g7 2), .inl (cy 0, 512, .inl (fun _ => 0))), ((g7 3), .inl (cy 2, 512, .inl (fun _ => 0))), ((g7 4), .inl (cy 0, 12, .inl (fun _ => 0))), ((g7 5), .inl (cy 0, 512, .inl (fun _ => 0))), ((g7 6), .inl (cy 0, 512, .inl (fun _ => 0))), ((g7 7), .inl (cy 2, 512, .inl (fun _ => 0))), ((g7 8), .inl (cy 0, 12, .inl (fun _ => 0))), ((g7 9), .inl (cy 0, 12, .inl (fun _ => 0))), ((g7 10), .inl (cy 0, 12, .inl (fun _ => 0))), ((g7 11), .inl (cy 0, 12, .inl (fun _ => 0))), (q8, .inr (7, [.ref (g9 0), .ref (g9 1), .ref (g9 2), .ref (g9 3), .ref (g9 4), .ref (g9 5)])), ((g9 0), .inl (cy 0, 4, .inl (upd (upd (upd (upd (fun _ => 0) 0 1) 1 2) 2 2) 3 3))), ((g9 1), .inl (cy 0, 25, .inl (fun _ => 0))), ((g9 2), .inl (cy 0, 512, .inl (fun _ => 0))), ((g9 3), .inl (cy 0, 512, .inl (fun _ => 0))), ((g9 4), .inl (cy 2, 512, .inl (fun _ => 0))), ((g9 5), .inl (cy 0, 512, .inl (fun _ => 0))), (q10, .inr (5, [.int 0, .ref (g11 0), .long 0, .int 0])), ((g11 0), .inl (cy 0, 512, .inl (fun _ => 0))), (q12, .inr (3, [.int 0, .int 0, .int 0, .int 0, .long 0, .int 0, .int 0, .int 0])), (q14, .inl (cy 3, 4, .inr (.inr (.inr (.inr (fun _ => none)))))), (q15, .inr (4, [.ref (g16 0), .int (-1), .int 0, .long 0])), ((g16 0), .inl (cy 1, 20, .inr (.inl (fun _ => 0))))] := hD
  refine W.widen (k := 33) (n := 6386) (Nat.le_of_ble_eq_true rfl) (Nat.le_of_ble_eq_true rfl) ?_
  refine va_astq (D := D) hx hb hK hP hD hS 31 3 32 4 rfl rfl rfl rfl (show vp_in (nI 0) 4 from vp_in_nI (by decide) (by decide)) dX9_init_108 (fun H _ hP hD hS => ?_)
  have hP : va_P D clsL [(h0, .inr (8, [.ref q0, .ref q2, .ref q4, .ref q6, .ref q8, .ref q10, .ref q12, .ref q14, .null])), (q0, .inr (6, [.ref (g1 0), .int 0, .long 0])), ((g1 0), .inl (cy 0, 40, .inl (fun _ => 0))), (q2, .inr (2, [.ref (g3 0), .ref (g3 1), .int 0])), ((g3 0), .inl (cy 0, 12, .inl (fun _ => 0))), ((g3 1), .inl (cy 1, 12, .inr (.inl (fun _ => 0)))), (q4, .inr (0, [.ref (g5 0), .int 0])), ((g5 0), .inl (cy 1, 20, .inr (.inl (fun _ => 0)))), (q6, .inr (1, [.ref (g7 0), .ref (g7 1), .ref (g7 2), .ref (g7 3), .ref (g7 4), .int 0, .int 0, .int 0, .ref (g7 5), .ref (g7 6), .ref (g7 7), .ref (g7 8), .ref (g7 9), .ref (g7 10), .ref (g7 11)])), ((g7 0), .inl (cy 0, 512, .inl (fun _ => 0))), ((g7 1), .inl (cy 0, 512, .inl (fun _ => 0))), ((g7 2), .inl (cy 0, 512, .inl (fun _ => 0))), ((g7 3), .inl (cy 2, 512, .inl (fun _ => 0))), ((g7 4), .inl (cy 0, 12, .inl (fun _ => 0))), ((g7 5), .inl (cy 0, 512, .inl (fun _ => 0))), ((g7 6), .inl (cy 0, 512, .inl (fun _ => 0))), ((g7 7), .inl (cy 2, 512, .inl (fun _ => 0))), ((g7 8), .inl (cy 0, 12, .inl (fun _ => 0))), ((g7 9), .inl (cy 0, 12, .inl (fun _ => 0))), ((g7 10), .inl (cy 0, 12, .inl (fun _ => 0))), ((g7 11), .inl (cy 0, 12, .inl (fun _ => 0))), (q8, .inr (7, [.ref (g9 0), .ref (g9 1), .ref (g9 2), .ref (g9 3), .ref (g9 4), .ref (g9 5)])), ((g9 0), .inl (cy 0, 4, .inl (upd (upd (upd (upd (fun _ => 0) 0 1) 1 2) 2 2) 3 3))), ((g9 1), .inl (cy 0, 25, .inl (fun _ => 0))), ((g9 2), .inl (cy 0, 512, .inl (fun _ => 0))), ((g9 3), .inl (cy 0, 512, .inl (fun _ => 0))), ((g9 4), .inl (cy 2, 512, .inl (fun _ => 0))), ((g9 5), .inl (cy 0, 512, .inl (fun _ => 0))), (q10, .inr (5, [.int 0, .ref (g11 0), .long 0, .int 0])), ((g11 0), .inl (cy 0, 512, .inl (fun _ => 0))), (q12, .inr (3, [.int 0, .int 0, .int 0, .int 0, .long 0, .int 0, .int 0, .int 0])), (q14, .inl (cy 3, 4, .inr (.inr (.inr (.inr (va_up (fun _ => none) 0 (some q15))))))), (q15, .inr (4, [.ref (g16 0), .int (-1), .int 0, .long 0])), ((g16 0), .inl (cy 1, 20, .inr (.inl (fun _ => 0))))] H := hP
  have hD : va_D A [(h0, .inr (8, [.ref q0, .ref q2, .ref q4, .ref q6, .ref q8, .ref q10, .ref q12, .ref q14, .null])), (q0, .inr (6, [.ref (g1 0), .int 0, .long 0])), ((g1 0), .inl (cy 0, 40, .inl (fun _ => 0))), (q2, .inr (2, [.ref (g3 0), .ref (g3 1), .int 0])), ((g3 0), .inl (cy 0, 12, .inl (fun _ => 0))), ((g3 1), .inl (cy 1, 12, .inr (.inl (fun _ => 0)))), (q4, .inr (0, [.ref (g5 0), .int 0])), ((g5 0), .inl (cy 1, 20, .inr (.inl (fun _ => 0)))), (q6, .inr (1, [.ref (g7 0), .ref (g7 1), .ref (g7 2), .ref (g7 3), .ref (g7 4), .int 0, .int 0, .int 0, .ref (g7 5), .ref (g7 6), .ref (g7 7), .ref (g7 8), .ref (g7 9), .ref (g7 10), .ref (g7 11)])), ((g7 0), .inl (cy 0, 512, .inl (fun _ => 0))), ((g7 1), .inl (cy 0, 512, .inl (fun _ => 0))), ((g7 2), .inl (cy 0, 512, .inl (fun _ => 0))), ((g7 3), .inl (cy 2, 512, .inl (fun _ => 0))), ((g7 4), .inl (cy 0, 12, .inl (fun _ => 0))), ((g7 5), .inl (cy 0, 512, .inl (fun _ => 0))), ((g7 6), .inl (cy 0, 512, .inl (fun _ => 0))), ((g7 7), .inl (cy 2, 512, .inl (fun _ => 0))), ((g7 8), .inl (cy 0, 12, .inl (fun _ => 0))), ((g7 9), .inl (cy 0, 12, .inl (fun _ => 0))), ((g7 10), .inl (cy 0, 12, .inl (fun _ => 0))), ((g7 11), .inl (cy 0, 12, .inl (fun _ => 0))), (q8, .inr (7, [.ref (g9 0), .ref (g9 1), .ref (g9 2), .ref (g9 3), .ref (g9 4), .ref (g9 5)])), ((g9 0), .inl (cy 0, 4, .inl (upd (upd (upd (upd (fun _ => 0) 0 1) 1 2) 2 2) 3 3))), ((g9 1), .inl (cy 0, 25, .inl (fun _ => 0))), ((g9 2), .inl (cy 0, 512, .inl (fun _ => 0))), ((g9 3), .inl (cy 0, 512, .inl (fun _ => 0))), ((g9 4), .inl (cy 2, 512, .inl (fun _ => 0))), ((g9 5), .inl (cy 0, 512, .inl (fun _ => 0))), (q10, .inr (5, [.int 0, .ref (g11 0), .long 0, .int 0])), ((g11 0), .inl (cy 0, 512, .inl (fun _ => 0))), (q12, .inr (3, [.int 0, .int 0, .int 0, .int 0, .long 0, .int 0, .int 0, .int 0])), (q14, .inl (cy 3, 4, .inr (.inr (.inr (.inr (va_up (fun _ => none) 0 (some q15))))))), (q15, .inr (4, [.ref (g16 0), .int (-1), .int 0, .long 0])), ((g16 0), .inl (cy 1, 20, .inr (.inl (fun _ => 0))))] := hD
  refine lv_iinc (v := 1) (lv' := [(1, .int 1), (0, .ref h0)]) hx hb dX9_init_109 hl (k := 0) rfl (by decide) (by decide) rfl (fun ls hl => ?_)
  refine lv_goto (tgt := 91) hx hb dX9_init_112 (by decide) ?_
  refine lv_iload_n hx hb dX9_init_91 rfl (lv_at hl 0 rfl) ?_
  refine lv_iconst (v := 4) hx hb dX9_init_92 (by decide) ?_
  refine lv_icmp_ge (tgt := 115) hx hb dX9_init_93 (by decide) (fun z => absurd z (by decide)) (fun _ => ?_)
  refine lv_aload_n hx hb dX9_init_96 rfl (lv_at hl 1 rfl) ?_
  refine va_get (D := D) (ci := 8) (v := .ref q14) (C := RX9) (T := TX9) (N := 9) hx hb hts (inW inX9 (by decide +kernel)) hown hK hP 0 rfl rfl 7 (by decide) (hts (.fieldLink RX9 62 "AdderChooser" "shelves" "[LAdderChooser$Shelf;") (inT_mem (by decide +kernel))) (fun _ h9 => h9) rfl dX9_init_97 ?_
  refine lv_iload_n hx hb dX9_init_100 rfl (lv_at hl 0 rfl) ?_
  refine va_new (ci := 4) (fs := [.null, .int 0, .int 0, .long 0]) (C := RX5) (T := TX5) (N := 4) hx hb hts (inW inX5 (by decide +kernel)) tyX5 tyX5_ok hown (hts (.classLink RX9 60 RX5) (inT_mem (by decide +kernel))) (hts (.instantiable RX5 4) (inT_mem (by decide +kernel))) (hts (.initialized RX5) (inT_mem (by decide +kernel))) hK hP hD hS hA rfl (fun j hj => by exact nwfsX5 j hj) (Nat.le_of_ble_eq_true rfl) (Nat.le_of_ble_eq_true rfl) dX9_init_101 (fun q17 H hP hD hS => ?_)
  have hP : va_P D clsL [(h0, .inr (8, [.ref q0, .ref q2, .ref q4, .ref q6, .ref q8, .ref q10, .ref q12, .ref q14, .null])), (q0, .inr (6, [.ref (g1 0), .int 0, .long 0])), ((g1 0), .inl (cy 0, 40, .inl (fun _ => 0))), (q2, .inr (2, [.ref (g3 0), .ref (g3 1), .int 0])), ((g3 0), .inl (cy 0, 12, .inl (fun _ => 0))), ((g3 1), .inl (cy 1, 12, .inr (.inl (fun _ => 0)))), (q4, .inr (0, [.ref (g5 0), .int 0])), ((g5 0), .inl (cy 1, 20, .inr (.inl (fun _ => 0)))), (q6, .inr (1, [.ref (g7 0), .ref (g7 1), .ref (g7 2), .ref (g7 3), .ref (g7 4), .int 0, .int 0, .int 0, .ref (g7 5), .ref (g7 6), .ref (g7 7), .ref (g7 8), .ref (g7 9), .ref (g7 10), .ref (g7 11)])), ((g7 0), .inl (cy 0, 512, .inl (fun _ => 0))), ((g7 1), .inl (cy 0, 512, .inl (fun _ => 0))), ((g7 2), .inl (cy 0, 512, .inl (fun _ => 0))), ((g7 3), .inl (cy 2, 512, .inl (fun _ => 0))), ((g7 4), .inl (cy 0, 12, .inl (fun _ => 0))), ((g7 5), .inl (cy 0, 512, .inl (fun _ => 0))), ((g7 6), .inl (cy 0, 512, .inl (fun _ => 0))), ((g7 7), .inl (cy 2, 512, .inl (fun _ => 0))), ((g7 8), .inl (cy 0, 12, .inl (fun _ => 0))), ((g7 9), .inl (cy 0, 12, .inl (fun _ => 0))), ((g7 10), .inl (cy 0, 12, .inl (fun _ => 0))), ((g7 11), .inl (cy 0, 12, .inl (fun _ => 0))), (q8, .inr (7, [.ref (g9 0), .ref (g9 1), .ref (g9 2), .ref (g9 3), .ref (g9 4), .ref (g9 5)])), ((g9 0), .inl (cy 0, 4, .inl (upd (upd (upd (upd (fun _ => 0) 0 1) 1 2) 2 2) 3 3))), ((g9 1), .inl (cy 0, 25, .inl (fun _ => 0))), ((g9 2), .inl (cy 0, 512, .inl (fun _ => 0))), ((g9 3), .inl (cy 0, 512, .inl (fun _ => 0))), ((g9 4), .inl (cy 2, 512, .inl (fun _ => 0))), ((g9 5), .inl (cy 0, 512, .inl (fun _ => 0))), (q10, .inr (5, [.int 0, .ref (g11 0), .long 0, .int 0])), ((g11 0), .inl (cy 0, 512, .inl (fun _ => 0))), (q12, .inr (3, [.int 0, .int 0, .int 0, .int 0, .long 0, .int 0, .int 0, .int 0])), (q14, .inl (cy 3, 4, .inr (.inr (.inr (.inr (va_up (fun _ => none) 0 (some q15))))))), (q15, .inr (4, [.ref (g16 0), .int (-1), .int 0, .long 0])), ((g16 0), .inl (cy 1, 20, .inr (.inl (fun _ => 0)))), (q17, .inr (4, [.null, .int 0, .int 0, .long 0]))] H := hP
  have hD : va_D A [(h0, .inr (8, [.ref q0, .ref q2, .ref q4, .ref q6, .ref q8, .ref q10, .ref q12, .ref q14, .null])), (q0, .inr (6, [.ref (g1 0), .int 0, .long 0])), ((g1 0), .inl (cy 0, 40, .inl (fun _ => 0))), (q2, .inr (2, [.ref (g3 0), .ref (g3 1), .int 0])), ((g3 0), .inl (cy 0, 12, .inl (fun _ => 0))), ((g3 1), .inl (cy 1, 12, .inr (.inl (fun _ => 0)))), (q4, .inr (0, [.ref (g5 0), .int 0])), ((g5 0), .inl (cy 1, 20, .inr (.inl (fun _ => 0)))), (q6, .inr (1, [.ref (g7 0), .ref (g7 1), .ref (g7 2), .ref (g7 3), .ref (g7 4), .int 0, .int 0, .int 0, .ref (g7 5), .ref (g7 6), .ref (g7 7), .ref (g7 8), .ref (g7 9), .ref (g7 10), .ref (g7 11)])), ((g7 0), .inl (cy 0, 512, .inl (fun _ => 0))), ((g7 1), .inl (cy 0, 512, .inl (fun _ => 0))), ((g7 2), .inl (cy 0, 512, .inl (fun _ => 0))), ((g7 3), .inl (cy 2, 512, .inl (fun _ => 0))), ((g7 4), .inl (cy 0, 12, .inl (fun _ => 0))), ((g7 5), .inl (cy 0, 512, .inl (fun _ => 0))), ((g7 6), .inl (cy 0, 512, .inl (fun _ => 0))), ((g7 7), .inl (cy 2, 512, .inl (fun _ => 0))), ((g7 8), .inl (cy 0, 12, .inl (fun _ => 0))), ((g7 9), .inl (cy 0, 12, .inl (fun _ => 0))), ((g7 10), .inl (cy 0, 12, .inl (fun _ => 0))), ((g7 11), .inl (cy 0, 12, .inl (fun _ => 0))), (q8, .inr (7, [.ref (g9 0), .ref (g9 1), .ref (g9 2), .ref (g9 3), .ref (g9 4), .ref (g9 5)])), ((g9 0), .inl (cy 0, 4, .inl (upd (upd (upd (upd (fun _ => 0) 0 1) 1 2) 2 2) 3 3))), ((g9 1), .inl (cy 0, 25, .inl (fun _ => 0))), ((g9 2), .inl (cy 0, 512, .inl (fun _ => 0))), ((g9 3), .inl (cy 0, 512, .inl (fun _ => 0))), ((g9 4), .inl (cy 2, 512, .inl (fun _ => 0))), ((g9 5), .inl (cy 0, 512, .inl (fun _ => 0))), (q10, .inr (5, [.int 0, .ref (g11 0), .long 0, .int 0])), ((g11 0), .inl (cy 0, 512, .inl (fun _ => 0))), (q12, .inr (3, [.int 0, .int 0, .int 0, .int 0, .long 0, .int 0, .int 0, .int 0])), (q14, .inl (cy 3, 4, .inr (.inr (.inr (.inr (va_up (fun _ => none) 0 (some q15))))))), (q15, .inr (4, [.ref (g16 0), .int (-1), .int 0, .long 0])), ((g16 0), .inl (cy 1, 20, .inr (.inl (fun _ => 0)))), (q17, .inr (4, [.null, .int 0, .int 0, .long 0]))] := hD
  refine W.widen (k := 34) (n := 6390) (Nat.le_of_ble_eq_true rfl) (Nat.le_of_ble_eq_true rfl) ?_
  refine lv_dup hx hb dX9_init_104 rfl ?_
  have hPc := hP.sub (ws' := [(q17, .inr (4, [.null, .int 0, .int 0, .long 0]))]) [34] rfl
  have hDc := hD.sub (ws' := [(q17, .inr (4, [.null, .int 0, .int 0, .long 0]))]) [34] (by decide) rfl
  have hFc := va_free (wc := [(q17, .inr (4, [.null, .int 0, .int 0, .long 0]))]) hD hS hA [34] rfl
  refine va_callv (va_runIN (As := []) (rest := [.ref q17, .int 1, .ref q14]) ⟨hx, hb, hml, hown, hts⟩ (N_X5 l D cy q17 H.size) ⟨va_cnB (bytes := cX5_init) (maxL := 1) 0 hts (gi_wt (ws := wsM yX5_init cX5_init 1 none) (wsM_in (by decide +kernel))) rfl rfl rfl hn66 (hts (.initialized RX5) (inT_mem (by decide +kernel))) ⟨by decide +kernel, by decide +kernel, by decide +kernel⟩ ⟨Nat.le_of_ble_eq_true rfl, Nat.le_of_ble_eq_true rfl⟩, rfl, (hts (.instanceMethod yX5_init) (inT_mem (by decide +kernel)))⟩ ⟨PcN_blind, fun U hU hW => ⟨rfl, by rw [hU], by rw [hU]; exact hPc, va_K.moved hW.alike hK, hDc.weaken (fun _ _ _ _ => trivial)⟩⟩ rfl rfl hl.1 rfl (lv_room (Nat.le_of_ble_eq_true rfl)) dX9_init_105 ⟨Nat.le_of_ble_eq_true rfl, Nat.le_of_ble_eq_true rfl⟩) hS (fun q _ h => hFc q h) hFc (fun g18 t H1 locs ht hvm _ hB hz1 hk1 hS => ?_)
  obtain ⟨hP1, hK1, hD1⟩ := hB
  rw [ht] at hP1
  obtain ⟨hP, hD⟩ := va_join (wr := [(h0, .inr (8, [.ref q0, .ref q2, .ref q4, .ref q6, .ref q8, .ref q10, .ref q12, .ref q14, .null])), (q0, .inr (6, [.ref (g1 0), .int 0, .long 0])), ((g1 0), .inl (cy 0, 40, .inl (fun _ => 0))), (q2, .inr (2, [.ref (g3 0), .ref (g3 1), .int 0])), ((g3 0), .inl (cy 0, 12, .inl (fun _ => 0))), ((g3 1), .inl (cy 1, 12, .inr (.inl (fun _ => 0)))), (q4, .inr (0, [.ref (g5 0), .int 0])), ((g5 0), .inl (cy 1, 20, .inr (.inl (fun _ => 0)))), (q6, .inr (1, [.ref (g7 0), .ref (g7 1), .ref (g7 2), .ref (g7 3), .ref (g7 4), .int 0, .int 0, .int 0, .ref (g7 5), .ref (g7 6), .ref (g7 7), .ref (g7 8), .ref (g7 9), .ref (g7 10), .ref (g7 11)])), ((g7 0), .inl (cy 0, 512, .inl (fun _ => 0))), ((g7 1), .inl (cy 0, 512, .inl (fun _ => 0))), ((g7 2), .inl (cy 0, 512, .inl (fun _ => 0))), ((g7 3), .inl (cy 2, 512, .inl (fun _ => 0))), ((g7 4), .inl (cy 0, 12, .inl (fun _ => 0))), ((g7 5), .inl (cy 0, 512, .inl (fun _ => 0))), ((g7 6), .inl (cy 0, 512, .inl (fun _ => 0))), ((g7 7), .inl (cy 2, 512, .inl (fun _ => 0))), ((g7 8), .inl (cy 0, 12, .inl (fun _ => 0))), ((g7 9), .inl (cy 0, 12, .inl (fun _ => 0))), ((g7 10), .inl (cy 0, 12, .inl (fun _ => 0))), ((g7 11), .inl (cy 0, 12, .inl (fun _ => 0))), (q8, .inr (7, [.ref (g9 0), .ref (g9 1), .ref (g9 2), .ref (g9 3), .ref (g9 4), .ref (g9 5)])), ((g9 0), .inl (cy 0, 4, .inl (upd (upd (upd (upd (fun _ => 0) 0 1) 1 2) 2 2) 3 3))), ((g9 1), .inl (cy 0, 25, .inl (fun _ => 0))), ((g9 2), .inl (cy 0, 512, .inl (fun _ => 0))), ((g9 3), .inl (cy 0, 512, .inl (fun _ => 0))), ((g9 4), .inl (cy 2, 512, .inl (fun _ => 0))), ((g9 5), .inl (cy 0, 512, .inl (fun _ => 0))), (q10, .inr (5, [.int 0, .ref (g11 0), .long 0, .int 0])), ((g11 0), .inl (cy 0, 512, .inl (fun _ => 0))), (q12, .inr (3, [.int 0, .int 0, .int 0, .int 0, .long 0, .int 0, .int 0, .int 0])), (q14, .inl (cy 3, 4, .inr (.inr (.inr (.inr (va_up (fun _ => none) 0 (some q15))))))), (q15, .inr (4, [.ref (g16 0), .int (-1), .int 0, .long 0])), ((g16 0), .inl (cy 1, 20, .inr (.inl (fun _ => 0))))]) (w1 := [(q17, .inr (4, [.ref (g18 0), .int (-1), .int 0, .long 0])), ((g18 0), .inl (cy 1, 20, .inr (.inl (fun _ => 0))))]) hP hD [34] [0, 1, 2, 3, 4, 5, 6, 7, 8, 9, 10, 11, 12, 13, 14, 15, 16, 17, 18, 19, 20, 21, 22, 23, 24, 25, 26, 27, 28, 29, 30, 31, 32, 33] rfl rfl (by decide) (by decide) hk1 hFc hP1 hD1
  generalize H1 = H at hP hS ⊢
  have hP : va_P D clsL [(h0, .inr (8, [.ref q0, .ref q2, .ref q4, .ref q6, .ref q8, .ref q10, .ref q12, .ref q14, .null])), (q0, .inr (6, [.ref (g1 0), .int 0, .long 0])), ((g1 0), .inl (cy 0, 40, .inl (fun _ => 0))), (q2, .inr (2, [.ref (g3 0), .ref (g3 1), .int 0])), ((g3 0), .inl (cy 0, 12, .inl (fun _ => 0))), ((g3 1), .inl (cy 1, 12, .inr (.inl (fun _ => 0)))), (q4, .inr (0, [.ref (g5 0), .int 0])), ((g5 0), .inl (cy 1, 20, .inr (.inl (fun _ => 0)))), (q6, .inr (1, [.ref (g7 0), .ref (g7 1), .ref (g7 2), .ref (g7 3), .ref (g7 4), .int 0, .int 0, .int 0, .ref (g7 5), .ref (g7 6), .ref (g7 7), .ref (g7 8), .ref (g7 9), .ref (g7 10), .ref (g7 11)])), ((g7 0), .inl (cy 0, 512, .inl (fun _ => 0))), ((g7 1), .inl (cy 0, 512, .inl (fun _ => 0))), ((g7 2), .inl (cy 0, 512, .inl (fun _ => 0))), ((g7 3), .inl (cy 2, 512, .inl (fun _ => 0))), ((g7 4), .inl (cy 0, 12, .inl (fun _ => 0))), ((g7 5), .inl (cy 0, 512, .inl (fun _ => 0))), ((g7 6), .inl (cy 0, 512, .inl (fun _ => 0))), ((g7 7), .inl (cy 2, 512, .inl (fun _ => 0))), ((g7 8), .inl (cy 0, 12, .inl (fun _ => 0))), ((g7 9), .inl (cy 0, 12, .inl (fun _ => 0))), ((g7 10), .inl (cy 0, 12, .inl (fun _ => 0))), ((g7 11), .inl (cy 0, 12, .inl (fun _ => 0))), (q8, .inr (7, [.ref (g9 0), .ref (g9 1), .ref (g9 2), .ref (g9 3), .ref (g9 4), .ref (g9 5)])), ((g9 0), .inl (cy 0, 4, .inl (upd (upd (upd (upd (fun _ => 0) 0 1) 1 2) 2 2) 3 3))), ((g9 1), .inl (cy 0, 25, .inl (fun _ => 0))), ((g9 2), .inl (cy 0, 512, .inl (fun _ => 0))), ((g9 3), .inl (cy 0, 512, .inl (fun _ => 0))), ((g9 4), .inl (cy 2, 512, .inl (fun _ => 0))), ((g9 5), .inl (cy 0, 512, .inl (fun _ => 0))), (q10, .inr (5, [.int 0, .ref (g11 0), .long 0, .int 0])), ((g11 0), .inl (cy 0, 512, .inl (fun _ => 0))), (q12, .inr (3, [.int 0, .int 0, .int 0, .int 0, .long 0, .int 0, .int 0, .int 0])), (q14, .inl (cy 3, 4, .inr (.inr (.inr (.inr (va_up (fun _ => none) 0 (some q15))))))), (q15, .inr (4, [.ref (g16 0), .int (-1), .int 0, .long 0])), ((g16 0), .inl (cy 1, 20, .inr (.inl (fun _ => 0)))), (q17, .inr (4, [.ref (g18 0), .int (-1), .int 0, .long 0])), ((g18 0), .inl (cy 1, 20, .inr (.inl (fun _ => 0))))] H := hP
  have hD : va_D A [(h0, .inr (8, [.ref q0, .ref q2, .ref q4, .ref q6, .ref q8, .ref q10, .ref q12, .ref q14, .null])), (q0, .inr (6, [.ref (g1 0), .int 0, .long 0])), ((g1 0), .inl (cy 0, 40, .inl (fun _ => 0))), (q2, .inr (2, [.ref (g3 0), .ref (g3 1), .int 0])), ((g3 0), .inl (cy 0, 12, .inl (fun _ => 0))), ((g3 1), .inl (cy 1, 12, .inr (.inl (fun _ => 0)))), (q4, .inr (0, [.ref (g5 0), .int 0])), ((g5 0), .inl (cy 1, 20, .inr (.inl (fun _ => 0)))), (q6, .inr (1, [.ref (g7 0), .ref (g7 1), .ref (g7 2), .ref (g7 3), .ref (g7 4), .int 0, .int 0, .int 0, .ref (g7 5), .ref (g7 6), .ref (g7 7), .ref (g7 8), .ref (g7 9), .ref (g7 10), .ref (g7 11)])), ((g7 0), .inl (cy 0, 512, .inl (fun _ => 0))), ((g7 1), .inl (cy 0, 512, .inl (fun _ => 0))), ((g7 2), .inl (cy 0, 512, .inl (fun _ => 0))), ((g7 3), .inl (cy 2, 512, .inl (fun _ => 0))), ((g7 4), .inl (cy 0, 12, .inl (fun _ => 0))), ((g7 5), .inl (cy 0, 512, .inl (fun _ => 0))), ((g7 6), .inl (cy 0, 512, .inl (fun _ => 0))), ((g7 7), .inl (cy 2, 512, .inl (fun _ => 0))), ((g7 8), .inl (cy 0, 12, .inl (fun _ => 0))), ((g7 9), .inl (cy 0, 12, .inl (fun _ => 0))), ((g7 10), .inl (cy 0, 12, .inl (fun _ => 0))), ((g7 11), .inl (cy 0, 12, .inl (fun _ => 0))), (q8, .inr (7, [.ref (g9 0), .ref (g9 1), .ref (g9 2), .ref (g9 3), .ref (g9 4), .ref (g9 5)])), ((g9 0), .inl (cy 0, 4, .inl (upd (upd (upd (upd (fun _ => 0) 0 1) 1 2) 2 2) 3 3))), ((g9 1), .inl (cy 0, 25, .inl (fun _ => 0))), ((g9 2), .inl (cy 0, 512, .inl (fun _ => 0))), ((g9 3), .inl (cy 0, 512, .inl (fun _ => 0))), ((g9 4), .inl (cy 2, 512, .inl (fun _ => 0))), ((g9 5), .inl (cy 0, 512, .inl (fun _ => 0))), (q10, .inr (5, [.int 0, .ref (g11 0), .long 0, .int 0])), ((g11 0), .inl (cy 0, 512, .inl (fun _ => 0))), (q12, .inr (3, [.int 0, .int 0, .int 0, .int 0, .long 0, .int 0, .int 0, .int 0])), (q14, .inl (cy 3, 4, .inr (.inr (.inr (.inr (va_up (fun _ => none) 0 (some q15))))))), (q15, .inr (4, [.ref (g16 0), .int (-1), .int 0, .long 0])), ((g16 0), .inl (cy 1, 20, .inr (.inl (fun _ => 0)))), (q17, .inr (4, [.ref (g18 0), .int (-1), .int 0, .long 0])), ((g18 0), .inl (cy 1, 20, .inr (.inl (fun _ => 0))))] := hD
  refine W.widen (k := 35) (n := 6410) (Nat.le_of_ble_eq_true rfl) (Nat.le_of_ble_eq_true rfl) ?_
  refine va_astq (D := D) hx hb hK hP hD hS 31 3 34 4 rfl rfl rfl rfl (show vp_in (nI 1) 4 from vp_in_nI (by decide) (by decide)) dX9_init_108 (fun H _ hP hD hS => ?_)
  have hP : va_P D clsL [(h0, .inr (8, [.ref q0, .ref q2, .ref q4, .ref q6, .ref q8, .ref q10, .ref q12, .ref q14, .null])), (q0, .inr (6, [.ref (g1 0), .int 0, .long 0])), ((g1 0), .inl (cy 0, 40, .inl (fun _ => 0))), (q2, .inr (2, [.ref (g3 0), .ref (g3 1), .int 0])), ((g3 0), .inl (cy 0, 12, .inl (fun _ => 0))), ((g3 1), .inl (cy 1, 12, .inr (.inl (fun _ => 0)))), (q4, .inr (0, [.ref (g5 0), .int 0])), ((g5 0), .inl (cy 1, 20, .inr (.inl (fun _ => 0)))), (q6, .inr (1, [.ref (g7 0), .ref (g7 1), .ref (g7 2), .ref (g7 3), .ref (g7 4), .int 0, .int 0, .int 0, .ref (g7 5), .ref (g7 6), .ref (g7 7), .ref (g7 8), .ref (g7 9), .ref (g7 10), .ref (g7 11)])), ((g7 0), .inl (cy 0, 512, .inl (fun _ => 0))), ((g7 1), .inl (cy 0, 512, .inl (fun _ => 0))), ((g7 2), .inl (cy 0, 512, .inl (fun _ => 0))), ((g7 3), .inl (cy 2, 512, .inl (fun _ => 0))), ((g7 4), .inl (cy 0, 12, .inl (fun _ => 0))), ((g7 5), .inl (cy 0, 512, .inl (fun _ => 0))), ((g7 6), .inl (cy 0, 512, .inl (fun _ => 0))), ((g7 7), .inl (cy 2, 512, .inl (fun _ => 0))), ((g7 8), .inl (cy 0, 12, .inl (fun _ => 0))), ((g7 9), .inl (cy 0, 12, .inl (fun _ => 0))), ((g7 10), .inl (cy 0, 12, .inl (fun _ => 0))), ((g7 11), .inl (cy 0, 12, .inl (fun _ => 0))), (q8, .inr (7, [.ref (g9 0), .ref (g9 1), .ref (g9 2), .ref (g9 3), .ref (g9 4), .ref (g9 5)])), ((g9 0), .inl (cy 0, 4, .inl (upd (upd (upd (upd (fun _ => 0) 0 1) 1 2) 2 2) 3 3))), ((g9 1), .inl (cy 0, 25, .inl (fun _ => 0))), ((g9 2), .inl (cy 0, 512, .inl (fun _ => 0))), ((g9 3), .inl (cy 0, 512, .inl (fun _ => 0))), ((g9 4), .inl (cy 2, 512, .inl (fun _ => 0))), ((g9 5), .inl (cy 0, 512, .inl (fun _ => 0))), (q10, .inr (5, [.int 0, .ref (g11 0), .long 0, .int 0])), ((g11 0), .inl (cy 0, 512, .inl (fun _ => 0))), (q12, .inr (3, [.int 0, .int 0, .int 0, .int 0, .long 0, .int 0, .int 0, .int 0])), (q14, .inl (cy 3, 4, .inr (.inr (.inr (.inr (va_up (va_up (fun _ => none) 0 (some q15)) 1 (some q17))))))), (q15, .inr (4, [.ref (g16 0), .int (-1), .int 0, .long 0])), ((g16 0), .inl (cy 1, 20, .inr (.inl (fun _ => 0)))), (q17, .inr (4, [.ref (g18 0), .int (-1), .int 0, .long 0])), ((g18 0), .inl (cy 1, 20, .inr (.inl (fun _ => 0))))] H := hP
  have hD : va_D A [(h0, .inr (8, [.ref q0, .ref q2, .ref q4, .ref q6, .ref q8, .ref q10, .ref q12, .ref q14, .null])), (q0, .inr (6, [.ref (g1 0), .int 0, .long 0])), ((g1 0), .inl (cy 0, 40, .inl (fun _ => 0))), (q2, .inr (2, [.ref (g3 0), .ref (g3 1), .int 0])), ((g3 0), .inl (cy 0, 12, .inl (fun _ => 0))), ((g3 1), .inl (cy 1, 12, .inr (.inl (fun _ => 0)))), (q4, .inr (0, [.ref (g5 0), .int 0])), ((g5 0), .inl (cy 1, 20, .inr (.inl (fun _ => 0)))), (q6, .inr (1, [.ref (g7 0), .ref (g7 1), .ref (g7 2), .ref (g7 3), .ref (g7 4), .int 0, .int 0, .int 0, .ref (g7 5), .ref (g7 6), .ref (g7 7), .ref (g7 8), .ref (g7 9), .ref (g7 10), .ref (g7 11)])), ((g7 0), .inl (cy 0, 512, .inl (fun _ => 0))), ((g7 1), .inl (cy 0, 512, .inl (fun _ => 0))), ((g7 2), .inl (cy 0, 512, .inl (fun _ => 0))), ((g7 3), .inl (cy 2, 512, .inl (fun _ => 0))), ((g7 4), .inl (cy 0, 12, .inl (fun _ => 0))), ((g7 5), .inl (cy 0, 512, .inl (fun _ => 0))), ((g7 6), .inl (cy 0, 512, .inl (fun _ => 0))), ((g7 7), .inl (cy 2, 512, .inl (fun _ => 0))), ((g7 8), .inl (cy 0, 12, .inl (fun _ => 0))), ((g7 9), .inl (cy 0, 12, .inl (fun _ => 0))), ((g7 10), .inl (cy 0, 12, .inl (fun _ => 0))), ((g7 11), .inl (cy 0, 12, .inl (fun _ => 0))), (q8, .inr (7, [.ref (g9 0), .ref (g9 1), .ref (g9 2), .ref (g9 3), .ref (g9 4), .ref (g9 5)])), ((g9 0), .inl (cy 0, 4, .inl (upd (upd (upd (upd (fun _ => 0) 0 1) 1 2) 2 2) 3 3))), ((g9 1), .inl (cy 0, 25, .inl (fun _ => 0))), ((g9 2), .inl (cy 0, 512, .inl (fun _ => 0))), ((g9 3), .inl (cy 0, 512, .inl (fun _ => 0))), ((g9 4), .inl (cy 2, 512, .inl (fun _ => 0))), ((g9 5), .inl (cy 0, 512, .inl (fun _ => 0))), (q10, .inr (5, [.int 0, .ref (g11 0), .long 0, .int 0])), ((g11 0), .inl (cy 0, 512, .inl (fun _ => 0))), (q12, .inr (3, [.int 0, .int 0, .int 0, .int 0, .long 0, .int 0, .int 0, .int 0])), (q14, .inl (cy 3, 4, .inr (.inr (.inr (.inr (va_up (va_up (fun _ => none) 0 (some q15)) 1 (some q17))))))), (q15, .inr (4, [.ref (g16 0), .int (-1), .int 0, .long 0])), ((g16 0), .inl (cy 1, 20, .inr (.inl (fun _ => 0)))), (q17, .inr (4, [.ref (g18 0), .int (-1), .int 0, .long 0])), ((g18 0), .inl (cy 1, 20, .inr (.inl (fun _ => 0))))] := hD
  refine lv_iinc (v := 2) (lv' := [(1, .int 2), (0, .ref h0)]) hx hb dX9_init_109 hl (k := 0) rfl (by decide) (by decide) rfl (fun ls hl => ?_)
  refine lv_goto (tgt := 91) hx hb dX9_init_112 (by decide) ?_
  refine lv_iload_n hx hb dX9_init_91 rfl (lv_at hl 0 rfl) ?_
  refine lv_iconst (v := 4) hx hb dX9_init_92 (by decide) ?_
  refine lv_icmp_ge (tgt := 115) hx hb dX9_init_93 (by decide) (fun z => absurd z (by decide)) (fun _ => ?_)
  refine lv_aload_n hx hb dX9_init_96 rfl (lv_at hl 1 rfl) ?_
  refine va_get (D := D) (ci := 8) (v := .ref q14) (C := RX9) (T := TX9) (N := 9) hx hb hts (inW inX9 (by decide +kernel)) hown hK hP 0 rfl rfl 7 (by decide) (hts (.fieldLink RX9 62 "AdderChooser" "shelves" "[LAdderChooser$Shelf;") (inT_mem (by decide +kernel))) (fun _ h9 => h9) rfl dX9_init_97 ?_
  refine lv_iload_n hx hb dX9_init_100 rfl (lv_at hl 0 rfl) ?_
  refine va_new (ci := 4) (fs := [.null, .int 0, .int 0, .long 0]) (C := RX5) (T := TX5) (N := 4) hx hb hts (inW inX5 (by decide +kernel)) tyX5 tyX5_ok hown (hts (.classLink RX9 60 RX5) (inT_mem (by decide +kernel))) (hts (.instantiable RX5 4) (inT_mem (by decide +kernel))) (hts (.initialized RX5) (inT_mem (by decide +kernel))) hK hP hD hS hA rfl (fun j hj => by exact nwfsX5 j hj) (Nat.le_of_ble_eq_true rfl) (Nat.le_of_ble_eq_true rfl) dX9_init_101 (fun q19 H hP hD hS => ?_)
  have hP : va_P D clsL [(h0, .inr (8, [.ref q0, .ref q2, .ref q4, .ref q6, .ref q8, .ref q10, .ref q12, .ref q14, .null])), (q0, .inr (6, [.ref (g1 0), .int 0, .long 0])), ((g1 0), .inl (cy 0, 40, .inl (fun _ => 0))), (q2, .inr (2, [.ref (g3 0), .ref (g3 1), .int 0])), ((g3 0), .inl (cy 0, 12, .inl (fun _ => 0))), ((g3 1), .inl (cy 1, 12, .inr (.inl (fun _ => 0)))), (q4, .inr (0, [.ref (g5 0), .int 0])), ((g5 0), .inl (cy 1, 20, .inr (.inl (fun _ => 0)))), (q6, .inr (1, [.ref (g7 0), .ref (g7 1), .ref (g7 2), .ref (g7 3), .ref (g7 4), .int 0, .int 0, .int 0, .ref (g7 5), .ref (g7 6), .ref (g7 7), .ref (g7 8), .ref (g7 9), .ref (g7 10), .ref (g7 11)])), ((g7 0), .inl (cy 0, 512, .inl (fun _ => 0))), ((g7 1), .inl (cy 0, 512, .inl (fun _ => 0))), ((g7 2), .inl (cy 0, 512, .inl (fun _ => 0))), ((g7 3), .inl (cy 2, 512, .inl (fun _ => 0))), ((g7 4), .inl (cy 0, 12, .inl (fun _ => 0))), ((g7 5), .inl (cy 0, 512, .inl (fun _ => 0))), ((g7 6), .inl (cy 0, 512, .inl (fun _ => 0))), ((g7 7), .inl (cy 2, 512, .inl (fun _ => 0))), ((g7 8), .inl (cy 0, 12, .inl (fun _ => 0))), ((g7 9), .inl (cy 0, 12, .inl (fun _ => 0))), ((g7 10), .inl (cy 0, 12, .inl (fun _ => 0))), ((g7 11), .inl (cy 0, 12, .inl (fun _ => 0))), (q8, .inr (7, [.ref (g9 0), .ref (g9 1), .ref (g9 2), .ref (g9 3), .ref (g9 4), .ref (g9 5)])), ((g9 0), .inl (cy 0, 4, .inl (upd (upd (upd (upd (fun _ => 0) 0 1) 1 2) 2 2) 3 3))), ((g9 1), .inl (cy 0, 25, .inl (fun _ => 0))), ((g9 2), .inl (cy 0, 512, .inl (fun _ => 0))), ((g9 3), .inl (cy 0, 512, .inl (fun _ => 0))), ((g9 4), .inl (cy 2, 512, .inl (fun _ => 0))), ((g9 5), .inl (cy 0, 512, .inl (fun _ => 0))), (q10, .inr (5, [.int 0, .ref (g11 0), .long 0, .int 0])), ((g11 0), .inl (cy 0, 512, .inl (fun _ => 0))), (q12, .inr (3, [.int 0, .int 0, .int 0, .int 0, .long 0, .int 0, .int 0, .int 0])), (q14, .inl (cy 3, 4, .inr (.inr (.inr (.inr (va_up (va_up (fun _ => none) 0 (some q15)) 1 (some q17))))))), (q15, .inr (4, [.ref (g16 0), .int (-1), .int 0, .long 0])), ((g16 0), .inl (cy 1, 20, .inr (.inl (fun _ => 0)))), (q17, .inr (4, [.ref (g18 0), .int (-1), .int 0, .long 0])), ((g18 0), .inl (cy 1, 20, .inr (.inl (fun _ => 0)))), (q19, .inr (4, [.null, .int 0, .int 0, .long 0]))] H := hP
  have hD : va_D A [(h0, .inr (8, [.ref q0, .ref q2, .ref q4, .ref q6, .ref q8, .ref q10, .ref q12, .ref q14, .null])), (q0, .inr (6, [.ref (g1 0), .int 0, .long 0])), ((g1 0), .inl (cy 0, 40, .inl (fun _ => 0))), (q2, .inr (2, [.ref (g3 0), .ref (g3 1), .int 0])), ((g3 0), .inl (cy 0, 12, .inl (fun _ => 0))), ((g3 1), .inl (cy 1, 12, .inr (.inl (fun _ => 0)))), (q4, .inr (0, [.ref (g5 0), .int 0])), ((g5 0), .inl (cy 1, 20, .inr (.inl (fun _ => 0)))), (q6, .inr (1, [.ref (g7 0), .ref (g7 1), .ref (g7 2), .ref (g7 3), .ref (g7 4), .int 0, .int 0, .int 0, .ref (g7 5), .ref (g7 6), .ref (g7 7), .ref (g7 8), .ref (g7 9), .ref (g7 10), .ref (g7 11)])), ((g7 0), .inl (cy 0, 512, .inl (fun _ => 0))), ((g7 1), .inl (cy 0, 512, .inl (fun _ => 0))), ((g7 2), .inl (cy 0, 512, .inl (fun _ => 0))), ((g7 3), .inl (cy 2, 512, .inl (fun _ => 0))), ((g7 4), .inl (cy 0, 12, .inl (fun _ => 0))), ((g7 5), .inl (cy 0, 512, .inl (fun _ => 0))), ((g7 6), .inl (cy 0, 512, .inl (fun _ => 0))), ((g7 7), .inl (cy 2, 512, .inl (fun _ => 0))), ((g7 8), .inl (cy 0, 12, .inl (fun _ => 0))), ((g7 9), .inl (cy 0, 12, .inl (fun _ => 0))), ((g7 10), .inl (cy 0, 12, .inl (fun _ => 0))), ((g7 11), .inl (cy 0, 12, .inl (fun _ => 0))), (q8, .inr (7, [.ref (g9 0), .ref (g9 1), .ref (g9 2), .ref (g9 3), .ref (g9 4), .ref (g9 5)])), ((g9 0), .inl (cy 0, 4, .inl (upd (upd (upd (upd (fun _ => 0) 0 1) 1 2) 2 2) 3 3))), ((g9 1), .inl (cy 0, 25, .inl (fun _ => 0))), ((g9 2), .inl (cy 0, 512, .inl (fun _ => 0))), ((g9 3), .inl (cy 0, 512, .inl (fun _ => 0))), ((g9 4), .inl (cy 2, 512, .inl (fun _ => 0))), ((g9 5), .inl (cy 0, 512, .inl (fun _ => 0))), (q10, .inr (5, [.int 0, .ref (g11 0), .long 0, .int 0])), ((g11 0), .inl (cy 0, 512, .inl (fun _ => 0))), (q12, .inr (3, [.int 0, .int 0, .int 0, .int 0, .long 0, .int 0, .int 0, .int 0])), (q14, .inl (cy 3, 4, .inr (.inr (.inr (.inr (va_up (va_up (fun _ => none) 0 (some q15)) 1 (some q17))))))), (q15, .inr (4, [.ref (g16 0), .int (-1), .int 0, .long 0])), ((g16 0), .inl (cy 1, 20, .inr (.inl (fun _ => 0)))), (q17, .inr (4, [.ref (g18 0), .int (-1), .int 0, .long 0])), ((g18 0), .inl (cy 1, 20, .inr (.inl (fun _ => 0)))), (q19, .inr (4, [.null, .int 0, .int 0, .long 0]))] := hD
  refine W.widen (k := 36) (n := 6414) (Nat.le_of_ble_eq_true rfl) (Nat.le_of_ble_eq_true rfl) ?_
  refine lv_dup hx hb dX9_init_104 rfl ?_
  have hPc := hP.sub (ws' := [(q19, .inr (4, [.null, .int 0, .int 0, .long 0]))]) [36] rfl
  have hDc := hD.sub (ws' := [(q19, .inr (4, [.null, .int 0, .int 0, .long 0]))]) [36] (by decide) rfl
  have hFc := va_free (wc := [(q19, .inr (4, [.null, .int 0, .int 0, .long 0]))]) hD hS hA [36] rfl
  refine va_callv (va_runIN (As := []) (rest := [.ref q19, .int 2, .ref q14]) ⟨hx, hb, hml, hown, hts⟩ (N_X5 l D cy q19 H.size) ⟨va_cnB (bytes := cX5_init) (maxL := 1) 0 hts (gi_wt (ws := wsM yX5_init cX5_init 1 none) (wsM_in (by decide +kernel))) rfl rfl rfl hn66 (hts (.initialized RX5) (inT_mem (by decide +kernel))) ⟨by decide +kernel, by decide +kernel, by decide +kernel⟩ ⟨Nat.le_of_ble_eq_true rfl, Nat.le_of_ble_eq_true rfl⟩, rfl, (hts (.instanceMethod yX5_init) (inT_mem (by decide +kernel)))⟩ ⟨PcN_blind, fun U hU hW => ⟨rfl, by rw [hU], by rw [hU]; exact hPc, va_K.moved hW.alike hK, hDc.weaken (fun _ _ _ _ => trivial)⟩⟩ rfl rfl hl.1 rfl (lv_room (Nat.le_of_ble_eq_true rfl)) dX9_init_105 ⟨Nat.le_of_ble_eq_true rfl, Nat.le_of_ble_eq_true rfl⟩) hS (fun q _ h => hFc q h) hFc (fun g20 t H1 locs ht hvm _ hB hz1 hk1 hS => ?_)
  obtain ⟨hP1, hK1, hD1⟩ := hB
  rw [ht] at hP1
  obtain ⟨hP, hD⟩ := va_join (wr := [(h0, .inr (8, [.ref q0, .ref q2, .ref q4, .ref q6, .ref q8, .ref q10, .ref q12, .ref q14, .null])), (q0, .inr (6, [.ref (g1 0), .int 0, .long 0])), ((g1 0), .inl (cy 0, 40, .inl (fun _ => 0))), (q2, .inr (2, [.ref (g3 0), .ref (g3 1), .int 0])), ((g3 0), .inl (cy 0, 12, .inl (fun _ => 0))), ((g3 1), .inl (cy 1, 12, .inr (.inl (fun _ => 0)))), (q4, .inr (0, [.ref (g5 0), .int 0])), ((g5 0), .inl (cy 1, 20, .inr (.inl (fun _ => 0)))), (q6, .inr (1, [.ref (g7 0), .ref (g7 1), .ref (g7 2), .ref (g7 3), .ref (g7 4), .int 0, .int 0, .int 0, .ref (g7 5), .ref (g7 6), .ref (g7 7), .ref (g7 8), .ref (g7 9), .ref (g7 10), .ref (g7 11)])), ((g7 0), .inl (cy 0, 512, .inl (fun _ => 0))), ((g7 1), .inl (cy 0, 512, .inl (fun _ => 0))), ((g7 2), .inl (cy 0, 512, .inl (fun _ => 0))), ((g7 3), .inl (cy 2, 512, .inl (fun _ => 0))), ((g7 4), .inl (cy 0, 12, .inl (fun _ => 0))), ((g7 5), .inl (cy 0, 512, .inl (fun _ => 0))), ((g7 6), .inl (cy 0, 512, .inl (fun _ => 0))), ((g7 7), .inl (cy 2, 512, .inl (fun _ => 0))), ((g7 8), .inl (cy 0, 12, .inl (fun _ => 0))), ((g7 9), .inl (cy 0, 12, .inl (fun _ => 0))), ((g7 10), .inl (cy 0, 12, .inl (fun _ => 0))), ((g7 11), .inl (cy 0, 12, .inl (fun _ => 0))), (q8, .inr (7, [.ref (g9 0), .ref (g9 1), .ref (g9 2), .ref (g9 3), .ref (g9 4), .ref (g9 5)])), ((g9 0), .inl (cy 0, 4, .inl (upd (upd (upd (upd (fun _ => 0) 0 1) 1 2) 2 2) 3 3))), ((g9 1), .inl (cy 0, 25, .inl (fun _ => 0))), ((g9 2), .inl (cy 0, 512, .inl (fun _ => 0))), ((g9 3), .inl (cy 0, 512, .inl (fun _ => 0))), ((g9 4), .inl (cy 2, 512, .inl (fun _ => 0))), ((g9 5), .inl (cy 0, 512, .inl (fun _ => 0))), (q10, .inr (5, [.int 0, .ref (g11 0), .long 0, .int 0])), ((g11 0), .inl (cy 0, 512, .inl (fun _ => 0))), (q12, .inr (3, [.int 0, .int 0, .int 0, .int 0, .long 0, .int 0, .int 0, .int 0])), (q14, .inl (cy 3, 4, .inr (.inr (.inr (.inr (va_up (va_up (fun _ => none) 0 (some q15)) 1 (some q17))))))), (q15, .inr (4, [.ref (g16 0), .int (-1), .int 0, .long 0])), ((g16 0), .inl (cy 1, 20, .inr (.inl (fun _ => 0)))), (q17, .inr (4, [.ref (g18 0), .int (-1), .int 0, .long 0])), ((g18 0), .inl (cy 1, 20, .inr (.inl (fun _ => 0))))]) (w1 := [(q19, .inr (4, [.ref (g20 0), .int (-1), .int 0, .long 0])), ((g20 0), .inl (cy 1, 20, .inr (.inl (fun _ => 0))))]) hP hD [36] [0, 1, 2, 3, 4, 5, 6, 7, 8, 9, 10, 11, 12, 13, 14, 15, 16, 17, 18, 19, 20, 21, 22, 23, 24, 25, 26, 27, 28, 29, 30, 31, 32, 33, 34, 35] rfl rfl (by decide) (by decide) hk1 hFc hP1 hD1
  generalize H1 = H at hP hS ⊢
  have hP : va_P D clsL [(h0, .inr (8, [.ref q0, .ref q2, .ref q4, .ref q6, .ref q8, .ref q10, .ref q12, .ref q14, .null])), (q0, .inr (6, [.ref (g1 0), .int 0, .long 0])), ((g1 0), .inl (cy 0, 40, .inl (fun _ => 0))), (q2, .inr (2, [.ref (g3 0), .ref (g3 1), .int 0])), ((g3 0), .inl (cy 0, 12, .inl (fun _ => 0))), ((g3 1), .inl (cy 1, 12, .inr (.inl (fun _ => 0)))), (q4, .inr (0, [.ref (g5 0), .int 0])), ((g5 0), .inl (cy 1, 20, .inr (.inl (fun _ => 0)))), (q6, .inr (1, [.ref (g7 0), .ref (g7 1), .ref (g7 2), .ref (g7 3), .ref (g7 4), .int 0, .int 0, .int 0, .ref (g7 5), .ref (g7 6), .ref (g7 7), .ref (g7 8), .ref (g7 9), .ref (g7 10), .ref (g7 11)])), ((g7 0), .inl (cy 0, 512, .inl (fun _ => 0))), ((g7 1), .inl (cy 0, 512, .inl (fun _ => 0))), ((g7 2), .inl (cy 0, 512, .inl (fun _ => 0))), ((g7 3), .inl (cy 2, 512, .inl (fun _ => 0))), ((g7 4), .inl (cy 0, 12, .inl (fun _ => 0))), ((g7 5), .inl (cy 0, 512, .inl (fun _ => 0))), ((g7 6), .inl (cy 0, 512, .inl (fun _ => 0))), ((g7 7), .inl (cy 2, 512, .inl (fun _ => 0))), ((g7 8), .inl (cy 0, 12, .inl (fun _ => 0))), ((g7 9), .inl (cy 0, 12, .inl (fun _ => 0))), ((g7 10), .inl (cy 0, 12, .inl (fun _ => 0))), ((g7 11), .inl (cy 0, 12, .inl (fun _ => 0))), (q8, .inr (7, [.ref (g9 0), .ref (g9 1), .ref (g9 2), .ref (g9 3), .ref (g9 4), .ref (g9 5)])), ((g9 0), .inl (cy 0, 4, .inl (upd (upd (upd (upd (fun _ => 0) 0 1) 1 2) 2 2) 3 3))), ((g9 1), .inl (cy 0, 25, .inl (fun _ => 0))), ((g9 2), .inl (cy 0, 512, .inl (fun _ => 0))), ((g9 3), .inl (cy 0, 512, .inl (fun _ => 0))), ((g9 4), .inl (cy 2, 512, .inl (fun _ => 0))), ((g9 5), .inl (cy 0, 512, .inl (fun _ => 0))), (q10, .inr (5, [.int 0, .ref (g11 0), .long 0, .int 0])), ((g11 0), .inl (cy 0, 512, .inl (fun _ => 0))), (q12, .inr (3, [.int 0, .int 0, .int 0, .int 0, .long 0, .int 0, .int 0, .int 0])), (q14, .inl (cy 3, 4, .inr (.inr (.inr (.inr (va_up (va_up (fun _ => none) 0 (some q15)) 1 (some q17))))))), (q15, .inr (4, [.ref (g16 0), .int (-1), .int 0, .long 0])), ((g16 0), .inl (cy 1, 20, .inr (.inl (fun _ => 0)))), (q17, .inr (4, [.ref (g18 0), .int (-1), .int 0, .long 0])), ((g18 0), .inl (cy 1, 20, .inr (.inl (fun _ => 0)))), (q19, .inr (4, [.ref (g20 0), .int (-1), .int 0, .long 0])), ((g20 0), .inl (cy 1, 20, .inr (.inl (fun _ => 0))))] H := hP
  have hD : va_D A [(h0, .inr (8, [.ref q0, .ref q2, .ref q4, .ref q6, .ref q8, .ref q10, .ref q12, .ref q14, .null])), (q0, .inr (6, [.ref (g1 0), .int 0, .long 0])), ((g1 0), .inl (cy 0, 40, .inl (fun _ => 0))), (q2, .inr (2, [.ref (g3 0), .ref (g3 1), .int 0])), ((g3 0), .inl (cy 0, 12, .inl (fun _ => 0))), ((g3 1), .inl (cy 1, 12, .inr (.inl (fun _ => 0)))), (q4, .inr (0, [.ref (g5 0), .int 0])), ((g5 0), .inl (cy 1, 20, .inr (.inl (fun _ => 0)))), (q6, .inr (1, [.ref (g7 0), .ref (g7 1), .ref (g7 2), .ref (g7 3), .ref (g7 4), .int 0, .int 0, .int 0, .ref (g7 5), .ref (g7 6), .ref (g7 7), .ref (g7 8), .ref (g7 9), .ref (g7 10), .ref (g7 11)])), ((g7 0), .inl (cy 0, 512, .inl (fun _ => 0))), ((g7 1), .inl (cy 0, 512, .inl (fun _ => 0))), ((g7 2), .inl (cy 0, 512, .inl (fun _ => 0))), ((g7 3), .inl (cy 2, 512, .inl (fun _ => 0))), ((g7 4), .inl (cy 0, 12, .inl (fun _ => 0))), ((g7 5), .inl (cy 0, 512, .inl (fun _ => 0))), ((g7 6), .inl (cy 0, 512, .inl (fun _ => 0))), ((g7 7), .inl (cy 2, 512, .inl (fun _ => 0))), ((g7 8), .inl (cy 0, 12, .inl (fun _ => 0))), ((g7 9), .inl (cy 0, 12, .inl (fun _ => 0))), ((g7 10), .inl (cy 0, 12, .inl (fun _ => 0))), ((g7 11), .inl (cy 0, 12, .inl (fun _ => 0))), (q8, .inr (7, [.ref (g9 0), .ref (g9 1), .ref (g9 2), .ref (g9 3), .ref (g9 4), .ref (g9 5)])), ((g9 0), .inl (cy 0, 4, .inl (upd (upd (upd (upd (fun _ => 0) 0 1) 1 2) 2 2) 3 3))), ((g9 1), .inl (cy 0, 25, .inl (fun _ => 0))), ((g9 2), .inl (cy 0, 512, .inl (fun _ => 0))), ((g9 3), .inl (cy 0, 512, .inl (fun _ => 0))), ((g9 4), .inl (cy 2, 512, .inl (fun _ => 0))), ((g9 5), .inl (cy 0, 512, .inl (fun _ => 0))), (q10, .inr (5, [.int 0, .ref (g11 0), .long 0, .int 0])), ((g11 0), .inl (cy 0, 512, .inl (fun _ => 0))), (q12, .inr (3, [.int 0, .int 0, .int 0, .int 0, .long 0, .int 0, .int 0, .int 0])), (q14, .inl (cy 3, 4, .inr (.inr (.inr (.inr (va_up (va_up (fun _ => none) 0 (some q15)) 1 (some q17))))))), (q15, .inr (4, [.ref (g16 0), .int (-1), .int 0, .long 0])), ((g16 0), .inl (cy 1, 20, .inr (.inl (fun _ => 0)))), (q17, .inr (4, [.ref (g18 0), .int (-1), .int 0, .long 0])), ((g18 0), .inl (cy 1, 20, .inr (.inl (fun _ => 0)))), (q19, .inr (4, [.ref (g20 0), .int (-1), .int 0, .long 0])), ((g20 0), .inl (cy 1, 20, .inr (.inl (fun _ => 0))))] := hD
  refine W.widen (k := 37) (n := 6434) (Nat.le_of_ble_eq_true rfl) (Nat.le_of_ble_eq_true rfl) ?_
  refine va_astq (D := D) hx hb hK hP hD hS 31 3 36 4 rfl rfl rfl rfl (show vp_in (nI 2) 4 from vp_in_nI (by decide) (by decide)) dX9_init_108 (fun H _ hP hD hS => ?_)
  have hP : va_P D clsL [(h0, .inr (8, [.ref q0, .ref q2, .ref q4, .ref q6, .ref q8, .ref q10, .ref q12, .ref q14, .null])), (q0, .inr (6, [.ref (g1 0), .int 0, .long 0])), ((g1 0), .inl (cy 0, 40, .inl (fun _ => 0))), (q2, .inr (2, [.ref (g3 0), .ref (g3 1), .int 0])), ((g3 0), .inl (cy 0, 12, .inl (fun _ => 0))), ((g3 1), .inl (cy 1, 12, .inr (.inl (fun _ => 0)))), (q4, .inr (0, [.ref (g5 0), .int 0])), ((g5 0), .inl (cy 1, 20, .inr (.inl (fun _ => 0)))), (q6, .inr (1, [.ref (g7 0), .ref (g7 1), .ref (g7 2), .ref (g7 3), .ref (g7 4), .int 0, .int 0, .int 0, .ref (g7 5), .ref (g7 6), .ref (g7 7), .ref (g7 8), .ref (g7 9), .ref (g7 10), .ref (g7 11)])), ((g7 0), .inl (cy 0, 512, .inl (fun _ => 0))), ((g7 1), .inl (cy 0, 512, .inl (fun _ => 0))), ((g7 2), .inl (cy 0, 512, .inl (fun _ => 0))), ((g7 3), .inl (cy 2, 512, .inl (fun _ => 0))), ((g7 4), .inl (cy 0, 12, .inl (fun _ => 0))), ((g7 5), .inl (cy 0, 512, .inl (fun _ => 0))), ((g7 6), .inl (cy 0, 512, .inl (fun _ => 0))), ((g7 7), .inl (cy 2, 512, .inl (fun _ => 0))), ((g7 8), .inl (cy 0, 12, .inl (fun _ => 0))), ((g7 9), .inl (cy 0, 12, .inl (fun _ => 0))), ((g7 10), .inl (cy 0, 12, .inl (fun _ => 0))), ((g7 11), .inl (cy 0, 12, .inl (fun _ => 0))), (q8, .inr (7, [.ref (g9 0), .ref (g9 1), .ref (g9 2), .ref (g9 3), .ref (g9 4), .ref (g9 5)])), ((g9 0), .inl (cy 0, 4, .inl (upd (upd (upd (upd (fun _ => 0) 0 1) 1 2) 2 2) 3 3))), ((g9 1), .inl (cy 0, 25, .inl (fun _ => 0))), ((g9 2), .inl (cy 0, 512, .inl (fun _ => 0))), ((g9 3), .inl (cy 0, 512, .inl (fun _ => 0))), ((g9 4), .inl (cy 2, 512, .inl (fun _ => 0))), ((g9 5), .inl (cy 0, 512, .inl (fun _ => 0))), (q10, .inr (5, [.int 0, .ref (g11 0), .long 0, .int 0])), ((g11 0), .inl (cy 0, 512, .inl (fun _ => 0))), (q12, .inr (3, [.int 0, .int 0, .int 0, .int 0, .long 0, .int 0, .int 0, .int 0])), (q14, .inl (cy 3, 4, .inr (.inr (.inr (.inr (va_up (va_up (va_up (fun _ => none) 0 (some q15)) 1 (some q17)) 2 (some q19))))))), (q15, .inr (4, [.ref (g16 0), .int (-1), .int 0, .long 0])), ((g16 0), .inl (cy 1, 20, .inr (.inl (fun _ => 0)))), (q17, .inr (4, [.ref (g18 0), .int (-1), .int 0, .long 0])), ((g18 0), .inl (cy 1, 20, .inr (.inl (fun _ => 0)))), (q19, .inr (4, [.ref (g20 0), .int (-1), .int 0, .long 0])), ((g20 0), .inl (cy 1, 20, .inr (.inl (fun _ => 0))))] H := hP
  have hD : va_D A [(h0, .inr (8, [.ref q0, .ref q2, .ref q4, .ref q6, .ref q8, .ref q10, .ref q12, .ref q14, .null])), (q0, .inr (6, [.ref (g1 0), .int 0, .long 0])), ((g1 0), .inl (cy 0, 40, .inl (fun _ => 0))), (q2, .inr (2, [.ref (g3 0), .ref (g3 1), .int 0])), ((g3 0), .inl (cy 0, 12, .inl (fun _ => 0))), ((g3 1), .inl (cy 1, 12, .inr (.inl (fun _ => 0)))), (q4, .inr (0, [.ref (g5 0), .int 0])), ((g5 0), .inl (cy 1, 20, .inr (.inl (fun _ => 0)))), (q6, .inr (1, [.ref (g7 0), .ref (g7 1), .ref (g7 2), .ref (g7 3), .ref (g7 4), .int 0, .int 0, .int 0, .ref (g7 5), .ref (g7 6), .ref (g7 7), .ref (g7 8), .ref (g7 9), .ref (g7 10), .ref (g7 11)])), ((g7 0), .inl (cy 0, 512, .inl (fun _ => 0))), ((g7 1), .inl (cy 0, 512, .inl (fun _ => 0))), ((g7 2), .inl (cy 0, 512, .inl (fun _ => 0))), ((g7 3), .inl (cy 2, 512, .inl (fun _ => 0))), ((g7 4), .inl (cy 0, 12, .inl (fun _ => 0))), ((g7 5), .inl (cy 0, 512, .inl (fun _ => 0))), ((g7 6), .inl (cy 0, 512, .inl (fun _ => 0))), ((g7 7), .inl (cy 2, 512, .inl (fun _ => 0))), ((g7 8), .inl (cy 0, 12, .inl (fun _ => 0))), ((g7 9), .inl (cy 0, 12, .inl (fun _ => 0))), ((g7 10), .inl (cy 0, 12, .inl (fun _ => 0))), ((g7 11), .inl (cy 0, 12, .inl (fun _ => 0))), (q8, .inr (7, [.ref (g9 0), .ref (g9 1), .ref (g9 2), .ref (g9 3), .ref (g9 4), .ref (g9 5)])), ((g9 0), .inl (cy 0, 4, .inl (upd (upd (upd (upd (fun _ => 0) 0 1) 1 2) 2 2) 3 3))), ((g9 1), .inl (cy 0, 25, .inl (fun _ => 0))), ((g9 2), .inl (cy 0, 512, .inl (fun _ => 0))), ((g9 3), .inl (cy 0, 512, .inl (fun _ => 0))), ((g9 4), .inl (cy 2, 512, .inl (fun _ => 0))), ((g9 5), .inl (cy 0, 512, .inl (fun _ => 0))), (q10, .inr (5, [.int 0, .ref (g11 0), .long 0, .int 0])), ((g11 0), .inl (cy 0, 512, .inl (fun _ => 0))), (q12, .inr (3, [.int 0, .int 0, .int 0, .int 0, .long 0, .int 0, .int 0, .int 0])), (q14, .inl (cy 3, 4, .inr (.inr (.inr (.inr (va_up (va_up (va_up (fun _ => none) 0 (some q15)) 1 (some q17)) 2 (some q19))))))), (q15, .inr (4, [.ref (g16 0), .int (-1), .int 0, .long 0])), ((g16 0), .inl (cy 1, 20, .inr (.inl (fun _ => 0)))), (q17, .inr (4, [.ref (g18 0), .int (-1), .int 0, .long 0])), ((g18 0), .inl (cy 1, 20, .inr (.inl (fun _ => 0)))), (q19, .inr (4, [.ref (g20 0), .int (-1), .int 0, .long 0])), ((g20 0), .inl (cy 1, 20, .inr (.inl (fun _ => 0))))] := hD
  refine lv_iinc (v := 3) (lv' := [(1, .int 3), (0, .ref h0)]) hx hb dX9_init_109 hl (k := 0) rfl (by decide) (by decide) rfl (fun ls hl => ?_)
  refine lv_goto (tgt := 91) hx hb dX9_init_112 (by decide) ?_
  refine lv_iload_n hx hb dX9_init_91 rfl (lv_at hl 0 rfl) ?_
  refine lv_iconst (v := 4) hx hb dX9_init_92 (by decide) ?_
  refine lv_icmp_ge (tgt := 115) hx hb dX9_init_93 (by decide) (fun z => absurd z (by decide)) (fun _ => ?_)
  refine lv_aload_n hx hb dX9_init_96 rfl (lv_at hl 1 rfl) ?_
  refine va_get (D := D) (ci := 8) (v := .ref q14) (C := RX9) (T := TX9) (N := 9) hx hb hts (inW inX9 (by decide +kernel)) hown hK hP 0 rfl rfl 7 (by decide) (hts (.fieldLink RX9 62 "AdderChooser" "shelves" "[LAdderChooser$Shelf;") (inT_mem (by decide +kernel))) (fun _ h9 => h9) rfl dX9_init_97 ?_
  refine lv_iload_n hx hb dX9_init_100 rfl (lv_at hl 0 rfl) ?_
  refine va_new (ci := 4) (fs := [.null, .int 0, .int 0, .long 0]) (C := RX5) (T := TX5) (N := 4) hx hb hts (inW inX5 (by decide +kernel)) tyX5 tyX5_ok hown (hts (.classLink RX9 60 RX5) (inT_mem (by decide +kernel))) (hts (.instantiable RX5 4) (inT_mem (by decide +kernel))) (hts (.initialized RX5) (inT_mem (by decide +kernel))) hK hP hD hS hA rfl (fun j hj => by exact nwfsX5 j hj) (Nat.le_of_ble_eq_true rfl) (Nat.le_of_ble_eq_true rfl) dX9_init_101 (fun q21 H hP hD hS => ?_)
  have hP : va_P D clsL [(h0, .inr (8, [.ref q0, .ref q2, .ref q4, .ref q6, .ref q8, .ref q10, .ref q12, .ref q14, .null])), (q0, .inr (6, [.ref (g1 0), .int 0, .long 0])), ((g1 0), .inl (cy 0, 40, .inl (fun _ => 0))), (q2, .inr (2, [.ref (g3 0), .ref (g3 1), .int 0])), ((g3 0), .inl (cy 0, 12, .inl (fun _ => 0))), ((g3 1), .inl (cy 1, 12, .inr (.inl (fun _ => 0)))), (q4, .inr (0, [.ref (g5 0), .int 0])), ((g5 0), .inl (cy 1, 20, .inr (.inl (fun _ => 0)))), (q6, .inr (1, [.ref (g7 0), .ref (g7 1), .ref (g7 2), .ref (g7 3), .ref (g7 4), .int 0, .int 0, .int 0, .ref (g7 5), .ref (g7 6), .ref (g7 7), .ref (g7 8), .ref (g7 9), .ref (g7 10), .ref (g7 11)])), ((g7 0), .inl (cy 0, 512, .inl (fun _ => 0))), ((g7 1), .inl (cy 0, 512, .inl (fun _ => 0))), ((g7 2), .inl (cy 0, 512, .inl (fun _ => 0))), ((g7 3), .inl (cy 2, 512, .inl (fun _ => 0))), ((g7 4), .inl (cy 0, 12, .inl (fun _ => 0))), ((g7 5), .inl (cy 0, 512, .inl (fun _ => 0))), ((g7 6), .inl (cy 0, 512, .inl (fun _ => 0))), ((g7 7), .inl (cy 2, 512, .inl (fun _ => 0))), ((g7 8), .inl (cy 0, 12, .inl (fun _ => 0))), ((g7 9), .inl (cy 0, 12, .inl (fun _ => 0))), ((g7 10), .inl (cy 0, 12, .inl (fun _ => 0))), ((g7 11), .inl (cy 0, 12, .inl (fun _ => 0))), (q8, .inr (7, [.ref (g9 0), .ref (g9 1), .ref (g9 2), .ref (g9 3), .ref (g9 4), .ref (g9 5)])), ((g9 0), .inl (cy 0, 4, .inl (upd (upd (upd (upd (fun _ => 0) 0 1) 1 2) 2 2) 3 3))), ((g9 1), .inl (cy 0, 25, .inl (fun _ => 0))), ((g9 2), .inl (cy 0, 512, .inl (fun _ => 0))), ((g9 3), .inl (cy 0, 512, .inl (fun _ => 0))), ((g9 4), .inl (cy 2, 512, .inl (fun _ => 0))), ((g9 5), .inl (cy 0, 512, .inl (fun _ => 0))), (q10, .inr (5, [.int 0, .ref (g11 0), .long 0, .int 0])), ((g11 0), .inl (cy 0, 512, .inl (fun _ => 0))), (q12, .inr (3, [.int 0, .int 0, .int 0, .int 0, .long 0, .int 0, .int 0, .int 0])), (q14, .inl (cy 3, 4, .inr (.inr (.inr (.inr (va_up (va_up (va_up (fun _ => none) 0 (some q15)) 1 (some q17)) 2 (some q19))))))), (q15, .inr (4, [.ref (g16 0), .int (-1), .int 0, .long 0])), ((g16 0), .inl (cy 1, 20, .inr (.inl (fun _ => 0)))), (q17, .inr (4, [.ref (g18 0), .int (-1), .int 0, .long 0])), ((g18 0), .inl (cy 1, 20, .inr (.inl (fun _ => 0)))), (q19, .inr (4, [.ref (g20 0), .int (-1), .int 0, .long 0])), ((g20 0), .inl (cy 1, 20, .inr (.inl (fun _ => 0)))), (q21, .inr (4, [.null, .int 0, .int 0, .long 0]))] H := hP
  have hD : va_D A [(h0, .inr (8, [.ref q0, .ref q2, .ref q4, .ref q6, .ref q8, .ref q10, .ref q12, .ref q14, .null])), (q0, .inr (6, [.ref (g1 0), .int 0, .long 0])), ((g1 0), .inl (cy 0, 40, .inl (fun _ => 0))), (q2, .inr (2, [.ref (g3 0), .ref (g3 1), .int 0])), ((g3 0), .inl (cy 0, 12, .inl (fun _ => 0))), ((g3 1), .inl (cy 1, 12, .inr (.inl (fun _ => 0)))), (q4, .inr (0, [.ref (g5 0), .int 0])), ((g5 0), .inl (cy 1, 20, .inr (.inl (fun _ => 0)))), (q6, .inr (1, [.ref (g7 0), .ref (g7 1), .ref (g7 2), .ref (g7 3), .ref (g7 4), .int 0, .int 0, .int 0, .ref (g7 5), .ref (g7 6), .ref (g7 7), .ref (g7 8), .ref (g7 9), .ref (g7 10), .ref (g7 11)])), ((g7 0), .inl (cy 0, 512, .inl (fun _ => 0))), ((g7 1), .inl (cy 0, 512, .inl (fun _ => 0))), ((g7 2), .inl (cy 0, 512, .inl (fun _ => 0))), ((g7 3), .inl (cy 2, 512, .inl (fun _ => 0))), ((g7 4), .inl (cy 0, 12, .inl (fun _ => 0))), ((g7 5), .inl (cy 0, 512, .inl (fun _ => 0))), ((g7 6), .inl (cy 0, 512, .inl (fun _ => 0))), ((g7 7), .inl (cy 2, 512, .inl (fun _ => 0))), ((g7 8), .inl (cy 0, 12, .inl (fun _ => 0))), ((g7 9), .inl (cy 0, 12, .inl (fun _ => 0))), ((g7 10), .inl (cy 0, 12, .inl (fun _ => 0))), ((g7 11), .inl (cy 0, 12, .inl (fun _ => 0))), (q8, .inr (7, [.ref (g9 0), .ref (g9 1), .ref (g9 2), .ref (g9 3), .ref (g9 4), .ref (g9 5)])), ((g9 0), .inl (cy 0, 4, .inl (upd (upd (upd (upd (fun _ => 0) 0 1) 1 2) 2 2) 3 3))), ((g9 1), .inl (cy 0, 25, .inl (fun _ => 0))), ((g9 2), .inl (cy 0, 512, .inl (fun _ => 0))), ((g9 3), .inl (cy 0, 512, .inl (fun _ => 0))), ((g9 4), .inl (cy 2, 512, .inl (fun _ => 0))), ((g9 5), .inl (cy 0, 512, .inl (fun _ => 0))), (q10, .inr (5, [.int 0, .ref (g11 0), .long 0, .int 0])), ((g11 0), .inl (cy 0, 512, .inl (fun _ => 0))), (q12, .inr (3, [.int 0, .int 0, .int 0, .int 0, .long 0, .int 0, .int 0, .int 0])), (q14, .inl (cy 3, 4, .inr (.inr (.inr (.inr (va_up (va_up (va_up (fun _ => none) 0 (some q15)) 1 (some q17)) 2 (some q19))))))), (q15, .inr (4, [.ref (g16 0), .int (-1), .int 0, .long 0])), ((g16 0), .inl (cy 1, 20, .inr (.inl (fun _ => 0)))), (q17, .inr (4, [.ref (g18 0), .int (-1), .int 0, .long 0])), ((g18 0), .inl (cy 1, 20, .inr (.inl (fun _ => 0)))), (q19, .inr (4, [.ref (g20 0), .int (-1), .int 0, .long 0])), ((g20 0), .inl (cy 1, 20, .inr (.inl (fun _ => 0)))), (q21, .inr (4, [.null, .int 0, .int 0, .long 0]))] := hD
  refine W.widen (k := 38) (n := 6438) (Nat.le_of_ble_eq_true rfl) (Nat.le_of_ble_eq_true rfl) ?_
  refine lv_dup hx hb dX9_init_104 rfl ?_
  have hPc := hP.sub (ws' := [(q21, .inr (4, [.null, .int 0, .int 0, .long 0]))]) [38] rfl
  have hDc := hD.sub (ws' := [(q21, .inr (4, [.null, .int 0, .int 0, .long 0]))]) [38] (by decide) rfl
  have hFc := va_free (wc := [(q21, .inr (4, [.null, .int 0, .int 0, .long 0]))]) hD hS hA [38] rfl
  refine va_callv (va_runIN (As := []) (rest := [.ref q21, .int 3, .ref q14]) ⟨hx, hb, hml, hown, hts⟩ (N_X5 l D cy q21 H.size) ⟨va_cnB (bytes := cX5_init) (maxL := 1) 0 hts (gi_wt (ws := wsM yX5_init cX5_init 1 none) (wsM_in (by decide +kernel))) rfl rfl rfl hn66 (hts (.initialized RX5) (inT_mem (by decide +kernel))) ⟨by decide +kernel, by decide +kernel, by decide +kernel⟩ ⟨Nat.le_of_ble_eq_true rfl, Nat.le_of_ble_eq_true rfl⟩, rfl, (hts (.instanceMethod yX5_init) (inT_mem (by decide +kernel)))⟩ ⟨PcN_blind, fun U hU hW => ⟨rfl, by rw [hU], by rw [hU]; exact hPc, va_K.moved hW.alike hK, hDc.weaken (fun _ _ _ _ => trivial)⟩⟩ rfl rfl hl.1 rfl (lv_room (Nat.le_of_ble_eq_true rfl)) dX9_init_105 ⟨Nat.le_of_ble_eq_true rfl, Nat.le_of_ble_eq_true rfl⟩) hS (fun q _ h => hFc q h) hFc (fun g22 t H1 locs ht hvm _ hB hz1 hk1 hS => ?_)
  obtain ⟨hP1, hK1, hD1⟩ := hB
  rw [ht] at hP1
  obtain ⟨hP, hD⟩ := va_join (wr := [(h0, .inr (8, [.ref q0, .ref q2, .ref q4, .ref q6, .ref q8, .ref q10, .ref q12, .ref q14, .null])), (q0, .inr (6, [.ref (g1 0), .int 0, .long 0])), ((g1 0), .inl (cy 0, 40, .inl (fun _ => 0))), (q2, .inr (2, [.ref (g3 0), .ref (g3 1), .int 0])), ((g3 0), .inl (cy 0, 12, .inl (fun _ => 0))), ((g3 1), .inl (cy 1, 12, .inr (.inl (fun _ => 0)))), (q4, .inr (0, [.ref (g5 0), .int 0])), ((g5 0), .inl (cy 1, 20, .inr (.inl (fun _ => 0)))), (q6, .inr (1, [.ref (g7 0), .ref (g7 1), .ref (g7 2), .ref (g7 3), .ref (g7 4), .int 0, .int 0, .int 0, .ref (g7 5), .ref (g7 6), .ref (g7 7), .ref (g7 8), .ref (g7 9), .ref (g7 10), .ref (g7 11)])), ((g7 0), .inl (cy 0, 512, .inl (fun _ => 0))), ((g7 1), .inl (cy 0, 512, .inl (fun _ => 0))), ((g7 2), .inl (cy 0, 512, .inl (fun _ => 0))), ((g7 3), .inl (cy 2, 512, .inl (fun _ => 0))), ((g7 4), .inl (cy 0, 12, .inl (fun _ => 0))), ((g7 5), .inl (cy 0, 512, .inl (fun _ => 0))), ((g7 6), .inl (cy 0, 512, .inl (fun _ => 0))), ((g7 7), .inl (cy 2, 512, .inl (fun _ => 0))), ((g7 8), .inl (cy 0, 12, .inl (fun _ => 0))), ((g7 9), .inl (cy 0, 12, .inl (fun _ => 0))), ((g7 10), .inl (cy 0, 12, .inl (fun _ => 0))), ((g7 11), .inl (cy 0, 12, .inl (fun _ => 0))), (q8, .inr (7, [.ref (g9 0), .ref (g9 1), .ref (g9 2), .ref (g9 3), .ref (g9 4), .ref (g9 5)])), ((g9 0), .inl (cy 0, 4, .inl (upd (upd (upd (upd (fun _ => 0) 0 1) 1 2) 2 2) 3 3))), ((g9 1), .inl (cy 0, 25, .inl (fun _ => 0))), ((g9 2), .inl (cy 0, 512, .inl (fun _ => 0))), ((g9 3), .inl (cy 0, 512, .inl (fun _ => 0))), ((g9 4), .inl (cy 2, 512, .inl (fun _ => 0))), ((g9 5), .inl (cy 0, 512, .inl (fun _ => 0))), (q10, .inr (5, [.int 0, .ref (g11 0), .long 0, .int 0])), ((g11 0), .inl (cy 0, 512, .inl (fun _ => 0))), (q12, .inr (3, [.int 0, .int 0, .int 0, .int 0, .long 0, .int 0, .int 0, .int 0])), (q14, .inl (cy 3, 4, .inr (.inr (.inr (.inr (va_up (va_up (va_up (fun _ => none) 0 (some q15)) 1 (some q17)) 2 (some q19))))))), (q15, .inr (4, [.ref (g16 0), .int (-1), .int 0, .long 0])), ((g16 0), .inl (cy 1, 20, .inr (.inl (fun _ => 0)))), (q17, .inr (4, [.ref (g18 0), .int (-1), .int 0, .long 0])), ((g18 0), .inl (cy 1, 20, .inr (.inl (fun _ => 0)))), (q19, .inr (4, [.ref (g20 0), .int (-1), .int 0, .long 0])), ((g20 0), .inl (cy 1, 20, .inr (.inl (fun _ => 0))))]) (w1 := [(q21, .inr (4, [.ref (g22 0), .int (-1), .int 0, .long 0])), ((g22 0), .inl (cy 1, 20, .inr (.inl (fun _ => 0))))]) hP hD [38] [0, 1, 2, 3, 4, 5, 6, 7, 8, 9, 10, 11, 12, 13, 14, 15, 16, 17, 18, 19, 20, 21, 22, 23, 24, 25, 26, 27, 28, 29, 30, 31, 32, 33, 34, 35, 36, 37] rfl rfl (by decide) (by decide) hk1 hFc hP1 hD1
  generalize H1 = H at hP hS ⊢
  have hP : va_P D clsL [(h0, .inr (8, [.ref q0, .ref q2, .ref q4, .ref q6, .ref q8, .ref q10, .ref q12, .ref q14, .null])), (q0, .inr (6, [.ref (g1 0), .int 0, .long 0])), ((g1 0), .inl (cy 0, 40, .inl (fun _ => 0))), (q2, .inr (2, [.ref (g3 0), .ref (g3 1), .int 0])), ((g3 0), .inl (cy 0, 12, .inl (fun _ => 0))), ((g3 1), .inl (cy 1, 12, .inr (.inl (fun _ => 0)))), (q4, .inr (0, [.ref (g5 0), .int 0])), ((g5 0), .inl (cy 1, 20, .inr (.inl (fun _ => 0)))), (q6, .inr (1, [.ref (g7 0), .ref (g7 1), .ref (g7 2), .ref (g7 3), .ref (g7 4), .int 0, .int 0, .int 0, .ref (g7 5), .ref (g7 6), .ref (g7 7), .ref (g7 8), .ref (g7 9), .ref (g7 10), .ref (g7 11)])), ((g7 0), .inl (cy 0, 512, .inl (fun _ => 0))), ((g7 1), .inl (cy 0, 512, .inl (fun _ => 0))), ((g7 2), .inl (cy 0, 512, .inl (fun _ => 0))), ((g7 3), .inl (cy 2, 512, .inl (fun _ => 0))), ((g7 4), .inl (cy 0, 12, .inl (fun _ => 0))), ((g7 5), .inl (cy 0, 512, .inl (fun _ => 0))), ((g7 6), .inl (cy 0, 512, .inl (fun _ => 0))), ((g7 7), .inl (cy 2, 512, .inl (fun _ => 0))), ((g7 8), .inl (cy 0, 12, .inl (fun _ => 0))), ((g7 9), .inl (cy 0, 12, .inl (fun _ => 0))), ((g7 10), .inl (cy 0, 12, .inl (fun _ => 0))), ((g7 11), .inl (cy 0, 12, .inl (fun _ => 0))), (q8, .inr (7, [.ref (g9 0), .ref (g9 1), .ref (g9 2), .ref (g9 3), .ref (g9 4), .ref (g9 5)])), ((g9 0), .inl (cy 0, 4, .inl (upd (upd (upd (upd (fun _ => 0) 0 1) 1 2) 2 2) 3 3))), ((g9 1), .inl (cy 0, 25, .inl (fun _ => 0))), ((g9 2), .inl (cy 0, 512, .inl (fun _ => 0))), ((g9 3), .inl (cy 0, 512, .inl (fun _ => 0))), ((g9 4), .inl (cy 2, 512, .inl (fun _ => 0))), ((g9 5), .inl (cy 0, 512, .inl (fun _ => 0))), (q10, .inr (5, [.int 0, .ref (g11 0), .long 0, .int 0])), ((g11 0), .inl (cy 0, 512, .inl (fun _ => 0))), (q12, .inr (3, [.int 0, .int 0, .int 0, .int 0, .long 0, .int 0, .int 0, .int 0])), (q14, .inl (cy 3, 4, .inr (.inr (.inr (.inr (va_up (va_up (va_up (fun _ => none) 0 (some q15)) 1 (some q17)) 2 (some q19))))))), (q15, .inr (4, [.ref (g16 0), .int (-1), .int 0, .long 0])), ((g16 0), .inl (cy 1, 20, .inr (.inl (fun _ => 0)))), (q17, .inr (4, [.ref (g18 0), .int (-1), .int 0, .long 0])), ((g18 0), .inl (cy 1, 20, .inr (.inl (fun _ => 0)))), (q19, .inr (4, [.ref (g20 0), .int (-1), .int 0, .long 0])), ((g20 0), .inl (cy 1, 20, .inr (.inl (fun _ => 0)))), (q21, .inr (4, [.ref (g22 0), .int (-1), .int 0, .long 0])), ((g22 0), .inl (cy 1, 20, .inr (.inl (fun _ => 0))))] H := hP
  have hD : va_D A [(h0, .inr (8, [.ref q0, .ref q2, .ref q4, .ref q6, .ref q8, .ref q10, .ref q12, .ref q14, .null])), (q0, .inr (6, [.ref (g1 0), .int 0, .long 0])), ((g1 0), .inl (cy 0, 40, .inl (fun _ => 0))), (q2, .inr (2, [.ref (g3 0), .ref (g3 1), .int 0])), ((g3 0), .inl (cy 0, 12, .inl (fun _ => 0))), ((g3 1), .inl (cy 1, 12, .inr (.inl (fun _ => 0)))), (q4, .inr (0, [.ref (g5 0), .int 0])), ((g5 0), .inl (cy 1, 20, .inr (.inl (fun _ => 0)))), (q6, .inr (1, [.ref (g7 0), .ref (g7 1), .ref (g7 2), .ref (g7 3), .ref (g7 4), .int 0, .int 0, .int 0, .ref (g7 5), .ref (g7 6), .ref (g7 7), .ref (g7 8), .ref (g7 9), .ref (g7 10), .ref (g7 11)])), ((g7 0), .inl (cy 0, 512, .inl (fun _ => 0))), ((g7 1), .inl (cy 0, 512, .inl (fun _ => 0))), ((g7 2), .inl (cy 0, 512, .inl (fun _ => 0))), ((g7 3), .inl (cy 2, 512, .inl (fun _ => 0))), ((g7 4), .inl (cy 0, 12, .inl (fun _ => 0))), ((g7 5), .inl (cy 0, 512, .inl (fun _ => 0))), ((g7 6), .inl (cy 0, 512, .inl (fun _ => 0))), ((g7 7), .inl (cy 2, 512, .inl (fun _ => 0))), ((g7 8), .inl (cy 0, 12, .inl (fun _ => 0))), ((g7 9), .inl (cy 0, 12, .inl (fun _ => 0))), ((g7 10), .inl (cy 0, 12, .inl (fun _ => 0))), ((g7 11), .inl (cy 0, 12, .inl (fun _ => 0))), (q8, .inr (7, [.ref (g9 0), .ref (g9 1), .ref (g9 2), .ref (g9 3), .ref (g9 4), .ref (g9 5)])), ((g9 0), .inl (cy 0, 4, .inl (upd (upd (upd (upd (fun _ => 0) 0 1) 1 2) 2 2) 3 3))), ((g9 1), .inl (cy 0, 25, .inl (fun _ => 0))), ((g9 2), .inl (cy 0, 512, .inl (fun _ => 0))), ((g9 3), .inl (cy 0, 512, .inl (fun _ => 0))), ((g9 4), .inl (cy 2, 512, .inl (fun _ => 0))), ((g9 5), .inl (cy 0, 512, .inl (fun _ => 0))), (q10, .inr (5, [.int 0, .ref (g11 0), .long 0, .int 0])), ((g11 0), .inl (cy 0, 512, .inl (fun _ => 0))), (q12, .inr (3, [.int 0, .int 0, .int 0, .int 0, .long 0, .int 0, .int 0, .int 0])), (q14, .inl (cy 3, 4, .inr (.inr (.inr (.inr (va_up (va_up (va_up (fun _ => none) 0 (some q15)) 1 (some q17)) 2 (some q19))))))), (q15, .inr (4, [.ref (g16 0), .int (-1), .int 0, .long 0])), ((g16 0), .inl (cy 1, 20, .inr (.inl (fun _ => 0)))), (q17, .inr (4, [.ref (g18 0), .int (-1), .int 0, .long 0])), ((g18 0), .inl (cy 1, 20, .inr (.inl (fun _ => 0)))), (q19, .inr (4, [.ref (g20 0), .int (-1), .int 0, .long 0])), ((g20 0), .inl (cy 1, 20, .inr (.inl (fun _ => 0)))), (q21, .inr (4, [.ref (g22 0), .int (-1), .int 0, .long 0])), ((g22 0), .inl (cy 1, 20, .inr (.inl (fun _ => 0))))] := hD
  refine W.widen (k := 39) (n := 6458) (Nat.le_of_ble_eq_true rfl) (Nat.le_of_ble_eq_true rfl) ?_
  refine va_astq (D := D) hx hb hK hP hD hS 31 3 38 4 rfl rfl rfl rfl (show vp_in (nI 3) 4 from vp_in_nI (by decide) (by decide)) dX9_init_108 (fun H _ hP hD hS => ?_)
  have hP : va_P D clsL [(h0, .inr (8, [.ref q0, .ref q2, .ref q4, .ref q6, .ref q8, .ref q10, .ref q12, .ref q14, .null])), (q0, .inr (6, [.ref (g1 0), .int 0, .long 0])), ((g1 0), .inl (cy 0, 40, .inl (fun _ => 0))), (q2, .inr (2, [.ref (g3 0), .ref (g3 1), .int 0])), ((g3 0), .inl (cy 0, 12, .inl (fun _ => 0))), ((g3 1), .inl (cy 1, 12, .inr (.inl (fun _ => 0)))), (q4, .inr (0, [.ref (g5 0), .int 0])), ((g5 0), .inl (cy 1, 20, .inr (.inl (fun _ => 0)))), (q6, .inr (1, [.ref (g7 0), .ref (g7 1), .ref (g7 2), .ref (g7 3), .ref (g7 4), .int 0, .int 0, .int 0, .ref (g7 5), .ref (g7 6), .ref (g7 7), .ref (g7 8), .ref (g7 9), .ref (g7 10), .ref (g7 11)])), ((g7 0), .inl (cy 0, 512, .inl (fun _ => 0))), ((g7 1), .inl (cy 0, 512, .inl (fun _ => 0))), ((g7 2), .inl (cy 0, 512, .inl (fun _ => 0))), ((g7 3), .inl (cy 2, 512, .inl (fun _ => 0))), ((g7 4), .inl (cy 0, 12, .inl (fun _ => 0))), ((g7 5), .inl (cy 0, 512, .inl (fun _ => 0))), ((g7 6), .inl (cy 0, 512, .inl (fun _ => 0))), ((g7 7), .inl (cy 2, 512, .inl (fun _ => 0))), ((g7 8), .inl (cy 0, 12, .inl (fun _ => 0))), ((g7 9), .inl (cy 0, 12, .inl (fun _ => 0))), ((g7 10), .inl (cy 0, 12, .inl (fun _ => 0))), ((g7 11), .inl (cy 0, 12, .inl (fun _ => 0))), (q8, .inr (7, [.ref (g9 0), .ref (g9 1), .ref (g9 2), .ref (g9 3), .ref (g9 4), .ref (g9 5)])), ((g9 0), .inl (cy 0, 4, .inl (upd (upd (upd (upd (fun _ => 0) 0 1) 1 2) 2 2) 3 3))), ((g9 1), .inl (cy 0, 25, .inl (fun _ => 0))), ((g9 2), .inl (cy 0, 512, .inl (fun _ => 0))), ((g9 3), .inl (cy 0, 512, .inl (fun _ => 0))), ((g9 4), .inl (cy 2, 512, .inl (fun _ => 0))), ((g9 5), .inl (cy 0, 512, .inl (fun _ => 0))), (q10, .inr (5, [.int 0, .ref (g11 0), .long 0, .int 0])), ((g11 0), .inl (cy 0, 512, .inl (fun _ => 0))), (q12, .inr (3, [.int 0, .int 0, .int 0, .int 0, .long 0, .int 0, .int 0, .int 0])), (q14, .inl (cy 3, 4, .inr (.inr (.inr (.inr (va_up (va_up (va_up (va_up (fun _ => none) 0 (some q15)) 1 (some q17)) 2 (some q19)) 3 (some q21))))))), (q15, .inr (4, [.ref (g16 0), .int (-1), .int 0, .long 0])), ((g16 0), .inl (cy 1, 20, .inr (.inl (fun _ => 0)))), (q17, .inr (4, [.ref (g18 0), .int (-1), .int 0, .long 0])), ((g18 0), .inl (cy 1, 20, .inr (.inl (fun _ => 0)))), (q19, .inr (4, [.ref (g20 0), .int (-1), .int 0, .long 0])), ((g20 0), .inl (cy 1, 20, .inr (.inl (fun _ => 0)))), (q21, .inr (4, [.ref (g22 0), .int (-1), .int 0, .long 0])), ((g22 0), .inl (cy 1, 20, .inr (.inl (fun _ => 0))))] H := hP
  have hD : va_D A [(h0, .inr (8, [.ref q0, .ref q2, .ref q4, .ref q6, .ref q8, .ref q10, .ref q12, .ref q14, .null])), (q0, .inr (6, [.ref (g1 0), .int 0, .long 0])), ((g1 0), .inl (cy 0, 40, .inl (fun _ => 0))), (q2, .inr (2, [.ref (g3 0), .ref (g3 1), .int 0])), ((g3 0), .inl (cy 0, 12, .inl (fun _ => 0))), ((g3 1), .inl (cy 1, 12, .inr (.inl (fun _ => 0)))), (q4, .inr (0, [.ref (g5 0), .int 0])), ((g5 0), .inl (cy 1, 20, .inr (.inl (fun _ => 0)))), (q6, .inr (1, [.ref (g7 0), .ref (g7 1), .ref (g7 2), .ref (g7 3), .ref (g7 4), .int 0, .int 0, .int 0, .ref (g7 5), .ref (g7 6), .ref (g7 7), .ref (g7 8), .ref (g7 9), .ref (g7 10), .ref (g7 11)])), ((g7 0), .inl (cy 0, 512, .inl (fun _ => 0))), ((g7 1), .inl (cy 0, 512, .inl (fun _ => 0))), ((g7 2), .inl (cy 0, 512, .inl (fun _ => 0))), ((g7 3), .inl (cy 2, 512, .inl (fun _ => 0))), ((g7 4), .inl (cy 0, 12, .inl (fun _ => 0))), ((g7 5), .inl (cy 0, 512, .inl (fun _ => 0))), ((g7 6), .inl (cy 0, 512, .inl (fun _ => 0))), ((g7 7), .inl (cy 2, 512, .inl (fun _ => 0))), ((g7 8), .inl (cy 0, 12, .inl (fun _ => 0))), ((g7 9), .inl (cy 0, 12, .inl (fun _ => 0))), ((g7 10), .inl (cy 0, 12, .inl (fun _ => 0))), ((g7 11), .inl (cy 0, 12, .inl (fun _ => 0))), (q8, .inr (7, [.ref (g9 0), .ref (g9 1), .ref (g9 2), .ref (g9 3), .ref (g9 4), .ref (g9 5)])), ((g9 0), .inl (cy 0, 4, .inl (upd (upd (upd (upd (fun _ => 0) 0 1) 1 2) 2 2) 3 3))), ((g9 1), .inl (cy 0, 25, .inl (fun _ => 0))), ((g9 2), .inl (cy 0, 512, .inl (fun _ => 0))), ((g9 3), .inl (cy 0, 512, .inl (fun _ => 0))), ((g9 4), .inl (cy 2, 512, .inl (fun _ => 0))), ((g9 5), .inl (cy 0, 512, .inl (fun _ => 0))), (q10, .inr (5, [.int 0, .ref (g11 0), .long 0, .int 0])), ((g11 0), .inl (cy 0, 512, .inl (fun _ => 0))), (q12, .inr (3, [.int 0, .int 0, .int 0, .int 0, .long 0, .int 0, .int 0, .int 0])), (q14, .inl (cy 3, 4, .inr (.inr (.inr (.inr (va_up (va_up (va_up (va_up (fun _ => none) 0 (some q15)) 1 (some q17)) 2 (some q19)) 3 (some q21))))))), (q15, .inr (4, [.ref (g16 0), .int (-1), .int 0, .long 0])), ((g16 0), .inl (cy 1, 20, .inr (.inl (fun _ => 0)))), (q17, .inr (4, [.ref (g18 0), .int (-1), .int 0, .long 0])), ((g18 0), .inl (cy 1, 20, .inr (.inl (fun _ => 0)))), (q19, .inr (4, [.ref (g20 0), .int (-1), .int 0, .long 0])), ((g20 0), .inl (cy 1, 20, .inr (.inl (fun _ => 0)))), (q21, .inr (4, [.ref (g22 0), .int (-1), .int 0, .long 0])), ((g22 0), .inl (cy 1, 20, .inr (.inl (fun _ => 0))))] := hD
  refine lv_iinc (v := 4) (lv' := [(1, .int 4), (0, .ref h0)]) hx hb dX9_init_109 hl (k := 0) rfl (by decide) (by decide) rfl (fun ls hl => ?_)
  refine lv_goto (tgt := 91) hx hb dX9_init_112 (by decide) ?_
  refine lv_iload_n hx hb dX9_init_91 rfl (lv_at hl 0 rfl) ?_
  refine lv_iconst (v := 4) hx hb dX9_init_92 (by decide) ?_
  refine lv_icmp_ge (tgt := 115) hx hb dX9_init_93 (by decide) (fun _ => ?_) (fun z => absurd (by decide) z)
  refine lv_aload_n hx hb dX9_init_115 rfl (lv_at hl 1 rfl) ?_
  refine lv_bipush (v := 13) hx hb dX9_init_116 (by decide) ?_
  refine nwA (atype := .long) (t0 := 1) (N' := 13) (a0 := (13, .inr (.inl (fun _ => 0)))) hx hb (hts (.arrayClass .long) (inT_mem (by decide +kernel))) rfl hK rfl hP hD hS hA (fun _ => rfl) (by decide) (by decide) (Nat.le_of_ble_eq_true rfl) (Nat.le_of_ble_eq_true rfl) (Nat.le_of_ble_eq_true rfl) dX9_init_118 (fun q23 H hP hD hS => ?_)
  have hP : va_P D clsL [(h0, .inr (8, [.ref q0, .ref q2, .ref q4, .ref q6, .ref q8, .ref q10, .ref q12, .ref q14, .null])), (q0, .inr (6, [.ref (g1 0), .int 0, .long 0])), ((g1 0), .inl (cy 0, 40, .inl (fun _ => 0))), (q2, .inr (2, [.ref (g3 0), .ref (g3 1), .int 0])), ((g3 0), .inl (cy 0, 12, .inl (fun _ => 0))), ((g3 1), .inl (cy 1, 12, .inr (.inl (fun _ => 0)))), (q4, .inr (0, [.ref (g5 0), .int 0])), ((g5 0), .inl (cy 1, 20, .inr (.inl (fun _ => 0)))), (q6, .inr (1, [.ref (g7 0), .ref (g7 1), .ref (g7 2), .ref (g7 3), .ref (g7 4), .int 0, .int 0, .int 0, .ref (g7 5), .ref (g7 6), .ref (g7 7), .ref (g7 8), .ref (g7 9), .ref (g7 10), .ref (g7 11)])), ((g7 0), .inl (cy 0, 512, .inl (fun _ => 0))), ((g7 1), .inl (cy 0, 512, .inl (fun _ => 0))), ((g7 2), .inl (cy 0, 512, .inl (fun _ => 0))), ((g7 3), .inl (cy 2, 512, .inl (fun _ => 0))), ((g7 4), .inl (cy 0, 12, .inl (fun _ => 0))), ((g7 5), .inl (cy 0, 512, .inl (fun _ => 0))), ((g7 6), .inl (cy 0, 512, .inl (fun _ => 0))), ((g7 7), .inl (cy 2, 512, .inl (fun _ => 0))), ((g7 8), .inl (cy 0, 12, .inl (fun _ => 0))), ((g7 9), .inl (cy 0, 12, .inl (fun _ => 0))), ((g7 10), .inl (cy 0, 12, .inl (fun _ => 0))), ((g7 11), .inl (cy 0, 12, .inl (fun _ => 0))), (q8, .inr (7, [.ref (g9 0), .ref (g9 1), .ref (g9 2), .ref (g9 3), .ref (g9 4), .ref (g9 5)])), ((g9 0), .inl (cy 0, 4, .inl (upd (upd (upd (upd (fun _ => 0) 0 1) 1 2) 2 2) 3 3))), ((g9 1), .inl (cy 0, 25, .inl (fun _ => 0))), ((g9 2), .inl (cy 0, 512, .inl (fun _ => 0))), ((g9 3), .inl (cy 0, 512, .inl (fun _ => 0))), ((g9 4), .inl (cy 2, 512, .inl (fun _ => 0))), ((g9 5), .inl (cy 0, 512, .inl (fun _ => 0))), (q10, .inr (5, [.int 0, .ref (g11 0), .long 0, .int 0])), ((g11 0), .inl (cy 0, 512, .inl (fun _ => 0))), (q12, .inr (3, [.int 0, .int 0, .int 0, .int 0, .long 0, .int 0, .int 0, .int 0])), (q14, .inl (cy 3, 4, .inr (.inr (.inr (.inr (va_up (va_up (va_up (va_up (fun _ => none) 0 (some q15)) 1 (some q17)) 2 (some q19)) 3 (some q21))))))), (q15, .inr (4, [.ref (g16 0), .int (-1), .int 0, .long 0])), ((g16 0), .inl (cy 1, 20, .inr (.inl (fun _ => 0)))), (q17, .inr (4, [.ref (g18 0), .int (-1), .int 0, .long 0])), ((g18 0), .inl (cy 1, 20, .inr (.inl (fun _ => 0)))), (q19, .inr (4, [.ref (g20 0), .int (-1), .int 0, .long 0])), ((g20 0), .inl (cy 1, 20, .inr (.inl (fun _ => 0)))), (q21, .inr (4, [.ref (g22 0), .int (-1), .int 0, .long 0])), ((g22 0), .inl (cy 1, 20, .inr (.inl (fun _ => 0)))), (q23, .inl (cy 1, 13, .inr (.inl (fun _ => 0))))] H := hP
  have hD : va_D A [(h0, .inr (8, [.ref q0, .ref q2, .ref q4, .ref q6, .ref q8, .ref q10, .ref q12, .ref q14, .null])), (q0, .inr (6, [.ref (g1 0), .int 0, .long 0])), ((g1 0), .inl (cy 0, 40, .inl (fun _ => 0))), (q2, .inr (2, [.ref (g3 0), .ref (g3 1), .int 0])), ((g3 0), .inl (cy 0, 12, .inl (fun _ => 0))), ((g3 1), .inl (cy 1, 12, .inr (.inl (fun _ => 0)))), (q4, .inr (0, [.ref (g5 0), .int 0])), ((g5 0), .inl (cy 1, 20, .inr (.inl (fun _ => 0)))), (q6, .inr (1, [.ref (g7 0), .ref (g7 1), .ref (g7 2), .ref (g7 3), .ref (g7 4), .int 0, .int 0, .int 0, .ref (g7 5), .ref (g7 6), .ref (g7 7), .ref (g7 8), .ref (g7 9), .ref (g7 10), .ref (g7 11)])), ((g7 0), .inl (cy 0, 512, .inl (fun _ => 0))), ((g7 1), .inl (cy 0, 512, .inl (fun _ => 0))), ((g7 2), .inl (cy 0, 512, .inl (fun _ => 0))), ((g7 3), .inl (cy 2, 512, .inl (fun _ => 0))), ((g7 4), .inl (cy 0, 12, .inl (fun _ => 0))), ((g7 5), .inl (cy 0, 512, .inl (fun _ => 0))), ((g7 6), .inl (cy 0, 512, .inl (fun _ => 0))), ((g7 7), .inl (cy 2, 512, .inl (fun _ => 0))), ((g7 8), .inl (cy 0, 12, .inl (fun _ => 0))), ((g7 9), .inl (cy 0, 12, .inl (fun _ => 0))), ((g7 10), .inl (cy 0, 12, .inl (fun _ => 0))), ((g7 11), .inl (cy 0, 12, .inl (fun _ => 0))), (q8, .inr (7, [.ref (g9 0), .ref (g9 1), .ref (g9 2), .ref (g9 3), .ref (g9 4), .ref (g9 5)])), ((g9 0), .inl (cy 0, 4, .inl (upd (upd (upd (upd (fun _ => 0) 0 1) 1 2) 2 2) 3 3))), ((g9 1), .inl (cy 0, 25, .inl (fun _ => 0))), ((g9 2), .inl (cy 0, 512, .inl (fun _ => 0))), ((g9 3), .inl (cy 0, 512, .inl (fun _ => 0))), ((g9 4), .inl (cy 2, 512, .inl (fun _ => 0))), ((g9 5), .inl (cy 0, 512, .inl (fun _ => 0))), (q10, .inr (5, [.int 0, .ref (g11 0), .long 0, .int 0])), ((g11 0), .inl (cy 0, 512, .inl (fun _ => 0))), (q12, .inr (3, [.int 0, .int 0, .int 0, .int 0, .long 0, .int 0, .int 0, .int 0])), (q14, .inl (cy 3, 4, .inr (.inr (.inr (.inr (va_up (va_up (va_up (va_up (fun _ => none) 0 (some q15)) 1 (some q17)) 2 (some q19)) 3 (some q21))))))), (q15, .inr (4, [.ref (g16 0), .int (-1), .int 0, .long 0])), ((g16 0), .inl (cy 1, 20, .inr (.inl (fun _ => 0)))), (q17, .inr (4, [.ref (g18 0), .int (-1), .int 0, .long 0])), ((g18 0), .inl (cy 1, 20, .inr (.inl (fun _ => 0)))), (q19, .inr (4, [.ref (g20 0), .int (-1), .int 0, .long 0])), ((g20 0), .inl (cy 1, 20, .inr (.inl (fun _ => 0)))), (q21, .inr (4, [.ref (g22 0), .int (-1), .int 0, .long 0])), ((g22 0), .inl (cy 1, 20, .inr (.inl (fun _ => 0)))), (q23, .inl (cy 1, 13, .inr (.inl (fun _ => 0))))] := hD
  refine W.widen (k := 40) (n := 6471) (Nat.le_of_ble_eq_true rfl) (Nat.le_of_ble_eq_true rfl) ?_
  refine va_putF (D := D) (ci := 8) (v := .ref q23) (ty := .array .long) (C := RX9) (T := TX9) (N := 9) hx hb hts (inW inX9 (by decide +kernel)) tyX9 tyX9_ok nmX9 hown hK hP hD hS 0 rfl rfl 8 (by decide) (hts (.fieldLink RX9 67 "AdderChooser" "live" "[J") (inT_mem (by decide +kernel))) (fun _ h9 => h9) rfl hin rfl (by decide +kernel) rfl rfl (Nat.le_of_ble_eq_true rfl) dX9_init_120 (fun H _ hP hD hS => ?_)
  have hP : va_P D clsL [(h0, .inr (8, [.ref q0, .ref q2, .ref q4, .ref q6, .ref q8, .ref q10, .ref q12, .ref q14, .ref q23])), (q0, .inr (6, [.ref (g1 0), .int 0, .long 0])), ((g1 0), .inl (cy 0, 40, .inl (fun _ => 0))), (q2, .inr (2, [.ref (g3 0), .ref (g3 1), .int 0])), ((g3 0), .inl (cy 0, 12, .inl (fun _ => 0))), ((g3 1), .inl (cy 1, 12, .inr (.inl (fun _ => 0)))), (q4, .inr (0, [.ref (g5 0), .int 0])), ((g5 0), .inl (cy 1, 20, .inr (.inl (fun _ => 0)))), (q6, .inr (1, [.ref (g7 0), .ref (g7 1), .ref (g7 2), .ref (g7 3), .ref (g7 4), .int 0, .int 0, .int 0, .ref (g7 5), .ref (g7 6), .ref (g7 7), .ref (g7 8), .ref (g7 9), .ref (g7 10), .ref (g7 11)])), ((g7 0), .inl (cy 0, 512, .inl (fun _ => 0))), ((g7 1), .inl (cy 0, 512, .inl (fun _ => 0))), ((g7 2), .inl (cy 0, 512, .inl (fun _ => 0))), ((g7 3), .inl (cy 2, 512, .inl (fun _ => 0))), ((g7 4), .inl (cy 0, 12, .inl (fun _ => 0))), ((g7 5), .inl (cy 0, 512, .inl (fun _ => 0))), ((g7 6), .inl (cy 0, 512, .inl (fun _ => 0))), ((g7 7), .inl (cy 2, 512, .inl (fun _ => 0))), ((g7 8), .inl (cy 0, 12, .inl (fun _ => 0))), ((g7 9), .inl (cy 0, 12, .inl (fun _ => 0))), ((g7 10), .inl (cy 0, 12, .inl (fun _ => 0))), ((g7 11), .inl (cy 0, 12, .inl (fun _ => 0))), (q8, .inr (7, [.ref (g9 0), .ref (g9 1), .ref (g9 2), .ref (g9 3), .ref (g9 4), .ref (g9 5)])), ((g9 0), .inl (cy 0, 4, .inl (upd (upd (upd (upd (fun _ => 0) 0 1) 1 2) 2 2) 3 3))), ((g9 1), .inl (cy 0, 25, .inl (fun _ => 0))), ((g9 2), .inl (cy 0, 512, .inl (fun _ => 0))), ((g9 3), .inl (cy 0, 512, .inl (fun _ => 0))), ((g9 4), .inl (cy 2, 512, .inl (fun _ => 0))), ((g9 5), .inl (cy 0, 512, .inl (fun _ => 0))), (q10, .inr (5, [.int 0, .ref (g11 0), .long 0, .int 0])), ((g11 0), .inl (cy 0, 512, .inl (fun _ => 0))), (q12, .inr (3, [.int 0, .int 0, .int 0, .int 0, .long 0, .int 0, .int 0, .int 0])), (q14, .inl (cy 3, 4, .inr (.inr (.inr (.inr (va_up (va_up (va_up (va_up (fun _ => none) 0 (some q15)) 1 (some q17)) 2 (some q19)) 3 (some q21))))))), (q15, .inr (4, [.ref (g16 0), .int (-1), .int 0, .long 0])), ((g16 0), .inl (cy 1, 20, .inr (.inl (fun _ => 0)))), (q17, .inr (4, [.ref (g18 0), .int (-1), .int 0, .long 0])), ((g18 0), .inl (cy 1, 20, .inr (.inl (fun _ => 0)))), (q19, .inr (4, [.ref (g20 0), .int (-1), .int 0, .long 0])), ((g20 0), .inl (cy 1, 20, .inr (.inl (fun _ => 0)))), (q21, .inr (4, [.ref (g22 0), .int (-1), .int 0, .long 0])), ((g22 0), .inl (cy 1, 20, .inr (.inl (fun _ => 0)))), (q23, .inl (cy 1, 13, .inr (.inl (fun _ => 0))))] H := hP
  have hD : va_D A [(h0, .inr (8, [.ref q0, .ref q2, .ref q4, .ref q6, .ref q8, .ref q10, .ref q12, .ref q14, .ref q23])), (q0, .inr (6, [.ref (g1 0), .int 0, .long 0])), ((g1 0), .inl (cy 0, 40, .inl (fun _ => 0))), (q2, .inr (2, [.ref (g3 0), .ref (g3 1), .int 0])), ((g3 0), .inl (cy 0, 12, .inl (fun _ => 0))), ((g3 1), .inl (cy 1, 12, .inr (.inl (fun _ => 0)))), (q4, .inr (0, [.ref (g5 0), .int 0])), ((g5 0), .inl (cy 1, 20, .inr (.inl (fun _ => 0)))), (q6, .inr (1, [.ref (g7 0), .ref (g7 1), .ref (g7 2), .ref (g7 3), .ref (g7 4), .int 0, .int 0, .int 0, .ref (g7 5), .ref (g7 6), .ref (g7 7), .ref (g7 8), .ref (g7 9), .ref (g7 10), .ref (g7 11)])), ((g7 0), .inl (cy 0, 512, .inl (fun _ => 0))), ((g7 1), .inl (cy 0, 512, .inl (fun _ => 0))), ((g7 2), .inl (cy 0, 512, .inl (fun _ => 0))), ((g7 3), .inl (cy 2, 512, .inl (fun _ => 0))), ((g7 4), .inl (cy 0, 12, .inl (fun _ => 0))), ((g7 5), .inl (cy 0, 512, .inl (fun _ => 0))), ((g7 6), .inl (cy 0, 512, .inl (fun _ => 0))), ((g7 7), .inl (cy 2, 512, .inl (fun _ => 0))), ((g7 8), .inl (cy 0, 12, .inl (fun _ => 0))), ((g7 9), .inl (cy 0, 12, .inl (fun _ => 0))), ((g7 10), .inl (cy 0, 12, .inl (fun _ => 0))), ((g7 11), .inl (cy 0, 12, .inl (fun _ => 0))), (q8, .inr (7, [.ref (g9 0), .ref (g9 1), .ref (g9 2), .ref (g9 3), .ref (g9 4), .ref (g9 5)])), ((g9 0), .inl (cy 0, 4, .inl (upd (upd (upd (upd (fun _ => 0) 0 1) 1 2) 2 2) 3 3))), ((g9 1), .inl (cy 0, 25, .inl (fun _ => 0))), ((g9 2), .inl (cy 0, 512, .inl (fun _ => 0))), ((g9 3), .inl (cy 0, 512, .inl (fun _ => 0))), ((g9 4), .inl (cy 2, 512, .inl (fun _ => 0))), ((g9 5), .inl (cy 0, 512, .inl (fun _ => 0))), (q10, .inr (5, [.int 0, .ref (g11 0), .long 0, .int 0])), ((g11 0), .inl (cy 0, 512, .inl (fun _ => 0))), (q12, .inr (3, [.int 0, .int 0, .int 0, .int 0, .long 0, .int 0, .int 0, .int 0])), (q14, .inl (cy 3, 4, .inr (.inr (.inr (.inr (va_up (va_up (va_up (va_up (fun _ => none) 0 (some q15)) 1 (some q17)) 2 (some q19)) 3 (some q21))))))), (q15, .inr (4, [.ref (g16 0), .int (-1), .int 0, .long 0])), ((g16 0), .inl (cy 1, 20, .inr (.inl (fun _ => 0)))), (q17, .inr (4, [.ref (g18 0), .int (-1), .int 0, .long 0])), ((g18 0), .inl (cy 1, 20, .inr (.inl (fun _ => 0)))), (q19, .inr (4, [.ref (g20 0), .int (-1), .int 0, .long 0])), ((g20 0), .inl (cy 1, 20, .inr (.inl (fun _ => 0)))), (q21, .inr (4, [.ref (g22 0), .int (-1), .int 0, .long 0])), ((g22 0), .inl (cy 1, 20, .inr (.inl (fun _ => 0)))), (q23, .inl (cy 1, 13, .inr (.inl (fun _ => 0))))] := hD
  exact W.vret hx hb hr (fun t ht hW => ⟨⟨(fun i => ([q0, (g1 0), q2, (g3 0), (g3 1), q4, (g5 0), q6, (g7 0), (g7 1), (g7 2), (g7 3), (g7 4), (g7 5), (g7 6), (g7 7), (g7 8), (g7 9), (g7 10), (g7 11), q8, (g9 0), (g9 1), (g9 2), (g9 3), (g9 4), (g9 5), q10, (g11 0), q12, q14, q15, (g16 0), q17, (g18 0), q19, (g20 0), q21, (g22 0), q23] : List Nat).getD i 0), rfl, trivial, by rw [ht]; exact hP, va_K.moved hW.alike hK, hD⟩, hS.F ht⟩) hS.2.2 dX9_init_123
theorem dX10_init_0 : decode cX10_init 0 = .ok (.aload_n 0, 1) := by decide +kernel
theorem dX10_init_1 : decode cX10_init 1 = .ok (.invokespecial 3, 3) := by decide +kernel
theorem dX10_init_4 : decode cX10_init 4 = .ok (.aload_n 0, 1) := by decide +kernel
theorem dX10_init_5 : decode cX10_init 5 = .ok (.bipush 48, 2) := by decide +kernel
theorem dX10_init_7 : decode cX10_init 7 = .ok (.newarray .int, 2) := by decide +kernel
theorem dX10_init_9 : decode cX10_init 9 = .ok (.putfield 11, 3) := by decide +kernel
theorem dX10_init_12 : decode cX10_init 12 = .ok (.aload_n 0, 1) := by decide +kernel
theorem dX10_init_13 : decode cX10_init 13 = .ok (.bipush 12, 2) := by decide +kernel
theorem dX10_init_15 : decode cX10_init 15 = .ok (.newarray .int, 2) := by decide +kernel
theorem dX10_init_17 : decode cX10_init 17 = .ok (.putfield 15, 3) := by decide +kernel
theorem dX10_init_20 : decode cX10_init 20 = .ok (.aload_n 0, 1) := by decide +kernel
theorem dX10_init_21 : decode cX10_init 21 = .ok (.bipush 96, 2) := by decide +kernel
theorem dX10_init_23 : decode cX10_init 23 = .ok (.newarray .int, 2) := by decide +kernel
theorem dX10_init_25 : decode cX10_init 25 = .ok (.putfield 18, 3) := by decide +kernel
theorem dX10_init_28 : decode cX10_init 28 = .ok (.aload_n 0, 1) := by decide +kernel
theorem dX10_init_29 : decode cX10_init 29 = .ok (.bipush 12, 2) := by decide +kernel
theorem dX10_init_31 : decode cX10_init 31 = .ok (.newarray .int, 2) := by decide +kernel
theorem dX10_init_33 : decode cX10_init 33 = .ok (.putfield 21, 3) := by decide +kernel
theorem dX10_init_36 : decode cX10_init 36 = .ok (.aload_n 0, 1) := by decide +kernel
theorem dX10_init_37 : decode cX10_init 37 = .ok (.bipush 40, 2) := by decide +kernel
theorem dX10_init_39 : decode cX10_init 39 = .ok (.newarray .int, 2) := by decide +kernel
theorem dX10_init_41 : decode cX10_init 41 = .ok (.putfield 24, 3) := by decide +kernel
theorem dX10_init_44 : decode cX10_init 44 = .ok (.aload_n 0, 1) := by decide +kernel
theorem dX10_init_45 : decode cX10_init 45 = .ok (.iconst 4, 1) := by decide +kernel
theorem dX10_init_46 : decode cX10_init 46 = .ok (.newarray .int, 2) := by decide +kernel
theorem dX10_init_48 : decode cX10_init 48 = .ok (.putfield 27, 3) := by decide +kernel
theorem dX10_init_51 : decode cX10_init 51 = .ok (.aload_n 0, 1) := by decide +kernel
theorem dX10_init_52 : decode cX10_init 52 = .ok (.bipush 8, 2) := by decide +kernel
theorem dX10_init_54 : decode cX10_init 54 = .ok (.newarray .int, 2) := by decide +kernel
theorem dX10_init_56 : decode cX10_init 56 = .ok (.putfield 30, 3) := by decide +kernel
theorem dX10_init_59 : decode cX10_init 59 = .ok (.aload_n 0, 1) := by decide +kernel
theorem dX10_init_60 : decode cX10_init 60 = .ok (.sipush 168, 3) := by decide +kernel
theorem dX10_init_63 : decode cX10_init 63 = .ok (.newarray .int, 2) := by decide +kernel
theorem dX10_init_65 : decode cX10_init 65 = .ok (.putfield 33, 3) := by decide +kernel
theorem dX10_init_68 : decode cX10_init 68 = .ok (.aload_n 0, 1) := by decide +kernel
theorem dX10_init_69 : decode cX10_init 69 = .ok (.bipush 21, 2) := by decide +kernel
theorem dX10_init_71 : decode cX10_init 71 = .ok (.newarray .int, 2) := by decide +kernel
theorem dX10_init_73 : decode cX10_init 73 = .ok (.putfield 36, 3) := by decide +kernel
theorem dX10_init_76 : decode cX10_init 76 = .ok (.aload_n 0, 1) := by decide +kernel
theorem dX10_init_77 : decode cX10_init 77 = .ok (.iconst 4, 1) := by decide +kernel
theorem dX10_init_78 : decode cX10_init 78 = .ok (.newarray .int, 2) := by decide +kernel
theorem dX10_init_80 : decode cX10_init 80 = .ok (.dup, 1) := by decide +kernel
theorem dX10_init_81 : decode cX10_init 81 = .ok (.iconst 0, 1) := by decide +kernel
theorem dX10_init_82 : decode cX10_init 82 = .ok (.iconst 1, 1) := by decide +kernel
theorem dX10_init_83 : decode cX10_init 83 = .ok (.iastore, 1) := by decide +kernel
theorem dX10_init_84 : decode cX10_init 84 = .ok (.dup, 1) := by decide +kernel
theorem dX10_init_85 : decode cX10_init 85 = .ok (.iconst 1, 1) := by decide +kernel
theorem dX10_init_86 : decode cX10_init 86 = .ok (.iconst 2, 1) := by decide +kernel
theorem dX10_init_87 : decode cX10_init 87 = .ok (.iastore, 1) := by decide +kernel
theorem dX10_init_88 : decode cX10_init 88 = .ok (.dup, 1) := by decide +kernel
theorem dX10_init_89 : decode cX10_init 89 = .ok (.iconst 2, 1) := by decide +kernel
theorem dX10_init_90 : decode cX10_init 90 = .ok (.iconst 2, 1) := by decide +kernel
theorem dX10_init_91 : decode cX10_init 91 = .ok (.iastore, 1) := by decide +kernel
theorem dX10_init_92 : decode cX10_init 92 = .ok (.dup, 1) := by decide +kernel
theorem dX10_init_93 : decode cX10_init 93 = .ok (.iconst 3, 1) := by decide +kernel
theorem dX10_init_94 : decode cX10_init 94 = .ok (.iconst 3, 1) := by decide +kernel
theorem dX10_init_95 : decode cX10_init 95 = .ok (.iastore, 1) := by decide +kernel
theorem dX10_init_96 : decode cX10_init 96 = .ok (.putfield 39, 3) := by decide +kernel
theorem dX10_init_99 : decode cX10_init 99 = .ok (.aload_n 0, 1) := by decide +kernel
theorem dX10_init_100 : decode cX10_init 100 = .ok (.bipush 25, 2) := by decide +kernel
theorem dX10_init_102 : decode cX10_init 102 = .ok (.newarray .int, 2) := by decide +kernel
theorem dX10_init_104 : decode cX10_init 104 = .ok (.putfield 42, 3) := by decide +kernel
theorem dX10_init_107 : decode cX10_init 107 = .ok (.aload_n 0, 1) := by decide +kernel
theorem dX10_init_108 : decode cX10_init 108 = .ok (.sipush 2048, 3) := by decide +kernel
theorem dX10_init_111 : decode cX10_init 111 = .ok (.newarray .int, 2) := by decide +kernel
theorem dX10_init_113 : decode cX10_init 113 = .ok (.putfield 45, 3) := by decide +kernel
theorem dX10_init_116 : decode cX10_init 116 = .ok (.aload_n 0, 1) := by decide +kernel
theorem dX10_init_117 : decode cX10_init 117 = .ok (.sipush 2048, 3) := by decide +kernel
theorem dX10_init_120 : decode cX10_init 120 = .ok (.newarray .int, 2) := by decide +kernel
theorem dX10_init_122 : decode cX10_init 122 = .ok (.putfield 48, 3) := by decide +kernel
theorem dX10_init_125 : decode cX10_init 125 = .ok (.aload_n 0, 1) := by decide +kernel
theorem dX10_init_126 : decode cX10_init 126 = .ok (.sipush 2048, 3) := by decide +kernel
theorem dX10_init_129 : decode cX10_init 129 = .ok (.newarray .int, 2) := by decide +kernel
theorem dX10_init_131 : decode cX10_init 131 = .ok (.putfield 51, 3) := by decide +kernel
theorem dX10_init_134 : decode cX10_init 134 = .ok (.aload_n 0, 1) := by decide +kernel
theorem dX10_init_135 : decode cX10_init 135 = .ok (.sipush 2048, 3) := by decide +kernel
theorem dX10_init_138 : decode cX10_init 138 = .ok (.newarray .int, 2) := by decide +kernel
theorem dX10_init_140 : decode cX10_init 140 = .ok (.putfield 54, 3) := by decide +kernel
theorem dX10_init_143 : decode cX10_init 143 = .ok (.aload_n 0, 1) := by decide +kernel
theorem dX10_init_144 : decode cX10_init 144 = .ok (.sipush 2048, 3) := by decide +kernel
theorem dX10_init_147 : decode cX10_init 147 = .ok (.newarray .int, 2) := by decide +kernel
theorem dX10_init_149 : decode cX10_init 149 = .ok (.putfield 57, 3) := by decide +kernel
theorem dX10_init_152 : decode cX10_init 152 = .ok (.aload_n 0, 1) := by decide +kernel
theorem dX10_init_153 : decode cX10_init 153 = .ok (.sipush 2048, 3) := by decide +kernel
theorem dX10_init_156 : decode cX10_init 156 = .ok (.newarray .int, 2) := by decide +kernel
theorem dX10_init_158 : decode cX10_init 158 = .ok (.putfield 60, 3) := by decide +kernel
theorem dX10_init_161 : decode cX10_init 161 = .ok (.aload_n 0, 1) := by decide +kernel
theorem dX10_init_162 : decode cX10_init 162 = .ok (.sipush 2048, 3) := by decide +kernel
theorem dX10_init_165 : decode cX10_init 165 = .ok (.newarray .int, 2) := by decide +kernel
theorem dX10_init_167 : decode cX10_init 167 = .ok (.putfield 63, 3) := by decide +kernel
theorem dX10_init_170 : decode cX10_init 170 = .ok (.aload_n 0, 1) := by decide +kernel
theorem dX10_init_171 : decode cX10_init 171 = .ok (.bipush 13, 2) := by decide +kernel
theorem dX10_init_173 : decode cX10_init 173 = .ok (.newarray .int, 2) := by decide +kernel
theorem dX10_init_175 : decode cX10_init 175 = .ok (.putfield 66, 3) := by decide +kernel
theorem dX10_init_178 : decode cX10_init 178 = .ok (.aload_n 0, 1) := by decide +kernel
theorem dX10_init_179 : decode cX10_init 179 = .ok (.bipush 12, 2) := by decide +kernel
theorem dX10_init_181 : decode cX10_init 181 = .ok (.newarray .int, 2) := by decide +kernel
theorem dX10_init_183 : decode cX10_init 183 = .ok (.putfield 69, 3) := by decide +kernel
theorem dX10_init_186 : decode cX10_init 186 = .ok (.aload_n 0, 1) := by decide +kernel
theorem dX10_init_187 : decode cX10_init 187 = .ok (.bipush 12, 2) := by decide +kernel
theorem dX10_init_189 : decode cX10_init 189 = .ok (.newarray .int, 2) := by decide +kernel
theorem dX10_init_191 : decode cX10_init 191 = .ok (.putfield 72, 3) := by decide +kernel
theorem dX10_init_194 : decode cX10_init 194 = .ok (.aload_n 0, 1) := by decide +kernel
theorem dX10_init_195 : decode cX10_init 195 = .ok (.bipush 8, 2) := by decide +kernel
theorem dX10_init_197 : decode cX10_init 197 = .ok (.newarray .int, 2) := by decide +kernel
theorem dX10_init_199 : decode cX10_init 199 = .ok (.putfield 75, 3) := by decide +kernel
theorem dX10_init_202 : decode cX10_init 202 = .ok (.aload_n 0, 1) := by decide +kernel
theorem dX10_init_203 : decode cX10_init 203 = .ok (.bipush 8, 2) := by decide +kernel
theorem dX10_init_205 : decode cX10_init 205 = .ok (.newarray .int, 2) := by decide +kernel
theorem dX10_init_207 : decode cX10_init 207 = .ok (.putfield 78, 3) := by decide +kernel
theorem dX10_init_210 : decode cX10_init 210 = .ok (.aload_n 0, 1) := by decide +kernel
theorem dX10_init_211 : decode cX10_init 211 = .ok (.bipush 14, 2) := by decide +kernel
theorem dX10_init_213 : decode cX10_init 213 = .ok (.newarray .long, 2) := by decide +kernel
theorem dX10_init_215 : decode cX10_init 215 = .ok (.putfield 81, 3) := by decide +kernel
theorem dX10_init_218 : decode cX10_init 218 = .ok (.aload_n 0, 1) := by decide +kernel
theorem dX10_init_219 : decode cX10_init 219 = .ok (.bipush 14, 2) := by decide +kernel
theorem dX10_init_221 : decode cX10_init 221 = .ok (.newarray .long, 2) := by decide +kernel
theorem dX10_init_223 : decode cX10_init 223 = .ok (.putfield 85, 3) := by decide +kernel
theorem dX10_init_226 : decode cX10_init 226 = .ok (.aload_n 0, 1) := by decide +kernel
theorem dX10_init_227 : decode cX10_init 227 = .ok (.iconst 4, 1) := by decide +kernel
theorem dX10_init_228 : decode cX10_init 228 = .ok (.newarray .int, 2) := by decide +kernel
theorem dX10_init_230 : decode cX10_init 230 = .ok (.dup, 1) := by decide +kernel
theorem dX10_init_231 : decode cX10_init 231 = .ok (.iconst 0, 1) := by decide +kernel
theorem dX10_init_232 : decode cX10_init 232 = .ok (.iconst (-1), 1) := by decide +kernel
theorem dX10_init_233 : decode cX10_init 233 = .ok (.iastore, 1) := by decide +kernel
theorem dX10_init_234 : decode cX10_init 234 = .ok (.dup, 1) := by decide +kernel
theorem dX10_init_235 : decode cX10_init 235 = .ok (.iconst 1, 1) := by decide +kernel
theorem dX10_init_236 : decode cX10_init 236 = .ok (.iconst (-1), 1) := by decide +kernel
theorem dX10_init_237 : decode cX10_init 237 = .ok (.iastore, 1) := by decide +kernel
theorem dX10_init_238 : decode cX10_init 238 = .ok (.dup, 1) := by decide +kernel
theorem dX10_init_239 : decode cX10_init 239 = .ok (.iconst 2, 1) := by decide +kernel
theorem dX10_init_240 : decode cX10_init 240 = .ok (.iconst (-1), 1) := by decide +kernel
theorem dX10_init_241 : decode cX10_init 241 = .ok (.iastore, 1) := by decide +kernel
theorem dX10_init_242 : decode cX10_init 242 = .ok (.dup, 1) := by decide +kernel
theorem dX10_init_243 : decode cX10_init 243 = .ok (.iconst 3, 1) := by decide +kernel
theorem dX10_init_244 : decode cX10_init 244 = .ok (.iconst (-1), 1) := by decide +kernel
theorem dX10_init_245 : decode cX10_init 245 = .ok (.iastore, 1) := by decide +kernel
theorem dX10_init_246 : decode cX10_init 246 = .ok (.putfield 88, 3) := by decide +kernel
theorem dX10_init_249 : decode cX10_init 249 = .ok (.aload_n 0, 1) := by decide +kernel
theorem dX10_init_250 : decode cX10_init 250 = .ok (.iconst 4, 1) := by decide +kernel
theorem dX10_init_251 : decode cX10_init 251 = .ok (.newarray .int, 2) := by decide +kernel
theorem dX10_init_253 : decode cX10_init 253 = .ok (.putfield 91, 3) := by decide +kernel
theorem dX10_init_256 : decode cX10_init 256 = .ok (.aload_n 0, 1) := by decide +kernel
theorem dX10_init_257 : decode cX10_init 257 = .ok (.bipush 32, 2) := by decide +kernel
theorem dX10_init_259 : decode cX10_init 259 = .ok (.newarray .int, 2) := by decide +kernel
theorem dX10_init_261 : decode cX10_init 261 = .ok (.putfield 94, 3) := by decide +kernel
theorem dX10_init_264 : decode cX10_init 264 = .ok (.aload_n 0, 1) := by decide +kernel
theorem dX10_init_265 : decode cX10_init 265 = .ok (.bipush 80, 2) := by decide +kernel
theorem dX10_init_267 : decode cX10_init 267 = .ok (.newarray .long, 2) := by decide +kernel
theorem dX10_init_269 : decode cX10_init 269 = .ok (.putfield 97, 3) := by decide +kernel
theorem dX10_init_272 : decode cX10_init 272 = .ok (.return_, 1) := by decide +kernel
set_option maxHeartbeats 4000000 in
set_option maxRecDepth 100000 in
theorem N_X10 (l : Launch) (D : va_G) (cy : Nat → ClassId) (h0 sz : Nat) : Met l yX10_init (wsM yX10_init cX10_init 1 none) ({ frames := 2, cells := 29, slots := 14975, locals := 128 }) (va_Pc [.ref h0] (fun U => U.heap.size = sz ∧ va_P D clsL [(h0, .inr (9, [.null, .null, .null, .null, .int 0, .null, .null, .null, .int 0, .int 0, .int 0, .int 0, .null, .null, .int 0, .null, .null, .null, .null, .null, .null, .null, .null, .null, .null, .null, .null, .int 0, .int 0, .int 0, .int 0, .int 0, .int 0, .null, .null, .int 0, .int 0, .int 0, .int 0, .int 0, .int 0, .null, .null, .null, .null, .null, .null]))] U.heap ∧ va_K D clsL (tysL cy) U ∧ va_D (fun _ => True) [(h0, .inr (9, [.null, .null, .null, .null, .int 0, .null, .null, .null, .int 0, .int 0, .int 0, .int 0, .null, .null, .int 0, .null, .null, .null, .null, .null, .null, .null, .null, .null, .null, .null, .null, .int 0, .int 0, .int 0, .int 0, .int 0, .int 0, .null, .null, .int 0, .int 0, .int 0, .int 0, .int 0, .int 0, .null, .null, .null, .null, .null, .null]))])) (va_Qv (fun _ : Nat → Nat => True) (fun g t => va_P D clsL [(h0, .inr (9, [.ref (g 0), .ref (g 1), .ref (g 2), .ref (g 3), .int 0, .ref (g 4), .ref (g 5), .ref (g 6), .int 0, .int 0, .int 0, .int 0, .ref (g 7), .ref (g 8), .int 0, .ref (g 9), .ref (g 10), .ref (g 11), .ref (g 12), .ref (g 13), .ref (g 14), .ref (g 15), .ref (g 16), .ref (g 17), .ref (g 18), .ref (g 19), .ref (g 20), .int 0, .int 0, .int 0, .int 0, .int 0, .int 0, .ref (g 21), .ref (g 22), .int 0, .int 0, .int 0, .int 0, .int 0, .int 0, .ref (g 23), .ref (g 24), .ref (g 25), .ref (g 26), .ref (g 27), .ref (g 28)])), ((g 0), .inl (cy 0, 48, .inl (fun _ => 0))), ((g 1), .inl (cy 0, 12, .inl (fun _ => 0))), ((g 2), .inl (cy 0, 96, .inl (fun _ => 0))), ((g 3), .inl (cy 0, 12, .inl (fun _ => 0))), ((g 4), .inl (cy 0, 40, .inl (fun _ => 0))), ((g 5), .inl (cy 0, 4, .inl (fun _ => 0))), ((g 6), .inl (cy 0, 8, .inl (fun _ => 0))), ((g 7), .inl (cy 0, 168, .inl (fun _ => 0))), ((g 8), .inl (cy 0, 21, .inl (fun _ => 0))), ((g 9), .inl (cy 0, 4, .inl (upd (upd (upd (upd (fun _ => 0) 0 1) 1 2) 2 2) 3 3))), ((g 10), .inl (cy 0, 25, .inl (fun _ => 0))), ((g 11), .inl (cy 0, 2048, .inl (fun _ => 0))), ((g 12), .inl (cy 0, 2048, .inl (fun _ => 0))), ((g 13), .inl (cy 0, 2048, .inl (fun _ => 0))), ((g 14), .inl (cy 0, 2048, .inl (fun _ => 0))), ((g 15), .inl (cy 0, 2048, .inl (fun _ => 0))), ((g 16), .inl (cy 0, 2048, .inl (fun _ => 0))), ((g 17), .inl (cy 0, 2048, .inl (fun _ => 0))), ((g 18), .inl (cy 0, 13, .inl (fun _ => 0))), ((g 19), .inl (cy 0, 12, .inl (fun _ => 0))), ((g 20), .inl (cy 0, 12, .inl (fun _ => 0))), ((g 21), .inl (cy 0, 8, .inl (fun _ => 0))), ((g 22), .inl (cy 0, 8, .inl (fun _ => 0))), ((g 23), .inl (cy 1, 14, .inr (.inl (fun _ => 0)))), ((g 24), .inl (cy 1, 14, .inr (.inl (fun _ => 0)))), ((g 25), .inl (cy 0, 4, .inl (upd (upd (upd (upd (fun _ => 0) 0 (-1)) 1 (-1)) 2 (-1)) 3 (-1)))), ((g 26), .inl (cy 0, 4, .inl (fun _ => 0))), ((g 27), .inl (cy 0, 32, .inl (fun _ => 0))), ((g 28), .inl (cy 1, 80, .inr (.inl (fun _ => 0))))] t.heap ∧ va_K D clsL (tysL cy) t ∧ va_D (va_A [(h0, .inr (9, [.null, .null, .null, .null, .int 0, .null, .null, .null, .int 0, .int 0, .int 0, .int 0, .null, .null, .int 0, .null, .null, .null, .null, .null, .null, .null, .null, .null, .null, .null, .null, .int 0, .int 0, .int 0, .int 0, .int 0, .int 0, .null, .null, .int 0, .int 0, .int 0, .int 0, .int 0, .int 0, .null, .null, .null, .null, .null, .null]))] sz) [(h0, .inr (9, [.ref (g 0), .ref (g 1), .ref (g 2), .ref (g 3), .int 0, .ref (g 4), .ref (g 5), .ref (g 6), .int 0, .int 0, .int 0, .int 0, .ref (g 7), .ref (g 8), .int 0, .ref (g 9), .ref (g 10), .ref (g 11), .ref (g 12), .ref (g 13), .ref (g 14), .ref (g 15), .ref (g 16), .ref (g 17), .ref (g 18), .ref (g 19), .ref (g 20), .int 0, .int 0, .int 0, .int 0, .int 0, .int 0, .ref (g 21), .ref (g 22), .int 0, .int 0, .int 0, .int 0, .int 0, .int 0, .ref (g 23), .ref (g 24), .ref (g 25), .ref (g 26), .ref (g 27), .ref (g 28)])), ((g 0), .inl (cy 0, 48, .inl (fun _ => 0))), ((g 1), .inl (cy 0, 12, .inl (fun _ => 0))), ((g 2), .inl (cy 0, 96, .inl (fun _ => 0))), ((g 3), .inl (cy 0, 12, .inl (fun _ => 0))), ((g 4), .inl (cy 0, 40, .inl (fun _ => 0))), ((g 5), .inl (cy 0, 4, .inl (fun _ => 0))), ((g 6), .inl (cy 0, 8, .inl (fun _ => 0))), ((g 7), .inl (cy 0, 168, .inl (fun _ => 0))), ((g 8), .inl (cy 0, 21, .inl (fun _ => 0))), ((g 9), .inl (cy 0, 4, .inl (upd (upd (upd (upd (fun _ => 0) 0 1) 1 2) 2 2) 3 3))), ((g 10), .inl (cy 0, 25, .inl (fun _ => 0))), ((g 11), .inl (cy 0, 2048, .inl (fun _ => 0))), ((g 12), .inl (cy 0, 2048, .inl (fun _ => 0))), ((g 13), .inl (cy 0, 2048, .inl (fun _ => 0))), ((g 14), .inl (cy 0, 2048, .inl (fun _ => 0))), ((g 15), .inl (cy 0, 2048, .inl (fun _ => 0))), ((g 16), .inl (cy 0, 2048, .inl (fun _ => 0))), ((g 17), .inl (cy 0, 2048, .inl (fun _ => 0))), ((g 18), .inl (cy 0, 13, .inl (fun _ => 0))), ((g 19), .inl (cy 0, 12, .inl (fun _ => 0))), ((g 20), .inl (cy 0, 12, .inl (fun _ => 0))), ((g 21), .inl (cy 0, 8, .inl (fun _ => 0))), ((g 22), .inl (cy 0, 8, .inl (fun _ => 0))), ((g 23), .inl (cy 1, 14, .inr (.inl (fun _ => 0)))), ((g 24), .inl (cy 1, 14, .inr (.inl (fun _ => 0)))), ((g 25), .inl (cy 0, 4, .inl (upd (upd (upd (upd (fun _ => 0) 0 (-1)) 1 (-1)) 2 (-1)) 3 (-1)))), ((g 26), .inl (cy 0, 4, .inl (fun _ => 0))), ((g 27), .inl (cy 0, 32, .inl (fun _ => 0))), ((g 28), .inl (cy 1, 80, .inr (.inl (fun _ => 0))))]) (va_A [(h0, .inr (9, [.null, .null, .null, .null, .int 0, .null, .null, .null, .int 0, .int 0, .int 0, .int 0, .null, .null, .int 0, .null, .null, .null, .null, .null, .null, .null, .null, .null, .null, .null, .null, .int 0, .int 0, .int 0, .int 0, .int 0, .int 0, .null, .null, .int 0, .int 0, .int 0, .int 0, .int 0, .int 0, .null, .null, .null, .null, .null, .null]))] sz)) 29 14975 (va_A [(h0, .inr (9, [.null, .null, .null, .null, .int 0, .null, .null, .null, .int 0, .int 0, .int 0, .int 0, .null, .null, .int 0, .null, .null, .null, .null, .null, .null, .null, .null, .null, .null, .null, .null, .int 0, .int 0, .int 0, .int 0, .int 0, .int 0, .null, .null, .int 0, .int 0, .int 0, .int 0, .int 0, .int 0, .null, .null, .null, .null, .null, .null]))] sz) := by
  refine Met.ofW (cc := cX10_init) (maxL := 1) (ret := none) (by decide) rfl ?_
  intro p e s m args below meth c s₁ B hml hv
  obtain ⟨rfl, hsz, hP, hK, hD0⟩ := hv
  have hx := B.exec
  have hb := B.bytes
  have hr := B.returns
  have hts : ∀ w ∈ WT, w.before [Value.ref h0].toArray s = true := fun w hw => atoms_spec (ws := wsM yX10_init cX10_init 1 none) B.pre w (List.mem_cons_of_mem _ hw)
  have hown : s.vm.findClass RX10 = some m.cls := findClass_of_methodNamed B.named
  have hlocks := B.notSynchronized
  have hin : meth.name = "<init>" := (name_of_methodNamed B.named B.method).1
  subst hsz
  have hD := hD0.self (sz := s.heap.size)
  generalize hAe : va_A [(h0, .inr (9, [.null, .null, .null, .null, .int 0, .null, .null, .null, .int 0, .int 0, .int 0, .int 0, .null, .null, .int 0, .null, .null, .null, .null, .null, .null, .null, .null, .null, .null, .null, .null, .int 0, .int 0, .int 0, .int 0, .int 0, .int 0, .null, .null, .int 0, .int 0, .int 0, .int 0, .int 0, .int 0, .null, .null, .null, .null, .null, .null]))] s.heap.size = A at hD ⊢
  have hA : ∀ q : Nat, s.heap.size ≤ q → A q := fun q h => by rw [← hAe]; exact Or.inr h
  have hS : va_S A s.heap s.heap [] := va_S.rf
  have hP : va_P D clsL [(h0, .inr (9, [.null, .null, .null, .null, .int 0, .null, .null, .null, .int 0, .int 0, .int 0, .int 0, .null, .null, .int 0, .null, .null, .null, .null, .null, .null, .null, .null, .null, .null, .null, .null, .int 0, .int 0, .int 0, .int 0, .int 0, .int 0, .null, .null, .int 0, .int 0, .int 0, .int 0, .int 0, .int 0, .null, .null, .null, .null, .null, .null]))] s.heap := hP
  have hl := lv_entry ([.ref h0]) (n := 1) (Nat.le_of_ble_eq_true rfl)
  rw [lg_entry_eq]
  generalize (lg_sl ([.ref h0]) ++ List.replicate (1 - (lg_sl ([.ref h0])).length) Slot.unset).toArray = ls at hl ⊢
  have hl : lv_has ls 1 [(0, .ref h0)] := hl
  refine lv_aload_n hx hb dX10_init_0 rfl (lv_at hl 0 rfl) ?_
  refine W.objInit hx hb hown (hts (.methodLink RX10 3 objectInit) (inT_mem (by decide +kernel))) (hts (.instanceMethod objectInit) (inT_mem (by decide +kernel))) (hts (.code objectInit ⟨#[0xb1]⟩ 1 none) (inT_mem (by decide +kernel))) rfl (by rw [hml]; exact hl.1) rfl dX10_init_1 (Nat.le_of_ble_eq_true rfl) (Nat.le_of_ble_eq_true rfl) ?_
  refine W.eq (g2 := F0 m 4 ls []) rfl ?_
  refine lv_aload_n hx hb dX10_init_4 rfl (lv_at hl 0 rfl) ?_
  refine lv_bipush (v := 48) hx hb dX10_init_5 (by decide) ?_
  refine nwA (atype := .int) (t0 := 0) (N' := 48) (a0 := (48, .inl (fun _ => 0))) hx hb (hts (.arrayClass .int) (inT_mem (by decide +kernel))) rfl hK rfl hP hD hS hA (fun _ => rfl) (by decide) (by decide) (Nat.le_of_ble_eq_true rfl) (Nat.le_of_ble_eq_true rfl) (Nat.le_of_ble_eq_true rfl) dX10_init_7 (fun q0 H hP hD hS => ?_)
  have hP : va_P D clsL [(h0, .inr (9, [.null, .null, .null, .null, .int 0, .null, .null, .null, .int 0, .int 0, .int 0, .int 0, .null, .null, .int 0, .null, .null, .null, .null, .null, .null, .null, .null, .null, .null, .null, .null, .int 0, .int 0, .int 0, .int 0, .int 0, .int 0, .null, .null, .int 0, .int 0, .int 0, .int 0, .int 0, .int 0, .null, .null, .null, .null, .null, .null])), (q0, .inl (cy 0, 48, .inl (fun _ => 0)))] H := hP
  have hD : va_D A [(h0, .inr (9, [.null, .null, .null, .null, .int 0, .null, .null, .null, .int 0, .int 0, .int 0, .int 0, .null, .null, .int 0, .null, .null, .null, .null, .null, .null, .null, .null, .null, .null, .null, .null, .int 0, .int 0, .int 0, .int 0, .int 0, .int 0, .null, .null, .int 0, .int 0, .int 0, .int 0, .int 0, .int 0, .null, .null, .null, .null, .null, .null])), (q0, .inl (cy 0, 48, .inl (fun _ => 0)))] := hD
  refine W.widen (k := 1) (n := 48) (Nat.le_of_ble_eq_true rfl) (Nat.le_of_ble_eq_true rfl) ?_
  refine va_putF (D := D) (ci := 9) (v := .ref q0) (ty := .array .int) (C := RX10) (T := TX10) (N := 47) hx hb hts (inW inX10 (by decide +kernel)) tyX10 tyX10_ok nmX10 hown hK hP hD hS 0 rfl rfl 0 (by decide) (hts (.fieldLink RX10 11 "AdderChooserModel" "names" "[I") (inT_mem (by decide +kernel))) (fun _ h9 => h9) rfl hin rfl (by decide +kernel) rfl rfl (Nat.le_of_ble_eq_true rfl) dX10_init_9 (fun H _ hP hD hS => ?_)
  have hP : va_P D clsL [(h0, .inr (9, [.ref q0, .null, .null, .null, .int 0, .null, .null, .null, .int 0, .int 0, .int 0, .int 0, .null, .null, .int 0, .null, .null, .null, .null, .null, .null, .null, .null, .null, .null, .null, .null, .int 0, .int 0, .int 0, .int 0, .int 0, .int 0, .null, .null, .int 0, .int 0, .int 0, .int 0, .int 0, .int 0, .null, .null, .null, .null, .null, .null])), (q0, .inl (cy 0, 48, .inl (fun _ => 0)))] H := hP
  have hD : va_D A [(h0, .inr (9, [.ref q0, .null, .null, .null, .int 0, .null, .null, .null, .int 0, .int 0, .int 0, .int 0, .null, .null, .int 0, .null, .null, .null, .null, .null, .null, .null, .null, .null, .null, .null, .null, .int 0, .int 0, .int 0, .int 0, .int 0, .int 0, .null, .null, .int 0, .int 0, .int 0, .int 0, .int 0, .int 0, .null, .null, .null, .null, .null, .null])), (q0, .inl (cy 0, 48, .inl (fun _ => 0)))] := hD
  refine lv_aload_n hx hb dX10_init_12 rfl (lv_at hl 0 rfl) ?_
  refine lv_bipush (v := 12) hx hb dX10_init_13 (by decide) ?_
  refine nwA (atype := .int) (t0 := 0) (N' := 12) (a0 := (12, .inl (fun _ => 0))) hx hb (hts (.arrayClass .int) (inT_mem (by decide +kernel))) rfl hK rfl hP hD hS hA (fun _ => rfl) (by decide) (by decide) (Nat.le_of_ble_eq_true rfl) (Nat.le_of_ble_eq_true rfl) (Nat.le_of_ble_eq_true rfl) dX10_init_15 (fun q1 H hP hD hS => ?_)
  have hP : va_P D clsL [(h0, .inr (9, [.ref q0, .null, .null, .null, .int 0, .null, .null, .null, .int 0, .int 0, .int 0, .int 0, .null, .null, .int 0, .null, .null, .null, .null, .null, .null, .null, .null, .null, .null, .null, .null, .int 0, .int 0, .int 0, .int 0, .int 0, .int 0, .null, .null, .int 0, .int 0, .int 0, .int 0, .int 0, .int 0, .null, .null, .null, .null, .null, .null])), (q0, .inl (cy 0, 48, .inl (fun _ => 0))), (q1, .inl (cy 0, 12, .inl (fun _ => 0)))] H := hP
  have hD : va_D A [(h0, .inr (9, [.ref q0, .null, .null, .null, .int 0, .null, .null, .null, .int 0, .int 0, .int 0, .int 0, .null, .null, .int 0, .null, .null, .null, .null, .null, .null, .null, .null, .null, .null, .null, .null, .int 0, .int 0, .int 0, .int 0, .int 0, .int 0, .null, .null, .int 0, .int 0, .int 0, .int 0, .int 0, .int 0, .null, .null, .null, .null, .null, .null])), (q0, .inl (cy 0, 48, .inl (fun _ => 0))), (q1, .inl (cy 0, 12, .inl (fun _ => 0)))] := hD
  refine W.widen (k := 2) (n := 60) (Nat.le_of_ble_eq_true rfl) (Nat.le_of_ble_eq_true rfl) ?_
  refine va_putF (D := D) (ci := 9) (v := .ref q1) (ty := .array .int) (C := RX10) (T := TX10) (N := 47) hx hb hts (inW inX10 (by decide +kernel)) tyX10 tyX10_ok nmX10 hown hK hP hD hS 0 rfl rfl 1 (by decide) (hts (.fieldLink RX10 15 "AdderChooserModel" "nameLong" "[I") (inT_mem (by decide +kernel))) (fun _ h9 => h9) rfl hin rfl (by decide +kernel) rfl rfl (Nat.le_of_ble_eq_true rfl) dX10_init_17 (fun H _ hP hD hS => ?_)
  have hP : va_P D clsL [(h0, .inr (9, [.ref q0, .ref q1, .null, .null, .int 0, .null, .null, .null, .int 0, .int 0, .int 0, .int 0, .null, .null, .int 0, .null, .null, .null, .null, .null, .null, .null, .null, .null, .null, .null, .null, .int 0, .int 0, .int 0, .int 0, .int 0, .int 0, .null, .null, .int 0, .int 0, .int 0, .int 0, .int 0, .int 0, .null, .null, .null, .null, .null, .null])), (q0, .inl (cy 0, 48, .inl (fun _ => 0))), (q1, .inl (cy 0, 12, .inl (fun _ => 0)))] H := hP
  have hD : va_D A [(h0, .inr (9, [.ref q0, .ref q1, .null, .null, .int 0, .null, .null, .null, .int 0, .int 0, .int 0, .int 0, .null, .null, .int 0, .null, .null, .null, .null, .null, .null, .null, .null, .null, .null, .null, .null, .int 0, .int 0, .int 0, .int 0, .int 0, .int 0, .null, .null, .int 0, .int 0, .int 0, .int 0, .int 0, .int 0, .null, .null, .null, .null, .null, .null])), (q0, .inl (cy 0, 48, .inl (fun _ => 0))), (q1, .inl (cy 0, 12, .inl (fun _ => 0)))] := hD
  refine lv_aload_n hx hb dX10_init_20 rfl (lv_at hl 0 rfl) ?_
  refine lv_bipush (v := 96) hx hb dX10_init_21 (by decide) ?_
  refine nwA (atype := .int) (t0 := 0) (N' := 96) (a0 := (96, .inl (fun _ => 0))) hx hb (hts (.arrayClass .int) (inT_mem (by decide +kernel))) rfl hK rfl hP hD hS hA (fun _ => rfl) (by decide) (by decide) (Nat.le_of_ble_eq_true rfl) (Nat.le_of_ble_eq_true rfl) (Nat.le_of_ble_eq_true rfl) dX10_init_23 (fun q2 H hP hD hS => ?_)
  have hP : va_P D clsL [(h0, .inr (9, [.ref q0, .ref q1, .null, .null, .int 0, .null, .null, .null, .int 0, .int 0, .int 0, .int 0, .null, .null, .int 0, .null, .null, .null, .null, .null, .null, .null, .null, .null, .null, .null, .null, .int 0, .int 0, .int 0, .int 0, .int 0, .int 0, .null, .null, .int 0, .int 0, .int 0, .int 0, .int 0, .int 0, .null, .null, .null, .null, .null, .null])), (q0, .inl (cy 0, 48, .inl (fun _ => 0))), (q1, .inl (cy 0, 12, .inl (fun _ => 0))), (q2, .inl (cy 0, 96, .inl (fun _ => 0)))] H := hP
  have hD : va_D A [(h0, .inr (9, [.ref q0, .ref q1, .null, .null, .int 0, .null, .null, .null, .int 0, .int 0, .int 0, .int 0, .null, .null, .int 0, .null, .null, .null, .null, .null, .null, .null, .null, .null, .null, .null, .null, .int 0, .int 0, .int 0, .int 0, .int 0, .int 0, .null, .null, .int 0, .int 0, .int 0, .int 0, .int 0, .int 0, .null, .null, .null, .null, .null, .null])), (q0, .inl (cy 0, 48, .inl (fun _ => 0))), (q1, .inl (cy 0, 12, .inl (fun _ => 0))), (q2, .inl (cy 0, 96, .inl (fun _ => 0)))] := hD
  refine W.widen (k := 3) (n := 156) (Nat.le_of_ble_eq_true rfl) (Nat.le_of_ble_eq_true rfl) ?_
  refine va_putF (D := D) (ci := 9) (v := .ref q2) (ty := .array .int) (C := RX10) (T := TX10) (N := 47) hx hb hts (inW inX10 (by decide +kernel)) tyX10 tyX10_ok nmX10 hown hK hP hD hS 0 rfl rfl 2 (by decide) (hts (.fieldLink RX10 18 "AdderChooserModel" "blocks" "[I") (inT_mem (by decide +kernel))) (fun _ h9 => h9) rfl hin rfl (by decide +kernel) rfl rfl (Nat.le_of_ble_eq_true rfl) dX10_init_25 (fun H _ hP hD hS => ?_)
  have hP : va_P D clsL [(h0, .inr (9, [.ref q0, .ref q1, .ref q2, .null, .int 0, .null, .null, .null, .int 0, .int 0, .int 0, .int 0, .null, .null, .int 0, .null, .null, .null, .null, .null, .null, .null, .null, .null, .null, .null, .null, .int 0, .int 0, .int 0, .int 0, .int 0, .int 0, .null, .null, .int 0, .int 0, .int 0, .int 0, .int 0, .int 0, .null, .null, .null, .null, .null, .null])), (q0, .inl (cy 0, 48, .inl (fun _ => 0))), (q1, .inl (cy 0, 12, .inl (fun _ => 0))), (q2, .inl (cy 0, 96, .inl (fun _ => 0)))] H := hP
  have hD : va_D A [(h0, .inr (9, [.ref q0, .ref q1, .ref q2, .null, .int 0, .null, .null, .null, .int 0, .int 0, .int 0, .int 0, .null, .null, .int 0, .null, .null, .null, .null, .null, .null, .null, .null, .null, .null, .null, .null, .int 0, .int 0, .int 0, .int 0, .int 0, .int 0, .null, .null, .int 0, .int 0, .int 0, .int 0, .int 0, .int 0, .null, .null, .null, .null, .null, .null])), (q0, .inl (cy 0, 48, .inl (fun _ => 0))), (q1, .inl (cy 0, 12, .inl (fun _ => 0))), (q2, .inl (cy 0, 96, .inl (fun _ => 0)))] := hD
  refine lv_aload_n hx hb dX10_init_28 rfl (lv_at hl 0 rfl) ?_
  refine lv_bipush (v := 12) hx hb dX10_init_29 (by decide) ?_
  refine nwA (atype := .int) (t0 := 0) (N' := 12) (a0 := (12, .inl (fun _ => 0))) hx hb (hts (.arrayClass .int) (inT_mem (by decide +kernel))) rfl hK rfl hP hD hS hA (fun _ => rfl) (by decide) (by decide) (Nat.le_of_ble_eq_true rfl) (Nat.le_of_ble_eq_true rfl) (Nat.le_of_ble_eq_true rfl) dX10_init_31 (fun q3 H hP hD hS => ?_)
  have hP : va_P D clsL [(h0, .inr (9, [.ref q0, .ref q1, .ref q2, .null, .int 0, .null, .null, .null, .int 0, .int 0, .int 0, .int 0, .null, .null, .int 0, .null, .null, .null, .null, .null, .null, .null, .null, .null, .null, .null, .null, .int 0, .int 0, .int 0, .int 0, .int 0, .int 0, .null, .null, .int 0, .int 0, .int 0, .int 0, .int 0, .int 0, .null, .null, .null, .null, .null, .null])), (q0, .inl (cy 0, 48, .inl (fun _ => 0))), (q1, .inl (cy 0, 12, .inl (fun _ => 0))), (q2, .inl (cy 0, 96, .inl (fun _ => 0))), (q3, .inl (cy 0, 12, .inl (fun _ => 0)))] H := hP
  have hD : va_D A [(h0, .inr (9, [.ref q0, .ref q1, .ref q2, .null, .int 0, .null, .null, .null, .int 0, .int 0, .int 0, .int 0, .null, .null, .int 0, .null, .null, .null, .null, .null, .null, .null, .null, .null, .null, .null, .null, .int 0, .int 0, .int 0, .int 0, .int 0, .int 0, .null, .null, .int 0, .int 0, .int 0, .int 0, .int 0, .int 0, .null, .null, .null, .null, .null, .null])), (q0, .inl (cy 0, 48, .inl (fun _ => 0))), (q1, .inl (cy 0, 12, .inl (fun _ => 0))), (q2, .inl (cy 0, 96, .inl (fun _ => 0))), (q3, .inl (cy 0, 12, .inl (fun _ => 0)))] := hD
  refine W.widen (k := 4) (n := 168) (Nat.le_of_ble_eq_true rfl) (Nat.le_of_ble_eq_true rfl) ?_
  refine va_putF (D := D) (ci := 9) (v := .ref q3) (ty := .array .int) (C := RX10) (T := TX10) (N := 47) hx hb hts (inW inX10 (by decide +kernel)) tyX10 tyX10_ok nmX10 hown hK hP hD hS 0 rfl rfl 3 (by decide) (hts (.fieldLink RX10 21 "AdderChooserModel" "blockMany" "[I") (inT_mem (by decide +kernel))) (fun _ h9 => h9) rfl hin rfl (by decide +kernel) rfl rfl (Nat.le_of_ble_eq_true rfl) dX10_init_33 (fun H _ hP hD hS => ?_)
  have hP : va_P D clsL [(h0, .inr (9, [.ref q0, .ref q1, .ref q2, .ref q3, .int 0, .null, .null, .null, .int 0, .int 0, .int 0, .int 0, .null, .null, .int 0, .null, .null, .null, .null, .null, .null, .null, .null, .null, .null, .null, .null, .int 0, .int 0, .int 0, .int 0, .int 0, .int 0, .null, .null, .int 0, .int 0, .int 0, .int 0, .int 0, .int 0, .null, .null, .null, .null, .null, .null])), (q0, .inl (cy 0, 48, .inl (fun _ => 0))), (q1, .inl (cy 0, 12, .inl (fun _ => 0))), (q2, .inl (cy 0, 96, .inl (fun _ => 0))), (q3, .inl (cy 0, 12, .inl (fun _ => 0)))] H := hP
  have hD : va_D A [(h0, .inr (9, [.ref q0, .ref q1, .ref q2, .ref q3, .int 0, .null, .null, .null, .int 0, .int 0, .int 0, .int 0, .null, .null, .int 0, .null, .null, .null, .null, .null, .null, .null, .null, .null, .null, .null, .null, .int 0, .int 0, .int 0, .int 0, .int 0, .int 0, .null, .null, .int 0, .int 0, .int 0, .int 0, .int 0, .int 0, .null, .null, .null, .null, .null, .null])), (q0, .inl (cy 0, 48, .inl (fun _ => 0))), (q1, .inl (cy 0, 12, .inl (fun _ => 0))), (q2, .inl (cy 0, 96, .inl (fun _ => 0))), (q3, .inl (cy 0, 12, .inl (fun _ => 0)))] := hD
  refine lv_aload_n hx hb dX10_init_36 rfl (lv_at hl 0 rfl) ?_
  refine lv_bipush (v := 40) hx hb dX10_init_37 (by decide) ?_
  refine nwA (atype := .int) (t0 := 0) (N' := 40) (a0 := (40, .inl (fun _ => 0))) hx hb (hts (.arrayClass .int) (inT_mem (by decide +kernel))) rfl hK rfl hP hD hS hA (fun _ => rfl) (by decide) (by decide) (Nat.le_of_ble_eq_true rfl) (Nat.le_of_ble_eq_true rfl) (Nat.le_of_ble_eq_true rfl) dX10_init_39 (fun q4 H hP hD hS => ?_)
  have hP : va_P D clsL [(h0, .inr (9, [.ref q0, .ref q1, .ref q2, .ref q3, .int 0, .null, .null, .null, .int 0, .int 0, .int 0, .int 0, .null, .null, .int 0, .null, .null, .null, .null, .null, .null, .null, .null, .null, .null, .null, .null, .int 0, .int 0, .int 0, .int 0, .int 0, .int 0, .null, .null, .int 0, .int 0, .int 0, .int 0, .int 0, .int 0, .null, .null, .null, .null, .null, .null])), (q0, .inl (cy 0, 48, .inl (fun _ => 0))), (q1, .inl (cy 0, 12, .inl (fun _ => 0))), (q2, .inl (cy 0, 96, .inl (fun _ => 0))), (q3, .inl (cy 0, 12, .inl (fun _ => 0))), (q4, .inl (cy 0, 40, .inl (fun _ => 0)))] H := hP
  have hD : va_D A [(h0, .inr (9, [.ref q0, .ref q1, .ref q2, .ref q3, .int 0, .null, .null, .null, .int 0, .int 0, .int 0, .int 0, .null, .null, .int 0, .null, .null, .null, .null, .null, .null, .null, .null, .null, .null, .null, .null, .int 0, .int 0, .int 0, .int 0, .int 0, .int 0, .null, .null, .int 0, .int 0, .int 0, .int 0, .int 0, .int 0, .null, .null, .null, .null, .null, .null])), (q0, .inl (cy 0, 48, .inl (fun _ => 0))), (q1, .inl (cy 0, 12, .inl (fun _ => 0))), (q2, .inl (cy 0, 96, .inl (fun _ => 0))), (q3, .inl (cy 0, 12, .inl (fun _ => 0))), (q4, .inl (cy 0, 40, .inl (fun _ => 0)))] := hD
  refine W.widen (k := 5) (n := 208) (Nat.le_of_ble_eq_true rfl) (Nat.le_of_ble_eq_true rfl) ?_
  refine va_putF (D := D) (ci := 9) (v := .ref q4) (ty := .array .int) (C := RX10) (T := TX10) (N := 47) hx hb hts (inW inX10 (by decide +kernel)) tyX10 tyX10_ok nmX10 hown hK hP hD hS 0 rfl rfl 5 (by decide) (hts (.fieldLink RX10 24 "AdderChooserModel" "tape" "[I") (inT_mem (by decide +kernel))) (fun _ h9 => h9) rfl hin rfl (by decide +kernel) rfl rfl (Nat.le_of_ble_eq_true rfl) dX10_init_41 (fun H _ hP hD hS => ?_)
  have hP : va_P D clsL [(h0, .inr (9, [.ref q0, .ref q1, .ref q2, .ref q3, .int 0, .ref q4, .null, .null, .int 0, .int 0, .int 0, .int 0, .null, .null, .int 0, .null, .null, .null, .null, .null, .null, .null, .null, .null, .null, .null, .null, .int 0, .int 0, .int 0, .int 0, .int 0, .int 0, .null, .null, .int 0, .int 0, .int 0, .int 0, .int 0, .int 0, .null, .null, .null, .null, .null, .null])), (q0, .inl (cy 0, 48, .inl (fun _ => 0))), (q1, .inl (cy 0, 12, .inl (fun _ => 0))), (q2, .inl (cy 0, 96, .inl (fun _ => 0))), (q3, .inl (cy 0, 12, .inl (fun _ => 0))), (q4, .inl (cy 0, 40, .inl (fun _ => 0)))] H := hP
  have hD : va_D A [(h0, .inr (9, [.ref q0, .ref q1, .ref q2, .ref q3, .int 0, .ref q4, .null, .null, .int 0, .int 0, .int 0, .int 0, .null, .null, .int 0, .null, .null, .null, .null, .null, .null, .null, .null, .null, .null, .null, .null, .int 0, .int 0, .int 0, .int 0, .int 0, .int 0, .null, .null, .int 0, .int 0, .int 0, .int 0, .int 0, .int 0, .null, .null, .null, .null, .null, .null])), (q0, .inl (cy 0, 48, .inl (fun _ => 0))), (q1, .inl (cy 0, 12, .inl (fun _ => 0))), (q2, .inl (cy 0, 96, .inl (fun _ => 0))), (q3, .inl (cy 0, 12, .inl (fun _ => 0))), (q4, .inl (cy 0, 40, .inl (fun _ => 0)))] := hD
  refine lv_aload_n hx hb dX10_init_44 rfl (lv_at hl 0 rfl) ?_
  refine lv_iconst (v := 4) hx hb dX10_init_45 (by decide) ?_
  refine nwA (atype := .int) (t0 := 0) (N' := 4) (a0 := (4, .inl (fun _ => 0))) hx hb (hts (.arrayClass .int) (inT_mem (by decide +kernel))) rfl hK rfl hP hD hS hA (fun _ => rfl) (by decide) (by decide) (Nat.le_of_ble_eq_true rfl) (Nat.le_of_ble_eq_true rfl) (Nat.le_of_ble_eq_true rfl) dX10_init_46 (fun q5 H hP hD hS => ?_)
  have hP : va_P D clsL [(h0, .inr (9, [.ref q0, .ref q1, .ref q2, .ref q3, .int 0, .ref q4, .null, .null, .int 0, .int 0, .int 0, .int 0, .null, .null, .int 0, .null, .null, .null, .null, .null, .null, .null, .null, .null, .null, .null, .null, .int 0, .int 0, .int 0, .int 0, .int 0, .int 0, .null, .null, .int 0, .int 0, .int 0, .int 0, .int 0, .int 0, .null, .null, .null, .null, .null, .null])), (q0, .inl (cy 0, 48, .inl (fun _ => 0))), (q1, .inl (cy 0, 12, .inl (fun _ => 0))), (q2, .inl (cy 0, 96, .inl (fun _ => 0))), (q3, .inl (cy 0, 12, .inl (fun _ => 0))), (q4, .inl (cy 0, 40, .inl (fun _ => 0))), (q5, .inl (cy 0, 4, .inl (fun _ => 0)))] H := hP
  have hD : va_D A [(h0, .inr (9, [.ref q0, .ref q1, .ref q2, .ref q3, .int 0, .ref q4, .null, .null, .int 0, .int 0, .int 0, .int 0, .null, .null, .int 0, .null, .null, .null, .null, .null, .null, .null, .null, .null, .null, .null, .null, .int 0, .int 0, .int 0, .int 0, .int 0, .int 0, .null, .null, .int 0, .int 0, .int 0, .int 0, .int 0, .int 0, .null, .null, .null, .null, .null, .null])), (q0, .inl (cy 0, 48, .inl (fun _ => 0))), (q1, .inl (cy 0, 12, .inl (fun _ => 0))), (q2, .inl (cy 0, 96, .inl (fun _ => 0))), (q3, .inl (cy 0, 12, .inl (fun _ => 0))), (q4, .inl (cy 0, 40, .inl (fun _ => 0))), (q5, .inl (cy 0, 4, .inl (fun _ => 0)))] := hD
  refine W.widen (k := 6) (n := 212) (Nat.le_of_ble_eq_true rfl) (Nat.le_of_ble_eq_true rfl) ?_
  refine va_putF (D := D) (ci := 9) (v := .ref q5) (ty := .array .int) (C := RX10) (T := TX10) (N := 47) hx hb hts (inW inX10 (by decide +kernel)) tyX10 tyX10_ok nmX10 hown hK hP hD hS 0 rfl rfl 6 (by decide) (hts (.fieldLink RX10 27 "AdderChooserModel" "named" "[I") (inT_mem (by decide +kernel))) (fun _ h9 => h9) rfl hin rfl (by decide +kernel) rfl rfl (Nat.le_of_ble_eq_true rfl) dX10_init_48 (fun H _ hP hD hS => ?_)
  have hP : va_P D clsL [(h0, .inr (9, [.ref q0, .ref q1, .ref q2, .ref q3, .int 0, .ref q4, .ref q5, .null, .int 0, .int 0, .int 0, .int 0, .null, .null, .int 0, .null, .null, .null, .null, .null, .null, .null, .null, .null, .null, .null, .null, .int 0, .int 0, .int 0, .int 0, .int 0, .int 0, .null, .null, .int 0, .int 0, .int 0, .int 0, .int 0, .int 0, .null, .null, .null, .null, .null, .null])), (q0, .inl (cy 0, 48, .inl (fun _ => 0))), (q1, .inl (cy 0, 12, .inl (fun _ => 0))), (q2, .inl (cy 0, 96, .inl (fun _ => 0))), (q3, .inl (cy 0, 12, .inl (fun _ => 0))), (q4, .inl (cy 0, 40, .inl (fun _ => 0))), (q5, .inl (cy 0, 4, .inl (fun _ => 0)))] H := hP
  have hD : va_D A [(h0, .inr (9, [.ref q0, .ref q1, .ref q2, .ref q3, .int 0, .ref q4, .ref q5, .null, .int 0, .int 0, .int 0, .int 0, .null, .null, .int 0, .null, .null, .null, .null, .null, .null, .null, .null, .null, .null, .null, .null, .int 0, .int 0, .int 0, .int 0, .int 0, .int 0, .null, .null, .int 0, .int 0, .int 0, .int 0, .int 0, .int 0, .null, .null, .null, .null, .null, .null])), (q0, .inl (cy 0, 48, .inl (fun _ => 0))), (q1, .inl (cy 0, 12, .inl (fun _ => 0))), (q2, .inl (cy 0, 96, .inl (fun _ => 0))), (q3, .inl (cy 0, 12, .inl (fun _ => 0))), (q4, .inl (cy 0, 40, .inl (fun _ => 0))), (q5, .inl (cy 0, 4, .inl (fun _ => 0)))] := hD
  refine lv_aload_n hx hb dX10_init_51 rfl (lv_at hl 0 rfl) ?_
  refine lv_bipush (v := 8) hx hb dX10_init_52 (by decide) ?_
  refine nwA (atype := .int) (t0 := 0) (N' := 8) (a0 := (8, .inl (fun _ => 0))) hx hb (hts (.arrayClass .int) (inT_mem (by decide +kernel))) rfl hK rfl hP hD hS hA (fun _ => rfl) (by decide) (by decide) (Nat.le_of_ble_eq_true rfl) (Nat.le_of_ble_eq_true rfl) (Nat.le_of_ble_eq_true rfl) dX10_init_54 (fun q6 H hP hD hS => ?_)
  have hP : va_P D clsL [(h0, .inr (9, [.ref q0, .ref q1, .ref q2, .ref q3, .int 0, .ref q4, .ref q5, .null, .int 0, .int 0, .int 0, .int 0, .null, .null, .int 0, .null, .null, .null, .null, .null, .null, .null, .null, .null, .null, .null, .null, .int 0, .int 0, .int 0, .int 0, .int 0, .int 0, .null, .null, .int 0, .int 0, .int 0, .int 0, .int 0, .int 0, .null, .null, .null, .null, .null, .null])), (q0, .inl (cy 0, 48, .inl (fun _ => 0))), (q1, .inl (cy 0, 12, .inl (fun _ => 0))), (q2, .inl (cy 0, 96, .inl (fun _ => 0))), (q3, .inl (cy 0, 12, .inl (fun _ => 0))), (q4, .inl (cy 0, 40, .inl (fun _ => 0))), (q5, .inl (cy 0, 4, .inl (fun _ => 0))), (q6, .inl (cy 0, 8, .inl (fun _ => 0)))] H := hP
  have hD : va_D A [(h0, .inr (9, [.ref q0, .ref q1, .ref q2, .ref q3, .int 0, .ref q4, .ref q5, .null, .int 0, .int 0, .int 0, .int 0, .null, .null, .int 0, .null, .null, .null, .null, .null, .null, .null, .null, .null, .null, .null, .null, .int 0, .int 0, .int 0, .int 0, .int 0, .int 0, .null, .null, .int 0, .int 0, .int 0, .int 0, .int 0, .int 0, .null, .null, .null, .null, .null, .null])), (q0, .inl (cy 0, 48, .inl (fun _ => 0))), (q1, .inl (cy 0, 12, .inl (fun _ => 0))), (q2, .inl (cy 0, 96, .inl (fun _ => 0))), (q3, .inl (cy 0, 12, .inl (fun _ => 0))), (q4, .inl (cy 0, 40, .inl (fun _ => 0))), (q5, .inl (cy 0, 4, .inl (fun _ => 0))), (q6, .inl (cy 0, 8, .inl (fun _ => 0)))] := hD
  refine W.widen (k := 7) (n := 220) (Nat.le_of_ble_eq_true rfl) (Nat.le_of_ble_eq_true rfl) ?_
  refine va_putF (D := D) (ci := 9) (v := .ref q6) (ty := .array .int) (C := RX10) (T := TX10) (N := 47) hx hb hts (inW inX10 (by decide +kernel)) tyX10 tyX10_ok nmX10 hown hK hP hD hS 0 rfl rfl 7 (by decide) (hts (.fieldLink RX10 30 "AdderChooserModel" "told" "[I") (inT_mem (by decide +kernel))) (fun _ h9 => h9) rfl hin rfl (by decide +kernel) rfl rfl (Nat.le_of_ble_eq_true rfl) dX10_init_56 (fun H _ hP hD hS => ?_)
  have hP : va_P D clsL [(h0, .inr (9, [.ref q0, .ref q1, .ref q2, .ref q3, .int 0, .ref q4, .ref q5, .ref q6, .int 0, .int 0, .int 0, .int 0, .null, .null, .int 0, .null, .null, .null, .null, .null, .null, .null, .null, .null, .null, .null, .null, .int 0, .int 0, .int 0, .int 0, .int 0, .int 0, .null, .null, .int 0, .int 0, .int 0, .int 0, .int 0, .int 0, .null, .null, .null, .null, .null, .null])), (q0, .inl (cy 0, 48, .inl (fun _ => 0))), (q1, .inl (cy 0, 12, .inl (fun _ => 0))), (q2, .inl (cy 0, 96, .inl (fun _ => 0))), (q3, .inl (cy 0, 12, .inl (fun _ => 0))), (q4, .inl (cy 0, 40, .inl (fun _ => 0))), (q5, .inl (cy 0, 4, .inl (fun _ => 0))), (q6, .inl (cy 0, 8, .inl (fun _ => 0)))] H := hP
  have hD : va_D A [(h0, .inr (9, [.ref q0, .ref q1, .ref q2, .ref q3, .int 0, .ref q4, .ref q5, .ref q6, .int 0, .int 0, .int 0, .int 0, .null, .null, .int 0, .null, .null, .null, .null, .null, .null, .null, .null, .null, .null, .null, .null, .int 0, .int 0, .int 0, .int 0, .int 0, .int 0, .null, .null, .int 0, .int 0, .int 0, .int 0, .int 0, .int 0, .null, .null, .null, .null, .null, .null])), (q0, .inl (cy 0, 48, .inl (fun _ => 0))), (q1, .inl (cy 0, 12, .inl (fun _ => 0))), (q2, .inl (cy 0, 96, .inl (fun _ => 0))), (q3, .inl (cy 0, 12, .inl (fun _ => 0))), (q4, .inl (cy 0, 40, .inl (fun _ => 0))), (q5, .inl (cy 0, 4, .inl (fun _ => 0))), (q6, .inl (cy 0, 8, .inl (fun _ => 0)))] := hD
  refine lv_aload_n hx hb dX10_init_59 rfl (lv_at hl 0 rfl) ?_
  refine lv_sipush (v := 168) hx hb dX10_init_60 (by decide) ?_
  refine nwA (atype := .int) (t0 := 0) (N' := 168) (a0 := (168, .inl (fun _ => 0))) hx hb (hts (.arrayClass .int) (inT_mem (by decide +kernel))) rfl hK rfl hP hD hS hA (fun _ => rfl) (by decide) (by decide) (Nat.le_of_ble_eq_true rfl) (Nat.le_of_ble_eq_true rfl) (Nat.le_of_ble_eq_true rfl) dX10_init_63 (fun q7 H hP hD hS => ?_)
  have hP : va_P D clsL [(h0, .inr (9, [.ref q0, .ref q1, .ref q2, .ref q3, .int 0, .ref q4, .ref q5, .ref q6, .int 0, .int 0, .int 0, .int 0, .null, .null, .int 0, .null, .null, .null, .null, .null, .null, .null, .null, .null, .null, .null, .null, .int 0, .int 0, .int 0, .int 0, .int 0, .int 0, .null, .null, .int 0, .int 0, .int 0, .int 0, .int 0, .int 0, .null, .null, .null, .null, .null, .null])), (q0, .inl (cy 0, 48, .inl (fun _ => 0))), (q1, .inl (cy 0, 12, .inl (fun _ => 0))), (q2, .inl (cy 0, 96, .inl (fun _ => 0))), (q3, .inl (cy 0, 12, .inl (fun _ => 0))), (q4, .inl (cy 0, 40, .inl (fun _ => 0))), (q5, .inl (cy 0, 4, .inl (fun _ => 0))), (q6, .inl (cy 0, 8, .inl (fun _ => 0))), (q7, .inl (cy 0, 168, .inl (fun _ => 0)))] H := hP
  have hD : va_D A [(h0, .inr (9, [.ref q0, .ref q1, .ref q2, .ref q3, .int 0, .ref q4, .ref q5, .ref q6, .int 0, .int 0, .int 0, .int 0, .null, .null, .int 0, .null, .null, .null, .null, .null, .null, .null, .null, .null, .null, .null, .null, .int 0, .int 0, .int 0, .int 0, .int 0, .int 0, .null, .null, .int 0, .int 0, .int 0, .int 0, .int 0, .int 0, .null, .null, .null, .null, .null, .null])), (q0, .inl (cy 0, 48, .inl (fun _ => 0))), (q1, .inl (cy 0, 12, .inl (fun _ => 0))), (q2, .inl (cy 0, 96, .inl (fun _ => 0))), (q3, .inl (cy 0, 12, .inl (fun _ => 0))), (q4, .inl (cy 0, 40, .inl (fun _ => 0))), (q5, .inl (cy 0, 4, .inl (fun _ => 0))), (q6, .inl (cy 0, 8, .inl (fun _ => 0))), (q7, .inl (cy 0, 168, .inl (fun _ => 0)))] := hD
  refine W.widen (k := 8) (n := 388) (Nat.le_of_ble_eq_true rfl) (Nat.le_of_ble_eq_true rfl) ?_
  refine va_putF (D := D) (ci := 9) (v := .ref q7) (ty := .array .int) (C := RX10) (T := TX10) (N := 47) hx hb hts (inW inX10 (by decide +kernel)) tyX10 tyX10_ok nmX10 hown hK hP hD hS 0 rfl rfl 12 (by decide) (hts (.fieldLink RX10 33 "AdderChooserModel" "knownBlocks" "[I") (inT_mem (by decide +kernel))) (fun _ h9 => h9) rfl hin rfl (by decide +kernel) rfl rfl (Nat.le_of_ble_eq_true rfl) dX10_init_65 (fun H _ hP hD hS => ?_)
  have hP : va_P D clsL [(h0, .inr (9, [.ref q0, .ref q1, .ref q2, .ref q3, .int 0, .ref q4, .ref q5, .ref q6, .int 0, .int 0, .int 0, .int 0, .ref q7, .null, .int 0, .null, .null, .null, .null, .null, .null, .null, .null, .null, .null, .null, .null, .int 0, .int 0, .int 0, .int 0, .int 0, .int 0, .null, .null, .int 0, .int 0, .int 0, .int 0, .int 0, .int 0, .null, .null, .null, .null, .null, .null])), (q0, .inl (cy 0, 48, .inl (fun _ => 0))), (q1, .inl (cy 0, 12, .inl (fun _ => 0))), (q2, .inl (cy 0, 96, .inl (fun _ => 0))), (q3, .inl (cy 0, 12, .inl (fun _ => 0))), (q4, .inl (cy 0, 40, .inl (fun _ => 0))), (q5, .inl (cy 0, 4, .inl (fun _ => 0))), (q6, .inl (cy 0, 8, .inl (fun _ => 0))), (q7, .inl (cy 0, 168, .inl (fun _ => 0)))] H := hP
  have hD : va_D A [(h0, .inr (9, [.ref q0, .ref q1, .ref q2, .ref q3, .int 0, .ref q4, .ref q5, .ref q6, .int 0, .int 0, .int 0, .int 0, .ref q7, .null, .int 0, .null, .null, .null, .null, .null, .null, .null, .null, .null, .null, .null, .null, .int 0, .int 0, .int 0, .int 0, .int 0, .int 0, .null, .null, .int 0, .int 0, .int 0, .int 0, .int 0, .int 0, .null, .null, .null, .null, .null, .null])), (q0, .inl (cy 0, 48, .inl (fun _ => 0))), (q1, .inl (cy 0, 12, .inl (fun _ => 0))), (q2, .inl (cy 0, 96, .inl (fun _ => 0))), (q3, .inl (cy 0, 12, .inl (fun _ => 0))), (q4, .inl (cy 0, 40, .inl (fun _ => 0))), (q5, .inl (cy 0, 4, .inl (fun _ => 0))), (q6, .inl (cy 0, 8, .inl (fun _ => 0))), (q7, .inl (cy 0, 168, .inl (fun _ => 0)))] := hD
  refine lv_aload_n hx hb dX10_init_68 rfl (lv_at hl 0 rfl) ?_
  refine lv_bipush (v := 21) hx hb dX10_init_69 (by decide) ?_
  refine nwA (atype := .int) (t0 := 0) (N' := 21) (a0 := (21, .inl (fun _ => 0))) hx hb (hts (.arrayClass .int) (inT_mem (by decide +kernel))) rfl hK rfl hP hD hS hA (fun _ => rfl) (by decide) (by decide) (Nat.le_of_ble_eq_true rfl) (Nat.le_of_ble_eq_true rfl) (Nat.le_of_ble_eq_true rfl) dX10_init_71 (fun q8 H hP hD hS => ?_)
  have hP : va_P D clsL [(h0, .inr (9, [.ref q0, .ref q1, .ref q2, .ref q3, .int 0, .ref q4, .ref q5, .ref q6, .int 0, .int 0, .int 0, .int 0, .ref q7, .null, .int 0, .null, .null, .null, .null, .null, .null, .null, .null, .null, .null, .null, .null, .int 0, .int 0, .int 0, .int 0, .int 0, .int 0, .null, .null, .int 0, .int 0, .int 0, .int 0, .int 0, .int 0, .null, .null, .null, .null, .null, .null])), (q0, .inl (cy 0, 48, .inl (fun _ => 0))), (q1, .inl (cy 0, 12, .inl (fun _ => 0))), (q2, .inl (cy 0, 96, .inl (fun _ => 0))), (q3, .inl (cy 0, 12, .inl (fun _ => 0))), (q4, .inl (cy 0, 40, .inl (fun _ => 0))), (q5, .inl (cy 0, 4, .inl (fun _ => 0))), (q6, .inl (cy 0, 8, .inl (fun _ => 0))), (q7, .inl (cy 0, 168, .inl (fun _ => 0))), (q8, .inl (cy 0, 21, .inl (fun _ => 0)))] H := hP
  have hD : va_D A [(h0, .inr (9, [.ref q0, .ref q1, .ref q2, .ref q3, .int 0, .ref q4, .ref q5, .ref q6, .int 0, .int 0, .int 0, .int 0, .ref q7, .null, .int 0, .null, .null, .null, .null, .null, .null, .null, .null, .null, .null, .null, .null, .int 0, .int 0, .int 0, .int 0, .int 0, .int 0, .null, .null, .int 0, .int 0, .int 0, .int 0, .int 0, .int 0, .null, .null, .null, .null, .null, .null])), (q0, .inl (cy 0, 48, .inl (fun _ => 0))), (q1, .inl (cy 0, 12, .inl (fun _ => 0))), (q2, .inl (cy 0, 96, .inl (fun _ => 0))), (q3, .inl (cy 0, 12, .inl (fun _ => 0))), (q4, .inl (cy 0, 40, .inl (fun _ => 0))), (q5, .inl (cy 0, 4, .inl (fun _ => 0))), (q6, .inl (cy 0, 8, .inl (fun _ => 0))), (q7, .inl (cy 0, 168, .inl (fun _ => 0))), (q8, .inl (cy 0, 21, .inl (fun _ => 0)))] := hD
  refine W.widen (k := 9) (n := 409) (Nat.le_of_ble_eq_true rfl) (Nat.le_of_ble_eq_true rfl) ?_
  refine va_putF (D := D) (ci := 9) (v := .ref q8) (ty := .array .int) (C := RX10) (T := TX10) (N := 47) hx hb hts (inW inX10 (by decide +kernel)) tyX10 tyX10_ok nmX10 hown hK hP hD hS 0 rfl rfl 13 (by decide) (hts (.fieldLink RX10 36 "AdderChooserModel" "knownMany" "[I") (inT_mem (by decide +kernel))) (fun _ h9 => h9) rfl hin rfl (by decide +kernel) rfl rfl (Nat.le_of_ble_eq_true rfl) dX10_init_73 (fun H _ hP hD hS => ?_)
  have hP : va_P D clsL [(h0, .inr (9, [.ref q0, .ref q1, .ref q2, .ref q3, .int 0, .ref q4, .ref q5, .ref q6, .int 0, .int 0, .int 0, .int 0, .ref q7, .ref q8, .int 0, .null, .null, .null, .null, .null, .null, .null, .null, .null, .null, .null, .null, .int 0, .int 0, .int 0, .int 0, .int 0, .int 0, .null, .null, .int 0, .int 0, .int 0, .int 0, .int 0, .int 0, .null, .null, .null, .null, .null, .null])), (q0, .inl (cy 0, 48, .inl (fun _ => 0))), (q1, .inl (cy 0, 12, .inl (fun _ => 0))), (q2, .inl (cy 0, 96, .inl (fun _ => 0))), (q3, .inl (cy 0, 12, .inl (fun _ => 0))), (q4, .inl (cy 0, 40, .inl (fun _ => 0))), (q5, .inl (cy 0, 4, .inl (fun _ => 0))), (q6, .inl (cy 0, 8, .inl (fun _ => 0))), (q7, .inl (cy 0, 168, .inl (fun _ => 0))), (q8, .inl (cy 0, 21, .inl (fun _ => 0)))] H := hP
  have hD : va_D A [(h0, .inr (9, [.ref q0, .ref q1, .ref q2, .ref q3, .int 0, .ref q4, .ref q5, .ref q6, .int 0, .int 0, .int 0, .int 0, .ref q7, .ref q8, .int 0, .null, .null, .null, .null, .null, .null, .null, .null, .null, .null, .null, .null, .int 0, .int 0, .int 0, .int 0, .int 0, .int 0, .null, .null, .int 0, .int 0, .int 0, .int 0, .int 0, .int 0, .null, .null, .null, .null, .null, .null])), (q0, .inl (cy 0, 48, .inl (fun _ => 0))), (q1, .inl (cy 0, 12, .inl (fun _ => 0))), (q2, .inl (cy 0, 96, .inl (fun _ => 0))), (q3, .inl (cy 0, 12, .inl (fun _ => 0))), (q4, .inl (cy 0, 40, .inl (fun _ => 0))), (q5, .inl (cy 0, 4, .inl (fun _ => 0))), (q6, .inl (cy 0, 8, .inl (fun _ => 0))), (q7, .inl (cy 0, 168, .inl (fun _ => 0))), (q8, .inl (cy 0, 21, .inl (fun _ => 0)))] := hD
  refine lv_aload_n hx hb dX10_init_76 rfl (lv_at hl 0 rfl) ?_
  refine lv_iconst (v := 4) hx hb dX10_init_77 (by decide) ?_
  refine nwA (atype := .int) (t0 := 0) (N' := 4) (a0 := (4, .inl (fun _ => 0))) hx hb (hts (.arrayClass .int) (inT_mem (by decide +kernel))) rfl hK rfl hP hD hS hA (fun _ => rfl) (by decide) (by decide) (Nat.le_of_ble_eq_true rfl) (Nat.le_of_ble_eq_true rfl) (Nat.le_of_ble_eq_true rfl) dX10_init_78 (fun q9 H hP hD hS => ?_)
  have hP : va_P D clsL [(h0, .inr (9, [.ref q0, .ref q1, .ref q2, .ref q3, .int 0, .ref q4, .ref q5, .ref q6, .int 0, .int 0, .int 0, .int 0, .ref q7, .ref q8, .int 0, .null, .null, .null, .null, .null, .null, .null, .null, .null, .null, .null, .null, .int 0, .int 0, .int 0, .int 0, .int 0, .int 0, .null, .null, .int 0, .int 0, .int 0, .int 0, .int 0, .int 0, .null, .null, .null, .null, .null, .null])), (q0, .inl (cy 0, 48, .inl (fun _ => 0))), (q1, .inl (cy 0, 12, .inl (fun _ => 0))), (q2, .inl (cy 0, 96, .inl (fun _ => 0))), (q3, .inl (cy 0, 12, .inl (fun _ => 0))), (q4, .inl (cy 0, 40, .inl (fun _ => 0))), (q5, .inl (cy 0, 4, .inl (fun _ => 0))), (q6, .inl (cy 0, 8, .inl (fun _ => 0))), (q7, .inl (cy 0, 168, .inl (fun _ => 0))), (q8, .inl (cy 0, 21, .inl (fun _ => 0))), (q9, .inl (cy 0, 4, .inl (fun _ => 0)))] H := hP
  have hD : va_D A [(h0, .inr (9, [.ref q0, .ref q1, .ref q2, .ref q3, .int 0, .ref q4, .ref q5, .ref q6, .int 0, .int 0, .int 0, .int 0, .ref q7, .ref q8, .int 0, .null, .null, .null, .null, .null, .null, .null, .null, .null, .null, .null, .null, .int 0, .int 0, .int 0, .int 0, .int 0, .int 0, .null, .null, .int 0, .int 0, .int 0, .int 0, .int 0, .int 0, .null, .null, .null, .null, .null, .null])), (q0, .inl (cy 0, 48, .inl (fun _ => 0))), (q1, .inl (cy 0, 12, .inl (fun _ => 0))), (q2, .inl (cy 0, 96, .inl (fun _ => 0))), (q3, .inl (cy 0, 12, .inl (fun _ => 0))), (q4, .inl (cy 0, 40, .inl (fun _ => 0))), (q5, .inl (cy 0, 4, .inl (fun _ => 0))), (q6, .inl (cy 0, 8, .inl (fun _ => 0))), (q7, .inl (cy 0, 168, .inl (fun _ => 0))), (q8, .inl (cy 0, 21, .inl (fun _ => 0))), (q9, .inl (cy 0, 4, .inl (fun _ => 0)))] := hD
  refine W.widen (k := 10) (n := 413) (Nat.le_of_ble_eq_true rfl) (Nat.le_of_ble_eq_true rfl) ?_
  refine lv_dup hx hb dX10_init_80 rfl ?_
  refine lv_iconst (v := 0) hx hb dX10_init_81 (by decide) ?_
  refine lv_iconst (v := 1) hx hb dX10_init_82 (by decide) ?_
  refine va_iast (D := D) hx hb hK hP hD hS 10 0 rfl rfl (show vp_in (nI 0) 4 from vp_in_nI (by decide) (by decide)) dX10_init_83 (fun H _ hP hD hS => ?_)
  have hP : va_P D clsL [(h0, .inr (9, [.ref q0, .ref q1, .ref q2, .ref q3, .int 0, .ref q4, .ref q5, .ref q6, .int 0, .int 0, .int 0, .int 0, .ref q7, .ref q8, .int 0, .null, .null, .null, .null, .null, .null, .null, .null, .null, .null, .null, .null, .int 0, .int 0, .int 0, .int 0, .int 0, .int 0, .null, .null, .int 0, .int 0, .int 0, .int 0, .int 0, .int 0, .null, .null, .null, .null, .null, .null])), (q0, .inl (cy 0, 48, .inl (fun _ => 0))), (q1, .inl (cy 0, 12, .inl (fun _ => 0))), (q2, .inl (cy 0, 96, .inl (fun _ => 0))), (q3, .inl (cy 0, 12, .inl (fun _ => 0))), (q4, .inl (cy 0, 40, .inl (fun _ => 0))), (q5, .inl (cy 0, 4, .inl (fun _ => 0))), (q6, .inl (cy 0, 8, .inl (fun _ => 0))), (q7, .inl (cy 0, 168, .inl (fun _ => 0))), (q8, .inl (cy 0, 21, .inl (fun _ => 0))), (q9, .inl (cy 0, 4, .inl (upd (fun _ => 0) 0 1)))] H := hP
  have hD : va_D A [(h0, .inr (9, [.ref q0, .ref q1, .ref q2, .ref q3, .int 0, .ref q4, .ref q5, .ref q6, .int 0, .int 0, .int 0, .int 0, .ref q7, .ref q8, .int 0, .null, .null, .null, .null, .null, .null, .null, .null, .null, .null, .null, .null, .int 0, .int 0, .int 0, .int 0, .int 0, .int 0, .null, .null, .int 0, .int 0, .int 0, .int 0, .int 0, .int 0, .null, .null, .null, .null, .null, .null])), (q0, .inl (cy 0, 48, .inl (fun _ => 0))), (q1, .inl (cy 0, 12, .inl (fun _ => 0))), (q2, .inl (cy 0, 96, .inl (fun _ => 0))), (q3, .inl (cy 0, 12, .inl (fun _ => 0))), (q4, .inl (cy 0, 40, .inl (fun _ => 0))), (q5, .inl (cy 0, 4, .inl (fun _ => 0))), (q6, .inl (cy 0, 8, .inl (fun _ => 0))), (q7, .inl (cy 0, 168, .inl (fun _ => 0))), (q8, .inl (cy 0, 21, .inl (fun _ => 0))), (q9, .inl (cy 0, 4, .inl (upd (fun _ => 0) 0 1)))] := hD
  refine lv_dup hx hb dX10_init_84 rfl ?_
  refine lv_iconst (v := 1) hx hb dX10_init_85 (by decide) ?_
  refine lv_iconst (v := 2) hx hb dX10_init_86 (by decide) ?_
  refine va_iast (D := D) hx hb hK hP hD hS 10 0 rfl rfl (show vp_in (nI 1) 4 from vp_in_nI (by decide) (by decide)) dX10_init_87 (fun H _ hP hD hS => ?_)
  have hP : va_P D clsL [(h0, .inr (9, [.ref q0, .ref q1, .ref q2, .ref q3, .int 0, .ref q4, .ref q5, .ref q6, .int 0, .int 0, .int 0, .int 0, .ref q7, .ref q8, .int 0, .null, .null, .null, .null, .null, .null, .null, .null, .null, .null, .null, .null, .int 0, .int 0, .int 0, .int 0, .int 0, .int 0, .null, .null, .int 0, .int 0, .int 0, .int 0, .int 0, .int 0, .null, .null, .null, .null, .null, .null])), (q0, .inl (cy 0, 48, .inl (fun _ => 0))), (q1, .inl (cy 0, 12, .inl (fun _ => 0))), (q2, .inl (cy 0, 96, .inl (fun _ => 0))), (q3, .inl (cy 0, 12, .inl (fun _ => 0))), (q4, .inl (cy 0, 40, .inl (fun _ => 0))), (q5, .inl (cy 0, 4, .inl (fun _ => 0))), (q6, .inl (cy 0, 8, .inl (fun _ => 0))), (q7, .inl (cy 0, 168, .inl (fun _ => 0))), (q8, .inl (cy 0, 21, .inl (fun _ => 0))), (q9, .inl (cy 0, 4, .inl (upd (upd (fun _ => 0) 0 1) 1 2)))] H := hP
  have hD : va_D A [(h0, .inr (9, [.ref q0, .ref q1, .ref q2, .ref q3, .int 0, .ref q4, .ref q5, .ref q6, .int 0, .int 0, .int 0, .int 0, .ref q7, .ref q8, .int 0, .null, .null, .null, .null, .null, .null, .null, .null, .null, .null, .null, .null, .int 0, .int 0, .int 0, .int 0, .int 0, .int 0, .null, .null, .int 0, .int 0, .int 0, .int 0, .int 0, .int 0, .null, .null, .null, .null, .null, .null])), (q0, .inl (cy 0, 48, .inl (fun _ => 0))), (q1, .inl (cy 0, 12, .inl (fun _ => 0))), (q2, .inl (cy 0, 96, .inl (fun _ => 0))), (q3, .inl (cy 0, 12, .inl (fun _ => 0))), (q4, .inl (cy 0, 40, .inl (fun _ => 0))), (q5, .inl (cy 0, 4, .inl (fun _ => 0))), (q6, .inl (cy 0, 8, .inl (fun _ => 0))), (q7, .inl (cy 0, 168, .inl (fun _ => 0))), (q8, .inl (cy 0, 21, .inl (fun _ => 0))), (q9, .inl (cy 0, 4, .inl (upd (upd (fun _ => 0) 0 1) 1 2)))] := hD
  refine lv_dup hx hb dX10_init_88 rfl ?_
  refine lv_iconst (v := 2) hx hb dX10_init_89 (by decide) ?_
  refine lv_iconst (v := 2) hx hb dX10_init_90 (by decide) ?_
  refine va_iast (D := D) hx hb hK hP hD hS 10 0 rfl rfl (show vp_in (nI 2) 4 from vp_in_nI (by decide) (by decide)) dX10_init_91 (fun H _ hP hD hS => ?_)
  have hP : va_P D clsL [(h0, .inr (9, [.ref q0, .ref q1, .ref q2, .ref q3, .int 0, .ref q4, .ref q5, .ref q6, .int 0, .int 0, .int 0, .int 0, .ref q7, .ref q8, .int 0, .null, .null, .null, .null, .null, .null, .null, .null, .null, .null, .null, .null, .int 0, .int 0, .int 0, .int 0, .int 0, .int 0, .null, .null, .int 0, .int 0, .int 0, .int 0, .int 0, .int 0, .null, .null, .null, .null, .null, .null])), (q0, .inl (cy 0, 48, .inl (fun _ => 0))), (q1, .inl (cy 0, 12, .inl (fun _ => 0))), (q2, .inl (cy 0, 96, .inl (fun _ => 0))), (q3, .inl (cy 0, 12, .inl (fun _ => 0))), (q4, .inl (cy 0, 40, .inl (fun _ => 0))), (q5, .inl (cy 0, 4, .inl (fun _ => 0))), (q6, .inl (cy 0, 8, .inl (fun _ => 0))), (q7, .inl (cy 0, 168, .inl (fun _ => 0))), (q8, .inl (cy 0, 21, .inl (fun _ => 0))), (q9, .inl (cy 0, 4, .inl (upd (upd (upd (fun _ => 0) 0 1) 1 2) 2 2)))] H := hP
  have hD : va_D A [(h0, .inr (9, [.ref q0, .ref q1, .ref q2, .ref q3, .int 0, .ref q4, .ref q5, .ref q6, .int 0, .int 0, .int 0, .int 0, .ref q7, .ref q8, .int 0, .null, .null, .null, .null, .null, .null, .null, .null, .null, .null, .null, .null, .int 0, .int 0, .int 0, .int 0, .int 0, .int 0, .null, .null, .int 0, .int 0, .int 0, .int 0, .int 0, .int 0, .null, .null, .null, .null, .null, .null])), (q0, .inl (cy 0, 48, .inl (fun _ => 0))), (q1, .inl (cy 0, 12, .inl (fun _ => 0))), (q2, .inl (cy 0, 96, .inl (fun _ => 0))), (q3, .inl (cy 0, 12, .inl (fun _ => 0))), (q4, .inl (cy 0, 40, .inl (fun _ => 0))), (q5, .inl (cy 0, 4, .inl (fun _ => 0))), (q6, .inl (cy 0, 8, .inl (fun _ => 0))), (q7, .inl (cy 0, 168, .inl (fun _ => 0))), (q8, .inl (cy 0, 21, .inl (fun _ => 0))), (q9, .inl (cy 0, 4, .inl (upd (upd (upd (fun _ => 0) 0 1) 1 2) 2 2)))] := hD
  refine lv_dup hx hb dX10_init_92 rfl ?_
  refine lv_iconst (v := 3) hx hb dX10_init_93 (by decide) ?_
  refine lv_iconst (v := 3) hx hb dX10_init_94 (by decide) ?_
  refine va_iast (D := D) hx hb hK hP hD hS 10 0 rfl rfl (show vp_in (nI 3) 4 from vp_in_nI (by decide) (by decide)) dX10_init_95 (fun H _ hP hD hS => ?_)
  have hP : va_P D clsL [(h0, .inr (9, [.ref q0, .ref q1, .ref q2, .ref q3, .int 0, .ref q4, .ref q5, .ref q6, .int 0, .int 0, .int 0, .int 0, .ref q7, .ref q8, .int 0, .null, .null, .null, .null, .null, .null, .null, .null, .null, .null, .null, .null, .int 0, .int 0, .int 0, .int 0, .int 0, .int 0, .null, .null, .int 0, .int 0, .int 0, .int 0, .int 0, .int 0, .null, .null, .null, .null, .null, .null])), (q0, .inl (cy 0, 48, .inl (fun _ => 0))), (q1, .inl (cy 0, 12, .inl (fun _ => 0))), (q2, .inl (cy 0, 96, .inl (fun _ => 0))), (q3, .inl (cy 0, 12, .inl (fun _ => 0))), (q4, .inl (cy 0, 40, .inl (fun _ => 0))), (q5, .inl (cy 0, 4, .inl (fun _ => 0))), (q6, .inl (cy 0, 8, .inl (fun _ => 0))), (q7, .inl (cy 0, 168, .inl (fun _ => 0))), (q8, .inl (cy 0, 21, .inl (fun _ => 0))), (q9, .inl (cy 0, 4, .inl (upd (upd (upd (upd (fun _ => 0) 0 1) 1 2) 2 2) 3 3)))] H := hP
  have hD : va_D A [(h0, .inr (9, [.ref q0, .ref q1, .ref q2, .ref q3, .int 0, .ref q4, .ref q5, .ref q6, .int 0, .int 0, .int 0, .int 0, .ref q7, .ref q8, .int 0, .null, .null, .null, .null, .null, .null, .null, .null, .null, .null, .null, .null, .int 0, .int 0, .int 0, .int 0, .int 0, .int 0, .null, .null, .int 0, .int 0, .int 0, .int 0, .int 0, .int 0, .null, .null, .null, .null, .null, .null])), (q0, .inl (cy 0, 48, .inl (fun _ => 0))), (q1, .inl (cy 0, 12, .inl (fun _ => 0))), (q2, .inl (cy 0, 96, .inl (fun _ => 0))), (q3, .inl (cy 0, 12, .inl (fun _ => 0))), (q4, .inl (cy 0, 40, .inl (fun _ => 0))), (q5, .inl (cy 0, 4, .inl (fun _ => 0))), (q6, .inl (cy 0, 8, .inl (fun _ => 0))), (q7, .inl (cy 0, 168, .inl (fun _ => 0))), (q8, .inl (cy 0, 21, .inl (fun _ => 0))), (q9, .inl (cy 0, 4, .inl (upd (upd (upd (upd (fun _ => 0) 0 1) 1 2) 2 2) 3 3)))] := hD
  refine va_putF (D := D) (ci := 9) (v := .ref q9) (ty := .array .int) (C := RX10) (T := TX10) (N := 47) hx hb hts (inW inX10 (by decide +kernel)) tyX10 tyX10_ok nmX10 hown hK hP hD hS 0 rfl rfl 15 (by decide) (hts (.fieldLink RX10 39 "AdderChooserModel" "delays" "[I") (inT_mem (by decide +kernel))) (fun _ h9 => h9) rfl hin rfl (by decide +kernel) rfl rfl (Nat.le_of_ble_eq_true rfl) dX10_init_96 (fun H _ hP hD hS => ?_)
  have hP : va_P D clsL [(h0, .inr (9, [.ref q0, .ref q1, .ref q2, .ref q3, .int 0, .ref q4, .ref q5, .ref q6, .int 0, .int 0, .int 0, .int 0, .ref q7, .ref q8, .int 0, .ref q9, .null, .null, .null, .null, .null, .null, .null, .null, .null, .null, .null, .int 0, .int 0, .int 0, .int 0, .int 0, .int 0, .null, .null, .int 0, .int 0, .int 0, .int 0, .int 0, .int 0, .null, .null, .null, .null, .null, .null])), (q0, .inl (cy 0, 48, .inl (fun _ => 0))), (q1, .inl (cy 0, 12, .inl (fun _ => 0))), (q2, .inl (cy 0, 96, .inl (fun _ => 0))), (q3, .inl (cy 0, 12, .inl (fun _ => 0))), (q4, .inl (cy 0, 40, .inl (fun _ => 0))), (q5, .inl (cy 0, 4, .inl (fun _ => 0))), (q6, .inl (cy 0, 8, .inl (fun _ => 0))), (q7, .inl (cy 0, 168, .inl (fun _ => 0))), (q8, .inl (cy 0, 21, .inl (fun _ => 0))), (q9, .inl (cy 0, 4, .inl (upd (upd (upd (upd (fun _ => 0) 0 1) 1 2) 2 2) 3 3)))] H := hP
  have hD : va_D A [(h0, .inr (9, [.ref q0, .ref q1, .ref q2, .ref q3, .int 0, .ref q4, .ref q5, .ref q6, .int 0, .int 0, .int 0, .int 0, .ref q7, .ref q8, .int 0, .ref q9, .null, .null, .null, .null, .null, .null, .null, .null, .null, .null, .null, .int 0, .int 0, .int 0, .int 0, .int 0, .int 0, .null, .null, .int 0, .int 0, .int 0, .int 0, .int 0, .int 0, .null, .null, .null, .null, .null, .null])), (q0, .inl (cy 0, 48, .inl (fun _ => 0))), (q1, .inl (cy 0, 12, .inl (fun _ => 0))), (q2, .inl (cy 0, 96, .inl (fun _ => 0))), (q3, .inl (cy 0, 12, .inl (fun _ => 0))), (q4, .inl (cy 0, 40, .inl (fun _ => 0))), (q5, .inl (cy 0, 4, .inl (fun _ => 0))), (q6, .inl (cy 0, 8, .inl (fun _ => 0))), (q7, .inl (cy 0, 168, .inl (fun _ => 0))), (q8, .inl (cy 0, 21, .inl (fun _ => 0))), (q9, .inl (cy 0, 4, .inl (upd (upd (upd (upd (fun _ => 0) 0 1) 1 2) 2 2) 3 3)))] := hD
  refine lv_aload_n hx hb dX10_init_99 rfl (lv_at hl 0 rfl) ?_
  refine lv_bipush (v := 25) hx hb dX10_init_100 (by decide) ?_
  refine nwA (atype := .int) (t0 := 0) (N' := 25) (a0 := (25, .inl (fun _ => 0))) hx hb (hts (.arrayClass .int) (inT_mem (by decide +kernel))) rfl hK rfl hP hD hS hA (fun _ => rfl) (by decide) (by decide) (Nat.le_of_ble_eq_true rfl) (Nat.le_of_ble_eq_true rfl) (Nat.le_of_ble_eq_true rfl) dX10_init_102 (fun q10 H hP hD hS => ?_)
  have hP : va_P D clsL [(h0, .inr (9, [.ref q0, .ref q1, .ref q2, .ref q3, .int 0, .ref q4, .ref q5, .ref q6, .int 0, .int 0, .int 0, .int 0, .ref q7, .ref q8, .int 0, .ref q9, .null, .null, .null, .null, .null, .null, .null, .null, .null, .null, .null, .int 0, .int 0, .int 0, .int 0, .int 0, .int 0, .null, .null, .int 0, .int 0, .int 0, .int 0, .int 0, .int 0, .null, .null, .null, .null, .null, .null])), (q0, .inl (cy 0, 48, .inl (fun _ => 0))), (q1, .inl (cy 0, 12, .inl (fun _ => 0))), (q2, .inl (cy 0, 96, .inl (fun _ => 0))), (q3, .inl (cy 0, 12, .inl (fun _ => 0))), (q4, .inl (cy 0, 40, .inl (fun _ => 0))), (q5, .inl (cy 0, 4, .inl (fun _ => 0))), (q6, .inl (cy 0, 8, .inl (fun _ => 0))), (q7, .inl (cy 0, 168, .inl (fun _ => 0))), (q8, .inl (cy 0, 21, .inl (fun _ => 0))), (q9, .inl (cy 0, 4, .inl (upd (upd (upd (upd (fun _ => 0) 0 1) 1 2) 2 2) 3 3))), (q10, .inl (cy 0, 25, .inl (fun _ => 0)))] H := hP
  have hD : va_D A [(h0, .inr (9, [.ref q0, .ref q1, .ref q2, .ref q3, .int 0, .ref q4, .ref q5, .ref q6, .int 0, .int 0, .int 0, .int 0, .ref q7, .ref q8, .int 0, .ref q9, .null, .null, .null, .null, .null, .null, .null, .null, .null, .null, .null, .int 0, .int 0, .int 0, .int 0, .int 0, .int 0, .null, .null, .int 0, .int 0, .int 0, .int 0, .int 0, .int 0, .null, .null, .null, .null, .null, .null])), (q0, .inl (cy 0, 48, .inl (fun _ => 0))), (q1, .inl (cy 0, 12, .inl (fun _ => 0))), (q2, .inl (cy 0, 96, .inl (fun _ => 0))), (q3, .inl (cy 0, 12, .inl (fun _ => 0))), (q4, .inl (cy 0, 40, .inl (fun _ => 0))), (q5, .inl (cy 0, 4, .inl (fun _ => 0))), (q6, .inl (cy 0, 8, .inl (fun _ => 0))), (q7, .inl (cy 0, 168, .inl (fun _ => 0))), (q8, .inl (cy 0, 21, .inl (fun _ => 0))), (q9, .inl (cy 0, 4, .inl (upd (upd (upd (upd (fun _ => 0) 0 1) 1 2) 2 2) 3 3))), (q10, .inl (cy 0, 25, .inl (fun _ => 0)))] := hD
  refine W.widen (k := 11) (n := 438) (Nat.le_of_ble_eq_true rfl) (Nat.le_of_ble_eq_true rfl) ?_
  refine va_putF (D := D) (ci := 9) (v := .ref q10) (ty := .array .int) (C := RX10) (T := TX10) (N := 47) hx hb hts (inW inX10 (by decide +kernel)) tyX10 tyX10_ok nmX10 hown hK hP hD hS 0 rfl rfl 16 (by decide) (hts (.fieldLink RX10 42 "AdderChooserModel" "arrivals" "[I") (inT_mem (by decide +kernel))) (fun _ h9 => h9) rfl hin rfl (by decide +kernel) rfl rfl (Nat.le_of_ble_eq_true rfl) dX10_init_104 (fun H _ hP hD hS => ?_)
  have hP : va_P D clsL [(h0, .inr (9, [.ref q0, .ref q1, .ref q2, .ref q3, .int 0, .ref q4, .ref q5, .ref q6, .int 0, .int 0, .int 0, .int 0, .ref q7, .ref q8, .int 0, .ref q9, .ref q10, .null, .null, .null, .null, .null, .null, .null, .null, .null, .null, .int 0, .int 0, .int 0, .int 0, .int 0, .int 0, .null, .null, .int 0, .int 0, .int 0, .int 0, .int 0, .int 0, .null, .null, .null, .null, .null, .null])), (q0, .inl (cy 0, 48, .inl (fun _ => 0))), (q1, .inl (cy 0, 12, .inl (fun _ => 0))), (q2, .inl (cy 0, 96, .inl (fun _ => 0))), (q3, .inl (cy 0, 12, .inl (fun _ => 0))), (q4, .inl (cy 0, 40, .inl (fun _ => 0))), (q5, .inl (cy 0, 4, .inl (fun _ => 0))), (q6, .inl (cy 0, 8, .inl (fun _ => 0))), (q7, .inl (cy 0, 168, .inl (fun _ => 0))), (q8, .inl (cy 0, 21, .inl (fun _ => 0))), (q9, .inl (cy 0, 4, .inl (upd (upd (upd (upd (fun _ => 0) 0 1) 1 2) 2 2) 3 3))), (q10, .inl (cy 0, 25, .inl (fun _ => 0)))] H := hP
  have hD : va_D A [(h0, .inr (9, [.ref q0, .ref q1, .ref q2, .ref q3, .int 0, .ref q4, .ref q5, .ref q6, .int 0, .int 0, .int 0, .int 0, .ref q7, .ref q8, .int 0, .ref q9, .ref q10, .null, .null, .null, .null, .null, .null, .null, .null, .null, .null, .int 0, .int 0, .int 0, .int 0, .int 0, .int 0, .null, .null, .int 0, .int 0, .int 0, .int 0, .int 0, .int 0, .null, .null, .null, .null, .null, .null])), (q0, .inl (cy 0, 48, .inl (fun _ => 0))), (q1, .inl (cy 0, 12, .inl (fun _ => 0))), (q2, .inl (cy 0, 96, .inl (fun _ => 0))), (q3, .inl (cy 0, 12, .inl (fun _ => 0))), (q4, .inl (cy 0, 40, .inl (fun _ => 0))), (q5, .inl (cy 0, 4, .inl (fun _ => 0))), (q6, .inl (cy 0, 8, .inl (fun _ => 0))), (q7, .inl (cy 0, 168, .inl (fun _ => 0))), (q8, .inl (cy 0, 21, .inl (fun _ => 0))), (q9, .inl (cy 0, 4, .inl (upd (upd (upd (upd (fun _ => 0) 0 1) 1 2) 2 2) 3 3))), (q10, .inl (cy 0, 25, .inl (fun _ => 0)))] := hD
  refine lv_aload_n hx hb dX10_init_107 rfl (lv_at hl 0 rfl) ?_
  refine lv_sipush (v := 2048) hx hb dX10_init_108 (by decide) ?_
  refine nwA (atype := .int) (t0 := 0) (N' := 2048) (a0 := (2048, .inl (fun _ => 0))) hx hb (hts (.arrayClass .int) (inT_mem (by decide +kernel))) rfl hK rfl hP hD hS hA (fun _ => rfl) (by decide) (by decide) (Nat.le_of_ble_eq_true rfl) (Nat.le_of_ble_eq_true rfl) (Nat.le_of_ble_eq_true rfl) dX10_init_111 (fun q11 H hP hD hS => ?_)
  have hP : va_P D clsL [(h0, .inr (9, [.ref q0, .ref q1, .ref q2, .ref q3, .int 0, .ref q4, .ref q5, .ref q6, .int 0, .int 0, .int 0, .int 0, .ref q7, .ref q8, .int 0, .ref q9, .ref q10, .null, .null, .null, .null, .null, .null, .null, .null, .null, .null, .int 0, .int 0, .int 0, .int 0, .int 0, .int 0, .null, .null, .int 0, .int 0, .int 0, .int 0, .int 0, .int 0, .null, .null, .null, .null, .null, .null])), (q0, .inl (cy 0, 48, .inl (fun _ => 0))), (q1, .inl (cy 0, 12, .inl (fun _ => 0))), (q2, .inl (cy 0, 96, .inl (fun _ => 0))), (q3, .inl (cy 0, 12, .inl (fun _ => 0))), (q4, .inl (cy 0, 40, .inl (fun _ => 0))), (q5, .inl (cy 0, 4, .inl (fun _ => 0))), (q6, .inl (cy 0, 8, .inl (fun _ => 0))), (q7, .inl (cy 0, 168, .inl (fun _ => 0))), (q8, .inl (cy 0, 21, .inl (fun _ => 0))), (q9, .inl (cy 0, 4, .inl (upd (upd (upd (upd (fun _ => 0) 0 1) 1 2) 2 2) 3 3))), (q10, .inl (cy 0, 25, .inl (fun _ => 0))), (q11, .inl (cy 0, 2048, .inl (fun _ => 0)))] H := hP
  have hD : va_D A [(h0, .inr (9, [.ref q0, .ref q1, .ref q2, .ref q3, .int 0, .ref q4, .ref q5, .ref q6, .int 0, .int 0, .int 0, .int 0, .ref q7, .ref q8, .int 0, .ref q9, .ref q10, .null, .null, .null, .null, .null, .null, .null, .null, .null, .null, .int 0, .int 0, .int 0, .int 0, .int 0, .int 0, .null, .null, .int 0, .int 0, .int 0, .int 0, .int 0, .int 0, .null, .null, .null, .null, .null, .null])), (q0, .inl (cy 0, 48, .inl (fun _ => 0))), (q1, .inl (cy 0, 12, .inl (fun _ => 0))), (q2, .inl (cy 0, 96, .inl (fun _ => 0))), (q3, .inl (cy 0, 12, .inl (fun _ => 0))), (q4, .inl (cy 0, 40, .inl (fun _ => 0))), (q5, .inl (cy 0, 4, .inl (fun _ => 0))), (q6, .inl (cy 0, 8, .inl (fun _ => 0))), (q7, .inl (cy 0, 168, .inl (fun _ => 0))), (q8, .inl (cy 0, 21, .inl (fun _ => 0))), (q9, .inl (cy 0, 4, .inl (upd (upd (upd (upd (fun _ => 0) 0 1) 1 2) 2 2) 3 3))), (q10, .inl (cy 0, 25, .inl (fun _ => 0))), (q11, .inl (cy 0, 2048, .inl (fun _ => 0)))] := hD
  refine W.widen (k := 12) (n := 2486) (Nat.le_of_ble_eq_true rfl) (Nat.le_of_ble_eq_true rfl) ?_
  refine va_putF (D := D) (ci := 9) (v := .ref q11) (ty := .array .int) (C := RX10) (T := TX10) (N := 47) hx hb hts (inW inX10 (by decide +kernel)) tyX10 tyX10_ok nmX10 hown hK hP hD hS 0 rfl rfl 17 (by decide) (hts (.fieldLink RX10 45 "AdderChooserModel" "kinds" "[I") (inT_mem (by decide +kernel))) (fun _ h9 => h9) rfl hin rfl (by decide +kernel) rfl rfl (Nat.le_of_ble_eq_true rfl) dX10_init_113 (fun H _ hP hD hS => ?_)
  have hP : va_P D clsL [(h0, .inr (9, [.ref q0, .ref q1, .ref q2, .ref q3, .int 0, .ref q4, .ref q5, .ref q6, .int 0, .int 0, .int 0, .int 0, .ref q7, .ref q8, .int 0, .ref q9, .ref q10, .ref q11, .null, .null, .null, .null, .null, .null, .null, .null, .null, .int 0, .int 0, .int 0, .int 0, .int 0, .int 0, .null, .null, .int 0, .int 0, .int 0, .int 0, .int 0, .int 0, .null, .null, .null, .null, .null, .null])), (q0, .inl (cy 0, 48, .inl (fun _ => 0))), (q1, .inl (cy 0, 12, .inl (fun _ => 0))), (q2, .inl (cy 0, 96, .inl (fun _ => 0))), (q3, .inl (cy 0, 12, .inl (fun _ => 0))), (q4, .inl (cy 0, 40, .inl (fun _ => 0))), (q5, .inl (cy 0, 4, .inl (fun _ => 0))), (q6, .inl (cy 0, 8, .inl (fun _ => 0))), (q7, .inl (cy 0, 168, .inl (fun _ => 0))), (q8, .inl (cy 0, 21, .inl (fun _ => 0))), (q9, .inl (cy 0, 4, .inl (upd (upd (upd (upd (fun _ => 0) 0 1) 1 2) 2 2) 3 3))), (q10, .inl (cy 0, 25, .inl (fun _ => 0))), (q11, .inl (cy 0, 2048, .inl (fun _ => 0)))] H := hP
  have hD : va_D A [(h0, .inr (9, [.ref q0, .ref q1, .ref q2, .ref q3, .int 0, .ref q4, .ref q5, .ref q6, .int 0, .int 0, .int 0, .int 0, .ref q7, .ref q8, .int 0, .ref q9, .ref q10, .ref q11, .null, .null, .null, .null, .null, .null, .null, .null, .null, .int 0, .int 0, .int 0, .int 0, .int 0, .int 0, .null, .null, .int 0, .int 0, .int 0, .int 0, .int 0, .int 0, .null, .null, .null, .null, .null, .null])), (q0, .inl (cy 0, 48, .inl (fun _ => 0))), (q1, .inl (cy 0, 12, .inl (fun _ => 0))), (q2, .inl (cy 0, 96, .inl (fun _ => 0))), (q3, .inl (cy 0, 12, .inl (fun _ => 0))), (q4, .inl (cy 0, 40, .inl (fun _ => 0))), (q5, .inl (cy 0, 4, .inl (fun _ => 0))), (q6, .inl (cy 0, 8, .inl (fun _ => 0))), (q7, .inl (cy 0, 168, .inl (fun _ => 0))), (q8, .inl (cy 0, 21, .inl (fun _ => 0))), (q9, .inl (cy 0, 4, .inl (upd (upd (upd (upd (fun _ => 0) 0 1) 1 2) 2 2) 3 3))), (q10, .inl (cy 0, 25, .inl (fun _ => 0))), (q11, .inl (cy 0, 2048, .inl (fun _ => 0)))] := hD
  refine lv_aload_n hx hb dX10_init_116 rfl (lv_at hl 0 rfl) ?_
  refine lv_sipush (v := 2048) hx hb dX10_init_117 (by decide) ?_
  refine nwA (atype := .int) (t0 := 0) (N' := 2048) (a0 := (2048, .inl (fun _ => 0))) hx hb (hts (.arrayClass .int) (inT_mem (by decide +kernel))) rfl hK rfl hP hD hS hA (fun _ => rfl) (by decide) (by decide) (Nat.le_of_ble_eq_true rfl) (Nat.le_of_ble_eq_true rfl) (Nat.le_of_ble_eq_true rfl) dX10_init_120 (fun q12 H hP hD hS => ?_)
  have hP : va_P D clsL [(h0, .inr (9, [.ref q0, .ref q1, .ref q2, .ref q3, .int 0, .ref q4, .ref q5, .ref q6, .int 0, .int 0, .int 0, .int 0, .ref q7, .ref q8, .int 0, .ref q9, .ref q10, .ref q11, .null, .null, .null, .null, .null, .null, .null, .null, .null, .int 0, .int 0, .int 0, .int 0, .int 0, .int 0, .null, .null, .int 0, .int 0, .int 0, .int 0, .int 0, .int 0, .null, .null, .null, .null, .null, .null])), (q0, .inl (cy 0, 48, .inl (fun _ => 0))), (q1, .inl (cy 0, 12, .inl (fun _ => 0))), (q2, .inl (cy 0, 96, .inl (fun _ => 0))), (q3, .inl (cy 0, 12, .inl (fun _ => 0))), (q4, .inl (cy 0, 40, .inl (fun _ => 0))), (q5, .inl (cy 0, 4, .inl (fun _ => 0))), (q6, .inl (cy 0, 8, .inl (fun _ => 0))), (q7, .inl (cy 0, 168, .inl (fun _ => 0))), (q8, .inl (cy 0, 21, .inl (fun _ => 0))), (q9, .inl (cy 0, 4, .inl (upd (upd (upd (upd (fun _ => 0) 0 1) 1 2) 2 2) 3 3))), (q10, .inl (cy 0, 25, .inl (fun _ => 0))), (q11, .inl (cy 0, 2048, .inl (fun _ => 0))), (q12, .inl (cy 0, 2048, .inl (fun _ => 0)))] H := hP
  have hD : va_D A [(h0, .inr (9, [.ref q0, .ref q1, .ref q2, .ref q3, .int 0, .ref q4, .ref q5, .ref q6, .int 0, .int 0, .int 0, .int 0, .ref q7, .ref q8, .int 0, .ref q9, .ref q10, .ref q11, .null, .null, .null, .null, .null, .null, .null, .null, .null, .int 0, .int 0, .int 0, .int 0, .int 0, .int 0, .null, .null, .int 0, .int 0, .int 0, .int 0, .int 0, .int 0, .null, .null, .null, .null, .null, .null])), (q0, .inl (cy 0, 48, .inl (fun _ => 0))), (q1, .inl (cy 0, 12, .inl (fun _ => 0))), (q2, .inl (cy 0, 96, .inl (fun _ => 0))), (q3, .inl (cy 0, 12, .inl (fun _ => 0))), (q4, .inl (cy 0, 40, .inl (fun _ => 0))), (q5, .inl (cy 0, 4, .inl (fun _ => 0))), (q6, .inl (cy 0, 8, .inl (fun _ => 0))), (q7, .inl (cy 0, 168, .inl (fun _ => 0))), (q8, .inl (cy 0, 21, .inl (fun _ => 0))), (q9, .inl (cy 0, 4, .inl (upd (upd (upd (upd (fun _ => 0) 0 1) 1 2) 2 2) 3 3))), (q10, .inl (cy 0, 25, .inl (fun _ => 0))), (q11, .inl (cy 0, 2048, .inl (fun _ => 0))), (q12, .inl (cy 0, 2048, .inl (fun _ => 0)))] := hD
  refine W.widen (k := 13) (n := 4534) (Nat.le_of_ble_eq_true rfl) (Nat.le_of_ble_eq_true rfl) ?_
  refine va_putF (D := D) (ci := 9) (v := .ref q12) (ty := .array .int) (C := RX10) (T := TX10) (N := 47) hx hb hts (inW inX10 (by decide +kernel)) tyX10 tyX10_ok nmX10 hown hK hP hD hS 0 rfl rfl 18 (by decide) (hts (.fieldLink RX10 48 "AdderChooserModel" "lefts" "[I") (inT_mem (by decide +kernel))) (fun _ h9 => h9) rfl hin rfl (by decide +kernel) rfl rfl (Nat.le_of_ble_eq_true rfl) dX10_init_122 (fun H _ hP hD hS => ?_)
  have hP : va_P D clsL [(h0, .inr (9, [.ref q0, .ref q1, .ref q2, .ref q3, .int 0, .ref q4, .ref q5, .ref q6, .int 0, .int 0, .int 0, .int 0, .ref q7, .ref q8, .int 0, .ref q9, .ref q10, .ref q11, .ref q12, .null, .null, .null, .null, .null, .null, .null, .null, .int 0, .int 0, .int 0, .int 0, .int 0, .int 0, .null, .null, .int 0, .int 0, .int 0, .int 0, .int 0, .int 0, .null, .null, .null, .null, .null, .null])), (q0, .inl (cy 0, 48, .inl (fun _ => 0))), (q1, .inl (cy 0, 12, .inl (fun _ => 0))), (q2, .inl (cy 0, 96, .inl (fun _ => 0))), (q3, .inl (cy 0, 12, .inl (fun _ => 0))), (q4, .inl (cy 0, 40, .inl (fun _ => 0))), (q5, .inl (cy 0, 4, .inl (fun _ => 0))), (q6, .inl (cy 0, 8, .inl (fun _ => 0))), (q7, .inl (cy 0, 168, .inl (fun _ => 0))), (q8, .inl (cy 0, 21, .inl (fun _ => 0))), (q9, .inl (cy 0, 4, .inl (upd (upd (upd (upd (fun _ => 0) 0 1) 1 2) 2 2) 3 3))), (q10, .inl (cy 0, 25, .inl (fun _ => 0))), (q11, .inl (cy 0, 2048, .inl (fun _ => 0))), (q12, .inl (cy 0, 2048, .inl (fun _ => 0)))] H := hP
  have hD : va_D A [(h0, .inr (9, [.ref q0, .ref q1, .ref q2, .ref q3, .int 0, .ref q4, .ref q5, .ref q6, .int 0, .int 0, .int 0, .int 0, .ref q7, .ref q8, .int 0, .ref q9, .ref q10, .ref q11, .ref q12, .null, .null, .null, .null, .null, .null, .null, .null, .int 0, .int 0, .int 0, .int 0, .int 0, .int 0, .null, .null, .int 0, .int 0, .int 0, .int 0, .int 0, .int 0, .null, .null, .null, .null, .null, .null])), (q0, .inl (cy 0, 48, .inl (fun _ => 0))), (q1, .inl (cy 0, 12, .inl (fun _ => 0))), (q2, .inl (cy 0, 96, .inl (fun _ => 0))), (q3, .inl (cy 0, 12, .inl (fun _ => 0))), (q4, .inl (cy 0, 40, .inl (fun _ => 0))), (q5, .inl (cy 0, 4, .inl (fun _ => 0))), (q6, .inl (cy 0, 8, .inl (fun _ => 0))), (q7, .inl (cy 0, 168, .inl (fun _ => 0))), (q8, .inl (cy 0, 21, .inl (fun _ => 0))), (q9, .inl (cy 0, 4, .inl (upd (upd (upd (upd (fun _ => 0) 0 1) 1 2) 2 2) 3 3))), (q10, .inl (cy 0, 25, .inl (fun _ => 0))), (q11, .inl (cy 0, 2048, .inl (fun _ => 0))), (q12, .inl (cy 0, 2048, .inl (fun _ => 0)))] := hD
  refine lv_aload_n hx hb dX10_init_125 rfl (lv_at hl 0 rfl) ?_
  refine lv_sipush (v := 2048) hx hb dX10_init_126 (by decide) ?_
  refine nwA (atype := .int) (t0 := 0) (N' := 2048) (a0 := (2048, .inl (fun _ => 0))) hx hb (hts (.arrayClass .int) (inT_mem (by decide +kernel))) rfl hK rfl hP hD hS hA (fun _ => rfl) (by decide) (by decide) (Nat.le_of_ble_eq_true rfl) (Nat.le_of_ble_eq_true rfl) (Nat.le_of_ble_eq_true rfl) dX10_init_129 (fun q13 H hP hD hS => ?_)
  have hP : va_P D clsL [(h0, .inr (9, [.ref q0, .ref q1, .ref q2, .ref q3, .int 0, .ref q4, .ref q5, .ref q6, .int 0, .int 0, .int 0, .int 0, .ref q7, .ref q8, .int 0, .ref q9, .ref q10, .ref q11, .ref q12, .null, .null, .null, .null, .null, .null, .null, .null, .int 0, .int 0, .int 0, .int 0, .int 0, .int 0, .null, .null, .int 0, .int 0, .int 0, .int 0, .int 0, .int 0, .null, .null, .null, .null, .null, .null])), (q0, .inl (cy 0, 48, .inl (fun _ => 0))), (q1, .inl (cy 0, 12, .inl (fun _ => 0))), (q2, .inl (cy 0, 96, .inl (fun _ => 0))), (q3, .inl (cy 0, 12, .inl (fun _ => 0))), (q4, .inl (cy 0, 40, .inl (fun _ => 0))), (q5, .inl (cy 0, 4, .inl (fun _ => 0))), (q6, .inl (cy 0, 8, .inl (fun _ => 0))), (q7, .inl (cy 0, 168, .inl (fun _ => 0))), (q8, .inl (cy 0, 21, .inl (fun _ => 0))), (q9, .inl (cy 0, 4, .inl (upd (upd (upd (upd (fun _ => 0) 0 1) 1 2) 2 2) 3 3))), (q10, .inl (cy 0, 25, .inl (fun _ => 0))), (q11, .inl (cy 0, 2048, .inl (fun _ => 0))), (q12, .inl (cy 0, 2048, .inl (fun _ => 0))), (q13, .inl (cy 0, 2048, .inl (fun _ => 0)))] H := hP
  have hD : va_D A [(h0, .inr (9, [.ref q0, .ref q1, .ref q2, .ref q3, .int 0, .ref q4, .ref q5, .ref q6, .int 0, .int 0, .int 0, .int 0, .ref q7, .ref q8, .int 0, .ref q9, .ref q10, .ref q11, .ref q12, .null, .null, .null, .null, .null, .null, .null, .null, .int 0, .int 0, .int 0, .int 0, .int 0, .int 0, .null, .null, .int 0, .int 0, .int 0, .int 0, .int 0, .int 0, .null, .null, .null, .null, .null, .null])), (q0, .inl (cy 0, 48, .inl (fun _ => 0))), (q1, .inl (cy 0, 12, .inl (fun _ => 0))), (q2, .inl (cy 0, 96, .inl (fun _ => 0))), (q3, .inl (cy 0, 12, .inl (fun _ => 0))), (q4, .inl (cy 0, 40, .inl (fun _ => 0))), (q5, .inl (cy 0, 4, .inl (fun _ => 0))), (q6, .inl (cy 0, 8, .inl (fun _ => 0))), (q7, .inl (cy 0, 168, .inl (fun _ => 0))), (q8, .inl (cy 0, 21, .inl (fun _ => 0))), (q9, .inl (cy 0, 4, .inl (upd (upd (upd (upd (fun _ => 0) 0 1) 1 2) 2 2) 3 3))), (q10, .inl (cy 0, 25, .inl (fun _ => 0))), (q11, .inl (cy 0, 2048, .inl (fun _ => 0))), (q12, .inl (cy 0, 2048, .inl (fun _ => 0))), (q13, .inl (cy 0, 2048, .inl (fun _ => 0)))] := hD
  refine W.widen (k := 14) (n := 6582) (Nat.le_of_ble_eq_true rfl) (Nat.le_of_ble_eq_true rfl) ?_
  refine va_putF (D := D) (ci := 9) (v := .ref q13) (ty := .array .int) (C := RX10) (T := TX10) (N := 47) hx hb hts (inW inX10 (by decide +kernel)) tyX10 tyX10_ok nmX10 hown hK hP hD hS 0 rfl rfl 19 (by decide) (hts (.fieldLink RX10 51 "AdderChooserModel" "rights" "[I") (inT_mem (by decide +kernel))) (fun _ h9 => h9) rfl hin rfl (by decide +kernel) rfl rfl (Nat.le_of_ble_eq_true rfl) dX10_init_131 (fun H _ hP hD hS => ?_)
  have hP : va_P D clsL [(h0, .inr (9, [.ref q0, .ref q1, .ref q2, .ref q3, .int 0, .ref q4, .ref q5, .ref q6, .int 0, .int 0, .int 0, .int 0, .ref q7, .ref q8, .int 0, .ref q9, .ref q10, .ref q11, .ref q12, .ref q13, .null, .null, .null, .null, .null, .null, .null, .int 0, .int 0, .int 0, .int 0, .int 0, .int 0, .null, .null, .int 0, .int 0, .int 0, .int 0, .int 0, .int 0, .null, .null, .null, .null, .null, .null])), (q0, .inl (cy 0, 48, .inl (fun _ => 0))), (q1, .inl (cy 0, 12, .inl (fun _ => 0))), (q2, .inl (cy 0, 96, .inl (fun _ => 0))), (q3, .inl (cy 0, 12, .inl (fun _ => 0))), (q4, .inl (cy 0, 40, .inl (fun _ => 0))), (q5, .inl (cy 0, 4, .inl (fun _ => 0))), (q6, .inl (cy 0, 8, .inl (fun _ => 0))), (q7, .inl (cy 0, 168, .inl (fun _ => 0))), (q8, .inl (cy 0, 21, .inl (fun _ => 0))), (q9, .inl (cy 0, 4, .inl (upd (upd (upd (upd (fun _ => 0) 0 1) 1 2) 2 2) 3 3))), (q10, .inl (cy 0, 25, .inl (fun _ => 0))), (q11, .inl (cy 0, 2048, .inl (fun _ => 0))), (q12, .inl (cy 0, 2048, .inl (fun _ => 0))), (q13, .inl (cy 0, 2048, .inl (fun _ => 0)))] H := hP
  have hD : va_D A [(h0, .inr (9, [.ref q0, .ref q1, .ref q2, .ref q3, .int 0, .ref q4, .ref q5, .ref q6, .int 0, .int 0, .int 0, .int 0, .ref q7, .ref q8, .int 0, .ref q9, .ref q10, .ref q11, .ref q12, .ref q13, .null, .null, .null, .null, .null, .null, .null, .int 0, .int 0, .int 0, .int 0, .int 0, .int 0, .null, .null, .int 0, .int 0, .int 0, .int 0, .int 0, .int 0, .null, .null, .null, .null, .null, .null])), (q0, .inl (cy 0, 48, .inl (fun _ => 0))), (q1, .inl (cy 0, 12, .inl (fun _ => 0))), (q2, .inl (cy 0, 96, .inl (fun _ => 0))), (q3, .inl (cy 0, 12, .inl (fun _ => 0))), (q4, .inl (cy 0, 40, .inl (fun _ => 0))), (q5, .inl (cy 0, 4, .inl (fun _ => 0))), (q6, .inl (cy 0, 8, .inl (fun _ => 0))), (q7, .inl (cy 0, 168, .inl (fun _ => 0))), (q8, .inl (cy 0, 21, .inl (fun _ => 0))), (q9, .inl (cy 0, 4, .inl (upd (upd (upd (upd (fun _ => 0) 0 1) 1 2) 2 2) 3 3))), (q10, .inl (cy 0, 25, .inl (fun _ => 0))), (q11, .inl (cy 0, 2048, .inl (fun _ => 0))), (q12, .inl (cy 0, 2048, .inl (fun _ => 0))), (q13, .inl (cy 0, 2048, .inl (fun _ => 0)))] := hD
  refine lv_aload_n hx hb dX10_init_134 rfl (lv_at hl 0 rfl) ?_
  refine lv_sipush (v := 2048) hx hb dX10_init_135 (by decide) ?_
  refine nwA (atype := .int) (t0 := 0) (N' := 2048) (a0 := (2048, .inl (fun _ => 0))) hx hb (hts (.arrayClass .int) (inT_mem (by decide +kernel))) rfl hK rfl hP hD hS hA (fun _ => rfl) (by decide) (by decide) (Nat.le_of_ble_eq_true rfl) (Nat.le_of_ble_eq_true rfl) (Nat.le_of_ble_eq_true rfl) dX10_init_138 (fun q14 H hP hD hS => ?_)
  have hP : va_P D clsL [(h0, .inr (9, [.ref q0, .ref q1, .ref q2, .ref q3, .int 0, .ref q4, .ref q5, .ref q6, .int 0, .int 0, .int 0, .int 0, .ref q7, .ref q8, .int 0, .ref q9, .ref q10, .ref q11, .ref q12, .ref q13, .null, .null, .null, .null, .null, .null, .null, .int 0, .int 0, .int 0, .int 0, .int 0, .int 0, .null, .null, .int 0, .int 0, .int 0, .int 0, .int 0, .int 0, .null, .null, .null, .null, .null, .null])), (q0, .inl (cy 0, 48, .inl (fun _ => 0))), (q1, .inl (cy 0, 12, .inl (fun _ => 0))), (q2, .inl (cy 0, 96, .inl (fun _ => 0))), (q3, .inl (cy 0, 12, .inl (fun _ => 0))), (q4, .inl (cy 0, 40, .inl (fun _ => 0))), (q5, .inl (cy 0, 4, .inl (fun _ => 0))), (q6, .inl (cy 0, 8, .inl (fun _ => 0))), (q7, .inl (cy 0, 168, .inl (fun _ => 0))), (q8, .inl (cy 0, 21, .inl (fun _ => 0))), (q9, .inl (cy 0, 4, .inl (upd (upd (upd (upd (fun _ => 0) 0 1) 1 2) 2 2) 3 3))), (q10, .inl (cy 0, 25, .inl (fun _ => 0))), (q11, .inl (cy 0, 2048, .inl (fun _ => 0))), (q12, .inl (cy 0, 2048, .inl (fun _ => 0))), (q13, .inl (cy 0, 2048, .inl (fun _ => 0))), (q14, .inl (cy 0, 2048, .inl (fun _ => 0)))] H := hP
  have hD : va_D A [(h0, .inr (9, [.ref q0, .ref q1, .ref q2, .ref q3, .int 0, .ref q4, .ref q5, .ref q6, .int 0, .int 0, .int 0, .int 0, .ref q7, .ref q8, .int 0, .ref q9, .ref q10, .ref q11, .ref q12, .ref q13, .null, .null, .null, .null, .null, .null, .null, .int 0, .int 0, .int 0, .int 0, .int 0, .int 0, .null, .null, .int 0, .int 0, .int 0, .int 0, .int 0, .int 0, .null, .null, .null, .null, .null, .null])), (q0, .inl (cy 0, 48, .inl (fun _ => 0))), (q1, .inl (cy 0, 12, .inl (fun _ => 0))), (q2, .inl (cy 0, 96, .inl (fun _ => 0))), (q3, .inl (cy 0, 12, .inl (fun _ => 0))), (q4, .inl (cy 0, 40, .inl (fun _ => 0))), (q5, .inl (cy 0, 4, .inl (fun _ => 0))), (q6, .inl (cy 0, 8, .inl (fun _ => 0))), (q7, .inl (cy 0, 168, .inl (fun _ => 0))), (q8, .inl (cy 0, 21, .inl (fun _ => 0))), (q9, .inl (cy 0, 4, .inl (upd (upd (upd (upd (fun _ => 0) 0 1) 1 2) 2 2) 3 3))), (q10, .inl (cy 0, 25, .inl (fun _ => 0))), (q11, .inl (cy 0, 2048, .inl (fun _ => 0))), (q12, .inl (cy 0, 2048, .inl (fun _ => 0))), (q13, .inl (cy 0, 2048, .inl (fun _ => 0))), (q14, .inl (cy 0, 2048, .inl (fun _ => 0)))] := hD
  refine W.widen (k := 15) (n := 8630) (Nat.le_of_ble_eq_true rfl) (Nat.le_of_ble_eq_true rfl) ?_
  refine va_putF (D := D) (ci := 9) (v := .ref q14) (ty := .array .int) (C := RX10) (T := TX10) (N := 47) hx hb hts (inW inX10 (by decide +kernel)) tyX10 tyX10_ok nmX10 hown hK hP hD hS 0 rfl rfl 20 (by decide) (hts (.fieldLink RX10 54 "AdderChooserModel" "used" "[I") (inT_mem (by decide +kernel))) (fun _ h9 => h9) rfl hin rfl (by decide +kernel) rfl rfl (Nat.le_of_ble_eq_true rfl) dX10_init_140 (fun H _ hP hD hS => ?_)
  have hP : va_P D clsL [(h0, .inr (9, [.ref q0, .ref q1, .ref q2, .ref q3, .int 0, .ref q4, .ref q5, .ref q6, .int 0, .int 0, .int 0, .int 0, .ref q7, .ref q8, .int 0, .ref q9, .ref q10, .ref q11, .ref q12, .ref q13, .ref q14, .null, .null, .null, .null, .null, .null, .int 0, .int 0, .int 0, .int 0, .int 0, .int 0, .null, .null, .int 0, .int 0, .int 0, .int 0, .int 0, .int 0, .null, .null, .null, .null, .null, .null])), (q0, .inl (cy 0, 48, .inl (fun _ => 0))), (q1, .inl (cy 0, 12, .inl (fun _ => 0))), (q2, .inl (cy 0, 96, .inl (fun _ => 0))), (q3, .inl (cy 0, 12, .inl (fun _ => 0))), (q4, .inl (cy 0, 40, .inl (fun _ => 0))), (q5, .inl (cy 0, 4, .inl (fun _ => 0))), (q6, .inl (cy 0, 8, .inl (fun _ => 0))), (q7, .inl (cy 0, 168, .inl (fun _ => 0))), (q8, .inl (cy 0, 21, .inl (fun _ => 0))), (q9, .inl (cy 0, 4, .inl (upd (upd (upd (upd (fun _ => 0) 0 1) 1 2) 2 2) 3 3))), (q10, .inl (cy 0, 25, .inl (fun _ => 0))), (q11, .inl (cy 0, 2048, .inl (fun _ => 0))), (q12, .inl (cy 0, 2048, .inl (fun _ => 0))), (q13, .inl (cy 0, 2048, .inl (fun _ => 0))), (q14, .inl (cy 0, 2048, .inl (fun _ => 0)))] H := hP
  have hD : va_D A [(h0, .inr (9, [.ref q0, .ref q1, .ref q2, .ref q3, .int 0, .ref q4, .ref q5, .ref q6, .int 0, .int 0, .int 0, .int 0, .ref q7, .ref q8, .int 0, .ref q9, .ref q10, .ref q11, .ref q12, .ref q13, .ref q14, .null, .null, .null, .null, .null, .null, .int 0, .int 0, .int 0, .int 0, .int 0, .int 0, .null, .null, .int 0, .int 0, .int 0, .int 0, .int 0, .int 0, .null, .null, .null, .null, .null, .null])), (q0, .inl (cy 0, 48, .inl (fun _ => 0))), (q1, .inl (cy 0, 12, .inl (fun _ => 0))), (q2, .inl (cy 0, 96, .inl (fun _ => 0))), (q3, .inl (cy 0, 12, .inl (fun _ => 0))), (q4, .inl (cy 0, 40, .inl (fun _ => 0))), (q5, .inl (cy 0, 4, .inl (fun _ => 0))), (q6, .inl (cy 0, 8, .inl (fun _ => 0))), (q7, .inl (cy 0, 168, .inl (fun _ => 0))), (q8, .inl (cy 0, 21, .inl (fun _ => 0))), (q9, .inl (cy 0, 4, .inl (upd (upd (upd (upd (fun _ => 0) 0 1) 1 2) 2 2) 3 3))), (q10, .inl (cy 0, 25, .inl (fun _ => 0))), (q11, .inl (cy 0, 2048, .inl (fun _ => 0))), (q12, .inl (cy 0, 2048, .inl (fun _ => 0))), (q13, .inl (cy 0, 2048, .inl (fun _ => 0))), (q14, .inl (cy 0, 2048, .inl (fun _ => 0)))] := hD
  refine lv_aload_n hx hb dX10_init_143 rfl (lv_at hl 0 rfl) ?_
  refine lv_sipush (v := 2048) hx hb dX10_init_144 (by decide) ?_
  refine nwA (atype := .int) (t0 := 0) (N' := 2048) (a0 := (2048, .inl (fun _ => 0))) hx hb (hts (.arrayClass .int) (inT_mem (by decide +kernel))) rfl hK rfl hP hD hS hA (fun _ => rfl) (by decide) (by decide) (Nat.le_of_ble_eq_true rfl) (Nat.le_of_ble_eq_true rfl) (Nat.le_of_ble_eq_true rfl) dX10_init_147 (fun q15 H hP hD hS => ?_)
  have hP : va_P D clsL [(h0, .inr (9, [.ref q0, .ref q1, .ref q2, .ref q3, .int 0, .ref q4, .ref q5, .ref q6, .int 0, .int 0, .int 0, .int 0, .ref q7, .ref q8, .int 0, .ref q9, .ref q10, .ref q11, .ref q12, .ref q13, .ref q14, .null, .null, .null, .null, .null, .null, .int 0, .int 0, .int 0, .int 0, .int 0, .int 0, .null, .null, .int 0, .int 0, .int 0, .int 0, .int 0, .int 0, .null, .null, .null, .null, .null, .null])), (q0, .inl (cy 0, 48, .inl (fun _ => 0))), (q1, .inl (cy 0, 12, .inl (fun _ => 0))), (q2, .inl (cy 0, 96, .inl (fun _ => 0))), (q3, .inl (cy 0, 12, .inl (fun _ => 0))), (q4, .inl (cy 0, 40, .inl (fun _ => 0))), (q5, .inl (cy 0, 4, .inl (fun _ => 0))), (q6, .inl (cy 0, 8, .inl (fun _ => 0))), (q7, .inl (cy 0, 168, .inl (fun _ => 0))), (q8, .inl (cy 0, 21, .inl (fun _ => 0))), (q9, .inl (cy 0, 4, .inl (upd (upd (upd (upd (fun _ => 0) 0 1) 1 2) 2 2) 3 3))), (q10, .inl (cy 0, 25, .inl (fun _ => 0))), (q11, .inl (cy 0, 2048, .inl (fun _ => 0))), (q12, .inl (cy 0, 2048, .inl (fun _ => 0))), (q13, .inl (cy 0, 2048, .inl (fun _ => 0))), (q14, .inl (cy 0, 2048, .inl (fun _ => 0))), (q15, .inl (cy 0, 2048, .inl (fun _ => 0)))] H := hP
  have hD : va_D A [(h0, .inr (9, [.ref q0, .ref q1, .ref q2, .ref q3, .int 0, .ref q4, .ref q5, .ref q6, .int 0, .int 0, .int 0, .int 0, .ref q7, .ref q8, .int 0, .ref q9, .ref q10, .ref q11, .ref q12, .ref q13, .ref q14, .null, .null, .null, .null, .null, .null, .int 0, .int 0, .int 0, .int 0, .int 0, .int 0, .null, .null, .int 0, .int 0, .int 0, .int 0, .int 0, .int 0, .null, .null, .null, .null, .null, .null])), (q0, .inl (cy 0, 48, .inl (fun _ => 0))), (q1, .inl (cy 0, 12, .inl (fun _ => 0))), (q2, .inl (cy 0, 96, .inl (fun _ => 0))), (q3, .inl (cy 0, 12, .inl (fun _ => 0))), (q4, .inl (cy 0, 40, .inl (fun _ => 0))), (q5, .inl (cy 0, 4, .inl (fun _ => 0))), (q6, .inl (cy 0, 8, .inl (fun _ => 0))), (q7, .inl (cy 0, 168, .inl (fun _ => 0))), (q8, .inl (cy 0, 21, .inl (fun _ => 0))), (q9, .inl (cy 0, 4, .inl (upd (upd (upd (upd (fun _ => 0) 0 1) 1 2) 2 2) 3 3))), (q10, .inl (cy 0, 25, .inl (fun _ => 0))), (q11, .inl (cy 0, 2048, .inl (fun _ => 0))), (q12, .inl (cy 0, 2048, .inl (fun _ => 0))), (q13, .inl (cy 0, 2048, .inl (fun _ => 0))), (q14, .inl (cy 0, 2048, .inl (fun _ => 0))), (q15, .inl (cy 0, 2048, .inl (fun _ => 0)))] := hD
  refine W.widen (k := 16) (n := 10678) (Nat.le_of_ble_eq_true rfl) (Nat.le_of_ble_eq_true rfl) ?_
  refine va_putF (D := D) (ci := 9) (v := .ref q15) (ty := .array .int) (C := RX10) (T := TX10) (N := 47) hx hb hts (inW inX10 (by decide +kernel)) tyX10 tyX10_ok nmX10 hown hK hP hD hS 0 rfl rfl 21 (by decide) (hts (.fieldLink RX10 57 "AdderChooserModel" "comes" "[I") (inT_mem (by decide +kernel))) (fun _ h9 => h9) rfl hin rfl (by decide +kernel) rfl rfl (Nat.le_of_ble_eq_true rfl) dX10_init_149 (fun H _ hP hD hS => ?_)
  have hP : va_P D clsL [(h0, .inr (9, [.ref q0, .ref q1, .ref q2, .ref q3, .int 0, .ref q4, .ref q5, .ref q6, .int 0, .int 0, .int 0, .int 0, .ref q7, .ref q8, .int 0, .ref q9, .ref q10, .ref q11, .ref q12, .ref q13, .ref q14, .ref q15, .null, .null, .null, .null, .null, .int 0, .int 0, .int 0, .int 0, .int 0, .int 0, .null, .null, .int 0, .int 0, .int 0, .int 0, .int 0, .int 0, .null, .null, .null, .null, .null, .null])), (q0, .inl (cy 0, 48, .inl (fun _ => 0))), (q1, .inl (cy 0, 12, .inl (fun _ => 0))), (q2, .inl (cy 0, 96, .inl (fun _ => 0))), (q3, .inl (cy 0, 12, .inl (fun _ => 0))), (q4, .inl (cy 0, 40, .inl (fun _ => 0))), (q5, .inl (cy 0, 4, .inl (fun _ => 0))), (q6, .inl (cy 0, 8, .inl (fun _ => 0))), (q7, .inl (cy 0, 168, .inl (fun _ => 0))), (q8, .inl (cy 0, 21, .inl (fun _ => 0))), (q9, .inl (cy 0, 4, .inl (upd (upd (upd (upd (fun _ => 0) 0 1) 1 2) 2 2) 3 3))), (q10, .inl (cy 0, 25, .inl (fun _ => 0))), (q11, .inl (cy 0, 2048, .inl (fun _ => 0))), (q12, .inl (cy 0, 2048, .inl (fun _ => 0))), (q13, .inl (cy 0, 2048, .inl (fun _ => 0))), (q14, .inl (cy 0, 2048, .inl (fun _ => 0))), (q15, .inl (cy 0, 2048, .inl (fun _ => 0)))] H := hP
  have hD : va_D A [(h0, .inr (9, [.ref q0, .ref q1, .ref q2, .ref q3, .int 0, .ref q4, .ref q5, .ref q6, .int 0, .int 0, .int 0, .int 0, .ref q7, .ref q8, .int 0, .ref q9, .ref q10, .ref q11, .ref q12, .ref q13, .ref q14, .ref q15, .null, .null, .null, .null, .null, .int 0, .int 0, .int 0, .int 0, .int 0, .int 0, .null, .null, .int 0, .int 0, .int 0, .int 0, .int 0, .int 0, .null, .null, .null, .null, .null, .null])), (q0, .inl (cy 0, 48, .inl (fun _ => 0))), (q1, .inl (cy 0, 12, .inl (fun _ => 0))), (q2, .inl (cy 0, 96, .inl (fun _ => 0))), (q3, .inl (cy 0, 12, .inl (fun _ => 0))), (q4, .inl (cy 0, 40, .inl (fun _ => 0))), (q5, .inl (cy 0, 4, .inl (fun _ => 0))), (q6, .inl (cy 0, 8, .inl (fun _ => 0))), (q7, .inl (cy 0, 168, .inl (fun _ => 0))), (q8, .inl (cy 0, 21, .inl (fun _ => 0))), (q9, .inl (cy 0, 4, .inl (upd (upd (upd (upd (fun _ => 0) 0 1) 1 2) 2 2) 3 3))), (q10, .inl (cy 0, 25, .inl (fun _ => 0))), (q11, .inl (cy 0, 2048, .inl (fun _ => 0))), (q12, .inl (cy 0, 2048, .inl (fun _ => 0))), (q13, .inl (cy 0, 2048, .inl (fun _ => 0))), (q14, .inl (cy 0, 2048, .inl (fun _ => 0))), (q15, .inl (cy 0, 2048, .inl (fun _ => 0)))] := hD
  refine lv_aload_n hx hb dX10_init_152 rfl (lv_at hl 0 rfl) ?_
  refine lv_sipush (v := 2048) hx hb dX10_init_153 (by decide) ?_
  refine nwA (atype := .int) (t0 := 0) (N' := 2048) (a0 := (2048, .inl (fun _ => 0))) hx hb (hts (.arrayClass .int) (inT_mem (by decide +kernel))) rfl hK rfl hP hD hS hA (fun _ => rfl) (by decide) (by decide) (Nat.le_of_ble_eq_true rfl) (Nat.le_of_ble_eq_true rfl) (Nat.le_of_ble_eq_true rfl) dX10_init_156 (fun q16 H hP hD hS => ?_)
  have hP : va_P D clsL [(h0, .inr (9, [.ref q0, .ref q1, .ref q2, .ref q3, .int 0, .ref q4, .ref q5, .ref q6, .int 0, .int 0, .int 0, .int 0, .ref q7, .ref q8, .int 0, .ref q9, .ref q10, .ref q11, .ref q12, .ref q13, .ref q14, .ref q15, .null, .null, .null, .null, .null, .int 0, .int 0, .int 0, .int 0, .int 0, .int 0, .null, .null, .int 0, .int 0, .int 0, .int 0, .int 0, .int 0, .null, .null, .null, .null, .null, .null])), (q0, .inl (cy 0, 48, .inl (fun _ => 0))), (q1, .inl (cy 0, 12, .inl (fun _ => 0))), (q2, .inl (cy 0, 96, .inl (fun _ => 0))), (q3, .inl (cy 0, 12, .inl (fun _ => 0))), (q4, .inl (cy 0, 40, .inl (fun _ => 0))), (q5, .inl (cy 0, 4, .inl (fun _ => 0))), (q6, .inl (cy 0, 8, .inl (fun _ => 0))), (q7, .inl (cy 0, 168, .inl (fun _ => 0))), (q8, .inl (cy 0, 21, .inl (fun _ => 0))), (q9, .inl (cy 0, 4, .inl (upd (upd (upd (upd (fun _ => 0) 0 1) 1 2) 2 2) 3 3))), (q10, .inl (cy 0, 25, .inl (fun _ => 0))), (q11, .inl (cy 0, 2048, .inl (fun _ => 0))), (q12, .inl (cy 0, 2048, .inl (fun _ => 0))), (q13, .inl (cy 0, 2048, .inl (fun _ => 0))), (q14, .inl (cy 0, 2048, .inl (fun _ => 0))), (q15, .inl (cy 0, 2048, .inl (fun _ => 0))), (q16, .inl (cy 0, 2048, .inl (fun _ => 0)))] H := hP
  have hD : va_D A [(h0, .inr (9, [.ref q0, .ref q1, .ref q2, .ref q3, .int 0, .ref q4, .ref q5, .ref q6, .int 0, .int 0, .int 0, .int 0, .ref q7, .ref q8, .int 0, .ref q9, .ref q10, .ref q11, .ref q12, .ref q13, .ref q14, .ref q15, .null, .null, .null, .null, .null, .int 0, .int 0, .int 0, .int 0, .int 0, .int 0, .null, .null, .int 0, .int 0, .int 0, .int 0, .int 0, .int 0, .null, .null, .null, .null, .null, .null])), (q0, .inl (cy 0, 48, .inl (fun _ => 0))), (q1, .inl (cy 0, 12, .inl (fun _ => 0))), (q2, .inl (cy 0, 96, .inl (fun _ => 0))), (q3, .inl (cy 0, 12, .inl (fun _ => 0))), (q4, .inl (cy 0, 40, .inl (fun _ => 0))), (q5, .inl (cy 0, 4, .inl (fun _ => 0))), (q6, .inl (cy 0, 8, .inl (fun _ => 0))), (q7, .inl (cy 0, 168, .inl (fun _ => 0))), (q8, .inl (cy 0, 21, .inl (fun _ => 0))), (q9, .inl (cy 0, 4, .inl (upd (upd (upd (upd (fun _ => 0) 0 1) 1 2) 2 2) 3 3))), (q10, .inl (cy 0, 25, .inl (fun _ => 0))), (q11, .inl (cy 0, 2048, .inl (fun _ => 0))), (q12, .inl (cy 0, 2048, .inl (fun _ => 0))), (q13, .inl (cy 0, 2048, .inl (fun _ => 0))), (q14, .inl (cy 0, 2048, .inl (fun _ => 0))), (q15, .inl (cy 0, 2048, .inl (fun _ => 0))), (q16, .inl (cy 0, 2048, .inl (fun _ => 0)))] := hD
  refine W.widen (k := 17) (n := 12726) (Nat.le_of_ble_eq_true rfl) (Nat.le_of_ble_eq_true rfl) ?_
  refine va_putF (D := D) (ci := 9) (v := .ref q16) (ty := .array .int) (C := RX10) (T := TX10) (N := 47) hx hb hts (inW inX10 (by decide +kernel)) tyX10 tyX10_ok nmX10 hown hK hP hD hS 0 rfl rfl 22 (by decide) (hts (.fieldLink RX10 60 "AdderChooserModel" "values" "[I") (inT_mem (by decide +kernel))) (fun _ h9 => h9) rfl hin rfl (by decide +kernel) rfl rfl (Nat.le_of_ble_eq_true rfl) dX10_init_158 (fun H _ hP hD hS => ?_)
  have hP : va_P D clsL [(h0, .inr (9, [.ref q0, .ref q1, .ref q2, .ref q3, .int 0, .ref q4, .ref q5, .ref q6, .int 0, .int 0, .int 0, .int 0, .ref q7, .ref q8, .int 0, .ref q9, .ref q10, .ref q11, .ref q12, .ref q13, .ref q14, .ref q15, .ref q16, .null, .null, .null, .null, .int 0, .int 0, .int 0, .int 0, .int 0, .int 0, .null, .null, .int 0, .int 0, .int 0, .int 0, .int 0, .int 0, .null, .null, .null, .null, .null, .null])), (q0, .inl (cy 0, 48, .inl (fun _ => 0))), (q1, .inl (cy 0, 12, .inl (fun _ => 0))), (q2, .inl (cy 0, 96, .inl (fun _ => 0))), (q3, .inl (cy 0, 12, .inl (fun _ => 0))), (q4, .inl (cy 0, 40, .inl (fun _ => 0))), (q5, .inl (cy 0, 4, .inl (fun _ => 0))), (q6, .inl (cy 0, 8, .inl (fun _ => 0))), (q7, .inl (cy 0, 168, .inl (fun _ => 0))), (q8, .inl (cy 0, 21, .inl (fun _ => 0))), (q9, .inl (cy 0, 4, .inl (upd (upd (upd (upd (fun _ => 0) 0 1) 1 2) 2 2) 3 3))), (q10, .inl (cy 0, 25, .inl (fun _ => 0))), (q11, .inl (cy 0, 2048, .inl (fun _ => 0))), (q12, .inl (cy 0, 2048, .inl (fun _ => 0))), (q13, .inl (cy 0, 2048, .inl (fun _ => 0))), (q14, .inl (cy 0, 2048, .inl (fun _ => 0))), (q15, .inl (cy 0, 2048, .inl (fun _ => 0))), (q16, .inl (cy 0, 2048, .inl (fun _ => 0)))] H := hP
  have hD : va_D A [(h0, .inr (9, [.ref q0, .ref q1, .ref q2, .ref q3, .int 0, .ref q4, .ref q5, .ref q6, .int 0, .int 0, .int 0, .int 0, .ref q7, .ref q8, .int 0, .ref q9, .ref q10, .ref q11, .ref q12, .ref q13, .ref q14, .ref q15, .ref q16, .null, .null, .null, .null, .int 0, .int 0, .int 0, .int 0, .int 0, .int 0, .null, .null, .int 0, .int 0, .int 0, .int 0, .int 0, .int 0, .null, .null, .null, .null, .null, .null])), (q0, .inl (cy 0, 48, .inl (fun _ => 0))), (q1, .inl (cy 0, 12, .inl (fun _ => 0))), (q2, .inl (cy 0, 96, .inl (fun _ => 0))), (q3, .inl (cy 0, 12, .inl (fun _ => 0))), (q4, .inl (cy 0, 40, .inl (fun _ => 0))), (q5, .inl (cy 0, 4, .inl (fun _ => 0))), (q6, .inl (cy 0, 8, .inl (fun _ => 0))), (q7, .inl (cy 0, 168, .inl (fun _ => 0))), (q8, .inl (cy 0, 21, .inl (fun _ => 0))), (q9, .inl (cy 0, 4, .inl (upd (upd (upd (upd (fun _ => 0) 0 1) 1 2) 2 2) 3 3))), (q10, .inl (cy 0, 25, .inl (fun _ => 0))), (q11, .inl (cy 0, 2048, .inl (fun _ => 0))), (q12, .inl (cy 0, 2048, .inl (fun _ => 0))), (q13, .inl (cy 0, 2048, .inl (fun _ => 0))), (q14, .inl (cy 0, 2048, .inl (fun _ => 0))), (q15, .inl (cy 0, 2048, .inl (fun _ => 0))), (q16, .inl (cy 0, 2048, .inl (fun _ => 0)))] := hD
  refine lv_aload_n hx hb dX10_init_161 rfl (lv_at hl 0 rfl) ?_
  refine lv_sipush (v := 2048) hx hb dX10_init_162 (by decide) ?_
  refine nwA (atype := .int) (t0 := 0) (N' := 2048) (a0 := (2048, .inl (fun _ => 0))) hx hb (hts (.arrayClass .int) (inT_mem (by decide +kernel))) rfl hK rfl hP hD hS hA (fun _ => rfl) (by decide) (by decide) (Nat.le_of_ble_eq_true rfl) (Nat.le_of_ble_eq_true rfl) (Nat.le_of_ble_eq_true rfl) dX10_init_165 (fun q17 H hP hD hS => ?_)
  have hP : va_P D clsL [(h0, .inr (9, [.ref q0, .ref q1, .ref q2, .ref q3, .int 0, .ref q4, .ref q5, .ref q6, .int 0, .int 0, .int 0, .int 0, .ref q7, .ref q8, .int 0, .ref q9, .ref q10, .ref q11, .ref q12, .ref q13, .ref q14, .ref q15, .ref q16, .null, .null, .null, .null, .int 0, .int 0, .int 0, .int 0, .int 0, .int 0, .null, .null, .int 0, .int 0, .int 0, .int 0, .int 0, .int 0, .null, .null, .null, .null, .null, .null])), (q0, .inl (cy 0, 48, .inl (fun _ => 0))), (q1, .inl (cy 0, 12, .inl (fun _ => 0))), (q2, .inl (cy 0, 96, .inl (fun _ => 0))), (q3, .inl (cy 0, 12, .inl (fun _ => 0))), (q4, .inl (cy 0, 40, .inl (fun _ => 0))), (q5, .inl (cy 0, 4, .inl (fun _ => 0))), (q6, .inl (cy 0, 8, .inl (fun _ => 0))), (q7, .inl (cy 0, 168, .inl (fun _ => 0))), (q8, .inl (cy 0, 21, .inl (fun _ => 0))), (q9, .inl (cy 0, 4, .inl (upd (upd (upd (upd (fun _ => 0) 0 1) 1 2) 2 2) 3 3))), (q10, .inl (cy 0, 25, .inl (fun _ => 0))), (q11, .inl (cy 0, 2048, .inl (fun _ => 0))), (q12, .inl (cy 0, 2048, .inl (fun _ => 0))), (q13, .inl (cy 0, 2048, .inl (fun _ => 0))), (q14, .inl (cy 0, 2048, .inl (fun _ => 0))), (q15, .inl (cy 0, 2048, .inl (fun _ => 0))), (q16, .inl (cy 0, 2048, .inl (fun _ => 0))), (q17, .inl (cy 0, 2048, .inl (fun _ => 0)))] H := hP
  have hD : va_D A [(h0, .inr (9, [.ref q0, .ref q1, .ref q2, .ref q3, .int 0, .ref q4, .ref q5, .ref q6, .int 0, .int 0, .int 0, .int 0, .ref q7, .ref q8, .int 0, .ref q9, .ref q10, .ref q11, .ref q12, .ref q13, .ref q14, .ref q15, .ref q16, .null, .null, .null, .null, .int 0, .int 0, .int 0, .int 0, .int 0, .int 0, .null, .null, .int 0, .int 0, .int 0, .int 0, .int 0, .int 0, .null, .null, .null, .null, .null, .null])), (q0, .inl (cy 0, 48, .inl (fun _ => 0))), (q1, .inl (cy 0, 12, .inl (fun _ => 0))), (q2, .inl (cy 0, 96, .inl (fun _ => 0))), (q3, .inl (cy 0, 12, .inl (fun _ => 0))), (q4, .inl (cy 0, 40, .inl (fun _ => 0))), (q5, .inl (cy 0, 4, .inl (fun _ => 0))), (q6, .inl (cy 0, 8, .inl (fun _ => 0))), (q7, .inl (cy 0, 168, .inl (fun _ => 0))), (q8, .inl (cy 0, 21, .inl (fun _ => 0))), (q9, .inl (cy 0, 4, .inl (upd (upd (upd (upd (fun _ => 0) 0 1) 1 2) 2 2) 3 3))), (q10, .inl (cy 0, 25, .inl (fun _ => 0))), (q11, .inl (cy 0, 2048, .inl (fun _ => 0))), (q12, .inl (cy 0, 2048, .inl (fun _ => 0))), (q13, .inl (cy 0, 2048, .inl (fun _ => 0))), (q14, .inl (cy 0, 2048, .inl (fun _ => 0))), (q15, .inl (cy 0, 2048, .inl (fun _ => 0))), (q16, .inl (cy 0, 2048, .inl (fun _ => 0))), (q17, .inl (cy 0, 2048, .inl (fun _ => 0)))] := hD
  refine W.widen (k := 18) (n := 14774) (Nat.le_of_ble_eq_true rfl) (Nat.le_of_ble_eq_true rfl) ?_
  refine va_putF (D := D) (ci := 9) (v := .ref q17) (ty := .array .int) (C := RX10) (T := TX10) (N := 47) hx hb hts (inW inX10 (by decide +kernel)) tyX10 tyX10_ok nmX10 hown hK hP hD hS 0 rfl rfl 23 (by decide) (hts (.fieldLink RX10 63 "AdderChooserModel" "chains" "[I") (inT_mem (by decide +kernel))) (fun _ h9 => h9) rfl hin rfl (by decide +kernel) rfl rfl (Nat.le_of_ble_eq_true rfl) dX10_init_167 (fun H _ hP hD hS => ?_)
  have hP : va_P D clsL [(h0, .inr (9, [.ref q0, .ref q1, .ref q2, .ref q3, .int 0, .ref q4, .ref q5, .ref q6, .int 0, .int 0, .int 0, .int 0, .ref q7, .ref q8, .int 0, .ref q9, .ref q10, .ref q11, .ref q12, .ref q13, .ref q14, .ref q15, .ref q16, .ref q17, .null, .null, .null, .int 0, .int 0, .int 0, .int 0, .int 0, .int 0, .null, .null, .int 0, .int 0, .int 0, .int 0, .int 0, .int 0, .null, .null, .null, .null, .null, .null])), (q0, .inl (cy 0, 48, .inl (fun _ => 0))), (q1, .inl (cy 0, 12, .inl (fun _ => 0))), (q2, .inl (cy 0, 96, .inl (fun _ => 0))), (q3, .inl (cy 0, 12, .inl (fun _ => 0))), (q4, .inl (cy 0, 40, .inl (fun _ => 0))), (q5, .inl (cy 0, 4, .inl (fun _ => 0))), (q6, .inl (cy 0, 8, .inl (fun _ => 0))), (q7, .inl (cy 0, 168, .inl (fun _ => 0))), (q8, .inl (cy 0, 21, .inl (fun _ => 0))), (q9, .inl (cy 0, 4, .inl (upd (upd (upd (upd (fun _ => 0) 0 1) 1 2) 2 2) 3 3))), (q10, .inl (cy 0, 25, .inl (fun _ => 0))), (q11, .inl (cy 0, 2048, .inl (fun _ => 0))), (q12, .inl (cy 0, 2048, .inl (fun _ => 0))), (q13, .inl (cy 0, 2048, .inl (fun _ => 0))), (q14, .inl (cy 0, 2048, .inl (fun _ => 0))), (q15, .inl (cy 0, 2048, .inl (fun _ => 0))), (q16, .inl (cy 0, 2048, .inl (fun _ => 0))), (q17, .inl (cy 0, 2048, .inl (fun _ => 0)))] H := hP
  have hD : va_D A [(h0, .inr (9, [.ref q0, .ref q1, .ref q2, .ref q3, .int 0, .ref q4, .ref q5, .ref q6, .int 0, .int 0, .int 0, .int 0, .ref q7, .ref q8, .int 0, .ref q9, .ref q10, .ref q11, .ref q12, .ref q13, .ref q14, .ref q15, .ref q16, .ref q17, .null, .null, .null, .int 0, .int 0, .int 0, .int 0, .int 0, .int 0, .null, .null, .int 0, .int 0, .int 0, .int 0, .int 0, .int 0, .null, .null, .null, .null, .null, .null])), (q0, .inl (cy 0, 48, .inl (fun _ => 0))), (q1, .inl (cy 0, 12, .inl (fun _ => 0))), (q2, .inl (cy 0, 96, .inl (fun _ => 0))), (q3, .inl (cy 0, 12, .inl (fun _ => 0))), (q4, .inl (cy 0, 40, .inl (fun _ => 0))), (q5, .inl (cy 0, 4, .inl (fun _ => 0))), (q6, .inl (cy 0, 8, .inl (fun _ => 0))), (q7, .inl (cy 0, 168, .inl (fun _ => 0))), (q8, .inl (cy 0, 21, .inl (fun _ => 0))), (q9, .inl (cy 0, 4, .inl (upd (upd (upd (upd (fun _ => 0) 0 1) 1 2) 2 2) 3 3))), (q10, .inl (cy 0, 25, .inl (fun _ => 0))), (q11, .inl (cy 0, 2048, .inl (fun _ => 0))), (q12, .inl (cy 0, 2048, .inl (fun _ => 0))), (q13, .inl (cy 0, 2048, .inl (fun _ => 0))), (q14, .inl (cy 0, 2048, .inl (fun _ => 0))), (q15, .inl (cy 0, 2048, .inl (fun _ => 0))), (q16, .inl (cy 0, 2048, .inl (fun _ => 0))), (q17, .inl (cy 0, 2048, .inl (fun _ => 0)))] := hD
  refine lv_aload_n hx hb dX10_init_170 rfl (lv_at hl 0 rfl) ?_
  refine lv_bipush (v := 13) hx hb dX10_init_171 (by decide) ?_
  refine nwA (atype := .int) (t0 := 0) (N' := 13) (a0 := (13, .inl (fun _ => 0))) hx hb (hts (.arrayClass .int) (inT_mem (by decide +kernel))) rfl hK rfl hP hD hS hA (fun _ => rfl) (by decide) (by decide) (Nat.le_of_ble_eq_true rfl) (Nat.le_of_ble_eq_true rfl) (Nat.le_of_ble_eq_true rfl) dX10_init_173 (fun q18 H hP hD hS => ?_)
  have hP : va_P D clsL [(h0, .inr (9, [.ref q0, .ref q1, .ref q2, .ref q3, .int 0, .ref q4, .ref q5, .ref q6, .int 0, .int 0, .int 0, .int 0, .ref q7, .ref q8, .int 0, .ref q9, .ref q10, .ref q11, .ref q12, .ref q13, .ref q14, .ref q15, .ref q16, .ref q17, .null, .null, .null, .int 0, .int 0, .int 0, .int 0, .int 0, .int 0, .null, .null, .int 0, .int 0, .int 0, .int 0, .int 0, .int 0, .null, .null, .null, .null, .null, .null])), (q0, .inl (cy 0, 48, .inl (fun _ => 0))), (q1, .inl (cy 0, 12, .inl (fun _ => 0))), (q2, .inl (cy 0, 96, .inl (fun _ => 0))), (q3, .inl (cy 0, 12, .inl (fun _ => 0))), (q4, .inl (cy 0, 40, .inl (fun _ => 0))), (q5, .inl (cy 0, 4, .inl (fun _ => 0))), (q6, .inl (cy 0, 8, .inl (fun _ => 0))), (q7, .inl (cy 0, 168, .inl (fun _ => 0))), (q8, .inl (cy 0, 21, .inl (fun _ => 0))), (q9, .inl (cy 0, 4, .inl (upd (upd (upd (upd (fun _ => 0) 0 1) 1 2) 2 2) 3 3))), (q10, .inl (cy 0, 25, .inl (fun _ => 0))), (q11, .inl (cy 0, 2048, .inl (fun _ => 0))), (q12, .inl (cy 0, 2048, .inl (fun _ => 0))), (q13, .inl (cy 0, 2048, .inl (fun _ => 0))), (q14, .inl (cy 0, 2048, .inl (fun _ => 0))), (q15, .inl (cy 0, 2048, .inl (fun _ => 0))), (q16, .inl (cy 0, 2048, .inl (fun _ => 0))), (q17, .inl (cy 0, 2048, .inl (fun _ => 0))), (q18, .inl (cy 0, 13, .inl (fun _ => 0)))] H := hP
  have hD : va_D A [(h0, .inr (9, [.ref q0, .ref q1, .ref q2, .ref q3, .int 0, .ref q4, .ref q5, .ref q6, .int 0, .int 0, .int 0, .int 0, .ref q7, .ref q8, .int 0, .ref q9, .ref q10, .ref q11, .ref q12, .ref q13, .ref q14, .ref q15, .ref q16, .ref q17, .null, .null, .null, .int 0, .int 0, .int 0, .int 0, .int 0, .int 0, .null, .null, .int 0, .int 0, .int 0, .int 0, .int 0, .int 0, .null, .null, .null, .null, .null, .null])), (q0, .inl (cy 0, 48, .inl (fun _ => 0))), (q1, .inl (cy 0, 12, .inl (fun _ => 0))), (q2, .inl (cy 0, 96, .inl (fun _ => 0))), (q3, .inl (cy 0, 12, .inl (fun _ => 0))), (q4, .inl (cy 0, 40, .inl (fun _ => 0))), (q5, .inl (cy 0, 4, .inl (fun _ => 0))), (q6, .inl (cy 0, 8, .inl (fun _ => 0))), (q7, .inl (cy 0, 168, .inl (fun _ => 0))), (q8, .inl (cy 0, 21, .inl (fun _ => 0))), (q9, .inl (cy 0, 4, .inl (upd (upd (upd (upd (fun _ => 0) 0 1) 1 2) 2 2) 3 3))), (q10, .inl (cy 0, 25, .inl (fun _ => 0))), (q11, .inl (cy 0, 2048, .inl (fun _ => 0))), (q12, .inl (cy 0, 2048, .inl (fun _ => 0))), (q13, .inl (cy 0, 2048, .inl (fun _ => 0))), (q14, .inl (cy 0, 2048, .inl (fun _ => 0))), (q15, .inl (cy 0, 2048, .inl (fun _ => 0))), (q16, .inl (cy 0, 2048, .inl (fun _ => 0))), (q17, .inl (cy 0, 2048, .inl (fun _ => 0))), (q18, .inl (cy 0, 13, .inl (fun _ => 0)))] := hD
  refine W.widen (k := 19) (n := 14787) (Nat.le_of_ble_eq_true rfl) (Nat.le_of_ble_eq_true rfl) ?_
  refine va_putF (D := D) (ci := 9) (v := .ref q18) (ty := .array .int) (C := RX10) (T := TX10) (N := 47) hx hb hts (inW inX10 (by decide +kernel)) tyX10 tyX10_ok nmX10 hown hK hP hD hS 0 rfl rfl 24 (by decide) (hts (.fieldLink RX10 66 "AdderChooserModel" "outs" "[I") (inT_mem (by decide +kernel))) (fun _ h9 => h9) rfl hin rfl (by decide +kernel) rfl rfl (Nat.le_of_ble_eq_true rfl) dX10_init_175 (fun H _ hP hD hS => ?_)
  have hP : va_P D clsL [(h0, .inr (9, [.ref q0, .ref q1, .ref q2, .ref q3, .int 0, .ref q4, .ref q5, .ref q6, .int 0, .int 0, .int 0, .int 0, .ref q7, .ref q8, .int 0, .ref q9, .ref q10, .ref q11, .ref q12, .ref q13, .ref q14, .ref q15, .ref q16, .ref q17, .ref q18, .null, .null, .int 0, .int 0, .int 0, .int 0, .int 0, .int 0, .null, .null, .int 0, .int 0, .int 0, .int 0, .int 0, .int 0, .null, .null, .null, .null, .null, .null])), (q0, .inl (cy 0, 48, .inl (fun _ => 0))), (q1, .inl (cy 0, 12, .inl (fun _ => 0))), (q2, .inl (cy 0, 96, .inl (fun _ => 0))), (q3, .inl (cy 0, 12, .inl (fun _ => 0))), (q4, .inl (cy 0, 40, .inl (fun _ => 0))), (q5, .inl (cy 0, 4, .inl (fun _ => 0))), (q6, .inl (cy 0, 8, .inl (fun _ => 0))), (q7, .inl (cy 0, 168, .inl (fun _ => 0))), (q8, .inl (cy 0, 21, .inl (fun _ => 0))), (q9, .inl (cy 0, 4, .inl (upd (upd (upd (upd (fun _ => 0) 0 1) 1 2) 2 2) 3 3))), (q10, .inl (cy 0, 25, .inl (fun _ => 0))), (q11, .inl (cy 0, 2048, .inl (fun _ => 0))), (q12, .inl (cy 0, 2048, .inl (fun _ => 0))), (q13, .inl (cy 0, 2048, .inl (fun _ => 0))), (q14, .inl (cy 0, 2048, .inl (fun _ => 0))), (q15, .inl (cy 0, 2048, .inl (fun _ => 0))), (q16, .inl (cy 0, 2048, .inl (fun _ => 0))), (q17, .inl (cy 0, 2048, .inl (fun _ => 0))), (q18, .inl (cy 0, 13, .inl (fun _ => 0)))] H := hP
  have hD : va_D A [(h0, .inr (9, [.ref q0, .ref q1, .ref q2, .ref q3, .int 0, .ref q4, .ref q5, .ref q6, .int 0, .int 0, .int 0, .int 0, .ref q7, .ref q8, .int 0, .ref q9, .ref q10, .ref q11, .ref q12, .ref q13, .ref q14, .ref q15, .ref q16, .ref q17, .ref q18, .null, .null, .int 0, .int 0, .int 0, .int 0, .int 0, .int 0, .null, .null, .int 0, .int 0, .int 0, .int 0, .int 0, .int 0, .null, .null, .null, .null, .null, .null])), (q0, .inl (cy 0, 48, .inl (fun _ => 0))), (q1, .inl (cy 0, 12, .inl (fun _ => 0))), (q2, .inl (cy 0, 96, .inl (fun _ => 0))), (q3, .inl (cy 0, 12, .inl (fun _ => 0))), (q4, .inl (cy 0, 40, .inl (fun _ => 0))), (q5, .inl (cy 0, 4, .inl (fun _ => 0))), (q6, .inl (cy 0, 8, .inl (fun _ => 0))), (q7, .inl (cy 0, 168, .inl (fun _ => 0))), (q8, .inl (cy 0, 21, .inl (fun _ => 0))), (q9, .inl (cy 0, 4, .inl (upd (upd (upd (upd (fun _ => 0) 0 1) 1 2) 2 2) 3 3))), (q10, .inl (cy 0, 25, .inl (fun _ => 0))), (q11, .inl (cy 0, 2048, .inl (fun _ => 0))), (q12, .inl (cy 0, 2048, .inl (fun _ => 0))), (q13, .inl (cy 0, 2048, .inl (fun _ => 0))), (q14, .inl (cy 0, 2048, .inl (fun _ => 0))), (q15, .inl (cy 0, 2048, .inl (fun _ => 0))), (q16, .inl (cy 0, 2048, .inl (fun _ => 0))), (q17, .inl (cy 0, 2048, .inl (fun _ => 0))), (q18, .inl (cy 0, 13, .inl (fun _ => 0)))] := hD
  refine lv_aload_n hx hb dX10_init_178 rfl (lv_at hl 0 rfl) ?_
  refine lv_bipush (v := 12) hx hb dX10_init_179 (by decide) ?_
  refine nwA (atype := .int) (t0 := 0) (N' := 12) (a0 := (12, .inl (fun _ => 0))) hx hb (hts (.arrayClass .int) (inT_mem (by decide +kernel))) rfl hK rfl hP hD hS hA (fun _ => rfl) (by decide) (by decide) (Nat.le_of_ble_eq_true rfl) (Nat.le_of_ble_eq_true rfl) (Nat.le_of_ble_eq_true rfl) dX10_init_181 (fun q19 H hP hD hS => ?_)
  have hP : va_P D clsL [(h0, .inr (9, [.ref q0, .ref q1, .ref q2, .ref q3, .int 0, .ref q4, .ref q5, .ref q6, .int 0, .int 0, .int 0, .int 0, .ref q7, .ref q8, .int 0, .ref q9, .ref q10, .ref q11, .ref q12, .ref q13, .ref q14, .ref q15, .ref q16, .ref q17, .ref q18, .null, .null, .int 0, .int 0, .int 0, .int 0, .int 0, .int 0, .null, .null, .int 0, .int 0, .int 0, .int 0, .int 0, .int 0, .null, .null, .null, .null, .null, .null])), (q0, .inl (cy 0, 48, .inl (fun _ => 0))), (q1, .inl (cy 0, 12, .inl (fun _ => 0))), (q2, .inl (cy 0, 96, .inl (fun _ => 0))), (q3, .inl (cy 0, 12, .inl (fun _ => 0))), (q4, .inl (cy 0, 40, .inl (fun _ => 0))), (q5, .inl (cy 0, 4, .inl (fun _ => 0))), (q6, .inl (cy 0, 8, .inl (fun _ => 0))), (q7, .inl (cy 0, 168, .inl (fun _ => 0))), (q8, .inl (cy 0, 21, .inl (fun _ => 0))), (q9, .inl (cy 0, 4, .inl (upd (upd (upd (upd (fun _ => 0) 0 1) 1 2) 2 2) 3 3))), (q10, .inl (cy 0, 25, .inl (fun _ => 0))), (q11, .inl (cy 0, 2048, .inl (fun _ => 0))), (q12, .inl (cy 0, 2048, .inl (fun _ => 0))), (q13, .inl (cy 0, 2048, .inl (fun _ => 0))), (q14, .inl (cy 0, 2048, .inl (fun _ => 0))), (q15, .inl (cy 0, 2048, .inl (fun _ => 0))), (q16, .inl (cy 0, 2048, .inl (fun _ => 0))), (q17, .inl (cy 0, 2048, .inl (fun _ => 0))), (q18, .inl (cy 0, 13, .inl (fun _ => 0))), (q19, .inl (cy 0, 12, .inl (fun _ => 0)))] H := hP
  have hD : va_D A [(h0, .inr (9, [.ref q0, .ref q1, .ref q2, .ref q3, .int 0, .ref q4, .ref q5, .ref q6, .int 0, .int 0, .int 0, .int 0, .ref q7, .ref q8, .int 0, .ref q9, .ref q10, .ref q11, .ref q12, .ref q13, .ref q14, .ref q15, .ref q16, .ref q17, .ref q18, .null, .null, .int 0, .int 0, .int 0, .int 0, .int 0, .int 0, .null, .null, .int 0, .int 0, .int 0, .int 0, .int 0, .int 0, .null, .null, .null, .null, .null, .null])), (q0, .inl (cy 0, 48, .inl (fun _ => 0))), (q1, .inl (cy 0, 12, .inl (fun _ => 0))), (q2, .inl (cy 0, 96, .inl (fun _ => 0))), (q3, .inl (cy 0, 12, .inl (fun _ => 0))), (q4, .inl (cy 0, 40, .inl (fun _ => 0))), (q5, .inl (cy 0, 4, .inl (fun _ => 0))), (q6, .inl (cy 0, 8, .inl (fun _ => 0))), (q7, .inl (cy 0, 168, .inl (fun _ => 0))), (q8, .inl (cy 0, 21, .inl (fun _ => 0))), (q9, .inl (cy 0, 4, .inl (upd (upd (upd (upd (fun _ => 0) 0 1) 1 2) 2 2) 3 3))), (q10, .inl (cy 0, 25, .inl (fun _ => 0))), (q11, .inl (cy 0, 2048, .inl (fun _ => 0))), (q12, .inl (cy 0, 2048, .inl (fun _ => 0))), (q13, .inl (cy 0, 2048, .inl (fun _ => 0))), (q14, .inl (cy 0, 2048, .inl (fun _ => 0))), (q15, .inl (cy 0, 2048, .inl (fun _ => 0))), (q16, .inl (cy 0, 2048, .inl (fun _ => 0))), (q17, .inl (cy 0, 2048, .inl (fun _ => 0))), (q18, .inl (cy 0, 13, .inl (fun _ => 0))), (q19, .inl (cy 0, 12, .inl (fun _ => 0)))] := hD
  refine W.widen (k := 20) (n := 14799) (Nat.le_of_ble_eq_true rfl) (Nat.le_of_ble_eq_true rfl) ?_
  refine va_putF (D := D) (ci := 9) (v := .ref q19) (ty := .array .int) (C := RX10) (T := TX10) (N := 47) hx hb hts (inW inX10 (by decide +kernel)) tyX10 tyX10_ok nmX10 hown hK hP hD hS 0 rfl rfl 25 (by decide) (hts (.fieldLink RX10 69 "AdderChooserModel" "zeros" "[I") (inT_mem (by decide +kernel))) (fun _ h9 => h9) rfl hin rfl (by decide +kernel) rfl rfl (Nat.le_of_ble_eq_true rfl) dX10_init_183 (fun H _ hP hD hS => ?_)
  have hP : va_P D clsL [(h0, .inr (9, [.ref q0, .ref q1, .ref q2, .ref q3, .int 0, .ref q4, .ref q5, .ref q6, .int 0, .int 0, .int 0, .int 0, .ref q7, .ref q8, .int 0, .ref q9, .ref q10, .ref q11, .ref q12, .ref q13, .ref q14, .ref q15, .ref q16, .ref q17, .ref q18, .ref q19, .null, .int 0, .int 0, .int 0, .int 0, .int 0, .int 0, .null, .null, .int 0, .int 0, .int 0, .int 0, .int 0, .int 0, .null, .null, .null, .null, .null, .null])), (q0, .inl (cy 0, 48, .inl (fun _ => 0))), (q1, .inl (cy 0, 12, .inl (fun _ => 0))), (q2, .inl (cy 0, 96, .inl (fun _ => 0))), (q3, .inl (cy 0, 12, .inl (fun _ => 0))), (q4, .inl (cy 0, 40, .inl (fun _ => 0))), (q5, .inl (cy 0, 4, .inl (fun _ => 0))), (q6, .inl (cy 0, 8, .inl (fun _ => 0))), (q7, .inl (cy 0, 168, .inl (fun _ => 0))), (q8, .inl (cy 0, 21, .inl (fun _ => 0))), (q9, .inl (cy 0, 4, .inl (upd (upd (upd (upd (fun _ => 0) 0 1) 1 2) 2 2) 3 3))), (q10, .inl (cy 0, 25, .inl (fun _ => 0))), (q11, .inl (cy 0, 2048, .inl (fun _ => 0))), (q12, .inl (cy 0, 2048, .inl (fun _ => 0))), (q13, .inl (cy 0, 2048, .inl (fun _ => 0))), (q14, .inl (cy 0, 2048, .inl (fun _ => 0))), (q15, .inl (cy 0, 2048, .inl (fun _ => 0))), (q16, .inl (cy 0, 2048, .inl (fun _ => 0))), (q17, .inl (cy 0, 2048, .inl (fun _ => 0))), (q18, .inl (cy 0, 13, .inl (fun _ => 0))), (q19, .inl (cy 0, 12, .inl (fun _ => 0)))] H := hP
  have hD : va_D A [(h0, .inr (9, [.ref q0, .ref q1, .ref q2, .ref q3, .int 0, .ref q4, .ref q5, .ref q6, .int 0, .int 0, .int 0, .int 0, .ref q7, .ref q8, .int 0, .ref q9, .ref q10, .ref q11, .ref q12, .ref q13, .ref q14, .ref q15, .ref q16, .ref q17, .ref q18, .ref q19, .null, .int 0, .int 0, .int 0, .int 0, .int 0, .int 0, .null, .null, .int 0, .int 0, .int 0, .int 0, .int 0, .int 0, .null, .null, .null, .null, .null, .null])), (q0, .inl (cy 0, 48, .inl (fun _ => 0))), (q1, .inl (cy 0, 12, .inl (fun _ => 0))), (q2, .inl (cy 0, 96, .inl (fun _ => 0))), (q3, .inl (cy 0, 12, .inl (fun _ => 0))), (q4, .inl (cy 0, 40, .inl (fun _ => 0))), (q5, .inl (cy 0, 4, .inl (fun _ => 0))), (q6, .inl (cy 0, 8, .inl (fun _ => 0))), (q7, .inl (cy 0, 168, .inl (fun _ => 0))), (q8, .inl (cy 0, 21, .inl (fun _ => 0))), (q9, .inl (cy 0, 4, .inl (upd (upd (upd (upd (fun _ => 0) 0 1) 1 2) 2 2) 3 3))), (q10, .inl (cy 0, 25, .inl (fun _ => 0))), (q11, .inl (cy 0, 2048, .inl (fun _ => 0))), (q12, .inl (cy 0, 2048, .inl (fun _ => 0))), (q13, .inl (cy 0, 2048, .inl (fun _ => 0))), (q14, .inl (cy 0, 2048, .inl (fun _ => 0))), (q15, .inl (cy 0, 2048, .inl (fun _ => 0))), (q16, .inl (cy 0, 2048, .inl (fun _ => 0))), (q17, .inl (cy 0, 2048, .inl (fun _ => 0))), (q18, .inl (cy 0, 13, .inl (fun _ => 0))), (q19, .inl (cy 0, 12, .inl (fun _ => 0)))] := hD
  refine lv_aload_n hx hb dX10_init_186 rfl (lv_at hl 0 rfl) ?_
  refine lv_bipush (v := 12) hx hb dX10_init_187 (by decide) ?_
  refine nwA (atype := .int) (t0 := 0) (N' := 12) (a0 := (12, .inl (fun _ => 0))) hx hb (hts (.arrayClass .int) (inT_mem (by decide +kernel))) rfl hK rfl hP hD hS hA (fun _ => rfl) (by decide) (by decide) (Nat.le_of_ble_eq_true rfl) (Nat.le_of_ble_eq_true rfl) (Nat.le_of_ble_eq_true rfl) dX10_init_189 (fun q20 H hP hD hS => ?_)
  have hP : va_P D clsL [(h0, .inr (9, [.ref q0, .ref q1, .ref q2, .ref q3, .int 0, .ref q4, .ref q5, .ref q6, .int 0, .int 0, .int 0, .int 0, .ref q7, .ref q8, .int 0, .ref q9, .ref q10, .ref q11, .ref q12, .ref q13, .ref q14, .ref q15, .ref q16, .ref q17, .ref q18, .ref q19, .null, .int 0, .int 0, .int 0, .int 0, .int 0, .int 0, .null, .null, .int 0, .int 0, .int 0, .int 0, .int 0, .int 0, .null, .null, .null, .null, .null, .null])), (q0, .inl (cy 0, 48, .inl (fun _ => 0))), (q1, .inl (cy 0, 12, .inl (fun _ => 0))), (q2, .inl (cy 0, 96, .inl (fun _ => 0))), (q3, .inl (cy 0, 12, .inl (fun _ => 0))), (q4, .inl (cy 0, 40, .inl (fun _ => 0))), (q5, .inl (cy 0, 4, .inl (fun _ => 0))), (q6, .inl (cy 0, 8, .inl (fun _ => 0))), (q7, .inl (cy 0, 168, .inl (fun _ => 0))), (q8, .inl (cy 0, 21, .inl (fun _ => 0))), (q9, .inl (cy 0, 4, .inl (upd (upd (upd (upd (fun _ => 0) 0 1) 1 2) 2 2) 3 3))), (q10, .inl (cy 0, 25, .inl (fun _ => 0))), (q11, .inl (cy 0, 2048, .inl (fun _ => 0))), (q12, .inl (cy 0, 2048, .inl (fun _ => 0))), (q13, .inl (cy 0, 2048, .inl (fun _ => 0))), (q14, .inl (cy 0, 2048, .inl (fun _ => 0))), (q15, .inl (cy 0, 2048, .inl (fun _ => 0))), (q16, .inl (cy 0, 2048, .inl (fun _ => 0))), (q17, .inl (cy 0, 2048, .inl (fun _ => 0))), (q18, .inl (cy 0, 13, .inl (fun _ => 0))), (q19, .inl (cy 0, 12, .inl (fun _ => 0))), (q20, .inl (cy 0, 12, .inl (fun _ => 0)))] H := hP
  have hD : va_D A [(h0, .inr (9, [.ref q0, .ref q1, .ref q2, .ref q3, .int 0, .ref q4, .ref q5, .ref q6, .int 0, .int 0, .int 0, .int 0, .ref q7, .ref q8, .int 0, .ref q9, .ref q10, .ref q11, .ref q12, .ref q13, .ref q14, .ref q15, .ref q16, .ref q17, .ref q18, .ref q19, .null, .int 0, .int 0, .int 0, .int 0, .int 0, .int 0, .null, .null, .int 0, .int 0, .int 0, .int 0, .int 0, .int 0, .null, .null, .null, .null, .null, .null])), (q0, .inl (cy 0, 48, .inl (fun _ => 0))), (q1, .inl (cy 0, 12, .inl (fun _ => 0))), (q2, .inl (cy 0, 96, .inl (fun _ => 0))), (q3, .inl (cy 0, 12, .inl (fun _ => 0))), (q4, .inl (cy 0, 40, .inl (fun _ => 0))), (q5, .inl (cy 0, 4, .inl (fun _ => 0))), (q6, .inl (cy 0, 8, .inl (fun _ => 0))), (q7, .inl (cy 0, 168, .inl (fun _ => 0))), (q8, .inl (cy 0, 21, .inl (fun _ => 0))), (q9, .inl (cy 0, 4, .inl (upd (upd (upd (upd (fun _ => 0) 0 1) 1 2) 2 2) 3 3))), (q10, .inl (cy 0, 25, .inl (fun _ => 0))), (q11, .inl (cy 0, 2048, .inl (fun _ => 0))), (q12, .inl (cy 0, 2048, .inl (fun _ => 0))), (q13, .inl (cy 0, 2048, .inl (fun _ => 0))), (q14, .inl (cy 0, 2048, .inl (fun _ => 0))), (q15, .inl (cy 0, 2048, .inl (fun _ => 0))), (q16, .inl (cy 0, 2048, .inl (fun _ => 0))), (q17, .inl (cy 0, 2048, .inl (fun _ => 0))), (q18, .inl (cy 0, 13, .inl (fun _ => 0))), (q19, .inl (cy 0, 12, .inl (fun _ => 0))), (q20, .inl (cy 0, 12, .inl (fun _ => 0)))] := hD
  refine W.widen (k := 21) (n := 14811) (Nat.le_of_ble_eq_true rfl) (Nat.le_of_ble_eq_true rfl) ?_
  refine va_putF (D := D) (ci := 9) (v := .ref q20) (ty := .array .int) (C := RX10) (T := TX10) (N := 47) hx hb hts (inW inX10 (by decide +kernel)) tyX10 tyX10_ok nmX10 hown hK hP hD hS 0 rfl rfl 26 (by decide) (hts (.fieldLink RX10 72 "AdderChooserModel" "others" "[I") (inT_mem (by decide +kernel))) (fun _ h9 => h9) rfl hin rfl (by decide +kernel) rfl rfl (Nat.le_of_ble_eq_true rfl) dX10_init_191 (fun H _ hP hD hS => ?_)
  have hP : va_P D clsL [(h0, .inr (9, [.ref q0, .ref q1, .ref q2, .ref q3, .int 0, .ref q4, .ref q5, .ref q6, .int 0, .int 0, .int 0, .int 0, .ref q7, .ref q8, .int 0, .ref q9, .ref q10, .ref q11, .ref q12, .ref q13, .ref q14, .ref q15, .ref q16, .ref q17, .ref q18, .ref q19, .ref q20, .int 0, .int 0, .int 0, .int 0, .int 0, .int 0, .null, .null, .int 0, .int 0, .int 0, .int 0, .int 0, .int 0, .null, .null, .null, .null, .null, .null])), (q0, .inl (cy 0, 48, .inl (fun _ => 0))), (q1, .inl (cy 0, 12, .inl (fun _ => 0))), (q2, .inl (cy 0, 96, .inl (fun _ => 0))), (q3, .inl (cy 0, 12, .inl (fun _ => 0))), (q4, .inl (cy 0, 40, .inl (fun _ => 0))), (q5, .inl (cy 0, 4, .inl (fun _ => 0))), (q6, .inl (cy 0, 8, .inl (fun _ => 0))), (q7, .inl (cy 0, 168, .inl (fun _ => 0))), (q8, .inl (cy 0, 21, .inl (fun _ => 0))), (q9, .inl (cy 0, 4, .inl (upd (upd (upd (upd (fun _ => 0) 0 1) 1 2) 2 2) 3 3))), (q10, .inl (cy 0, 25, .inl (fun _ => 0))), (q11, .inl (cy 0, 2048, .inl (fun _ => 0))), (q12, .inl (cy 0, 2048, .inl (fun _ => 0))), (q13, .inl (cy 0, 2048, .inl (fun _ => 0))), (q14, .inl (cy 0, 2048, .inl (fun _ => 0))), (q15, .inl (cy 0, 2048, .inl (fun _ => 0))), (q16, .inl (cy 0, 2048, .inl (fun _ => 0))), (q17, .inl (cy 0, 2048, .inl (fun _ => 0))), (q18, .inl (cy 0, 13, .inl (fun _ => 0))), (q19, .inl (cy 0, 12, .inl (fun _ => 0))), (q20, .inl (cy 0, 12, .inl (fun _ => 0)))] H := hP
  have hD : va_D A [(h0, .inr (9, [.ref q0, .ref q1, .ref q2, .ref q3, .int 0, .ref q4, .ref q5, .ref q6, .int 0, .int 0, .int 0, .int 0, .ref q7, .ref q8, .int 0, .ref q9, .ref q10, .ref q11, .ref q12, .ref q13, .ref q14, .ref q15, .ref q16, .ref q17, .ref q18, .ref q19, .ref q20, .int 0, .int 0, .int 0, .int 0, .int 0, .int 0, .null, .null, .int 0, .int 0, .int 0, .int 0, .int 0, .int 0, .null, .null, .null, .null, .null, .null])), (q0, .inl (cy 0, 48, .inl (fun _ => 0))), (q1, .inl (cy 0, 12, .inl (fun _ => 0))), (q2, .inl (cy 0, 96, .inl (fun _ => 0))), (q3, .inl (cy 0, 12, .inl (fun _ => 0))), (q4, .inl (cy 0, 40, .inl (fun _ => 0))), (q5, .inl (cy 0, 4, .inl (fun _ => 0))), (q6, .inl (cy 0, 8, .inl (fun _ => 0))), (q7, .inl (cy 0, 168, .inl (fun _ => 0))), (q8, .inl (cy 0, 21, .inl (fun _ => 0))), (q9, .inl (cy 0, 4, .inl (upd (upd (upd (upd (fun _ => 0) 0 1) 1 2) 2 2) 3 3))), (q10, .inl (cy 0, 25, .inl (fun _ => 0))), (q11, .inl (cy 0, 2048, .inl (fun _ => 0))), (q12, .inl (cy 0, 2048, .inl (fun _ => 0))), (q13, .inl (cy 0, 2048, .inl (fun _ => 0))), (q14, .inl (cy 0, 2048, .inl (fun _ => 0))), (q15, .inl (cy 0, 2048, .inl (fun _ => 0))), (q16, .inl (cy 0, 2048, .inl (fun _ => 0))), (q17, .inl (cy 0, 2048, .inl (fun _ => 0))), (q18, .inl (cy 0, 13, .inl (fun _ => 0))), (q19, .inl (cy 0, 12, .inl (fun _ => 0))), (q20, .inl (cy 0, 12, .inl (fun _ => 0)))] := hD
  refine lv_aload_n hx hb dX10_init_194 rfl (lv_at hl 0 rfl) ?_
  refine lv_bipush (v := 8) hx hb dX10_init_195 (by decide) ?_
  refine nwA (atype := .int) (t0 := 0) (N' := 8) (a0 := (8, .inl (fun _ => 0))) hx hb (hts (.arrayClass .int) (inT_mem (by decide +kernel))) rfl hK rfl hP hD hS hA (fun _ => rfl) (by decide) (by decide) (Nat.le_of_ble_eq_true rfl) (Nat.le_of_ble_eq_true rfl) (Nat.le_of_ble_eq_true rfl) dX10_init_197 (fun q21 H hP hD hS => ?_)
  have hP : va_P D clsL [(h0, .inr (9, [.ref q0, .ref q1, .ref q2, .ref q3, .int 0, .ref q4, .ref q5, .ref q6, .int 0, .int 0, .int 0, .int 0, .ref q7, .ref q8, .int 0, .ref q9, .ref q10, .ref q11, .ref q12, .ref q13, .ref q14, .ref q15, .ref q16, .ref q17, .ref q18, .ref q19, .ref q20, .int 0, .int 0, .int 0, .int 0, .int 0, .int 0, .null, .null, .int 0, .int 0, .int 0, .int 0, .int 0, .int 0, .null, .null, .null, .null, .null, .null])), (q0, .inl (cy 0, 48, .inl (fun _ => 0))), (q1, .inl (cy 0, 12, .inl (fun _ => 0))), (q2, .inl (cy 0, 96, .inl (fun _ => 0))), (q3, .inl (cy 0, 12, .inl (fun _ => 0))), (q4, .inl (cy 0, 40, .inl (fun _ => 0))), (q5, .inl (cy 0, 4, .inl (fun _ => 0))), (q6, .inl (cy 0, 8, .inl (fun _ => 0))), (q7, .inl (cy 0, 168, .inl (fun _ => 0))), (q8, .inl (cy 0, 21, .inl (fun _ => 0))), (q9, .inl (cy 0, 4, .inl (upd (upd (upd (upd (fun _ => 0) 0 1) 1 2) 2 2) 3 3))), (q10, .inl (cy 0, 25, .inl (fun _ => 0))), (q11, .inl (cy 0, 2048, .inl (fun _ => 0))), (q12, .inl (cy 0, 2048, .inl (fun _ => 0))), (q13, .inl (cy 0, 2048, .inl (fun _ => 0))), (q14, .inl (cy 0, 2048, .inl (fun _ => 0))), (q15, .inl (cy 0, 2048, .inl (fun _ => 0))), (q16, .inl (cy 0, 2048, .inl (fun _ => 0))), (q17, .inl (cy 0, 2048, .inl (fun _ => 0))), (q18, .inl (cy 0, 13, .inl (fun _ => 0))), (q19, .inl (cy 0, 12, .inl (fun _ => 0))), (q20, .inl (cy 0, 12, .inl (fun _ => 0))), (q21, .inl (cy 0, 8, .inl (fun _ => 0)))] H := hP
  have hD : va_D A [(h0, .inr (9, [.ref q0, .ref q1, .ref q2, .ref q3, .int 0, .ref q4, .ref q5, .ref q6, .int 0, .int 0, .int 0, .int 0, .ref q7, .ref q8, .int 0, .ref q9, .ref q10, .ref q11, .ref q12, .ref q13, .ref q14, .ref q15, .ref q16, .ref q17, .ref q18, .ref q19, .ref q20, .int 0, .int 0, .int 0, .int 0, .int 0, .int 0, .null, .null, .int 0, .int 0, .int 0, .int 0, .int 0, .int 0, .null, .null, .null, .null, .null, .null])), (q0, .inl (cy 0, 48, .inl (fun _ => 0))), (q1, .inl (cy 0, 12, .inl (fun _ => 0))), (q2, .inl (cy 0, 96, .inl (fun _ => 0))), (q3, .inl (cy 0, 12, .inl (fun _ => 0))), (q4, .inl (cy 0, 40, .inl (fun _ => 0))), (q5, .inl (cy 0, 4, .inl (fun _ => 0))), (q6, .inl (cy 0, 8, .inl (fun _ => 0))), (q7, .inl (cy 0, 168, .inl (fun _ => 0))), (q8, .inl (cy 0, 21, .inl (fun _ => 0))), (q9, .inl (cy 0, 4, .inl (upd (upd (upd (upd (fun _ => 0) 0 1) 1 2) 2 2) 3 3))), (q10, .inl (cy 0, 25, .inl (fun _ => 0))), (q11, .inl (cy 0, 2048, .inl (fun _ => 0))), (q12, .inl (cy 0, 2048, .inl (fun _ => 0))), (q13, .inl (cy 0, 2048, .inl (fun _ => 0))), (q14, .inl (cy 0, 2048, .inl (fun _ => 0))), (q15, .inl (cy 0, 2048, .inl (fun _ => 0))), (q16, .inl (cy 0, 2048, .inl (fun _ => 0))), (q17, .inl (cy 0, 2048, .inl (fun _ => 0))), (q18, .inl (cy 0, 13, .inl (fun _ => 0))), (q19, .inl (cy 0, 12, .inl (fun _ => 0))), (q20, .inl (cy 0, 12, .inl (fun _ => 0))), (q21, .inl (cy 0, 8, .inl (fun _ => 0)))] := hD
  refine W.widen (k := 22) (n := 14819) (Nat.le_of_ble_eq_true rfl) (Nat.le_of_ble_eq_true rfl) ?_
  refine va_putF (D := D) (ci := 9) (v := .ref q21) (ty := .array .int) (C := RX10) (T := TX10) (N := 47) hx hb hts (inW inX10 (by decide +kernel)) tyX10 tyX10_ok nmX10 hown hK hP hD hS 0 rfl rfl 33 (by decide) (hts (.fieldLink RX10 75 "AdderChooserModel" "row" "[I") (inT_mem (by decide +kernel))) (fun _ h9 => h9) rfl hin rfl (by decide +kernel) rfl rfl (Nat.le_of_ble_eq_true rfl) dX10_init_199 (fun H _ hP hD hS => ?_)
  have hP : va_P D clsL [(h0, .inr (9, [.ref q0, .ref q1, .ref q2, .ref q3, .int 0, .ref q4, .ref q5, .ref q6, .int 0, .int 0, .int 0, .int 0, .ref q7, .ref q8, .int 0, .ref q9, .ref q10, .ref q11, .ref q12, .ref q13, .ref q14, .ref q15, .ref q16, .ref q17, .ref q18, .ref q19, .ref q20, .int 0, .int 0, .int 0, .int 0, .int 0, .int 0, .ref q21, .null, .int 0, .int 0, .int 0, .int 0, .int 0, .int 0, .null, .null, .null, .null, .null, .null])), (q0, .inl (cy 0, 48, .inl (fun _ => 0))), (q1, .inl (cy 0, 12, .inl (fun _ => 0))), (q2, .inl (cy 0, 96, .inl (fun _ => 0))), (q3, .inl (cy 0, 12, .inl (fun _ => 0))), (q4, .inl (cy 0, 40, .inl (fun _ => 0))), (q5, .inl (cy 0, 4, .inl (fun _ => 0))), (q6, .inl (cy 0, 8, .inl (fun _ => 0))), (q7, .inl (cy 0, 168, .inl (fun _ => 0))), (q8, .inl (cy 0, 21, .inl (fun _ => 0))), (q9, .inl (cy 0, 4, .inl (upd (upd (upd (upd (fun _ => 0) 0 1) 1 2) 2 2) 3 3))), (q10, .inl (cy 0, 25, .inl (fun _ => 0))), (q11, .inl (cy 0, 2048, .inl (fun _ => 0))), (q12, .inl (cy 0, 2048, .inl (fun _ => 0))), (q13, .inl (cy 0, 2048, .inl (fun _ => 0))), (q14, .inl (cy 0, 2048, .inl (fun _ => 0))), (q15, .inl (cy 0, 2048, .inl (fun _ => 0))), (q16, .inl (cy 0, 2048, .inl (fun _ => 0))), (q17, .inl (cy 0, 2048, .inl (fun _ => 0))), (q18, .inl (cy 0, 13, .inl (fun _ => 0))), (q19, .inl (cy 0, 12, .inl (fun _ => 0))), (q20, .inl (cy 0, 12, .inl (fun _ => 0))), (q21, .inl (cy 0, 8, .inl (fun _ => 0)))] H := hP
  have hD : va_D A [(h0, .inr (9, [.ref q0, .ref q1, .ref q2, .ref q3, .int 0, .ref q4, .ref q5, .ref q6, .int 0, .int 0, .int 0, .int 0, .ref q7, .ref q8, .int 0, .ref q9, .ref q10, .ref q11, .ref q12, .ref q13, .ref q14, .ref q15, .ref q16, .ref q17, .ref q18, .ref q19, .ref q20, .int 0, .int 0, .int 0, .int 0, .int 0, .int 0, .ref q21, .null, .int 0, .int 0, .int 0, .int 0, .int 0, .int 0, .null, .null, .null, .null, .null, .null])), (q0, .inl (cy 0, 48, .inl (fun _ => 0))), (q1, .inl (cy 0, 12, .inl (fun _ => 0))), (q2, .inl (cy 0, 96, .inl (fun _ => 0))), (q3, .inl (cy 0, 12, .inl (fun _ => 0))), (q4, .inl (cy 0, 40, .inl (fun _ => 0))), (q5, .inl (cy 0, 4, .inl (fun _ => 0))), (q6, .inl (cy 0, 8, .inl (fun _ => 0))), (q7, .inl (cy 0, 168, .inl (fun _ => 0))), (q8, .inl (cy 0, 21, .inl (fun _ => 0))), (q9, .inl (cy 0, 4, .inl (upd (upd (upd (upd (fun _ => 0) 0 1) 1 2) 2 2) 3 3))), (q10, .inl (cy 0, 25, .inl (fun _ => 0))), (q11, .inl (cy 0, 2048, .inl (fun _ => 0))), (q12, .inl (cy 0, 2048, .inl (fun _ => 0))), (q13, .inl (cy 0, 2048, .inl (fun _ => 0))), (q14, .inl (cy 0, 2048, .inl (fun _ => 0))), (q15, .inl (cy 0, 2048, .inl (fun _ => 0))), (q16, .inl (cy 0, 2048, .inl (fun _ => 0))), (q17, .inl (cy 0, 2048, .inl (fun _ => 0))), (q18, .inl (cy 0, 13, .inl (fun _ => 0))), (q19, .inl (cy 0, 12, .inl (fun _ => 0))), (q20, .inl (cy 0, 12, .inl (fun _ => 0))), (q21, .inl (cy 0, 8, .inl (fun _ => 0)))] := hD
  refine lv_aload_n hx hb dX10_init_202 rfl (lv_at hl 0 rfl) ?_
  refine lv_bipush (v := 8) hx hb dX10_init_203 (by decide) ?_
  refine nwA (atype := .int) (t0 := 0) (N' := 8) (a0 := (8, .inl (fun _ => 0))) hx hb (hts (.arrayClass .int) (inT_mem (by decide +kernel))) rfl hK rfl hP hD hS hA (fun _ => rfl) (by decide) (by decide) (Nat.le_of_ble_eq_true rfl) (Nat.le_of_ble_eq_true rfl) (Nat.le_of_ble_eq_true rfl) dX10_init_205 (fun q22 H hP hD hS => ?_)
  have hP : va_P D clsL [(h0, .inr (9, [.ref q0, .ref q1, .ref q2, .ref q3, .int 0, .ref q4, .ref q5, .ref q6, .int 0, .int 0, .int 0, .int 0, .ref q7, .ref q8, .int 0, .ref q9, .ref q10, .ref q11, .ref q12, .ref q13, .ref q14, .ref q15, .ref q16, .ref q17, .ref q18, .ref q19, .ref q20, .int 0, .int 0, .int 0, .int 0, .int 0, .int 0, .ref q21, .null, .int 0, .int 0, .int 0, .int 0, .int 0, .int 0, .null, .null, .null, .null, .null, .null])), (q0, .inl (cy 0, 48, .inl (fun _ => 0))), (q1, .inl (cy 0, 12, .inl (fun _ => 0))), (q2, .inl (cy 0, 96, .inl (fun _ => 0))), (q3, .inl (cy 0, 12, .inl (fun _ => 0))), (q4, .inl (cy 0, 40, .inl (fun _ => 0))), (q5, .inl (cy 0, 4, .inl (fun _ => 0))), (q6, .inl (cy 0, 8, .inl (fun _ => 0))), (q7, .inl (cy 0, 168, .inl (fun _ => 0))), (q8, .inl (cy 0, 21, .inl (fun _ => 0))), (q9, .inl (cy 0, 4, .inl (upd (upd (upd (upd (fun _ => 0) 0 1) 1 2) 2 2) 3 3))), (q10, .inl (cy 0, 25, .inl (fun _ => 0))), (q11, .inl (cy 0, 2048, .inl (fun _ => 0))), (q12, .inl (cy 0, 2048, .inl (fun _ => 0))), (q13, .inl (cy 0, 2048, .inl (fun _ => 0))), (q14, .inl (cy 0, 2048, .inl (fun _ => 0))), (q15, .inl (cy 0, 2048, .inl (fun _ => 0))), (q16, .inl (cy 0, 2048, .inl (fun _ => 0))), (q17, .inl (cy 0, 2048, .inl (fun _ => 0))), (q18, .inl (cy 0, 13, .inl (fun _ => 0))), (q19, .inl (cy 0, 12, .inl (fun _ => 0))), (q20, .inl (cy 0, 12, .inl (fun _ => 0))), (q21, .inl (cy 0, 8, .inl (fun _ => 0))), (q22, .inl (cy 0, 8, .inl (fun _ => 0)))] H := hP
  have hD : va_D A [(h0, .inr (9, [.ref q0, .ref q1, .ref q2, .ref q3, .int 0, .ref q4, .ref q5, .ref q6, .int 0, .int 0, .int 0, .int 0, .ref q7, .ref q8, .int 0, .ref q9, .ref q10, .ref q11, .ref q12, .ref q13, .ref q14, .ref q15, .ref q16, .ref q17, .ref q18, .ref q19, .ref q20, .int 0, .int 0, .int 0, .int 0, .int 0, .int 0, .ref q21, .null, .int 0, .int 0, .int 0, .int 0, .int 0, .int 0, .null, .null, .null, .null, .null, .null])), (q0, .inl (cy 0, 48, .inl (fun _ => 0))), (q1, .inl (cy 0, 12, .inl (fun _ => 0))), (q2, .inl (cy 0, 96, .inl (fun _ => 0))), (q3, .inl (cy 0, 12, .inl (fun _ => 0))), (q4, .inl (cy 0, 40, .inl (fun _ => 0))), (q5, .inl (cy 0, 4, .inl (fun _ => 0))), (q6, .inl (cy 0, 8, .inl (fun _ => 0))), (q7, .inl (cy 0, 168, .inl (fun _ => 0))), (q8, .inl (cy 0, 21, .inl (fun _ => 0))), (q9, .inl (cy 0, 4, .inl (upd (upd (upd (upd (fun _ => 0) 0 1) 1 2) 2 2) 3 3))), (q10, .inl (cy 0, 25, .inl (fun _ => 0))), (q11, .inl (cy 0, 2048, .inl (fun _ => 0))), (q12, .inl (cy 0, 2048, .inl (fun _ => 0))), (q13, .inl (cy 0, 2048, .inl (fun _ => 0))), (q14, .inl (cy 0, 2048, .inl (fun _ => 0))), (q15, .inl (cy 0, 2048, .inl (fun _ => 0))), (q16, .inl (cy 0, 2048, .inl (fun _ => 0))), (q17, .inl (cy 0, 2048, .inl (fun _ => 0))), (q18, .inl (cy 0, 13, .inl (fun _ => 0))), (q19, .inl (cy 0, 12, .inl (fun _ => 0))), (q20, .inl (cy 0, 12, .inl (fun _ => 0))), (q21, .inl (cy 0, 8, .inl (fun _ => 0))), (q22, .inl (cy 0, 8, .inl (fun _ => 0)))] := hD
  refine W.widen (k := 23) (n := 14827) (Nat.le_of_ble_eq_true rfl) (Nat.le_of_ble_eq_true rfl) ?_
  refine va_putF (D := D) (ci := 9) (v := .ref q22) (ty := .array .int) (C := RX10) (T := TX10) (N := 47) hx hb hts (inW inX10 (by decide +kernel)) tyX10 tyX10_ok nmX10 hown hK hP hD hS 0 rfl rfl 34 (by decide) (hts (.fieldLink RX10 78 "AdderChooserModel" "best" "[I") (inT_mem (by decide +kernel))) (fun _ h9 => h9) rfl hin rfl (by decide +kernel) rfl rfl (Nat.le_of_ble_eq_true rfl) dX10_init_207 (fun H _ hP hD hS => ?_)
  have hP : va_P D clsL [(h0, .inr (9, [.ref q0, .ref q1, .ref q2, .ref q3, .int 0, .ref q4, .ref q5, .ref q6, .int 0, .int 0, .int 0, .int 0, .ref q7, .ref q8, .int 0, .ref q9, .ref q10, .ref q11, .ref q12, .ref q13, .ref q14, .ref q15, .ref q16, .ref q17, .ref q18, .ref q19, .ref q20, .int 0, .int 0, .int 0, .int 0, .int 0, .int 0, .ref q21, .ref q22, .int 0, .int 0, .int 0, .int 0, .int 0, .int 0, .null, .null, .null, .null, .null, .null])), (q0, .inl (cy 0, 48, .inl (fun _ => 0))), (q1, .inl (cy 0, 12, .inl (fun _ => 0))), (q2, .inl (cy 0, 96, .inl (fun _ => 0))), (q3, .inl (cy 0, 12, .inl (fun _ => 0))), (q4, .inl (cy 0, 40, .inl (fun _ => 0))), (q5, .inl (cy 0, 4, .inl (fun _ => 0))), (q6, .inl (cy 0, 8, .inl (fun _ => 0))), (q7, .inl (cy 0, 168, .inl (fun _ => 0))), (q8, .inl (cy 0, 21, .inl (fun _ => 0))), (q9, .inl (cy 0, 4, .inl (upd (upd (upd (upd (fun _ => 0) 0 1) 1 2) 2 2) 3 3))), (q10, .inl (cy 0, 25, .inl (fun _ => 0))), (q11, .inl (cy 0, 2048, .inl (fun _ => 0))), (q12, .inl (cy 0, 2048, .inl (fun _ => 0))), (q13, .inl (cy 0, 2048, .inl (fun _ => 0))), (q14, .inl (cy 0, 2048, .inl (fun _ => 0))), (q15, .inl (cy 0, 2048, .inl (fun _ => 0))), (q16, .inl (cy 0, 2048, .inl (fun _ => 0))), (q17, .inl (cy 0, 2048, .inl (fun _ => 0))), (q18, .inl (cy 0, 13, .inl (fun _ => 0))), (q19, .inl (cy 0, 12, .inl (fun _ => 0))), (q20, .inl (cy 0, 12, .inl (fun _ => 0))), (q21, .inl (cy 0, 8, .inl (fun _ => 0))), (q22, .inl (cy 0, 8, .inl (fun _ => 0)))] H := hP
  have hD : va_D A [(h0, .inr (9, [.ref q0, .ref q1, .ref q2, .ref q3, .int 0, .ref q4, .ref q5, .ref q6, .int 0, .int 0, .int 0, .int 0, .ref q7, .ref q8, .int 0, .ref q9, .ref q10, .ref q11, .ref q12, .ref q13, .ref q14, .ref q15, .ref q16, .ref q17, .ref q18, .ref q19, .ref q20, .int 0, .int 0, .int 0, .int 0, .int 0, .int 0, .ref q21, .ref q22, .int 0, .int 0, .int 0, .int 0, .int 0, .int 0, .null, .null, .null, .null, .null, .null])), (q0, .inl (cy 0, 48, .inl (fun _ => 0))), (q1, .inl (cy 0, 12, .inl (fun _ => 0))), (q2, .inl (cy 0, 96, .inl (fun _ => 0))), (q3, .inl (cy 0, 12, .inl (fun _ => 0))), (q4, .inl (cy 0, 40, .inl (fun _ => 0))), (q5, .inl (cy 0, 4, .inl (fun _ => 0))), (q6, .inl (cy 0, 8, .inl (fun _ => 0))), (q7, .inl (cy 0, 168, .inl (fun _ => 0))), (q8, .inl (cy 0, 21, .inl (fun _ => 0))), (q9, .inl (cy 0, 4, .inl (upd (upd (upd (upd (fun _ => 0) 0 1) 1 2) 2 2) 3 3))), (q10, .inl (cy 0, 25, .inl (fun _ => 0))), (q11, .inl (cy 0, 2048, .inl (fun _ => 0))), (q12, .inl (cy 0, 2048, .inl (fun _ => 0))), (q13, .inl (cy 0, 2048, .inl (fun _ => 0))), (q14, .inl (cy 0, 2048, .inl (fun _ => 0))), (q15, .inl (cy 0, 2048, .inl (fun _ => 0))), (q16, .inl (cy 0, 2048, .inl (fun _ => 0))), (q17, .inl (cy 0, 2048, .inl (fun _ => 0))), (q18, .inl (cy 0, 13, .inl (fun _ => 0))), (q19, .inl (cy 0, 12, .inl (fun _ => 0))), (q20, .inl (cy 0, 12, .inl (fun _ => 0))), (q21, .inl (cy 0, 8, .inl (fun _ => 0))), (q22, .inl (cy 0, 8, .inl (fun _ => 0)))] := hD
  refine lv_aload_n hx hb dX10_init_210 rfl (lv_at hl 0 rfl) ?_
  refine lv_bipush (v := 14) hx hb dX10_init_211 (by decide) ?_
  refine nwA (atype := .long) (t0 := 1) (N' := 14) (a0 := (14, .inr (.inl (fun _ => 0)))) hx hb (hts (.arrayClass .long) (inT_mem (by decide +kernel))) rfl hK rfl hP hD hS hA (fun _ => rfl) (by decide) (by decide) (Nat.le_of_ble_eq_true rfl) (Nat.le_of_ble_eq_true rfl) (Nat.le_of_ble_eq_true rfl) dX10_init_213 (fun q23 H hP hD hS => ?_)
  have hP : va_P D clsL [(h0, .inr (9, [.ref q0, .ref q1, .ref q2, .ref q3, .int 0, .ref q4, .ref q5, .ref q6, .int 0, .int 0, .int 0, .int 0, .ref q7, .ref q8, .int 0, .ref q9, .ref q10, .ref q11, .ref q12, .ref q13, .ref q14, .ref q15, .ref q16, .ref q17, .ref q18, .ref q19, .ref q20, .int 0, .int 0, .int 0, .int 0, .int 0, .int 0, .ref q21, .ref q22, .int 0, .int 0, .int 0, .int 0, .int 0, .int 0, .null, .null, .null, .null, .null, .null])), (q0, .inl (cy 0, 48, .inl (fun _ => 0))), (q1, .inl (cy 0, 12, .inl (fun _ => 0))), (q2, .inl (cy 0, 96, .inl (fun _ => 0))), (q3, .inl (cy 0, 12, .inl (fun _ => 0))), (q4, .inl (cy 0, 40, .inl (fun _ => 0))), (q5, .inl (cy 0, 4, .inl (fun _ => 0))), (q6, .inl (cy 0, 8, .inl (fun _ => 0))), (q7, .inl (cy 0, 168, .inl (fun _ => 0))), (q8, .inl (cy 0, 21, .inl (fun _ => 0))), (q9, .inl (cy 0, 4, .inl (upd (upd (upd (upd (fun _ => 0) 0 1) 1 2) 2 2) 3 3))), (q10, .inl (cy 0, 25, .inl (fun _ => 0))), (q11, .inl (cy 0, 2048, .inl (fun _ => 0))), (q12, .inl (cy 0, 2048, .inl (fun _ => 0))), (q13, .inl (cy 0, 2048, .inl (fun _ => 0))), (q14, .inl (cy 0, 2048, .inl (fun _ => 0))), (q15, .inl (cy 0, 2048, .inl (fun _ => 0))), (q16, .inl (cy 0, 2048, .inl (fun _ => 0))), (q17, .inl (cy 0, 2048, .inl (fun _ => 0))), (q18, .inl (cy 0, 13, .inl (fun _ => 0))), (q19, .inl (cy 0, 12, .inl (fun _ => 0))), (q20, .inl (cy 0, 12, .inl (fun _ => 0))), (q21, .inl (cy 0, 8, .inl (fun _ => 0))), (q22, .inl (cy 0, 8, .inl (fun _ => 0))), (q23, .inl (cy 1, 14, .inr (.inl (fun _ => 0))))] H := hP
  have hD : va_D A [(h0, .inr (9, [.ref q0, .ref q1, .ref q2, .ref q3, .int 0, .ref q4, .ref q5, .ref q6, .int 0, .int 0, .int 0, .int 0, .ref q7, .ref q8, .int 0, .ref q9, .ref q10, .ref q11, .ref q12, .ref q13, .ref q14, .ref q15, .ref q16, .ref q17, .ref q18, .ref q19, .ref q20, .int 0, .int 0, .int 0, .int 0, .int 0, .int 0, .ref q21, .ref q22, .int 0, .int 0, .int 0, .int 0, .int 0, .int 0, .null, .null, .null, .null, .null, .null])), (q0, .inl (cy 0, 48, .inl (fun _ => 0))), (q1, .inl (cy 0, 12, .inl (fun _ => 0))), (q2, .inl (cy 0, 96, .inl (fun _ => 0))), (q3, .inl (cy 0, 12, .inl (fun _ => 0))), (q4, .inl (cy 0, 40, .inl (fun _ => 0))), (q5, .inl (cy 0, 4, .inl (fun _ => 0))), (q6, .inl (cy 0, 8, .inl (fun _ => 0))), (q7, .inl (cy 0, 168, .inl (fun _ => 0))), (q8, .inl (cy 0, 21, .inl (fun _ => 0))), (q9, .inl (cy 0, 4, .inl (upd (upd (upd (upd (fun _ => 0) 0 1) 1 2) 2 2) 3 3))), (q10, .inl (cy 0, 25, .inl (fun _ => 0))), (q11, .inl (cy 0, 2048, .inl (fun _ => 0))), (q12, .inl (cy 0, 2048, .inl (fun _ => 0))), (q13, .inl (cy 0, 2048, .inl (fun _ => 0))), (q14, .inl (cy 0, 2048, .inl (fun _ => 0))), (q15, .inl (cy 0, 2048, .inl (fun _ => 0))), (q16, .inl (cy 0, 2048, .inl (fun _ => 0))), (q17, .inl (cy 0, 2048, .inl (fun _ => 0))), (q18, .inl (cy 0, 13, .inl (fun _ => 0))), (q19, .inl (cy 0, 12, .inl (fun _ => 0))), (q20, .inl (cy 0, 12, .inl (fun _ => 0))), (q21, .inl (cy 0, 8, .inl (fun _ => 0))), (q22, .inl (cy 0, 8, .inl (fun _ => 0))), (q23, .inl (cy 1, 14, .inr (.inl (fun _ => 0))))] := hD
  refine W.widen (k := 24) (n := 14841) (Nat.le_of_ble_eq_true rfl) (Nat.le_of_ble_eq_true rfl) ?_
  refine va_putF (D := D) (ci := 9) (v := .ref q23) (ty := .array .long) (C := RX10) (T := TX10) (N := 47) hx hb hts (inW inX10 (by decide +kernel)) tyX10 tyX10_ok nmX10 hown hK hP hD hS 0 rfl rfl 41 (by decide) (hts (.fieldLink RX10 81 "AdderChooserModel" "ways" "[J") (inT_mem (by decide +kernel))) (fun _ h9 => h9) rfl hin rfl (by decide +kernel) rfl rfl (Nat.le_of_ble_eq_true rfl) dX10_init_215 (fun H _ hP hD hS => ?_)
  have hP : va_P D clsL [(h0, .inr (9, [.ref q0, .ref q1, .ref q2, .ref q3, .int 0, .ref q4, .ref q5, .ref q6, .int 0, .int 0, .int 0, .int 0, .ref q7, .ref q8, .int 0, .ref q9, .ref q10, .ref q11, .ref q12, .ref q13, .ref q14, .ref q15, .ref q16, .ref q17, .ref q18, .ref q19, .ref q20, .int 0, .int 0, .int 0, .int 0, .int 0, .int 0, .ref q21, .ref q22, .int 0, .int 0, .int 0, .int 0, .int 0, .int 0, .ref q23, .null, .null, .null, .null, .null])), (q0, .inl (cy 0, 48, .inl (fun _ => 0))), (q1, .inl (cy 0, 12, .inl (fun _ => 0))), (q2, .inl (cy 0, 96, .inl (fun _ => 0))), (q3, .inl (cy 0, 12, .inl (fun _ => 0))), (q4, .inl (cy 0, 40, .inl (fun _ => 0))), (q5, .inl (cy 0, 4, .inl (fun _ => 0))), (q6, .inl (cy 0, 8, .inl (fun _ => 0))), (q7, .inl (cy 0, 168, .inl (fun _ => 0))), (q8, .inl (cy 0, 21, .inl (fun _ => 0))), (q9, .inl (cy 0, 4, .inl (upd (upd (upd (upd (fun _ => 0) 0 1) 1 2) 2 2) 3 3))), (q10, .inl (cy 0, 25, .inl (fun _ => 0))), (q11, .inl (cy 0, 2048, .inl (fun _ => 0))), (q12, .inl (cy 0, 2048, .inl (fun _ => 0))), (q13, .inl (cy 0, 2048, .inl (fun _ => 0))), (q14, .inl (cy 0, 2048, .inl (fun _ => 0))), (q15, .inl (cy 0, 2048, .inl (fun _ => 0))), (q16, .inl (cy 0, 2048, .inl (fun _ => 0))), (q17, .inl (cy 0, 2048, .inl (fun _ => 0))), (q18, .inl (cy 0, 13, .inl (fun _ => 0))), (q19, .inl (cy 0, 12, .inl (fun _ => 0))), (q20, .inl (cy 0, 12, .inl (fun _ => 0))), (q21, .inl (cy 0, 8, .inl (fun _ => 0))), (q22, .inl (cy 0, 8, .inl (fun _ => 0))), (q23, .inl (cy 1, 14, .inr (.inl (fun _ => 0))))] H := hP
  have hD : va_D A [(h0, .inr (9, [.ref q0, .ref q1, .ref q2, .ref q3, .int 0, .ref q4, .ref q5, .ref q6, .int 0, .int 0, .int 0, .int 0, .ref q7, .ref q8, .int 0, .ref q9, .ref q10, .ref q11, .ref q12, .ref q13, .ref q14, .ref q15, .ref q16, .ref q17, .ref q18, .ref q19, .ref q20, .int 0, .int 0, .int 0, .int 0, .int 0, .int 0, .ref q21, .ref q22, .int 0, .int 0, .int 0, .int 0, .int 0, .int 0, .ref q23, .null, .null, .null, .null, .null])), (q0, .inl (cy 0, 48, .inl (fun _ => 0))), (q1, .inl (cy 0, 12, .inl (fun _ => 0))), (q2, .inl (cy 0, 96, .inl (fun _ => 0))), (q3, .inl (cy 0, 12, .inl (fun _ => 0))), (q4, .inl (cy 0, 40, .inl (fun _ => 0))), (q5, .inl (cy 0, 4, .inl (fun _ => 0))), (q6, .inl (cy 0, 8, .inl (fun _ => 0))), (q7, .inl (cy 0, 168, .inl (fun _ => 0))), (q8, .inl (cy 0, 21, .inl (fun _ => 0))), (q9, .inl (cy 0, 4, .inl (upd (upd (upd (upd (fun _ => 0) 0 1) 1 2) 2 2) 3 3))), (q10, .inl (cy 0, 25, .inl (fun _ => 0))), (q11, .inl (cy 0, 2048, .inl (fun _ => 0))), (q12, .inl (cy 0, 2048, .inl (fun _ => 0))), (q13, .inl (cy 0, 2048, .inl (fun _ => 0))), (q14, .inl (cy 0, 2048, .inl (fun _ => 0))), (q15, .inl (cy 0, 2048, .inl (fun _ => 0))), (q16, .inl (cy 0, 2048, .inl (fun _ => 0))), (q17, .inl (cy 0, 2048, .inl (fun _ => 0))), (q18, .inl (cy 0, 13, .inl (fun _ => 0))), (q19, .inl (cy 0, 12, .inl (fun _ => 0))), (q20, .inl (cy 0, 12, .inl (fun _ => 0))), (q21, .inl (cy 0, 8, .inl (fun _ => 0))), (q22, .inl (cy 0, 8, .inl (fun _ => 0))), (q23, .inl (cy 1, 14, .inr (.inl (fun _ => 0))))] := hD
  refine lv_aload_n hx hb dX10_init_218 rfl (lv_at hl 0 rfl) ?_
  refine lv_bipush (v := 14) hx hb dX10_init_219 (by decide) ?_
  refine nwA (atype := .long) (t0 := 1) (N' := 14) (a0 := (14, .inr (.inl (fun _ => 0)))) hx hb (hts (.arrayClass .long) (inT_mem (by decide +kernel))) rfl hK rfl hP hD hS hA (fun _ => rfl) (by decide) (by decide) (Nat.le_of_ble_eq_true rfl) (Nat.le_of_ble_eq_true rfl) (Nat.le_of_ble_eq_true rfl) dX10_init_221 (fun q24 H hP hD hS => ?_)
  have hP : va_P D clsL [(h0, .inr (9, [.ref q0, .ref q1, .ref q2, .ref q3, .int 0, .ref q4, .ref q5, .ref q6, .int 0, .int 0, .int 0, .int 0, .ref q7, .ref q8, .int 0, .ref q9, .ref q10, .ref q11, .ref q12, .ref q13, .ref q14, .ref q15, .ref q16, .ref q17, .ref q18, .ref q19, .ref q20, .int 0, .int 0, .int 0, .int 0, .int 0, .int 0, .ref q21, .ref q22, .int 0, .int 0, .int 0, .int 0, .int 0, .int 0, .ref q23, .null, .null, .null, .null, .null])), (q0, .inl (cy 0, 48, .inl (fun _ => 0))), (q1, .inl (cy 0, 12, .inl (fun _ => 0))), (q2, .inl (cy 0, 96, .inl (fun _ => 0))), (q3, .inl (cy 0, 12, .inl (fun _ => 0))), (q4, .inl (cy 0, 40, .inl (fun _ => 0))), (q5, .inl (cy 0, 4, .inl (fun _ => 0))), (q6, .inl (cy 0, 8, .inl (fun _ => 0))), (q7, .inl (cy 0, 168, .inl (fun _ => 0))), (q8, .inl (cy 0, 21, .inl (fun _ => 0))), (q9, .inl (cy 0, 4, .inl (upd (upd (upd (upd (fun _ => 0) 0 1) 1 2) 2 2) 3 3))), (q10, .inl (cy 0, 25, .inl (fun _ => 0))), (q11, .inl (cy 0, 2048, .inl (fun _ => 0))), (q12, .inl (cy 0, 2048, .inl (fun _ => 0))), (q13, .inl (cy 0, 2048, .inl (fun _ => 0))), (q14, .inl (cy 0, 2048, .inl (fun _ => 0))), (q15, .inl (cy 0, 2048, .inl (fun _ => 0))), (q16, .inl (cy 0, 2048, .inl (fun _ => 0))), (q17, .inl (cy 0, 2048, .inl (fun _ => 0))), (q18, .inl (cy 0, 13, .inl (fun _ => 0))), (q19, .inl (cy 0, 12, .inl (fun _ => 0))), (q20, .inl (cy 0, 12, .inl (fun _ => 0))), (q21, .inl (cy 0, 8, .inl (fun _ => 0))), (q22, .inl (cy 0, 8, .inl (fun _ => 0))), (q23, .inl (cy 1, 14, .inr (.inl (fun _ => 0)))), (q24, .inl (cy 1, 14, .inr (.inl (fun _ => 0))))] H := hP
  have hD : va_D A [(h0, .inr (9, [.ref q0, .ref q1, .ref q2, .ref q3, .int 0, .ref q4, .ref q5, .ref q6, .int 0, .int 0, .int 0, .int 0, .ref q7, .ref q8, .int 0, .ref q9, .ref q10, .ref q11, .ref q12, .ref q13, .ref q14, .ref q15, .ref q16, .ref q17, .ref q18, .ref q19, .ref q20, .int 0, .int 0, .int 0, .int 0, .int 0, .int 0, .ref q21, .ref q22, .int 0, .int 0, .int 0, .int 0, .int 0, .int 0, .ref q23, .null, .null, .null, .null, .null])), (q0, .inl (cy 0, 48, .inl (fun _ => 0))), (q1, .inl (cy 0, 12, .inl (fun _ => 0))), (q2, .inl (cy 0, 96, .inl (fun _ => 0))), (q3, .inl (cy 0, 12, .inl (fun _ => 0))), (q4, .inl (cy 0, 40, .inl (fun _ => 0))), (q5, .inl (cy 0, 4, .inl (fun _ => 0))), (q6, .inl (cy 0, 8, .inl (fun _ => 0))), (q7, .inl (cy 0, 168, .inl (fun _ => 0))), (q8, .inl (cy 0, 21, .inl (fun _ => 0))), (q9, .inl (cy 0, 4, .inl (upd (upd (upd (upd (fun _ => 0) 0 1) 1 2) 2 2) 3 3))), (q10, .inl (cy 0, 25, .inl (fun _ => 0))), (q11, .inl (cy 0, 2048, .inl (fun _ => 0))), (q12, .inl (cy 0, 2048, .inl (fun _ => 0))), (q13, .inl (cy 0, 2048, .inl (fun _ => 0))), (q14, .inl (cy 0, 2048, .inl (fun _ => 0))), (q15, .inl (cy 0, 2048, .inl (fun _ => 0))), (q16, .inl (cy 0, 2048, .inl (fun _ => 0))), (q17, .inl (cy 0, 2048, .inl (fun _ => 0))), (q18, .inl (cy 0, 13, .inl (fun _ => 0))), (q19, .inl (cy 0, 12, .inl (fun _ => 0))), (q20, .inl (cy 0, 12, .inl (fun _ => 0))), (q21, .inl (cy 0, 8, .inl (fun _ => 0))), (q22, .inl (cy 0, 8, .inl (fun _ => 0))), (q23, .inl (cy 1, 14, .inr (.inl (fun _ => 0)))), (q24, .inl (cy 1, 14, .inr (.inl (fun _ => 0))))] := hD
  refine W.widen (k := 25) (n := 14855) (Nat.le_of_ble_eq_true rfl) (Nat.le_of_ble_eq_true rfl) ?_
  refine va_putF (D := D) (ci := 9) (v := .ref q24) (ty := .array .long) (C := RX10) (T := TX10) (N := 47) hx hb hts (inW inX10 (by decide +kernel)) tyX10 tyX10_ok nmX10 hown hK hP hD hS 0 rfl rfl 42 (by decide) (hts (.fieldLink RX10 85 "AdderChooserModel" "then" "[J") (inT_mem (by decide +kernel))) (fun _ h9 => h9) rfl hin rfl (by decide +kernel) rfl rfl (Nat.le_of_ble_eq_true rfl) dX10_init_223 (fun H _ hP hD hS => ?_)
  have hP : va_P D clsL [(h0, .inr (9, [.ref q0, .ref q1, .ref q2, .ref q3, .int 0, .ref q4, .ref q5, .ref q6, .int 0, .int 0, .int 0, .int 0, .ref q7, .ref q8, .int 0, .ref q9, .ref q10, .ref q11, .ref q12, .ref q13, .ref q14, .ref q15, .ref q16, .ref q17, .ref q18, .ref q19, .ref q20, .int 0, .int 0, .int 0, .int 0, .int 0, .int 0, .ref q21, .ref q22, .int 0, .int 0, .int 0, .int 0, .int 0, .int 0, .ref q23, .ref q24, .null, .null, .null, .null])), (q0, .inl (cy 0, 48, .inl (fun _ => 0))), (q1, .inl (cy 0, 12, .inl (fun _ => 0))), (q2, .inl (cy 0, 96, .inl (fun _ => 0))), (q3, .inl (cy 0, 12, .inl (fun _ => 0))), (q4, .inl (cy 0, 40, .inl (fun _ => 0))), (q5, .inl (cy 0, 4, .inl (fun _ => 0))), (q6, .inl (cy 0, 8, .inl (fun _ => 0))), (q7, .inl (cy 0, 168, .inl (fun _ => 0))), (q8, .inl (cy 0, 21, .inl (fun _ => 0))), (q9, .inl (cy 0, 4, .inl (upd (upd (upd (upd (fun _ => 0) 0 1) 1 2) 2 2) 3 3))), (q10, .inl (cy 0, 25, .inl (fun _ => 0))), (q11, .inl (cy 0, 2048, .inl (fun _ => 0))), (q12, .inl (cy 0, 2048, .inl (fun _ => 0))), (q13, .inl (cy 0, 2048, .inl (fun _ => 0))), (q14, .inl (cy 0, 2048, .inl (fun _ => 0))), (q15, .inl (cy 0, 2048, .inl (fun _ => 0))), (q16, .inl (cy 0, 2048, .inl (fun _ => 0))), (q17, .inl (cy 0, 2048, .inl (fun _ => 0))), (q18, .inl (cy 0, 13, .inl (fun _ => 0))), (q19, .inl (cy 0, 12, .inl (fun _ => 0))), (q20, .inl (cy 0, 12, .inl (fun _ => 0))), (q21, .inl (cy 0, 8, .inl (fun _ => 0))), (q22, .inl (cy 0, 8, .inl (fun _ => 0))), (q23, .inl (cy 1, 14, .inr (.inl (fun _ => 0)))), (q24, .inl (cy 1, 14, .inr (.inl (fun _ => 0))))] H := hP
  have hD : va_D A [(h0, .inr (9, [.ref q0, .ref q1, .ref q2, .ref q3, .int 0, .ref q4, .ref q5, .ref q6, .int 0, .int 0, .int 0, .int 0, .ref q7, .ref q8, .int 0, .ref q9, .ref q10, .ref q11, .ref q12, .ref q13, .ref q14, .ref q15, .ref q16, .ref q17, .ref q18, .ref q19, .ref q20, .int 0, .int 0, .int 0, .int 0, .int 0, .int 0, .ref q21, .ref q22, .int 0, .int 0, .int 0, .int 0, .int 0, .int 0, .ref q23, .ref q24, .null, .null, .null, .null])), (q0, .inl (cy 0, 48, .inl (fun _ => 0))), (q1, .inl (cy 0, 12, .inl (fun _ => 0))), (q2, .inl (cy 0, 96, .inl (fun _ => 0))), (q3, .inl (cy 0, 12, .inl (fun _ => 0))), (q4, .inl (cy 0, 40, .inl (fun _ => 0))), (q5, .inl (cy 0, 4, .inl (fun _ => 0))), (q6, .inl (cy 0, 8, .inl (fun _ => 0))), (q7, .inl (cy 0, 168, .inl (fun _ => 0))), (q8, .inl (cy 0, 21, .inl (fun _ => 0))), (q9, .inl (cy 0, 4, .inl (upd (upd (upd (upd (fun _ => 0) 0 1) 1 2) 2 2) 3 3))), (q10, .inl (cy 0, 25, .inl (fun _ => 0))), (q11, .inl (cy 0, 2048, .inl (fun _ => 0))), (q12, .inl (cy 0, 2048, .inl (fun _ => 0))), (q13, .inl (cy 0, 2048, .inl (fun _ => 0))), (q14, .inl (cy 0, 2048, .inl (fun _ => 0))), (q15, .inl (cy 0, 2048, .inl (fun _ => 0))), (q16, .inl (cy 0, 2048, .inl (fun _ => 0))), (q17, .inl (cy 0, 2048, .inl (fun _ => 0))), (q18, .inl (cy 0, 13, .inl (fun _ => 0))), (q19, .inl (cy 0, 12, .inl (fun _ => 0))), (q20, .inl (cy 0, 12, .inl (fun _ => 0))), (q21, .inl (cy 0, 8, .inl (fun _ => 0))), (q22, .inl (cy 0, 8, .inl (fun _ => 0))), (q23, .inl (cy 1, 14, .inr (.inl (fun _ => 0)))), (q24, .inl (cy 1, 14, .inr (.inl (fun _ => 0))))] := hD
  refine lv_aload_n hx hb dX10_init_226 rfl (lv_at hl 0 rfl) ?_
  refine lv_iconst (v := 4) hx hb dX10_init_227 (by decide) ?_
  refine nwA (atype := .int) (t0 := 0) (N' := 4) (a0 := (4, .inl (fun _ => 0))) hx hb (hts (.arrayClass .int) (inT_mem (by decide +kernel))) rfl hK rfl hP hD hS hA (fun _ => rfl) (by decide) (by decide) (Nat.le_of_ble_eq_true rfl) (Nat.le_of_ble_eq_true rfl) (Nat.le_of_ble_eq_true rfl) dX10_init_228 (fun q25 H hP hD hS => ?_)
  have hP : va_P D clsL [(h0, .inr (9, [.ref q0, .ref q1, .ref q2, .ref q3, .int 0, .ref q4, .ref q5, .ref q6, .int 0, .int 0, .int 0, .int 0, .ref q7, .ref q8, .int 0, .ref q9, .ref q10, .ref q11, .ref q12, .ref q13, .ref q14, .ref q15, .ref q16, .ref q17, .ref q18, .ref q19, .ref q20, .int 0, .int 0, .int 0, .int 0, .int 0, .int 0, .ref q21, .ref q22, .int 0, .int 0, .int 0, .int 0, .int 0, .int 0, .ref q23, .ref q24, .null, .null, .null, .null])), (q0, .inl (cy 0, 48, .inl (fun _ => 0))), (q1, .inl (cy 0, 12, .inl (fun _ => 0))), (q2, .inl (cy 0, 96, .inl (fun _ => 0))), (q3, .inl (cy 0, 12, .inl (fun _ => 0))), (q4, .inl (cy 0, 40, .inl (fun _ => 0))), (q5, .inl (cy 0, 4, .inl (fun _ => 0))), (q6, .inl (cy 0, 8, .inl (fun _ => 0))), (q7, .inl (cy 0, 168, .inl (fun _ => 0))), (q8, .inl (cy 0, 21, .inl (fun _ => 0))), (q9, .inl (cy 0, 4, .inl (upd (upd (upd (upd (fun _ => 0) 0 1) 1 2) 2 2) 3 3))), (q10, .inl (cy 0, 25, .inl (fun _ => 0))), (q11, .inl (cy 0, 2048, .inl (fun _ => 0))), (q12, .inl (cy 0, 2048, .inl (fun _ => 0))), (q13, .inl (cy 0, 2048, .inl (fun _ => 0))), (q14, .inl (cy 0, 2048, .inl (fun _ => 0))), (q15, .inl (cy 0, 2048, .inl (fun _ => 0))), (q16, .inl (cy 0, 2048, .inl (fun _ => 0))), (q17, .inl (cy 0, 2048, .inl (fun _ => 0))), (q18, .inl (cy 0, 13, .inl (fun _ => 0))), (q19, .inl (cy 0, 12, .inl (fun _ => 0))), (q20, .inl (cy 0, 12, .inl (fun _ => 0))), (q21, .inl (cy 0, 8, .inl (fun _ => 0))), (q22, .inl (cy 0, 8, .inl (fun _ => 0))), (q23, .inl (cy 1, 14, .inr (.inl (fun _ => 0)))), (q24, .inl (cy 1, 14, .inr (.inl (fun _ => 0)))), (q25, .inl (cy 0, 4, .inl (fun _ => 0)))] H := hP
  have hD : va_D A [(h0, .inr (9, [.ref q0, .ref q1, .ref q2, .ref q3, .int 0, .ref q4, .ref q5, .ref q6, .int 0, .int 0, .int 0, .int 0, .ref q7, .ref q8, .int 0, .ref q9, .ref q10, .ref q11, .ref q12, .ref q13, .ref q14, .ref q15, .ref q16, .ref q17, .ref q18, .ref q19, .ref q20, .int 0, .int 0, .int 0, .int 0, .int 0, .int 0, .ref q21, .ref q22, .int 0, .int 0, .int 0, .int 0, .int 0, .int 0, .ref q23, .ref q24, .null, .null, .null, .null])), (q0, .inl (cy 0, 48, .inl (fun _ => 0))), (q1, .inl (cy 0, 12, .inl (fun _ => 0))), (q2, .inl (cy 0, 96, .inl (fun _ => 0))), (q3, .inl (cy 0, 12, .inl (fun _ => 0))), (q4, .inl (cy 0, 40, .inl (fun _ => 0))), (q5, .inl (cy 0, 4, .inl (fun _ => 0))), (q6, .inl (cy 0, 8, .inl (fun _ => 0))), (q7, .inl (cy 0, 168, .inl (fun _ => 0))), (q8, .inl (cy 0, 21, .inl (fun _ => 0))), (q9, .inl (cy 0, 4, .inl (upd (upd (upd (upd (fun _ => 0) 0 1) 1 2) 2 2) 3 3))), (q10, .inl (cy 0, 25, .inl (fun _ => 0))), (q11, .inl (cy 0, 2048, .inl (fun _ => 0))), (q12, .inl (cy 0, 2048, .inl (fun _ => 0))), (q13, .inl (cy 0, 2048, .inl (fun _ => 0))), (q14, .inl (cy 0, 2048, .inl (fun _ => 0))), (q15, .inl (cy 0, 2048, .inl (fun _ => 0))), (q16, .inl (cy 0, 2048, .inl (fun _ => 0))), (q17, .inl (cy 0, 2048, .inl (fun _ => 0))), (q18, .inl (cy 0, 13, .inl (fun _ => 0))), (q19, .inl (cy 0, 12, .inl (fun _ => 0))), (q20, .inl (cy 0, 12, .inl (fun _ => 0))), (q21, .inl (cy 0, 8, .inl (fun _ => 0))), (q22, .inl (cy 0, 8, .inl (fun _ => 0))), (q23, .inl (cy 1, 14, .inr (.inl (fun _ => 0)))), (q24, .inl (cy 1, 14, .inr (.inl (fun _ => 0)))), (q25, .inl (cy 0, 4, .inl (fun _ => 0)))] := hD
  refine W.widen (k := 26) (n := 14859) (Nat.le_of_ble_eq_true rfl) (Nat.le_of_ble_eq_true rfl) ?_
  refine lv_dup hx hb dX10_init_230 rfl ?_
  refine lv_iconst (v := 0) hx hb dX10_init_231 (by decide) ?_
  refine lv_iconst (v := (-1)) hx hb dX10_init_232 (by decide) ?_
  refine va_iast (D := D) hx hb hK hP hD hS 26 0 rfl rfl (show vp_in (nI 0) 4 from vp_in_nI (by decide) (by decide)) dX10_init_233 (fun H _ hP hD hS => ?_)
  have hP : va_P D clsL [(h0, .inr (9, [.ref q0, .ref q1, .ref q2, .ref q3, .int 0, .ref q4, .ref q5, .ref q6, .int 0, .int 0, .int 0, .int 0, .ref q7, .ref q8, .int 0, .ref q9, .ref q10, .ref q11, .ref q12, .ref q13, .ref q14, .ref q15, .ref q16, .ref q17, .ref q18, .ref q19, .ref q20, .int 0, .int 0, .int 0, .int 0, .int 0, .int 0, .ref q21, .ref q22, .int 0, .int 0, .int 0, .int 0, .int 0, .int 0, .ref q23, .ref q24, .null, .null, .null, .null])), (q0, .inl (cy 0, 48, .inl (fun _ => 0))), (q1, .inl (cy 0, 12, .inl (fun _ => 0))), (q2, .inl (cy 0, 96, .inl (fun _ => 0))), (q3, .inl (cy 0, 12, .inl (fun _ => 0))), (q4, .inl (cy 0, 40, .inl (fun _ => 0))), (q5, .inl (cy 0, 4, .inl (fun _ => 0))), (q6, .inl (cy 0, 8, .inl (fun _ => 0))), (q7, .inl (cy 0, 168, .inl (fun _ => 0))), (q8, .inl (cy 0, 21, .inl (fun _ => 0))), (q9, .inl (cy 0, 4, .inl (upd (upd (upd (upd (fun _ => 0) 0 1) 1 2) 2 2) 3 3))), (q10, .inl (cy 0, 25, .inl (fun _ => 0))), (q11, .inl (cy 0, 2048, .inl (fun _ => 0))), (q12, .inl (cy 0, 2048, .inl (fun _ => 0))), (q13, .inl (cy 0, 2048, .inl (fun _ => 0))), (q14, .inl (cy 0, 2048, .inl (fun _ => 0))), (q15, .inl (cy 0, 2048, .inl (fun _ => 0))), (q16, .inl (cy 0, 2048, .inl (fun _ => 0))), (q17, .inl (cy 0, 2048, .inl (fun _ => 0))), (q18, .inl (cy 0, 13, .inl (fun _ => 0))), (q19, .inl (cy 0, 12, .inl (fun _ => 0))), (q20, .inl (cy 0, 12, .inl (fun _ => 0))), (q21, .inl (cy 0, 8, .inl (fun _ => 0))), (q22, .inl (cy 0, 8, .inl (fun _ => 0))), (q23, .inl (cy 1, 14, .inr (.inl (fun _ => 0)))), (q24, .inl (cy 1, 14, .inr (.inl (fun _ => 0)))), (q25, .inl (cy 0, 4, .inl (upd (fun _ => 0) 0 (-1))))] H := hP
  have hD : va_D A [(h0, .inr (9, [.ref q0, .ref q1, .ref q2, .ref q3, .int 0, .ref q4, .ref q5, .ref q6, .int 0, .int 0, .int 0, .int 0, .ref q7, .ref q8, .int 0, .ref q9, .ref q10, .ref q11, .ref q12, .ref q13, .ref q14, .ref q15, .ref q16, .ref q17, .ref q18, .ref q19, .ref q20, .int 0, .int 0, .int 0, .int 0, .int 0, .int 0, .ref q21, .ref q22, .int 0, .int 0, .int 0, .int 0, .int 0, .int 0, .ref q23, .ref q24, .null, .null, .null, .null])), (q0, .inl (cy 0, 48, .inl (fun _ => 0))), (q1, .inl (cy 0, 12, .inl (fun _ => 0))), (q2, .inl (cy 0, 96, .inl (fun _ => 0))), (q3, .inl (cy 0, 12, .inl (fun _ => 0))), (q4, .inl (cy 0, 40, .inl (fun _ => 0))), (q5, .inl (cy 0, 4, .inl (fun _ => 0))), (q6, .inl (cy 0, 8, .inl (fun _ => 0))), (q7, .inl (cy 0, 168, .inl (fun _ => 0))), (q8, .inl (cy 0, 21, .inl (fun _ => 0))), (q9, .inl (cy 0, 4, .inl (upd (upd (upd (upd (fun _ => 0) 0 1) 1 2) 2 2) 3 3))), (q10, .inl (cy 0, 25, .inl (fun _ => 0))), (q11, .inl (cy 0, 2048, .inl (fun _ => 0))), (q12, .inl (cy 0, 2048, .inl (fun _ => 0))), (q13, .inl (cy 0, 2048, .inl (fun _ => 0))), (q14, .inl (cy 0, 2048, .inl (fun _ => 0))), (q15, .inl (cy 0, 2048, .inl (fun _ => 0))), (q16, .inl (cy 0, 2048, .inl (fun _ => 0))), (q17, .inl (cy 0, 2048, .inl (fun _ => 0))), (q18, .inl (cy 0, 13, .inl (fun _ => 0))), (q19, .inl (cy 0, 12, .inl (fun _ => 0))), (q20, .inl (cy 0, 12, .inl (fun _ => 0))), (q21, .inl (cy 0, 8, .inl (fun _ => 0))), (q22, .inl (cy 0, 8, .inl (fun _ => 0))), (q23, .inl (cy 1, 14, .inr (.inl (fun _ => 0)))), (q24, .inl (cy 1, 14, .inr (.inl (fun _ => 0)))), (q25, .inl (cy 0, 4, .inl (upd (fun _ => 0) 0 (-1))))] := hD
  refine lv_dup hx hb dX10_init_234 rfl ?_
  refine lv_iconst (v := 1) hx hb dX10_init_235 (by decide) ?_
  refine lv_iconst (v := (-1)) hx hb dX10_init_236 (by decide) ?_
  refine va_iast (D := D) hx hb hK hP hD hS 26 0 rfl rfl (show vp_in (nI 1) 4 from vp_in_nI (by decide) (by decide)) dX10_init_237 (fun H _ hP hD hS => ?_)
  have hP : va_P D clsL [(h0, .inr (9, [.ref q0, .ref q1, .ref q2, .ref q3, .int 0, .ref q4, .ref q5, .ref q6, .int 0, .int 0, .int 0, .int 0, .ref q7, .ref q8, .int 0, .ref q9, .ref q10, .ref q11, .ref q12, .ref q13, .ref q14, .ref q15, .ref q16, .ref q17, .ref q18, .ref q19, .ref q20, .int 0, .int 0, .int 0, .int 0, .int 0, .int 0, .ref q21, .ref q22, .int 0, .int 0, .int 0, .int 0, .int 0, .int 0, .ref q23, .ref q24, .null, .null, .null, .null])), (q0, .inl (cy 0, 48, .inl (fun _ => 0))), (q1, .inl (cy 0, 12, .inl (fun _ => 0))), (q2, .inl (cy 0, 96, .inl (fun _ => 0))), (q3, .inl (cy 0, 12, .inl (fun _ => 0))), (q4, .inl (cy 0, 40, .inl (fun _ => 0))), (q5, .inl (cy 0, 4, .inl (fun _ => 0))), (q6, .inl (cy 0, 8, .inl (fun _ => 0))), (q7, .inl (cy 0, 168, .inl (fun _ => 0))), (q8, .inl (cy 0, 21, .inl (fun _ => 0))), (q9, .inl (cy 0, 4, .inl (upd (upd (upd (upd (fun _ => 0) 0 1) 1 2) 2 2) 3 3))), (q10, .inl (cy 0, 25, .inl (fun _ => 0))), (q11, .inl (cy 0, 2048, .inl (fun _ => 0))), (q12, .inl (cy 0, 2048, .inl (fun _ => 0))), (q13, .inl (cy 0, 2048, .inl (fun _ => 0))), (q14, .inl (cy 0, 2048, .inl (fun _ => 0))), (q15, .inl (cy 0, 2048, .inl (fun _ => 0))), (q16, .inl (cy 0, 2048, .inl (fun _ => 0))), (q17, .inl (cy 0, 2048, .inl (fun _ => 0))), (q18, .inl (cy 0, 13, .inl (fun _ => 0))), (q19, .inl (cy 0, 12, .inl (fun _ => 0))), (q20, .inl (cy 0, 12, .inl (fun _ => 0))), (q21, .inl (cy 0, 8, .inl (fun _ => 0))), (q22, .inl (cy 0, 8, .inl (fun _ => 0))), (q23, .inl (cy 1, 14, .inr (.inl (fun _ => 0)))), (q24, .inl (cy 1, 14, .inr (.inl (fun _ => 0)))), (q25, .inl (cy 0, 4, .inl (upd (upd (fun _ => 0) 0 (-1)) 1 (-1))))] H := hP
  have hD : va_D A [(h0, .inr (9, [.ref q0, .ref q1, .ref q2, .ref q3, .int 0, .ref q4, .ref q5, .ref q6, .int 0, .int 0, .int 0, .int 0, .ref q7, .ref q8, .int 0, .ref q9, .ref q10, .ref q11, .ref q12, .ref q13, .ref q14, .ref q15, .ref q16, .ref q17, .ref q18, .ref q19, .ref q20, .int 0, .int 0, .int 0, .int 0, .int 0, .int 0, .ref q21, .ref q22, .int 0, .int 0, .int 0, .int 0, .int 0, .int 0, .ref q23, .ref q24, .null, .null, .null, .null])), (q0, .inl (cy 0, 48, .inl (fun _ => 0))), (q1, .inl (cy 0, 12, .inl (fun _ => 0))), (q2, .inl (cy 0, 96, .inl (fun _ => 0))), (q3, .inl (cy 0, 12, .inl (fun _ => 0))), (q4, .inl (cy 0, 40, .inl (fun _ => 0))), (q5, .inl (cy 0, 4, .inl (fun _ => 0))), (q6, .inl (cy 0, 8, .inl (fun _ => 0))), (q7, .inl (cy 0, 168, .inl (fun _ => 0))), (q8, .inl (cy 0, 21, .inl (fun _ => 0))), (q9, .inl (cy 0, 4, .inl (upd (upd (upd (upd (fun _ => 0) 0 1) 1 2) 2 2) 3 3))), (q10, .inl (cy 0, 25, .inl (fun _ => 0))), (q11, .inl (cy 0, 2048, .inl (fun _ => 0))), (q12, .inl (cy 0, 2048, .inl (fun _ => 0))), (q13, .inl (cy 0, 2048, .inl (fun _ => 0))), (q14, .inl (cy 0, 2048, .inl (fun _ => 0))), (q15, .inl (cy 0, 2048, .inl (fun _ => 0))), (q16, .inl (cy 0, 2048, .inl (fun _ => 0))), (q17, .inl (cy 0, 2048, .inl (fun _ => 0))), (q18, .inl (cy 0, 13, .inl (fun _ => 0))), (q19, .inl (cy 0, 12, .inl (fun _ => 0))), (q20, .inl (cy 0, 12, .inl (fun _ => 0))), (q21, .inl (cy 0, 8, .inl (fun _ => 0))), (q22, .inl (cy 0, 8, .inl (fun _ => 0))), (q23, .inl (cy 1, 14, .inr (.inl (fun _ => 0)))), (q24, .inl (cy 1, 14, .inr (.inl (fun _ => 0)))), (q25, .inl (cy 0, 4, .inl (upd (upd (fun _ => 0) 0 (-1)) 1 (-1))))] := hD
  refine lv_dup hx hb dX10_init_238 rfl ?_
  refine lv_iconst (v := 2) hx hb dX10_init_239 (by decide) ?_
  refine lv_iconst (v := (-1)) hx hb dX10_init_240 (by decide) ?_
  refine va_iast (D := D) hx hb hK hP hD hS 26 0 rfl rfl (show vp_in (nI 2) 4 from vp_in_nI (by decide) (by decide)) dX10_init_241 (fun H _ hP hD hS => ?_)
  have hP : va_P D clsL [(h0, .inr (9, [.ref q0, .ref q1, .ref q2, .ref q3, .int 0, .ref q4, .ref q5, .ref q6, .int 0, .int 0, .int 0, .int 0, .ref q7, .ref q8, .int 0, .ref q9, .ref q10, .ref q11, .ref q12, .ref q13, .ref q14, .ref q15, .ref q16, .ref q17, .ref q18, .ref q19, .ref q20, .int 0, .int 0, .int 0, .int 0, .int 0, .int 0, .ref q21, .ref q22, .int 0, .int 0, .int 0, .int 0, .int 0, .int 0, .ref q23, .ref q24, .null, .null, .null, .null])), (q0, .inl (cy 0, 48, .inl (fun _ => 0))), (q1, .inl (cy 0, 12, .inl (fun _ => 0))), (q2, .inl (cy 0, 96, .inl (fun _ => 0))), (q3, .inl (cy 0, 12, .inl (fun _ => 0))), (q4, .inl (cy 0, 40, .inl (fun _ => 0))), (q5, .inl (cy 0, 4, .inl (fun _ => 0))), (q6, .inl (cy 0, 8, .inl (fun _ => 0))), (q7, .inl (cy 0, 168, .inl (fun _ => 0))), (q8, .inl (cy 0, 21, .inl (fun _ => 0))), (q9, .inl (cy 0, 4, .inl (upd (upd (upd (upd (fun _ => 0) 0 1) 1 2) 2 2) 3 3))), (q10, .inl (cy 0, 25, .inl (fun _ => 0))), (q11, .inl (cy 0, 2048, .inl (fun _ => 0))), (q12, .inl (cy 0, 2048, .inl (fun _ => 0))), (q13, .inl (cy 0, 2048, .inl (fun _ => 0))), (q14, .inl (cy 0, 2048, .inl (fun _ => 0))), (q15, .inl (cy 0, 2048, .inl (fun _ => 0))), (q16, .inl (cy 0, 2048, .inl (fun _ => 0))), (q17, .inl (cy 0, 2048, .inl (fun _ => 0))), (q18, .inl (cy 0, 13, .inl (fun _ => 0))), (q19, .inl (cy 0, 12, .inl (fun _ => 0))), (q20, .inl (cy 0, 12, .inl (fun _ => 0))), (q21, .inl (cy 0, 8, .inl (fun _ => 0))), (q22, .inl (cy 0, 8, .inl (fun _ => 0))), (q23, .inl (cy 1, 14, .inr (.inl (fun _ => 0)))), (q24, .inl (cy 1, 14, .inr (.inl (fun _ => 0)))), (q25, .inl (cy 0, 4, .inl (upd (upd (upd (fun _ => 0) 0 (-1)) 1 (-1)) 2 (-1))))] H := hP
  have hD : va_D A [(h0, .inr (9, [.ref q0, .ref q1, .ref q2, .ref q3, .int 0, .ref q4, .ref q5, .ref q6, .int 0, .int 0, .int 0, .int 0, .ref q7, .ref q8, .int 0, .ref q9, .ref q10, .ref q11, .ref q12, .ref q13, .ref q14, .ref q15, .ref q16, .ref q17, .ref q18, .ref q19, .ref q20, .int 0, .int 0, .int 0, .int 0, .int 0, .int 0, .ref q21, .ref q22, .int 0, .int 0, .int 0, .int 0, .int 0, .int 0, .ref q23, .ref q24, .null, .null, .null, .null])), (q0, .inl (cy 0, 48, .inl (fun _ => 0))), (q1, .inl (cy 0, 12, .inl (fun _ => 0))), (q2, .inl (cy 0, 96, .inl (fun _ => 0))), (q3, .inl (cy 0, 12, .inl (fun _ => 0))), (q4, .inl (cy 0, 40, .inl (fun _ => 0))), (q5, .inl (cy 0, 4, .inl (fun _ => 0))), (q6, .inl (cy 0, 8, .inl (fun _ => 0))), (q7, .inl (cy 0, 168, .inl (fun _ => 0))), (q8, .inl (cy 0, 21, .inl (fun _ => 0))), (q9, .inl (cy 0, 4, .inl (upd (upd (upd (upd (fun _ => 0) 0 1) 1 2) 2 2) 3 3))), (q10, .inl (cy 0, 25, .inl (fun _ => 0))), (q11, .inl (cy 0, 2048, .inl (fun _ => 0))), (q12, .inl (cy 0, 2048, .inl (fun _ => 0))), (q13, .inl (cy 0, 2048, .inl (fun _ => 0))), (q14, .inl (cy 0, 2048, .inl (fun _ => 0))), (q15, .inl (cy 0, 2048, .inl (fun _ => 0))), (q16, .inl (cy 0, 2048, .inl (fun _ => 0))), (q17, .inl (cy 0, 2048, .inl (fun _ => 0))), (q18, .inl (cy 0, 13, .inl (fun _ => 0))), (q19, .inl (cy 0, 12, .inl (fun _ => 0))), (q20, .inl (cy 0, 12, .inl (fun _ => 0))), (q21, .inl (cy 0, 8, .inl (fun _ => 0))), (q22, .inl (cy 0, 8, .inl (fun _ => 0))), (q23, .inl (cy 1, 14, .inr (.inl (fun _ => 0)))), (q24, .inl (cy 1, 14, .inr (.inl (fun _ => 0)))), (q25, .inl (cy 0, 4, .inl (upd (upd (upd (fun _ => 0) 0 (-1)) 1 (-1)) 2 (-1))))] := hD
  refine lv_dup hx hb dX10_init_242 rfl ?_
  refine lv_iconst (v := 3) hx hb dX10_init_243 (by decide) ?_
  refine lv_iconst (v := (-1)) hx hb dX10_init_244 (by decide) ?_
  refine va_iast (D := D) hx hb hK hP hD hS 26 0 rfl rfl (show vp_in (nI 3) 4 from vp_in_nI (by decide) (by decide)) dX10_init_245 (fun H _ hP hD hS => ?_)
  have hP : va_P D clsL [(h0, .inr (9, [.ref q0, .ref q1, .ref q2, .ref q3, .int 0, .ref q4, .ref q5, .ref q6, .int 0, .int 0, .int 0, .int 0, .ref q7, .ref q8, .int 0, .ref q9, .ref q10, .ref q11, .ref q12, .ref q13, .ref q14, .ref q15, .ref q16, .ref q17, .ref q18, .ref q19, .ref q20, .int 0, .int 0, .int 0, .int 0, .int 0, .int 0, .ref q21, .ref q22, .int 0, .int 0, .int 0, .int 0, .int 0, .int 0, .ref q23, .ref q24, .null, .null, .null, .null])), (q0, .inl (cy 0, 48, .inl (fun _ => 0))), (q1, .inl (cy 0, 12, .inl (fun _ => 0))), (q2, .inl (cy 0, 96, .inl (fun _ => 0))), (q3, .inl (cy 0, 12, .inl (fun _ => 0))), (q4, .inl (cy 0, 40, .inl (fun _ => 0))), (q5, .inl (cy 0, 4, .inl (fun _ => 0))), (q6, .inl (cy 0, 8, .inl (fun _ => 0))), (q7, .inl (cy 0, 168, .inl (fun _ => 0))), (q8, .inl (cy 0, 21, .inl (fun _ => 0))), (q9, .inl (cy 0, 4, .inl (upd (upd (upd (upd (fun _ => 0) 0 1) 1 2) 2 2) 3 3))), (q10, .inl (cy 0, 25, .inl (fun _ => 0))), (q11, .inl (cy 0, 2048, .inl (fun _ => 0))), (q12, .inl (cy 0, 2048, .inl (fun _ => 0))), (q13, .inl (cy 0, 2048, .inl (fun _ => 0))), (q14, .inl (cy 0, 2048, .inl (fun _ => 0))), (q15, .inl (cy 0, 2048, .inl (fun _ => 0))), (q16, .inl (cy 0, 2048, .inl (fun _ => 0))), (q17, .inl (cy 0, 2048, .inl (fun _ => 0))), (q18, .inl (cy 0, 13, .inl (fun _ => 0))), (q19, .inl (cy 0, 12, .inl (fun _ => 0))), (q20, .inl (cy 0, 12, .inl (fun _ => 0))), (q21, .inl (cy 0, 8, .inl (fun _ => 0))), (q22, .inl (cy 0, 8, .inl (fun _ => 0))), (q23, .inl (cy 1, 14, .inr (.inl (fun _ => 0)))), (q24, .inl (cy 1, 14, .inr (.inl (fun _ => 0)))), (q25, .inl (cy 0, 4, .inl (upd (upd (upd (upd (fun _ => 0) 0 (-1)) 1 (-1)) 2 (-1)) 3 (-1))))] H := hP
  have hD : va_D A [(h0, .inr (9, [.ref q0, .ref q1, .ref q2, .ref q3, .int 0, .ref q4, .ref q5, .ref q6, .int 0, .int 0, .int 0, .int 0, .ref q7, .ref q8, .int 0, .ref q9, .ref q10, .ref q11, .ref q12, .ref q13, .ref q14, .ref q15, .ref q16, .ref q17, .ref q18, .ref q19, .ref q20, .int 0, .int 0, .int 0, .int 0, .int 0, .int 0, .ref q21, .ref q22, .int 0, .int 0, .int 0, .int 0, .int 0, .int 0, .ref q23, .ref q24, .null, .null, .null, .null])), (q0, .inl (cy 0, 48, .inl (fun _ => 0))), (q1, .inl (cy 0, 12, .inl (fun _ => 0))), (q2, .inl (cy 0, 96, .inl (fun _ => 0))), (q3, .inl (cy 0, 12, .inl (fun _ => 0))), (q4, .inl (cy 0, 40, .inl (fun _ => 0))), (q5, .inl (cy 0, 4, .inl (fun _ => 0))), (q6, .inl (cy 0, 8, .inl (fun _ => 0))), (q7, .inl (cy 0, 168, .inl (fun _ => 0))), (q8, .inl (cy 0, 21, .inl (fun _ => 0))), (q9, .inl (cy 0, 4, .inl (upd (upd (upd (upd (fun _ => 0) 0 1) 1 2) 2 2) 3 3))), (q10, .inl (cy 0, 25, .inl (fun _ => 0))), (q11, .inl (cy 0, 2048, .inl (fun _ => 0))), (q12, .inl (cy 0, 2048, .inl (fun _ => 0))), (q13, .inl (cy 0, 2048, .inl (fun _ => 0))), (q14, .inl (cy 0, 2048, .inl (fun _ => 0))), (q15, .inl (cy 0, 2048, .inl (fun _ => 0))), (q16, .inl (cy 0, 2048, .inl (fun _ => 0))), (q17, .inl (cy 0, 2048, .inl (fun _ => 0))), (q18, .inl (cy 0, 13, .inl (fun _ => 0))), (q19, .inl (cy 0, 12, .inl (fun _ => 0))), (q20, .inl (cy 0, 12, .inl (fun _ => 0))), (q21, .inl (cy 0, 8, .inl (fun _ => 0))), (q22, .inl (cy 0, 8, .inl (fun _ => 0))), (q23, .inl (cy 1, 14, .inr (.inl (fun _ => 0)))), (q24, .inl (cy 1, 14, .inr (.inl (fun _ => 0)))), (q25, .inl (cy 0, 4, .inl (upd (upd (upd (upd (fun _ => 0) 0 (-1)) 1 (-1)) 2 (-1)) 3 (-1))))] := hD
  refine va_putF (D := D) (ci := 9) (v := .ref q25) (ty := .array .int) (C := RX10) (T := TX10) (N := 47) hx hb hts (inW inX10 (by decide +kernel)) tyX10 tyX10_ok nmX10 hown hK hP hD hS 0 rfl rfl 43 (by decide) (hts (.fieldLink RX10 88 "AdderChooserModel" "sorts" "[I") (inT_mem (by decide +kernel))) (fun _ h9 => h9) rfl hin rfl (by decide +kernel) rfl rfl (Nat.le_of_ble_eq_true rfl) dX10_init_246 (fun H _ hP hD hS => ?_)
  have hP : va_P D clsL [(h0, .inr (9, [.ref q0, .ref q1, .ref q2, .ref q3, .int 0, .ref q4, .ref q5, .ref q6, .int 0, .int 0, .int 0, .int 0, .ref q7, .ref q8, .int 0, .ref q9, .ref q10, .ref q11, .ref q12, .ref q13, .ref q14, .ref q15, .ref q16, .ref q17, .ref q18, .ref q19, .ref q20, .int 0, .int 0, .int 0, .int 0, .int 0, .int 0, .ref q21, .ref q22, .int 0, .int 0, .int 0, .int 0, .int 0, .int 0, .ref q23, .ref q24, .ref q25, .null, .null, .null])), (q0, .inl (cy 0, 48, .inl (fun _ => 0))), (q1, .inl (cy 0, 12, .inl (fun _ => 0))), (q2, .inl (cy 0, 96, .inl (fun _ => 0))), (q3, .inl (cy 0, 12, .inl (fun _ => 0))), (q4, .inl (cy 0, 40, .inl (fun _ => 0))), (q5, .inl (cy 0, 4, .inl (fun _ => 0))), (q6, .inl (cy 0, 8, .inl (fun _ => 0))), (q7, .inl (cy 0, 168, .inl (fun _ => 0))), (q8, .inl (cy 0, 21, .inl (fun _ => 0))), (q9, .inl (cy 0, 4, .inl (upd (upd (upd (upd (fun _ => 0) 0 1) 1 2) 2 2) 3 3))), (q10, .inl (cy 0, 25, .inl (fun _ => 0))), (q11, .inl (cy 0, 2048, .inl (fun _ => 0))), (q12, .inl (cy 0, 2048, .inl (fun _ => 0))), (q13, .inl (cy 0, 2048, .inl (fun _ => 0))), (q14, .inl (cy 0, 2048, .inl (fun _ => 0))), (q15, .inl (cy 0, 2048, .inl (fun _ => 0))), (q16, .inl (cy 0, 2048, .inl (fun _ => 0))), (q17, .inl (cy 0, 2048, .inl (fun _ => 0))), (q18, .inl (cy 0, 13, .inl (fun _ => 0))), (q19, .inl (cy 0, 12, .inl (fun _ => 0))), (q20, .inl (cy 0, 12, .inl (fun _ => 0))), (q21, .inl (cy 0, 8, .inl (fun _ => 0))), (q22, .inl (cy 0, 8, .inl (fun _ => 0))), (q23, .inl (cy 1, 14, .inr (.inl (fun _ => 0)))), (q24, .inl (cy 1, 14, .inr (.inl (fun _ => 0)))), (q25, .inl (cy 0, 4, .inl (upd (upd (upd (upd (fun _ => 0) 0 (-1)) 1 (-1)) 2 (-1)) 3 (-1))))] H := hP
  have hD : va_D A [(h0, .inr (9, [.ref q0, .ref q1, .ref q2, .ref q3, .int 0, .ref q4, .ref q5, .ref q6, .int 0, .int 0, .int 0, .int 0, .ref q7, .ref q8, .int 0, .ref q9, .ref q10, .ref q11, .ref q12, .ref q13, .ref q14, .ref q15, .ref q16, .ref q17, .ref q18, .ref q19, .ref q20, .int 0, .int 0, .int 0, .int 0, .int 0, .int 0, .ref q21, .ref q22, .int 0, .int 0, .int 0, .int 0, .int 0, .int 0, .ref q23, .ref q24, .ref q25, .null, .null, .null])), (q0, .inl (cy 0, 48, .inl (fun _ => 0))), (q1, .inl (cy 0, 12, .inl (fun _ => 0))), (q2, .inl (cy 0, 96, .inl (fun _ => 0))), (q3, .inl (cy 0, 12, .inl (fun _ => 0))), (q4, .inl (cy 0, 40, .inl (fun _ => 0))), (q5, .inl (cy 0, 4, .inl (fun _ => 0))), (q6, .inl (cy 0, 8, .inl (fun _ => 0))), (q7, .inl (cy 0, 168, .inl (fun _ => 0))), (q8, .inl (cy 0, 21, .inl (fun _ => 0))), (q9, .inl (cy 0, 4, .inl (upd (upd (upd (upd (fun _ => 0) 0 1) 1 2) 2 2) 3 3))), (q10, .inl (cy 0, 25, .inl (fun _ => 0))), (q11, .inl (cy 0, 2048, .inl (fun _ => 0))), (q12, .inl (cy 0, 2048, .inl (fun _ => 0))), (q13, .inl (cy 0, 2048, .inl (fun _ => 0))), (q14, .inl (cy 0, 2048, .inl (fun _ => 0))), (q15, .inl (cy 0, 2048, .inl (fun _ => 0))), (q16, .inl (cy 0, 2048, .inl (fun _ => 0))), (q17, .inl (cy 0, 2048, .inl (fun _ => 0))), (q18, .inl (cy 0, 13, .inl (fun _ => 0))), (q19, .inl (cy 0, 12, .inl (fun _ => 0))), (q20, .inl (cy 0, 12, .inl (fun _ => 0))), (q21, .inl (cy 0, 8, .inl (fun _ => 0))), (q22, .inl (cy 0, 8, .inl (fun _ => 0))), (q23, .inl (cy 1, 14, .inr (.inl (fun _ => 0)))), (q24, .inl (cy 1, 14, .inr (.inl (fun _ => 0)))), (q25, .inl (cy 0, 4, .inl (upd (upd (upd (upd (fun _ => 0) 0 (-1)) 1 (-1)) 2 (-1)) 3 (-1))))] := hD
  refine lv_aload_n hx hb dX10_init_249 rfl (lv_at hl 0 rfl) ?_
  refine lv_iconst (v := 4) hx hb dX10_init_250 (by decide) ?_
  refine nwA (atype := .int) (t0 := 0) (N' := 4) (a0 := (4, .inl (fun _ => 0))) hx hb (hts (.arrayClass .int) (inT_mem (by decide +kernel))) rfl hK rfl hP hD hS hA (fun _ => rfl) (by decide) (by decide) (Nat.le_of_ble_eq_true rfl) (Nat.le_of_ble_eq_true rfl) (Nat.le_of_ble_eq_true rfl) dX10_init_251 (fun q26 H hP hD hS => ?_)
  have hP : va_P D clsL [(h0, .inr (9, [.ref q0, .ref q1, .ref q2, .ref q3, .int 0, .ref q4, .ref q5, .ref q6, .int 0, .int 0, .int 0, .int 0, .ref q7, .ref q8, .int 0, .ref q9, .ref q10, .ref q11, .ref q12, .ref q13, .ref q14, .ref q15, .ref q16, .ref q17, .ref q18, .ref q19, .ref q20, .int 0, .int 0, .int 0, .int 0, .int 0, .int 0, .ref q21, .ref q22, .int 0, .int 0, .int 0, .int 0, .int 0, .int 0, .ref q23, .ref q24, .ref q25, .null, .null, .null])), (q0, .inl (cy 0, 48, .inl (fun _ => 0))), (q1, .inl (cy 0, 12, .inl (fun _ => 0))), (q2, .inl (cy 0, 96, .inl (fun _ => 0))), (q3, .inl (cy 0, 12, .inl (fun _ => 0))), (q4, .inl (cy 0, 40, .inl (fun _ => 0))), (q5, .inl (cy 0, 4, .inl (fun _ => 0))), (q6, .inl (cy 0, 8, .inl (fun _ => 0))), (q7, .inl (cy 0, 168, .inl (fun _ => 0))), (q8, .inl (cy 0, 21, .inl (fun _ => 0))), (q9, .inl (cy 0, 4, .inl (upd (upd (upd (upd (fun _ => 0) 0 1) 1 2) 2 2) 3 3))), (q10, .inl (cy 0, 25, .inl (fun _ => 0))), (q11, .inl (cy 0, 2048, .inl (fun _ => 0))), (q12, .inl (cy 0, 2048, .inl (fun _ => 0))), (q13, .inl (cy 0, 2048, .inl (fun _ => 0))), (q14, .inl (cy 0, 2048, .inl (fun _ => 0))), (q15, .inl (cy 0, 2048, .inl (fun _ => 0))), (q16, .inl (cy 0, 2048, .inl (fun _ => 0))), (q17, .inl (cy 0, 2048, .inl (fun _ => 0))), (q18, .inl (cy 0, 13, .inl (fun _ => 0))), (q19, .inl (cy 0, 12, .inl (fun _ => 0))), (q20, .inl (cy 0, 12, .inl (fun _ => 0))), (q21, .inl (cy 0, 8, .inl (fun _ => 0))), (q22, .inl (cy 0, 8, .inl (fun _ => 0))), (q23, .inl (cy 1, 14, .inr (.inl (fun _ => 0)))), (q24, .inl (cy 1, 14, .inr (.inl (fun _ => 0)))), (q25, .inl (cy 0, 4, .inl (upd (upd (upd (upd (fun _ => 0) 0 (-1)) 1 (-1)) 2 (-1)) 3 (-1)))), (q26, .inl (cy 0, 4, .inl (fun _ => 0)))] H := hP
  have hD : va_D A [(h0, .inr (9, [.ref q0, .ref q1, .ref q2, .ref q3, .int 0, .ref q4, .ref q5, .ref q6, .int 0, .int 0, .int 0, .int 0, .ref q7, .ref q8, .int 0, .ref q9, .ref q10, .ref q11, .ref q12, .ref q13, .ref q14, .ref q15, .ref q16, .ref q17, .ref q18, .ref q19, .ref q20, .int 0, .int 0, .int 0, .int 0, .int 0, .int 0, .ref q21, .ref q22, .int 0, .int 0, .int 0, .int 0, .int 0, .int 0, .ref q23, .ref q24, .ref q25, .null, .null, .null])), (q0, .inl (cy 0, 48, .inl (fun _ => 0))), (q1, .inl (cy 0, 12, .inl (fun _ => 0))), (q2, .inl (cy 0, 96, .inl (fun _ => 0))), (q3, .inl (cy 0, 12, .inl (fun _ => 0))), (q4, .inl (cy 0, 40, .inl (fun _ => 0))), (q5, .inl (cy 0, 4, .inl (fun _ => 0))), (q6, .inl (cy 0, 8, .inl (fun _ => 0))), (q7, .inl (cy 0, 168, .inl (fun _ => 0))), (q8, .inl (cy 0, 21, .inl (fun _ => 0))), (q9, .inl (cy 0, 4, .inl (upd (upd (upd (upd (fun _ => 0) 0 1) 1 2) 2 2) 3 3))), (q10, .inl (cy 0, 25, .inl (fun _ => 0))), (q11, .inl (cy 0, 2048, .inl (fun _ => 0))), (q12, .inl (cy 0, 2048, .inl (fun _ => 0))), (q13, .inl (cy 0, 2048, .inl (fun _ => 0))), (q14, .inl (cy 0, 2048, .inl (fun _ => 0))), (q15, .inl (cy 0, 2048, .inl (fun _ => 0))), (q16, .inl (cy 0, 2048, .inl (fun _ => 0))), (q17, .inl (cy 0, 2048, .inl (fun _ => 0))), (q18, .inl (cy 0, 13, .inl (fun _ => 0))), (q19, .inl (cy 0, 12, .inl (fun _ => 0))), (q20, .inl (cy 0, 12, .inl (fun _ => 0))), (q21, .inl (cy 0, 8, .inl (fun _ => 0))), (q22, .inl (cy 0, 8, .inl (fun _ => 0))), (q23, .inl (cy 1, 14, .inr (.inl (fun _ => 0)))), (q24, .inl (cy 1, 14, .inr (.inl (fun _ => 0)))), (q25, .inl (cy 0, 4, .inl (upd (upd (upd (upd (fun _ => 0) 0 (-1)) 1 (-1)) 2 (-1)) 3 (-1)))), (q26, .inl (cy 0, 4, .inl (fun _ => 0)))] := hD
  refine W.widen (k := 27) (n := 14863) (Nat.le_of_ble_eq_true rfl) (Nat.le_of_ble_eq_true rfl) ?_
  refine va_putF (D := D) (ci := 9) (v := .ref q26) (ty := .array .int) (C := RX10) (T := TX10) (N := 47) hx hb hts (inW inX10 (by decide +kernel)) tyX10 tyX10_ok nmX10 hown hK hP hD hS 0 rfl rfl 44 (by decide) (hts (.fieldLink RX10 91 "AdderChooserModel" "sizes" "[I") (inT_mem (by decide +kernel))) (fun _ h9 => h9) rfl hin rfl (by decide +kernel) rfl rfl (Nat.le_of_ble_eq_true rfl) dX10_init_253 (fun H _ hP hD hS => ?_)
  have hP : va_P D clsL [(h0, .inr (9, [.ref q0, .ref q1, .ref q2, .ref q3, .int 0, .ref q4, .ref q5, .ref q6, .int 0, .int 0, .int 0, .int 0, .ref q7, .ref q8, .int 0, .ref q9, .ref q10, .ref q11, .ref q12, .ref q13, .ref q14, .ref q15, .ref q16, .ref q17, .ref q18, .ref q19, .ref q20, .int 0, .int 0, .int 0, .int 0, .int 0, .int 0, .ref q21, .ref q22, .int 0, .int 0, .int 0, .int 0, .int 0, .int 0, .ref q23, .ref q24, .ref q25, .ref q26, .null, .null])), (q0, .inl (cy 0, 48, .inl (fun _ => 0))), (q1, .inl (cy 0, 12, .inl (fun _ => 0))), (q2, .inl (cy 0, 96, .inl (fun _ => 0))), (q3, .inl (cy 0, 12, .inl (fun _ => 0))), (q4, .inl (cy 0, 40, .inl (fun _ => 0))), (q5, .inl (cy 0, 4, .inl (fun _ => 0))), (q6, .inl (cy 0, 8, .inl (fun _ => 0))), (q7, .inl (cy 0, 168, .inl (fun _ => 0))), (q8, .inl (cy 0, 21, .inl (fun _ => 0))), (q9, .inl (cy 0, 4, .inl (upd (upd (upd (upd (fun _ => 0) 0 1) 1 2) 2 2) 3 3))), (q10, .inl (cy 0, 25, .inl (fun _ => 0))), (q11, .inl (cy 0, 2048, .inl (fun _ => 0))), (q12, .inl (cy 0, 2048, .inl (fun _ => 0))), (q13, .inl (cy 0, 2048, .inl (fun _ => 0))), (q14, .inl (cy 0, 2048, .inl (fun _ => 0))), (q15, .inl (cy 0, 2048, .inl (fun _ => 0))), (q16, .inl (cy 0, 2048, .inl (fun _ => 0))), (q17, .inl (cy 0, 2048, .inl (fun _ => 0))), (q18, .inl (cy 0, 13, .inl (fun _ => 0))), (q19, .inl (cy 0, 12, .inl (fun _ => 0))), (q20, .inl (cy 0, 12, .inl (fun _ => 0))), (q21, .inl (cy 0, 8, .inl (fun _ => 0))), (q22, .inl (cy 0, 8, .inl (fun _ => 0))), (q23, .inl (cy 1, 14, .inr (.inl (fun _ => 0)))), (q24, .inl (cy 1, 14, .inr (.inl (fun _ => 0)))), (q25, .inl (cy 0, 4, .inl (upd (upd (upd (upd (fun _ => 0) 0 (-1)) 1 (-1)) 2 (-1)) 3 (-1)))), (q26, .inl (cy 0, 4, .inl (fun _ => 0)))] H := hP
  have hD : va_D A [(h0, .inr (9, [.ref q0, .ref q1, .ref q2, .ref q3, .int 0, .ref q4, .ref q5, .ref q6, .int 0, .int 0, .int 0, .int 0, .ref q7, .ref q8, .int 0, .ref q9, .ref q10, .ref q11, .ref q12, .ref q13, .ref q14, .ref q15, .ref q16, .ref q17, .ref q18, .ref q19, .ref q20, .int 0, .int 0, .int 0, .int 0, .int 0, .int 0, .ref q21, .ref q22, .int 0, .int 0, .int 0, .int 0, .int 0, .int 0, .ref q23, .ref q24, .ref q25, .ref q26, .null, .null])), (q0, .inl (cy 0, 48, .inl (fun _ => 0))), (q1, .inl (cy 0, 12, .inl (fun _ => 0))), (q2, .inl (cy 0, 96, .inl (fun _ => 0))), (q3, .inl (cy 0, 12, .inl (fun _ => 0))), (q4, .inl (cy 0, 40, .inl (fun _ => 0))), (q5, .inl (cy 0, 4, .inl (fun _ => 0))), (q6, .inl (cy 0, 8, .inl (fun _ => 0))), (q7, .inl (cy 0, 168, .inl (fun _ => 0))), (q8, .inl (cy 0, 21, .inl (fun _ => 0))), (q9, .inl (cy 0, 4, .inl (upd (upd (upd (upd (fun _ => 0) 0 1) 1 2) 2 2) 3 3))), (q10, .inl (cy 0, 25, .inl (fun _ => 0))), (q11, .inl (cy 0, 2048, .inl (fun _ => 0))), (q12, .inl (cy 0, 2048, .inl (fun _ => 0))), (q13, .inl (cy 0, 2048, .inl (fun _ => 0))), (q14, .inl (cy 0, 2048, .inl (fun _ => 0))), (q15, .inl (cy 0, 2048, .inl (fun _ => 0))), (q16, .inl (cy 0, 2048, .inl (fun _ => 0))), (q17, .inl (cy 0, 2048, .inl (fun _ => 0))), (q18, .inl (cy 0, 13, .inl (fun _ => 0))), (q19, .inl (cy 0, 12, .inl (fun _ => 0))), (q20, .inl (cy 0, 12, .inl (fun _ => 0))), (q21, .inl (cy 0, 8, .inl (fun _ => 0))), (q22, .inl (cy 0, 8, .inl (fun _ => 0))), (q23, .inl (cy 1, 14, .inr (.inl (fun _ => 0)))), (q24, .inl (cy 1, 14, .inr (.inl (fun _ => 0)))), (q25, .inl (cy 0, 4, .inl (upd (upd (upd (upd (fun _ => 0) 0 (-1)) 1 (-1)) 2 (-1)) 3 (-1)))), (q26, .inl (cy 0, 4, .inl (fun _ => 0)))] := hD
  refine lv_aload_n hx hb dX10_init_256 rfl (lv_at hl 0 rfl) ?_
  refine lv_bipush (v := 32) hx hb dX10_init_257 (by decide) ?_
  refine nwA (atype := .int) (t0 := 0) (N' := 32) (a0 := (32, .inl (fun _ => 0))) hx hb (hts (.arrayClass .int) (inT_mem (by decide +kernel))) rfl hK rfl hP hD hS hA (fun _ => rfl) (by decide) (by decide) (Nat.le_of_ble_eq_true rfl) (Nat.le_of_ble_eq_true rfl) (Nat.le_of_ble_eq_true rfl) dX10_init_259 (fun q27 H hP hD hS => ?_)
  have hP : va_P D clsL [(h0, .inr (9, [.ref q0, .ref q1, .ref q2, .ref q3, .int 0, .ref q4, .ref q5, .ref q6, .int 0, .int 0, .int 0, .int 0, .ref q7, .ref q8, .int 0, .ref q9, .ref q10, .ref q11, .ref q12, .ref q13, .ref q14, .ref q15, .ref q16, .ref q17, .ref q18, .ref q19, .ref q20, .int 0, .int 0, .int 0, .int 0, .int 0, .int 0, .ref q21, .ref q22, .int 0, .int 0, .int 0, .int 0, .int 0, .int 0, .ref q23, .ref q24, .ref q25, .ref q26, .null, .null])), (q0, .inl (cy 0, 48, .inl (fun _ => 0))), (q1, .inl (cy 0, 12, .inl (fun _ => 0))), (q2, .inl (cy 0, 96, .inl (fun _ => 0))), (q3, .inl (cy 0, 12, .inl (fun _ => 0))), (q4, .inl (cy 0, 40, .inl (fun _ => 0))), (q5, .inl (cy 0, 4, .inl (fun _ => 0))), (q6, .inl (cy 0, 8, .inl (fun _ => 0))), (q7, .inl (cy 0, 168, .inl (fun _ => 0))), (q8, .inl (cy 0, 21, .inl (fun _ => 0))), (q9, .inl (cy 0, 4, .inl (upd (upd (upd (upd (fun _ => 0) 0 1) 1 2) 2 2) 3 3))), (q10, .inl (cy 0, 25, .inl (fun _ => 0))), (q11, .inl (cy 0, 2048, .inl (fun _ => 0))), (q12, .inl (cy 0, 2048, .inl (fun _ => 0))), (q13, .inl (cy 0, 2048, .inl (fun _ => 0))), (q14, .inl (cy 0, 2048, .inl (fun _ => 0))), (q15, .inl (cy 0, 2048, .inl (fun _ => 0))), (q16, .inl (cy 0, 2048, .inl (fun _ => 0))), (q17, .inl (cy 0, 2048, .inl (fun _ => 0))), (q18, .inl (cy 0, 13, .inl (fun _ => 0))), (q19, .inl (cy 0, 12, .inl (fun _ => 0))), (q20, .inl (cy 0, 12, .inl (fun _ => 0))), (q21, .inl (cy 0, 8, .inl (fun _ => 0))), (q22, .inl (cy 0, 8, .inl (fun _ => 0))), (q23, .inl (cy 1, 14, .inr (.inl (fun _ => 0)))), (q24, .inl (cy 1, 14, .inr (.inl (fun _ => 0)))), (q25, .inl (cy 0, 4, .inl (upd (upd (upd (upd (fun _ => 0) 0 (-1)) 1 (-1)) 2 (-1)) 3 (-1)))), (q26, .inl (cy 0, 4, .inl (fun _ => 0))), (q27, .inl (cy 0, 32, .inl (fun _ => 0)))] H := hP
  have hD : va_D A [(h0, .inr (9, [.ref q0, .ref q1, .ref q2, .ref q3, .int 0, .ref q4, .ref q5, .ref q6, .int 0, .int 0, .int 0, .int 0, .ref q7, .ref q8, .int 0, .ref q9, .ref q10, .ref q11, .ref q12, .ref q13, .ref q14, .ref q15, .ref q16, .ref q17, .ref q18, .ref q19, .ref q20, .int 0, .int 0, .int 0, .int 0, .int 0, .int 0, .ref q21, .ref q22, .int 0, .int 0, .int 0, .int 0, .int 0, .int 0, .ref q23, .ref q24, .ref q25, .ref q26, .null, .null])), (q0, .inl (cy 0, 48, .inl (fun _ => 0))), (q1, .inl (cy 0, 12, .inl (fun _ => 0))), (q2, .inl (cy 0, 96, .inl (fun _ => 0))), (q3, .inl (cy 0, 12, .inl (fun _ => 0))), (q4, .inl (cy 0, 40, .inl (fun _ => 0))), (q5, .inl (cy 0, 4, .inl (fun _ => 0))), (q6, .inl (cy 0, 8, .inl (fun _ => 0))), (q7, .inl (cy 0, 168, .inl (fun _ => 0))), (q8, .inl (cy 0, 21, .inl (fun _ => 0))), (q9, .inl (cy 0, 4, .inl (upd (upd (upd (upd (fun _ => 0) 0 1) 1 2) 2 2) 3 3))), (q10, .inl (cy 0, 25, .inl (fun _ => 0))), (q11, .inl (cy 0, 2048, .inl (fun _ => 0))), (q12, .inl (cy 0, 2048, .inl (fun _ => 0))), (q13, .inl (cy 0, 2048, .inl (fun _ => 0))), (q14, .inl (cy 0, 2048, .inl (fun _ => 0))), (q15, .inl (cy 0, 2048, .inl (fun _ => 0))), (q16, .inl (cy 0, 2048, .inl (fun _ => 0))), (q17, .inl (cy 0, 2048, .inl (fun _ => 0))), (q18, .inl (cy 0, 13, .inl (fun _ => 0))), (q19, .inl (cy 0, 12, .inl (fun _ => 0))), (q20, .inl (cy 0, 12, .inl (fun _ => 0))), (q21, .inl (cy 0, 8, .inl (fun _ => 0))), (q22, .inl (cy 0, 8, .inl (fun _ => 0))), (q23, .inl (cy 1, 14, .inr (.inl (fun _ => 0)))), (q24, .inl (cy 1, 14, .inr (.inl (fun _ => 0)))), (q25, .inl (cy 0, 4, .inl (upd (upd (upd (upd (fun _ => 0) 0 (-1)) 1 (-1)) 2 (-1)) 3 (-1)))), (q26, .inl (cy 0, 4, .inl (fun _ => 0))), (q27, .inl (cy 0, 32, .inl (fun _ => 0)))] := hD
  refine W.widen (k := 28) (n := 14895) (Nat.le_of_ble_eq_true rfl) (Nat.le_of_ble_eq_true rfl) ?_
  refine va_putF (D := D) (ci := 9) (v := .ref q27) (ty := .array .int) (C := RX10) (T := TX10) (N := 47) hx hb hts (inW inX10 (by decide +kernel)) tyX10 tyX10_ok nmX10 hown hK hP hD hS 0 rfl rfl 45 (by decide) (hts (.fieldLink RX10 94 "AdderChooserModel" "shelved" "[I") (inT_mem (by decide +kernel))) (fun _ h9 => h9) rfl hin rfl (by decide +kernel) rfl rfl (Nat.le_of_ble_eq_true rfl) dX10_init_261 (fun H _ hP hD hS => ?_)
  have hP : va_P D clsL [(h0, .inr (9, [.ref q0, .ref q1, .ref q2, .ref q3, .int 0, .ref q4, .ref q5, .ref q6, .int 0, .int 0, .int 0, .int 0, .ref q7, .ref q8, .int 0, .ref q9, .ref q10, .ref q11, .ref q12, .ref q13, .ref q14, .ref q15, .ref q16, .ref q17, .ref q18, .ref q19, .ref q20, .int 0, .int 0, .int 0, .int 0, .int 0, .int 0, .ref q21, .ref q22, .int 0, .int 0, .int 0, .int 0, .int 0, .int 0, .ref q23, .ref q24, .ref q25, .ref q26, .ref q27, .null])), (q0, .inl (cy 0, 48, .inl (fun _ => 0))), (q1, .inl (cy 0, 12, .inl (fun _ => 0))), (q2, .inl (cy 0, 96, .inl (fun _ => 0))), (q3, .inl (cy 0, 12, .inl (fun _ => 0))), (q4, .inl (cy 0, 40, .inl (fun _ => 0))), (q5, .inl (cy 0, 4, .inl (fun _ => 0))), (q6, .inl (cy 0, 8, .inl (fun _ => 0))), (q7, .inl (cy 0, 168, .inl (fun _ => 0))), (q8, .inl (cy 0, 21, .inl (fun _ => 0))), (q9, .inl (cy 0, 4, .inl (upd (upd (upd (upd (fun _ => 0) 0 1) 1 2) 2 2) 3 3))), (q10, .inl (cy 0, 25, .inl (fun _ => 0))), (q11, .inl (cy 0, 2048, .inl (fun _ => 0))), (q12, .inl (cy 0, 2048, .inl (fun _ => 0))), (q13, .inl (cy 0, 2048, .inl (fun _ => 0))), (q14, .inl (cy 0, 2048, .inl (fun _ => 0))), (q15, .inl (cy 0, 2048, .inl (fun _ => 0))), (q16, .inl (cy 0, 2048, .inl (fun _ => 0))), (q17, .inl (cy 0, 2048, .inl (fun _ => 0))), (q18, .inl (cy 0, 13, .inl (fun _ => 0))), (q19, .inl (cy 0, 12, .inl (fun _ => 0))), (q20, .inl (cy 0, 12, .inl (fun _ => 0))), (q21, .inl (cy 0, 8, .inl (fun _ => 0))), (q22, .inl (cy 0, 8, .inl (fun _ => 0))), (q23, .inl (cy 1, 14, .inr (.inl (fun _ => 0)))), (q24, .inl (cy 1, 14, .inr (.inl (fun _ => 0)))), (q25, .inl (cy 0, 4, .inl (upd (upd (upd (upd (fun _ => 0) 0 (-1)) 1 (-1)) 2 (-1)) 3 (-1)))), (q26, .inl (cy 0, 4, .inl (fun _ => 0))), (q27, .inl (cy 0, 32, .inl (fun _ => 0)))] H := hP
  have hD : va_D A [(h0, .inr (9, [.ref q0, .ref q1, .ref q2, .ref q3, .int 0, .ref q4, .ref q5, .ref q6, .int 0, .int 0, .int 0, .int 0, .ref q7, .ref q8, .int 0, .ref q9, .ref q10, .ref q11, .ref q12, .ref q13, .ref q14, .ref q15, .ref q16, .ref q17, .ref q18, .ref q19, .ref q20, .int 0, .int 0, .int 0, .int 0, .int 0, .int 0, .ref q21, .ref q22, .int 0, .int 0, .int 0, .int 0, .int 0, .int 0, .ref q23, .ref q24, .ref q25, .ref q26, .ref q27, .null])), (q0, .inl (cy 0, 48, .inl (fun _ => 0))), (q1, .inl (cy 0, 12, .inl (fun _ => 0))), (q2, .inl (cy 0, 96, .inl (fun _ => 0))), (q3, .inl (cy 0, 12, .inl (fun _ => 0))), (q4, .inl (cy 0, 40, .inl (fun _ => 0))), (q5, .inl (cy 0, 4, .inl (fun _ => 0))), (q6, .inl (cy 0, 8, .inl (fun _ => 0))), (q7, .inl (cy 0, 168, .inl (fun _ => 0))), (q8, .inl (cy 0, 21, .inl (fun _ => 0))), (q9, .inl (cy 0, 4, .inl (upd (upd (upd (upd (fun _ => 0) 0 1) 1 2) 2 2) 3 3))), (q10, .inl (cy 0, 25, .inl (fun _ => 0))), (q11, .inl (cy 0, 2048, .inl (fun _ => 0))), (q12, .inl (cy 0, 2048, .inl (fun _ => 0))), (q13, .inl (cy 0, 2048, .inl (fun _ => 0))), (q14, .inl (cy 0, 2048, .inl (fun _ => 0))), (q15, .inl (cy 0, 2048, .inl (fun _ => 0))), (q16, .inl (cy 0, 2048, .inl (fun _ => 0))), (q17, .inl (cy 0, 2048, .inl (fun _ => 0))), (q18, .inl (cy 0, 13, .inl (fun _ => 0))), (q19, .inl (cy 0, 12, .inl (fun _ => 0))), (q20, .inl (cy 0, 12, .inl (fun _ => 0))), (q21, .inl (cy 0, 8, .inl (fun _ => 0))), (q22, .inl (cy 0, 8, .inl (fun _ => 0))), (q23, .inl (cy 1, 14, .inr (.inl (fun _ => 0)))), (q24, .inl (cy 1, 14, .inr (.inl (fun _ => 0)))), (q25, .inl (cy 0, 4, .inl (upd (upd (upd (upd (fun _ => 0) 0 (-1)) 1 (-1)) 2 (-1)) 3 (-1)))), (q26, .inl (cy 0, 4, .inl (fun _ => 0))), (q27, .inl (cy 0, 32, .inl (fun _ => 0)))] := hD
  refine lv_aload_n hx hb dX10_init_264 rfl (lv_at hl 0 rfl) ?_
  refine lv_bipush (v := 80) hx hb dX10_init_265 (by decide) ?_
  refine nwA (atype := .long) (t0 := 1) (N' := 80) (a0 := (80, .inr (.inl (fun _ => 0)))) hx hb (hts (.arrayClass .long) (inT_mem (by decide +kernel))) rfl hK rfl hP hD hS hA (fun _ => rfl) (by decide) (by decide) (Nat.le_of_ble_eq_true rfl) (Nat.le_of_ble_eq_true rfl) (Nat.le_of_ble_eq_true rfl) dX10_init_267 (fun q28 H hP hD hS => ?_)
  have hP : va_P D clsL [(h0, .inr (9, [.ref q0, .ref q1, .ref q2, .ref q3, .int 0, .ref q4, .ref q5, .ref q6, .int 0, .int 0, .int 0, .int 0, .ref q7, .ref q8, .int 0, .ref q9, .ref q10, .ref q11, .ref q12, .ref q13, .ref q14, .ref q15, .ref q16, .ref q17, .ref q18, .ref q19, .ref q20, .int 0, .int 0, .int 0, .int 0, .int 0, .int 0, .ref q21, .ref q22, .int 0, .int 0, .int 0, .int 0, .int 0, .int 0, .ref q23, .ref q24, .ref q25, .ref q26, .ref q27, .null])), (q0, .inl (cy 0, 48, .inl (fun _ => 0))), (q1, .inl (cy 0, 12, .inl (fun _ => 0))), (q2, .inl (cy 0, 96, .inl (fun _ => 0))), (q3, .inl (cy 0, 12, .inl (fun _ => 0))), (q4, .inl (cy 0, 40, .inl (fun _ => 0))), (q5, .inl (cy 0, 4, .inl (fun _ => 0))), (q6, .inl (cy 0, 8, .inl (fun _ => 0))), (q7, .inl (cy 0, 168, .inl (fun _ => 0))), (q8, .inl (cy 0, 21, .inl (fun _ => 0))), (q9, .inl (cy 0, 4, .inl (upd (upd (upd (upd (fun _ => 0) 0 1) 1 2) 2 2) 3 3))), (q10, .inl (cy 0, 25, .inl (fun _ => 0))), (q11, .inl (cy 0, 2048, .inl (fun _ => 0))), (q12, .inl (cy 0, 2048, .inl (fun _ => 0))), (q13, .inl (cy 0, 2048, .inl (fun _ => 0))), (q14, .inl (cy 0, 2048, .inl (fun _ => 0))), (q15, .inl (cy 0, 2048, .inl (fun _ => 0))), (q16, .inl (cy 0, 2048, .inl (fun _ => 0))), (q17, .inl (cy 0, 2048, .inl (fun _ => 0))), (q18, .inl (cy 0, 13, .inl (fun _ => 0))), (q19, .inl (cy 0, 12, .inl (fun _ => 0))), (q20, .inl (cy 0, 12, .inl (fun _ => 0))), (q21, .inl (cy 0, 8, .inl (fun _ => 0))), (q22, .inl (cy 0, 8, .inl (fun _ => 0))), (q23, .inl (cy 1, 14, .inr (.inl (fun _ => 0)))), (q24, .inl (cy 1, 14, .inr (.inl (fun _ => 0)))), (q25, .inl (cy 0, 4, .inl (upd (upd (upd (upd (fun _ => 0) 0 (-1)) 1 (-1)) 2 (-1)) 3 (-1)))), (q26, .inl (cy 0, 4, .inl (fun _ => 0))), (q27, .inl (cy 0, 32, .inl (fun _ => 0))), (q28, .inl (cy 1, 80, .inr (.inl (fun _ => 0))))] H := hP
  have hD : va_D A [(h0, .inr (9, [.ref q0, .ref q1, .ref q2, .ref q3, .int 0, .ref q4, .ref q5, .ref q6, .int 0, .int 0, .int 0, .int 0, .ref q7, .ref q8, .int 0, .ref q9, .ref q10, .ref q11, .ref q12, .ref q13, .ref q14, .ref q15, .ref q16, .ref q17, .ref q18, .ref q19, .ref q20, .int 0, .int 0, .int 0, .int 0, .int 0, .int 0, .ref q21, .ref q22, .int 0, .int 0, .int 0, .int 0, .int 0, .int 0, .ref q23, .ref q24, .ref q25, .ref q26, .ref q27, .null])), (q0, .inl (cy 0, 48, .inl (fun _ => 0))), (q1, .inl (cy 0, 12, .inl (fun _ => 0))), (q2, .inl (cy 0, 96, .inl (fun _ => 0))), (q3, .inl (cy 0, 12, .inl (fun _ => 0))), (q4, .inl (cy 0, 40, .inl (fun _ => 0))), (q5, .inl (cy 0, 4, .inl (fun _ => 0))), (q6, .inl (cy 0, 8, .inl (fun _ => 0))), (q7, .inl (cy 0, 168, .inl (fun _ => 0))), (q8, .inl (cy 0, 21, .inl (fun _ => 0))), (q9, .inl (cy 0, 4, .inl (upd (upd (upd (upd (fun _ => 0) 0 1) 1 2) 2 2) 3 3))), (q10, .inl (cy 0, 25, .inl (fun _ => 0))), (q11, .inl (cy 0, 2048, .inl (fun _ => 0))), (q12, .inl (cy 0, 2048, .inl (fun _ => 0))), (q13, .inl (cy 0, 2048, .inl (fun _ => 0))), (q14, .inl (cy 0, 2048, .inl (fun _ => 0))), (q15, .inl (cy 0, 2048, .inl (fun _ => 0))), (q16, .inl (cy 0, 2048, .inl (fun _ => 0))), (q17, .inl (cy 0, 2048, .inl (fun _ => 0))), (q18, .inl (cy 0, 13, .inl (fun _ => 0))), (q19, .inl (cy 0, 12, .inl (fun _ => 0))), (q20, .inl (cy 0, 12, .inl (fun _ => 0))), (q21, .inl (cy 0, 8, .inl (fun _ => 0))), (q22, .inl (cy 0, 8, .inl (fun _ => 0))), (q23, .inl (cy 1, 14, .inr (.inl (fun _ => 0)))), (q24, .inl (cy 1, 14, .inr (.inl (fun _ => 0)))), (q25, .inl (cy 0, 4, .inl (upd (upd (upd (upd (fun _ => 0) 0 (-1)) 1 (-1)) 2 (-1)) 3 (-1)))), (q26, .inl (cy 0, 4, .inl (fun _ => 0))), (q27, .inl (cy 0, 32, .inl (fun _ => 0))), (q28, .inl (cy 1, 80, .inr (.inl (fun _ => 0))))] := hD
  refine W.widen (k := 29) (n := 14975) (Nat.le_of_ble_eq_true rfl) (Nat.le_of_ble_eq_true rfl) ?_
  refine va_putF (D := D) (ci := 9) (v := .ref q28) (ty := .array .long) (C := RX10) (T := TX10) (N := 47) hx hb hts (inW inX10 (by decide +kernel)) tyX10 tyX10_ok nmX10 hown hK hP hD hS 0 rfl rfl 46 (by decide) (hts (.fieldLink RX10 97 "AdderChooserModel" "items" "[J") (inT_mem (by decide +kernel))) (fun _ h9 => h9) rfl hin rfl (by decide +kernel) rfl rfl (Nat.le_of_ble_eq_true rfl) dX10_init_269 (fun H _ hP hD hS => ?_)
  have hP : va_P D clsL [(h0, .inr (9, [.ref q0, .ref q1, .ref q2, .ref q3, .int 0, .ref q4, .ref q5, .ref q6, .int 0, .int 0, .int 0, .int 0, .ref q7, .ref q8, .int 0, .ref q9, .ref q10, .ref q11, .ref q12, .ref q13, .ref q14, .ref q15, .ref q16, .ref q17, .ref q18, .ref q19, .ref q20, .int 0, .int 0, .int 0, .int 0, .int 0, .int 0, .ref q21, .ref q22, .int 0, .int 0, .int 0, .int 0, .int 0, .int 0, .ref q23, .ref q24, .ref q25, .ref q26, .ref q27, .ref q28])), (q0, .inl (cy 0, 48, .inl (fun _ => 0))), (q1, .inl (cy 0, 12, .inl (fun _ => 0))), (q2, .inl (cy 0, 96, .inl (fun _ => 0))), (q3, .inl (cy 0, 12, .inl (fun _ => 0))), (q4, .inl (cy 0, 40, .inl (fun _ => 0))), (q5, .inl (cy 0, 4, .inl (fun _ => 0))), (q6, .inl (cy 0, 8, .inl (fun _ => 0))), (q7, .inl (cy 0, 168, .inl (fun _ => 0))), (q8, .inl (cy 0, 21, .inl (fun _ => 0))), (q9, .inl (cy 0, 4, .inl (upd (upd (upd (upd (fun _ => 0) 0 1) 1 2) 2 2) 3 3))), (q10, .inl (cy 0, 25, .inl (fun _ => 0))), (q11, .inl (cy 0, 2048, .inl (fun _ => 0))), (q12, .inl (cy 0, 2048, .inl (fun _ => 0))), (q13, .inl (cy 0, 2048, .inl (fun _ => 0))), (q14, .inl (cy 0, 2048, .inl (fun _ => 0))), (q15, .inl (cy 0, 2048, .inl (fun _ => 0))), (q16, .inl (cy 0, 2048, .inl (fun _ => 0))), (q17, .inl (cy 0, 2048, .inl (fun _ => 0))), (q18, .inl (cy 0, 13, .inl (fun _ => 0))), (q19, .inl (cy 0, 12, .inl (fun _ => 0))), (q20, .inl (cy 0, 12, .inl (fun _ => 0))), (q21, .inl (cy 0, 8, .inl (fun _ => 0))), (q22, .inl (cy 0, 8, .inl (fun _ => 0))), (q23, .inl (cy 1, 14, .inr (.inl (fun _ => 0)))), (q24, .inl (cy 1, 14, .inr (.inl (fun _ => 0)))), (q25, .inl (cy 0, 4, .inl (upd (upd (upd (upd (fun _ => 0) 0 (-1)) 1 (-1)) 2 (-1)) 3 (-1)))), (q26, .inl (cy 0, 4, .inl (fun _ => 0))), (q27, .inl (cy 0, 32, .inl (fun _ => 0))), (q28, .inl (cy 1, 80, .inr (.inl (fun _ => 0))))] H := hP
  have hD : va_D A [(h0, .inr (9, [.ref q0, .ref q1, .ref q2, .ref q3, .int 0, .ref q4, .ref q5, .ref q6, .int 0, .int 0, .int 0, .int 0, .ref q7, .ref q8, .int 0, .ref q9, .ref q10, .ref q11, .ref q12, .ref q13, .ref q14, .ref q15, .ref q16, .ref q17, .ref q18, .ref q19, .ref q20, .int 0, .int 0, .int 0, .int 0, .int 0, .int 0, .ref q21, .ref q22, .int 0, .int 0, .int 0, .int 0, .int 0, .int 0, .ref q23, .ref q24, .ref q25, .ref q26, .ref q27, .ref q28])), (q0, .inl (cy 0, 48, .inl (fun _ => 0))), (q1, .inl (cy 0, 12, .inl (fun _ => 0))), (q2, .inl (cy 0, 96, .inl (fun _ => 0))), (q3, .inl (cy 0, 12, .inl (fun _ => 0))), (q4, .inl (cy 0, 40, .inl (fun _ => 0))), (q5, .inl (cy 0, 4, .inl (fun _ => 0))), (q6, .inl (cy 0, 8, .inl (fun _ => 0))), (q7, .inl (cy 0, 168, .inl (fun _ => 0))), (q8, .inl (cy 0, 21, .inl (fun _ => 0))), (q9, .inl (cy 0, 4, .inl (upd (upd (upd (upd (fun _ => 0) 0 1) 1 2) 2 2) 3 3))), (q10, .inl (cy 0, 25, .inl (fun _ => 0))), (q11, .inl (cy 0, 2048, .inl (fun _ => 0))), (q12, .inl (cy 0, 2048, .inl (fun _ => 0))), (q13, .inl (cy 0, 2048, .inl (fun _ => 0))), (q14, .inl (cy 0, 2048, .inl (fun _ => 0))), (q15, .inl (cy 0, 2048, .inl (fun _ => 0))), (q16, .inl (cy 0, 2048, .inl (fun _ => 0))), (q17, .inl (cy 0, 2048, .inl (fun _ => 0))), (q18, .inl (cy 0, 13, .inl (fun _ => 0))), (q19, .inl (cy 0, 12, .inl (fun _ => 0))), (q20, .inl (cy 0, 12, .inl (fun _ => 0))), (q21, .inl (cy 0, 8, .inl (fun _ => 0))), (q22, .inl (cy 0, 8, .inl (fun _ => 0))), (q23, .inl (cy 1, 14, .inr (.inl (fun _ => 0)))), (q24, .inl (cy 1, 14, .inr (.inl (fun _ => 0)))), (q25, .inl (cy 0, 4, .inl (upd (upd (upd (upd (fun _ => 0) 0 (-1)) 1 (-1)) 2 (-1)) 3 (-1)))), (q26, .inl (cy 0, 4, .inl (fun _ => 0))), (q27, .inl (cy 0, 32, .inl (fun _ => 0))), (q28, .inl (cy 1, 80, .inr (.inl (fun _ => 0))))] := hD
  exact W.vret hx hb hr (fun t ht hW => ⟨⟨(fun i => ([q0, q1, q2, q3, q4, q5, q6, q7, q8, q9, q10, q11, q12, q13, q14, q15, q16, q17, q18, q19, q20, q21, q22, q23, q24, q25, q26, q27, q28] : List Nat).getD i 0), rfl, trivial, by rw [ht]; exact hP, va_K.moved hW.alike hK, hD⟩, hS.F ht⟩) hS.2.2 dX10_init_272
end
