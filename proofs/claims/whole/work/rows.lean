section
-- ===== PART A: goes FIRST, ahead of the names: the tables' words, and 'selects' of the private methods out of them =====
/-- a private method of a class that the tables say can be made, by its rows of tables_1 -/
def lw_okq (q : MethodName × Nat) : Prop := (q.1.cls ≠ "java/lang/invoke/MethodHandle" ∧ q.1.cls ≠ "java/lang/invoke/VarHandle") ∧ Cond.instantiable q.1.cls q.2 ∈ tables_1 ∧ Cond.privateMethod q.1 ∈ tables_1 ∧ Cond.instanceMethod q.1 ∈ tables_1
theorem lw_p0 : lw_okq (⟨"MayPole", "takeText", "(I)V"⟩, 15) := ⟨⟨by decide +kernel, by decide +kernel⟩, List.mem_of_getElem? (i := 14) (by decide +kernel), List.mem_of_getElem? (i := 286) (by decide +kernel), List.mem_of_getElem? (i := 287) (by decide +kernel)⟩
theorem lw_p1 : lw_okq (⟨"MayPole$Setting", "takeDancers", "(LMayPole$Text;)I"⟩, 7) := ⟨⟨by decide +kernel, by decide +kernel⟩, List.mem_of_getElem? (i := 75) (by decide +kernel), List.mem_of_getElem? (i := 290) (by decide +kernel), List.mem_of_getElem? (i := 291) (by decide +kernel)⟩
theorem lw_p2 : lw_okq (⟨"MayPole$Setting", "takeSteps", "(LMayPole$Text;)I"⟩, 7) := ⟨⟨by decide +kernel, by decide +kernel⟩, List.mem_of_getElem? (i := 75) (by decide +kernel), List.mem_of_getElem? (i := 300) (by decide +kernel), List.mem_of_getElem? (i := 301) (by decide +kernel)⟩
theorem lw_p3 : lw_okq (⟨"MayPole", "forgetOutcomes", "()V"⟩, 15) := ⟨⟨by decide +kernel, by decide +kernel⟩, List.mem_of_getElem? (i := 14) (by decide +kernel), List.mem_of_getElem? (i := 307) (by decide +kernel), List.mem_of_getElem? (i := 308) (by decide +kernel)⟩
theorem lw_p4 : lw_okq (⟨"MayPole", "isDancer", "(I)Z"⟩, 15) := ⟨⟨by decide +kernel, by decide +kernel⟩, List.mem_of_getElem? (i := 14) (by decide +kernel), List.mem_of_getElem? (i := 327) (by decide +kernel), List.mem_of_getElem? (i := 328) (by decide +kernel)⟩
theorem lw_p5 : lw_okq (⟨"MayPole$Events", "mayBe", "(III)Z"⟩, 4) := ⟨⟨by decide +kernel, by decide +kernel⟩, List.mem_of_getElem? (i := 51) (by decide +kernel), List.mem_of_getElem? (i := 346) (by decide +kernel), List.mem_of_getElem? (i := 347) (by decide +kernel)⟩
theorem lw_p6 : lw_okq (⟨"MayPole$Events", "put", "(III)V"⟩, 4) := ⟨⟨by decide +kernel, by decide +kernel⟩, List.mem_of_getElem? (i := 51) (by decide +kernel), List.mem_of_getElem? (i := 351) (by decide +kernel), List.mem_of_getElem? (i := 352) (by decide +kernel)⟩
theorem lw_p7 : lw_okq (⟨"MayPole", "takeEvents", "()V"⟩, 15) := ⟨⟨by decide +kernel, by decide +kernel⟩, List.mem_of_getElem? (i := 14) (by decide +kernel), List.mem_of_getElem? (i := 355) (by decide +kernel), List.mem_of_getElem? (i := 356) (by decide +kernel)⟩
theorem lw_p8 : lw_okq (⟨"MayPole", "found", "(I)I"⟩, 15) := ⟨⟨by decide +kernel, by decide +kernel⟩, List.mem_of_getElem? (i := 14) (by decide +kernel), List.mem_of_getElem? (i := 370) (by decide +kernel), List.mem_of_getElem? (i := 371) (by decide +kernel)⟩
theorem lw_p9 : lw_okq (⟨"MayPole", "danced", "()LMayPole$Dance;"⟩, 15) := ⟨⟨by decide +kernel, by decide +kernel⟩, List.mem_of_getElem? (i := 14) (by decide +kernel), List.mem_of_getElem? (i := 379) (by decide +kernel), List.mem_of_getElem? (i := 380) (by decide +kernel)⟩
theorem lw_p10 : lw_okq (⟨"MayPole$Dance", "play", "(LMayPole$Setting;LMayPole$Events;)V"⟩, 19) := ⟨⟨by decide +kernel, by decide +kernel⟩, List.mem_of_getElem? (i := 119) (by decide +kernel), List.mem_of_getElem? (i := 383) (by decide +kernel), List.mem_of_getElem? (i := 384) (by decide +kernel)⟩
theorem lw_p11 : lw_okq (⟨"MayPole$Dance", "stand", "(LMayPole$Setting;)V"⟩, 19) := ⟨⟨by decide +kernel, by decide +kernel⟩, List.mem_of_getElem? (i := 119) (by decide +kernel), List.mem_of_getElem? (i := 387) (by decide +kernel), List.mem_of_getElem? (i := 388) (by decide +kernel)⟩
theorem lw_p12 : lw_okq (⟨"MayPole$Dance", "spread", "(LMayPole$Events;I)V"⟩, 19) := ⟨⟨by decide +kernel, by decide +kernel⟩, List.mem_of_getElem? (i := 119) (by decide +kernel), List.mem_of_getElem? (i := 395) (by decide +kernel), List.mem_of_getElem? (i := 396) (by decide +kernel)⟩
theorem lw_p13 : lw_okq (⟨"MayPole$Dance", "turn", "()V"⟩, 19) := ⟨⟨by decide +kernel, by decide +kernel⟩, List.mem_of_getElem? (i := 119) (by decide +kernel), List.mem_of_getElem? (i := 400) (by decide +kernel), List.mem_of_getElem? (i := 401) (by decide +kernel)⟩
theorem lw_p14 : lw_okq (⟨"MayPole$Dance", "goOn", "(I)V"⟩, 19) := ⟨⟨by decide +kernel, by decide +kernel⟩, List.mem_of_getElem? (i := 119) (by decide +kernel), List.mem_of_getElem? (i := 404) (by decide +kernel), List.mem_of_getElem? (i := 405) (by decide +kernel)⟩
theorem lw_p15 : lw_okq (⟨"MayPole$Dance", "meetAll", "(II)V"⟩, 19) := ⟨⟨by decide +kernel, by decide +kernel⟩, List.mem_of_getElem? (i := 119) (by decide +kernel), List.mem_of_getElem? (i := 408) (by decide +kernel), List.mem_of_getElem? (i := 409) (by decide +kernel)⟩
def lw_privs_1 : List (MethodName × Nat) := [(⟨"MayPole", "takeText", "(I)V"⟩, 15), (⟨"MayPole$Setting", "takeDancers", "(LMayPole$Text;)I"⟩, 7), (⟨"MayPole$Setting", "takeSteps", "(LMayPole$Text;)I"⟩, 7), (⟨"MayPole", "forgetOutcomes", "()V"⟩, 15), (⟨"MayPole", "isDancer", "(I)Z"⟩, 15), (⟨"MayPole$Events", "mayBe", "(III)Z"⟩, 4), (⟨"MayPole$Events", "put", "(III)V"⟩, 4), (⟨"MayPole", "takeEvents", "()V"⟩, 15), (⟨"MayPole", "found", "(I)I"⟩, 15), (⟨"MayPole", "danced", "()LMayPole$Dance;"⟩, 15), (⟨"MayPole$Dance", "play", "(LMayPole$Setting;LMayPole$Events;)V"⟩, 19), (⟨"MayPole$Dance", "stand", "(LMayPole$Setting;)V"⟩, 19), (⟨"MayPole$Dance", "spread", "(LMayPole$Events;I)V"⟩, 19), (⟨"MayPole$Dance", "turn", "()V"⟩, 19), (⟨"MayPole$Dance", "goOn", "(I)V"⟩, 19), (⟨"MayPole$Dance", "meetAll", "(II)V"⟩, 19)]
theorem lw_r1 : ∀ q ∈ lw_privs_1, lw_okq q := List.forall_mem_cons.mpr ⟨lw_p0, List.forall_mem_cons.mpr ⟨lw_p1, List.forall_mem_cons.mpr ⟨lw_p2, List.forall_mem_cons.mpr ⟨lw_p3, List.forall_mem_cons.mpr ⟨lw_p4, List.forall_mem_cons.mpr ⟨lw_p5, List.forall_mem_cons.mpr ⟨lw_p6, List.forall_mem_cons.mpr ⟨lw_p7, List.forall_mem_cons.mpr ⟨lw_p8, List.forall_mem_cons.mpr ⟨lw_p9, List.forall_mem_cons.mpr ⟨lw_p10, List.forall_mem_cons.mpr ⟨lw_p11, List.forall_mem_cons.mpr ⟨lw_p12, List.forall_mem_cons.mpr ⟨lw_p13, List.forall_mem_cons.mpr ⟨lw_p14, List.forall_mem_cons.mpr ⟨lw_p15, fun _ h => absurd h List.not_mem_nil⟩⟩⟩⟩⟩⟩⟩⟩⟩⟩⟩⟩⟩⟩⟩⟩
theorem lw_p16 : lw_okq (⟨"MayPole$Dance", "haveMet", "(II)Z"⟩, 19) := ⟨⟨by decide +kernel, by decide +kernel⟩, List.mem_of_getElem? (i := 119) (by decide +kernel), List.mem_of_getElem? (i := 412) (by decide +kernel), List.mem_of_getElem? (i := 413) (by decide +kernel)⟩
theorem lw_p17 : lw_okq (⟨"MayPole$Dance", "cross", "(IIII)V"⟩, 19) := ⟨⟨by decide +kernel, by decide +kernel⟩, List.mem_of_getElem? (i := 119) (by decide +kernel), List.mem_of_getElem? (i := 416) (by decide +kernel), List.mem_of_getElem? (i := 417) (by decide +kernel)⟩
theorem lw_p18 : lw_okq (⟨"MayPole$Dance", "note", "(I)V"⟩, 19) := ⟨⟨by decide +kernel, by decide +kernel⟩, List.mem_of_getElem? (i := 119) (by decide +kernel), List.mem_of_getElem? (i := 420) (by decide +kernel), List.mem_of_getElem? (i := 421) (by decide +kernel)⟩
theorem lw_p19 : lw_okq (⟨"MayPole$Dance", "allMet", "()I"⟩, 19) := ⟨⟨by decide +kernel, by decide +kernel⟩, List.mem_of_getElem? (i := 119) (by decide +kernel), List.mem_of_getElem? (i := 443) (by decide +kernel), List.mem_of_getElem? (i := 444) (by decide +kernel)⟩
theorem lw_p20 : lw_okq (⟨"MayPole$Dance", "longestRun", "([II)I"⟩, 19) := ⟨⟨by decide +kernel, by decide +kernel⟩, List.mem_of_getElem? (i := 119) (by decide +kernel), List.mem_of_getElem? (i := 451) (by decide +kernel), List.mem_of_getElem? (i := 452) (by decide +kernel)⟩
theorem lw_p21 : lw_okq (⟨"MayPole$Dance", "timesOver", "(I)I"⟩, 19) := ⟨⟨by decide +kernel, by decide +kernel⟩, List.mem_of_getElem? (i := 119) (by decide +kernel), List.mem_of_getElem? (i := 463) (by decide +kernel), List.mem_of_getElem? (i := 464) (by decide +kernel)⟩
theorem lw_p22 : lw_okq (⟨"MayPole$Setting", "become", "(LMayPole$Setting;)V"⟩, 7) := ⟨⟨by decide +kernel, by decide +kernel⟩, List.mem_of_getElem? (i := 75) (by decide +kernel), List.mem_of_getElem? (i := 475) (by decide +kernel), List.mem_of_getElem? (i := 476) (by decide +kernel)⟩
theorem lw_p23 : lw_okq (⟨"MayPole$Setting", "placesBeside", "(I)I"⟩, 7) := ⟨⟨by decide +kernel, by decide +kernel⟩, List.mem_of_getElem? (i := 75) (by decide +kernel), List.mem_of_getElem? (i := 484) (by decide +kernel), List.mem_of_getElem? (i := 485) (by decide +kernel)⟩
theorem lw_p24 : lw_okq (⟨"MayPole", "bareBeatsWith", "(I)I"⟩, 15) := ⟨⟨by decide +kernel, by decide +kernel⟩, List.mem_of_getElem? (i := 14) (by decide +kernel), List.mem_of_getElem? (i := 497) (by decide +kernel), List.mem_of_getElem? (i := 498) (by decide +kernel)⟩
theorem lw_p25 : lw_okq (⟨"MayPole$Dance", "bareBeats", "()I"⟩, 19) := ⟨⟨by decide +kernel, by decide +kernel⟩, List.mem_of_getElem? (i := 119) (by decide +kernel), List.mem_of_getElem? (i := 502) (by decide +kernel), List.mem_of_getElem? (i := 503) (by decide +kernel)⟩
theorem lw_p26 : lw_okq (⟨"MayPole$Seen", "put", "(II)V"⟩, 3) := ⟨⟨by decide +kernel, by decide +kernel⟩, List.mem_of_getElem? (i := 196) (by decide +kernel), List.mem_of_getElem? (i := 510) (by decide +kernel), List.mem_of_getElem? (i := 511) (by decide +kernel)⟩
theorem lw_p27 : lw_okq (⟨"MayPole$Seen", "comesOut", "([II)Z"⟩, 3) := ⟨⟨by decide +kernel, by decide +kernel⟩, List.mem_of_getElem? (i := 196) (by decide +kernel), List.mem_of_getElem? (i := 522) (by decide +kernel), List.mem_of_getElem? (i := 523) (by decide +kernel)⟩
theorem lw_p28 : lw_okq (⟨"MayPole", "greatestGroup", "(II)I"⟩, 15) := ⟨⟨by decide +kernel, by decide +kernel⟩, List.mem_of_getElem? (i := 14) (by decide +kernel), List.mem_of_getElem? (i := 543) (by decide +kernel), List.mem_of_getElem? (i := 544) (by decide +kernel)⟩
theorem lw_p29 : lw_okq (⟨"MayPole", "weightOf", "(II)J"⟩, 15) := ⟨⟨by decide +kernel, by decide +kernel⟩, List.mem_of_getElem? (i := 14) (by decide +kernel), List.mem_of_getElem? (i := 556) (by decide +kernel), List.mem_of_getElem? (i := 557) (by decide +kernel)⟩
theorem lw_p30 : lw_okq (⟨"MayPole", "findingOf", "(III)I"⟩, 15) := ⟨⟨by decide +kernel, by decide +kernel⟩, List.mem_of_getElem? (i := 14) (by decide +kernel), List.mem_of_getElem? (i := 583) (by decide +kernel), List.mem_of_getElem? (i := 584) (by decide +kernel)⟩
theorem lw_p31 : lw_okq (⟨"MayPole$Sheet", "holds", "(II)Z"⟩, 3) := ⟨⟨by decide +kernel, by decide +kernel⟩, List.mem_of_getElem? (i := 214) (by decide +kernel), List.mem_of_getElem? (i := 587) (by decide +kernel), List.mem_of_getElem? (i := 588) (by decide +kernel)⟩
def lw_privs_2 : List (MethodName × Nat) := [(⟨"MayPole$Dance", "haveMet", "(II)Z"⟩, 19), (⟨"MayPole$Dance", "cross", "(IIII)V"⟩, 19), (⟨"MayPole$Dance", "note", "(I)V"⟩, 19), (⟨"MayPole$Dance", "allMet", "()I"⟩, 19), (⟨"MayPole$Dance", "longestRun", "([II)I"⟩, 19), (⟨"MayPole$Dance", "timesOver", "(I)I"⟩, 19), (⟨"MayPole$Setting", "become", "(LMayPole$Setting;)V"⟩, 7), (⟨"MayPole$Setting", "placesBeside", "(I)I"⟩, 7), (⟨"MayPole", "bareBeatsWith", "(I)I"⟩, 15), (⟨"MayPole$Dance", "bareBeats", "()I"⟩, 19), (⟨"MayPole$Seen", "put", "(II)V"⟩, 3), (⟨"MayPole$Seen", "comesOut", "([II)Z"⟩, 3), (⟨"MayPole", "greatestGroup", "(II)I"⟩, 15), (⟨"MayPole", "weightOf", "(II)J"⟩, 15), (⟨"MayPole", "findingOf", "(III)I"⟩, 15), (⟨"MayPole$Sheet", "holds", "(II)Z"⟩, 3)]
theorem lw_r2 : ∀ q ∈ lw_privs_2, lw_okq q := List.forall_mem_cons.mpr ⟨lw_p16, List.forall_mem_cons.mpr ⟨lw_p17, List.forall_mem_cons.mpr ⟨lw_p18, List.forall_mem_cons.mpr ⟨lw_p19, List.forall_mem_cons.mpr ⟨lw_p20, List.forall_mem_cons.mpr ⟨lw_p21, List.forall_mem_cons.mpr ⟨lw_p22, List.forall_mem_cons.mpr ⟨lw_p23, List.forall_mem_cons.mpr ⟨lw_p24, List.forall_mem_cons.mpr ⟨lw_p25, List.forall_mem_cons.mpr ⟨lw_p26, List.forall_mem_cons.mpr ⟨lw_p27, List.forall_mem_cons.mpr ⟨lw_p28, List.forall_mem_cons.mpr ⟨lw_p29, List.forall_mem_cons.mpr ⟨lw_p30, List.forall_mem_cons.mpr ⟨lw_p31, fun _ h => absurd h List.not_mem_nil⟩⟩⟩⟩⟩⟩⟩⟩⟩⟩⟩⟩⟩⟩⟩⟩
theorem lw_p32 : lw_okq (⟨"MayPole$Sheet", "put", "(II)V"⟩, 3) := ⟨⟨by decide +kernel, by decide +kernel⟩, List.mem_of_getElem? (i := 214) (by decide +kernel), List.mem_of_getElem? (i := 591) (by decide +kernel), List.mem_of_getElem? (i := 592) (by decide +kernel)⟩
theorem lw_p33 : lw_okq (⟨"MayPole", "digestOfBeats", "(J)J"⟩, 15) := ⟨⟨by decide +kernel, by decide +kernel⟩, List.mem_of_getElem? (i := 14) (by decide +kernel), List.mem_of_getElem? (i := 627) (by decide +kernel), List.mem_of_getElem? (i := 628) (by decide +kernel)⟩
theorem lw_p34 : lw_okq (⟨"MayPole", "digestOfDancer", "(JI)J"⟩, 15) := ⟨⟨by decide +kernel, by decide +kernel⟩, List.mem_of_getElem? (i := 14) (by decide +kernel), List.mem_of_getElem? (i := 635) (by decide +kernel), List.mem_of_getElem? (i := 636) (by decide +kernel)⟩
theorem lw_p35 : lw_okq (⟨"MayPoleModel", "finds", "(I)I"⟩, 37) := ⟨⟨by decide +kernel, by decide +kernel⟩, List.mem_of_getElem? (i := 659) (by decide +kernel), List.mem_of_getElem? (i := 789) (by decide +kernel), List.mem_of_getElem? (i := 790) (by decide +kernel)⟩
theorem lw_p36 : lw_okq (⟨"MayPoleModel", "lacks", "(III)I"⟩, 37) := ⟨⟨by decide +kernel, by decide +kernel⟩, List.mem_of_getElem? (i := 659) (by decide +kernel), List.mem_of_getElem? (i := 801) (by decide +kernel), List.mem_of_getElem? (i := 802) (by decide +kernel)⟩
theorem lw_p37 : lw_okq (⟨"MayPoleModel", "readsText", "(I)I"⟩, 37) := ⟨⟨by decide +kernel, by decide +kernel⟩, List.mem_of_getElem? (i := 659) (by decide +kernel), List.mem_of_getElem? (i := 837) (by decide +kernel), List.mem_of_getElem? (i := 838) (by decide +kernel)⟩
theorem lw_p38 : lw_okq (⟨"MayPoleModel", "readsDancers", "()I"⟩, 37) := ⟨⟨by decide +kernel, by decide +kernel⟩, List.mem_of_getElem? (i := 659) (by decide +kernel), List.mem_of_getElem? (i := 841) (by decide +kernel), List.mem_of_getElem? (i := 842) (by decide +kernel)⟩
theorem lw_p39 : lw_okq (⟨"MayPoleModel", "isTaken", "(II)Z"⟩, 37) := ⟨⟨by decide +kernel, by decide +kernel⟩, List.mem_of_getElem? (i := 659) (by decide +kernel), List.mem_of_getElem? (i := 852) (by decide +kernel), List.mem_of_getElem? (i := 853) (by decide +kernel)⟩
theorem lw_p40 : lw_okq (⟨"MayPoleModel", "readsSteps", "()I"⟩, 37) := ⟨⟨by decide +kernel, by decide +kernel⟩, List.mem_of_getElem? (i := 659) (by decide +kernel), List.mem_of_getElem? (i := 856) (by decide +kernel), List.mem_of_getElem? (i := 857) (by decide +kernel)⟩
theorem lw_p41 : lw_okq (⟨"MayPoleModel", "still", "()V"⟩, 37) := ⟨⟨by decide +kernel, by decide +kernel⟩, List.mem_of_getElem? (i := 659) (by decide +kernel), List.mem_of_getElem? (i := 860) (by decide +kernel), List.mem_of_getElem? (i := 861) (by decide +kernel)⟩
theorem lw_p42 : lw_okq (⟨"MayPoleModel", "isDancer", "(I)Z"⟩, 37) := ⟨⟨by decide +kernel, by decide +kernel⟩, List.mem_of_getElem? (i := 659) (by decide +kernel), List.mem_of_getElem? (i := 868) (by decide +kernel), List.mem_of_getElem? (i := 869) (by decide +kernel)⟩
theorem lw_p43 : lw_okq (⟨"MayPoleModel", "find", "()V"⟩, 37) := ⟨⟨by decide +kernel, by decide +kernel⟩, List.mem_of_getElem? (i := 659) (by decide +kernel), List.mem_of_getElem? (i := 903) (by decide +kernel), List.mem_of_getElem? (i := 904) (by decide +kernel)⟩
theorem lw_p44 : lw_okq (⟨"MayPoleModel", "lives", "()V"⟩, 37) := ⟨⟨by decide +kernel, by decide +kernel⟩, List.mem_of_getElem? (i := 659) (by decide +kernel), List.mem_of_getElem? (i := 907) (by decide +kernel), List.mem_of_getElem? (i := 908) (by decide +kernel)⟩
theorem lw_p45 : lw_okq (⟨"MayPoleModel", "passes", "(I)V"⟩, 37) := ⟨⟨by decide +kernel, by decide +kernel⟩, List.mem_of_getElem? (i := 659) (by decide +kernel), List.mem_of_getElem? (i := 911) (by decide +kernel), List.mem_of_getElem? (i := 912) (by decide +kernel)⟩
theorem lw_p46 : lw_okq (⟨"MayPoleModel", "toldIn", "(II)I"⟩, 37) := ⟨⟨by decide +kernel, by decide +kernel⟩, List.mem_of_getElem? (i := 659) (by decide +kernel), List.mem_of_getElem? (i := 915) (by decide +kernel), List.mem_of_getElem? (i := 916) (by decide +kernel)⟩
theorem lw_p47 : lw_okq (⟨"MayPoleModel", "goes", "(I)V"⟩, 37) := ⟨⟨by decide +kernel, by decide +kernel⟩, List.mem_of_getElem? (i := 659) (by decide +kernel), List.mem_of_getElem? (i := 922) (by decide +kernel), List.mem_of_getElem? (i := 923) (by decide +kernel)⟩
def lw_privs_3 : List (MethodName × Nat) := [(⟨"MayPole$Sheet", "put", "(II)V"⟩, 3), (⟨"MayPole", "digestOfBeats", "(J)J"⟩, 15), (⟨"MayPole", "digestOfDancer", "(JI)J"⟩, 15), (⟨"MayPoleModel", "finds", "(I)I"⟩, 37), (⟨"MayPoleModel", "lacks", "(III)I"⟩, 37), (⟨"MayPoleModel", "readsText", "(I)I"⟩, 37), (⟨"MayPoleModel", "readsDancers", "()I"⟩, 37), (⟨"MayPoleModel", "isTaken", "(II)Z"⟩, 37), (⟨"MayPoleModel", "readsSteps", "()I"⟩, 37), (⟨"MayPoleModel", "still", "()V"⟩, 37), (⟨"MayPoleModel", "isDancer", "(I)Z"⟩, 37), (⟨"MayPoleModel", "find", "()V"⟩, 37), (⟨"MayPoleModel", "lives", "()V"⟩, 37), (⟨"MayPoleModel", "passes", "(I)V"⟩, 37), (⟨"MayPoleModel", "toldIn", "(II)I"⟩, 37), (⟨"MayPoleModel", "goes", "(I)V"⟩, 37)]
theorem lw_r3 : ∀ q ∈ lw_privs_3, lw_okq q := List.forall_mem_cons.mpr ⟨lw_p32, List.forall_mem_cons.mpr ⟨lw_p33, List.forall_mem_cons.mpr ⟨lw_p34, List.forall_mem_cons.mpr ⟨lw_p35, List.forall_mem_cons.mpr ⟨lw_p36, List.forall_mem_cons.mpr ⟨lw_p37, List.forall_mem_cons.mpr ⟨lw_p38, List.forall_mem_cons.mpr ⟨lw_p39, List.forall_mem_cons.mpr ⟨lw_p40, List.forall_mem_cons.mpr ⟨lw_p41, List.forall_mem_cons.mpr ⟨lw_p42, List.forall_mem_cons.mpr ⟨lw_p43, List.forall_mem_cons.mpr ⟨lw_p44, List.forall_mem_cons.mpr ⟨lw_p45, List.forall_mem_cons.mpr ⟨lw_p46, List.forall_mem_cons.mpr ⟨lw_p47, fun _ h => absurd h List.not_mem_nil⟩⟩⟩⟩⟩⟩⟩⟩⟩⟩⟩⟩⟩⟩⟩⟩
theorem lw_p48 : lw_okq (⟨"MayPoleModel", "meets", "(II)Z"⟩, 37) := ⟨⟨by decide +kernel, by decide +kernel⟩, List.mem_of_getElem? (i := 659) (by decide +kernel), List.mem_of_getElem? (i := 926) (by decide +kernel), List.mem_of_getElem? (i := 927) (by decide +kernel)⟩
theorem lw_p49 : lw_okq (⟨"MayPoleModel", "meeting", "(III)V"⟩, 37) := ⟨⟨by decide +kernel, by decide +kernel⟩, List.mem_of_getElem? (i := 659) (by decide +kernel), List.mem_of_getElem? (i := 930) (by decide +kernel), List.mem_of_getElem? (i := 931) (by decide +kernel)⟩
theorem lw_p50 : lw_okq (⟨"MayPoleModel", "weaves", "(III)V"⟩, 37) := ⟨⟨by decide +kernel, by decide +kernel⟩, List.mem_of_getElem? (i := 659) (by decide +kernel), List.mem_of_getElem? (i := 934) (by decide +kernel), List.mem_of_getElem? (i := 935) (by decide +kernel)⟩
theorem lw_p51 : lw_okq (⟨"MayPoleModel", "takes", "(III)V"⟩, 37) := ⟨⟨by decide +kernel, by decide +kernel⟩, List.mem_of_getElem? (i := 659) (by decide +kernel), List.mem_of_getElem? (i := 938) (by decide +kernel), List.mem_of_getElem? (i := 939) (by decide +kernel)⟩
theorem lw_p52 : lw_okq (⟨"MayPoleModel", "atBy", "(III)I"⟩, 37) := ⟨⟨by decide +kernel, by decide +kernel⟩, List.mem_of_getElem? (i := 659) (by decide +kernel), List.mem_of_getElem? (i := 942) (by decide +kernel), List.mem_of_getElem? (i := 943) (by decide +kernel)⟩
theorem lw_p53 : lw_okq (⟨"MayPoleModel", "highBy", "(II)I"⟩, 37) := ⟨⟨by decide +kernel, by decide +kernel⟩, List.mem_of_getElem? (i := 659) (by decide +kernel), List.mem_of_getElem? (i := 950) (by decide +kernel), List.mem_of_getElem? (i := 951) (by decide +kernel)⟩
theorem lw_p54 : lw_okq (⟨"MayPoleModel", "weaveBy", "(II)I"⟩, 37) := ⟨⟨by decide +kernel, by decide +kernel⟩, List.mem_of_getElem? (i := 659) (by decide +kernel), List.mem_of_getElem? (i := 959) (by decide +kernel), List.mem_of_getElem? (i := 960) (by decide +kernel)⟩
theorem lw_p55 : lw_okq (⟨"MayPoleModel", "showsBy", "(I)I"⟩, 37) := ⟨⟨by decide +kernel, by decide +kernel⟩, List.mem_of_getElem? (i := 659) (by decide +kernel), List.mem_of_getElem? (i := 968) (by decide +kernel), List.mem_of_getElem? (i := 969) (by decide +kernel)⟩
theorem lw_p56 : lw_okq (⟨"MayPoleModel", "colourOf", "(I)I"⟩, 37) := ⟨⟨by decide +kernel, by decide +kernel⟩, List.mem_of_getElem? (i := 659) (by decide +kernel), List.mem_of_getElem? (i := 972) (by decide +kernel), List.mem_of_getElem? (i := 973) (by decide +kernel)⟩
theorem lw_p57 : lw_okq (⟨"MayPoleModel", "sumBy", "(I)I"⟩, 37) := ⟨⟨by decide +kernel, by decide +kernel⟩, List.mem_of_getElem? (i := 659) (by decide +kernel), List.mem_of_getElem? (i := 980) (by decide +kernel), List.mem_of_getElem? (i := 981) (by decide +kernel)⟩
theorem lw_p58 : lw_okq (⟨"MayPoleModel", "allMet", "()I"⟩, 37) := ⟨⟨by decide +kernel, by decide +kernel⟩, List.mem_of_getElem? (i := 659) (by decide +kernel), List.mem_of_getElem? (i := 984) (by decide +kernel), List.mem_of_getElem? (i := 985) (by decide +kernel)⟩
theorem lw_p59 : lw_okq (⟨"MayPoleModel", "runBy", "(I)I"⟩, 37) := ⟨⟨by decide +kernel, by decide +kernel⟩, List.mem_of_getElem? (i := 659) (by decide +kernel), List.mem_of_getElem? (i := 992) (by decide +kernel), List.mem_of_getElem? (i := 993) (by decide +kernel)⟩
theorem lw_p60 : lw_okq (⟨"MayPoleModel", "bareNow", "()I"⟩, 37) := ⟨⟨by decide +kernel, by decide +kernel⟩, List.mem_of_getElem? (i := 659) (by decide +kernel), List.mem_of_getElem? (i := 1003) (by decide +kernel), List.mem_of_getElem? (i := 1004) (by decide +kernel)⟩
theorem lw_p61 : lw_okq (⟨"MayPoleModel", "topNow", "()I"⟩, 37) := ⟨⟨by decide +kernel, by decide +kernel⟩, List.mem_of_getElem? (i := 659) (by decide +kernel), List.mem_of_getElem? (i := 1011) (by decide +kernel), List.mem_of_getElem? (i := 1012) (by decide +kernel)⟩
theorem lw_p62 : lw_okq (⟨"MayPoleModel", "oversOf", "(I)I"⟩, 37) := ⟨⟨by decide +kernel, by decide +kernel⟩, List.mem_of_getElem? (i := 659) (by decide +kernel), List.mem_of_getElem? (i := 1015) (by decide +kernel), List.mem_of_getElem? (i := 1016) (by decide +kernel)⟩
theorem lw_p63 : lw_okq (⟨"MayPoleModel", "lacksNow", "()I"⟩, 37) := ⟨⟨by decide +kernel, by decide +kernel⟩, List.mem_of_getElem? (i := 659) (by decide +kernel), List.mem_of_getElem? (i := 1023) (by decide +kernel), List.mem_of_getElem? (i := 1024) (by decide +kernel)⟩
def lw_privs_4 : List (MethodName × Nat) := [(⟨"MayPoleModel", "meets", "(II)Z"⟩, 37), (⟨"MayPoleModel", "meeting", "(III)V"⟩, 37), (⟨"MayPoleModel", "weaves", "(III)V"⟩, 37), (⟨"MayPoleModel", "takes", "(III)V"⟩, 37), (⟨"MayPoleModel", "atBy", "(III)I"⟩, 37), (⟨"MayPoleModel", "highBy", "(II)I"⟩, 37), (⟨"MayPoleModel", "weaveBy", "(II)I"⟩, 37), (⟨"MayPoleModel", "showsBy", "(I)I"⟩, 37), (⟨"MayPoleModel", "colourOf", "(I)I"⟩, 37), (⟨"MayPoleModel", "sumBy", "(I)I"⟩, 37), (⟨"MayPoleModel", "allMet", "()I"⟩, 37), (⟨"MayPoleModel", "runBy", "(I)I"⟩, 37), (⟨"MayPoleModel", "bareNow", "()I"⟩, 37), (⟨"MayPoleModel", "topNow", "()I"⟩, 37), (⟨"MayPoleModel", "oversOf", "(I)I"⟩, 37), (⟨"MayPoleModel", "lacksNow", "()I"⟩, 37)]
theorem lw_r4 : ∀ q ∈ lw_privs_4, lw_okq q := List.forall_mem_cons.mpr ⟨lw_p48, List.forall_mem_cons.mpr ⟨lw_p49, List.forall_mem_cons.mpr ⟨lw_p50, List.forall_mem_cons.mpr ⟨lw_p51, List.forall_mem_cons.mpr ⟨lw_p52, List.forall_mem_cons.mpr ⟨lw_p53, List.forall_mem_cons.mpr ⟨lw_p54, List.forall_mem_cons.mpr ⟨lw_p55, List.forall_mem_cons.mpr ⟨lw_p56, List.forall_mem_cons.mpr ⟨lw_p57, List.forall_mem_cons.mpr ⟨lw_p58, List.forall_mem_cons.mpr ⟨lw_p59, List.forall_mem_cons.mpr ⟨lw_p60, List.forall_mem_cons.mpr ⟨lw_p61, List.forall_mem_cons.mpr ⟨lw_p62, List.forall_mem_cons.mpr ⟨lw_p63, fun _ h => absurd h List.not_mem_nil⟩⟩⟩⟩⟩⟩⟩⟩⟩⟩⟩⟩⟩⟩⟩⟩
theorem lw_p64 : lw_okq (⟨"MayPoleModel", "stepIn", "(II)I"⟩, 37) := ⟨⟨by decide +kernel, by decide +kernel⟩, List.mem_of_getElem? (i := 659) (by decide +kernel), List.mem_of_getElem? (i := 1031) (by decide +kernel), List.mem_of_getElem? (i := 1032) (by decide +kernel)⟩
theorem lw_p65 : lw_okq (⟨"MayPoleModel", "beginOf", "(II)I"⟩, 37) := ⟨⟨by decide +kernel, by decide +kernel⟩, List.mem_of_getElem? (i := 659) (by decide +kernel), List.mem_of_getElem? (i := 1039) (by decide +kernel), List.mem_of_getElem? (i := 1040) (by decide +kernel)⟩
theorem lw_p66 : lw_okq (⟨"MayPoleModel", "isFree", "(II)Z"⟩, 37) := ⟨⟨by decide +kernel, by decide +kernel⟩, List.mem_of_getElem? (i := 659) (by decide +kernel), List.mem_of_getElem? (i := 1043) (by decide +kernel), List.mem_of_getElem? (i := 1044) (by decide +kernel)⟩
theorem lw_p67 : lw_okq (⟨"MayPoleModel", "dressOf", "(II)I"⟩, 37) := ⟨⟨by decide +kernel, by decide +kernel⟩, List.mem_of_getElem? (i := 659) (by decide +kernel), List.mem_of_getElem? (i := 1051) (by decide +kernel), List.mem_of_getElem? (i := 1052) (by decide +kernel)⟩
theorem lw_p68 : lw_okq (⟨"MayPoleModel", "spareBy", "(I)I"⟩, 37) := ⟨⟨by decide +kernel, by decide +kernel⟩, List.mem_of_getElem? (i := 659) (by decide +kernel), List.mem_of_getElem? (i := 1063) (by decide +kernel), List.mem_of_getElem? (i := 1064) (by decide +kernel)⟩
theorem lw_p69 : lw_okq (⟨"MayPoleModel", "isSpared", "(I)Z"⟩, 37) := ⟨⟨by decide +kernel, by decide +kernel⟩, List.mem_of_getElem? (i := 659) (by decide +kernel), List.mem_of_getElem? (i := 1067) (by decide +kernel), List.mem_of_getElem? (i := 1068) (by decide +kernel)⟩
theorem lw_p70 : lw_okq (⟨"MayPoleModel", "neverNow", "()I"⟩, 37) := ⟨⟨by decide +kernel, by decide +kernel⟩, List.mem_of_getElem? (i := 659) (by decide +kernel), List.mem_of_getElem? (i := 1084) (by decide +kernel), List.mem_of_getElem? (i := 1085) (by decide +kernel)⟩
theorem lw_p71 : lw_okq (⟨"MayPoleModel", "isSeen", "()Z"⟩, 37) := ⟨⟨by decide +kernel, by decide +kernel⟩, List.mem_of_getElem? (i := 659) (by decide +kernel), List.mem_of_getElem? (i := 1088) (by decide +kernel), List.mem_of_getElem? (i := 1089) (by decide +kernel)⟩
theorem lw_p72 : lw_okq (⟨"MayPoleModel", "waysOf", "(I)I"⟩, 37) := ⟨⟨by decide +kernel, by decide +kernel⟩, List.mem_of_getElem? (i := 659) (by decide +kernel), List.mem_of_getElem? (i := 1096) (by decide +kernel), List.mem_of_getElem? (i := 1097) (by decide +kernel)⟩
theorem lw_p73 : lw_okq (⟨"MayPoleModel", "lengthsNow", "()I"⟩, 37) := ⟨⟨by decide +kernel, by decide +kernel⟩, List.mem_of_getElem? (i := 659) (by decide +kernel), List.mem_of_getElem? (i := 1104) (by decide +kernel), List.mem_of_getElem? (i := 1105) (by decide +kernel)⟩
theorem lw_p74 : lw_okq (⟨"MayPoleModel", "askNow", "()I"⟩, 37) := ⟨⟨by decide +kernel, by decide +kernel⟩, List.mem_of_getElem? (i := 659) (by decide +kernel), List.mem_of_getElem? (i := 1112) (by decide +kernel), List.mem_of_getElem? (i := 1113) (by decide +kernel)⟩
theorem lw_p75 : lw_okq (⟨"MayPoleModel", "alike", "(II)I"⟩, 37) := ⟨⟨by decide +kernel, by decide +kernel⟩, List.mem_of_getElem? (i := 659) (by decide +kernel), List.mem_of_getElem? (i := 1116) (by decide +kernel), List.mem_of_getElem? (i := 1117) (by decide +kernel)⟩
theorem lw_p76 : lw_okq (⟨"MayPoleModel", "chanceOf", "(III)J"⟩, 37) := ⟨⟨by decide +kernel, by decide +kernel⟩, List.mem_of_getElem? (i := 659) (by decide +kernel), List.mem_of_getElem? (i := 1125) (by decide +kernel), List.mem_of_getElem? (i := 1126) (by decide +kernel)⟩
theorem lw_p77 : lw_okq (⟨"MayPoleModel", "dancesOf", "(III)I"⟩, 37) := ⟨⟨by decide +kernel, by decide +kernel⟩, List.mem_of_getElem? (i := 659) (by decide +kernel), List.mem_of_getElem? (i := 1141) (by decide +kernel), List.mem_of_getElem? (i := 1142) (by decide +kernel)⟩
theorem lw_p78 : lw_okq (⟨"MayPoleModel", "lot", "(I)I"⟩, 37) := ⟨⟨by decide +kernel, by decide +kernel⟩, List.mem_of_getElem? (i := 659) (by decide +kernel), List.mem_of_getElem? (i := 1145) (by decide +kernel), List.mem_of_getElem? (i := 1146) (by decide +kernel)⟩
theorem lw_p79 : lw_okq (⟨"MayPoleModel", "manyLoose", "()I"⟩, 37) := ⟨⟨by decide +kernel, by decide +kernel⟩, List.mem_of_getElem? (i := 659) (by decide +kernel), List.mem_of_getElem? (i := 1158) (by decide +kernel), List.mem_of_getElem? (i := 1159) (by decide +kernel)⟩
def lw_privs_5 : List (MethodName × Nat) := [(⟨"MayPoleModel", "stepIn", "(II)I"⟩, 37), (⟨"MayPoleModel", "beginOf", "(II)I"⟩, 37), (⟨"MayPoleModel", "isFree", "(II)Z"⟩, 37), (⟨"MayPoleModel", "dressOf", "(II)I"⟩, 37), (⟨"MayPoleModel", "spareBy", "(I)I"⟩, 37), (⟨"MayPoleModel", "isSpared", "(I)Z"⟩, 37), (⟨"MayPoleModel", "neverNow", "()I"⟩, 37), (⟨"MayPoleModel", "isSeen", "()Z"⟩, 37), (⟨"MayPoleModel", "waysOf", "(I)I"⟩, 37), (⟨"MayPoleModel", "lengthsNow", "()I"⟩, 37), (⟨"MayPoleModel", "askNow", "()I"⟩, 37), (⟨"MayPoleModel", "alike", "(II)I"⟩, 37), (⟨"MayPoleModel", "chanceOf", "(III)J"⟩, 37), (⟨"MayPoleModel", "dancesOf", "(III)I"⟩, 37), (⟨"MayPoleModel", "lot", "(I)I"⟩, 37), (⟨"MayPoleModel", "manyLoose", "()I"⟩, 37)]
theorem lw_r5 : ∀ q ∈ lw_privs_5, lw_okq q := List.forall_mem_cons.mpr ⟨lw_p64, List.forall_mem_cons.mpr ⟨lw_p65, List.forall_mem_cons.mpr ⟨lw_p66, List.forall_mem_cons.mpr ⟨lw_p67, List.forall_mem_cons.mpr ⟨lw_p68, List.forall_mem_cons.mpr ⟨lw_p69, List.forall_mem_cons.mpr ⟨lw_p70, List.forall_mem_cons.mpr ⟨lw_p71, List.forall_mem_cons.mpr ⟨lw_p72, List.forall_mem_cons.mpr ⟨lw_p73, List.forall_mem_cons.mpr ⟨lw_p74, List.forall_mem_cons.mpr ⟨lw_p75, List.forall_mem_cons.mpr ⟨lw_p76, List.forall_mem_cons.mpr ⟨lw_p77, List.forall_mem_cons.mpr ⟨lw_p78, List.forall_mem_cons.mpr ⟨lw_p79, fun _ h => absurd h List.not_mem_nil⟩⟩⟩⟩⟩⟩⟩⟩⟩⟩⟩⟩⟩⟩⟩⟩
theorem lw_p80 : lw_okq (⟨"MayPoleModel", "tellsDancer", "(JI)J"⟩, 37) := ⟨⟨by decide +kernel, by decide +kernel⟩, List.mem_of_getElem? (i := 659) (by decide +kernel), List.mem_of_getElem? (i := 1169) (by decide +kernel), List.mem_of_getElem? (i := 1170) (by decide +kernel)⟩
theorem lw_p81 : lw_okq (⟨"MayPoleModel", "tellsBeat", "(JII)J"⟩, 37) := ⟨⟨by decide +kernel, by decide +kernel⟩, List.mem_of_getElem? (i := 659) (by decide +kernel), List.mem_of_getElem? (i := 1173) (by decide +kernel), List.mem_of_getElem? (i := 1174) (by decide +kernel)⟩
theorem lw_p82 : lw_okq (⟨"MayPoleModel", "tellsPlan", "(JI)J"⟩, 37) := ⟨⟨by decide +kernel, by decide +kernel⟩, List.mem_of_getElem? (i := 659) (by decide +kernel), List.mem_of_getElem? (i := 1177) (by decide +kernel), List.mem_of_getElem? (i := 1178) (by decide +kernel)⟩
def lw_privs_6 : List (MethodName × Nat) := [(⟨"MayPoleModel", "tellsDancer", "(JI)J"⟩, 37), (⟨"MayPoleModel", "tellsBeat", "(JII)J"⟩, 37), (⟨"MayPoleModel", "tellsPlan", "(JI)J"⟩, 37)]
theorem lw_r6 : ∀ q ∈ lw_privs_6, lw_okq q := List.forall_mem_cons.mpr ⟨lw_p80, List.forall_mem_cons.mpr ⟨lw_p81, List.forall_mem_cons.mpr ⟨lw_p82, fun _ h => absurd h List.not_mem_nil⟩⟩⟩
def lw_privs : List (MethodName × Nat) := lw_privs_1 ++ (lw_privs_2 ++ (lw_privs_3 ++ (lw_privs_4 ++ (lw_privs_5 ++ (lw_privs_6)))))
def lw_tbl : List Cond := k2_sels lw_privs ++ tables_1
theorem lw_privs_ok : ∀ q ∈ lw_privs, lw_okq q := by
  show ∀ q ∈ lw_privs_1 ++ (lw_privs_2 ++ (lw_privs_3 ++ (lw_privs_4 ++ (lw_privs_5 ++ (lw_privs_6))))), lw_okq q
  exact List.forall_mem_append.mpr ⟨lw_r1, List.forall_mem_append.mpr ⟨lw_r2, List.forall_mem_append.mpr ⟨lw_r3, List.forall_mem_append.mpr ⟨lw_r4, List.forall_mem_append.mpr ⟨lw_r5, lw_r6⟩⟩⟩⟩⟩
end
section
/-! ===== BEGIN words of one list among another's, by their places ===== -/
theorem goodIn_r {big : List Cond} (ws : List Cond) (ps : List Nat) (hp : ws = ps.filterMap (fun i => big[i]?)) (h : ws.all goodWord = true) : GoodIn big ws := by
  intro w hw
  have h1 := List.all_eq_true.mp h w hw
  rw [hp] at hw
  obtain ⟨i, -, hi⟩ := List.mem_filterMap.mp hw
  have hm : w ∈ big := by first | exact List.mem_of_getElem? hi | exact List.getElem?_mem hi
  exact ⟨hm, good_of_word h1⟩
theorem goodIn_app {big a b : List Cond} (ha : GoodIn big a) (hb : GoodIn big b) : GoodIn big (a ++ b) := fun w h => (List.mem_append.mp h).elim (ha w) (hb w)
theorem goodIn_ca {big a b : List Cond} {c : Cond} (ha : GoodIn big (c :: a)) (hb : GoodIn big b) : GoodIn big (c :: (a ++ b)) := fun w h => (List.mem_cons.mp h).elim (fun e => ha w (List.mem_cons.mpr (Or.inl e))) (fun h => (List.mem_append.mp h).elim (fun h => ha w (List.mem_cons.mpr (Or.inr h))) (hb w))
theorem goodIn_sub {big ws : List Cond} (hm : ∀ w ∈ ws, w ∈ big) (h : ws.all goodWord = true) : GoodIn big ws := fun w hw => ⟨hm w hw, good_of_word (List.all_eq_true.mp h w hw)⟩
/-! ===== END ===== -/

/-! ===== BEGIN printed: names, fields, word lists, decode rows ===== -/
def RX0 : String := "MayPole$Dance"
def TX0 : u_T := fun k => match k with
  | 0 => ("MayPole$Dance", "doers", "[I", true)
  | 1 => ("MayPole$Dance", "place", "[I", true)
  | 2 => ("MayPole$Dance", "before", "[I", true)
  | 3 => ("MayPole$Dance", "way", "[I", true)
  | 4 => ("MayPole$Dance", "left", "[I", true)
  | 5 => ("MayPole$Dance", "placeBehind", "[I", true)
  | 6 => ("MayPole$Dance", "wayBehind", "[I", true)
  | 7 => ("MayPole$Dance", "leftBehind", "[I", true)
  | 8 => ("MayPole$Dance", "onBehind", "[I", true)
  | 9 => ("MayPole$Dance", "metIn", "[I", true)
  | 10 => ("MayPole$Dance", "overs", "[I", true)
  | 11 => ("MayPole$Dance", "unders", "[I", true)
  | 12 => ("MayPole$Dance", "wovenIn", "[I", true)
  | 13 => ("MayPole$Dance", "waysOfOvers", "[I", true)
  | 14 => ("MayPole$Dance", "dancers", "I", false)
  | 15 => ("MayPole$Dance", "holding", "I", false)
  | 16 => ("MayPole$Dance", "on", "I", false)
  | 17 => ("MayPole$Dance", "woven", "I", false)
  | _ => ("MayPole$Dance", "unwound", "I", false)
def tyX0 : Nat → FieldType := fun k => match k with
  | 0 => .array .int
  | 1 => .array .int
  | 2 => .array .int
  | 3 => .array .int
  | 4 => .array .int
  | 5 => .array .int
  | 6 => .array .int
  | 7 => .array .int
  | 8 => .array .int
  | 9 => .array .int
  | 10 => .array .int
  | 11 => .array .int
  | 12 => .array .int
  | 13 => .array .int
  | 14 => .int
  | 15 => .int
  | 16 => .int
  | 17 => .int
  | _ => .int
abbrev wsX00 : List Cond := u_ws RX0 TX0 19
theorem nmX0 : ∀ a, a < 19 → ∀ b, b < 19 → a ≠ b → (TX0 a).2.1 ≠ (TX0 b).2.1 := by decide +kernel
theorem tyX0_ok : ∀ k, k < 19 → parseFieldDescriptor (TX0 k).2.2.1 = some (tyX0 k) := by decide +kernel
abbrev cX0_init : ByteArray := prog_2_method_1_code
def yX0_init : MethodName := ⟨RX0, "<init>", "()V"⟩
abbrev cX0_play : ByteArray := prog_2_method_2_code
def yX0_play : MethodName := ⟨RX0, "play", "(LMayPole$Setting;LMayPole$Events;)V"⟩
abbrev cX0_stand : ByteArray := prog_2_method_3_code
def yX0_stand : MethodName := ⟨RX0, "stand", "(LMayPole$Setting;)V"⟩
abbrev cX0_spread : ByteArray := prog_2_method_4_code
def yX0_spread : MethodName := ⟨RX0, "spread", "(LMayPole$Events;I)V"⟩
abbrev cX0_turn : ByteArray := prog_2_method_5_code
def yX0_turn : MethodName := ⟨RX0, "turn", "()V"⟩
abbrev cX0_goOn : ByteArray := prog_2_method_6_code
def yX0_goOn : MethodName := ⟨RX0, "goOn", "(I)V"⟩
abbrev cX0_meetAll : ByteArray := prog_2_method_7_code
def yX0_meetAll : MethodName := ⟨RX0, "meetAll", "(II)V"⟩
abbrev cX0_haveMet : ByteArray := prog_2_method_8_code
def yX0_haveMet : MethodName := ⟨RX0, "haveMet", "(II)Z"⟩
abbrev cX0_cross : ByteArray := prog_2_method_9_code
def yX0_cross : MethodName := ⟨RX0, "cross", "(IIII)V"⟩
abbrev cX0_note : ByteArray := prog_2_method_10_code
def yX0_note : MethodName := ⟨RX0, "note", "(I)V"⟩
abbrev cX0_allMet : ByteArray := prog_2_method_11_code
def yX0_allMet : MethodName := ⟨RX0, "allMet", "()I"⟩
abbrev cX0_bareBeats : ByteArray := prog_2_method_12_code
def yX0_bareBeats : MethodName := ⟨RX0, "bareBeats", "()I"⟩
abbrev cX0_timesOver : ByteArray := prog_2_method_13_code
def yX0_timesOver : MethodName := ⟨RX0, "timesOver", "(I)I"⟩
abbrev cX0_longestRun : ByteArray := prog_2_method_14_code
def yX0_longestRun : MethodName := ⟨RX0, "longestRun", "([II)I"⟩
def RX1 : String := "MayPole$Events"
def TX1 : u_T := fun k => match k with
  | 0 => ("MayPole$Events", "kinds", "[I", true)
  | 1 => ("MayPole$Events", "beats", "[I", true)
  | 2 => ("MayPole$Events", "numbers", "[I", true)
  | _ => ("MayPole$Events", "many", "I", false)
def tyX1 : Nat → FieldType := fun k => match k with
  | 0 => .array .int
  | 1 => .array .int
  | 2 => .array .int
  | _ => .int
abbrev wsX10 : List Cond := u_ws RX1 TX1 4
theorem nmX1 : ∀ a, a < 4 → ∀ b, b < 4 → a ≠ b → (TX1 a).2.1 ≠ (TX1 b).2.1 := by decide +kernel
theorem tyX1_ok : ∀ k, k < 4 → parseFieldDescriptor (TX1 k).2.2.1 = some (tyX1 k) := by decide +kernel
abbrev cX1_init : ByteArray := prog_3_method_1_code
def yX1_init : MethodName := ⟨RX1, "<init>", "()V"⟩
abbrev cX1_mayBe : ByteArray := prog_3_method_2_code
def yX1_mayBe : MethodName := ⟨RX1, "mayBe", "(III)Z"⟩
abbrev cX1_put : ByteArray := prog_3_method_3_code
def yX1_put : MethodName := ⟨RX1, "put", "(III)V"⟩
def RX2 : String := "MayPole$Seen"
def TX2 : u_T := fun k => match k with
  | 0 => ("MayPole$Seen", "beats", "[I", true)
  | 1 => ("MayPole$Seen", "ons", "[I", true)
  | _ => ("MayPole$Seen", "many", "I", false)
def tyX2 : Nat → FieldType := fun k => match k with
  | 0 => .array .int
  | 1 => .array .int
  | _ => .int
abbrev wsX20 : List Cond := u_ws RX2 TX2 3
theorem nmX2 : ∀ a, a < 3 → ∀ b, b < 3 → a ≠ b → (TX2 a).2.1 ≠ (TX2 b).2.1 := by decide +kernel
theorem tyX2_ok : ∀ k, k < 3 → parseFieldDescriptor (TX2 k).2.2.1 = some (tyX2 k) := by decide +kernel
abbrev cX2_init : ByteArray := prog_4_method_1_code
def yX2_init : MethodName := ⟨RX2, "<init>", "()V"⟩
abbrev cX2_put : ByteArray := prog_4_method_2_code
def yX2_put : MethodName := ⟨RX2, "put", "(II)V"⟩
abbrev cX2_comesOut : ByteArray := prog_4_method_3_code
def yX2_comesOut : MethodName := ⟨RX2, "comesOut", "([II)Z"⟩
def RX3 : String := "MayPole$Setting"
def TX3 : u_T := fun k => match k with
  | 0 => ("MayPole$Setting", "place", "[I", true)
  | 1 => ("MayPole$Setting", "way", "[I", true)
  | 2 => ("MayPole$Setting", "colour", "[I", true)
  | 3 => ("MayPole$Setting", "step", "[I", true)
  | 4 => ("MayPole$Setting", "dancers", "I", false)
  | 5 => ("MayPole$Setting", "length", "I", false)
  | _ => ("MayPole$Setting", "eventSet", "I", false)
def tyX3 : Nat → FieldType := fun k => match k with
  | 0 => .array .int
  | 1 => .array .int
  | 2 => .array .int
  | 3 => .array .int
  | 4 => .int
  | 5 => .int
  | _ => .int
abbrev wsX30 : List Cond := u_ws RX3 TX3 7
theorem nmX3 : ∀ a, a < 7 → ∀ b, b < 7 → a ≠ b → (TX3 a).2.1 ≠ (TX3 b).2.1 := by decide +kernel
theorem tyX3_ok : ∀ k, k < 7 → parseFieldDescriptor (TX3 k).2.2.1 = some (tyX3 k) := by decide +kernel
abbrev cX3_init : ByteArray := prog_5_method_1_code
def yX3_init : MethodName := ⟨RX3, "<init>", "()V"⟩
abbrev cX3_become : ByteArray := prog_5_method_2_code
def yX3_become : MethodName := ⟨RX3, "become", "(LMayPole$Setting;)V"⟩
abbrev cX3_takeDancers : ByteArray := prog_5_method_3_code
def yX3_takeDancers : MethodName := ⟨RX3, "takeDancers", "(LMayPole$Text;)I"⟩
abbrev cX3_goesOn : ByteArray := prog_5_method_4_code
def yX3_goesOn : MethodName := ⟨RX3, "goesOn", "(III)Z"⟩
abbrev cX3_takeSteps : ByteArray := prog_5_method_5_code
def yX3_takeSteps : MethodName := ⟨RX3, "takeSteps", "(LMayPole$Text;)I"⟩
abbrev cX3_stepOf : ByteArray := prog_5_method_6_code
def yX3_stepOf : MethodName := ⟨RX3, "stepOf", "(I)I"⟩
abbrev cX3_placesBeside : ByteArray := prog_5_method_7_code
def yX3_placesBeside : MethodName := ⟨RX3, "placesBeside", "(I)I"⟩
def RX4 : String := "MayPole$Sheet"
def TX4 : u_T := fun k => match k with
  | 0 => ("MayPole$Sheet", "items", "[I", true)
  | 1 => ("MayPole$Sheet", "form", "I", false)
  | _ => ("MayPole$Sheet", "size", "I", false)
def tyX4 : Nat → FieldType := fun k => match k with
  | 0 => .array .int
  | 1 => .int
  | _ => .int
abbrev wsX40 : List Cond := u_ws RX4 TX4 3
theorem nmX4 : ∀ a, a < 3 → ∀ b, b < 3 → a ≠ b → (TX4 a).2.1 ≠ (TX4 b).2.1 := by decide +kernel
theorem tyX4_ok : ∀ k, k < 3 → parseFieldDescriptor (TX4 k).2.2.1 = some (tyX4 k) := by decide +kernel
abbrev cX4_init : ByteArray := prog_6_method_1_code
def yX4_init : MethodName := ⟨RX4, "<init>", "()V"⟩
abbrev cX4_holds : ByteArray := prog_6_method_2_code
def yX4_holds : MethodName := ⟨RX4, "holds", "(II)Z"⟩
abbrev cX4_put : ByteArray := prog_6_method_3_code
def yX4_put : MethodName := ⟨RX4, "put", "(II)V"⟩
def RX5 : String := "MayPole$Text"
def TX5 : u_T := fun k => match k with
  | 0 => ("MayPole$Text", "limit", "I", true)
  | 1 => ("MayPole$Text", "bytes", "[I", true)
  | 2 => ("MayPole$Text", "length", "I", false)
  | _ => ("MayPole$Text", "faultAt", "I", false)
def tyX5 : Nat → FieldType := fun k => match k with
  | 0 => .int
  | 1 => .array .int
  | 2 => .int
  | _ => .int
abbrev wsX50 : List Cond := u_ws RX5 TX5 4
theorem nmX5 : ∀ a, a < 4 → ∀ b, b < 4 → a ≠ b → (TX5 a).2.1 ≠ (TX5 b).2.1 := by decide +kernel
theorem tyX5_ok : ∀ k, k < 4 → parseFieldDescriptor (TX5 k).2.2.1 = some (tyX5 k) := by decide +kernel
abbrev cX5_init : ByteArray := prog_7_method_1_code
def yX5_init : MethodName := ⟨RX5, "<init>", "(I)V"⟩
def RX6 : String := "MayPole"
def TX6 : u_T := fun k => match k with
  | 0 => ("MayPole", "texts", "[LMayPole$Text;", true)
  | 1 => ("MayPole", "events", "LMayPole$Events;", true)
  | 2 => ("MayPole", "told", "LMayPole$Setting;", true)
  | 3 => ("MayPole", "trial", "LMayPole$Setting;", true)
  | 4 => ("MayPole", "toldDance", "LMayPole$Dance;", true)
  | 5 => ("MayPole", "trialDance", "LMayPole$Dance;", true)
  | 6 => ("MayPole", "seen", "LMayPole$Seen;", true)
  | 7 => ("MayPole", "sheets", "[LMayPole$Sheet;", true)
  | 8 => ("MayPole", "bareBeatsOfSet", "[I", true)
  | 9 => ("MayPole", "highByLength", "[I", true)
  | 10 => ("MayPole", "tally", "[I", true)
  | 11 => ("MayPole", "danceIsKnown", "Z", false)
  | 12 => ("MayPole", "lengthsAreKnown", "Z", false)
  | 13 => ("MayPole", "setsAreCurrent", "Z", false)
  | _ => ("MayPole", "latestFinding", "I", false)
def tyX6 : Nat → FieldType := fun k => match k with
  | 0 => .array (.object "MayPole$Text")
  | 1 => .object "MayPole$Events"
  | 2 => .object "MayPole$Setting"
  | 3 => .object "MayPole$Setting"
  | 4 => .object "MayPole$Dance"
  | 5 => .object "MayPole$Dance"
  | 6 => .object "MayPole$Seen"
  | 7 => .array (.object "MayPole$Sheet")
  | 8 => .array .int
  | 9 => .array .int
  | 10 => .array .int
  | 11 => .boolean
  | 12 => .boolean
  | 13 => .boolean
  | _ => .int
abbrev wsX60 : List Cond := u_ws RX6 TX6 15
theorem nmX6 : ∀ a, a < 15 → ∀ b, b < 15 → a ≠ b → (TX6 a).2.1 ≠ (TX6 b).2.1 := by decide +kernel
theorem tyX6_ok : ∀ k, k < 15 → parseFieldDescriptor (TX6 k).2.2.1 = some (tyX6 k) := by decide +kernel
abbrev cX6_init : ByteArray := prog_1_method_1_code
def yX6_init : MethodName := ⟨RX6, "<init>", "()V"⟩
abbrev cX6_type : ByteArray := prog_1_method_2_code
def yX6_type : MethodName := ⟨RX6, "type", "(II)I"⟩
abbrev cX6_wipe : ByteArray := prog_1_method_3_code
def yX6_wipe : MethodName := ⟨RX6, "wipe", "(I)I"⟩
abbrev cX6_undo : ByteArray := prog_1_method_4_code
def yX6_undo : MethodName := ⟨RX6, "undo", "(I)I"⟩
abbrev cX6_fault : ByteArray := prog_1_method_5_code
def yX6_fault : MethodName := ⟨RX6, "fault", "(I)I"⟩
abbrev cX6_dancer : ByteArray := prog_1_method_6_code
def yX6_dancer : MethodName := ⟨RX6, "dancer", "(II)I"⟩
abbrev cX6_steps : ByteArray := prog_1_method_7_code
def yX6_steps : MethodName := ⟨RX6, "steps", "(I)I"⟩
abbrev cX6_ribbons : ByteArray := prog_1_method_8_code
def yX6_ribbons : MethodName := ⟨RX6, "ribbons", "(I)I"⟩
abbrev cX6_event : ByteArray := prog_1_method_9_code
def yX6_event : MethodName := ⟨RX6, "event", "(III)I"⟩
abbrev cX6_back : ByteArray := prog_1_method_10_code
def yX6_back : MethodName := ⟨RX6, "back", "()I"⟩
abbrev cX6_read : ByteArray := prog_1_method_11_code
def yX6_read : MethodName := ⟨RX6, "read", "(I)I"⟩
abbrev cX6_at : ByteArray := prog_1_method_12_code
def yX6_at : MethodName := ⟨RX6, "at", "(III)I"⟩
abbrev cX6_high : ByteArray := prog_1_method_13_code
def yX6_high : MethodName := ⟨RX6, "high", "(II)I"⟩
abbrev cX6_weave : ByteArray := prog_1_method_14_code
def yX6_weave : MethodName := ⟨RX6, "weave", "(II)I"⟩
abbrev cX6_shows : ByteArray := prog_1_method_15_code
def yX6_shows : MethodName := ⟨RX6, "shows", "(I)I"⟩
abbrev cX6_sum : ByteArray := prog_1_method_16_code
def yX6_sum : MethodName := ⟨RX6, "sum", "(I)I"⟩
abbrev cX6_run : ByteArray := prog_1_method_17_code
def yX6_run : MethodName := ⟨RX6, "run", "(I)I"⟩
abbrev cX6_bare : ByteArray := prog_1_method_18_code
def yX6_bare : MethodName := ⟨RX6, "bare", "()I"⟩
abbrev cX6_top : ByteArray := prog_1_method_19_code
def yX6_top : MethodName := ⟨RX6, "top", "()I"⟩
abbrev cX6_lacks : ByteArray := prog_1_method_20_code
def yX6_lacks : MethodName := ⟨RX6, "lacks", "()I"⟩
abbrev cX6_step : ByteArray := prog_1_method_21_code
def yX6_step : MethodName := ⟨RX6, "step", "(II)I"⟩
abbrev cX6_begin : ByteArray := prog_1_method_22_code
def yX6_begin : MethodName := ⟨RX6, "begin", "(II)I"⟩
abbrev cX6_dress : ByteArray := prog_1_method_23_code
def yX6_dress : MethodName := ⟨RX6, "dress", "(II)I"⟩
abbrev cX6_spare : ByteArray := prog_1_method_24_code
def yX6_spare : MethodName := ⟨RX6, "spare", "(I)I"⟩
abbrev cX6_seen : ByteArray := prog_1_method_25_code
def yX6_seen : MethodName := ⟨RX6, "seen", "(II)I"⟩
abbrev cX6_forget : ByteArray := prog_1_method_26_code
def yX6_forget : MethodName := ⟨RX6, "forget", "()I"⟩
abbrev cX6_never : ByteArray := prog_1_method_27_code
def yX6_never : MethodName := ⟨RX6, "never", "()I"⟩
abbrev cX6_ways : ByteArray := prog_1_method_28_code
def yX6_ways : MethodName := ⟨RX6, "ways", "(I)I"⟩
abbrev cX6_lengths : ByteArray := prog_1_method_29_code
def yX6_lengths : MethodName := ⟨RX6, "lengths", "()I"⟩
abbrev cX6_ask : ByteArray := prog_1_method_30_code
def yX6_ask : MethodName := ⟨RX6, "ask", "()I"⟩
abbrev cX6_chance : ByteArray := prog_1_method_31_code
def yX6_chance : MethodName := ⟨RX6, "chance", "(III)J"⟩
abbrev cX6_dances : ByteArray := prog_1_method_32_code
def yX6_dances : MethodName := ⟨RX6, "dances", "(III)I"⟩
abbrev cX6_sheet : ByteArray := prog_1_method_33_code
def yX6_sheet : MethodName := ⟨RX6, "sheet", "(III)I"⟩
abbrev cX6_lose : ByteArray := prog_1_method_34_code
def yX6_lose : MethodName := ⟨RX6, "lose", "(I)I"⟩
abbrev cX6_lay : ByteArray := prog_1_method_35_code
def yX6_lay : MethodName := ⟨RX6, "lay", "(IIII)I"⟩
abbrev cX6_get : ByteArray := prog_1_method_36_code
def yX6_get : MethodName := ⟨RX6, "get", "(III)I"⟩
abbrev cX6_copy : ByteArray := prog_1_method_37_code
def yX6_copy : MethodName := ⟨RX6, "copy", "(IIIII)I"⟩
abbrev cX6_write : ByteArray := prog_1_method_38_code
def yX6_write : MethodName := ⟨RX6, "write", "(I)I"⟩
abbrev cX6_count : ByteArray := prog_1_method_39_code
def yX6_count : MethodName := ⟨RX6, "count", "(I)I"⟩
abbrev cX6_digest : ByteArray := prog_1_method_40_code
def yX6_digest : MethodName := ⟨RX6, "digest", "()J"⟩
abbrev cX6_digestOfBeats : ByteArray := prog_1_method_41_code
def yX6_digestOfBeats : MethodName := ⟨RX6, "digestOfBeats", "(J)J"⟩
abbrev cX6_digestOfDancer : ByteArray := prog_1_method_42_code
def yX6_digestOfDancer : MethodName := ⟨RX6, "digestOfDancer", "(JI)J"⟩
abbrev cX6_takeText : ByteArray := prog_1_method_43_code
def yX6_takeText : MethodName := ⟨RX6, "takeText", "(I)V"⟩
abbrev cX6_takeEvents : ByteArray := prog_1_method_44_code
def yX6_takeEvents : MethodName := ⟨RX6, "takeEvents", "()V"⟩
abbrev cX6_forgetOutcomes : ByteArray := prog_1_method_45_code
def yX6_forgetOutcomes : MethodName := ⟨RX6, "forgetOutcomes", "()V"⟩
abbrev cX6_danced : ByteArray := prog_1_method_46_code
def yX6_danced : MethodName := ⟨RX6, "danced", "()LMayPole$Dance;"⟩
abbrev cX6_bareBeatsWith : ByteArray := prog_1_method_47_code
def yX6_bareBeatsWith : MethodName := ⟨RX6, "bareBeatsWith", "(I)I"⟩
abbrev cX6_weightOf : ByteArray := prog_1_method_48_code
def yX6_weightOf : MethodName := ⟨RX6, "weightOf", "(II)J"⟩
abbrev cX6_greatestGroup : ByteArray := prog_1_method_49_code
def yX6_greatestGroup : MethodName := ⟨RX6, "greatestGroup", "(II)I"⟩
abbrev cX6_found : ByteArray := prog_1_method_50_code
def yX6_found : MethodName := ⟨RX6, "found", "(I)I"⟩
abbrev cX6_findingOf : ByteArray := prog_1_method_51_code
def yX6_findingOf : MethodName := ⟨RX6, "findingOf", "(III)I"⟩
abbrev cX6_isDancer : ByteArray := prog_1_method_52_code
def yX6_isDancer : MethodName := ⟨RX6, "isDancer", "(I)Z"⟩
abbrev cX6_isText : ByteArray := prog_1_method_53_code
def yX6_isText : MethodName := ⟨RX6, "isText", "(I)Z"⟩
abbrev cX6_isBeat : ByteArray := prog_1_method_54_code
def yX6_isBeat : MethodName := ⟨RX6, "isBeat", "(I)Z"⟩
abbrev cX6_isEither : ByteArray := prog_1_method_55_code
def yX6_isEither : MethodName := ⟨RX6, "isEither", "(I)Z"⟩
abbrev cX6_isSheet : ByteArray := prog_1_method_56_code
def yX6_isSheet : MethodName := ⟨RX6, "isSheet", "(I)Z"⟩
abbrev cX6_isForm : ByteArray := prog_1_method_57_code
def yX6_isForm : MethodName := ⟨RX6, "isForm", "(I)Z"⟩
abbrev cX6_has : ByteArray := prog_1_method_58_code
def yX6_has : MethodName := ⟨RX6, "has", "(II)Z"⟩
abbrev cX6_rowOfLength : ByteArray := prog_1_method_59_code
def yX6_rowOfLength : MethodName := ⟨RX6, "rowOfLength", "(I)I"⟩
abbrev cX6_greatestDivisor : ByteArray := prog_1_method_60_code
def yX6_greatestDivisor : MethodName := ⟨RX6, "greatestDivisor", "(JJ)J"⟩
def RX7 : String := "MayPoleModel"
def TX7 : u_T := fun k => match k with
  | 0 => ("MayPoleModel", "forms", "[I", true)
  | 1 => ("MayPoleModel", "sizes", "[I", true)
  | 2 => ("MayPoleModel", "items", "[I", true)
  | 3 => ("MayPoleModel", "moved", "[I", true)
  | 4 => ("MayPoleModel", "latest", "I", false)
  | 5 => ("MayPoleModel", "bytes", "[I", true)
  | 6 => ("MayPoleModel", "typed", "[I", true)
  | 7 => ("MayPoleModel", "dancers", "I", false)
  | 8 => ("MayPoleModel", "dancer", "[I", true)
  | 9 => ("MayPoleModel", "told", "I", false)
  | 10 => ("MayPoleModel", "steps", "[I", true)
  | 11 => ("MayPoleModel", "length", "I", false)
  | 12 => ("MayPoleModel", "events", "I", false)
  | 13 => ("MayPoleModel", "event", "[I", true)
  | 14 => ("MayPoleModel", "gone", "I", false)
  | 15 => ("MayPoleModel", "place", "[I", true)
  | 16 => ("MayPoleModel", "ahead", "[I", true)
  | 17 => ("MayPoleModel", "way", "[I", true)
  | 18 => ("MayPoleModel", "left", "[I", true)
  | 19 => ("MayPoleModel", "loose", "I", false)
  | 20 => ("MayPoleModel", "on", "I", false)
  | 21 => ("MayPoleModel", "overs", "[I", true)
  | 22 => ("MayPoleModel", "unders", "[I", true)
  | 23 => ("MayPoleModel", "wents", "[I", true)
  | 24 => ("MayPoleModel", "whens", "[I", true)
  | 25 => ("MayPoleModel", "wrongs", "I", false)
  | 26 => ("MayPoleModel", "woven", "I", false)
  | 27 => ("MayPoleModel", "unwound", "I", false)
  | 28 => ("MayPoleModel", "placeBy", "[I", true)
  | 29 => ("MayPoleModel", "wayBy", "[I", true)
  | 30 => ("MayPoleModel", "leftBy", "[I", true)
  | 31 => ("MayPoleModel", "onBy", "[I", true)
  | 32 => ("MayPoleModel", "metBy", "[I", true)
  | 33 => ("MayPoleModel", "sights", "I", false)
  | 34 => ("MayPoleModel", "sight", "[I", true)
  | 35 => ("MayPoleModel", "ons", "[I", true)
  | _ => ("MayPoleModel", "drawn", "I", false)
def tyX7 : Nat → FieldType := fun k => match k with
  | 0 => .array .int
  | 1 => .array .int
  | 2 => .array .int
  | 3 => .array .int
  | 4 => .int
  | 5 => .array .int
  | 6 => .array .int
  | 7 => .int
  | 8 => .array .int
  | 9 => .int
  | 10 => .array .int
  | 11 => .int
  | 12 => .int
  | 13 => .array .int
  | 14 => .int
  | 15 => .array .int
  | 16 => .array .int
  | 17 => .array .int
  | 18 => .array .int
  | 19 => .int
  | 20 => .int
  | 21 => .array .int
  | 22 => .array .int
  | 23 => .array .int
  | 24 => .array .int
  | 25 => .int
  | 26 => .int
  | 27 => .int
  | 28 => .array .int
  | 29 => .array .int
  | 30 => .array .int
  | 31 => .array .int
  | 32 => .array .int
  | 33 => .int
  | 34 => .array .int
  | 35 => .array .int
  | _ => .int
abbrev wsX70 : List Cond := u_ws RX7 TX7 37
theorem nmX7 : ∀ a, a < 37 → ∀ b, b < 37 → a ≠ b → (TX7 a).2.1 ≠ (TX7 b).2.1 := by decide +kernel
theorem tyX7_ok : ∀ k, k < 37 → parseFieldDescriptor (TX7 k).2.2.1 = some (tyX7 k) := by decide +kernel
abbrev cX7_init : ByteArray := prog_9_method_1_code
def yX7_init : MethodName := ⟨RX7, "<init>", "()V"⟩
abbrev cX7_in : ByteArray := prog_9_method_3_code
def yX7_in : MethodName := ⟨RX7, "in", "(JJJ)Z"⟩
abbrev cX7_no : ByteArray := prog_9_method_4_code
def yX7_no : MethodName := ⟨RX7, "no", "(I)J"⟩
abbrev cX7_isTwo : ByteArray := prog_9_method_5_code
def yX7_isTwo : MethodName := ⟨RX7, "isTwo", "(I)Z"⟩
abbrev cX7_isIn : ByteArray := prog_9_method_6_code
def yX7_isIn : MethodName := ⟨RX7, "isIn", "(II)Z"⟩
abbrev cX7_lesser : ByteArray := prog_9_method_7_code
def yX7_lesser : MethodName := ⟨RX7, "lesser", "(II)I"⟩
abbrev cX7_greater : ByteArray := prog_9_method_8_code
def yX7_greater : MethodName := ⟨RX7, "greater", "(II)I"⟩
abbrev cX7_part : ByteArray := prog_9_method_9_code
def yX7_part : MethodName := ⟨RX7, "part", "(JJI)J"⟩
abbrev cX7_finds : ByteArray := prog_9_method_10_code
def yX7_finds : MethodName := ⟨RX7, "finds", "(I)I"⟩
abbrev cX7_isSheet : ByteArray := prog_9_method_11_code
def yX7_isSheet : MethodName := ⟨RX7, "isSheet", "(I)Z"⟩
abbrev cX7_sheet : ByteArray := prog_9_method_12_code
def yX7_sheet : MethodName := ⟨RX7, "sheet", "(III)I"⟩
abbrev cX7_lose : ByteArray := prog_9_method_13_code
def yX7_lose : MethodName := ⟨RX7, "lose", "(I)I"⟩
abbrev cX7_lacks : ByteArray := prog_9_method_14_code
def yX7_lacks : MethodName := ⟨RX7, "lacks", "(III)I"⟩
abbrev cX7_cut : ByteArray := prog_9_method_15_code
def yX7_cut : MethodName := ⟨RX7, "cut", "(II)I"⟩
abbrev cX7_lay : ByteArray := prog_9_method_16_code
def yX7_lay : MethodName := ⟨RX7, "lay", "(IIII)I"⟩
abbrev cX7_get : ByteArray := prog_9_method_17_code
def yX7_get : MethodName := ⟨RX7, "get", "(III)I"⟩
abbrev cX7_copy : ByteArray := prog_9_method_18_code
def yX7_copy : MethodName := ⟨RX7, "copy", "(IIIII)I"⟩
abbrev cX7_type : ByteArray := prog_9_method_19_code
def yX7_type : MethodName := ⟨RX7, "type", "(II)I"⟩
abbrev cX7_wipe : ByteArray := prog_9_method_20_code
def yX7_wipe : MethodName := ⟨RX7, "wipe", "(I)I"⟩
abbrev cX7_undo : ByteArray := prog_9_method_21_code
def yX7_undo : MethodName := ⟨RX7, "undo", "(I)I"⟩
abbrev cX7_dancerOf : ByteArray := prog_9_method_22_code
def yX7_dancerOf : MethodName := ⟨RX7, "dancerOf", "(II)I"⟩
abbrev cX7_isTaken : ByteArray := prog_9_method_23_code
def yX7_isTaken : MethodName := ⟨RX7, "isTaken", "(II)Z"⟩
abbrev cX7_readsDancers : ByteArray := prog_9_method_24_code
def yX7_readsDancers : MethodName := ⟨RX7, "readsDancers", "()I"⟩
abbrev cX7_still : ByteArray := prog_9_method_25_code
def yX7_still : MethodName := ⟨RX7, "still", "()V"⟩
abbrev cX7_readsSteps : ByteArray := prog_9_method_26_code
def yX7_readsSteps : MethodName := ⟨RX7, "readsSteps", "()I"⟩
abbrev cX7_readsText : ByteArray := prog_9_method_27_code
def yX7_readsText : MethodName := ⟨RX7, "readsText", "(I)I"⟩
abbrev cX7_fault : ByteArray := prog_9_method_28_code
def yX7_fault : MethodName := ⟨RX7, "fault", "(I)I"⟩
abbrev cX7_isBeat : ByteArray := prog_9_method_29_code
def yX7_isBeat : MethodName := ⟨RX7, "isBeat", "(I)Z"⟩
abbrev cX7_isDancer : ByteArray := prog_9_method_30_code
def yX7_isDancer : MethodName := ⟨RX7, "isDancer", "(I)Z"⟩
abbrev cX7_dancer : ByteArray := prog_9_method_31_code
def yX7_dancer : MethodName := ⟨RX7, "dancer", "(II)I"⟩
abbrev cX7_steps : ByteArray := prog_9_method_32_code
def yX7_steps : MethodName := ⟨RX7, "steps", "(I)I"⟩
abbrev cX7_ribbons : ByteArray := prog_9_method_33_code
def yX7_ribbons : MethodName := ⟨RX7, "ribbons", "(I)I"⟩
abbrev cX7_event : ByteArray := prog_9_method_34_code
def yX7_event : MethodName := ⟨RX7, "event", "(III)I"⟩
abbrev cX7_back : ByteArray := prog_9_method_35_code
def yX7_back : MethodName := ⟨RX7, "back", "()I"⟩
abbrev cX7_read : ByteArray := prog_9_method_36_code
def yX7_read : MethodName := ⟨RX7, "read", "(I)I"⟩
abbrev cX7_toldIn : ByteArray := prog_9_method_37_code
def yX7_toldIn : MethodName := ⟨RX7, "toldIn", "(II)I"⟩
abbrev cX7_meets : ByteArray := prog_9_method_38_code
def yX7_meets : MethodName := ⟨RX7, "meets", "(II)Z"⟩
abbrev cX7_takes : ByteArray := prog_9_method_39_code
def yX7_takes : MethodName := ⟨RX7, "takes", "(III)V"⟩
abbrev cX7_weaves : ByteArray := prog_9_method_40_code
def yX7_weaves : MethodName := ⟨RX7, "weaves", "(III)V"⟩
abbrev cX7_meeting : ByteArray := prog_9_method_41_code
def yX7_meeting : MethodName := ⟨RX7, "meeting", "(III)V"⟩
abbrev cX7_goes : ByteArray := prog_9_method_42_code
def yX7_goes : MethodName := ⟨RX7, "goes", "(I)V"⟩
abbrev cX7_passes : ByteArray := prog_9_method_43_code
def yX7_passes : MethodName := ⟨RX7, "passes", "(I)V"⟩
abbrev cX7_lives : ByteArray := prog_9_method_44_code
def yX7_lives : MethodName := ⟨RX7, "lives", "()V"⟩
abbrev cX7_find : ByteArray := prog_9_method_45_code
def yX7_find : MethodName := ⟨RX7, "find", "()V"⟩
abbrev cX7_atBy : ByteArray := prog_9_method_46_code
def yX7_atBy : MethodName := ⟨RX7, "atBy", "(III)I"⟩
abbrev cX7_at : ByteArray := prog_9_method_47_code
def yX7_at : MethodName := ⟨RX7, "at", "(III)I"⟩
abbrev cX7_highBy : ByteArray := prog_9_method_48_code
def yX7_highBy : MethodName := ⟨RX7, "highBy", "(II)I"⟩
abbrev cX7_high : ByteArray := prog_9_method_49_code
def yX7_high : MethodName := ⟨RX7, "high", "(II)I"⟩
abbrev cX7_weaveBy : ByteArray := prog_9_method_50_code
def yX7_weaveBy : MethodName := ⟨RX7, "weaveBy", "(II)I"⟩
abbrev cX7_weave : ByteArray := prog_9_method_51_code
def yX7_weave : MethodName := ⟨RX7, "weave", "(II)I"⟩
abbrev cX7_colourOf : ByteArray := prog_9_method_52_code
def yX7_colourOf : MethodName := ⟨RX7, "colourOf", "(I)I"⟩
abbrev cX7_showsBy : ByteArray := prog_9_method_53_code
def yX7_showsBy : MethodName := ⟨RX7, "showsBy", "(I)I"⟩
abbrev cX7_shows : ByteArray := prog_9_method_54_code
def yX7_shows : MethodName := ⟨RX7, "shows", "(I)I"⟩
abbrev cX7_allMet : ByteArray := prog_9_method_55_code
def yX7_allMet : MethodName := ⟨RX7, "allMet", "()I"⟩
abbrev cX7_sumBy : ByteArray := prog_9_method_56_code
def yX7_sumBy : MethodName := ⟨RX7, "sumBy", "(I)I"⟩
abbrev cX7_sum : ByteArray := prog_9_method_57_code
def yX7_sum : MethodName := ⟨RX7, "sum", "(I)I"⟩
abbrev cX7_runBy : ByteArray := prog_9_method_58_code
def yX7_runBy : MethodName := ⟨RX7, "runBy", "(I)I"⟩
abbrev cX7_run : ByteArray := prog_9_method_59_code
def yX7_run : MethodName := ⟨RX7, "run", "(I)I"⟩
abbrev cX7_bareNow : ByteArray := prog_9_method_60_code
def yX7_bareNow : MethodName := ⟨RX7, "bareNow", "()I"⟩
abbrev cX7_bare : ByteArray := prog_9_method_61_code
def yX7_bare : MethodName := ⟨RX7, "bare", "()I"⟩
abbrev cX7_oversOf : ByteArray := prog_9_method_62_code
def yX7_oversOf : MethodName := ⟨RX7, "oversOf", "(I)I"⟩
abbrev cX7_topNow : ByteArray := prog_9_method_63_code
def yX7_topNow : MethodName := ⟨RX7, "topNow", "()I"⟩
abbrev cX7_top : ByteArray := prog_9_method_64_code
def yX7_top : MethodName := ⟨RX7, "top", "()I"⟩
abbrev cX7_lacksNow : ByteArray := prog_9_method_65_code
def yX7_lacksNow : MethodName := ⟨RX7, "lacksNow", "()I"⟩
abbrev cX7_lacks_ : ByteArray := prog_9_method_66_code
def yX7_lacks_ : MethodName := ⟨RX7, "lacks", "()I"⟩
abbrev cX7_stepIn : ByteArray := prog_9_method_67_code
def yX7_stepIn : MethodName := ⟨RX7, "stepIn", "(II)I"⟩
abbrev cX7_step : ByteArray := prog_9_method_68_code
def yX7_step : MethodName := ⟨RX7, "step", "(II)I"⟩
abbrev cX7_isFree : ByteArray := prog_9_method_69_code
def yX7_isFree : MethodName := ⟨RX7, "isFree", "(II)Z"⟩
abbrev cX7_beginOf : ByteArray := prog_9_method_70_code
def yX7_beginOf : MethodName := ⟨RX7, "beginOf", "(II)I"⟩
abbrev cX7_begin : ByteArray := prog_9_method_71_code
def yX7_begin : MethodName := ⟨RX7, "begin", "(II)I"⟩
abbrev cX7_dressOf : ByteArray := prog_9_method_72_code
def yX7_dressOf : MethodName := ⟨RX7, "dressOf", "(II)I"⟩
abbrev cX7_dress : ByteArray := prog_9_method_73_code
def yX7_dress : MethodName := ⟨RX7, "dress", "(II)I"⟩
abbrev cX7_isSpared : ByteArray := prog_9_method_74_code
def yX7_isSpared : MethodName := ⟨RX7, "isSpared", "(I)Z"⟩
abbrev cX7_spareBy : ByteArray := prog_9_method_75_code
def yX7_spareBy : MethodName := ⟨RX7, "spareBy", "(I)I"⟩
abbrev cX7_spare : ByteArray := prog_9_method_76_code
def yX7_spare : MethodName := ⟨RX7, "spare", "(I)I"⟩
abbrev cX7_seen : ByteArray := prog_9_method_77_code
def yX7_seen : MethodName := ⟨RX7, "seen", "(II)I"⟩
abbrev cX7_forget : ByteArray := prog_9_method_78_code
def yX7_forget : MethodName := ⟨RX7, "forget", "()I"⟩
abbrev cX7_isSeen : ByteArray := prog_9_method_79_code
def yX7_isSeen : MethodName := ⟨RX7, "isSeen", "()Z"⟩
abbrev cX7_neverNow : ByteArray := prog_9_method_80_code
def yX7_neverNow : MethodName := ⟨RX7, "neverNow", "()I"⟩
abbrev cX7_never : ByteArray := prog_9_method_81_code
def yX7_never : MethodName := ⟨RX7, "never", "()I"⟩
abbrev cX7_waysOf : ByteArray := prog_9_method_82_code
def yX7_waysOf : MethodName := ⟨RX7, "waysOf", "(I)I"⟩
abbrev cX7_ways : ByteArray := prog_9_method_83_code
def yX7_ways : MethodName := ⟨RX7, "ways", "(I)I"⟩
abbrev cX7_lengthsNow : ByteArray := prog_9_method_84_code
def yX7_lengthsNow : MethodName := ⟨RX7, "lengthsNow", "()I"⟩
abbrev cX7_lengths : ByteArray := prog_9_method_85_code
def yX7_lengths : MethodName := ⟨RX7, "lengths", "()I"⟩
abbrev cX7_alike : ByteArray := prog_9_method_86_code
def yX7_alike : MethodName := ⟨RX7, "alike", "(II)I"⟩
abbrev cX7_askNow : ByteArray := prog_9_method_87_code
def yX7_askNow : MethodName := ⟨RX7, "askNow", "()I"⟩
abbrev cX7_ask : ByteArray := prog_9_method_88_code
def yX7_ask : MethodName := ⟨RX7, "ask", "()I"⟩
abbrev cX7_chanceOf : ByteArray := prog_9_method_89_code
def yX7_chanceOf : MethodName := ⟨RX7, "chanceOf", "(III)J"⟩
abbrev cX7_chance : ByteArray := prog_9_method_90_code
def yX7_chance : MethodName := ⟨RX7, "chance", "(III)J"⟩
abbrev cX7_lot : ByteArray := prog_9_method_91_code
def yX7_lot : MethodName := ⟨RX7, "lot", "(I)I"⟩
abbrev cX7_dancesOf : ByteArray := prog_9_method_92_code
def yX7_dancesOf : MethodName := ⟨RX7, "dancesOf", "(III)I"⟩
abbrev cX7_dances : ByteArray := prog_9_method_93_code
def yX7_dances : MethodName := ⟨RX7, "dances", "(III)I"⟩
abbrev cX7_write : ByteArray := prog_9_method_94_code
def yX7_write : MethodName := ⟨RX7, "write", "(I)I"⟩
abbrev cX7_manyLoose : ByteArray := prog_9_method_95_code
def yX7_manyLoose : MethodName := ⟨RX7, "manyLoose", "()I"⟩
abbrev cX7_count : ByteArray := prog_9_method_96_code
def yX7_count : MethodName := ⟨RX7, "count", "(I)I"⟩
abbrev cX7_tellsBeat : ByteArray := prog_9_method_97_code
def yX7_tellsBeat : MethodName := ⟨RX7, "tellsBeat", "(JII)J"⟩
abbrev cX7_tellsDancer : ByteArray := prog_9_method_98_code
def yX7_tellsDancer : MethodName := ⟨RX7, "tellsDancer", "(JI)J"⟩
abbrev cX7_tellsPlan : ByteArray := prog_9_method_99_code
def yX7_tellsPlan : MethodName := ⟨RX7, "tellsPlan", "(JI)J"⟩
abbrev cX7_digest : ByteArray := prog_9_method_100_code
def yX7_digest : MethodName := ⟨RX7, "digest", "()J"⟩
def RJ6 : String := "java/lang/Integer"
def TJ6 : u_T := fun k => match k with
  | _ => ("", "", "", false)
def tyJ6 : Nat → FieldType := fun k => match k with
  | _ => .int
abbrev wsJ60 : List Cond := u_ws RJ6 TJ6 0
theorem nmJ6 : ∀ a, a < 0 → ∀ b, b < 0 → a ≠ b → (TJ6 a).2.1 ≠ (TJ6 b).2.1 := by decide +kernel
theorem tyJ6_ok : ∀ k, k < 0 → parseFieldDescriptor (TJ6 k).2.2.1 = some (tyJ6 k) := by decide +kernel
abbrev cJ6_bitCount_0f7a4 : ByteArray := prog_10_method_49_code
def yJ6_bitCount_0f7a4 : MethodName := ⟨RJ6, "bitCount", "(I)I"⟩
def RJ9 : String := "java/lang/Math"
def TJ9 : u_T := fun k => match k with
  | _ => ("", "", "", false)
def tyJ9 : Nat → FieldType := fun k => match k with
  | _ => .int
abbrev wsJ90 : List Cond := u_ws RJ9 TJ9 0
theorem nmJ9 : ∀ a, a < 0 → ∀ b, b < 0 → a ≠ b → (TJ9 a).2.1 ≠ (TJ9 b).2.1 := by decide +kernel
theorem tyJ9_ok : ∀ k, k < 0 → parseFieldDescriptor (TJ9 k).2.2.1 = some (tyJ9 k) := by decide +kernel
abbrev cJ9_max_7cf53 : ByteArray := prog_11_method_65_code
def yJ9_max_7cf53 : MethodName := ⟨RJ9, "max", "(II)I"⟩
abbrev cJ9_min_7cf53 : ByteArray := prog_11_method_69_code
def yJ9_min_7cf53 : MethodName := ⟨RJ9, "min", "(II)I"⟩
def RJ10 : String := "java/lang/System"
def TJ10 : u_T := fun k => match k with
  | _ => ("", "", "", false)
def tyJ10 : Nat → FieldType := fun k => match k with
  | _ => .int
abbrev wsJ100 : List Cond := u_ws RJ10 TJ10 0
theorem nmJ10 : ∀ a, a < 0 → ∀ b, b < 0 → a ≠ b → (TJ10 a).2.1 ≠ (TJ10 b).2.1 := by decide +kernel
theorem tyJ10_ok : ∀ k, k < 0 → parseFieldDescriptor (TJ10 k).2.2.1 = some (tyJ10 k) := by decide +kernel
def RJ7 : String := "java/util/Arrays"
def TJ7 : u_T := fun k => match k with
  | _ => ("", "", "", false)
def tyJ7 : Nat → FieldType := fun k => match k with
  | _ => .int
abbrev wsJ70 : List Cond := u_ws RJ7 TJ7 0
theorem nmJ7 : ∀ a, a < 0 → ∀ b, b < 0 → a ≠ b → (TJ7 a).2.1 ≠ (TJ7 b).2.1 := by decide +kernel
theorem tyJ7_ok : ∀ k, k < 0 → parseFieldDescriptor (TJ7 k).2.2.1 = some (tyJ7 k) := by decide +kernel
abbrev cJ7_fill_53178 : ByteArray := prog_13_method_103_code
def yJ7_fill_53178 : MethodName := ⟨RJ7, "fill", "([II)V"⟩
def RL : String := "MayPoleLaw"
abbrev cL_law : ByteArray := code
def yL_law : MethodName := ⟨RL, "law", "([I)Z"⟩
set_option maxRecDepth 20000 in
abbrev vwCl : List vw_C := [(RX0, TX0, 19), (RX1, TX1, 4), (RX2, TX2, 3), (RX3, TX3, 7), (RX4, TX4, 3), (RX5, TX5, 4), (RX6, TX6, 15), (RX7, TX7, 37)]
end
section
def TB : List Cond := lw_tbl.filter goodWord
theorem TB_of {w : Cond} (i : Nat) (h : lw_tbl[i]? = some w) (g : goodWord w = true) : w ∈ TB := List.mem_filter.mpr ⟨List.mem_of_getElem? h, g⟩
theorem TB_good : GoodIn TB TB := fun w h => ⟨h, good_of_word (List.mem_filter.mp h).2⟩
theorem TB_cons {y : MethodName} {bytes : ByteArray} {maxL : Nat} {ret : Option FieldType} (h : Cond.code y bytes maxL ret ∈ TB) : GoodIn TB (Cond.code y bytes maxL ret :: TB) := fun w hw => by
  rcases List.mem_cons.mp hw with rfl | hw
  · exact TB_good _ h
  · exact TB_good _ hw
theorem TB_ws {ws : List Cond} (ps : List Nat) (hp : ws = ps.filterMap (fun i => lw_tbl[i]?)) (h : ws.all goodWord = true) : ∀ w ∈ ws, w ∈ TB := fun w hw => by
  have h1 := List.all_eq_true.mp h w hw
  rw [hp] at hw
  obtain ⟨i, -, hi⟩ := List.mem_filterMap.mp hw
  exact TB_of i hi h1
def nFs : List (String × Nat × String × String × String × String) := [(RX6, 77, "MayPole$Text", "limit", "I", "MayPole"), (RX6, 80, "MayPole$Text", "bytes", "[I", "MayPole"), (RX3, 49, "MayPole$Text", "bytes", "[I", "MayPole"), (RX6, 73, "MayPole$Text", "length", "I", "MayPole"), (RX3, 46, "MayPole$Text", "length", "I", "MayPole"), (RX6, 86, "MayPole$Text", "faultAt", "I", "MayPole"), (RX0, 127, "MayPole$Events", "kinds", "[I", "MayPole"), (RX0, 130, "MayPole$Events", "beats", "[I", "MayPole"), (RX0, 133, "MayPole$Events", "numbers", "[I", "MayPole"), (RX0, 118, "MayPole$Events", "many", "I", "MayPole"), (RX6, 115, "MayPole$Events", "many", "I", "MayPole"), (RX0, 92, "MayPole$Setting", "place", "[I", "MayPole"), (RX6, 92, "MayPole$Setting", "place", "[I", "MayPole"), (RX0, 99, "MayPole$Setting", "way", "[I", "MayPole"), (RX6, 95, "MayPole$Setting", "way", "[I", "MayPole"), (RX6, 98, "MayPole$Setting", "colour", "[I", "MayPole"), (RX0, 68, "MayPole$Setting", "step", "[I", "MayPole"), (RX6, 104, "MayPole$Setting", "step", "[I", "MayPole"), (RX0, 88, "MayPole$Setting", "dancers", "I", "MayPole"), (RX6, 193, "MayPole$Setting", "dancers", "I", "MayPole"), (RX0, 100, "MayPole$Setting", "length", "I", "MayPole"), (RX6, 107, "MayPole$Setting", "length", "I", "MayPole"), (RX0, 58, "MayPole$Setting", "eventSet", "I", "MayPole"), (RX6, 217, "MayPole$Setting", "eventSet", "I", "MayPole"), (RX6, 199, "MayPole$Dance", "left", "[I", "MayPole"), (RX6, 149, "MayPole$Dance", "placeBehind", "[I", "MayPole"), (RX6, 152, "MayPole$Dance", "wayBehind", "[I", "MayPole"), (RX6, 155, "MayPole$Dance", "leftBehind", "[I", "MayPole"), (RX6, 161, "MayPole$Dance", "onBehind", "[I", "MayPole"), (RX6, 164, "MayPole$Dance", "metIn", "[I", "MayPole"), (RX6, 170, "MayPole$Dance", "overs", "[I", "MayPole"), (RX6, 173, "MayPole$Dance", "unders", "[I", "MayPole"), (RX6, 176, "MayPole$Dance", "wovenIn", "[I", "MayPole"), (RX6, 289, "MayPole$Dance", "holding", "I", "MayPole"), (RX6, 167, "MayPole$Dance", "on", "I", "MayPole"), (RX6, 183, "MayPole$Dance", "woven", "I", "MayPole"), (RX6, 186, "MayPole$Dance", "unwound", "I", "MayPole"), (RX6, 223, "MayPole$Seen", "many", "I", "MayPole"), (RX6, 138, "MayPole$Sheet", "items", "[I", "MayPole"), (RX6, 128, "MayPole$Sheet", "form", "I", "MayPole"), (RX6, 135, "MayPole$Sheet", "size", "I", "MayPole")]
def nMs : List (String × Nat × MethodName × String) := [(RX6, 11, yX5_init, "MayPole"), (RX6, 20, yX1_init, "MayPole"), (RX6, 27, yX3_init, "MayPole"), (RX6, 37, yX0_init, "MayPole"), (RX6, 47, yX2_init, "MayPole"), (RX6, 54, yX4_init, "MayPole"), (RX6, 381, yX3_takeDancers, "MayPole"), (RX3, 56, yX6_has, "MayPole"), (RX6, 385, yX3_takeSteps, "MayPole"), (RX6, 111, yX1_mayBe, "MayPole"), (RX1, 21, yX6_isBeat, "MayPole"), (RX6, 118, yX1_put, "MayPole"), (RX6, 206, yX0_play, "MayPole"), (RX0, 123, yX6_has, "MayPole"), (RX6, 179, yX0_allMet, "MayPole"), (RX6, 189, yX0_longestRun, "MayPole"), (RX6, 196, yX0_timesOver, "MayPole"), (RX6, 202, yX3_become, "MayPole"), (RX6, 210, yX3_placesBeside, "MayPole"), (RX6, 394, yX0_bareBeats, "MayPole"), (RX6, 224, yX2_put, "MayPole"), (RX6, 227, yX2_comesOut, "MayPole"), (RX6, 281, yX4_holds, "MayPole"), (RX6, 276, yX4_put, "MayPole")]
set_option maxRecDepth 20000 in
theorem nFs_in : ∀ q ∈ nFs, Cond.fieldLinkNest q.1 q.2.1 q.2.2.1 q.2.2.2.1 q.2.2.2.2.1 q.2.2.2.2.2 ∈ lw_tbl := by
  have h : nFs.map (fun q => Cond.fieldLinkNest q.1 q.2.1 q.2.2.1 q.2.2.2.1 q.2.2.2.2.1 q.2.2.2.2.2) = ([115, 117, 118, 119, 120, 122, 140, 142, 144, 146, 147, 167, 168, 170, 171, 173, 175, 176, 178, 179, 181, 182, 183, 185, 212, 214, 216, 218, 220, 222, 224, 226, 228, 232, 234, 236, 238, 287, 303, 305, 307] : List Nat).filterMap (fun i => lw_tbl[i]?) := by decide +kernel
  intro q hq
  have h2 := List.mem_map_of_mem (f := fun q : String × Nat × String × String × String × String => Cond.fieldLinkNest q.1 q.2.1 q.2.2.1 q.2.2.2.1 q.2.2.2.2.1 q.2.2.2.2.2) hq
  rw [h] at h2
  obtain ⟨i, -, hi⟩ := List.mem_filterMap.mp h2
  exact List.mem_of_getElem? hi
set_option maxRecDepth 20000 in
theorem nMs_in : ∀ q ∈ nMs, Cond.methodLinkNest q.1 q.2.1 q.2.2.1 q.2.2.2 ∈ lw_tbl := by
  have h : nMs.map (fun q => Cond.methodLinkNest q.1 q.2.1 q.2.2.1 q.2.2.2) = ([107, 135, 159, 203, 280, 298, 372, 379, 382, 428, 432, 433, 465, 481, 525, 533, 545, 557, 566, 584, 592, 604, 669, 673] : List Nat).filterMap (fun i => lw_tbl[i]?) := by decide +kernel
  intro q hq
  have h2 := List.mem_map_of_mem (f := fun q : String × Nat × MethodName × String => Cond.methodLinkNest q.1 q.2.1 q.2.2.1 q.2.2.2) hq
  rw [h] at h2
  obtain ⟨i, -, hi⟩ := List.mem_filterMap.mp h2
  exact List.mem_of_getElem? hi
def NW (U : State) : Prop := (∀ q ∈ nFs, va_Nw (.fieldLinkNest q.1 q.2.1 q.2.2.1 q.2.2.2.1 q.2.2.2.2.1 q.2.2.2.2.2) U) ∧ ∀ q ∈ nMs, va_Nw (.methodLinkNest q.1 q.2.1 q.2.2.1 q.2.2.2) U
theorem NW.warm {s U : State} (hW : s.WarmedH U.vm) (h : NW s) : NW U := ⟨fun q hq => va_Nw.warmF hW (h.1 q hq), fun q hq => va_Nw.warmM hW (h.2 q hq)⟩
theorem NW.same {u U : State} (h : u.vm = U.vm) (z : NW u) : NW U := ⟨fun q hq => va_Nw.same rfl h (z.1 q hq), fun q hq => va_Nw.same rfl h (z.2 q hq)⟩
/-- a class of the worlds: its number, fields, their words -/
def CLf (ci : Nat) (Cn : String) (T : u_T) (N : Nat) : Prop := vwCl[ci]? = some (Cn, T, N) ∧ (∀ w ∈ u_ws Cn T N, w ∈ TB) ∧ (∃ ty : Nat → FieldType, ∀ k, k < N → parseFieldDescriptor (T k).2.2.1 = some (ty k)) ∧ ∀ a, a < N → ∀ b, b < N → a ≠ b → (T a).2.1 ≠ (T b).2.1
def FLk (own : String) (idx ci j : Nat) (ty : FieldType) (fin : Bool) : Prop := ∃ (Cn : String) (T : u_T) (N : Nat), CLf ci Cn T N ∧ j < N ∧ Cond.fieldLink own idx (T j).1 (T j).2.1 (T j).2.2.1 ∈ TB ∧ parseFieldDescriptor (T j).2.2.1 = some ty ∧ (T j).2.2.2 = fin ∧ (T j).1 = Cn
def FLn (own : String) (idx ci j : Nat) (ty : FieldType) (fin : Bool) : Prop := ∃ (Cn : String) (T : u_T) (N : Nat) (host : String), CLf ci Cn T N ∧ j < N ∧ (own, idx, (T j).1, (T j).2.1, (T j).2.2.1, host) ∈ nFs ∧ parseFieldDescriptor (T j).2.2.1 = some ty ∧ (T j).2.2.2 = fin ∧ (T j).1 = Cn
/-- what a call of y needs of the tables, but for the link of its own place -/
def MtV (y : MethodName) (bytes : ByteArray) (maxL : Nat) (ret : Option FieldType) (n : Nat) : Prop := (Cond.instanceMethod y ∈ TB ∧ Cond.selects y.cls y y ∈ TB ∧ Cond.initialized y.cls ∈ TB ∧ Cond.code y bytes maxL ret ∈ TB) ∧ y.cls ≠ "java/lang/invoke/MethodHandle" ∧ y.cls ≠ "java/lang/invoke/VarHandle" ∧ (parseMethodDescriptor y.desc).map (fun d => d.parameters.length) = some n
def MtS (y : MethodName) (bytes : ByteArray) (maxL : Nat) (ret : Option FieldType) (n : Nat) : Prop := (Cond.static y ∈ TB ∧ Cond.initialized y.cls ∈ TB ∧ Cond.code y bytes maxL ret ∈ TB) ∧ y.cls ≠ "java/lang/invoke/MethodHandle" ∧ y.cls ≠ "java/lang/invoke/VarHandle" ∧ (parseMethodDescriptor y.desc).map (fun d => d.parameters.length) = some n
def MtI (y : MethodName) (bytes : ByteArray) (maxL : Nat) (n : Nat) : Prop := (Cond.instanceMethod y ∈ TB ∧ Cond.initialized y.cls ∈ TB ∧ Cond.code y bytes maxL none ∈ TB) ∧ y.cls ≠ "java/lang/invoke/MethodHandle" ∧ y.cls ≠ "java/lang/invoke/VarHandle" ∧ (parseMethodDescriptor y.desc).map (fun d => d.parameters.length) = some n
theorem mem_pl {α : Type} {l : List α} {a : α} (i : Nat) (h : l[i]? = some a) : a ∈ l := List.mem_of_getElem? h
theorem cl0 : CLf 0 RX0 TX0 19 := ⟨rfl, TB_ws [239, 241, 243, 245, 247, 249, 251, 253, 255, 257, 259, 261, 263, 265, 267, 269, 271, 273, 275] (by decide +kernel) (by decide +kernel), ⟨tyX0, tyX0_ok⟩, nmX0⟩
theorem cl1 : CLf 1 RX1 TX1 4 := ⟨rfl, TB_ws [148, 150, 152, 154] (by decide +kernel) (by decide +kernel), ⟨tyX1, tyX1_ok⟩, nmX1⟩
theorem cl2 : CLf 2 RX2 TX2 3 := ⟨rfl, TB_ws [288, 290, 292] (by decide +kernel) (by decide +kernel), ⟨tyX2, tyX2_ok⟩, nmX2⟩
theorem cl3 : CLf 3 RX3 TX3 7 := ⟨rfl, TB_ws [186, 188, 190, 192, 194, 196, 198] (by decide +kernel) (by decide +kernel), ⟨tyX3, tyX3_ok⟩, nmX3⟩
theorem cl4 : CLf 4 RX4 TX4 3 := ⟨rfl, TB_ws [308, 310, 312] (by decide +kernel) (by decide +kernel), ⟨tyX4, tyX4_ok⟩, nmX4⟩
theorem cl5 : CLf 5 RX5 TX5 4 := ⟨rfl, TB_ws [123, 125, 127, 129] (by decide +kernel) (by decide +kernel), ⟨tyX5, tyX5_ok⟩, nmX5⟩
theorem cl6 : CLf 6 RX6 TX6 15 := ⟨rfl, TB_ws [330, 332, 334, 336, 338, 340, 342, 344, 346, 348, 350, 352, 354, 356, 358] (by decide +kernel) (by decide +kernel), ⟨tyX6, tyX6_ok⟩, nmX6⟩
theorem cl7 : CLf 7 RX7 TX7 37 := ⟨rfl, TB_ws [784, 786, 788, 790, 792, 794, 796, 798, 800, 802, 804, 806, 808, 810, 812, 814, 816, 818, 820, 822, 824, 826, 828, 830, 832, 834, 836, 838, 840, 842, 844, 846, 848, 850, 852, 854, 856] (by decide +kernel) (by decide +kernel), ⟨tyX7, tyX7_ok⟩, nmX7⟩
theorem fl_X5_25 : FLk RX5 25 5 0 .int true := ⟨RX5, TX5, 4, cl5, by decide, TB_of 114 (by decide +kernel) rfl, by decide +kernel, rfl, rfl⟩
theorem fl_X5_9 : FLk RX5 9 5 1 (.array .int) true := ⟨RX5, TX5, 4, cl5, by decide, TB_of 116 (by decide +kernel) rfl, by decide +kernel, rfl, rfl⟩
theorem fl_X5_15 : FLk RX5 15 5 3 .int false := ⟨RX5, TX5, 4, cl5, by decide, TB_of 121 (by decide +kernel) rfl, by decide +kernel, rfl, rfl⟩
theorem fl_X1_9 : FLk RX1 9 1 0 (.array .int) true := ⟨RX1, TX1, 4, cl1, by decide, TB_of 139 (by decide +kernel) rfl, by decide +kernel, rfl, rfl⟩
theorem fl_X1_15 : FLk RX1 15 1 1 (.array .int) true := ⟨RX1, TX1, 4, cl1, by decide, TB_of 141 (by decide +kernel) rfl, by decide +kernel, rfl, rfl⟩
theorem fl_X1_18 : FLk RX1 18 1 2 (.array .int) true := ⟨RX1, TX1, 4, cl1, by decide, TB_of 143 (by decide +kernel) rfl, by decide +kernel, rfl, rfl⟩
theorem fl_X1_25 : FLk RX1 25 1 3 .int false := ⟨RX1, TX1, 4, cl1, by decide, TB_of 145 (by decide +kernel) rfl, by decide +kernel, rfl, rfl⟩
theorem fl_X3_9 : FLk RX3 9 3 0 (.array .int) true := ⟨RX3, TX3, 7, cl3, by decide, TB_of 166 (by decide +kernel) rfl, by decide +kernel, rfl, rfl⟩
theorem fl_X3_15 : FLk RX3 15 3 1 (.array .int) true := ⟨RX3, TX3, 7, cl3, by decide, TB_of 169 (by decide +kernel) rfl, by decide +kernel, rfl, rfl⟩
theorem fl_X3_18 : FLk RX3 18 3 2 (.array .int) true := ⟨RX3, TX3, 7, cl3, by decide, TB_of 172 (by decide +kernel) rfl, by decide +kernel, rfl, rfl⟩
theorem fl_X3_21 : FLk RX3 21 3 3 (.array .int) true := ⟨RX3, TX3, 7, cl3, by decide, TB_of 174 (by decide +kernel) rfl, by decide +kernel, rfl, rfl⟩
theorem fl_X3_40 : FLk RX3 40 3 4 .int false := ⟨RX3, TX3, 7, cl3, by decide, TB_of 177 (by decide +kernel) rfl, by decide +kernel, rfl, rfl⟩
theorem fl_X3_24 : FLk RX3 24 3 5 .int false := ⟨RX3, TX3, 7, cl3, by decide, TB_of 180 (by decide +kernel) rfl, by decide +kernel, rfl, rfl⟩
theorem fl_X3_43 : FLk RX3 43 3 6 .int false := ⟨RX3, TX3, 7, cl3, by decide, TB_of 184 (by decide +kernel) rfl, by decide +kernel, rfl, rfl⟩
theorem fl_X0_9 : FLk RX0 9 0 0 (.array .int) true := ⟨RX0, TX0, 19, cl0, by decide, TB_of 207 (by decide +kernel) rfl, by decide +kernel, rfl, rfl⟩
theorem fl_X0_15 : FLk RX0 15 0 1 (.array .int) true := ⟨RX0, TX0, 19, cl0, by decide, TB_of 208 (by decide +kernel) rfl, by decide +kernel, rfl, rfl⟩
theorem fl_X0_18 : FLk RX0 18 0 2 (.array .int) true := ⟨RX0, TX0, 19, cl0, by decide, TB_of 209 (by decide +kernel) rfl, by decide +kernel, rfl, rfl⟩
theorem fl_X0_21 : FLk RX0 21 0 3 (.array .int) true := ⟨RX0, TX0, 19, cl0, by decide, TB_of 210 (by decide +kernel) rfl, by decide +kernel, rfl, rfl⟩
theorem fl_X0_24 : FLk RX0 24 0 4 (.array .int) true := ⟨RX0, TX0, 19, cl0, by decide, TB_of 211 (by decide +kernel) rfl, by decide +kernel, rfl, rfl⟩
theorem fl_X0_27 : FLk RX0 27 0 5 (.array .int) true := ⟨RX0, TX0, 19, cl0, by decide, TB_of 213 (by decide +kernel) rfl, by decide +kernel, rfl, rfl⟩
theorem fl_X0_30 : FLk RX0 30 0 6 (.array .int) true := ⟨RX0, TX0, 19, cl0, by decide, TB_of 215 (by decide +kernel) rfl, by decide +kernel, rfl, rfl⟩
theorem fl_X0_33 : FLk RX0 33 0 7 (.array .int) true := ⟨RX0, TX0, 19, cl0, by decide, TB_of 217 (by decide +kernel) rfl, by decide +kernel, rfl, rfl⟩
theorem fl_X0_36 : FLk RX0 36 0 8 (.array .int) true := ⟨RX0, TX0, 19, cl0, by decide, TB_of 219 (by decide +kernel) rfl, by decide +kernel, rfl, rfl⟩
theorem fl_X0_39 : FLk RX0 39 0 9 (.array .int) true := ⟨RX0, TX0, 19, cl0, by decide, TB_of 221 (by decide +kernel) rfl, by decide +kernel, rfl, rfl⟩
theorem fl_X0_42 : FLk RX0 42 0 10 (.array .int) true := ⟨RX0, TX0, 19, cl0, by decide, TB_of 223 (by decide +kernel) rfl, by decide +kernel, rfl, rfl⟩
theorem fl_X0_45 : FLk RX0 45 0 11 (.array .int) true := ⟨RX0, TX0, 19, cl0, by decide, TB_of 225 (by decide +kernel) rfl, by decide +kernel, rfl, rfl⟩
theorem fl_X0_48 : FLk RX0 48 0 12 (.array .int) true := ⟨RX0, TX0, 19, cl0, by decide, TB_of 227 (by decide +kernel) rfl, by decide +kernel, rfl, rfl⟩
theorem fl_X0_51 : FLk RX0 51 0 13 (.array .int) true := ⟨RX0, TX0, 19, cl0, by decide, TB_of 229 (by decide +kernel) rfl, by decide +kernel, rfl, rfl⟩
theorem fl_X0_91 : FLk RX0 91 0 14 .int false := ⟨RX0, TX0, 19, cl0, by decide, TB_of 230 (by decide +kernel) rfl, by decide +kernel, rfl, rfl⟩
theorem fl_X0_71 : FLk RX0 71 0 15 .int false := ⟨RX0, TX0, 19, cl0, by decide, TB_of 231 (by decide +kernel) rfl, by decide +kernel, rfl, rfl⟩
theorem fl_X0_109 : FLk RX0 109 0 16 .int false := ⟨RX0, TX0, 19, cl0, by decide, TB_of 233 (by decide +kernel) rfl, by decide +kernel, rfl, rfl⟩
theorem fl_X0_112 : FLk RX0 112 0 17 .int false := ⟨RX0, TX0, 19, cl0, by decide, TB_of 235 (by decide +kernel) rfl, by decide +kernel, rfl, rfl⟩
theorem fl_X0_115 : FLk RX0 115 0 18 .int false := ⟨RX0, TX0, 19, cl0, by decide, TB_of 237 (by decide +kernel) rfl, by decide +kernel, rfl, rfl⟩
theorem fl_X2_9 : FLk RX2 9 2 0 (.array .int) true := ⟨RX2, TX2, 3, cl2, by decide, TB_of 284 (by decide +kernel) rfl, by decide +kernel, rfl, rfl⟩
theorem fl_X2_15 : FLk RX2 15 2 1 (.array .int) true := ⟨RX2, TX2, 3, cl2, by decide, TB_of 285 (by decide +kernel) rfl, by decide +kernel, rfl, rfl⟩
theorem fl_X2_18 : FLk RX2 18 2 2 .int false := ⟨RX2, TX2, 3, cl2, by decide, TB_of 286 (by decide +kernel) rfl, by decide +kernel, rfl, rfl⟩
theorem fl_X4_9 : FLk RX4 9 4 0 (.array .int) true := ⟨RX4, TX4, 3, cl4, by decide, TB_of 302 (by decide +kernel) rfl, by decide +kernel, rfl, rfl⟩
theorem fl_X4_15 : FLk RX4 15 4 1 .int false := ⟨RX4, TX4, 3, cl4, by decide, TB_of 304 (by decide +kernel) rfl, by decide +kernel, rfl, rfl⟩
theorem fl_X4_19 : FLk RX4 19 4 2 .int false := ⟨RX4, TX4, 3, cl4, by decide, TB_of 306 (by decide +kernel) rfl, by decide +kernel, rfl, rfl⟩
theorem fl_X6_14 : FLk RX6 14 6 0 (.array (.object "MayPole$Text")) true := ⟨RX6, TX6, 15, cl6, by decide, TB_of 315 (by decide +kernel) rfl, by decide +kernel, rfl, rfl⟩
theorem fl_X6_21 : FLk RX6 21 6 1 (.object "MayPole$Events") true := ⟨RX6, TX6, 15, cl6, by decide, TB_of 316 (by decide +kernel) rfl, by decide +kernel, rfl, rfl⟩
theorem fl_X6_28 : FLk RX6 28 6 2 (.object "MayPole$Setting") true := ⟨RX6, TX6, 15, cl6, by decide, TB_of 317 (by decide +kernel) rfl, by decide +kernel, rfl, rfl⟩
theorem fl_X6_32 : FLk RX6 32 6 3 (.object "MayPole$Setting") true := ⟨RX6, TX6, 15, cl6, by decide, TB_of 318 (by decide +kernel) rfl, by decide +kernel, rfl, rfl⟩
theorem fl_X6_38 : FLk RX6 38 6 4 (.object "MayPole$Dance") true := ⟨RX6, TX6, 15, cl6, by decide, TB_of 319 (by decide +kernel) rfl, by decide +kernel, rfl, rfl⟩
theorem fl_X6_42 : FLk RX6 42 6 5 (.object "MayPole$Dance") true := ⟨RX6, TX6, 15, cl6, by decide, TB_of 320 (by decide +kernel) rfl, by decide +kernel, rfl, rfl⟩
theorem fl_X6_48 : FLk RX6 48 6 6 (.object "MayPole$Seen") true := ⟨RX6, TX6, 15, cl6, by decide, TB_of 321 (by decide +kernel) rfl, by decide +kernel, rfl, rfl⟩
theorem fl_X6_55 : FLk RX6 55 6 7 (.array (.object "MayPole$Sheet")) true := ⟨RX6, TX6, 15, cl6, by decide, TB_of 322 (by decide +kernel) rfl, by decide +kernel, rfl, rfl⟩
theorem fl_X6_59 : FLk RX6 59 6 8 (.array .int) true := ⟨RX6, TX6, 15, cl6, by decide, TB_of 323 (by decide +kernel) rfl, by decide +kernel, rfl, rfl⟩
theorem fl_X6_63 : FLk RX6 63 6 9 (.array .int) true := ⟨RX6, TX6, 15, cl6, by decide, TB_of 324 (by decide +kernel) rfl, by decide +kernel, rfl, rfl⟩
theorem fl_X6_66 : FLk RX6 66 6 10 (.array .int) true := ⟨RX6, TX6, 15, cl6, by decide, TB_of 325 (by decide +kernel) rfl, by decide +kernel, rfl, rfl⟩
theorem fl_X6_388 : FLk RX6 388 6 11 .boolean false := ⟨RX6, TX6, 15, cl6, by decide, TB_of 326 (by decide +kernel) rfl, by decide +kernel, rfl, rfl⟩
theorem fl_X6_231 : FLk RX6 231 6 12 .boolean false := ⟨RX6, TX6, 15, cl6, by decide, TB_of 327 (by decide +kernel) rfl, by decide +kernel, rfl, rfl⟩
theorem fl_X6_391 : FLk RX6 391 6 13 .boolean false := ⟨RX6, TX6, 15, cl6, by decide, TB_of 328 (by decide +kernel) rfl, by decide +kernel, rfl, rfl⟩
theorem fl_X6_278 : FLk RX6 278 6 14 .int false := ⟨RX6, TX6, 15, cl6, by decide, TB_of 329 (by decide +kernel) rfl, by decide +kernel, rfl, rfl⟩
theorem fl_X7_7 : FLk RX7 7 7 0 (.array .int) true := ⟨RX7, TX7, 37, cl7, by decide, TB_of 747 (by decide +kernel) rfl, by decide +kernel, rfl, rfl⟩
theorem fl_X7_13 : FLk RX7 13 7 1 (.array .int) true := ⟨RX7, TX7, 37, cl7, by decide, TB_of 748 (by decide +kernel) rfl, by decide +kernel, rfl, rfl⟩
theorem fl_X7_16 : FLk RX7 16 7 2 (.array .int) true := ⟨RX7, TX7, 37, cl7, by decide, TB_of 749 (by decide +kernel) rfl, by decide +kernel, rfl, rfl⟩
theorem fl_X7_19 : FLk RX7 19 7 3 (.array .int) true := ⟨RX7, TX7, 37, cl7, by decide, TB_of 750 (by decide +kernel) rfl, by decide +kernel, rfl, rfl⟩
theorem fl_X7_92 : FLk RX7 92 7 4 .int false := ⟨RX7, TX7, 37, cl7, by decide, TB_of 751 (by decide +kernel) rfl, by decide +kernel, rfl, rfl⟩
theorem fl_X7_22 : FLk RX7 22 7 5 (.array .int) true := ⟨RX7, TX7, 37, cl7, by decide, TB_of 752 (by decide +kernel) rfl, by decide +kernel, rfl, rfl⟩
theorem fl_X7_25 : FLk RX7 25 7 6 (.array .int) true := ⟨RX7, TX7, 37, cl7, by decide, TB_of 753 (by decide +kernel) rfl, by decide +kernel, rfl, rfl⟩
theorem fl_X7_129 : FLk RX7 129 7 7 .int false := ⟨RX7, TX7, 37, cl7, by decide, TB_of 754 (by decide +kernel) rfl, by decide +kernel, rfl, rfl⟩
theorem fl_X7_28 : FLk RX7 28 7 8 (.array .int) true := ⟨RX7, TX7, 37, cl7, by decide, TB_of 755 (by decide +kernel) rfl, by decide +kernel, rfl, rfl⟩
theorem fl_X7_139 : FLk RX7 139 7 9 .int false := ⟨RX7, TX7, 37, cl7, by decide, TB_of 756 (by decide +kernel) rfl, by decide +kernel, rfl, rfl⟩
theorem fl_X7_31 : FLk RX7 31 7 10 (.array .int) true := ⟨RX7, TX7, 37, cl7, by decide, TB_of 757 (by decide +kernel) rfl, by decide +kernel, rfl, rfl⟩
theorem fl_X7_82 : FLk RX7 82 7 11 .int false := ⟨RX7, TX7, 37, cl7, by decide, TB_of 758 (by decide +kernel) rfl, by decide +kernel, rfl, rfl⟩
theorem fl_X7_167 : FLk RX7 167 7 12 .int false := ⟨RX7, TX7, 37, cl7, by decide, TB_of 759 (by decide +kernel) rfl, by decide +kernel, rfl, rfl⟩
theorem fl_X7_34 : FLk RX7 34 7 13 (.array .int) true := ⟨RX7, TX7, 37, cl7, by decide, TB_of 760 (by decide +kernel) rfl, by decide +kernel, rfl, rfl⟩
theorem fl_X7_172 : FLk RX7 172 7 14 .int false := ⟨RX7, TX7, 37, cl7, by decide, TB_of 761 (by decide +kernel) rfl, by decide +kernel, rfl, rfl⟩
theorem fl_X7_37 : FLk RX7 37 7 15 (.array .int) true := ⟨RX7, TX7, 37, cl7, by decide, TB_of 762 (by decide +kernel) rfl, by decide +kernel, rfl, rfl⟩
theorem fl_X7_40 : FLk RX7 40 7 16 (.array .int) true := ⟨RX7, TX7, 37, cl7, by decide, TB_of 763 (by decide +kernel) rfl, by decide +kernel, rfl, rfl⟩
theorem fl_X7_43 : FLk RX7 43 7 17 (.array .int) true := ⟨RX7, TX7, 37, cl7, by decide, TB_of 764 (by decide +kernel) rfl, by decide +kernel, rfl, rfl⟩
theorem fl_X7_46 : FLk RX7 46 7 18 (.array .int) true := ⟨RX7, TX7, 37, cl7, by decide, TB_of 765 (by decide +kernel) rfl, by decide +kernel, rfl, rfl⟩
theorem fl_X7_191 : FLk RX7 191 7 19 .int false := ⟨RX7, TX7, 37, cl7, by decide, TB_of 766 (by decide +kernel) rfl, by decide +kernel, rfl, rfl⟩
theorem fl_X7_178 : FLk RX7 178 7 20 .int false := ⟨RX7, TX7, 37, cl7, by decide, TB_of 767 (by decide +kernel) rfl, by decide +kernel, rfl, rfl⟩
theorem fl_X7_49 : FLk RX7 49 7 21 (.array .int) true := ⟨RX7, TX7, 37, cl7, by decide, TB_of 768 (by decide +kernel) rfl, by decide +kernel, rfl, rfl⟩
theorem fl_X7_52 : FLk RX7 52 7 22 (.array .int) true := ⟨RX7, TX7, 37, cl7, by decide, TB_of 769 (by decide +kernel) rfl, by decide +kernel, rfl, rfl⟩
theorem fl_X7_55 : FLk RX7 55 7 23 (.array .int) true := ⟨RX7, TX7, 37, cl7, by decide, TB_of 770 (by decide +kernel) rfl, by decide +kernel, rfl, rfl⟩
theorem fl_X7_58 : FLk RX7 58 7 24 (.array .int) true := ⟨RX7, TX7, 37, cl7, by decide, TB_of 771 (by decide +kernel) rfl, by decide +kernel, rfl, rfl⟩
theorem fl_X7_194 : FLk RX7 194 7 25 .int false := ⟨RX7, TX7, 37, cl7, by decide, TB_of 772 (by decide +kernel) rfl, by decide +kernel, rfl, rfl⟩
theorem fl_X7_188 : FLk RX7 188 7 26 .int false := ⟨RX7, TX7, 37, cl7, by decide, TB_of 773 (by decide +kernel) rfl, by decide +kernel, rfl, rfl⟩
theorem fl_X7_181 : FLk RX7 181 7 27 .int false := ⟨RX7, TX7, 37, cl7, by decide, TB_of 774 (by decide +kernel) rfl, by decide +kernel, rfl, rfl⟩
theorem fl_X7_61 : FLk RX7 61 7 28 (.array .int) true := ⟨RX7, TX7, 37, cl7, by decide, TB_of 775 (by decide +kernel) rfl, by decide +kernel, rfl, rfl⟩
theorem fl_X7_64 : FLk RX7 64 7 29 (.array .int) true := ⟨RX7, TX7, 37, cl7, by decide, TB_of 776 (by decide +kernel) rfl, by decide +kernel, rfl, rfl⟩
theorem fl_X7_67 : FLk RX7 67 7 30 (.array .int) true := ⟨RX7, TX7, 37, cl7, by decide, TB_of 777 (by decide +kernel) rfl, by decide +kernel, rfl, rfl⟩
theorem fl_X7_70 : FLk RX7 70 7 31 (.array .int) true := ⟨RX7, TX7, 37, cl7, by decide, TB_of 778 (by decide +kernel) rfl, by decide +kernel, rfl, rfl⟩
theorem fl_X7_73 : FLk RX7 73 7 32 (.array .int) true := ⟨RX7, TX7, 37, cl7, by decide, TB_of 779 (by decide +kernel) rfl, by decide +kernel, rfl, rfl⟩
theorem fl_X7_290 : FLk RX7 290 7 33 .int false := ⟨RX7, TX7, 37, cl7, by decide, TB_of 780 (by decide +kernel) rfl, by decide +kernel, rfl, rfl⟩
theorem fl_X7_76 : FLk RX7 76 7 34 (.array .int) true := ⟨RX7, TX7, 37, cl7, by decide, TB_of 781 (by decide +kernel) rfl, by decide +kernel, rfl, rfl⟩
theorem fl_X7_79 : FLk RX7 79 7 35 (.array .int) true := ⟨RX7, TX7, 37, cl7, by decide, TB_of 782 (by decide +kernel) rfl, by decide +kernel, rfl, rfl⟩
theorem fl_X7_327 : FLk RX7 327 7 36 .int false := ⟨RX7, TX7, 37, cl7, by decide, TB_of 783 (by decide +kernel) rfl, by decide +kernel, rfl, rfl⟩
theorem fl_X6_77 : FLn RX6 77 5 0 .int true := ⟨RX5, TX5, 4, "MayPole", cl5, by decide, mem_pl 0 rfl, by decide +kernel, rfl, rfl⟩
theorem fl_X6_80 : FLn RX6 80 5 1 (.array .int) true := ⟨RX5, TX5, 4, "MayPole", cl5, by decide, mem_pl 1 rfl, by decide +kernel, rfl, rfl⟩
theorem fl_X3_49 : FLn RX3 49 5 1 (.array .int) true := ⟨RX5, TX5, 4, "MayPole", cl5, by decide, mem_pl 2 rfl, by decide +kernel, rfl, rfl⟩
theorem fl_X6_73 : FLn RX6 73 5 2 .int false := ⟨RX5, TX5, 4, "MayPole", cl5, by decide, mem_pl 3 rfl, by decide +kernel, rfl, rfl⟩
theorem fl_X3_46 : FLn RX3 46 5 2 .int false := ⟨RX5, TX5, 4, "MayPole", cl5, by decide, mem_pl 4 rfl, by decide +kernel, rfl, rfl⟩
theorem fl_X6_86 : FLn RX6 86 5 3 .int false := ⟨RX5, TX5, 4, "MayPole", cl5, by decide, mem_pl 5 rfl, by decide +kernel, rfl, rfl⟩
theorem fl_X0_127 : FLn RX0 127 1 0 (.array .int) true := ⟨RX1, TX1, 4, "MayPole", cl1, by decide, mem_pl 6 rfl, by decide +kernel, rfl, rfl⟩
theorem fl_X0_130 : FLn RX0 130 1 1 (.array .int) true := ⟨RX1, TX1, 4, "MayPole", cl1, by decide, mem_pl 7 rfl, by decide +kernel, rfl, rfl⟩
theorem fl_X0_133 : FLn RX0 133 1 2 (.array .int) true := ⟨RX1, TX1, 4, "MayPole", cl1, by decide, mem_pl 8 rfl, by decide +kernel, rfl, rfl⟩
theorem fl_X0_118 : FLn RX0 118 1 3 .int false := ⟨RX1, TX1, 4, "MayPole", cl1, by decide, mem_pl 9 rfl, by decide +kernel, rfl, rfl⟩
theorem fl_X6_115 : FLn RX6 115 1 3 .int false := ⟨RX1, TX1, 4, "MayPole", cl1, by decide, mem_pl 10 rfl, by decide +kernel, rfl, rfl⟩
theorem fl_X0_92 : FLn RX0 92 3 0 (.array .int) true := ⟨RX3, TX3, 7, "MayPole", cl3, by decide, mem_pl 11 rfl, by decide +kernel, rfl, rfl⟩
theorem fl_X6_92 : FLn RX6 92 3 0 (.array .int) true := ⟨RX3, TX3, 7, "MayPole", cl3, by decide, mem_pl 12 rfl, by decide +kernel, rfl, rfl⟩
theorem fl_X0_99 : FLn RX0 99 3 1 (.array .int) true := ⟨RX3, TX3, 7, "MayPole", cl3, by decide, mem_pl 13 rfl, by decide +kernel, rfl, rfl⟩
theorem fl_X6_95 : FLn RX6 95 3 1 (.array .int) true := ⟨RX3, TX3, 7, "MayPole", cl3, by decide, mem_pl 14 rfl, by decide +kernel, rfl, rfl⟩
theorem fl_X6_98 : FLn RX6 98 3 2 (.array .int) true := ⟨RX3, TX3, 7, "MayPole", cl3, by decide, mem_pl 15 rfl, by decide +kernel, rfl, rfl⟩
theorem fl_X0_68 : FLn RX0 68 3 3 (.array .int) true := ⟨RX3, TX3, 7, "MayPole", cl3, by decide, mem_pl 16 rfl, by decide +kernel, rfl, rfl⟩
theorem fl_X6_104 : FLn RX6 104 3 3 (.array .int) true := ⟨RX3, TX3, 7, "MayPole", cl3, by decide, mem_pl 17 rfl, by decide +kernel, rfl, rfl⟩
theorem fl_X0_88 : FLn RX0 88 3 4 .int false := ⟨RX3, TX3, 7, "MayPole", cl3, by decide, mem_pl 18 rfl, by decide +kernel, rfl, rfl⟩
theorem fl_X6_193 : FLn RX6 193 3 4 .int false := ⟨RX3, TX3, 7, "MayPole", cl3, by decide, mem_pl 19 rfl, by decide +kernel, rfl, rfl⟩
theorem fl_X0_100 : FLn RX0 100 3 5 .int false := ⟨RX3, TX3, 7, "MayPole", cl3, by decide, mem_pl 20 rfl, by decide +kernel, rfl, rfl⟩
theorem fl_X6_107 : FLn RX6 107 3 5 .int false := ⟨RX3, TX3, 7, "MayPole", cl3, by decide, mem_pl 21 rfl, by decide +kernel, rfl, rfl⟩
theorem fl_X0_58 : FLn RX0 58 3 6 .int false := ⟨RX3, TX3, 7, "MayPole", cl3, by decide, mem_pl 22 rfl, by decide +kernel, rfl, rfl⟩
theorem fl_X6_217 : FLn RX6 217 3 6 .int false := ⟨RX3, TX3, 7, "MayPole", cl3, by decide, mem_pl 23 rfl, by decide +kernel, rfl, rfl⟩
theorem fl_X6_199 : FLn RX6 199 0 4 (.array .int) true := ⟨RX0, TX0, 19, "MayPole", cl0, by decide, mem_pl 24 rfl, by decide +kernel, rfl, rfl⟩
theorem fl_X6_149 : FLn RX6 149 0 5 (.array .int) true := ⟨RX0, TX0, 19, "MayPole", cl0, by decide, mem_pl 25 rfl, by decide +kernel, rfl, rfl⟩
theorem fl_X6_152 : FLn RX6 152 0 6 (.array .int) true := ⟨RX0, TX0, 19, "MayPole", cl0, by decide, mem_pl 26 rfl, by decide +kernel, rfl, rfl⟩
theorem fl_X6_155 : FLn RX6 155 0 7 (.array .int) true := ⟨RX0, TX0, 19, "MayPole", cl0, by decide, mem_pl 27 rfl, by decide +kernel, rfl, rfl⟩
theorem fl_X6_161 : FLn RX6 161 0 8 (.array .int) true := ⟨RX0, TX0, 19, "MayPole", cl0, by decide, mem_pl 28 rfl, by decide +kernel, rfl, rfl⟩
theorem fl_X6_164 : FLn RX6 164 0 9 (.array .int) true := ⟨RX0, TX0, 19, "MayPole", cl0, by decide, mem_pl 29 rfl, by decide +kernel, rfl, rfl⟩
theorem fl_X6_170 : FLn RX6 170 0 10 (.array .int) true := ⟨RX0, TX0, 19, "MayPole", cl0, by decide, mem_pl 30 rfl, by decide +kernel, rfl, rfl⟩
theorem fl_X6_173 : FLn RX6 173 0 11 (.array .int) true := ⟨RX0, TX0, 19, "MayPole", cl0, by decide, mem_pl 31 rfl, by decide +kernel, rfl, rfl⟩
theorem fl_X6_176 : FLn RX6 176 0 12 (.array .int) true := ⟨RX0, TX0, 19, "MayPole", cl0, by decide, mem_pl 32 rfl, by decide +kernel, rfl, rfl⟩
theorem fl_X6_289 : FLn RX6 289 0 15 .int false := ⟨RX0, TX0, 19, "MayPole", cl0, by decide, mem_pl 33 rfl, by decide +kernel, rfl, rfl⟩
theorem fl_X6_167 : FLn RX6 167 0 16 .int false := ⟨RX0, TX0, 19, "MayPole", cl0, by decide, mem_pl 34 rfl, by decide +kernel, rfl, rfl⟩
theorem fl_X6_183 : FLn RX6 183 0 17 .int false := ⟨RX0, TX0, 19, "MayPole", cl0, by decide, mem_pl 35 rfl, by decide +kernel, rfl, rfl⟩
theorem fl_X6_186 : FLn RX6 186 0 18 .int false := ⟨RX0, TX0, 19, "MayPole", cl0, by decide, mem_pl 36 rfl, by decide +kernel, rfl, rfl⟩
theorem fl_X6_223 : FLn RX6 223 2 2 .int false := ⟨RX2, TX2, 3, "MayPole", cl2, by decide, mem_pl 37 rfl, by decide +kernel, rfl, rfl⟩
theorem fl_X6_138 : FLn RX6 138 4 0 (.array .int) true := ⟨RX4, TX4, 3, "MayPole", cl4, by decide, mem_pl 38 rfl, by decide +kernel, rfl, rfl⟩
theorem fl_X6_128 : FLn RX6 128 4 1 .int false := ⟨RX4, TX4, 3, "MayPole", cl4, by decide, mem_pl 39 rfl, by decide +kernel, rfl, rfl⟩
theorem fl_X6_135 : FLn RX6 135 4 2 .int false := ⟨RX4, TX4, 3, "MayPole", cl4, by decide, mem_pl 40 rfl, by decide +kernel, rfl, rfl⟩
theorem mtX0_init : MtI yX0_init cX0_init 1 0 := ⟨⟨TB_of 204 (by decide +kernel) rfl, TB_of 90 (by decide +kernel) rfl, TB_of 205 (by decide +kernel) rfl⟩, by decide +kernel⟩
theorem mtX0_play : MtV yX0_play cX0_play 5 none 2 := ⟨⟨TB_of 467 (by decide +kernel) rfl, TB_of 10 (by decide +kernel) rfl, TB_of 90 (by decide +kernel) rfl, TB_of 468 (by decide +kernel) rfl⟩, by decide +kernel⟩
theorem mtX0_stand : MtV yX0_stand cX0_stand 2 none 1 := ⟨⟨TB_of 471 (by decide +kernel) rfl, TB_of 11 (by decide +kernel) rfl, TB_of 90 (by decide +kernel) rfl, TB_of 472 (by decide +kernel) rfl⟩, by decide +kernel⟩
theorem mtX0_spread : MtV yX0_spread cX0_spread 4 none 2 := ⟨⟨TB_of 479 (by decide +kernel) rfl, TB_of 12 (by decide +kernel) rfl, TB_of 90 (by decide +kernel) rfl, TB_of 480 (by decide +kernel) rfl⟩, by decide +kernel⟩
theorem mtX0_turn : MtV yX0_turn cX0_turn 2 none 0 := ⟨⟨TB_of 484 (by decide +kernel) rfl, TB_of 13 (by decide +kernel) rfl, TB_of 90 (by decide +kernel) rfl, TB_of 485 (by decide +kernel) rfl⟩, by decide +kernel⟩
theorem mtX0_goOn : MtV yX0_goOn cX0_goOn 4 none 1 := ⟨⟨TB_of 488 (by decide +kernel) rfl, TB_of 14 (by decide +kernel) rfl, TB_of 90 (by decide +kernel) rfl, TB_of 489 (by decide +kernel) rfl⟩, by decide +kernel⟩
theorem mtX0_meetAll : MtV yX0_meetAll cX0_meetAll 5 none 2 := ⟨⟨TB_of 492 (by decide +kernel) rfl, TB_of 15 (by decide +kernel) rfl, TB_of 90 (by decide +kernel) rfl, TB_of 493 (by decide +kernel) rfl⟩, by decide +kernel⟩
theorem mtX0_haveMet : MtV yX0_haveMet cX0_haveMet 3 (some .boolean) 2 := ⟨⟨TB_of 496 (by decide +kernel) rfl, TB_of 16 (by decide +kernel) rfl, TB_of 90 (by decide +kernel) rfl, TB_of 497 (by decide +kernel) rfl⟩, by decide +kernel⟩
theorem mtX0_cross : MtV yX0_cross cX0_cross 11 none 4 := ⟨⟨TB_of 500 (by decide +kernel) rfl, TB_of 17 (by decide +kernel) rfl, TB_of 90 (by decide +kernel) rfl, TB_of 501 (by decide +kernel) rfl⟩, by decide +kernel⟩
theorem mtX0_note : MtV yX0_note cX0_note 3 none 1 := ⟨⟨TB_of 504 (by decide +kernel) rfl, TB_of 18 (by decide +kernel) rfl, TB_of 90 (by decide +kernel) rfl, TB_of 505 (by decide +kernel) rfl⟩, by decide +kernel⟩
theorem mtX0_allMet : MtV yX0_allMet cX0_allMet 3 (some .int) 0 := ⟨⟨TB_of 527 (by decide +kernel) rfl, TB_of 19 (by decide +kernel) rfl, TB_of 90 (by decide +kernel) rfl, TB_of 528 (by decide +kernel) rfl⟩, by decide +kernel⟩
theorem mtX0_bareBeats : MtV yX0_bareBeats cX0_bareBeats 3 (some .int) 0 := ⟨⟨TB_of 586 (by decide +kernel) rfl, TB_of 25 (by decide +kernel) rfl, TB_of 90 (by decide +kernel) rfl, TB_of 587 (by decide +kernel) rfl⟩, by decide +kernel⟩
theorem mtX0_timesOver : MtV yX0_timesOver cX0_timesOver 4 (some .int) 1 := ⟨⟨TB_of 547 (by decide +kernel) rfl, TB_of 21 (by decide +kernel) rfl, TB_of 90 (by decide +kernel) rfl, TB_of 548 (by decide +kernel) rfl⟩, by decide +kernel⟩
theorem mtX0_longestRun : MtV yX0_longestRun cX0_longestRun 7 (some .int) 2 := ⟨⟨TB_of 535 (by decide +kernel) rfl, TB_of 20 (by decide +kernel) rfl, TB_of 90 (by decide +kernel) rfl, TB_of 536 (by decide +kernel) rfl⟩, by decide +kernel⟩
theorem mtX1_init : MtI yX1_init cX1_init 1 0 := ⟨⟨TB_of 136 (by decide +kernel) rfl, TB_of 87 (by decide +kernel) rfl, TB_of 137 (by decide +kernel) rfl⟩, by decide +kernel⟩
theorem mtX1_mayBe : MtV yX1_mayBe cX1_mayBe 4 (some .boolean) 3 := ⟨⟨TB_of 430 (by decide +kernel) rfl, TB_of 5 (by decide +kernel) rfl, TB_of 87 (by decide +kernel) rfl, TB_of 431 (by decide +kernel) rfl⟩, by decide +kernel⟩
theorem mtX1_put : MtV yX1_put cX1_put 4 none 3 := ⟨⟨TB_of 435 (by decide +kernel) rfl, TB_of 6 (by decide +kernel) rfl, TB_of 87 (by decide +kernel) rfl, TB_of 436 (by decide +kernel) rfl⟩, by decide +kernel⟩
theorem mtX2_init : MtI yX2_init cX2_init 1 0 := ⟨⟨TB_of 281 (by decide +kernel) rfl, TB_of 91 (by decide +kernel) rfl, TB_of 282 (by decide +kernel) rfl⟩, by decide +kernel⟩
theorem mtX2_put : MtV yX2_put cX2_put 3 none 2 := ⟨⟨TB_of 594 (by decide +kernel) rfl, TB_of 26 (by decide +kernel) rfl, TB_of 91 (by decide +kernel) rfl, TB_of 595 (by decide +kernel) rfl⟩, by decide +kernel⟩
theorem mtX2_comesOut : MtV yX2_comesOut cX2_comesOut 4 (some .boolean) 2 := ⟨⟨TB_of 606 (by decide +kernel) rfl, TB_of 27 (by decide +kernel) rfl, TB_of 91 (by decide +kernel) rfl, TB_of 607 (by decide +kernel) rfl⟩, by decide +kernel⟩
theorem mtX3_init : MtI yX3_init cX3_init 1 0 := ⟨⟨TB_of 160 (by decide +kernel) rfl, TB_of 88 (by decide +kernel) rfl, TB_of 161 (by decide +kernel) rfl⟩, by decide +kernel⟩
theorem mtX3_become : MtV yX3_become cX3_become 2 none 1 := ⟨⟨TB_of 559 (by decide +kernel) rfl, TB_of 22 (by decide +kernel) rfl, TB_of 88 (by decide +kernel) rfl, TB_of 560 (by decide +kernel) rfl⟩, by decide +kernel⟩
theorem mtX3_takeDancers : MtV yX3_takeDancers cX3_takeDancers 6 (some .int) 1 := ⟨⟨TB_of 374 (by decide +kernel) rfl, TB_of 1 (by decide +kernel) rfl, TB_of 88 (by decide +kernel) rfl, TB_of 375 (by decide +kernel) rfl⟩, by decide +kernel⟩
theorem mtX3_goesOn : MtS yX3_goesOn cX3_goesOn 3 (some .boolean) 3 := ⟨⟨TB_of 377 (by decide +kernel) rfl, TB_of 88 (by decide +kernel) rfl, TB_of 378 (by decide +kernel) rfl⟩, by decide +kernel⟩
theorem mtX3_takeSteps : MtV yX3_takeSteps cX3_takeSteps 4 (some .int) 1 := ⟨⟨TB_of 384 (by decide +kernel) rfl, TB_of 2 (by decide +kernel) rfl, TB_of 88 (by decide +kernel) rfl, TB_of 385 (by decide +kernel) rfl⟩, by decide +kernel⟩
theorem mtX3_stepOf : MtS yX3_stepOf cX3_stepOf 1 (some .int) 1 := ⟨⟨TB_of 387 (by decide +kernel) rfl, TB_of 88 (by decide +kernel) rfl, TB_of 388 (by decide +kernel) rfl⟩, by decide +kernel⟩
theorem mtX3_placesBeside : MtV yX3_placesBeside cX3_placesBeside 4 (some .int) 1 := ⟨⟨TB_of 568 (by decide +kernel) rfl, TB_of 23 (by decide +kernel) rfl, TB_of 88 (by decide +kernel) rfl, TB_of 569 (by decide +kernel) rfl⟩, by decide +kernel⟩
theorem mtX4_init : MtI yX4_init cX4_init 1 0 := ⟨⟨TB_of 299 (by decide +kernel) rfl, TB_of 92 (by decide +kernel) rfl, TB_of 300 (by decide +kernel) rfl⟩, by decide +kernel⟩
theorem mtX4_holds : MtV yX4_holds cX4_holds 3 (some .boolean) 2 := ⟨⟨TB_of 671 (by decide +kernel) rfl, TB_of 31 (by decide +kernel) rfl, TB_of 92 (by decide +kernel) rfl, TB_of 672 (by decide +kernel) rfl⟩, by decide +kernel⟩
theorem mtX4_put : MtV yX4_put cX4_put 3 none 2 := ⟨⟨TB_of 675 (by decide +kernel) rfl, TB_of 32 (by decide +kernel) rfl, TB_of 92 (by decide +kernel) rfl, TB_of 676 (by decide +kernel) rfl⟩, by decide +kernel⟩
theorem mtX5_init : MtI yX5_init cX5_init 2 1 := ⟨⟨TB_of 108 (by decide +kernel) rfl, TB_of 85 (by decide +kernel) rfl, TB_of 109 (by decide +kernel) rfl⟩, by decide +kernel⟩
theorem mtX6_init : MtI yX6_init cX6_init 1 0 := ⟨⟨TB_of 99 (by decide +kernel) rfl, TB_of 84 (by decide +kernel) rfl, TB_of 100 (by decide +kernel) rfl⟩, by decide +kernel⟩
theorem mtX6_type : MtV yX6_type cX6_type 4 (some .int) 2 := ⟨⟨TB_of 362 (by decide +kernel) rfl, TB_of 363 (by decide +kernel) rfl, TB_of 84 (by decide +kernel) rfl, TB_of 364 (by decide +kernel) rfl⟩, by decide +kernel⟩
theorem mtX6_wipe : MtV yX6_wipe cX6_wipe 3 (some .int) 1 := ⟨⟨TB_of 394 (by decide +kernel) rfl, TB_of 395 (by decide +kernel) rfl, TB_of 84 (by decide +kernel) rfl, TB_of 396 (by decide +kernel) rfl⟩, by decide +kernel⟩
theorem mtX6_undo : MtV yX6_undo cX6_undo 2 (some .int) 1 := ⟨⟨TB_of 398 (by decide +kernel) rfl, TB_of 399 (by decide +kernel) rfl, TB_of 84 (by decide +kernel) rfl, TB_of 400 (by decide +kernel) rfl⟩, by decide +kernel⟩
theorem mtX6_fault : MtV yX6_fault cX6_fault 2 (some .int) 1 := ⟨⟨TB_of 402 (by decide +kernel) rfl, TB_of 403 (by decide +kernel) rfl, TB_of 84 (by decide +kernel) rfl, TB_of 404 (by decide +kernel) rfl⟩, by decide +kernel⟩
theorem mtX6_dancer : MtV yX6_dancer cX6_dancer 3 (some .int) 2 := ⟨⟨TB_of 406 (by decide +kernel) rfl, TB_of 407 (by decide +kernel) rfl, TB_of 84 (by decide +kernel) rfl, TB_of 408 (by decide +kernel) rfl⟩, by decide +kernel⟩
theorem mtX6_steps : MtV yX6_steps cX6_steps 2 (some .int) 1 := ⟨⟨TB_of 414 (by decide +kernel) rfl, TB_of 415 (by decide +kernel) rfl, TB_of 84 (by decide +kernel) rfl, TB_of 416 (by decide +kernel) rfl⟩, by decide +kernel⟩
theorem mtX6_ribbons : MtV yX6_ribbons cX6_ribbons 3 (some .int) 1 := ⟨⟨TB_of 421 (by decide +kernel) rfl, TB_of 422 (by decide +kernel) rfl, TB_of 84 (by decide +kernel) rfl, TB_of 423 (by decide +kernel) rfl⟩, by decide +kernel⟩
theorem mtX6_event : MtV yX6_event cX6_event 4 (some .int) 3 := ⟨⟨TB_of 425 (by decide +kernel) rfl, TB_of 426 (by decide +kernel) rfl, TB_of 84 (by decide +kernel) rfl, TB_of 427 (by decide +kernel) rfl⟩, by decide +kernel⟩
theorem mtX6_back : MtV yX6_back cX6_back 1 (some .int) 0 := ⟨⟨TB_of 442 (by decide +kernel) rfl, TB_of 443 (by decide +kernel) rfl, TB_of 84 (by decide +kernel) rfl, TB_of 444 (by decide +kernel) rfl⟩, by decide +kernel⟩
theorem mtX6_read : MtV yX6_read cX6_read 5 (some .int) 1 := ⟨⟨TB_of 446 (by decide +kernel) rfl, TB_of 447 (by decide +kernel) rfl, TB_of 84 (by decide +kernel) rfl, TB_of 448 (by decide +kernel) rfl⟩, by decide +kernel⟩
theorem mtX6_at : MtV yX6_at cX6_at 6 (some .int) 3 := ⟨⟨TB_of 458 (by decide +kernel) rfl, TB_of 459 (by decide +kernel) rfl, TB_of 84 (by decide +kernel) rfl, TB_of 460 (by decide +kernel) rfl⟩, by decide +kernel⟩
theorem mtX6_high : MtV yX6_high cX6_high 3 (some .int) 2 := ⟨⟨TB_of 507 (by decide +kernel) rfl, TB_of 508 (by decide +kernel) rfl, TB_of 84 (by decide +kernel) rfl, TB_of 509 (by decide +kernel) rfl⟩, by decide +kernel⟩
theorem mtX6_weave : MtV yX6_weave cX6_weave 4 (some .int) 2 := ⟨⟨TB_of 514 (by decide +kernel) rfl, TB_of 515 (by decide +kernel) rfl, TB_of 84 (by decide +kernel) rfl, TB_of 516 (by decide +kernel) rfl⟩, by decide +kernel⟩
theorem mtX6_shows : MtV yX6_shows cX6_shows 5 (some .int) 1 := ⟨⟨TB_of 518 (by decide +kernel) rfl, TB_of 519 (by decide +kernel) rfl, TB_of 84 (by decide +kernel) rfl, TB_of 520 (by decide +kernel) rfl⟩, by decide +kernel⟩
theorem mtX6_sum : MtV yX6_sum cX6_sum 2 (some .int) 1 := ⟨⟨TB_of 522 (by decide +kernel) rfl, TB_of 523 (by decide +kernel) rfl, TB_of 84 (by decide +kernel) rfl, TB_of 524 (by decide +kernel) rfl⟩, by decide +kernel⟩
theorem mtX6_run : MtV yX6_run cX6_run 2 (some .int) 1 := ⟨⟨TB_of 530 (by decide +kernel) rfl, TB_of 531 (by decide +kernel) rfl, TB_of 84 (by decide +kernel) rfl, TB_of 532 (by decide +kernel) rfl⟩, by decide +kernel⟩
theorem mtX6_bare : MtV yX6_bare cX6_bare 3 (some .int) 0 := ⟨⟨TB_of 538 (by decide +kernel) rfl, TB_of 539 (by decide +kernel) rfl, TB_of 84 (by decide +kernel) rfl, TB_of 540 (by decide +kernel) rfl⟩, by decide +kernel⟩
theorem mtX6_top : MtV yX6_top cX6_top 6 (some .int) 0 := ⟨⟨TB_of 542 (by decide +kernel) rfl, TB_of 543 (by decide +kernel) rfl, TB_of 84 (by decide +kernel) rfl, TB_of 544 (by decide +kernel) rfl⟩, by decide +kernel⟩
theorem mtX6_lacks : MtV yX6_lacks cX6_lacks 4 (some .int) 0 := ⟨⟨TB_of 550 (by decide +kernel) rfl, TB_of 551 (by decide +kernel) rfl, TB_of 84 (by decide +kernel) rfl, TB_of 552 (by decide +kernel) rfl⟩, by decide +kernel⟩
theorem mtX6_step : MtV yX6_step cX6_step 6 (some .int) 2 := ⟨⟨TB_of 554 (by decide +kernel) rfl, TB_of 555 (by decide +kernel) rfl, TB_of 84 (by decide +kernel) rfl, TB_of 556 (by decide +kernel) rfl⟩, by decide +kernel⟩
theorem mtX6_begin : MtV yX6_begin cX6_begin 7 (some .int) 2 := ⟨⟨TB_of 563 (by decide +kernel) rfl, TB_of 564 (by decide +kernel) rfl, TB_of 84 (by decide +kernel) rfl, TB_of 565 (by decide +kernel) rfl⟩, by decide +kernel⟩
theorem mtX6_dress : MtV yX6_dress cX6_dress 8 (some .int) 2 := ⟨⟨TB_of 572 (by decide +kernel) rfl, TB_of 573 (by decide +kernel) rfl, TB_of 84 (by decide +kernel) rfl, TB_of 574 (by decide +kernel) rfl⟩, by decide +kernel⟩
theorem mtX6_spare : MtV yX6_spare cX6_spare 6 (some .int) 1 := ⟨⟨TB_of 576 (by decide +kernel) rfl, TB_of 577 (by decide +kernel) rfl, TB_of 84 (by decide +kernel) rfl, TB_of 578 (by decide +kernel) rfl⟩, by decide +kernel⟩
theorem mtX6_seen : MtV yX6_seen cX6_seen 3 (some .int) 2 := ⟨⟨TB_of 589 (by decide +kernel) rfl, TB_of 590 (by decide +kernel) rfl, TB_of 84 (by decide +kernel) rfl, TB_of 591 (by decide +kernel) rfl⟩, by decide +kernel⟩
theorem mtX6_forget : MtV yX6_forget cX6_forget 2 (some .int) 0 := ⟨⟨TB_of 597 (by decide +kernel) rfl, TB_of 598 (by decide +kernel) rfl, TB_of 84 (by decide +kernel) rfl, TB_of 599 (by decide +kernel) rfl⟩, by decide +kernel⟩
theorem mtX6_never : MtV yX6_never cX6_never 3 (some .int) 0 := ⟨⟨TB_of 601 (by decide +kernel) rfl, TB_of 602 (by decide +kernel) rfl, TB_of 84 (by decide +kernel) rfl, TB_of 603 (by decide +kernel) rfl⟩, by decide +kernel⟩
theorem mtX6_ways : MtV yX6_ways cX6_ways 4 (some .int) 1 := ⟨⟨TB_of 609 (by decide +kernel) rfl, TB_of 610 (by decide +kernel) rfl, TB_of 84 (by decide +kernel) rfl, TB_of 611 (by decide +kernel) rfl⟩, by decide +kernel⟩
theorem mtX6_lengths : MtV yX6_lengths cX6_lengths 3 (some .int) 0 := ⟨⟨TB_of 613 (by decide +kernel) rfl, TB_of 614 (by decide +kernel) rfl, TB_of 84 (by decide +kernel) rfl, TB_of 615 (by decide +kernel) rfl⟩, by decide +kernel⟩
theorem mtX6_ask : MtV yX6_ask cX6_ask 6 (some .int) 0 := ⟨⟨TB_of 621 (by decide +kernel) rfl, TB_of 622 (by decide +kernel) rfl, TB_of 84 (by decide +kernel) rfl, TB_of 623 (by decide +kernel) rfl⟩, by decide +kernel⟩
theorem mtX6_chance : MtV yX6_chance cX6_chance 11 (some .long) 3 := ⟨⟨TB_of 633 (by decide +kernel) rfl, TB_of 634 (by decide +kernel) rfl, TB_of 84 (by decide +kernel) rfl, TB_of 635 (by decide +kernel) rfl⟩, by decide +kernel⟩
theorem mtX6_dances : MtV yX6_dances cX6_dances 6 (some .int) 3 := ⟨⟨TB_of 646 (by decide +kernel) rfl, TB_of 647 (by decide +kernel) rfl, TB_of 84 (by decide +kernel) rfl, TB_of 648 (by decide +kernel) rfl⟩, by decide +kernel⟩
theorem mtX6_sheet : MtV yX6_sheet cX6_sheet 4 (some .int) 3 := ⟨⟨TB_of 651 (by decide +kernel) rfl, TB_of 652 (by decide +kernel) rfl, TB_of 84 (by decide +kernel) rfl, TB_of 653 (by decide +kernel) rfl⟩, by decide +kernel⟩
theorem mtX6_lose : MtV yX6_lose cX6_lose 2 (some .int) 1 := ⟨⟨TB_of 658 (by decide +kernel) rfl, TB_of 659 (by decide +kernel) rfl, TB_of 84 (by decide +kernel) rfl, TB_of 660 (by decide +kernel) rfl⟩, by decide +kernel⟩
theorem mtX6_lay : MtV yX6_lay cX6_lay 6 (some .int) 4 := ⟨⟨TB_of 662 (by decide +kernel) rfl, TB_of 663 (by decide +kernel) rfl, TB_of 84 (by decide +kernel) rfl, TB_of 664 (by decide +kernel) rfl⟩, by decide +kernel⟩
theorem mtX6_get : MtV yX6_get cX6_get 5 (some .int) 3 := ⟨⟨TB_of 678 (by decide +kernel) rfl, TB_of 679 (by decide +kernel) rfl, TB_of 84 (by decide +kernel) rfl, TB_of 680 (by decide +kernel) rfl⟩, by decide +kernel⟩
theorem mtX6_copy : MtV yX6_copy cX6_copy 8 (some .int) 5 := ⟨⟨TB_of 683 (by decide +kernel) rfl, TB_of 684 (by decide +kernel) rfl, TB_of 84 (by decide +kernel) rfl, TB_of 685 (by decide +kernel) rfl⟩, by decide +kernel⟩
theorem mtX6_write : MtV yX6_write cX6_write 5 (some .int) 1 := ⟨⟨TB_of 687 (by decide +kernel) rfl, TB_of 688 (by decide +kernel) rfl, TB_of 84 (by decide +kernel) rfl, TB_of 689 (by decide +kernel) rfl⟩, by decide +kernel⟩
theorem mtX6_count : MtV yX6_count cX6_count 2 (some .int) 1 := ⟨⟨TB_of 692 (by decide +kernel) rfl, TB_of 693 (by decide +kernel) rfl, TB_of 84 (by decide +kernel) rfl, TB_of 694 (by decide +kernel) rfl⟩, by decide +kernel⟩
theorem mtX6_digest : MtV yX6_digest cX6_digest 7 (some .long) 0 := ⟨⟨TB_of 702 (by decide +kernel) rfl, TB_of 703 (by decide +kernel) rfl, TB_of 84 (by decide +kernel) rfl, TB_of 704 (by decide +kernel) rfl⟩, by decide +kernel⟩
theorem mtX6_digestOfBeats : MtV yX6_digestOfBeats cX6_digestOfBeats 7 (some .long) 1 := ⟨⟨TB_of 711 (by decide +kernel) rfl, TB_of 33 (by decide +kernel) rfl, TB_of 84 (by decide +kernel) rfl, TB_of 712 (by decide +kernel) rfl⟩, by decide +kernel⟩
theorem mtX6_digestOfDancer : MtV yX6_digestOfDancer cX6_digestOfDancer 11 (some .long) 2 := ⟨⟨TB_of 719 (by decide +kernel) rfl, TB_of 34 (by decide +kernel) rfl, TB_of 84 (by decide +kernel) rfl, TB_of 720 (by decide +kernel) rfl⟩, by decide +kernel⟩
theorem mtX6_takeText : MtV yX6_takeText cX6_takeText 2 none 1 := ⟨⟨TB_of 370 (by decide +kernel) rfl, TB_of 0 (by decide +kernel) rfl, TB_of 84 (by decide +kernel) rfl, TB_of 371 (by decide +kernel) rfl⟩, by decide +kernel⟩
theorem mtX6_takeEvents : MtV yX6_takeEvents cX6_takeEvents 1 none 0 := ⟨⟨TB_of 439 (by decide +kernel) rfl, TB_of 7 (by decide +kernel) rfl, TB_of 84 (by decide +kernel) rfl, TB_of 440 (by decide +kernel) rfl⟩, by decide +kernel⟩
theorem mtX6_forgetOutcomes : MtV yX6_forgetOutcomes cX6_forgetOutcomes 1 none 0 := ⟨⟨TB_of 391 (by decide +kernel) rfl, TB_of 3 (by decide +kernel) rfl, TB_of 84 (by decide +kernel) rfl, TB_of 392 (by decide +kernel) rfl⟩, by decide +kernel⟩
theorem mtX6_danced : MtV yX6_danced cX6_danced 1 (some (.object "MayPole$Dance")) 0 := ⟨⟨TB_of 463 (by decide +kernel) rfl, TB_of 9 (by decide +kernel) rfl, TB_of 84 (by decide +kernel) rfl, TB_of 464 (by decide +kernel) rfl⟩, by decide +kernel⟩
theorem mtX6_bareBeatsWith : MtV yX6_bareBeatsWith cX6_bareBeatsWith 2 (some .int) 1 := ⟨⟨TB_of 581 (by decide +kernel) rfl, TB_of 24 (by decide +kernel) rfl, TB_of 84 (by decide +kernel) rfl, TB_of 582 (by decide +kernel) rfl⟩, by decide +kernel⟩
theorem mtX6_weightOf : MtV yX6_weightOf cX6_weightOf 6 (some .long) 2 := ⟨⟨TB_of 640 (by decide +kernel) rfl, TB_of 29 (by decide +kernel) rfl, TB_of 84 (by decide +kernel) rfl, TB_of 641 (by decide +kernel) rfl⟩, by decide +kernel⟩
theorem mtX6_greatestGroup : MtV yX6_greatestGroup cX6_greatestGroup 6 (some .int) 2 := ⟨⟨TB_of 627 (by decide +kernel) rfl, TB_of 28 (by decide +kernel) rfl, TB_of 84 (by decide +kernel) rfl, TB_of 628 (by decide +kernel) rfl⟩, by decide +kernel⟩
theorem mtX6_found : MtV yX6_found cX6_found 2 (some .int) 1 := ⟨⟨TB_of 454 (by decide +kernel) rfl, TB_of 8 (by decide +kernel) rfl, TB_of 84 (by decide +kernel) rfl, TB_of 455 (by decide +kernel) rfl⟩, by decide +kernel⟩
theorem mtX6_findingOf : MtV yX6_findingOf cX6_findingOf 5 (some .int) 3 := ⟨⟨TB_of 667 (by decide +kernel) rfl, TB_of 30 (by decide +kernel) rfl, TB_of 84 (by decide +kernel) rfl, TB_of 668 (by decide +kernel) rfl⟩, by decide +kernel⟩
theorem mtX6_isDancer : MtV yX6_isDancer cX6_isDancer 2 (some .boolean) 1 := ⟨⟨TB_of 411 (by decide +kernel) rfl, TB_of 4 (by decide +kernel) rfl, TB_of 84 (by decide +kernel) rfl, TB_of 412 (by decide +kernel) rfl⟩, by decide +kernel⟩
theorem mtX6_isText : MtS yX6_isText cX6_isText 1 (some .boolean) 1 := ⟨⟨TB_of 366 (by decide +kernel) rfl, TB_of 84 (by decide +kernel) rfl, TB_of 367 (by decide +kernel) rfl⟩, by decide +kernel⟩
theorem mtX6_isBeat : MtS yX6_isBeat cX6_isBeat 1 (some .boolean) 1 := ⟨⟨TB_of 418 (by decide +kernel) rfl, TB_of 84 (by decide +kernel) rfl, TB_of 419 (by decide +kernel) rfl⟩, by decide +kernel⟩
theorem mtX6_isEither : MtS yX6_isEither cX6_isEither 1 (some .boolean) 1 := ⟨⟨TB_of 511 (by decide +kernel) rfl, TB_of 84 (by decide +kernel) rfl, TB_of 512 (by decide +kernel) rfl⟩, by decide +kernel⟩
theorem mtX6_isSheet : MtS yX6_isSheet cX6_isSheet 1 (some .boolean) 1 := ⟨⟨TB_of 450 (by decide +kernel) rfl, TB_of 84 (by decide +kernel) rfl, TB_of 451 (by decide +kernel) rfl⟩, by decide +kernel⟩
theorem mtX6_isForm : MtS yX6_isForm cX6_isForm 1 (some .boolean) 1 := ⟨⟨TB_of 655 (by decide +kernel) rfl, TB_of 84 (by decide +kernel) rfl, TB_of 656 (by decide +kernel) rfl⟩, by decide +kernel⟩
theorem mtX6_has : MtS yX6_has cX6_has 2 (some .boolean) 2 := ⟨⟨TB_of 380 (by decide +kernel) rfl, TB_of 84 (by decide +kernel) rfl, TB_of 381 (by decide +kernel) rfl⟩, by decide +kernel⟩
theorem mtX6_rowOfLength : MtS yX6_rowOfLength cX6_rowOfLength 1 (some .int) 1 := ⟨⟨TB_of 617 (by decide +kernel) rfl, TB_of 84 (by decide +kernel) rfl, TB_of 618 (by decide +kernel) rfl⟩, by decide +kernel⟩
theorem mtX6_greatestDivisor : MtS yX6_greatestDivisor cX6_greatestDivisor 11 (some .long) 2 := ⟨⟨TB_of 643 (by decide +kernel) rfl, TB_of 84 (by decide +kernel) rfl, TB_of 644 (by decide +kernel) rfl⟩, by decide +kernel⟩
theorem mtX7_init : MtI yX7_init cX7_init 2 0 := ⟨⟨TB_of 744 (by decide +kernel) rfl, TB_of 93 (by decide +kernel) rfl, TB_of 745 (by decide +kernel) rfl⟩, by decide +kernel⟩
theorem mtX7_in : MtS yX7_in cX7_in 6 (some .boolean) 3 := ⟨⟨TB_of 868 (by decide +kernel) rfl, TB_of 93 (by decide +kernel) rfl, TB_of 869 (by decide +kernel) rfl⟩, by decide +kernel⟩
theorem mtX7_no : MtS yX7_no cX7_no 1 (some .long) 1 := ⟨⟨TB_of 1215 (by decide +kernel) rfl, TB_of 93 (by decide +kernel) rfl, TB_of 1216 (by decide +kernel) rfl⟩, by decide +kernel⟩
theorem mtX7_isTwo : MtS yX7_isTwo cX7_isTwo 1 (some .boolean) 1 := ⟨⟨TB_of 904 (by decide +kernel) rfl, TB_of 93 (by decide +kernel) rfl, TB_of 905 (by decide +kernel) rfl⟩, by decide +kernel⟩
theorem mtX7_isIn : MtS yX7_isIn cX7_isIn 2 (some .boolean) 2 := ⟨⟨TB_of 1002 (by decide +kernel) rfl, TB_of 93 (by decide +kernel) rfl, TB_of 1003 (by decide +kernel) rfl⟩, by decide +kernel⟩
theorem mtX7_lesser : MtS yX7_lesser cX7_lesser 2 (some .int) 2 := ⟨⟨TB_of 1138 (by decide +kernel) rfl, TB_of 93 (by decide +kernel) rfl, TB_of 1139 (by decide +kernel) rfl⟩, by decide +kernel⟩
theorem mtX7_greater : MtS yX7_greater cX7_greater 2 (some .int) 2 := ⟨⟨TB_of 1079 (by decide +kernel) rfl, TB_of 93 (by decide +kernel) rfl, TB_of 1080 (by decide +kernel) rfl⟩, by decide +kernel⟩
theorem mtX7_part : MtS yX7_part cX7_part 11 (some .long) 3 := ⟨⟨TB_of 1212 (by decide +kernel) rfl, TB_of 93 (by decide +kernel) rfl, TB_of 1213 (by decide +kernel) rfl⟩, by decide +kernel⟩
theorem mtX7_finds : MtV yX7_finds cX7_finds 2 (some .int) 1 := ⟨⟨TB_of 873 (by decide +kernel) rfl, TB_of 35 (by decide +kernel) rfl, TB_of 93 (by decide +kernel) rfl, TB_of 874 (by decide +kernel) rfl⟩, by decide +kernel⟩
theorem mtX7_isSheet : MtS yX7_isSheet cX7_isSheet 1 (some .boolean) 1 := ⟨⟨TB_of 864 (by decide +kernel) rfl, TB_of 93 (by decide +kernel) rfl, TB_of 865 (by decide +kernel) rfl⟩, by decide +kernel⟩
theorem mtX7_sheet : MtV yX7_sheet cX7_sheet 5 (some .int) 3 := ⟨⟨TB_of 860 (by decide +kernel) rfl, TB_of 861 (by decide +kernel) rfl, TB_of 93 (by decide +kernel) rfl, TB_of 862 (by decide +kernel) rfl⟩, by decide +kernel⟩
theorem mtX7_lose : MtV yX7_lose cX7_lose 2 (some .int) 1 := ⟨⟨TB_of 876 (by decide +kernel) rfl, TB_of 877 (by decide +kernel) rfl, TB_of 93 (by decide +kernel) rfl, TB_of 878 (by decide +kernel) rfl⟩, by decide +kernel⟩
theorem mtX7_lacks : MtV yX7_lacks cX7_lacks 4 (some .int) 3 := ⟨⟨TB_of 885 (by decide +kernel) rfl, TB_of 36 (by decide +kernel) rfl, TB_of 93 (by decide +kernel) rfl, TB_of 886 (by decide +kernel) rfl⟩, by decide +kernel⟩
theorem mtX7_cut : MtS yX7_cut cX7_cut 2 (some .int) 2 := ⟨⟨TB_of 888 (by decide +kernel) rfl, TB_of 93 (by decide +kernel) rfl, TB_of 889 (by decide +kernel) rfl⟩, by decide +kernel⟩
theorem mtX7_lay : MtV yX7_lay cX7_lay 6 (some .int) 4 := ⟨⟨TB_of 880 (by decide +kernel) rfl, TB_of 881 (by decide +kernel) rfl, TB_of 93 (by decide +kernel) rfl, TB_of 882 (by decide +kernel) rfl⟩, by decide +kernel⟩
theorem mtX7_get : MtV yX7_get cX7_get 4 (some .int) 3 := ⟨⟨TB_of 891 (by decide +kernel) rfl, TB_of 892 (by decide +kernel) rfl, TB_of 93 (by decide +kernel) rfl, TB_of 893 (by decide +kernel) rfl⟩, by decide +kernel⟩
theorem mtX7_copy : MtV yX7_copy cX7_copy 7 (some .int) 5 := ⟨⟨TB_of 896 (by decide +kernel) rfl, TB_of 897 (by decide +kernel) rfl, TB_of 93 (by decide +kernel) rfl, TB_of 898 (by decide +kernel) rfl⟩, by decide +kernel⟩
theorem mtX7_type : MtV yX7_type cX7_type 3 (some .int) 2 := ⟨⟨TB_of 900 (by decide +kernel) rfl, TB_of 901 (by decide +kernel) rfl, TB_of 93 (by decide +kernel) rfl, TB_of 902 (by decide +kernel) rfl⟩, by decide +kernel⟩
theorem mtX7_wipe : MtV yX7_wipe cX7_wipe 3 (some .int) 1 := ⟨⟨TB_of 908 (by decide +kernel) rfl, TB_of 909 (by decide +kernel) rfl, TB_of 93 (by decide +kernel) rfl, TB_of 910 (by decide +kernel) rfl⟩, by decide +kernel⟩
theorem mtX7_undo : MtV yX7_undo cX7_undo 2 (some .int) 1 := ⟨⟨TB_of 912 (by decide +kernel) rfl, TB_of 913 (by decide +kernel) rfl, TB_of 93 (by decide +kernel) rfl, TB_of 914 (by decide +kernel) rfl⟩, by decide +kernel⟩
theorem mtX7_dancerOf : MtS yX7_dancerOf cX7_dancerOf 2 (some .int) 2 := ⟨⟨TB_of 928 (by decide +kernel) rfl, TB_of 93 (by decide +kernel) rfl, TB_of 929 (by decide +kernel) rfl⟩, by decide +kernel⟩
theorem mtX7_isTaken : MtV yX7_isTaken cX7_isTaken 5 (some .boolean) 2 := ⟨⟨TB_of 936 (by decide +kernel) rfl, TB_of 39 (by decide +kernel) rfl, TB_of 93 (by decide +kernel) rfl, TB_of 937 (by decide +kernel) rfl⟩, by decide +kernel⟩
theorem mtX7_readsDancers : MtV yX7_readsDancers cX7_readsDancers 5 (some .int) 0 := ⟨⟨TB_of 925 (by decide +kernel) rfl, TB_of 38 (by decide +kernel) rfl, TB_of 93 (by decide +kernel) rfl, TB_of 926 (by decide +kernel) rfl⟩, by decide +kernel⟩
theorem mtX7_still : MtV yX7_still cX7_still 2 none 0 := ⟨⟨TB_of 944 (by decide +kernel) rfl, TB_of 41 (by decide +kernel) rfl, TB_of 93 (by decide +kernel) rfl, TB_of 945 (by decide +kernel) rfl⟩, by decide +kernel⟩
theorem mtX7_readsSteps : MtV yX7_readsSteps cX7_readsSteps 4 (some .int) 0 := ⟨⟨TB_of 940 (by decide +kernel) rfl, TB_of 40 (by decide +kernel) rfl, TB_of 93 (by decide +kernel) rfl, TB_of 941 (by decide +kernel) rfl⟩, by decide +kernel⟩
theorem mtX7_readsText : MtV yX7_readsText cX7_readsText 2 (some .int) 1 := ⟨⟨TB_of 921 (by decide +kernel) rfl, TB_of 37 (by decide +kernel) rfl, TB_of 93 (by decide +kernel) rfl, TB_of 922 (by decide +kernel) rfl⟩, by decide +kernel⟩
theorem mtX7_fault : MtV yX7_fault cX7_fault 2 (some .int) 1 := ⟨⟨TB_of 916 (by decide +kernel) rfl, TB_of 917 (by decide +kernel) rfl, TB_of 93 (by decide +kernel) rfl, TB_of 918 (by decide +kernel) rfl⟩, by decide +kernel⟩
theorem mtX7_isBeat : MtS yX7_isBeat cX7_isBeat 1 (some .boolean) 1 := ⟨⟨TB_of 959 (by decide +kernel) rfl, TB_of 93 (by decide +kernel) rfl, TB_of 960 (by decide +kernel) rfl⟩, by decide +kernel⟩
theorem mtX7_isDancer : MtV yX7_isDancer cX7_isDancer 2 (some .boolean) 1 := ⟨⟨TB_of 952 (by decide +kernel) rfl, TB_of 42 (by decide +kernel) rfl, TB_of 93 (by decide +kernel) rfl, TB_of 953 (by decide +kernel) rfl⟩, by decide +kernel⟩
theorem mtX7_dancer : MtV yX7_dancer cX7_dancer 3 (some .int) 2 := ⟨⟨TB_of 947 (by decide +kernel) rfl, TB_of 948 (by decide +kernel) rfl, TB_of 93 (by decide +kernel) rfl, TB_of 949 (by decide +kernel) rfl⟩, by decide +kernel⟩
theorem mtX7_steps : MtV yX7_steps cX7_steps 2 (some .int) 1 := ⟨⟨TB_of 955 (by decide +kernel) rfl, TB_of 956 (by decide +kernel) rfl, TB_of 93 (by decide +kernel) rfl, TB_of 957 (by decide +kernel) rfl⟩, by decide +kernel⟩
theorem mtX7_ribbons : MtV yX7_ribbons cX7_ribbons 3 (some .int) 1 := ⟨⟨TB_of 963 (by decide +kernel) rfl, TB_of 964 (by decide +kernel) rfl, TB_of 93 (by decide +kernel) rfl, TB_of 965 (by decide +kernel) rfl⟩, by decide +kernel⟩
theorem mtX7_event : MtV yX7_event cX7_event 4 (some .int) 3 := ⟨⟨TB_of 968 (by decide +kernel) rfl, TB_of 969 (by decide +kernel) rfl, TB_of 93 (by decide +kernel) rfl, TB_of 970 (by decide +kernel) rfl⟩, by decide +kernel⟩
theorem mtX7_back : MtV yX7_back cX7_back 1 (some .int) 0 := ⟨⟨TB_of 973 (by decide +kernel) rfl, TB_of 974 (by decide +kernel) rfl, TB_of 93 (by decide +kernel) rfl, TB_of 975 (by decide +kernel) rfl⟩, by decide +kernel⟩
theorem mtX7_read : MtV yX7_read cX7_read 5 (some .int) 1 := ⟨⟨TB_of 977 (by decide +kernel) rfl, TB_of 978 (by decide +kernel) rfl, TB_of 93 (by decide +kernel) rfl, TB_of 979 (by decide +kernel) rfl⟩, by decide +kernel⟩
theorem mtX7_toldIn : MtV yX7_toldIn cX7_toldIn 5 (some .int) 2 := ⟨⟨TB_of 999 (by decide +kernel) rfl, TB_of 46 (by decide +kernel) rfl, TB_of 93 (by decide +kernel) rfl, TB_of 1000 (by decide +kernel) rfl⟩, by decide +kernel⟩
theorem mtX7_meets : MtV yX7_meets cX7_meets 4 (some .boolean) 2 := ⟨⟨TB_of 1010 (by decide +kernel) rfl, TB_of 48 (by decide +kernel) rfl, TB_of 93 (by decide +kernel) rfl, TB_of 1011 (by decide +kernel) rfl⟩, by decide +kernel⟩
theorem mtX7_takes : MtV yX7_takes cX7_takes 4 none 3 := ⟨⟨TB_of 1022 (by decide +kernel) rfl, TB_of 51 (by decide +kernel) rfl, TB_of 93 (by decide +kernel) rfl, TB_of 1023 (by decide +kernel) rfl⟩, by decide +kernel⟩
theorem mtX7_weaves : MtV yX7_weaves cX7_weaves 5 none 3 := ⟨⟨TB_of 1018 (by decide +kernel) rfl, TB_of 50 (by decide +kernel) rfl, TB_of 93 (by decide +kernel) rfl, TB_of 1019 (by decide +kernel) rfl⟩, by decide +kernel⟩
theorem mtX7_meeting : MtV yX7_meeting cX7_meeting 6 none 3 := ⟨⟨TB_of 1014 (by decide +kernel) rfl, TB_of 49 (by decide +kernel) rfl, TB_of 93 (by decide +kernel) rfl, TB_of 1015 (by decide +kernel) rfl⟩, by decide +kernel⟩
theorem mtX7_goes : MtV yX7_goes cX7_goes 5 none 1 := ⟨⟨TB_of 1006 (by decide +kernel) rfl, TB_of 47 (by decide +kernel) rfl, TB_of 93 (by decide +kernel) rfl, TB_of 1007 (by decide +kernel) rfl⟩, by decide +kernel⟩
theorem mtX7_passes : MtV yX7_passes cX7_passes 3 none 1 := ⟨⟨TB_of 995 (by decide +kernel) rfl, TB_of 45 (by decide +kernel) rfl, TB_of 93 (by decide +kernel) rfl, TB_of 996 (by decide +kernel) rfl⟩, by decide +kernel⟩
theorem mtX7_lives : MtV yX7_lives cX7_lives 2 none 0 := ⟨⟨TB_of 991 (by decide +kernel) rfl, TB_of 44 (by decide +kernel) rfl, TB_of 93 (by decide +kernel) rfl, TB_of 992 (by decide +kernel) rfl⟩, by decide +kernel⟩
theorem mtX7_find : MtV yX7_find cX7_find 1 none 0 := ⟨⟨TB_of 987 (by decide +kernel) rfl, TB_of 43 (by decide +kernel) rfl, TB_of 93 (by decide +kernel) rfl, TB_of 988 (by decide +kernel) rfl⟩, by decide +kernel⟩
theorem mtX7_atBy : MtV yX7_atBy cX7_atBy 5 (some .int) 3 := ⟨⟨TB_of 1026 (by decide +kernel) rfl, TB_of 52 (by decide +kernel) rfl, TB_of 93 (by decide +kernel) rfl, TB_of 1027 (by decide +kernel) rfl⟩, by decide +kernel⟩
theorem mtX7_at : MtV yX7_at cX7_at 4 (some .int) 3 := ⟨⟨TB_of 982 (by decide +kernel) rfl, TB_of 983 (by decide +kernel) rfl, TB_of 93 (by decide +kernel) rfl, TB_of 984 (by decide +kernel) rfl⟩, by decide +kernel⟩
theorem mtX7_highBy : MtV yX7_highBy cX7_highBy 3 (some .int) 2 := ⟨⟨TB_of 1034 (by decide +kernel) rfl, TB_of 53 (by decide +kernel) rfl, TB_of 93 (by decide +kernel) rfl, TB_of 1035 (by decide +kernel) rfl⟩, by decide +kernel⟩
theorem mtX7_high : MtV yX7_high cX7_high 3 (some .int) 2 := ⟨⟨TB_of 1029 (by decide +kernel) rfl, TB_of 1030 (by decide +kernel) rfl, TB_of 93 (by decide +kernel) rfl, TB_of 1031 (by decide +kernel) rfl⟩, by decide +kernel⟩
theorem mtX7_weaveBy : MtV yX7_weaveBy cX7_weaveBy 3 (some .int) 2 := ⟨⟨TB_of 1043 (by decide +kernel) rfl, TB_of 54 (by decide +kernel) rfl, TB_of 93 (by decide +kernel) rfl, TB_of 1044 (by decide +kernel) rfl⟩, by decide +kernel⟩
theorem mtX7_weave : MtV yX7_weave cX7_weave 3 (some .int) 2 := ⟨⟨TB_of 1037 (by decide +kernel) rfl, TB_of 1038 (by decide +kernel) rfl, TB_of 93 (by decide +kernel) rfl, TB_of 1039 (by decide +kernel) rfl⟩, by decide +kernel⟩
theorem mtX7_colourOf : MtV yX7_colourOf cX7_colourOf 2 (some .int) 1 := ⟨⟨TB_of 1056 (by decide +kernel) rfl, TB_of 56 (by decide +kernel) rfl, TB_of 93 (by decide +kernel) rfl, TB_of 1057 (by decide +kernel) rfl⟩, by decide +kernel⟩
theorem mtX7_showsBy : MtV yX7_showsBy cX7_showsBy 4 (some .int) 1 := ⟨⟨TB_of 1052 (by decide +kernel) rfl, TB_of 55 (by decide +kernel) rfl, TB_of 93 (by decide +kernel) rfl, TB_of 1053 (by decide +kernel) rfl⟩, by decide +kernel⟩
theorem mtX7_shows : MtV yX7_shows cX7_shows 2 (some .int) 1 := ⟨⟨TB_of 1046 (by decide +kernel) rfl, TB_of 1047 (by decide +kernel) rfl, TB_of 93 (by decide +kernel) rfl, TB_of 1048 (by decide +kernel) rfl⟩, by decide +kernel⟩
theorem mtX7_allMet : MtV yX7_allMet cX7_allMet 3 (some .int) 0 := ⟨⟨TB_of 1068 (by decide +kernel) rfl, TB_of 58 (by decide +kernel) rfl, TB_of 93 (by decide +kernel) rfl, TB_of 1069 (by decide +kernel) rfl⟩, by decide +kernel⟩
theorem mtX7_sumBy : MtV yX7_sumBy cX7_sumBy 2 (some .int) 1 := ⟨⟨TB_of 1064 (by decide +kernel) rfl, TB_of 57 (by decide +kernel) rfl, TB_of 93 (by decide +kernel) rfl, TB_of 1065 (by decide +kernel) rfl⟩, by decide +kernel⟩
theorem mtX7_sum : MtV yX7_sum cX7_sum 2 (some .int) 1 := ⟨⟨TB_of 1059 (by decide +kernel) rfl, TB_of 1060 (by decide +kernel) rfl, TB_of 93 (by decide +kernel) rfl, TB_of 1061 (by decide +kernel) rfl⟩, by decide +kernel⟩
theorem mtX7_runBy : MtV yX7_runBy cX7_runBy 6 (some .int) 1 := ⟨⟨TB_of 1076 (by decide +kernel) rfl, TB_of 59 (by decide +kernel) rfl, TB_of 93 (by decide +kernel) rfl, TB_of 1077 (by decide +kernel) rfl⟩, by decide +kernel⟩
theorem mtX7_run : MtV yX7_run cX7_run 2 (some .int) 1 := ⟨⟨TB_of 1071 (by decide +kernel) rfl, TB_of 1072 (by decide +kernel) rfl, TB_of 93 (by decide +kernel) rfl, TB_of 1073 (by decide +kernel) rfl⟩, by decide +kernel⟩
theorem mtX7_bareNow : MtV yX7_bareNow cX7_bareNow 3 (some .int) 0 := ⟨⟨TB_of 1087 (by decide +kernel) rfl, TB_of 60 (by decide +kernel) rfl, TB_of 93 (by decide +kernel) rfl, TB_of 1088 (by decide +kernel) rfl⟩, by decide +kernel⟩
theorem mtX7_bare : MtV yX7_bare cX7_bare 1 (some .int) 0 := ⟨⟨TB_of 1082 (by decide +kernel) rfl, TB_of 1083 (by decide +kernel) rfl, TB_of 93 (by decide +kernel) rfl, TB_of 1084 (by decide +kernel) rfl⟩, by decide +kernel⟩
theorem mtX7_oversOf : MtV yX7_oversOf cX7_oversOf 4 (some .int) 1 := ⟨⟨TB_of 1099 (by decide +kernel) rfl, TB_of 62 (by decide +kernel) rfl, TB_of 93 (by decide +kernel) rfl, TB_of 1100 (by decide +kernel) rfl⟩, by decide +kernel⟩
theorem mtX7_topNow : MtV yX7_topNow cX7_topNow 5 (some .int) 0 := ⟨⟨TB_of 1095 (by decide +kernel) rfl, TB_of 61 (by decide +kernel) rfl, TB_of 93 (by decide +kernel) rfl, TB_of 1096 (by decide +kernel) rfl⟩, by decide +kernel⟩
theorem mtX7_top : MtV yX7_top cX7_top 1 (some .int) 0 := ⟨⟨TB_of 1090 (by decide +kernel) rfl, TB_of 1091 (by decide +kernel) rfl, TB_of 93 (by decide +kernel) rfl, TB_of 1092 (by decide +kernel) rfl⟩, by decide +kernel⟩
theorem mtX7_lacksNow : MtV yX7_lacksNow cX7_lacksNow 3 (some .int) 0 := ⟨⟨TB_of 1107 (by decide +kernel) rfl, TB_of 63 (by decide +kernel) rfl, TB_of 93 (by decide +kernel) rfl, TB_of 1108 (by decide +kernel) rfl⟩, by decide +kernel⟩
theorem mtX7_lacks_ : MtV yX7_lacks_ cX7_lacks_ 1 (some .int) 0 := ⟨⟨TB_of 1102 (by decide +kernel) rfl, TB_of 1103 (by decide +kernel) rfl, TB_of 93 (by decide +kernel) rfl, TB_of 1104 (by decide +kernel) rfl⟩, by decide +kernel⟩
theorem mtX7_stepIn : MtV yX7_stepIn cX7_stepIn 7 (some .int) 2 := ⟨⟨TB_of 1115 (by decide +kernel) rfl, TB_of 64 (by decide +kernel) rfl, TB_of 93 (by decide +kernel) rfl, TB_of 1116 (by decide +kernel) rfl⟩, by decide +kernel⟩
theorem mtX7_step : MtV yX7_step cX7_step 3 (some .int) 2 := ⟨⟨TB_of 1110 (by decide +kernel) rfl, TB_of 1111 (by decide +kernel) rfl, TB_of 93 (by decide +kernel) rfl, TB_of 1112 (by decide +kernel) rfl⟩, by decide +kernel⟩
theorem mtX7_isFree : MtV yX7_isFree cX7_isFree 5 (some .boolean) 2 := ⟨⟨TB_of 1127 (by decide +kernel) rfl, TB_of 66 (by decide +kernel) rfl, TB_of 93 (by decide +kernel) rfl, TB_of 1128 (by decide +kernel) rfl⟩, by decide +kernel⟩
theorem mtX7_beginOf : MtV yX7_beginOf cX7_beginOf 7 (some .int) 2 := ⟨⟨TB_of 1123 (by decide +kernel) rfl, TB_of 65 (by decide +kernel) rfl, TB_of 93 (by decide +kernel) rfl, TB_of 1124 (by decide +kernel) rfl⟩, by decide +kernel⟩
theorem mtX7_begin : MtV yX7_begin cX7_begin 3 (some .int) 2 := ⟨⟨TB_of 1118 (by decide +kernel) rfl, TB_of 1119 (by decide +kernel) rfl, TB_of 93 (by decide +kernel) rfl, TB_of 1120 (by decide +kernel) rfl⟩, by decide +kernel⟩
theorem mtX7_dressOf : MtV yX7_dressOf cX7_dressOf 8 (some .int) 2 := ⟨⟨TB_of 1135 (by decide +kernel) rfl, TB_of 67 (by decide +kernel) rfl, TB_of 93 (by decide +kernel) rfl, TB_of 1136 (by decide +kernel) rfl⟩, by decide +kernel⟩
theorem mtX7_dress : MtV yX7_dress cX7_dress 3 (some .int) 2 := ⟨⟨TB_of 1130 (by decide +kernel) rfl, TB_of 1131 (by decide +kernel) rfl, TB_of 93 (by decide +kernel) rfl, TB_of 1132 (by decide +kernel) rfl⟩, by decide +kernel⟩
theorem mtX7_isSpared : MtV yX7_isSpared cX7_isSpared 2 (some .boolean) 1 := ⟨⟨TB_of 1151 (by decide +kernel) rfl, TB_of 69 (by decide +kernel) rfl, TB_of 93 (by decide +kernel) rfl, TB_of 1152 (by decide +kernel) rfl⟩, by decide +kernel⟩
theorem mtX7_spareBy : MtV yX7_spareBy cX7_spareBy 4 (some .int) 1 := ⟨⟨TB_of 1147 (by decide +kernel) rfl, TB_of 68 (by decide +kernel) rfl, TB_of 93 (by decide +kernel) rfl, TB_of 1148 (by decide +kernel) rfl⟩, by decide +kernel⟩
theorem mtX7_spare : MtV yX7_spare cX7_spare 2 (some .int) 1 := ⟨⟨TB_of 1141 (by decide +kernel) rfl, TB_of 1142 (by decide +kernel) rfl, TB_of 93 (by decide +kernel) rfl, TB_of 1143 (by decide +kernel) rfl⟩, by decide +kernel⟩
theorem mtX7_seen : MtV yX7_seen cX7_seen 3 (some .int) 2 := ⟨⟨TB_of 1154 (by decide +kernel) rfl, TB_of 1155 (by decide +kernel) rfl, TB_of 93 (by decide +kernel) rfl, TB_of 1156 (by decide +kernel) rfl⟩, by decide +kernel⟩
theorem mtX7_forget : MtV yX7_forget cX7_forget 2 (some .int) 0 := ⟨⟨TB_of 1159 (by decide +kernel) rfl, TB_of 1160 (by decide +kernel) rfl, TB_of 93 (by decide +kernel) rfl, TB_of 1161 (by decide +kernel) rfl⟩, by decide +kernel⟩
theorem mtX7_isSeen : MtV yX7_isSeen cX7_isSeen 3 (some .boolean) 0 := ⟨⟨TB_of 1172 (by decide +kernel) rfl, TB_of 71 (by decide +kernel) rfl, TB_of 93 (by decide +kernel) rfl, TB_of 1173 (by decide +kernel) rfl⟩, by decide +kernel⟩
theorem mtX7_neverNow : MtV yX7_neverNow cX7_neverNow 3 (some .int) 0 := ⟨⟨TB_of 1168 (by decide +kernel) rfl, TB_of 70 (by decide +kernel) rfl, TB_of 93 (by decide +kernel) rfl, TB_of 1169 (by decide +kernel) rfl⟩, by decide +kernel⟩
theorem mtX7_never : MtV yX7_never cX7_never 1 (some .int) 0 := ⟨⟨TB_of 1163 (by decide +kernel) rfl, TB_of 1164 (by decide +kernel) rfl, TB_of 93 (by decide +kernel) rfl, TB_of 1165 (by decide +kernel) rfl⟩, by decide +kernel⟩
theorem mtX7_waysOf : MtV yX7_waysOf cX7_waysOf 5 (some .int) 1 := ⟨⟨TB_of 1180 (by decide +kernel) rfl, TB_of 72 (by decide +kernel) rfl, TB_of 93 (by decide +kernel) rfl, TB_of 1181 (by decide +kernel) rfl⟩, by decide +kernel⟩
theorem mtX7_ways : MtV yX7_ways cX7_ways 2 (some .int) 1 := ⟨⟨TB_of 1175 (by decide +kernel) rfl, TB_of 1176 (by decide +kernel) rfl, TB_of 93 (by decide +kernel) rfl, TB_of 1177 (by decide +kernel) rfl⟩, by decide +kernel⟩
theorem mtX7_lengthsNow : MtV yX7_lengthsNow cX7_lengthsNow 5 (some .int) 0 := ⟨⟨TB_of 1188 (by decide +kernel) rfl, TB_of 73 (by decide +kernel) rfl, TB_of 93 (by decide +kernel) rfl, TB_of 1189 (by decide +kernel) rfl⟩, by decide +kernel⟩
theorem mtX7_lengths : MtV yX7_lengths cX7_lengths 1 (some .int) 0 := ⟨⟨TB_of 1183 (by decide +kernel) rfl, TB_of 1184 (by decide +kernel) rfl, TB_of 93 (by decide +kernel) rfl, TB_of 1185 (by decide +kernel) rfl⟩, by decide +kernel⟩
theorem mtX7_alike : MtV yX7_alike cX7_alike 7 (some .int) 2 := ⟨⟨TB_of 1200 (by decide +kernel) rfl, TB_of 75 (by decide +kernel) rfl, TB_of 93 (by decide +kernel) rfl, TB_of 1201 (by decide +kernel) rfl⟩, by decide +kernel⟩
theorem mtX7_askNow : MtV yX7_askNow cX7_askNow 4 (some .int) 0 := ⟨⟨TB_of 1196 (by decide +kernel) rfl, TB_of 74 (by decide +kernel) rfl, TB_of 93 (by decide +kernel) rfl, TB_of 1197 (by decide +kernel) rfl⟩, by decide +kernel⟩
theorem mtX7_ask : MtV yX7_ask cX7_ask 1 (some .int) 0 := ⟨⟨TB_of 1191 (by decide +kernel) rfl, TB_of 1192 (by decide +kernel) rfl, TB_of 93 (by decide +kernel) rfl, TB_of 1193 (by decide +kernel) rfl⟩, by decide +kernel⟩
theorem mtX7_chanceOf : MtV yX7_chanceOf cX7_chanceOf 10 (some .long) 3 := ⟨⟨TB_of 1209 (by decide +kernel) rfl, TB_of 76 (by decide +kernel) rfl, TB_of 93 (by decide +kernel) rfl, TB_of 1210 (by decide +kernel) rfl⟩, by decide +kernel⟩
theorem mtX7_chance : MtV yX7_chance cX7_chance 4 (some .long) 3 := ⟨⟨TB_of 1203 (by decide +kernel) rfl, TB_of 1204 (by decide +kernel) rfl, TB_of 93 (by decide +kernel) rfl, TB_of 1205 (by decide +kernel) rfl⟩, by decide +kernel⟩
theorem mtX7_lot : MtV yX7_lot cX7_lot 2 (some .int) 1 := ⟨⟨TB_of 1229 (by decide +kernel) rfl, TB_of 78 (by decide +kernel) rfl, TB_of 93 (by decide +kernel) rfl, TB_of 1230 (by decide +kernel) rfl⟩, by decide +kernel⟩
theorem mtX7_dancesOf : MtV yX7_dancesOf cX7_dancesOf 5 (some .int) 3 := ⟨⟨TB_of 1225 (by decide +kernel) rfl, TB_of 77 (by decide +kernel) rfl, TB_of 93 (by decide +kernel) rfl, TB_of 1226 (by decide +kernel) rfl⟩, by decide +kernel⟩
theorem mtX7_dances : MtV yX7_dances cX7_dances 4 (some .int) 3 := ⟨⟨TB_of 1219 (by decide +kernel) rfl, TB_of 1220 (by decide +kernel) rfl, TB_of 93 (by decide +kernel) rfl, TB_of 1221 (by decide +kernel) rfl⟩, by decide +kernel⟩
theorem mtX7_write : MtV yX7_write cX7_write 4 (some .int) 1 := ⟨⟨TB_of 1233 (by decide +kernel) rfl, TB_of 1234 (by decide +kernel) rfl, TB_of 93 (by decide +kernel) rfl, TB_of 1235 (by decide +kernel) rfl⟩, by decide +kernel⟩
theorem mtX7_manyLoose : MtV yX7_manyLoose cX7_manyLoose 3 (some .int) 0 := ⟨⟨TB_of 1242 (by decide +kernel) rfl, TB_of 79 (by decide +kernel) rfl, TB_of 93 (by decide +kernel) rfl, TB_of 1243 (by decide +kernel) rfl⟩, by decide +kernel⟩
theorem mtX7_count : MtV yX7_count cX7_count 2 (some .int) 1 := ⟨⟨TB_of 1237 (by decide +kernel) rfl, TB_of 1238 (by decide +kernel) rfl, TB_of 93 (by decide +kernel) rfl, TB_of 1239 (by decide +kernel) rfl⟩, by decide +kernel⟩
theorem mtX7_tellsBeat : MtV yX7_tellsBeat cX7_tellsBeat 8 (some .long) 3 := ⟨⟨TB_of 1257 (by decide +kernel) rfl, TB_of 81 (by decide +kernel) rfl, TB_of 93 (by decide +kernel) rfl, TB_of 1258 (by decide +kernel) rfl⟩, by decide +kernel⟩
theorem mtX7_tellsDancer : MtV yX7_tellsDancer cX7_tellsDancer 7 (some .long) 2 := ⟨⟨TB_of 1253 (by decide +kernel) rfl, TB_of 80 (by decide +kernel) rfl, TB_of 93 (by decide +kernel) rfl, TB_of 1254 (by decide +kernel) rfl⟩, by decide +kernel⟩
theorem mtX7_tellsPlan : MtV yX7_tellsPlan cX7_tellsPlan 6 (some .long) 2 := ⟨⟨TB_of 1261 (by decide +kernel) rfl, TB_of 82 (by decide +kernel) rfl, TB_of 93 (by decide +kernel) rfl, TB_of 1262 (by decide +kernel) rfl⟩, by decide +kernel⟩
theorem mtX7_digest : MtV yX7_digest cX7_digest 5 (some .long) 0 := ⟨⟨TB_of 1245 (by decide +kernel) rfl, TB_of 1246 (by decide +kernel) rfl, TB_of 93 (by decide +kernel) rfl, TB_of 1247 (by decide +kernel) rfl⟩, by decide +kernel⟩
theorem mtJ6_bitCount_0f7a4 : MtS yJ6_bitCount_0f7a4 cJ6_bitCount_0f7a4 1 (some .int) 1 := ⟨⟨TB_of 696 (by decide +kernel) rfl, TB_of 95 (by decide +kernel) rfl, TB_of 697 (by decide +kernel) rfl⟩, by decide +kernel⟩
theorem mtJ9_max_7cf53 : MtS yJ9_max_7cf53 cJ9_max_7cf53 2 (some .int) 2 := ⟨⟨TB_of 630 (by decide +kernel) rfl, TB_of 86 (by decide +kernel) rfl, TB_of 631 (by decide +kernel) rfl⟩, by decide +kernel⟩
theorem mtJ9_min_7cf53 : MtS yJ9_min_7cf53 cJ9_min_7cf53 2 (some .int) 2 := ⟨⟨TB_of 112 (by decide +kernel) rfl, TB_of 86 (by decide +kernel) rfl, TB_of 113 (by decide +kernel) rfl⟩, by decide +kernel⟩
theorem mtJ7_fill_53178 : MtS yJ7_fill_53178 cJ7_fill_53178 4 none 2 := ⟨⟨TB_of 164 (by decide +kernel) rfl, TB_of 89 (by decide +kernel) rfl, TB_of 165 (by decide +kernel) rfl⟩, by decide +kernel⟩
theorem lk_L_9 : Cond.methodLink RL 9 yX6_init ∈ TB := TB_of 98 (by decide +kernel) rfl
theorem lk_X5_19 : Cond.methodLink RX5 19 yJ9_min_7cf53 ∈ TB := TB_of 111 (by decide +kernel) rfl
theorem lk_X3_28 : Cond.methodLink RX3 28 yJ7_fill_53178 ∈ TB := TB_of 163 (by decide +kernel) rfl
theorem lk_L_13 : Cond.methodLink RL 13 yX6_type ∈ TB := TB_of 361 (by decide +kernel) rfl
theorem lk_X6_69 : Cond.methodLink RX6 69 yX6_isText ∈ TB := TB_of 365 (by decide +kernel) rfl
theorem lk_X6_83 : Cond.methodLink RX6 83 yX6_takeText ∈ TB := TB_of 368 (by decide +kernel) rfl
theorem lk_X3_52 : Cond.methodLink RX3 52 yX3_goesOn ∈ TB := TB_of 376 (by decide +kernel) rfl
theorem lk_X3_60 : Cond.methodLink RX3 60 yX3_stepOf ∈ TB := TB_of 386 (by decide +kernel) rfl
theorem lk_X6_108 : Cond.methodLink RX6 108 yX6_forgetOutcomes ∈ TB := TB_of 389 (by decide +kernel) rfl
theorem lk_L_18 : Cond.methodLink RL 18 yX6_wipe ∈ TB := TB_of 393 (by decide +kernel) rfl
theorem lk_L_23 : Cond.methodLink RL 23 yX6_undo ∈ TB := TB_of 397 (by decide +kernel) rfl
theorem lk_L_27 : Cond.methodLink RL 27 yX6_fault ∈ TB := TB_of 401 (by decide +kernel) rfl
theorem lk_L_31 : Cond.methodLink RL 31 yX6_dancer ∈ TB := TB_of 405 (by decide +kernel) rfl
theorem lk_X6_89 : Cond.methodLink RX6 89 yX6_isDancer ∈ TB := TB_of 409 (by decide +kernel) rfl
theorem lk_L_35 : Cond.methodLink RL 35 yX6_steps ∈ TB := TB_of 413 (by decide +kernel) rfl
theorem lk_X6_101 : Cond.methodLink RX6 101 yX6_isBeat ∈ TB := TB_of 417 (by decide +kernel) rfl
theorem lk_L_39 : Cond.methodLink RL 39 yX6_ribbons ∈ TB := TB_of 420 (by decide +kernel) rfl
theorem lk_L_43 : Cond.methodLink RL 43 yX6_event ∈ TB := TB_of 424 (by decide +kernel) rfl
theorem lk_X6_122 : Cond.methodLink RX6 122 yX6_takeEvents ∈ TB := TB_of 437 (by decide +kernel) rfl
theorem lk_L_48 : Cond.methodLink RL 48 yX6_back ∈ TB := TB_of 441 (by decide +kernel) rfl
theorem lk_L_53 : Cond.methodLink RL 53 yX6_read ∈ TB := TB_of 445 (by decide +kernel) rfl
theorem lk_X6_125 : Cond.methodLink RX6 125 yX6_isSheet ∈ TB := TB_of 449 (by decide +kernel) rfl
theorem lk_X6_131 : Cond.methodLink RX6 131 yX6_found ∈ TB := TB_of 452 (by decide +kernel) rfl
theorem lk_X6_141 : Cond.methodLink RX6 141 yX6_event ∈ TB := TB_of 456 (by decide +kernel) rfl
theorem lk_L_57 : Cond.methodLink RL 57 yX6_at ∈ TB := TB_of 457 (by decide +kernel) rfl
theorem lk_X6_145 : Cond.methodLink RX6 145 yX6_danced ∈ TB := TB_of 461 (by decide +kernel) rfl
theorem lk_X0_54 : Cond.methodLink RX0 54 yX0_stand ∈ TB := TB_of 469 (by decide +kernel) rfl
theorem lk_X0_103 : Cond.methodLink RX0 103 yJ7_fill_53178 ∈ TB := TB_of 476 (by decide +kernel) rfl
theorem lk_X0_64 : Cond.methodLink RX0 64 yX0_spread ∈ TB := TB_of 477 (by decide +kernel) rfl
theorem lk_X0_74 : Cond.methodLink RX0 74 yX0_turn ∈ TB := TB_of 482 (by decide +kernel) rfl
theorem lk_X0_77 : Cond.methodLink RX0 77 yX0_goOn ∈ TB := TB_of 486 (by decide +kernel) rfl
theorem lk_X0_81 : Cond.methodLink RX0 81 yX0_meetAll ∈ TB := TB_of 490 (by decide +kernel) rfl
theorem lk_X0_136 : Cond.methodLink RX0 136 yX0_haveMet ∈ TB := TB_of 494 (by decide +kernel) rfl
theorem lk_X0_139 : Cond.methodLink RX0 139 yX0_cross ∈ TB := TB_of 498 (by decide +kernel) rfl
theorem lk_X0_85 : Cond.methodLink RX0 85 yX0_note ∈ TB := TB_of 502 (by decide +kernel) rfl
theorem lk_L_61 : Cond.methodLink RL 61 yX6_high ∈ TB := TB_of 506 (by decide +kernel) rfl
theorem lk_X6_158 : Cond.methodLink RX6 158 yX6_isEither ∈ TB := TB_of 510 (by decide +kernel) rfl
theorem lk_L_65 : Cond.methodLink RL 65 yX6_weave ∈ TB := TB_of 513 (by decide +kernel) rfl
theorem lk_L_69 : Cond.methodLink RL 69 yX6_shows ∈ TB := TB_of 517 (by decide +kernel) rfl
theorem lk_L_73 : Cond.methodLink RL 73 yX6_sum ∈ TB := TB_of 521 (by decide +kernel) rfl
theorem lk_L_77 : Cond.methodLink RL 77 yX6_run ∈ TB := TB_of 529 (by decide +kernel) rfl
theorem lk_L_81 : Cond.methodLink RL 81 yX6_bare ∈ TB := TB_of 537 (by decide +kernel) rfl
theorem lk_L_85 : Cond.methodLink RL 85 yX6_top ∈ TB := TB_of 541 (by decide +kernel) rfl
theorem lk_L_89 : Cond.methodLink RL 89 yX6_lacks ∈ TB := TB_of 549 (by decide +kernel) rfl
theorem lk_L_93 : Cond.methodLink RL 93 yX6_step ∈ TB := TB_of 553 (by decide +kernel) rfl
theorem lk_L_97 : Cond.methodLink RL 97 yX6_begin ∈ TB := TB_of 562 (by decide +kernel) rfl
theorem lk_X6_213 : Cond.methodLink RX6 213 yX6_has ∈ TB := TB_of 570 (by decide +kernel) rfl
theorem lk_L_101 : Cond.methodLink RL 101 yX6_dress ∈ TB := TB_of 571 (by decide +kernel) rfl
theorem lk_L_105 : Cond.methodLink RL 105 yX6_spare ∈ TB := TB_of 575 (by decide +kernel) rfl
theorem lk_X6_220 : Cond.methodLink RX6 220 yX6_bareBeatsWith ∈ TB := TB_of 579 (by decide +kernel) rfl
theorem lk_X6_267 : Cond.methodLink RX6 267 yJ7_fill_53178 ∈ TB := TB_of 583 (by decide +kernel) rfl
theorem lk_L_109 : Cond.methodLink RL 109 yX6_seen ∈ TB := TB_of 588 (by decide +kernel) rfl
theorem lk_L_113 : Cond.methodLink RL 113 yX6_forget ∈ TB := TB_of 596 (by decide +kernel) rfl
theorem lk_L_117 : Cond.methodLink RL 117 yX6_never ∈ TB := TB_of 600 (by decide +kernel) rfl
theorem lk_L_121 : Cond.methodLink RL 121 yX6_ways ∈ TB := TB_of 608 (by decide +kernel) rfl
theorem lk_L_125 : Cond.methodLink RL 125 yX6_lengths ∈ TB := TB_of 612 (by decide +kernel) rfl
theorem lk_X6_235 : Cond.methodLink RX6 235 yX6_rowOfLength ∈ TB := TB_of 616 (by decide +kernel) rfl
theorem lk_L_129 : Cond.methodLink RL 129 yX6_ask ∈ TB := TB_of 620 (by decide +kernel) rfl
theorem lk_X6_244 : Cond.methodLink RX6 244 yX6_lengths ∈ TB := TB_of 624 (by decide +kernel) rfl
theorem lk_X6_247 : Cond.methodLink RX6 247 yX6_greatestGroup ∈ TB := TB_of 625 (by decide +kernel) rfl
theorem lk_X6_397 : Cond.methodLink RX6 397 yJ9_max_7cf53 ∈ TB := TB_of 629 (by decide +kernel) rfl
theorem lk_L_133 : Cond.methodLink RL 133 yX6_chance ∈ TB := TB_of 632 (by decide +kernel) rfl
theorem lk_X6_255 : Cond.methodLink RX6 255 yX6_weightOf ∈ TB := TB_of 638 (by decide +kernel) rfl
theorem lk_X6_259 : Cond.methodLink RX6 259 yX6_greatestDivisor ∈ TB := TB_of 642 (by decide +kernel) rfl
theorem lk_L_138 : Cond.methodLink RL 138 yX6_dances ∈ TB := TB_of 645 (by decide +kernel) rfl
theorem lk_L_142 : Cond.methodLink RL 142 yX6_sheet ∈ TB := TB_of 650 (by decide +kernel) rfl
theorem lk_X6_264 : Cond.methodLink RX6 264 yX6_isForm ∈ TB := TB_of 654 (by decide +kernel) rfl
theorem lk_L_146 : Cond.methodLink RL 146 yX6_lose ∈ TB := TB_of 657 (by decide +kernel) rfl
theorem lk_L_150 : Cond.methodLink RL 150 yX6_lay ∈ TB := TB_of 661 (by decide +kernel) rfl
theorem lk_X6_273 : Cond.methodLink RX6 273 yX6_findingOf ∈ TB := TB_of 665 (by decide +kernel) rfl
theorem lk_L_155 : Cond.methodLink RL 155 yX6_get ∈ TB := TB_of 677 (by decide +kernel) rfl
theorem lk_L_159 : Cond.methodLink RL 159 yX6_copy ∈ TB := TB_of 682 (by decide +kernel) rfl
theorem lk_L_164 : Cond.methodLink RL 164 yX6_write ∈ TB := TB_of 686 (by decide +kernel) rfl
theorem lk_X6_284 : Cond.methodLink RX6 284 yJ9_min_7cf53 ∈ TB := TB_of 690 (by decide +kernel) rfl
theorem lk_L_168 : Cond.methodLink RL 168 yX6_count ∈ TB := TB_of 691 (by decide +kernel) rfl
theorem lk_X6_292 : Cond.methodLink RX6 292 yJ6_bitCount_0f7a4 ∈ TB := TB_of 695 (by decide +kernel) rfl
theorem lk_L_172 : Cond.methodLink RL 172 yX6_digest ∈ TB := TB_of 701 (by decide +kernel) rfl
theorem lk_X6_301 : Cond.methodLink RX6 301 yX6_count ∈ TB := TB_of 707 (by decide +kernel) rfl
theorem lk_X6_304 : Cond.methodLink RX6 304 yX6_fault ∈ TB := TB_of 708 (by decide +kernel) rfl
theorem lk_X6_307 : Cond.methodLink RX6 307 yX6_digestOfBeats ∈ TB := TB_of 709 (by decide +kernel) rfl
theorem lk_X6_351 : Cond.methodLink RX6 351 yX6_steps ∈ TB := TB_of 713 (by decide +kernel) rfl
theorem lk_X6_354 : Cond.methodLink RX6 354 yX6_high ∈ TB := TB_of 714 (by decide +kernel) rfl
theorem lk_X6_357 : Cond.methodLink RX6 357 yX6_weave ∈ TB := TB_of 715 (by decide +kernel) rfl
theorem lk_X6_360 : Cond.methodLink RX6 360 yX6_shows ∈ TB := TB_of 716 (by decide +kernel) rfl
theorem lk_X6_311 : Cond.methodLink RX6 311 yX6_digestOfDancer ∈ TB := TB_of 717 (by decide +kernel) rfl
theorem lk_X6_363 : Cond.methodLink RX6 363 yX6_dancer ∈ TB := TB_of 721 (by decide +kernel) rfl
theorem lk_X6_369 : Cond.methodLink RX6 369 yX6_at ∈ TB := TB_of 724 (by decide +kernel) rfl
theorem lk_X6_372 : Cond.methodLink RX6 372 yX6_begin ∈ TB := TB_of 725 (by decide +kernel) rfl
theorem lk_X6_375 : Cond.methodLink RX6 375 yX6_dress ∈ TB := TB_of 726 (by decide +kernel) rfl
theorem lk_X6_378 : Cond.methodLink RX6 378 yX6_ways ∈ TB := TB_of 727 (by decide +kernel) rfl
theorem lk_X6_318 : Cond.methodLink RX6 318 yX6_step ∈ TB := TB_of 730 (by decide +kernel) rfl
theorem lk_X6_320 : Cond.methodLink RX6 320 yX6_chance ∈ TB := TB_of 731 (by decide +kernel) rfl
theorem lk_X6_324 : Cond.methodLink RX6 324 yX6_sum ∈ TB := TB_of 732 (by decide +kernel) rfl
theorem lk_X6_327 : Cond.methodLink RX6 327 yX6_run ∈ TB := TB_of 733 (by decide +kernel) rfl
theorem lk_X6_330 : Cond.methodLink RX6 330 yX6_bare ∈ TB := TB_of 734 (by decide +kernel) rfl
theorem lk_X6_333 : Cond.methodLink RX6 333 yX6_top ∈ TB := TB_of 735 (by decide +kernel) rfl
theorem lk_X6_336 : Cond.methodLink RX6 336 yX6_lacks ∈ TB := TB_of 736 (by decide +kernel) rfl
theorem lk_X6_339 : Cond.methodLink RX6 339 yX6_spare ∈ TB := TB_of 737 (by decide +kernel) rfl
theorem lk_X6_342 : Cond.methodLink RX6 342 yX6_never ∈ TB := TB_of 738 (by decide +kernel) rfl
theorem lk_X6_345 : Cond.methodLink RX6 345 yX6_ask ∈ TB := TB_of 739 (by decide +kernel) rfl
theorem lk_X6_348 : Cond.methodLink RX6 348 yX6_dances ∈ TB := TB_of 740 (by decide +kernel) rfl
theorem lk_L_12 : Cond.methodLink RL 12 yX7_init ∈ TB := TB_of 743 (by decide +kernel) rfl
theorem lk_L_145 : Cond.methodLink RL 145 yX7_sheet ∈ TB := TB_of 859 (by decide +kernel) rfl
theorem lk_X7_97 : Cond.methodLink RX7 97 yX7_isSheet ∈ TB := TB_of 863 (by decide +kernel) rfl
theorem lk_X7_88 : Cond.methodLink RX7 88 yX7_in ∈ TB := TB_of 867 (by decide +kernel) rfl
theorem lk_X7_103 : Cond.methodLink RX7 103 yX7_finds ∈ TB := TB_of 871 (by decide +kernel) rfl
theorem lk_L_149 : Cond.methodLink RL 149 yX7_lose ∈ TB := TB_of 875 (by decide +kernel) rfl
theorem lk_L_154 : Cond.methodLink RL 154 yX7_lay ∈ TB := TB_of 879 (by decide +kernel) rfl
theorem lk_X7_107 : Cond.methodLink RX7 107 yX7_lacks ∈ TB := TB_of 883 (by decide +kernel) rfl
theorem lk_X7_111 : Cond.methodLink RX7 111 yX7_cut ∈ TB := TB_of 887 (by decide +kernel) rfl
theorem lk_L_158 : Cond.methodLink RL 158 yX7_get ∈ TB := TB_of 890 (by decide +kernel) rfl
theorem lk_L_163 : Cond.methodLink RL 163 yX7_copy ∈ TB := TB_of 895 (by decide +kernel) rfl
theorem lk_L_17 : Cond.methodLink RL 17 yX7_type ∈ TB := TB_of 899 (by decide +kernel) rfl
theorem lk_X7_116 : Cond.methodLink RX7 116 yX7_isTwo ∈ TB := TB_of 903 (by decide +kernel) rfl
theorem lk_L_22 : Cond.methodLink RL 22 yX7_wipe ∈ TB := TB_of 907 (by decide +kernel) rfl
theorem lk_L_26 : Cond.methodLink RL 26 yX7_undo ∈ TB := TB_of 911 (by decide +kernel) rfl
theorem lk_L_30 : Cond.methodLink RL 30 yX7_fault ∈ TB := TB_of 915 (by decide +kernel) rfl
theorem lk_X7_152 : Cond.methodLink RX7 152 yX7_readsText ∈ TB := TB_of 919 (by decide +kernel) rfl
theorem lk_X7_145 : Cond.methodLink RX7 145 yX7_readsDancers ∈ TB := TB_of 923 (by decide +kernel) rfl
theorem lk_X7_132 : Cond.methodLink RX7 132 yX7_dancerOf ∈ TB := TB_of 927 (by decide +kernel) rfl
theorem lk_X7_135 : Cond.methodLink RX7 135 yX7_isTaken ∈ TB := TB_of 934 (by decide +kernel) rfl
theorem lk_X7_149 : Cond.methodLink RX7 149 yX7_readsSteps ∈ TB := TB_of 938 (by decide +kernel) rfl
theorem lk_X7_142 : Cond.methodLink RX7 142 yX7_still ∈ TB := TB_of 942 (by decide +kernel) rfl
theorem lk_L_34 : Cond.methodLink RL 34 yX7_dancer ∈ TB := TB_of 946 (by decide +kernel) rfl
theorem lk_X7_157 : Cond.methodLink RX7 157 yX7_isDancer ∈ TB := TB_of 950 (by decide +kernel) rfl
theorem lk_L_38 : Cond.methodLink RL 38 yX7_steps ∈ TB := TB_of 954 (by decide +kernel) rfl
theorem lk_X7_160 : Cond.methodLink RX7 160 yX7_isBeat ∈ TB := TB_of 958 (by decide +kernel) rfl
theorem lk_L_42 : Cond.methodLink RL 42 yX7_ribbons ∈ TB := TB_of 962 (by decide +kernel) rfl
theorem lk_L_47 : Cond.methodLink RL 47 yX7_event ∈ TB := TB_of 967 (by decide +kernel) rfl
theorem lk_L_52 : Cond.methodLink RL 52 yX7_back ∈ TB := TB_of 972 (by decide +kernel) rfl
theorem lk_L_56 : Cond.methodLink RL 56 yX7_read ∈ TB := TB_of 976 (by decide +kernel) rfl
theorem lk_X7_170 : Cond.methodLink RX7 170 yX7_event ∈ TB := TB_of 980 (by decide +kernel) rfl
theorem lk_L_60 : Cond.methodLink RL 60 yX7_at ∈ TB := TB_of 981 (by decide +kernel) rfl
theorem lk_X7_219 : Cond.methodLink RX7 219 yX7_find ∈ TB := TB_of 985 (by decide +kernel) rfl
theorem lk_X7_216 : Cond.methodLink RX7 216 yX7_lives ∈ TB := TB_of 989 (by decide +kernel) rfl
theorem lk_X7_213 : Cond.methodLink RX7 213 yX7_passes ∈ TB := TB_of 993 (by decide +kernel) rfl
theorem lk_X7_200 : Cond.methodLink RX7 200 yX7_toldIn ∈ TB := TB_of 997 (by decide +kernel) rfl
theorem lk_X7_175 : Cond.methodLink RX7 175 yX7_isIn ∈ TB := TB_of 1001 (by decide +kernel) rfl
theorem lk_X7_209 : Cond.methodLink RX7 209 yX7_goes ∈ TB := TB_of 1004 (by decide +kernel) rfl
theorem lk_X7_203 : Cond.methodLink RX7 203 yX7_meets ∈ TB := TB_of 1008 (by decide +kernel) rfl
theorem lk_X7_206 : Cond.methodLink RX7 206 yX7_meeting ∈ TB := TB_of 1012 (by decide +kernel) rfl
theorem lk_X7_197 : Cond.methodLink RX7 197 yX7_weaves ∈ TB := TB_of 1016 (by decide +kernel) rfl
theorem lk_X7_184 : Cond.methodLink RX7 184 yX7_takes ∈ TB := TB_of 1020 (by decide +kernel) rfl
theorem lk_X7_222 : Cond.methodLink RX7 222 yX7_atBy ∈ TB := TB_of 1024 (by decide +kernel) rfl
theorem lk_L_64 : Cond.methodLink RL 64 yX7_high ∈ TB := TB_of 1028 (by decide +kernel) rfl
theorem lk_X7_225 : Cond.methodLink RX7 225 yX7_highBy ∈ TB := TB_of 1032 (by decide +kernel) rfl
theorem lk_L_68 : Cond.methodLink RL 68 yX7_weave ∈ TB := TB_of 1036 (by decide +kernel) rfl
theorem lk_X7_230 : Cond.methodLink RX7 230 yX7_weaveBy ∈ TB := TB_of 1041 (by decide +kernel) rfl
theorem lk_L_72 : Cond.methodLink RL 72 yX7_shows ∈ TB := TB_of 1045 (by decide +kernel) rfl
theorem lk_X7_238 : Cond.methodLink RX7 238 yX7_showsBy ∈ TB := TB_of 1050 (by decide +kernel) rfl
theorem lk_X7_233 : Cond.methodLink RX7 233 yX7_colourOf ∈ TB := TB_of 1054 (by decide +kernel) rfl
theorem lk_L_76 : Cond.methodLink RL 76 yX7_sum ∈ TB := TB_of 1058 (by decide +kernel) rfl
theorem lk_X7_244 : Cond.methodLink RX7 244 yX7_sumBy ∈ TB := TB_of 1062 (by decide +kernel) rfl
theorem lk_X7_241 : Cond.methodLink RX7 241 yX7_allMet ∈ TB := TB_of 1066 (by decide +kernel) rfl
theorem lk_L_80 : Cond.methodLink RL 80 yX7_run ∈ TB := TB_of 1070 (by decide +kernel) rfl
theorem lk_X7_250 : Cond.methodLink RX7 250 yX7_runBy ∈ TB := TB_of 1074 (by decide +kernel) rfl
theorem lk_X7_247 : Cond.methodLink RX7 247 yX7_greater ∈ TB := TB_of 1078 (by decide +kernel) rfl
theorem lk_L_84 : Cond.methodLink RL 84 yX7_bare ∈ TB := TB_of 1081 (by decide +kernel) rfl
theorem lk_X7_253 : Cond.methodLink RX7 253 yX7_bareNow ∈ TB := TB_of 1085 (by decide +kernel) rfl
theorem lk_L_88 : Cond.methodLink RL 88 yX7_top ∈ TB := TB_of 1089 (by decide +kernel) rfl
theorem lk_X7_259 : Cond.methodLink RX7 259 yX7_topNow ∈ TB := TB_of 1093 (by decide +kernel) rfl
theorem lk_X7_256 : Cond.methodLink RX7 256 yX7_oversOf ∈ TB := TB_of 1097 (by decide +kernel) rfl
theorem lk_L_92 : Cond.methodLink RL 92 yX7_lacks_ ∈ TB := TB_of 1101 (by decide +kernel) rfl
theorem lk_X7_262 : Cond.methodLink RX7 262 yX7_lacksNow ∈ TB := TB_of 1105 (by decide +kernel) rfl
theorem lk_L_96 : Cond.methodLink RL 96 yX7_step ∈ TB := TB_of 1109 (by decide +kernel) rfl
theorem lk_X7_265 : Cond.methodLink RX7 265 yX7_stepIn ∈ TB := TB_of 1113 (by decide +kernel) rfl
theorem lk_L_100 : Cond.methodLink RL 100 yX7_begin ∈ TB := TB_of 1117 (by decide +kernel) rfl
theorem lk_X7_271 : Cond.methodLink RX7 271 yX7_beginOf ∈ TB := TB_of 1121 (by decide +kernel) rfl
theorem lk_X7_268 : Cond.methodLink RX7 268 yX7_isFree ∈ TB := TB_of 1125 (by decide +kernel) rfl
theorem lk_L_104 : Cond.methodLink RL 104 yX7_dress ∈ TB := TB_of 1129 (by decide +kernel) rfl
theorem lk_X7_277 : Cond.methodLink RX7 277 yX7_dressOf ∈ TB := TB_of 1133 (by decide +kernel) rfl
theorem lk_X7_274 : Cond.methodLink RX7 274 yX7_lesser ∈ TB := TB_of 1137 (by decide +kernel) rfl
theorem lk_L_108 : Cond.methodLink RL 108 yX7_spare ∈ TB := TB_of 1140 (by decide +kernel) rfl
theorem lk_X7_285 : Cond.methodLink RX7 285 yX7_spareBy ∈ TB := TB_of 1145 (by decide +kernel) rfl
theorem lk_X7_280 : Cond.methodLink RX7 280 yX7_isSpared ∈ TB := TB_of 1149 (by decide +kernel) rfl
theorem lk_L_112 : Cond.methodLink RL 112 yX7_seen ∈ TB := TB_of 1153 (by decide +kernel) rfl
theorem lk_L_116 : Cond.methodLink RL 116 yX7_forget ∈ TB := TB_of 1158 (by decide +kernel) rfl
theorem lk_L_120 : Cond.methodLink RL 120 yX7_never ∈ TB := TB_of 1162 (by decide +kernel) rfl
theorem lk_X7_297 : Cond.methodLink RX7 297 yX7_neverNow ∈ TB := TB_of 1166 (by decide +kernel) rfl
theorem lk_X7_293 : Cond.methodLink RX7 293 yX7_isSeen ∈ TB := TB_of 1170 (by decide +kernel) rfl
theorem lk_L_124 : Cond.methodLink RL 124 yX7_ways ∈ TB := TB_of 1174 (by decide +kernel) rfl
theorem lk_X7_300 : Cond.methodLink RX7 300 yX7_waysOf ∈ TB := TB_of 1178 (by decide +kernel) rfl
theorem lk_L_128 : Cond.methodLink RL 128 yX7_lengths ∈ TB := TB_of 1182 (by decide +kernel) rfl
theorem lk_X7_303 : Cond.methodLink RX7 303 yX7_lengthsNow ∈ TB := TB_of 1186 (by decide +kernel) rfl
theorem lk_L_132 : Cond.methodLink RL 132 yX7_ask ∈ TB := TB_of 1190 (by decide +kernel) rfl
theorem lk_X7_309 : Cond.methodLink RX7 309 yX7_askNow ∈ TB := TB_of 1194 (by decide +kernel) rfl
theorem lk_X7_306 : Cond.methodLink RX7 306 yX7_alike ∈ TB := TB_of 1198 (by decide +kernel) rfl
theorem lk_L_137 : Cond.methodLink RL 137 yX7_chance ∈ TB := TB_of 1202 (by decide +kernel) rfl
theorem lk_X7_318 : Cond.methodLink RX7 318 yX7_chanceOf ∈ TB := TB_of 1207 (by decide +kernel) rfl
theorem lk_X7_312 : Cond.methodLink RX7 312 yX7_part ∈ TB := TB_of 1211 (by decide +kernel) rfl
theorem lk_X7_322 : Cond.methodLink RX7 322 yX7_no ∈ TB := TB_of 1214 (by decide +kernel) rfl
theorem lk_L_141 : Cond.methodLink RL 141 yX7_dances ∈ TB := TB_of 1218 (by decide +kernel) rfl
theorem lk_X7_335 : Cond.methodLink RX7 335 yX7_dancesOf ∈ TB := TB_of 1223 (by decide +kernel) rfl
theorem lk_X7_330 : Cond.methodLink RX7 330 yX7_lot ∈ TB := TB_of 1227 (by decide +kernel) rfl
theorem lk_L_167 : Cond.methodLink RL 167 yX7_write ∈ TB := TB_of 1232 (by decide +kernel) rfl
theorem lk_L_171 : Cond.methodLink RL 171 yX7_count ∈ TB := TB_of 1236 (by decide +kernel) rfl
theorem lk_X7_338 : Cond.methodLink RX7 338 yX7_manyLoose ∈ TB := TB_of 1240 (by decide +kernel) rfl
theorem lk_L_176 : Cond.methodLink RL 176 yX7_digest ∈ TB := TB_of 1244 (by decide +kernel) rfl
theorem lk_X7_349 : Cond.methodLink RX7 349 yX7_count ∈ TB := TB_of 1250 (by decide +kernel) rfl
theorem lk_X7_352 : Cond.methodLink RX7 352 yX7_tellsDancer ∈ TB := TB_of 1251 (by decide +kernel) rfl
theorem lk_X7_343 : Cond.methodLink RX7 343 yX7_tellsBeat ∈ TB := TB_of 1255 (by decide +kernel) rfl
theorem lk_X7_356 : Cond.methodLink RX7 356 yX7_tellsPlan ∈ TB := TB_of 1259 (by decide +kernel) rfl
theorem lk_X6_11 : (RX6, 11, yX5_init, "MayPole") ∈ nMs := mem_pl 0 rfl
theorem lk_X6_20 : (RX6, 20, yX1_init, "MayPole") ∈ nMs := mem_pl 1 rfl
theorem lk_X6_27 : (RX6, 27, yX3_init, "MayPole") ∈ nMs := mem_pl 2 rfl
theorem lk_X6_37 : (RX6, 37, yX0_init, "MayPole") ∈ nMs := mem_pl 3 rfl
theorem lk_X6_47 : (RX6, 47, yX2_init, "MayPole") ∈ nMs := mem_pl 4 rfl
theorem lk_X6_54 : (RX6, 54, yX4_init, "MayPole") ∈ nMs := mem_pl 5 rfl
theorem lk_X6_381 : (RX6, 381, yX3_takeDancers, "MayPole") ∈ nMs := mem_pl 6 rfl
theorem lk_X3_56 : (RX3, 56, yX6_has, "MayPole") ∈ nMs := mem_pl 7 rfl
theorem lk_X6_385 : (RX6, 385, yX3_takeSteps, "MayPole") ∈ nMs := mem_pl 8 rfl
theorem lk_X6_111 : (RX6, 111, yX1_mayBe, "MayPole") ∈ nMs := mem_pl 9 rfl
theorem lk_X1_21 : (RX1, 21, yX6_isBeat, "MayPole") ∈ nMs := mem_pl 10 rfl
theorem lk_X6_118 : (RX6, 118, yX1_put, "MayPole") ∈ nMs := mem_pl 11 rfl
theorem lk_X6_206 : (RX6, 206, yX0_play, "MayPole") ∈ nMs := mem_pl 12 rfl
theorem lk_X0_123 : (RX0, 123, yX6_has, "MayPole") ∈ nMs := mem_pl 13 rfl
theorem lk_X6_179 : (RX6, 179, yX0_allMet, "MayPole") ∈ nMs := mem_pl 14 rfl
theorem lk_X6_189 : (RX6, 189, yX0_longestRun, "MayPole") ∈ nMs := mem_pl 15 rfl
theorem lk_X6_196 : (RX6, 196, yX0_timesOver, "MayPole") ∈ nMs := mem_pl 16 rfl
theorem lk_X6_202 : (RX6, 202, yX3_become, "MayPole") ∈ nMs := mem_pl 17 rfl
theorem lk_X6_210 : (RX6, 210, yX3_placesBeside, "MayPole") ∈ nMs := mem_pl 18 rfl
theorem lk_X6_394 : (RX6, 394, yX0_bareBeats, "MayPole") ∈ nMs := mem_pl 19 rfl
theorem lk_X6_224 : (RX6, 224, yX2_put, "MayPole") ∈ nMs := mem_pl 20 rfl
theorem lk_X6_227 : (RX6, 227, yX2_comesOut, "MayPole") ∈ nMs := mem_pl 21 rfl
theorem lk_X6_281 : (RX6, 281, yX4_holds, "MayPole") ∈ nMs := mem_pl 22 rfl
theorem lk_X6_276 : (RX6, 276, yX4_put, "MayPole") ∈ nMs := mem_pl 23 rfl
theorem ck_X6_251 : Cond.constantLong RX6 251 (-9223372036854775806) ∈ TB := TB_of 636 (by decide +kernel) rfl
theorem ck_X6_253 : Cond.constantLong RX6 253 (16) ∈ TB := TB_of 637 (by decide +kernel) rfl
theorem ck_X6_263 : Cond.constant RX6 263 (1103515245) ∈ TB := TB_of 649 (by decide +kernel) rfl
theorem ck_X6_277 : Cond.constant RX6 277 (-2147483648) ∈ TB := TB_of 681 (by decide +kernel) rfl
theorem ck_J6_265 : Cond.constant RJ6 265 (1431655765) ∈ TB := TB_of 698 (by decide +kernel) rfl
theorem ck_J6_266 : Cond.constant RJ6 266 (858993459) ∈ TB := TB_of 699 (by decide +kernel) rfl
theorem ck_J6_267 : Cond.constant RJ6 267 (252645135) ∈ TB := TB_of 700 (by decide +kernel) rfl
theorem ck_X6_297 : Cond.constantLong RX6 297 (17) ∈ TB := TB_of 705 (by decide +kernel) rfl
theorem ck_X6_299 : Cond.constantLong RX6 299 (31) ∈ TB := TB_of 706 (by decide +kernel) rfl
theorem ck_X7_95 : Cond.constantLong RX7 95 (3) ∈ TB := TB_of 866 (by decide +kernel) rfl
theorem ck_X7_101 : Cond.constantLong RX7 101 (2) ∈ TB := TB_of 870 (by decide +kernel) rfl
theorem ck_X7_115 : Cond.constant RX7 115 (-2147483648) ∈ TB := TB_of 894 (by decide +kernel) rfl
theorem ck_X7_119 : Cond.constantLong RX7 119 (255) ∈ TB := TB_of 906 (by decide +kernel) rfl
theorem ck_X7_121 : Cond.constantLong RX7 121 (97) ∈ TB := TB_of 930 (by decide +kernel) rfl
theorem ck_X7_123 : Cond.constantLong RX7 123 (108) ∈ TB := TB_of 931 (by decide +kernel) rfl
theorem ck_X7_125 : Cond.constantLong RX7 125 (48) ∈ TB := TB_of 932 (by decide +kernel) rfl
theorem ck_X7_127 : Cond.constantLong RX7 127 (57) ∈ TB := TB_of 933 (by decide +kernel) rfl
theorem ck_X7_155 : Cond.constantLong RX7 155 (23) ∈ TB := TB_of 961 (by decide +kernel) rfl
theorem ck_X7_163 : Cond.constantLong RX7 163 (30) ∈ TB := TB_of 966 (by decide +kernel) rfl
theorem ck_X7_165 : Cond.constantLong RX7 165 (7) ∈ TB := TB_of 971 (by decide +kernel) rfl
theorem ck_X7_228 : Cond.constantLong RX7 228 (119) ∈ TB := TB_of 1040 (by decide +kernel) rfl
theorem ck_X7_236 : Cond.constantLong RX7 236 (9) ∈ TB := TB_of 1049 (by decide +kernel) rfl
theorem ck_X7_283 : Cond.constantLong RX7 283 (-1) ∈ TB := TB_of 1144 (by decide +kernel) rfl
theorem ck_X7_288 : Cond.constantLong RX7 288 (120) ∈ TB := TB_of 1157 (by decide +kernel) rfl
theorem ck_X7_316 : Cond.constantLong RX7 316 (16) ∈ TB := TB_of 1206 (by decide +kernel) rfl
theorem ck_X7_86 : Cond.constantLong RX7 86 (-9223372036854775808) ∈ TB := TB_of 1217 (by decide +kernel) rfl
theorem ck_X7_333 : Cond.constantLong RX7 333 (24) ∈ TB := TB_of 1222 (by decide +kernel) rfl
theorem ck_X7_326 : Cond.constant RX7 326 (1103515245) ∈ TB := TB_of 1231 (by decide +kernel) rfl
theorem ck_X7_347 : Cond.constantLong RX7 347 (17) ∈ TB := TB_of 1248 (by decide +kernel) rfl
theorem ck_X7_341 : Cond.constantLong RX7 341 (31) ∈ TB := TB_of 1249 (by decide +kernel) rfl
end
section
/-- a memory: what each int cell holds, by the cell's number and the place in it (an array's element, an object's field) -/
abbrev Mem : Type := Nat → Nat → Int32
/-- what a cell is: an int array of n; an array of references (kind, n, to which cells); an object (class, its fields: an int, or to which cell) -/
abbrev wDs : Type := Nat ⊕ ((Nat × Nat × (Nat → Nat)) ⊕ (Nat × List (Option Nat)))
abbrev wE : Type := va_G × (Nat → Nat) × Nat × (Nat → wDs) × (ClassId × ClassId × ClassId) × (Nat × Nat)
abbrev gE (E : wE) (k : Nat) : Nat := E.2.1 k
abbrev nE (E : wE) : Nat := E.2.2.1
abbrev sE (E : wE) (k : Nat) : wDs := E.2.2.2.1 k
abbrev tE (E : wE) : ClassId × ClassId × ClassId := E.2.2.2.2.1
abbrev aE (E : wE) : Nat × Nat := E.2.2.2.2.2
abbrev wT (E : wE) : List (ClassId × FieldType) := [((tE E).1, .int), ((tE E).2.1, .object "MayPole$Text"), ((tE E).2.2, .object "MayPole$Sheet")]
def um (σ : Mem) (k i : Nat) (v : Int32) : Mem := fun c => if c = k then upd (σ k) i v else σ c
theorem um_at (σ : Mem) (k i : Nat) (v : Int32) : um σ k i v k i = v := by simp [um, upd]
theorem um_row (σ : Mem) (k i : Nat) (v : Int32) : um σ k i v k = upd (σ k) i v := by simp [um]
theorem um_ne (σ : Mem) {k c : Nat} (i : Nat) (v : Int32) (h : c ≠ k) : um σ k i v c = σ c := by simp [um, h]
theorem um_nei (σ : Mem) {k i j : Nat} (v : Int32) (h : j ≠ i) : um σ k i v k j = σ k j := by simp [um, upd, h]
def wFs (g : Nat → Nat) (row : Nat → Int32) (fs : List (Option Nat)) : List Value := fs.mapIdx (fun j o => match o with | none => Value.int (row j) | some q => Value.ref (g q))
theorem wFs_i {g : Nat → Nat} {row : Nat → Int32} {fs : List (Option Nat)} {j : Nat} (h : fs[j]? = some none) : (wFs g row fs)[j]? = some (.int (row j)) := by
  simp [wFs, h]
theorem wFs_r {g : Nat → Nat} {row : Nat → Int32} {fs : List (Option Nat)} {j q : Nat} (h : fs[j]? = some (some q)) : (wFs g row fs)[j]? = some (.ref (g q)) := by
  simp [wFs, h]
theorem wFs_len {g : Nat → Nat} {row : Nat → Int32} {fs : List (Option Nat)} : (wFs g row fs).length = fs.length := by simp [wFs]
theorem wFs_set {g : Nat → Nat} {row : Nat → Int32} {fs : List (Option Nat)} {j : Nat} {v : Int32} (h : fs[j]? = some none) : (wFs g row fs).set j (.int v) = wFs g (upd row j v) fs := by
  apply List.ext_getElem?
  intro i
  rw [List.getElem?_set]
  have hlt : j < fs.length := (List.getElem?_eq_some_iff.mp h).1
  by_cases e : j = i
  · subst e
    rw [if_pos rfl, if_pos (by rw [wFs_len]; exact hlt), wFs_i h]
    simp [upd]
  · rw [if_neg e]
    have e2 : ¬ i = j := fun z => e z.symm
    simp only [wFs, List.getElem?_mapIdx]
    cases hq : fs[i]? with
    | none => rfl
    | some o => cases o with
      | none => simp [upd, e2]
      | some q => rfl
def wCe (g : Nat → Nat) (t : ClassId × ClassId × ClassId) (row : Nat → Int32) (d : wDs) : va_E := match d with
  | .inl n => .inl (t.1, n, .inl row)
  | .inr (.inl (k, n, f)) => .inl ((if k = 0 then t.2.1 else t.2.2), n, .inr (.inr (.inr (.inr (fun i => some (g (f i)))))))
  | .inr (.inr (ci, fs)) => .inr (ci, wFs g row fs)
def wL (E : wE) (σ : Mem) : va_W := (List.range (nE E)).map (fun k => (gE E k, wCe E.2.1 (tE E) (σ k) (sE E k)))
theorem wL_at {E : wE} {σ : Mem} {k : Nat} (h : k < nE E) : (wL E σ)[k]? = some (gE E k, wCe E.2.1 (tE E) (σ k) (sE E k)) := by
  simp [wL, h]
theorem wL_in {E : wE} {σ : Mem} {k : Nat} {q : Nat × va_E} (h : (wL E σ)[k]? = some q) : k < nE E ∧ q = (gE E k, wCe E.2.1 (tE E) (σ k) (sE E k)) := by
  have hk : k < nE E := by
    have := (List.getElem?_eq_some_iff.mp h).1
    simpa [wL] using this
  rw [wL_at hk] at h
  exact ⟨hk, (Option.some.inj h).symm⟩
theorem wL_set {E : wE} {σ τ : Mem} {k : Nat} (hk : k < nE E) (h : ∀ c, c ≠ k → τ c = σ c) : (wL E σ).set k (gE E k, wCe E.2.1 (tE E) (τ k) (sE E k)) = wL E τ := by
  apply List.ext_getElem?
  intro i
  rw [List.getElem?_set]
  by_cases e : k = i
  · subst e
    rw [if_pos rfl, if_pos (by simpa [wL] using hk), wL_at hk]
  · rw [if_neg e]
    have e2 : i ≠ k := fun z => e z.symm
    by_cases hi : i < nE E
    · rw [wL_at hi, wL_at hi, h i e2]
    · have l1 : (wL E σ)[i]? = none := by simp [wL]; omega
      have l2 : (wL E τ)[i]? = none := by simp [wL]; omega
      rw [l1, l2]
def wA (E : wE) : Nat → Prop := fun q => ∃ k, k < nE E ∧ q = gE E k
def wI (E : wE) : Prop := ∀ i j, i < nE E → j < nE E → gE E i = gE E j → i = j
theorem wD {E : wE} {σ : Mem} {A : Nat → Prop} (hI : wI E) (hA : ∀ q, wA E q → A q) : va_D A (wL E σ) := by
  refine ⟨fun i j p q hp hq e => ?_, fun k q hq => ?_⟩
  · obtain ⟨h1, rfl⟩ := wL_in hp
    obtain ⟨h2, rfl⟩ := wL_in hq
    exact hI i j h1 h2 e
  · obtain ⟨h1, rfl⟩ := wL_in hq
    exact hA _ ⟨k, h1, rfl⟩
def stP : Nat → Value := fun j => .int (match j with | 0 => 0 | 1 => 6 | 2 => 13 | _ => 23)
def stQ : Nat → Value := fun j => .int (match j with | 0 => 3 | 1 => 11 | _ => 23)
/-- the two tables that nobody writes -/
def ST (E : wE) (A : Nat → Prop) (U : State) (H : Heap) : Prop := (va_Z "MayPole" "BEATS_OF_PLACES" "[I" (.ref (aE E).1) A U H ∧ va_T .int (aE E).1 4 stP A U H) ∧ va_Z "MayPole" "BEATS_OF_PLANS" "[I" (.ref (aE E).2) A U H ∧ va_T .int (aE E).2 3 stQ A U H
theorem ST.moved {E : wE} {A : Nat → Prop} {u U : State} {H : Heap} (hvm : u.vm.Alike U.vm) (h : ST E A u H) : ST E A U H := ⟨⟨h.1.1.moved hvm, h.1.2.moved hvm⟩, h.2.1.moved hvm, h.2.2.moved hvm⟩
theorem ST.kept {E : wE} {A : Nat → Prop} {U : State} {H H1 : Heap} (h : ST E A U H) (hq : ∀ a : Nat, a < H.size → ¬ A a → H1[a]? = H[a]?) : ST E A U H1 := ⟨⟨h.1.1.kept hq, h.1.2.kept hq⟩, h.2.1.kept hq, h.2.2.kept hq⟩
theorem ST.narrow {E : wE} {A B : Nat → Prop} {U : State} {H : Heap} (h : ST E A U H) (hAB : ∀ q, B q → A q) : ST E B U H := ⟨⟨h.1.1.narrow hAB, h.1.2.narrow hAB⟩, h.2.1.narrow hAB, h.2.2.narrow hAB⟩
/-- the world of E with memory σ stands in the state U -/
def wB (E : wE) (σ : Mem) (U : State) : Prop := va_P E.1 vwCl (wL E σ) U.heap ∧ va_K E.1 vwCl (wT E) U ∧ NW U ∧ ST E (wA E) U U.heap
abbrev wPc (E : wE) (σ : Mem) (av : List Value) : Array Value → State → Prop := va_Pc av (wB E σ)
abbrev wQi (E : wE) (Qf : Int32 → Mem → Prop) : Array Value → State → Outcome → State → Prop := va_Qi Qf (wB E) (wA E)
abbrev wQl (E : wE) (Qf : Int64 → Mem → Prop) : Array Value → State → Outcome → State → Prop := va_Ql Qf (wB E) (wA E)
abbrev wQv (E : wE) (Qf : Mem → Prop) : Array Value → State → Outcome → State → Prop := va_Qv Qf (wB E) (wA E)
abbrev wQr (E : wE) (k : Nat) (Qf : Mem → Prop) : Array Value → State → Outcome → State → Prop := va_Qr Qf (fun σ a t => a = gE E k ∧ wB E σ t) (wA E)
def wd (E : wE) (A : Nat → Prop) (s : State) (σ : Mem) (H : Heap) (locs : List Loc) : Prop := va_P E.1 vwCl (wL E σ) H ∧ va_S A s.heap H locs
def Cx (p : Program) (s : State) (m : MethodId) (args : Array Value) (c : Code) (cc : ByteArray) (nL : Nat) (own : String) (E : wE) (A : Nat → Prop) : Prop := CallFix p m c cc nL s args TB own ∧ va_K E.1 vwCl (wT E) s ∧ NW s ∧ ST E A s s.heap ∧ wI E ∧ ∀ q, wA E q → A q
theorem wBlind {E : wE} {σ : Mem} {av : List Value} : FrameBlind (wPc E σ av) := fun a U g mk q => by
  obtain ⟨q0, qP, qK, qN, qS⟩ := q
  exact ⟨q0, qP, va_K.moved (u := U) (U := U.calling g mk a) (Vm.Alike.refl U.vm) qK, NW.same (u := U) (U := U.calling g mk a) rfl qN, ST.moved (u := U) (U := U.calling g mk a) (Vm.Alike.refl U.vm) qS⟩
section WR
variable {p : Program} {l : Launch} {e : Env} {R : Room} {s : State} {m : MethodId} {args : Array Value} {below : List Frame} {meth : Method} {c : Code} {H : Heap} {locs : List Loc} {cells slots : Nat} {Q : State → Prop}
variable {cc : ByteArray} {nL : Nat} {own : String} {E : wE} {A : Nat → Prop} {σ : Mem} {pc : Nat} {ls : Array Slot} {rest : List Value}
theorem wBof (C : Cx p s m args c cc nL own E A) (hw : wd E A s σ H locs) {U : State} (hU : U.heap = H) (hW : s.WarmedH U.vm) : wB E σ U := by
  obtain ⟨-, hK, hN, hS, -, hA⟩ := C
  subst hU
  exact ⟨hw.1, va_K.moved hW.alike hK, hN.warm hW, ((hS.kept (H1 := U.heap) (fun a h1 h2 => hw.2.2.1 a h1 h2)).narrow hA).moved hW.alike⟩
theorem x_iald (C : Cx p s m args c cc nL own E A) (hw : wd E A s σ H locs) {k n : Nat} {i : Int32} (hk : sE E k = .inl n) (hN : k < nE E) (hin : vp_in i n) (hdg : decode cc pc = .ok (.iaload, 1))
    (kk : W p l e R s m args below meth c H locs cells slots Q (F0 m (pc + 1) ls (.int (σ k i.toNatClampNeg) :: rest))) : W p l e R s m args below meth c H locs cells slots Q (F0 m pc ls (.int i :: .ref (gE E k) :: rest)) :=
  va_iald (f := σ k) C.1.1 C.1.2.1 C.2.1 hw.1 k 0 (by rw [wL_at hN, hk]; rfl) rfl hin hdg kk
theorem x_iast (C : Cx p s m args c cc nL own E A) (hw : wd E A s σ H locs) {k n : Nat} {i v : Int32} (hk : sE E k = .inl n) (hN : k < nE E) (hin : vp_in i n) (hdg : decode cc pc = .ok (.iastore, 1))
    (kk : ∀ (H1 : Heap) (locs1 : List Loc), wd E A s (um σ k i.toNatClampNeg v) H1 locs1 → W p l e R s m args below meth c H1 locs1 cells slots Q (F0 m (pc + 1) ls rest)) : W p l e R s m args below meth c H locs cells slots Q (F0 m pc ls (.int v :: .int i :: .ref (gE E k) :: rest)) := by
  refine va_iast (f := σ k) C.1.1 C.1.2.1 C.2.1 hw.1 (wD C.2.2.2.2.1 C.2.2.2.2.2) hw.2 k 0 (by rw [wL_at hN, hk]; rfl) rfl hin hdg fun H1 locs1 h1 h2 h3 => kk H1 locs1 ⟨?_, h3⟩
  have e := wL_set (E := E) (σ := σ) (τ := um σ k i.toNatClampNeg v) hN (fun c hc => um_ne σ _ v hc)
  rw [hk, um_row] at e
  rw [← e]
  exact h1
theorem x_aald (C : Cx p s m args c cc nL own E A) (hw : wd E A s σ H locs) {k t n : Nat} {f : Nat → Nat} {i : Int32} (hk : sE E k = .inr (.inl (t, n, f))) (hN : k < nE E) (hin : vp_in i n) (hdg : decode cc pc = .ok (.aaload, 1))
    (kk : W p l e R s m args below meth c H locs cells slots Q (F0 m (pc + 1) ls (.ref (gE E (f i.toNatClampNeg)) :: rest))) : W p l e R s m args below meth c H locs cells slots Q (F0 m pc ls (.int i :: .ref (gE E k) :: rest)) := by
  by_cases ht : t = 0
  · exact va_aldq (cA := (tE E).2.1) (C := "MayPole$Text") (f := fun i => some (gE E (f i))) C.1.1 C.1.2.1 C.2.1 hw.1 k 1 (by rw [wL_at hN, hk]; simp [wCe, ht]) rfl hin hdg kk
  · exact va_aldq (cA := (tE E).2.2) (C := "MayPole$Sheet") (f := fun i => some (gE E (f i))) C.1.1 C.1.2.1 C.2.1 hw.1 k 2 (by rw [wL_at hN, hk]; simp [wCe, ht]) rfl hin hdg kk
theorem x_alen (C : Cx p s m args c cc nL own E A) (hw : wd E A s σ H locs) {k n : Nat} (hk : sE E k = .inl n) (hN : k < nE E) (hdg : decode cc pc = .ok (.arraylength, 1))
    (kk : W p l e R s m args below meth c H locs cells slots Q (F0 m (pc + 1) ls (.int (nI n) :: rest))) : W p l e R s m args below meth c H locs cells slots Q (F0 m pc ls (.ref (gE E k) :: rest)) :=
  va_alen (x := (n, .inl (σ k))) C.1.1 C.1.2.1 C.2.1 hw.1 k 0 (by rw [wL_at hN, hk]; rfl) rfl rfl hdg kk
theorem x_geti (C : Cx p s m args c cc nL own E A) (hw : wd E A s σ H locs) {k idx ci j : Nat} {ty : FieldType} {fin : Bool} {fs : List (Option Nat)} (hF : FLk own idx ci j ty fin) (hk : sE E k = .inr (.inr (ci, fs))) (hN : k < nE E) (hf : fs[j]? = some none) (hdg : decode cc pc = .ok (.getfield idx, 3))
    (kk : W p l e R s m args below meth c H locs cells slots Q (F0 m (pc + 3) ls (.int (σ k j) :: rest))) : W p l e R s m args below meth c H locs cells slots Q (F0 m pc ls (.ref (gE E k) :: rest)) := by
  obtain ⟨Cn, T, N, ⟨h1, h2, -, -⟩, h3, h4, -, -, h5⟩ := hF
  exact va_get (fs := wFs E.2.1 (σ k) fs) C.1.1 C.1.2.1 C.1.2.2.2.2 h2 C.1.2.2.2.1 C.2.1 hw.1 k (by rw [wL_at hN, hk]; rfl) h1 j h3 (C.1.2.2.2.2 _ h4) (fun _ h9 => h9) (wFs_i hf) hdg kk
theorem x_getr (C : Cx p s m args c cc nL own E A) (hw : wd E A s σ H locs) {k idx ci j q : Nat} {ty : FieldType} {fin : Bool} {fs : List (Option Nat)} (hF : FLk own idx ci j ty fin) (hk : sE E k = .inr (.inr (ci, fs))) (hN : k < nE E) (hf : fs[j]? = some (some q)) (hdg : decode cc pc = .ok (.getfield idx, 3))
    (kk : W p l e R s m args below meth c H locs cells slots Q (F0 m (pc + 3) ls (.ref (gE E q) :: rest))) : W p l e R s m args below meth c H locs cells slots Q (F0 m pc ls (.ref (gE E k) :: rest)) := by
  obtain ⟨Cn, T, N, ⟨h1, h2, -, -⟩, h3, h4, -, -, h5⟩ := hF
  exact va_get (fs := wFs E.2.1 (σ k) fs) C.1.1 C.1.2.1 C.1.2.2.2.2 h2 C.1.2.2.2.1 C.2.1 hw.1 k (by rw [wL_at hN, hk]; rfl) h1 j h3 (C.1.2.2.2.2 _ h4) (fun _ h9 => h9) (wFs_r hf) hdg kk
theorem x_getiN (C : Cx p s m args c cc nL own E A) (hw : wd E A s σ H locs) {k idx ci j : Nat} {ty : FieldType} {fin : Bool} {fs : List (Option Nat)} (hF : FLn own idx ci j ty fin) (hk : sE E k = .inr (.inr (ci, fs))) (hN : k < nE E) (hf : fs[j]? = some none) (hdg : decode cc pc = .ok (.getfield idx, 3))
    (kk : W p l e R s m args below meth c H locs cells slots Q (F0 m (pc + 3) ls (.int (σ k j) :: rest))) : W p l e R s m args below meth c H locs cells slots Q (F0 m pc ls (.ref (gE E k) :: rest)) := by
  obtain ⟨Cn, T, N, host, ⟨h1, h2, -, -⟩, h3, h4, -, -, h5⟩ := hF
  exact va_getN (host := host) (fs := wFs E.2.1 (σ k) fs) C.1.1 C.1.2.1 C.1.2.2.2.2 h2 C.1.2.2.2.1 C.2.1 hw.1 k (by rw [wL_at hN, hk]; rfl) h1 j h3 (va_Nw.use rfl (C.2.2.1.1 _ h4)) (fun _ h9 => h9) (wFs_i hf) hdg kk
theorem x_getrN (C : Cx p s m args c cc nL own E A) (hw : wd E A s σ H locs) {k idx ci j q : Nat} {ty : FieldType} {fin : Bool} {fs : List (Option Nat)} (hF : FLn own idx ci j ty fin) (hk : sE E k = .inr (.inr (ci, fs))) (hN : k < nE E) (hf : fs[j]? = some (some q)) (hdg : decode cc pc = .ok (.getfield idx, 3))
    (kk : W p l e R s m args below meth c H locs cells slots Q (F0 m (pc + 3) ls (.ref (gE E q) :: rest))) : W p l e R s m args below meth c H locs cells slots Q (F0 m pc ls (.ref (gE E k) :: rest)) := by
  obtain ⟨Cn, T, N, host, ⟨h1, h2, -, -⟩, h3, h4, -, -, h5⟩ := hF
  exact va_getN (host := host) (fs := wFs E.2.1 (σ k) fs) C.1.1 C.1.2.1 C.1.2.2.2.2 h2 C.1.2.2.2.1 C.2.1 hw.1 k (by rw [wL_at hN, hk]; rfl) h1 j h3 (va_Nw.use rfl (C.2.2.1.1 _ h4)) (fun _ h9 => h9) (wFs_r hf) hdg kk
theorem x_put (C : Cx p s m args c cc nL own E A) (hw : wd E A s σ H locs) {k idx ci j : Nat} {v : Int32} {ty : FieldType} {fs : List (Option Nat)} (hF : FLk own idx ci j ty false) (hk : sE E k = .inr (.inr (ci, fs))) (hN : k < nE E) (hf : fs[j]? = some none) (hn : narrow ty (.int v) = .int v) (hfit : fits ty (.int v) = true) (hdg : decode cc pc = .ok (.putfield idx, 3))
    (kk : ∀ (H1 : Heap) (locs1 : List Loc), wd E A s (um σ k j v) H1 locs1 → W p l e R s m args below meth c H1 locs1 cells slots Q (F0 m (pc + 3) ls rest)) : W p l e R s m args below meth c H locs cells slots Q (F0 m pc ls (.int v :: .ref (gE E k) :: rest)) := by
  obtain ⟨Cn, T, N, ⟨h1, h2, ⟨ty0, h6⟩, h7⟩, h3, h4, h8, h9, h5⟩ := hF
  have hl : j < (wFs E.2.1 (σ k) fs).length := by rw [wFs_len]; exact (List.getElem?_eq_some_iff.mp hf).1
  refine va_put (fs := wFs E.2.1 (σ k) fs) C.1.1 C.1.2.1 C.1.2.2.2.2 h2 ty0 h6 h7 C.1.2.2.2.1 C.2.1 hw.1 (wD C.2.2.2.2.1 C.2.2.2.2.2) hw.2 k (by rw [wL_at hN, hk]; rfl) h1 j h3 (C.1.2.2.2.2 _ h4) (fun _ h9 => h9) h9 h8 hn hfit hl hdg fun H1 locs1 g1 g2 g3 => kk H1 locs1 ⟨?_, g3⟩
  have e := wL_set (E := E) (σ := σ) (τ := um σ k j v) hN (fun c hc => um_ne σ _ v hc)
  rw [hk, um_row] at e
  rw [← e]
  rw [wFs_set hf] at g1
  exact g1
theorem x_putN (C : Cx p s m args c cc nL own E A) (hw : wd E A s σ H locs) {k idx ci j : Nat} {v : Int32} {ty : FieldType} {fs : List (Option Nat)} (hF : FLn own idx ci j ty false) (hk : sE E k = .inr (.inr (ci, fs))) (hN : k < nE E) (hf : fs[j]? = some none) (hn : narrow ty (.int v) = .int v) (hfit : fits ty (.int v) = true) (hdg : decode cc pc = .ok (.putfield idx, 3))
    (kk : ∀ (H1 : Heap) (locs1 : List Loc), wd E A s (um σ k j v) H1 locs1 → W p l e R s m args below meth c H1 locs1 cells slots Q (F0 m (pc + 3) ls rest)) : W p l e R s m args below meth c H locs cells slots Q (F0 m pc ls (.int v :: .ref (gE E k) :: rest)) := by
  obtain ⟨Cn, T, N, host, ⟨h1, h2, ⟨ty0, h6⟩, h7⟩, h3, h4, h8, h9, h5⟩ := hF
  have hl : j < (wFs E.2.1 (σ k) fs).length := by rw [wFs_len]; exact (List.getElem?_eq_some_iff.mp hf).1
  refine va_putN (host := host) (fs := wFs E.2.1 (σ k) fs) C.1.1 C.1.2.1 C.1.2.2.2.2 h2 ty0 h6 h7 C.1.2.2.2.1 C.2.1 hw.1 (wD C.2.2.2.2.1 C.2.2.2.2.2) hw.2 k (by rw [wL_at hN, hk]; rfl) h1 j h3 (va_Nw.use rfl (C.2.2.1.1 _ h4)) (fun _ h9 => h9) h9 h8 hn hfit hl hdg fun H1 locs1 g1 g2 g3 => kk H1 locs1 ⟨?_, g3⟩
  have e := wL_set (E := E) (σ := σ) (τ := um σ k j v) hN (fun c hc => um_ne σ _ v hc)
  rw [hk, um_row] at e
  rw [← e]
  rw [wFs_set hf] at g1
  exact g1
end WR
end
section
section WC
variable {p : Program} {l : Launch} {e : Env} {R : Room} {s : State} {m : MethodId} {args : Array Value} {below : List Frame} {meth : Method} {c : Code} {H : Heap} {locs : List Loc} {cells slots : Nat} {Q : State → Prop}
variable {cc : ByteArray} {nL : Nat} {own : String} {E : wE} {A : Nat → Prop} {σ : Mem} {pc : Nat} {ls : Array Slot} {rest st0 : List Value}
variable {y : MethodName} {bytes : ByteArray} {maxL n idx : Nat} {ret : Option FieldType} {rm : Room} {Qc : Array Value → State → Outcome → State → Prop} {As : List Value}
theorem x_cb (C : Cx p s m args c cc nL own E A) (hc : Cond.code y bytes maxL ret ∈ TB) (hi : Cond.initialized y.cls ∈ TB) (hl : Cond.methodLink own idx y ∈ TB) (hd : y.cls ≠ "java/lang/invoke/MethodHandle" ∧ y.cls ≠ "java/lang/invoke/VarHandle" ∧ (parseMethodDescriptor y.desc).map (fun d => d.parameters.length) = some n) (h0 : rm.cells = 0 ∧ rm.slots = 0) (hR : rm.frames + 1 ≤ R.frames ∧ 8 + (maxL + 11) + rm.locals ≤ R.locals) :
    CallB R s args own idx y bytes maxL ret (Cond.code y bytes maxL ret :: TB) rm 0 0 n :=
  callB_of n C.1.2.2.2.2 (TB_cons hc) rfl h0.1 h0.2 (C.1.2.2.2.2 _ hi) (C.1.2.2.2.2 _ hl) hd hR
theorem x_cn (C : Cx p s m args c cc nL own E A) {host : String} (hc : Cond.code y bytes maxL ret ∈ TB) (hi : Cond.initialized y.cls ∈ TB) (hl : (own, idx, y, host) ∈ nMs) (hd : y.cls ≠ "java/lang/invoke/MethodHandle" ∧ y.cls ≠ "java/lang/invoke/VarHandle" ∧ (parseMethodDescriptor y.desc).map (fun d => d.parameters.length) = some n) (h0 : rm.cells = 0 ∧ rm.slots = 0) (hR : rm.frames + 1 ≤ R.frames ∧ 8 + (maxL + 11) + rm.locals ≤ R.locals) :
    va_CN R s args own idx y host bytes maxL ret (Cond.code y bytes maxL ret :: TB) rm 0 0 n :=
  va_cnB n C.1.2.2.2.2 (TB_cons hc) rfl h0.1 h0.2 (C.2.2.1.2 _ hl) (C.1.2.2.2.2 _ hi) hd hR
theorem x_runV (C : Cx p s m args c cc nL own E A) (hw : wd E A s σ H locs) {k ci : Nat} {T : u_T} {N : Nat} {fs : List (Option Nat)} (hM : Met l y (Cond.code y bytes maxL ret :: TB) rm (wPc E σ (.ref (gE E k) :: As)) Qc 0 0 (wA E)) (hmt : MtV y bytes maxL ret n) (hlk : Cond.methodLink own idx y ∈ TB) (hk : sE E k = .inr (.inr (ci, fs))) (hN : k < nE E) (hci : vwCl[ci]? = some (y.cls, T, N)) (hR : rm.frames + 1 ≤ R.frames ∧ 8 + (maxL + 11) + rm.locals ≤ R.locals) (h0 : rm.cells = 0 ∧ rm.slots = 0) (hn : As.length = n) (hls : ls.size = nL) (hst : st0 = As.reverse ++ .ref (gE E k) :: rest) (hr : (rest.map fun v => v.category).sum ≤ 8) (hdg : decode cc pc = .ok (.invokevirtual idx, 3)) (hcs : cells ≤ R.cells ∧ slots ≤ R.slots) :
    va_Run p l e R s m args below meth c H locs cells slots 0 0 (F0 m pc ls st0) rest (Qc (Value.ref (gE E k) :: As).toArray) (wA E) :=
  va_runV (rest := rest) C.1 hM ⟨x_cb C hmt.1.2.2.2 hmt.1.2.2.1 hlk hmt.2 h0 hR, C.1.2.2.2.2 _ hmt.1.1, C.1.2.2.2.2 _ hmt.1.2.1⟩
    ⟨wBlind, va_recv (q := (y.cls, T, N)) (ci := ci) (fs := wFs E.2.1 (σ k) fs) C.2.1 hw.1 hci (q0 := k) (by rw [wL_at hN, hk]; rfl), fun U hU hW => ⟨rfl, wBof C hw hU hW⟩⟩ rfl hn hls hst (lv_room hr) hdg ⟨by omega, by omega⟩
theorem x_runVN (C : Cx p s m args c cc nL own E A) (hw : wd E A s σ H locs) {k ci : Nat} {T : u_T} {N : Nat} {host : String} {fs : List (Option Nat)} (hM : Met l y (Cond.code y bytes maxL ret :: TB) rm (wPc E σ (.ref (gE E k) :: As)) Qc 0 0 (wA E)) (hmt : MtV y bytes maxL ret n) (hlk : (own, idx, y, host) ∈ nMs) (hk : sE E k = .inr (.inr (ci, fs))) (hN : k < nE E) (hci : vwCl[ci]? = some (y.cls, T, N)) (hR : rm.frames + 1 ≤ R.frames ∧ 8 + (maxL + 11) + rm.locals ≤ R.locals) (h0 : rm.cells = 0 ∧ rm.slots = 0) (hn : As.length = n) (hls : ls.size = nL) (hst : st0 = As.reverse ++ .ref (gE E k) :: rest) (hr : (rest.map fun v => v.category).sum ≤ 8) (hdg : decode cc pc = .ok (.invokevirtual idx, 3)) (hcs : cells ≤ R.cells ∧ slots ≤ R.slots) :
    va_Run p l e R s m args below meth c H locs cells slots 0 0 (F0 m pc ls st0) rest (Qc (Value.ref (gE E k) :: As).toArray) (wA E) :=
  va_runVN (rest := rest) C.1 hM ⟨x_cn C hmt.1.2.2.2 hmt.1.2.2.1 hlk hmt.2 h0 hR, C.1.2.2.2.2 _ hmt.1.1, C.1.2.2.2.2 _ hmt.1.2.1⟩
    ⟨wBlind, va_recv (q := (y.cls, T, N)) (ci := ci) (fs := wFs E.2.1 (σ k) fs) C.2.1 hw.1 hci (q0 := k) (by rw [wL_at hN, hk]; rfl), fun U hU hW => ⟨rfl, wBof C hw hU hW⟩⟩ rfl hn hls hst (lv_room hr) hdg ⟨by omega, by omega⟩
theorem x_runS (C : Cx p s m args c cc nL own E A) (hw : wd E A s σ H locs) (hM : Met l y (Cond.code y bytes maxL ret :: TB) rm (wPc E σ As) Qc 0 0 (wA E)) (hmt : MtS y bytes maxL ret n) (hlk : Cond.methodLink own idx y ∈ TB) (hR : rm.frames + 1 ≤ R.frames ∧ 8 + (maxL + 11) + rm.locals ≤ R.locals) (h0 : rm.cells = 0 ∧ rm.slots = 0) (hn : As.length = n) (hls : ls.size = nL) (hst : st0 = As.reverse ++ rest) (hr : (rest.map fun v => v.category).sum ≤ 8) (hdg : decode cc pc = .ok (.invokestatic idx, 3)) (hcs : cells ≤ R.cells ∧ slots ≤ R.slots) :
    va_Run p l e R s m args below meth c H locs cells slots 0 0 (F0 m pc ls st0) rest (Qc As.toArray) (wA E) :=
  va_runS (rest := rest) C.1 hM ⟨x_cb C hmt.1.2.2 hmt.1.2.1 hlk hmt.2 h0 hR, C.1.2.2.2.2 _ hmt.1.1⟩
    ⟨wBlind, fun U hU hW => ⟨rfl, wBof C hw hU hW⟩⟩ rfl hn hls hst (lv_room hr) hdg ⟨by omega, by omega⟩
theorem x_runSN (C : Cx p s m args c cc nL own E A) (hw : wd E A s σ H locs) {host : String} (hM : Met l y (Cond.code y bytes maxL ret :: TB) rm (wPc E σ As) Qc 0 0 (wA E)) (hmt : MtS y bytes maxL ret n) (hlk : (own, idx, y, host) ∈ nMs) (hR : rm.frames + 1 ≤ R.frames ∧ 8 + (maxL + 11) + rm.locals ≤ R.locals) (h0 : rm.cells = 0 ∧ rm.slots = 0) (hn : As.length = n) (hls : ls.size = nL) (hst : st0 = As.reverse ++ rest) (hr : (rest.map fun v => v.category).sum ≤ 8) (hdg : decode cc pc = .ok (.invokestatic idx, 3)) (hcs : cells ≤ R.cells ∧ slots ≤ R.slots) :
    va_Run p l e R s m args below meth c H locs cells slots 0 0 (F0 m pc ls st0) rest (Qc As.toArray) (wA E) :=
  va_runSN (rest := rest) C.1 hM ⟨x_cn C hmt.1.2.2 hmt.1.2.1 hlk hmt.2 h0 hR, C.1.2.2.2.2 _ hmt.1.1, trivial⟩
    ⟨wBlind, fun U hU hW => ⟨rfl, wBof C hw hU hW⟩⟩ rfl hn hls hst (lv_room hr) hdg ⟨by omega, by omega⟩
theorem x_calli (C : Cx p s m args c cc nL own E A) (hw : wd E A s σ H locs) {Qf : Int32 → Mem → Prop} {a : Array Value} (hr : va_Run p l e R s m args below meth c H locs cells slots 0 0 (F0 m pc ls st0) rest (wQi E Qf a) (wA E))
    (kk : ∀ (r : Int32) (τ : Mem) (H1 : Heap) (locs1 : List Loc), Qf r τ → wd E A s τ H1 locs1 → W p l e R s m args below meth c H1 locs1 cells slots Q (F0 m (pc + 3) ls (.int r :: rest))) : W p l e R s m args below meth c H locs cells slots Q (F0 m pc ls st0) :=
  va_calli hr hw.2 (fun q _ h => C.2.2.2.2.2 q h) C.2.2.2.2.2 (fun r u t H1 locs1 ht _ hq hB _ _ hS => kk r u H1 locs1 hq ⟨by rw [← ht]; exact hB.1, hS⟩)
theorem x_calll (C : Cx p s m args c cc nL own E A) (hw : wd E A s σ H locs) {Qf : Int64 → Mem → Prop} {a : Array Value} (hr : va_Run p l e R s m args below meth c H locs cells slots 0 0 (F0 m pc ls st0) rest (wQl E Qf a) (wA E))
    (kk : ∀ (r : Int64) (τ : Mem) (H1 : Heap) (locs1 : List Loc), Qf r τ → wd E A s τ H1 locs1 → W p l e R s m args below meth c H1 locs1 cells slots Q (F0 m (pc + 3) ls (.long r :: rest))) : W p l e R s m args below meth c H locs cells slots Q (F0 m pc ls st0) :=
  va_calll hr hw.2 (fun q _ h => C.2.2.2.2.2 q h) C.2.2.2.2.2 (fun r u t H1 locs1 ht _ hq hB _ _ hS => kk r u H1 locs1 hq ⟨by rw [← ht]; exact hB.1, hS⟩)
theorem x_callv (C : Cx p s m args c cc nL own E A) (hw : wd E A s σ H locs) {Qf : Mem → Prop} {a : Array Value} (hr : va_Run p l e R s m args below meth c H locs cells slots 0 0 (F0 m pc ls st0) rest (wQv E Qf a) (wA E))
    (kk : ∀ (τ : Mem) (H1 : Heap) (locs1 : List Loc), Qf τ → wd E A s τ H1 locs1 → W p l e R s m args below meth c H1 locs1 cells slots Q (F0 m (pc + 3) ls rest)) : W p l e R s m args below meth c H locs cells slots Q (F0 m pc ls st0) :=
  va_callv hr hw.2 (fun q _ h => C.2.2.2.2.2 q h) C.2.2.2.2.2 (fun u t H1 locs1 ht _ hq hB _ _ hS => kk u H1 locs1 hq ⟨by rw [← ht]; exact hB.1, hS⟩)
theorem x_callr (C : Cx p s m args c cc nL own E A) (hw : wd E A s σ H locs) {k : Nat} {Qf : Mem → Prop} {a : Array Value} (hr : va_Run p l e R s m args below meth c H locs cells slots 0 0 (F0 m pc ls st0) rest (wQr E k Qf a) (wA E))
    (kk : ∀ (τ : Mem) (H1 : Heap) (locs1 : List Loc), Qf τ → wd E A s τ H1 locs1 → W p l e R s m args below meth c H1 locs1 cells slots Q (F0 m (pc + 3) ls (.ref (gE E k) :: rest))) : W p l e R s m args below meth c H locs cells slots Q (F0 m pc ls st0) :=
  va_callr hr hw.2 (fun q _ h => C.2.2.2.2.2 q h) C.2.2.2.2.2 (fun u ra t H1 locs1 ht _ hq hB _ _ hS => by
    obtain ⟨rfl, hB⟩ := hB
    exact kk u H1 locs1 hq ⟨by rw [← ht]; exact hB.1, hS⟩)
theorem x_iret (C : Cx p s m args c cc nL own E (wA E)) (hw : wd E (wA E) s σ H locs) (hr : meth.sig.returnType = some .int) (hlk : meth.locks = false) {Qf : Int32 → Mem → Prop} {v : Int32} (hq : Qf v σ) (hdg : decode cc pc = .ok (.ireturn, 1)) :
    W p l e R s m args below meth c H locs cells slots (MQ below (wQi E Qf) args s cells slots (wA E)) (F0 m pc ls [.int v]) :=
  W.iret (v := v) C.1.1 C.1.2.1 hr (fun t ht hW => ⟨⟨v, σ, rfl, hq, wBof C hw ht hW⟩, hw.2.F ht⟩) hw.2.2.2 hdg hlk
theorem x_zret (C : Cx p s m args c cc nL own E (wA E)) (hw : wd E (wA E) s σ H locs) (hr : meth.sig.returnType = some .boolean) (hlk : meth.locks = false) {Qf : Int32 → Mem → Prop} {v : Int32} (hn : narrow .boolean (.int v) = .int v) (hq : Qf v σ) (hdg : decode cc pc = .ok (.ireturn, 1)) :
    W p l e R s m args below meth c H locs cells slots (MQ below (wQi E Qf) args s cells slots (wA E)) (F0 m pc ls [.int v]) :=
  W.zret (v := v) (ty := .boolean) C.1.1 C.1.2.1 hr hn (fun t ht hW => ⟨⟨v, σ, rfl, hq, wBof C hw ht hW⟩, hw.2.F ht⟩) hw.2.2.2 hdg hlk
theorem x_lret (C : Cx p s m args c cc nL own E (wA E)) (hw : wd E (wA E) s σ H locs) (hr : meth.sig.returnType = some .long) (hlk : meth.locks = false) {Qf : Int64 → Mem → Prop} {v : Int64} (hq : Qf v σ) (hdg : decode cc pc = .ok (.lreturn, 1)) :
    W p l e R s m args below meth c H locs cells slots (MQ below (wQl E Qf) args s cells slots (wA E)) (F0 m pc ls [.long v]) :=
  W.lret (v := v) C.1.1 C.1.2.1 hr (fun t ht hW => ⟨⟨v, σ, rfl, hq, wBof C hw ht hW⟩, hw.2.F ht⟩) hw.2.2.2 hdg hlk
theorem x_vret (C : Cx p s m args c cc nL own E (wA E)) (hw : wd E (wA E) s σ H locs) (hr : meth.sig.returnType = none) (hlk : meth.locks = false) {Qf : Mem → Prop} (hq : Qf σ) (hdg : decode cc pc = .ok (.return_, 1)) :
    W p l e R s m args below meth c H locs cells slots (MQ below (wQv E Qf) args s cells slots (wA E)) (F0 m pc ls []) :=
  W.vret C.1.1 C.1.2.1 hr (fun t ht hW => ⟨⟨σ, rfl, hq, wBof C hw ht hW⟩, hw.2.F ht⟩) hw.2.2.2 hdg hlk
theorem x_aret (C : Cx p s m args c cc nL own E (wA E)) (hw : wd E (wA E) s σ H locs) {o : String} (hr : meth.sig.returnType = some (.object o)) (hlk : meth.locks = false) {k : Nat} {Qf : Mem → Prop} (hq : Qf σ) (hdg : decode cc pc = .ok (.areturn, 1)) :
    W p l e R s m args below meth c H locs cells slots (MQ below (wQr E k Qf) args s cells slots (wA E)) (F0 m pc ls [.ref (gE E k)]) :=
  W.aret (v := .ref (gE E k)) C.1.1 C.1.2.1 hr (Or.inl ⟨o, rfl⟩) (Or.inr ⟨_, rfl⟩) (fun t ht hW => ⟨⟨σ, gE E k, rfl, hq, rfl, wBof C hw ht hW⟩, hw.2.F ht⟩) hw.2.2.2 hdg hlk
/-- the opening of every contract -/
theorem wMet {av : List Value} (hy : plainName y.cls = true) (hI : wI E) (hlen : (lg_sl av).length ≤ maxL)
    (body : ∀ (p : Program) (e : Env) (s : State) (m : MethodId) (args : Array Value) (below : List Frame) (meth : Method) (c : Code) (ls : Array Slot), Cx p s m args c bytes maxL y.cls E (wA E) → meth.sig.returnType = ret → meth.locks = false → lv_has ls maxL (lv_args 0 av) → wd E (wA E) s σ s.heap [] →
      W p l e rm s m args below meth c s.heap [] 0 0 (MQ below Qc args s 0 0 (wA E)) (F0 m 0 ls [])) : Met l y (Cond.code y bytes maxL ret :: TB) rm (wPc E σ av) Qc 0 0 (wA E) := by
  refine Met.ofW (cc := bytes) (maxL := maxL) (ret := ret) hy rfl ?_
  intro p e s m args below meth c s₁ B hml hv
  obtain ⟨rfl, hP, hK, hN, hS⟩ := hv
  have hts := atoms_spec (ws := Cond.code y bytes maxL ret :: TB) B.pre
  have hl := lv_entry av (n := maxL) hlen
  rw [lg_entry_eq]
  exact body p e s m _ below meth c _ ⟨⟨B.exec, B.bytes, hml, findClass_of_methodNamed B.named, fun w hw => hts w (List.mem_cons_of_mem _ hw)⟩, hK, hN, hS, hI, fun _ h => h⟩ B.returns B.notSynchronized hl ⟨hP, va_S.rf⟩
theorem x_copy (C : Cx p s m args c cc nL own E A) (hw : wd E A s σ H locs) (hls : ls.size = nL) {k0 k1 n0 n1 : Nat} {sp dp n : Int32} (hlk : Cond.methodLink own idx arraycopyName ∈ TB) (h0 : sE E k0 = .inl n0) (hN0 : k0 < nE E) (h1 : sE E k1 = .inl n1) (hN1 : k1 < nE E)
    (hnat : Cond.native arraycopyName ∈ TB) (hstat : Cond.static arraycopyName ∈ TB) (hini : Cond.initialized "java/lang/System" ∈ TB)
    (hb : (¬ sp < 0 ∧ ¬ dp < 0 ∧ ¬ n < 0) ∧ sp.toNatClampNeg + n.toNatClampNeg ≤ n0 ∧ dp.toNatClampNeg + n.toNatClampNeg ≤ n1) (hf : 1 ≤ R.frames) (hlo : (rest.map fun v => v.category).sum + (nativeFrameWords "java/lang/System" "arraycopy" 5 + 11) ≤ R.locals) (hdg : decode cc pc = .ok (.invokestatic idx, 3))
    (kk : ∀ (H1 : Heap) (locs1 : List Loc), wd E A s (fun c => if c = k1 then va_cpy (σ k0) (σ k1) sp.toNatClampNeg dp.toNatClampNeg n.toNatClampNeg else σ c) H1 locs1 → W p l e R s m args below meth c H1 locs1 cells slots Q (F0 m (pc + 3) ls rest)) : W p l e R s m args below meth c H locs cells slots Q (F0 m pc ls (.int n :: .int dp :: .ref (gE E k1) :: .int sp :: .ref (gE E k0) :: rest)) := by
  have hts := C.1.2.2.2.2
  refine va_copyi (f := σ k0) (g := σ k1) (ty := .int) C.1.1 C.1.2.1 (C.1.2.2.1.trans hls.symm) C.1.2.2.2.1 (hts _ hlk) (hts _ hnat) (hts _ hstat) (hts _ hini) C.2.1 hw.1 (wD C.2.2.2.2.1 C.2.2.2.2.2) hw.2 k0 k1 0 0 (by rw [wL_at hN0, h0]; rfl) (by rw [wL_at hN1, h1]; rfl) rfl rfl rfl hb.1.1 hb.1.2.1 hb.1.2.2 hb.2.1 hb.2.2 (fun _ _ => rfl) hf hlo hdg fun H1 locs1 g1 g2 g3 => kk H1 locs1 ⟨?_, g3⟩
  have e := wL_set (E := E) (σ := σ) (τ := fun c => if c = k1 then va_cpy (σ k0) (σ k1) sp.toNatClampNeg dp.toNatClampNeg n.toNatClampNeg else σ c) hN1 (fun c hc => by simp [hc])
  rw [h1] at e
  simp only [if_true] at e
  rw [← e]
  exact g1
theorem x_stP (C : Cx p s m args c cc nL own E A) (hw : wd E A s σ H locs) (hlk : Cond.fieldLink own idx "MayPole" "BEATS_OF_PLACES" "[I" ∈ TB) (hdg : decode cc pc = .ok (.getstatic idx, 3))
    (kk : W p l e R s m args below meth c H locs cells slots Q (F0 m (pc + 3) ls (.ref (aE E).1 :: rest))) : W p l e R s m args below meth c H locs cells slots Q (F0 m pc ls rest) :=
  va_gets C.1.1 C.1.2.1 C.2.2.2.1.1.1 hw.2 C.1.2.2.2.1 (C.1.2.2.2.2 _ hlk) (fun _ h => h) hdg kk
theorem x_stQ (C : Cx p s m args c cc nL own E A) (hw : wd E A s σ H locs) (hlk : Cond.fieldLink own idx "MayPole" "BEATS_OF_PLANS" "[I" ∈ TB) (hdg : decode cc pc = .ok (.getstatic idx, 3))
    (kk : W p l e R s m args below meth c H locs cells slots Q (F0 m (pc + 3) ls (.ref (aE E).2 :: rest))) : W p l e R s m args below meth c H locs cells slots Q (F0 m pc ls rest) :=
  va_gets C.1.1 C.1.2.1 C.2.2.2.1.2.1 hw.2 C.1.2.2.2.1 (C.1.2.2.2.2 _ hlk) (fun _ h => h) hdg kk
theorem x_lenP (C : Cx p s m args c cc nL own E A) (hw : wd E A s σ H locs) (hdg : decode cc pc = .ok (.arraylength, 1))
    (kk : W p l e R s m args below meth c H locs cells slots Q (F0 m (pc + 1) ls (.int 4 :: rest))) : W p l e R s m args below meth c H locs cells slots Q (F0 m pc ls (.ref (aE E).1 :: rest)) :=
  va_tlen C.1.1 C.1.2.1 C.2.2.2.1.1.2 hw.2 rfl hdg kk
theorem x_lenQ (C : Cx p s m args c cc nL own E A) (hw : wd E A s σ H locs) (hdg : decode cc pc = .ok (.arraylength, 1))
    (kk : W p l e R s m args below meth c H locs cells slots Q (F0 m (pc + 1) ls (.int 3 :: rest))) : W p l e R s m args below meth c H locs cells slots Q (F0 m pc ls (.ref (aE E).2 :: rest)) :=
  va_tlen C.1.1 C.1.2.1 C.2.2.2.1.2.2 hw.2 rfl hdg kk
def stPi (i : Nat) : Int32 := match i with | 0 => 0 | 1 => 6 | 2 => 13 | _ => 23
def stQi (i : Nat) : Int32 := match i with | 0 => 3 | 1 => 11 | _ => 23
theorem x_ldP (C : Cx p s m args c cc nL own E A) (hw : wd E A s σ H locs) {i : Int32} (hin : vp_in i 4) (hdg : decode cc pc = .ok (.iaload, 1))
    (kk : W p l e R s m args below meth c H locs cells slots Q (F0 m (pc + 1) ls (.int (stPi i.toNatClampNeg) :: rest))) : W p l e R s m args below meth c H locs cells slots Q (F0 m pc ls (.int i :: .ref (aE E).1 :: rest)) :=
  va_ti C.1.1 C.1.2.1 C.2.2.2.1.1.2 hw.2 hin rfl hdg kk
theorem x_ldQ (C : Cx p s m args c cc nL own E A) (hw : wd E A s σ H locs) {i : Int32} (hin : vp_in i 3) (hdg : decode cc pc = .ok (.iaload, 1))
    (kk : W p l e R s m args below meth c H locs cells slots Q (F0 m (pc + 1) ls (.int (stQi i.toNatClampNeg) :: rest))) : W p l e R s m args below meth c H locs cells slots Q (F0 m pc ls (.int i :: .ref (aE E).2 :: rest)) :=
  va_ti C.1.1 C.1.2.1 C.2.2.2.1.2.2 hw.2 hin rfl hdg kk
/-- two roads that push one int and meet again -/
theorem x_dia {pcJ : Nat} {g : JFrame} {cnd : Prop} [Decidable cnd] {a b : Int32} (rest : List Value)
    (hJ : W p l e R s m args below meth c H locs cells slots Q (F0 m pcJ ls (.int (if cnd then a else b) :: rest)))
    (k : (cnd → W p l e R s m args below meth c H locs cells slots Q (F0 m pcJ ls (.int a :: rest))) → (¬ cnd → W p l e R s m args below meth c H locs cells slots Q (F0 m pcJ ls (.int b :: rest))) → W p l e R s m args below meth c H locs cells slots Q g) : W p l e R s m args below meth c H locs cells slots Q g :=
  k (fun h => by rw [if_pos h] at hJ; exact hJ) (fun h => by rw [if_neg h] at hJ; exact hJ)
end WC
/-- decode rows of a method, all at once -/
def dOk (cc : ByteArray) (t : List (Nat × Instr × Nat)) : Bool := t.all (fun q => decide (decode cc q.1 = .ok (q.2.1, q.2.2)))
theorem dAt {cc : ByteArray} {t : List (Nat × Instr × Nat)} (h : dOk cc t = true) (i : Nat) {pc n : Nat} {ins : Instr} (hi : t[i]? = some (pc, ins, n)) : decode cc pc = .ok (ins, n) := by
  have h1 : decide (decode cc pc = .ok (ins, n)) = true := List.all_eq_true.mp h (pc, ins, n) (List.mem_of_getElem? hi)
  exact of_decide_eq_true h1
end
section
def shXl : List wDs := [.inr (.inr (6, [some 1, some 6, some 10, some 15, some 20, some 35, some 50, some 53, some 62, some 63, some 64, none, none, none, none])), .inr (.inl (0, 2, fun i => 2 + 2 * i)), .inr (.inr (5, [none, some 3, none, none])), .inl 31, .inr (.inr (5, [none, some 5, none, none])), .inl 31, .inr (.inr (1, [some 7, some 8, some 9, none])), .inl 8, .inl 8, .inl 8, .inr (.inr (3, [some 11, some 12, some 13, some 14, none, none, none])), .inl 8, .inl 8, .inl 8, .inl 24, .inr (.inr (3, [some 16, some 17, some 18, some 19, none, none, none])), .inl 8, .inl 8, .inl 8, .inl 24, .inr (.inr (0, [some 21, some 22, some 23, some 24, some 25, some 26, some 27, some 28, some 29, some 30, some 31, some 32, some 33, some 34, none, none, none, none, none])), .inl 72, .inl 8, .inl 8, .inl 8, .inl 8, .inl 192, .inl 192, .inl 192, .inl 24, .inl 24, .inl 120, .inl 120, .inl 120, .inl 120, .inr (.inr (0, [some 36, some 37, some 38, some 39, some 40, some 41, some 42, some 43, some 44, some 45, some 46, some 47, some 48, some 49, none, none, none, none, none])), .inl 72, .inl 8, .inl 8, .inl 8, .inl 8, .inl 192, .inl 192, .inl 192, .inl 24, .inl 24, .inl 120, .inl 120, .inl 120, .inl 120, .inr (.inr (2, [some 51, some 52, none])), .inl 8, .inl 8, .inr (.inl (1, 4, fun i => 54 + 2 * i)), .inr (.inr (4, [some 55, none, none])), .inl 60, .inr (.inr (4, [some 57, none, none])), .inl 60, .inr (.inr (4, [some 59, none, none])), .inl 60, .inr (.inr (4, [some 61, none, none])), .inl 60, .inl 256, .inl 696, .inl 121]
def shMl : List wDs := [.inr (.inr (7, [some 1, some 2, some 3, some 4, none, some 5, some 6, none, some 7, none, some 8, none, none, some 9, none, some 10, some 11, some 12, some 13, none, none, some 14, some 15, some 16, some 17, none, none, none, some 18, some 19, some 20, some 21, some 22, none, some 23, some 24, none])), .inl 4, .inl 4, .inl 240, .inl 60, .inl 64, .inl 2, .inl 24, .inl 24, .inl 24, .inl 8, .inl 8, .inl 8, .inl 8, .inl 120, .inl 120, .inl 120, .inl 120, .inl 192, .inl 192, .inl 192, .inl 24, .inl 24, .inl 16, .inl 744]
def shX (k : Nat) : wDs := shXl.getD k (.inl 0)
def shM (k : Nat) : wDs := shMl.getD k (.inl 0)
def wX (E : wE) : Prop := (∀ k, sE E k = shX k) ∧ nE E = 65 ∧ wI E
theorem nX {E : wE} (hE : wX E) {k : Nat} (h : k < 65) : k < nE E := by rw [hE.2.1]; exact h
def wM (E : wE) : Prop := (∀ k, sE E k = shM k) ∧ nE E = 25 ∧ wI E
theorem nM {E : wE} (hE : wM E) {k : Nat} (h : k < 25) : k < nE E := by rw [hE.2.1]; exact h
def isD (d : Nat) : Prop := d = 20 ∨ d = 35
theorem nD {E : wE} (hE : wX E) {d c : Nat} (hd : isD d) (h : c ≤ d + 14) : c < nE E := by
  rw [hE.2.1]
  unfold isD at hd
  omega
theorem sD {E : wE} (hE : wX E) {d : Nat} (hd : isD d) : sE E d = .inr (.inr (0, [some (d + 1), some (d + 2), some (d + 3), some (d + 4), some (d + 5), some (d + 6), some (d + 7), some (d + 8), some (d + 9), some (d + 10), some (d + 11), some (d + 12), some (d + 13), some (d + 14), none, none, none, none, none])) := by
  rw [hE.1]
  rcases hd with rfl | rfl <;> rfl
theorem sD_1 {E : wE} (hE : wX E) {d : Nat} (hd : isD d) : sE E (d + 1) = .inl 72 := by
  rw [hE.1]
  rcases hd with rfl | rfl <;> rfl
theorem sD_2 {E : wE} (hE : wX E) {d : Nat} (hd : isD d) : sE E (d + 2) = .inl 8 := by
  rw [hE.1]
  rcases hd with rfl | rfl <;> rfl
theorem sD_3 {E : wE} (hE : wX E) {d : Nat} (hd : isD d) : sE E (d + 3) = .inl 8 := by
  rw [hE.1]
  rcases hd with rfl | rfl <;> rfl
theorem sD_4 {E : wE} (hE : wX E) {d : Nat} (hd : isD d) : sE E (d + 4) = .inl 8 := by
  rw [hE.1]
  rcases hd with rfl | rfl <;> rfl
theorem sD_5 {E : wE} (hE : wX E) {d : Nat} (hd : isD d) : sE E (d + 5) = .inl 8 := by
  rw [hE.1]
  rcases hd with rfl | rfl <;> rfl
theorem sD_6 {E : wE} (hE : wX E) {d : Nat} (hd : isD d) : sE E (d + 6) = .inl 192 := by
  rw [hE.1]
  rcases hd with rfl | rfl <;> rfl
theorem sD_7 {E : wE} (hE : wX E) {d : Nat} (hd : isD d) : sE E (d + 7) = .inl 192 := by
  rw [hE.1]
  rcases hd with rfl | rfl <;> rfl
theorem sD_8 {E : wE} (hE : wX E) {d : Nat} (hd : isD d) : sE E (d + 8) = .inl 192 := by
  rw [hE.1]
  rcases hd with rfl | rfl <;> rfl
theorem sD_9 {E : wE} (hE : wX E) {d : Nat} (hd : isD d) : sE E (d + 9) = .inl 24 := by
  rw [hE.1]
  rcases hd with rfl | rfl <;> rfl
theorem sD_10 {E : wE} (hE : wX E) {d : Nat} (hd : isD d) : sE E (d + 10) = .inl 24 := by
  rw [hE.1]
  rcases hd with rfl | rfl <;> rfl
theorem sD_11 {E : wE} (hE : wX E) {d : Nat} (hd : isD d) : sE E (d + 11) = .inl 120 := by
  rw [hE.1]
  rcases hd with rfl | rfl <;> rfl
theorem sD_12 {E : wE} (hE : wX E) {d : Nat} (hd : isD d) : sE E (d + 12) = .inl 120 := by
  rw [hE.1]
  rcases hd with rfl | rfl <;> rfl
theorem sD_13 {E : wE} (hE : wX E) {d : Nat} (hd : isD d) : sE E (d + 13) = .inl 120 := by
  rw [hE.1]
  rcases hd with rfl | rfl <;> rfl
theorem sD_14 {E : wE} (hE : wX E) {d : Nat} (hd : isD d) : sE E (d + 14) = .inl 120 := by
  rw [hE.1]
  rcases hd with rfl | rfl <;> rfl
theorem isD_20 : isD 20 := by unfold isD; decide
theorem isD_35 : isD 35 := by unfold isD; decide
def isS (d : Nat) : Prop := d = 10 ∨ d = 15
theorem nS {E : wE} (hE : wX E) {d c : Nat} (hd : isS d) (h : c ≤ d + 4) : c < nE E := by
  rw [hE.2.1]
  unfold isS at hd
  omega
theorem sS {E : wE} (hE : wX E) {d : Nat} (hd : isS d) : sE E d = .inr (.inr (3, [some (d + 1), some (d + 2), some (d + 3), some (d + 4), none, none, none])) := by
  rw [hE.1]
  rcases hd with rfl | rfl <;> rfl
theorem sS_1 {E : wE} (hE : wX E) {d : Nat} (hd : isS d) : sE E (d + 1) = .inl 8 := by
  rw [hE.1]
  rcases hd with rfl | rfl <;> rfl
theorem sS_2 {E : wE} (hE : wX E) {d : Nat} (hd : isS d) : sE E (d + 2) = .inl 8 := by
  rw [hE.1]
  rcases hd with rfl | rfl <;> rfl
theorem sS_3 {E : wE} (hE : wX E) {d : Nat} (hd : isS d) : sE E (d + 3) = .inl 8 := by
  rw [hE.1]
  rcases hd with rfl | rfl <;> rfl
theorem sS_4 {E : wE} (hE : wX E) {d : Nat} (hd : isS d) : sE E (d + 4) = .inl 24 := by
  rw [hE.1]
  rcases hd with rfl | rfl <;> rfl
theorem isS_10 : isS 10 := by unfold isS; decide
theorem isS_15 : isS 15 := by unfold isS; decide
def isT (d : Nat) : Prop := d = 2 ∨ d = 4
theorem nT {E : wE} (hE : wX E) {d c : Nat} (hd : isT d) (h : c ≤ d + 1) : c < nE E := by
  rw [hE.2.1]
  unfold isT at hd
  omega
theorem sT {E : wE} (hE : wX E) {d : Nat} (hd : isT d) : sE E d = .inr (.inr (5, [none, some (d + 1), none, none])) := by
  rw [hE.1]
  rcases hd with rfl | rfl <;> rfl
theorem sT_1 {E : wE} (hE : wX E) {d : Nat} (hd : isT d) : sE E (d + 1) = .inl 31 := by
  rw [hE.1]
  rcases hd with rfl | rfl <;> rfl
theorem isT_2 : isT 2 := by unfold isT; decide
theorem isT_4 : isT 4 := by unfold isT; decide
def isH (d : Nat) : Prop := d = 54 ∨ d = 56 ∨ d = 58 ∨ d = 60
theorem nH {E : wE} (hE : wX E) {d c : Nat} (hd : isH d) (h : c ≤ d + 1) : c < nE E := by
  rw [hE.2.1]
  unfold isH at hd
  omega
theorem sH {E : wE} (hE : wX E) {d : Nat} (hd : isH d) : sE E d = .inr (.inr (4, [some (d + 1), none, none])) := by
  rw [hE.1]
  rcases hd with rfl | rfl | rfl | rfl <;> rfl
theorem sH_1 {E : wE} (hE : wX E) {d : Nat} (hd : isH d) : sE E (d + 1) = .inl 60 := by
  rw [hE.1]
  rcases hd with rfl | rfl | rfl | rfl <;> rfl
theorem isH_54 : isH 54 := by unfold isH; decide
theorem isH_56 : isH 56 := by unfold isH; decide
theorem isH_58 : isH 58 := by unfold isH; decide
theorem isH_60 : isH 60 := by unfold isH; decide
theorem isH_of {i : Int32} (h : vp_in i 4) : isH (54 + 2 * i.toNatClampNeg) := by
  have h1 : i.toNatClampNeg < 4 := Nat.not_le.mp fun q => h (Or.inr q)
  unfold isH
  omega
theorem isT_of {i : Int32} (h : vp_in i 2) : isT (2 + 2 * i.toNatClampNeg) := by
  have h1 : i.toNatClampNeg < 2 := Nat.not_le.mp fun q => h (Or.inr q)
  unfold isT
  omega
theorem vin {i : Int32} {n : Nat} (h : decide (¬ (i < 0 ∨ n ≤ i.toNatClampNeg)) = true) : vp_in i n := of_decide_eq_true (p := ¬ (i < 0 ∨ n ≤ i.toNatClampNeg)) h
section WR6
variable {p : Program} {l : Launch} {e : Env} {R : Room} {s : State} {m : MethodId} {args : Array Value} {below : List Frame} {meth : Method} {c : Code} {H : Heap} {locs : List Loc} {cells slots : Nat} {Q : State → Prop}
variable {cc : ByteArray} {nL : Nat} {own : String} {E : wE} {A : Nat → Prop} {σ : Mem} {pc : Nat} {ls : Array Slot} {rest : List Value}
theorem x_ild (C : Cx p s m args c cc nL own E A) (hw : wd E A s σ H locs) {k n j : Nat} {i : Int32} (hk : sE E k = .inl n) (hN : k < nE E) (hin : vp_in i n) (hj : i.toNatClampNeg = j) (hdg : decode cc pc = .ok (.iaload, 1))
    (kk : W p l e R s m args below meth c H locs cells slots Q (F0 m (pc + 1) ls (.int (σ k j) :: rest))) : W p l e R s m args below meth c H locs cells slots Q (F0 m pc ls (.int i :: .ref (gE E k) :: rest)) := by
  subst hj
  exact x_iald C hw hk hN hin hdg kk
theorem x_ist (C : Cx p s m args c cc nL own E A) (hw : wd E A s σ H locs) {k n j : Nat} {i v : Int32} (hk : sE E k = .inl n) (hN : k < nE E) (hin : vp_in i n) (hj : i.toNatClampNeg = j) (hdg : decode cc pc = .ok (.iastore, 1))
    (kk : ∀ (τ : Mem) (H1 : Heap) (locs1 : List Loc), τ = um σ k j v → wd E A s τ H1 locs1 → W p l e R s m args below meth c H1 locs1 cells slots Q (F0 m (pc + 1) ls rest)) : W p l e R s m args below meth c H locs cells slots Q (F0 m pc ls (.int v :: .int i :: .ref (gE E k) :: rest)) := by
  subst hj
  exact x_iast C hw hk hN hin hdg (fun H1 locs1 h => kk _ H1 locs1 rfl h)
theorem x_pf (C : Cx p s m args c cc nL own E A) (hw : wd E A s σ H locs) {k idx ci j : Nat} {v : Int32} {ty : FieldType} {fs : List (Option Nat)} (hF : FLk own idx ci j ty false) (hk : sE E k = .inr (.inr (ci, fs))) (hN : k < nE E) (hf : fs[j]? = some none) (hn : narrow ty (.int v) = .int v) (hfit : fits ty (.int v) = true) (hdg : decode cc pc = .ok (.putfield idx, 3))
    (kk : ∀ (τ : Mem) (H1 : Heap) (locs1 : List Loc), τ = um σ k j v → wd E A s τ H1 locs1 → W p l e R s m args below meth c H1 locs1 cells slots Q (F0 m (pc + 3) ls rest)) : W p l e R s m args below meth c H locs cells slots Q (F0 m pc ls (.int v :: .ref (gE E k) :: rest)) :=
  x_put C hw hF hk hN hf hn hfit hdg (fun H1 locs1 h => kk _ H1 locs1 rfl h)
theorem x_pfN (C : Cx p s m args c cc nL own E A) (hw : wd E A s σ H locs) {k idx ci j : Nat} {v : Int32} {ty : FieldType} {fs : List (Option Nat)} (hF : FLn own idx ci j ty false) (hk : sE E k = .inr (.inr (ci, fs))) (hN : k < nE E) (hf : fs[j]? = some none) (hn : narrow ty (.int v) = .int v) (hfit : fits ty (.int v) = true) (hdg : decode cc pc = .ok (.putfield idx, 3))
    (kk : ∀ (τ : Mem) (H1 : Heap) (locs1 : List Loc), τ = um σ k j v → wd E A s τ H1 locs1 → W p l e R s m args below meth c H1 locs1 cells slots Q (F0 m (pc + 3) ls rest)) : W p l e R s m args below meth c H locs cells slots Q (F0 m pc ls (.int v :: .ref (gE E k) :: rest)) :=
  x_putN C hw hF hk hN hf hn hfit hdg (fun H1 locs1 h => kk _ H1 locs1 rfl h)
/-- the memory behind System.arraycopy -/
def cpM (σ : Mem) (k0 k1 sp dp n : Nat) : Mem := fun c => if c = k1 then va_cpy (σ k0) (σ k1) sp dp n else σ c
def cpOk (sp dp n : Int32) (n0 n1 : Nat) : Prop := (¬ sp < 0 ∧ ¬ dp < 0 ∧ ¬ n < 0) ∧ sp.toNatClampNeg + n.toNatClampNeg ≤ n0 ∧ dp.toNatClampNeg + n.toNatClampNeg ≤ n1
theorem x_cp (C : Cx p s m args c cc nL own E A) (hw : wd E A s σ H locs) (hls : ls.size = nL) {idx k0 k1 n0 n1 : Nat} {sp dp n : Int32} (hlk : Cond.methodLink own idx arraycopyName ∈ TB) (h0 : sE E k0 = .inl n0) (hN0 : k0 < nE E) (h1 : sE E k1 = .inl n1) (hN1 : k1 < nE E)
    (hnat : Cond.native arraycopyName ∈ TB) (hstat : Cond.static arraycopyName ∈ TB) (hini : Cond.initialized "java/lang/System" ∈ TB)
    (hb : cpOk sp dp n n0 n1) (hf : 1 ≤ R.frames) (hlo : (rest.map fun v => v.category).sum + (nativeFrameWords "java/lang/System" "arraycopy" 5 + 11) ≤ R.locals) (hdg : decode cc pc = .ok (.invokestatic idx, 3))
    (kk : ∀ (τ : Mem) (H1 : Heap) (locs1 : List Loc), τ = cpM σ k0 k1 sp.toNatClampNeg dp.toNatClampNeg n.toNatClampNeg → wd E A s τ H1 locs1 → W p l e R s m args below meth c H1 locs1 cells slots Q (F0 m (pc + 3) ls rest)) : W p l e R s m args below meth c H locs cells slots Q (F0 m pc ls (.int n :: .int dp :: .ref (gE E k1) :: .int sp :: .ref (gE E k0) :: rest)) :=
  x_copy C hw hls hlk h0 hN0 h1 hN1 hnat hstat hini hb hf hlo hdg (fun H1 locs1 h => kk _ H1 locs1 rfl h)
end WR6
end
section
def bz (v : Int32) : Prop := narrow .boolean (.int v) = .int v
theorem swT (x : Int32) (lo n : Nat) (h : decide (lo + n < 2 ^ 31) = true) : (∃ j, j < n ∧ x = nI (lo + j)) ∨ x.toInt < (lo : Int) ∨ (lo : Int) + n - 1 < x.toInt := by
  have h := of_decide_eq_true h
  by_cases h1 : x.toInt < (lo : Int)
  · exact Or.inr (Or.inl h1)
  · by_cases h2 : (lo : Int) + n - 1 < x.toInt
    · exact Or.inr (Or.inr h2)
    · refine Or.inl ⟨x.toInt.toNat - lo, by omega, ?_⟩
      apply Int32.toInt_inj.mp
      rw [nI_toInt (by omega)]
      omega
theorem ncp_1 : Cond.native arraycopyName ∈ TB := TB_of 475 (by decide +kernel) rfl
theorem ncp_2 : Cond.static arraycopyName ∈ TB := TB_of 474 (by decide +kernel) rfl
theorem ncp_3 : Cond.initialized "java/lang/System" ∈ TB := TB_of 94 (by decide +kernel) rfl
theorem lcp_X0_93 : Cond.methodLink RX0 93 arraycopyName ∈ TB := TB_of 473 (by decide +kernel) rfl
theorem lcp_X3_34 : Cond.methodLink RX3 34 arraycopyName ∈ TB := TB_of 561 (by decide +kernel) rfl
theorem lcp_X6_238 : Cond.methodLink RX6 238 arraycopyName ∈ TB := TB_of 619 (by decide +kernel) rfl
end
section
def tX7_in : List (Nat × Instr × Nat) := [(0, .lload_n 0, 1), (1, .lload_n 2, 1), (2, .lcmp, 1), (3, .ifCond .lt 14, 3), (6, .lload_n 0, 1), (7, .lload 4, 2), (9, .lcmp, 1), (10, .ifCond .gt 7, 3), (13, .iconst 1, 1), (14, .goto 4, 3), (17, .iconst 0, 1), (18, .ireturn, 1)]
theorem dX7_in : dOk cX7_in tX7_in = true := by decide +kernel
abbrev rX7_in : Room := { frames := 0, cells := 0, slots := 0, locals := 0 }
def wX7_in (x0 : Int64) (x2 : Int64) (x4 : Int64) (σ : Mem) (Q : Int32 → Mem → Prop) : Prop := (((x0 < x2) → (Q (0 : Int32) σ)) ∧ ((¬ x0 < x2) → (((x4 < x0) → (Q (0 : Int32) σ)) ∧ ((¬ x4 < x0) → (Q (1 : Int32) σ)))))
set_option maxHeartbeats 4000000 in
set_option maxRecDepth 100000 in
theorem kX7_in (l : Launch) (E : wE) (hE : wM E) (x0 : Int64) (x2 : Int64) (x4 : Int64) (σ : Mem) (Q : Int32 → Mem → Prop) (h : wX7_in x0 x2 x4 σ Q) : Met l yX7_in (Cond.code yX7_in cX7_in 6 (some .boolean) :: TB) rX7_in (wPc E σ [.long x0, .long x2, .long x4]) (wQi E Q) 0 0 (wA E) := by
  refine wMet (by decide) hE.2.2 (Nat.le_of_ble_eq_true rfl) ?_
  intro p e s m args below meth c ls C hr hlk hl hw
  have hx := C.1.1
  have hb := C.1.2.1
  replace C : Cx p s m args c cX7_in 6 RX7 E (wA E) := C
  replace hl : lv_has ls 6 [(0, .long x0), (2, .long x2), (4, .long x4)] := hl
  unfold wX7_in at h
  refine lv_lload_n hx hb (dAt dX7_in 0 rfl) rfl (lv_at hl 0 rfl) ?_
  refine lv_lload_n hx hb (dAt dX7_in 1 rfl) rfl (lv_at hl 1 rfl) ?_
  refine W.lcmp hx hb (dAt dX7_in 2 rfl) ?_
  refine lv_if_lt (tgt := 17) hx hb (dAt dX7_in 3 rfl) (by decide) (fun c3 => ?_) (fun c3 => ?_)
  · replace h := h.1 ((lg_cmp_lt _ _).mp c3)
    refine lv_iconst (v := 0) hx hb (dAt dX7_in 10 rfl) (by decide) ?_
    exact x_zret C hw hr hlk rfl h (dAt dX7_in 11 rfl)
  · replace h := h.2 (fun z => c3 ((lg_cmp_lt _ _).mpr z))
    refine lv_lload_n hx hb (dAt dX7_in 4 rfl) rfl (lv_at hl 0 rfl) ?_
    refine lv_lload hx hb (dAt dX7_in 5 rfl) (lv_at hl 2 rfl) ?_
    refine W.lcmp hx hb (dAt dX7_in 6 rfl) ?_
    refine lv_if_gt (tgt := 17) hx hb (dAt dX7_in 7 rfl) (by decide) (fun c10 => ?_) (fun c10 => ?_)
    · replace h := h.1 ((lg_cmp_gt _ _).mp c10)
      refine lv_iconst (v := 0) hx hb (dAt dX7_in 10 rfl) (by decide) ?_
      exact x_zret C hw hr hlk rfl h (dAt dX7_in 11 rfl)
    · replace h := h.2 (fun z => c10 ((lg_cmp_gt _ _).mpr z))
      refine lv_iconst (v := 1) hx hb (dAt dX7_in 8 rfl) (by decide) ?_
      refine lv_goto (tgt := 18) hx hb (dAt dX7_in 9 rfl) (by decide) ?_
      exact x_zret C hw hr hlk rfl h (dAt dX7_in 11 rfl)
def tX7_isTwo : List (Nat × Instr × Nat) := [(0, .iload_n 0, 1), (1, .i2l, 1), (2, .lconst 0, 1), (3, .lconst 1, 1), (4, .invokestatic 88, 3), (7, .ireturn, 1)]
theorem dX7_isTwo : dOk cX7_isTwo tX7_isTwo = true := by decide +kernel
abbrev rX7_isTwo : Room := { frames := 1, cells := 0, slots := 0, locals := 25 }
def wX7_isTwo (x0 : Int32) (σ : Mem) (Q : Int32 → Mem → Prop) : Prop := (wX7_in ((x0).toInt64) (0 : Int64) (1 : Int64) σ (fun r4 σ4 => (bz r4 ∧ Q r4 σ4)))
set_option maxHeartbeats 4000000 in
set_option maxRecDepth 100000 in
theorem kX7_isTwo (l : Launch) (E : wE) (hE : wM E) (x0 : Int32) (σ : Mem) (Q : Int32 → Mem → Prop) (h : wX7_isTwo x0 σ Q) : Met l yX7_isTwo (Cond.code yX7_isTwo cX7_isTwo 1 (some .boolean) :: TB) rX7_isTwo (wPc E σ [.int x0]) (wQi E Q) 0 0 (wA E) := by
  refine wMet (by decide) hE.2.2 (Nat.le_of_ble_eq_true rfl) ?_
  intro p e s m args below meth c ls C hr hlk hl hw
  have hx := C.1.1
  have hb := C.1.2.1
  replace C : Cx p s m args c cX7_isTwo 1 RX7 E (wA E) := C
  replace hl : lv_has ls 1 [(0, .int x0)] := hl
  unfold wX7_isTwo at h
  refine lv_iload_n hx hb (dAt dX7_isTwo 0 rfl) rfl (lv_at hl 0 rfl) ?_
  refine lv_i2l hx hb (dAt dX7_isTwo 1 rfl) rfl ?_
  refine lv_lconst (v := 0) hx hb (dAt dX7_isTwo 2 rfl) (by decide) ?_
  refine lv_lconst (v := 1) hx hb (dAt dX7_isTwo 3 rfl) (by decide) ?_
  refine x_calli C hw (x_runS (As := [.long ((x0).toInt64), .long (0 : Int64), .long (1 : Int64)]) (rest := []) C hw (kX7_in l E hE ((x0).toInt64) (0 : Int64) (1 : Int64) σ _ h) mtX7_in lk_X7_88 ⟨by decide, by decide⟩ ⟨rfl, rfl⟩ rfl hl.1 rfl (by decide) (dAt dX7_isTwo 4 rfl) ⟨Nat.zero_le _, Nat.zero_le _⟩) (fun r4 σ4 H locs h hw => ?_)
  exact x_zret C hw hr hlk h.1 h.2 (dAt dX7_isTwo 5 rfl)
def tX7_isIn : List (Nat × Instr × Nat) := [(0, .iload_n 0, 1), (1, .iload_n 1, 1), (2, .ishr, 1), (3, .iconst 1, 1), (4, .iand, 1), (5, .iconst 1, 1), (6, .if_icmp .ne 7, 3), (9, .iconst 1, 1), (10, .goto 4, 3), (13, .iconst 0, 1), (14, .ireturn, 1)]
theorem dX7_isIn : dOk cX7_isIn tX7_isIn = true := by decide +kernel
abbrev rX7_isIn : Room := { frames := 0, cells := 0, slots := 0, locals := 0 }
def wX7_isIn (x0 : Int32) (x1 : Int32) (σ : Mem) (Q : Int32 → Mem → Prop) : Prop := (bz (if ((x0 >>> (x1 &&& 31)) &&& (1 : Int32)) = (1 : Int32) then (1 : Int32) else (0 : Int32)) ∧ Q (if ((x0 >>> (x1 &&& 31)) &&& (1 : Int32)) = (1 : Int32) then (1 : Int32) else (0 : Int32)) σ)
set_option maxHeartbeats 4000000 in
set_option maxRecDepth 100000 in
theorem kX7_isIn (l : Launch) (E : wE) (hE : wM E) (x0 : Int32) (x1 : Int32) (σ : Mem) (Q : Int32 → Mem → Prop) (h : wX7_isIn x0 x1 σ Q) : Met l yX7_isIn (Cond.code yX7_isIn cX7_isIn 2 (some .boolean) :: TB) rX7_isIn (wPc E σ [.int x0, .int x1]) (wQi E Q) 0 0 (wA E) := by
  refine wMet (by decide) hE.2.2 (Nat.le_of_ble_eq_true rfl) ?_
  intro p e s m args below meth c ls C hr hlk hl hw
  have hx := C.1.1
  have hb := C.1.2.1
  replace C : Cx p s m args c cX7_isIn 2 RX7 E (wA E) := C
  replace hl : lv_has ls 2 [(0, .int x0), (1, .int x1)] := hl
  unfold wX7_isIn at h
  refine lv_iload_n hx hb (dAt dX7_isIn 0 rfl) rfl (lv_at hl 0 rfl) ?_
  refine lv_iload_n hx hb (dAt dX7_isIn 1 rfl) rfl (lv_at hl 1 rfl) ?_
  refine lv_ishr hx hb (dAt dX7_isIn 2 rfl) ?_
  refine lv_iconst (v := 1) hx hb (dAt dX7_isIn 3 rfl) (by decide) ?_
  refine lv_iand hx hb (dAt dX7_isIn 4 rfl) ?_
  refine lv_iconst (v := 1) hx hb (dAt dX7_isIn 5 rfl) (by decide) ?_
  refine x_dia (ls := ls) (pcJ := 14) (cnd := ((x0 >>> (x1 &&& 31)) &&& (1 : Int32)) = (1 : Int32)) (a := (1 : Int32)) (b := (0 : Int32)) ([]) ?_ (fun ht6 hf6 => ?_)
  · exact x_zret C hw hr hlk h.1 h.2 (dAt dX7_isIn 10 rfl)
  · refine lv_icmp_ne (tgt := 13) hx hb (dAt dX7_isIn 6 rfl) (by decide) (fun c6 => ?_) (fun c6 => ?_)
    · refine lv_iconst (v := 0) hx hb (dAt dX7_isIn 9 rfl) (by decide) ?_
      exact hf6 c6
    · refine lv_iconst (v := 1) hx hb (dAt dX7_isIn 7 rfl) (by decide) ?_
      refine lv_goto (tgt := 14) hx hb (dAt dX7_isIn 8 rfl) (by decide) ?_
      exact ht6 c6
def tX7_part : List (Nat × Instr × Nat) := [(0, .lload_n 0, 1), (1, .lstore 5, 2), (3, .lload_n 2, 1), (4, .lstore 7, 2), (6, .lload 7, 2), (8, .lconst 0, 1), (9, .lcmp, 1), (10, .ifCond .eq 21, 3), (13, .lload 5, 2), (15, .lload 7, 2), (17, .lrem, 1), (18, .lstore 9, 2), (20, .lload 7, 2), (22, .lstore 5, 2), (24, .lload 9, 2), (26, .lstore 7, 2), (28, .goto (-22), 3), (31, .iload 4, 2), (33, .ifCond .ne 7, 3), (36, .lload_n 0, 1), (37, .goto 4, 3), (40, .lload_n 2, 1), (41, .lload 5, 2), (43, .ldiv, 1), (44, .lreturn, 1)]
theorem dX7_part : dOk cX7_part tX7_part = true := by decide +kernel
abbrev rX7_part : Room := { frames := 0, cells := 0, slots := 0, locals := 0 }
def wX7_part_31 (Q : Int64 → Mem → Prop) (x0 : Int64) (x2 : Int64) (x4 : Int32) (x5 : Int64) (σ : Mem) : Prop := (((¬ x4 = 0) → (¬ x5 = 0 ∧ (Q (x2 / x5) σ))) ∧ ((x4 = 0) → (¬ x5 = 0 ∧ (Q (x0 / x5) σ))))
def wX7_part_6 (Q : Int64 → Mem → Prop) : Nat → Int64 → Int64 → Int32 → Int64 → Int64 → Mem → Prop
  | 0, _, _, _, _, _, _ => False
  | n + 1, x0, x2, x4, x5, x7, σ => (((x7 = (0 : Int64)) → (wX7_part_31 Q x0 x2 x4 x5 σ)) ∧ ((¬ x7 = (0 : Int64)) → (¬ x7 = 0 ∧ (∀ x9_18 : Int64, x9_18 = (x5 - x5 / x7 * x7) → (wX7_part_6 Q n x0 x2 x4 x7 x9_18 σ)))))
def wX7_part (x0 : Int64) (x2 : Int64) (x4 : Int32) (σ : Mem) (Q : Int64 → Mem → Prop) : Prop := (∃ n, wX7_part_6 Q n x0 x2 x4 x0 x2 σ)
set_option maxHeartbeats 4000000 in
set_option maxRecDepth 100000 in
theorem kX7_part_31 {p : Program} {l : Launch} {e : Env} {s : State} {m : MethodId} {args : Array Value} {below : List Frame} {meth : Method} {c : Code} {E : wE} (hE : wM E) (C : Cx p s m args c cX7_part 11 RX7 E (wA E)) (hr : meth.sig.returnType = (some .long)) (hlk : meth.locks = false) {Q : Int64 → Mem → Prop} : ∀ (x0 : Int64) (x2 : Int64) (x4 : Int32) (x5 : Int64) (σ : Mem) (H : Heap) (locs : List Loc) (ls : Array Slot), wd E (wA E) s σ H locs → lv_has ls 11 [(0, .long x0), (2, .long x2), (4, .int x4), (5, .long x5)] → wX7_part_31 Q x0 x2 x4 x5 σ → W p l e rX7_part s m args below meth c H locs 0 0 (MQ below (wQl E Q) args s 0 0 (wA E)) (F0 m 31 ls []) := by
  have hx := C.1.1
  have hb := C.1.2.1
  intro x0 x2 x4 x5 σ  H locs ls hw hl h
  unfold wX7_part_31 at h
  refine lv_iload hx hb (dAt dX7_part 17 rfl) (lv_at hl 2 rfl) ?_
  refine lv_if_ne (tgt := 40) hx hb (dAt dX7_part 18 rfl) (by decide) (fun c33 => ?_) (fun c33 => ?_)
  · replace h := h.1 c33
    refine lv_lload_n hx hb (dAt dX7_part 21 rfl) rfl (lv_at hl 1 rfl) ?_
    refine lv_lload hx hb (dAt dX7_part 22 rfl) (lv_at hl 3 rfl) ?_
    obtain ⟨z43, h⟩ := h
    refine lv_ldiv hx hb (dAt dX7_part 23 rfl) z43 ?_
    exact x_lret C hw hr hlk h (dAt dX7_part 24 rfl)
  · replace h := h.2 c33
    refine lv_lload_n hx hb (dAt dX7_part 19 rfl) rfl (lv_at hl 0 rfl) ?_
    refine lv_goto (tgt := 41) hx hb (dAt dX7_part 20 rfl) (by decide) ?_
    refine lv_lload hx hb (dAt dX7_part 22 rfl) (lv_at hl 3 rfl) ?_
    obtain ⟨z43, h⟩ := h
    refine lv_ldiv hx hb (dAt dX7_part 23 rfl) z43 ?_
    exact x_lret C hw hr hlk h (dAt dX7_part 24 rfl)
set_option maxHeartbeats 4000000 in
set_option maxRecDepth 100000 in
theorem kX7_part_6 {p : Program} {l : Launch} {e : Env} {s : State} {m : MethodId} {args : Array Value} {below : List Frame} {meth : Method} {c : Code} {E : wE} (hE : wM E) (C : Cx p s m args c cX7_part 11 RX7 E (wA E)) (hr : meth.sig.returnType = (some .long)) (hlk : meth.locks = false) {Q : Int64 → Mem → Prop} : ∀ (n : Nat) (x0 : Int64) (x2 : Int64) (x4 : Int32) (x5 : Int64) (x7 : Int64) (σ : Mem) (H : Heap) (locs : List Loc) (ls : Array Slot), wd E (wA E) s σ H locs → lv_has ls 11 [(0, .long x0), (2, .long x2), (4, .int x4), (5, .long x5), (7, .long x7)] → wX7_part_6 Q n x0 x2 x4 x5 x7 σ → W p l e rX7_part s m args below meth c H locs 0 0 (MQ below (wQl E Q) args s 0 0 (wA E)) (F0 m 6 ls []) := by
  have hx := C.1.1
  have hb := C.1.2.1
  intro n
  induction n with
  | zero =>
    intro x0 x2 x4 x5 x7 σ  H locs ls hw hl h
    exact h.elim
  | succ n ih =>
    intro x0 x2 x4 x5 x7 σ  H locs ls hw hl h
    rw [wX7_part_6] at h
    refine lv_lload hx hb (dAt dX7_part 4 rfl) (lv_at hl 4 rfl) ?_
    refine lv_lconst (v := 0) hx hb (dAt dX7_part 5 rfl) (by decide) ?_
    refine W.lcmp hx hb (dAt dX7_part 6 rfl) ?_
    refine lv_if_eq (tgt := 31) hx hb (dAt dX7_part 7 rfl) (by decide) (fun c10 => ?_) (fun c10 => ?_)
    · replace h := h.1 ((lg_cmp_eq _ _).mp c10)
      exact kX7_part_31 hE C hr hlk x0 x2 x4 x5 σ  _ _ _ hw (lv_sub hl [0, 1, 2, 3] rfl) h
    · replace h := h.2 (fun z => c10 ((lg_cmp_eq _ _).mpr z))
      refine lv_lload hx hb (dAt dX7_part 8 rfl) (lv_at hl 3 rfl) ?_
      refine lv_lload hx hb (dAt dX7_part 9 rfl) (lv_at hl 4 rfl) ?_
      obtain ⟨z17, h⟩ := h
      refine lv_lrem hx hb (dAt dX7_part 10 rfl) z17 ?_
      refine lv_topl (fun x9_18 ex9_18 => ?_)
      replace h := h x9_18 ex9_18
      refine lv_lstore (lv' := [(9, .long x9_18), (0, .long x0), (2, .long x2), (4, .int x4), (5, .long x5), (7, .long x7)]) hx hb (dAt dX7_part 11 rfl) hl (by decide) rfl (fun ls hl => ?_)
      refine lv_lload hx hb (dAt dX7_part 12 rfl) (lv_at hl 5 rfl) ?_
      refine lv_lstore (lv' := [(5, .long x7), (9, .long x9_18), (0, .long x0), (2, .long x2), (4, .int x4), (7, .long x7)]) hx hb (dAt dX7_part 13 rfl) hl (by decide) rfl (fun ls hl => ?_)
      refine lv_lload hx hb (dAt dX7_part 14 rfl) (lv_at hl 1 rfl) ?_
      refine lv_lstore (lv' := [(7, .long x9_18), (5, .long x7), (9, .long x9_18), (0, .long x0), (2, .long x2), (4, .int x4)]) hx hb (dAt dX7_part 15 rfl) hl (by decide) rfl (fun ls hl => ?_)
      refine lv_goto (tgt := 6) hx hb (dAt dX7_part 16 rfl) (by decide) ?_
      exact ih x0 x2 x4 x7 x9_18 σ  _ _ _ hw (lv_sub hl [3, 4, 5, 1, 0] rfl) h
set_option maxHeartbeats 4000000 in
set_option maxRecDepth 100000 in
theorem kX7_part (l : Launch) (E : wE) (hE : wM E) (x0 : Int64) (x2 : Int64) (x4 : Int32) (σ : Mem) (Q : Int64 → Mem → Prop) (h : wX7_part x0 x2 x4 σ Q) : Met l yX7_part (Cond.code yX7_part cX7_part 11 (some .long) :: TB) rX7_part (wPc E σ [.long x0, .long x2, .int x4]) (wQl E Q) 0 0 (wA E) := by
  refine wMet (by decide) hE.2.2 (Nat.le_of_ble_eq_true rfl) ?_
  intro p e s m args below meth c ls C hr hlk hl hw
  have hx := C.1.1
  have hb := C.1.2.1
  replace C : Cx p s m args c cX7_part 11 RX7 E (wA E) := C
  replace hl : lv_has ls 11 [(0, .long x0), (2, .long x2), (4, .int x4)] := hl
  unfold wX7_part at h
  refine lv_lload_n hx hb (dAt dX7_part 0 rfl) rfl (lv_at hl 0 rfl) ?_
  refine lv_lstore (lv' := [(5, .long x0), (0, .long x0), (2, .long x2), (4, .int x4)]) hx hb (dAt dX7_part 1 rfl) hl (by decide) rfl (fun ls hl => ?_)
  refine lv_lload_n hx hb (dAt dX7_part 2 rfl) rfl (lv_at hl 2 rfl) ?_
  refine lv_lstore (lv' := [(7, .long x2), (5, .long x0), (0, .long x0), (2, .long x2), (4, .int x4)]) hx hb (dAt dX7_part 3 rfl) hl (by decide) rfl (fun ls hl => ?_)
  obtain ⟨n6, h⟩ := h
  exact kX7_part_6 hE C hr hlk n6 x0 x2 x4 x0 x2 σ  _ _ _ hw (lv_sub hl [2, 3, 4, 1, 0] rfl) h
def tX7_bareNow : List (Nat × Instr × Nat) := [(0, .iconst (-1), 1), (1, .istore_n 1, 1), (2, .iconst 0, 1), (3, .istore_n 2, 1), (4, .iload_n 2, 1), (5, .bipush 24, 2), (7, .if_icmp .ge 24, 3), (10, .aload_n 0, 1), (11, .getfield 70, 3), (14, .iload_n 2, 1), (15, .iaload, 1), (16, .ifCond .ne 7, 3), (19, .iload_n 2, 1), (20, .goto 4, 3), (23, .iload_n 1, 1), (24, .istore_n 1, 1), (25, .iinc 2 1, 3), (28, .goto (-24), 3), (31, .iload_n 1, 1), (32, .ireturn, 1)]
theorem dX7_bareNow : dOk cX7_bareNow tX7_bareNow = true := by decide +kernel
abbrev rX7_bareNow : Room := { frames := 0, cells := 0, slots := 0, locals := 0 }
def wX7_bareNow_4 (Q : Int32 → Mem → Prop) : Nat → Int32 → Int32 → Mem → Prop
  | 0, _, _, _ => False
  | n + 1, x1, x2, σ => ((((24 : Int32) ≤ x2) → (Q x1 σ)) ∧ ((¬ (24 : Int32) ≤ x2) → (vp_in x2 24 ∧ (∀ x1_24 : Int32, x1_24 = (if (σ 21 (x2).toNatClampNeg) = 0 then x2 else x1) → (wX7_bareNow_4 Q n x1_24 (x2 + (1 : Int32)) σ)))))
def wX7_bareNow (σ : Mem) (Q : Int32 → Mem → Prop) : Prop := (∃ n, wX7_bareNow_4 Q n (-1 : Int32) (0 : Int32) σ)
set_option maxHeartbeats 4000000 in
set_option maxRecDepth 100000 in
theorem kX7_bareNow_4 {p : Program} {l : Launch} {e : Env} {s : State} {m : MethodId} {args : Array Value} {below : List Frame} {meth : Method} {c : Code} {E : wE} (hE : wM E) (C : Cx p s m args c cX7_bareNow 3 RX7 E (wA E)) (hr : meth.sig.returnType = (some .int)) (hlk : meth.locks = false) {Q : Int32 → Mem → Prop} : ∀ (n : Nat) (x1 : Int32) (x2 : Int32) (σ : Mem) (H : Heap) (locs : List Loc) (ls : Array Slot), wd E (wA E) s σ H locs → lv_has ls 3 [(0, .ref (gE E 0)), (1, .int x1), (2, .int x2)] → wX7_bareNow_4 Q n x1 x2 σ → W p l e rX7_bareNow s m args below meth c H locs 0 0 (MQ below (wQi E Q) args s 0 0 (wA E)) (F0 m 4 ls []) := by
  have hx := C.1.1
  have hb := C.1.2.1
  intro n
  induction n with
  | zero =>
    intro x1 x2 σ  H locs ls hw hl h
    exact h.elim
  | succ n ih =>
    intro x1 x2 σ  H locs ls hw hl h
    rw [wX7_bareNow_4] at h
    refine lv_iload_n hx hb (dAt dX7_bareNow 4 rfl) rfl (lv_at hl 2 rfl) ?_
    refine lv_bipush (v := 24) hx hb (dAt dX7_bareNow 5 rfl) (by decide) ?_
    refine lv_icmp_ge (tgt := 31) hx hb (dAt dX7_bareNow 6 rfl) (by decide) (fun c7 => ?_) (fun c7 => ?_)
    · replace h := h.1 c7
      refine lv_iload_n hx hb (dAt dX7_bareNow 18 rfl) rfl (lv_at hl 1 rfl) ?_
      exact x_iret C hw hr hlk h (dAt dX7_bareNow 19 rfl)
    · replace h := h.2 c7
      refine lv_aload_n hx hb (dAt dX7_bareNow 7 rfl) rfl (lv_at hl 0 rfl) ?_
      refine x_getr C hw fl_X7_70 (hE.1 0) (nM hE (by decide)) rfl (dAt dX7_bareNow 8 rfl) ?_
      refine lv_iload_n hx hb (dAt dX7_bareNow 9 rfl) rfl (lv_at hl 2 rfl) ?_
      obtain ⟨z15, h⟩ := h
      refine x_ild C hw (hE.1 21) (nM hE (by decide)) z15 rfl (dAt dX7_bareNow 10 rfl) ?_
      refine x_dia (ls := ls) (pcJ := 24) (cnd := (σ 21 (x2).toNatClampNeg) = 0) (a := x2) (b := x1) ([]) ?_ (fun ht16 hf16 => ?_)
      · refine lv_topi (fun x1_24 ex1_24 => ?_)
        replace h := h x1_24 ex1_24
        refine lv_istore_n (lv' := [(1, .int x1_24), (0, .ref (gE E 0)), (2, .int x2)]) hx hb (dAt dX7_bareNow 15 rfl) rfl hl (by decide) rfl (fun ls hl => ?_)
        refine lv_iinc (v := (x2 + (1 : Int32))) (lv' := [(2, .int (x2 + (1 : Int32))), (1, .int x1_24), (0, .ref (gE E 0))]) hx hb (dAt dX7_bareNow 16 rfl) hl (k := 2) rfl rfl (by decide) rfl (fun ls hl => ?_)
        refine lv_goto (tgt := 4) hx hb (dAt dX7_bareNow 17 rfl) (by decide) ?_
        exact ih x1_24 (x2 + (1 : Int32)) σ  _ _ _ hw (lv_sub hl [2, 1, 0] rfl) h
      · refine lv_if_ne (tgt := 23) hx hb (dAt dX7_bareNow 11 rfl) (by decide) (fun c16 => ?_) (fun c16 => ?_)
        · refine lv_iload_n hx hb (dAt dX7_bareNow 14 rfl) rfl (lv_at hl 1 rfl) ?_
          exact hf16 c16
        · refine lv_iload_n hx hb (dAt dX7_bareNow 12 rfl) rfl (lv_at hl 2 rfl) ?_
          refine lv_goto (tgt := 24) hx hb (dAt dX7_bareNow 13 rfl) (by decide) ?_
          exact ht16 c16
set_option maxHeartbeats 4000000 in
set_option maxRecDepth 100000 in
theorem kX7_bareNow (l : Launch) (E : wE) (hE : wM E) (σ : Mem) (Q : Int32 → Mem → Prop) (h : wX7_bareNow  σ Q) : Met l yX7_bareNow (Cond.code yX7_bareNow cX7_bareNow 3 (some .int) :: TB) rX7_bareNow (wPc E σ [.ref (gE E 0)]) (wQi E Q) 0 0 (wA E) := by
  refine wMet (by decide) hE.2.2 (Nat.le_of_ble_eq_true rfl) ?_
  intro p e s m args below meth c ls C hr hlk hl hw
  have hx := C.1.1
  have hb := C.1.2.1
  replace C : Cx p s m args c cX7_bareNow 3 RX7 E (wA E) := C
  replace hl : lv_has ls 3 [(0, .ref (gE E 0))] := hl
  unfold wX7_bareNow at h
  refine lv_iconst (v := -1) hx hb (dAt dX7_bareNow 0 rfl) (by decide) ?_
  refine lv_istore_n (lv' := [(1, .int (-1 : Int32)), (0, .ref (gE E 0))]) hx hb (dAt dX7_bareNow 1 rfl) rfl hl (by decide) rfl (fun ls hl => ?_)
  refine lv_iconst (v := 0) hx hb (dAt dX7_bareNow 2 rfl) (by decide) ?_
  refine lv_istore_n (lv' := [(2, .int (0 : Int32)), (1, .int (-1 : Int32)), (0, .ref (gE E 0))]) hx hb (dAt dX7_bareNow 3 rfl) rfl hl (by decide) rfl (fun ls hl => ?_)
  obtain ⟨n4, h⟩ := h
  exact kX7_bareNow_4 hE C hr hlk n4 (-1 : Int32) (0 : Int32) σ  _ _ _ hw (lv_sub hl [2, 1, 0] rfl) h
def tX7_finds : List (Nat × Instr × Nat) := [(0, .aload_n 0, 1), (1, .iload_n 1, 1), (2, .putfield 92, 3), (5, .bipush (-10), 2), (7, .iload_n 1, 1), (8, .isub, 1), (9, .ireturn, 1)]
theorem dX7_finds : dOk cX7_finds tX7_finds = true := by decide +kernel
abbrev rX7_finds : Room := { frames := 0, cells := 0, slots := 0, locals := 0 }
def wX7_finds (x1 : Int32) (σ : Mem) (Q : Int32 → Mem → Prop) : Prop := (∀ σ2 : Mem, σ2 = um σ 0 4 x1 → (Q ((-10 : Int32) - x1) σ2))
set_option maxHeartbeats 4000000 in
set_option maxRecDepth 100000 in
theorem kX7_finds (l : Launch) (E : wE) (hE : wM E) (x1 : Int32) (σ : Mem) (Q : Int32 → Mem → Prop) (h : wX7_finds x1 σ Q) : Met l yX7_finds (Cond.code yX7_finds cX7_finds 2 (some .int) :: TB) rX7_finds (wPc E σ [.ref (gE E 0), .int x1]) (wQi E Q) 0 0 (wA E) := by
  refine wMet (by decide) hE.2.2 (Nat.le_of_ble_eq_true rfl) ?_
  intro p e s m args below meth c ls C hr hlk hl hw
  have hx := C.1.1
  have hb := C.1.2.1
  replace C : Cx p s m args c cX7_finds 2 RX7 E (wA E) := C
  replace hl : lv_has ls 2 [(0, .ref (gE E 0)), (1, .int x1)] := hl
  unfold wX7_finds at h
  refine lv_aload_n hx hb (dAt dX7_finds 0 rfl) rfl (lv_at hl 0 rfl) ?_
  refine lv_iload_n hx hb (dAt dX7_finds 1 rfl) rfl (lv_at hl 1 rfl) ?_
  refine x_pf C hw fl_X7_92 (hE.1 0) (nM hE (by decide)) rfl rfl rfl (dAt dX7_finds 2 rfl) (fun σ2 H locs eσ2 hw => ?_)
  replace h := h σ2 eσ2
  refine lv_bipush (v := -10) hx hb (dAt dX7_finds 3 rfl) (by decide) ?_
  refine lv_iload_n hx hb (dAt dX7_finds 4 rfl) rfl (lv_at hl 1 rfl) ?_
  refine lv_isub hx hb (dAt dX7_finds 5 rfl) ?_
  exact x_iret C hw hr hlk h (dAt dX7_finds 6 rfl)
def tX7_isSheet : List (Nat × Instr × Nat) := [(0, .iload_n 0, 1), (1, .i2l, 1), (2, .lconst 0, 1), (3, .ldc2_w 95, 3), (6, .invokestatic 88, 3), (9, .ireturn, 1)]
theorem dX7_isSheet : dOk cX7_isSheet tX7_isSheet = true := by decide +kernel
abbrev rX7_isSheet : Room := { frames := 1, cells := 0, slots := 0, locals := 25 }
def wX7_isSheet (x0 : Int32) (σ : Mem) (Q : Int32 → Mem → Prop) : Prop := (wX7_in ((x0).toInt64) (0 : Int64) (3 : Int64) σ (fun r6 σ6 => (bz r6 ∧ Q r6 σ6)))
set_option maxHeartbeats 4000000 in
set_option maxRecDepth 100000 in
theorem kX7_isSheet (l : Launch) (E : wE) (hE : wM E) (x0 : Int32) (σ : Mem) (Q : Int32 → Mem → Prop) (h : wX7_isSheet x0 σ Q) : Met l yX7_isSheet (Cond.code yX7_isSheet cX7_isSheet 1 (some .boolean) :: TB) rX7_isSheet (wPc E σ [.int x0]) (wQi E Q) 0 0 (wA E) := by
  refine wMet (by decide) hE.2.2 (Nat.le_of_ble_eq_true rfl) ?_
  intro p e s m args below meth c ls C hr hlk hl hw
  have hx := C.1.1
  have hb := C.1.2.1
  replace C : Cx p s m args c cX7_isSheet 1 RX7 E (wA E) := C
  replace hl : lv_has ls 1 [(0, .int x0)] := hl
  unfold wX7_isSheet at h
  refine lv_iload_n hx hb (dAt dX7_isSheet 0 rfl) rfl (lv_at hl 0 rfl) ?_
  refine lv_i2l hx hb (dAt dX7_isSheet 1 rfl) rfl ?_
  refine lv_lconst (v := 0) hx hb (dAt dX7_isSheet 2 rfl) (by decide) ?_
  refine lv_ldc2 (v := 3) hx hb C.1.2.2.2.1 (C.1.2.2.2.2 _ ck_X7_95) (dAt dX7_isSheet 3 rfl) ?_
  refine x_calli C hw (x_runS (As := [.long ((x0).toInt64), .long (0 : Int64), .long (3 : Int64)]) (rest := []) C hw (kX7_in l E hE ((x0).toInt64) (0 : Int64) (3 : Int64) σ _ h) mtX7_in lk_X7_88 ⟨by decide, by decide⟩ ⟨rfl, rfl⟩ rfl hl.1 rfl (by decide) (dAt dX7_isSheet 4 rfl) ⟨Nat.zero_le _, Nat.zero_le _⟩) (fun r6 σ6 H locs h hw => ?_)
  exact x_zret C hw hr hlk h.1 h.2 (dAt dX7_isSheet 5 rfl)
def tX7_sheet : List (Nat × Instr × Nat) := [(0, .iload_n 1, 1), (1, .invokestatic 97, 3), (4, .ifCond .eq 21, 3), (7, .iload_n 2, 1), (8, .i2l, 1), (9, .lconst 0, 1), (10, .ldc2_w 101, 3), (13, .invokestatic 88, 3), (16, .ifCond .eq 9, 3), (19, .iload_n 3, 1), (20, .bipush 60, 2), (22, .if_icmp .le 6, 3), (25, .bipush (-2), 2), (27, .ireturn, 1), (28, .iload_n 3, 1), (29, .ifCond .ge 9, 3), (32, .aload_n 0, 1), (33, .iconst 5, 1), (34, .invokevirtual 103, 3), (37, .ireturn, 1), (38, .aload_n 0, 1), (39, .getfield 7, 3), (42, .iload_n 1, 1), (43, .iload_n 2, 1), (44, .iastore, 1), (45, .aload_n 0, 1), (46, .getfield 13, 3), (49, .iload_n 1, 1), (50, .iload_n 3, 1), (51, .iastore, 1), (52, .iconst 0, 1), (53, .istore 4, 2), (55, .iload 4, 2), (57, .iload_n 3, 1), (58, .if_icmp .ge 22, 3), (61, .aload_n 0, 1), (62, .getfield 16, 3), (65, .bipush 60, 2), (67, .iload_n 1, 1), (68, .imul, 1), (69, .iload 4, 2), (71, .iadd, 1), (72, .iconst 0, 1), (73, .iastore, 1), (74, .iinc 4 1, 3), (77, .goto (-22), 3), (80, .iload_n 3, 1), (81, .ireturn, 1)]
theorem dX7_sheet : dOk cX7_sheet tX7_sheet = true := by decide +kernel
abbrev rX7_sheet : Room := { frames := 2, cells := 0, slots := 0, locals := 45 }
def wX7_sheet_55 (Q : Int32 → Mem → Prop) : Nat → Int32 → Int32 → Int32 → Mem → Prop
  | 0, _, _, _, _ => False
  | n + 1, x1, x3, x4, σ => (((x3 ≤ x4) → (Q x3 σ)) ∧ ((¬ x3 ≤ x4) → (vp_in (((60 : Int32) * x1) + x4) 240 ∧ (∀ σ73 : Mem, σ73 = um σ 3 ((((60 : Int32) * x1) + x4)).toNatClampNeg (0 : Int32) → (wX7_sheet_55 Q n x1 x3 (x4 + (1 : Int32)) σ73)))))
def wX7_sheet (x1 : Int32) (x2 : Int32) (x3 : Int32) (σ : Mem) (Q : Int32 → Mem → Prop) : Prop := (wX7_isSheet x1 σ (fun r1 σ1 => (((r1 = 0) → (Q (-2 : Int32) σ1)) ∧ ((¬ r1 = 0) → (wX7_in ((x2).toInt64) (0 : Int64) (2 : Int64) σ1 (fun r13 σ13 => (((r13 = 0) → (Q (-2 : Int32) σ13)) ∧ ((¬ r13 = 0) → (((x3 ≤ (60 : Int32)) → (((0 ≤ x3) → (vp_in x1 4 ∧ (∀ σ44 : Mem, σ44 = um σ13 1 (x1).toNatClampNeg x2 → (vp_in x1 4 ∧ (∀ σ51 : Mem, σ51 = um σ44 2 (x1).toNatClampNeg x3 → (∃ n, wX7_sheet_55 Q n x1 x3 (0 : Int32) σ51)))))) ∧ ((¬ 0 ≤ x3) → (wX7_finds (5 : Int32) σ13 (fun r34 σ34 => (Q r34 σ34)))))) ∧ ((¬ x3 ≤ (60 : Int32)) → (Q (-2 : Int32) σ13)))))))))))
set_option maxHeartbeats 4000000 in
set_option maxRecDepth 100000 in
theorem kX7_sheet_55 {p : Program} {l : Launch} {e : Env} {s : State} {m : MethodId} {args : Array Value} {below : List Frame} {meth : Method} {c : Code} {E : wE} (hE : wM E) (C : Cx p s m args c cX7_sheet 5 RX7 E (wA E)) (hr : meth.sig.returnType = (some .int)) (hlk : meth.locks = false) {Q : Int32 → Mem → Prop} : ∀ (n : Nat) (x1 : Int32) (x3 : Int32) (x4 : Int32) (σ : Mem) (H : Heap) (locs : List Loc) (ls : Array Slot), wd E (wA E) s σ H locs → lv_has ls 5 [(0, .ref (gE E 0)), (1, .int x1), (3, .int x3), (4, .int x4)] → wX7_sheet_55 Q n x1 x3 x4 σ → W p l e rX7_sheet s m args below meth c H locs 0 0 (MQ below (wQi E Q) args s 0 0 (wA E)) (F0 m 55 ls []) := by
  have hx := C.1.1
  have hb := C.1.2.1
  intro n
  induction n with
  | zero =>
    intro x1 x3 x4 σ  H locs ls hw hl h
    exact h.elim
  | succ n ih =>
    intro x1 x3 x4 σ  H locs ls hw hl h
    rw [wX7_sheet_55] at h
    refine lv_iload hx hb (dAt dX7_sheet 32 rfl) (lv_at hl 3 rfl) ?_
    refine lv_iload_n hx hb (dAt dX7_sheet 33 rfl) rfl (lv_at hl 2 rfl) ?_
    refine lv_icmp_ge (tgt := 80) hx hb (dAt dX7_sheet 34 rfl) (by decide) (fun c58 => ?_) (fun c58 => ?_)
    · replace h := h.1 c58
      refine lv_iload_n hx hb (dAt dX7_sheet 46 rfl) rfl (lv_at hl 2 rfl) ?_
      exact x_iret C hw hr hlk h (dAt dX7_sheet 47 rfl)
    · replace h := h.2 c58
      refine lv_aload_n hx hb (dAt dX7_sheet 35 rfl) rfl (lv_at hl 0 rfl) ?_
      refine x_getr C hw fl_X7_16 (hE.1 0) (nM hE (by decide)) rfl (dAt dX7_sheet 36 rfl) ?_
      refine lv_bipush (v := 60) hx hb (dAt dX7_sheet 37 rfl) (by decide) ?_
      refine lv_iload_n hx hb (dAt dX7_sheet 38 rfl) rfl (lv_at hl 1 rfl) ?_
      refine lv_imul hx hb (dAt dX7_sheet 39 rfl) ?_
      refine lv_iload hx hb (dAt dX7_sheet 40 rfl) (lv_at hl 3 rfl) ?_
      refine lv_iadd hx hb (dAt dX7_sheet 41 rfl) ?_
      refine lv_iconst (v := 0) hx hb (dAt dX7_sheet 42 rfl) (by decide) ?_
      obtain ⟨z73, h⟩ := h
      refine x_ist C hw (hE.1 3) (nM hE (by decide)) z73 rfl (dAt dX7_sheet 43 rfl) (fun σ73 H locs eσ73 hw => ?_)
      replace h := h σ73 eσ73
      refine lv_iinc (v := (x4 + (1 : Int32))) (lv' := [(4, .int (x4 + (1 : Int32))), (0, .ref (gE E 0)), (1, .int x1), (3, .int x3)]) hx hb (dAt dX7_sheet 44 rfl) hl (k := 3) rfl rfl (by decide) rfl (fun ls hl => ?_)
      refine lv_goto (tgt := 55) hx hb (dAt dX7_sheet 45 rfl) (by decide) ?_
      exact ih x1 x3 (x4 + (1 : Int32)) σ73  _ _ _ hw (lv_sub hl [1, 2, 3, 0] rfl) h
set_option maxHeartbeats 4000000 in
set_option maxRecDepth 100000 in
theorem kX7_sheet (l : Launch) (E : wE) (hE : wM E) (x1 : Int32) (x2 : Int32) (x3 : Int32) (σ : Mem) (Q : Int32 → Mem → Prop) (h : wX7_sheet x1 x2 x3 σ Q) : Met l yX7_sheet (Cond.code yX7_sheet cX7_sheet 5 (some .int) :: TB) rX7_sheet (wPc E σ [.ref (gE E 0), .int x1, .int x2, .int x3]) (wQi E Q) 0 0 (wA E) := by
  refine wMet (by decide) hE.2.2 (Nat.le_of_ble_eq_true rfl) ?_
  intro p e s m args below meth c ls C hr hlk hl hw
  have hx := C.1.1
  have hb := C.1.2.1
  replace C : Cx p s m args c cX7_sheet 5 RX7 E (wA E) := C
  replace hl : lv_has ls 5 [(0, .ref (gE E 0)), (1, .int x1), (2, .int x2), (3, .int x3)] := hl
  unfold wX7_sheet at h
  refine lv_iload_n hx hb (dAt dX7_sheet 0 rfl) rfl (lv_at hl 1 rfl) ?_
  refine x_calli C hw (x_runS (As := [.int x1]) (rest := []) C hw (kX7_isSheet l E hE x1 σ _ h) mtX7_isSheet lk_X7_97 ⟨by decide, by decide⟩ ⟨rfl, rfl⟩ rfl hl.1 rfl (by decide) (dAt dX7_sheet 1 rfl) ⟨Nat.zero_le _, Nat.zero_le _⟩) (fun r1 σ1 H locs h hw => ?_)
  refine lv_if_eq (tgt := 25) hx hb (dAt dX7_sheet 2 rfl) (by decide) (fun c4 => ?_) (fun c4 => ?_)
  · replace h := h.1 c4
    refine lv_bipush (v := -2) hx hb (dAt dX7_sheet 12 rfl) (by decide) ?_
    exact x_iret C hw hr hlk h (dAt dX7_sheet 13 rfl)
  · replace h := h.2 c4
    refine lv_iload_n hx hb (dAt dX7_sheet 3 rfl) rfl (lv_at hl 2 rfl) ?_
    refine lv_i2l hx hb (dAt dX7_sheet 4 rfl) rfl ?_
    refine lv_lconst (v := 0) hx hb (dAt dX7_sheet 5 rfl) (by decide) ?_
    refine lv_ldc2 (v := 2) hx hb C.1.2.2.2.1 (C.1.2.2.2.2 _ ck_X7_101) (dAt dX7_sheet 6 rfl) ?_
    refine x_calli C hw (x_runS (As := [.long ((x2).toInt64), .long (0 : Int64), .long (2 : Int64)]) (rest := []) C hw (kX7_in l E hE ((x2).toInt64) (0 : Int64) (2 : Int64) σ1 _ h) mtX7_in lk_X7_88 ⟨by decide, by decide⟩ ⟨rfl, rfl⟩ rfl hl.1 rfl (by decide) (dAt dX7_sheet 7 rfl) ⟨Nat.zero_le _, Nat.zero_le _⟩) (fun r13 σ13 H locs h hw => ?_)
    refine lv_if_eq (tgt := 25) hx hb (dAt dX7_sheet 8 rfl) (by decide) (fun c16 => ?_) (fun c16 => ?_)
    · replace h := h.1 c16
      refine lv_bipush (v := -2) hx hb (dAt dX7_sheet 12 rfl) (by decide) ?_
      exact x_iret C hw hr hlk h (dAt dX7_sheet 13 rfl)
    · replace h := h.2 c16
      refine lv_iload_n hx hb (dAt dX7_sheet 9 rfl) rfl (lv_at hl 3 rfl) ?_
      refine lv_bipush (v := 60) hx hb (dAt dX7_sheet 10 rfl) (by decide) ?_
      refine lv_icmp_le (tgt := 28) hx hb (dAt dX7_sheet 11 rfl) (by decide) (fun c22 => ?_) (fun c22 => ?_)
      · replace h := h.1 c22
        refine lv_iload_n hx hb (dAt dX7_sheet 14 rfl) rfl (lv_at hl 3 rfl) ?_
        refine lv_if_ge (tgt := 38) hx hb (dAt dX7_sheet 15 rfl) (by decide) (fun c29 => ?_) (fun c29 => ?_)
        · replace h := h.1 c29
          refine lv_aload_n hx hb (dAt dX7_sheet 20 rfl) rfl (lv_at hl 0 rfl) ?_
          refine x_getr C hw fl_X7_7 (hE.1 0) (nM hE (by decide)) rfl (dAt dX7_sheet 21 rfl) ?_
          refine lv_iload_n hx hb (dAt dX7_sheet 22 rfl) rfl (lv_at hl 1 rfl) ?_
          refine lv_iload_n hx hb (dAt dX7_sheet 23 rfl) rfl (lv_at hl 2 rfl) ?_
          obtain ⟨z44, h⟩ := h
          refine x_ist C hw (hE.1 1) (nM hE (by decide)) z44 rfl (dAt dX7_sheet 24 rfl) (fun σ44 H locs eσ44 hw => ?_)
          replace h := h σ44 eσ44
          refine lv_aload_n hx hb (dAt dX7_sheet 25 rfl) rfl (lv_at hl 0 rfl) ?_
          refine x_getr C hw fl_X7_13 (hE.1 0) (nM hE (by decide)) rfl (dAt dX7_sheet 26 rfl) ?_
          refine lv_iload_n hx hb (dAt dX7_sheet 27 rfl) rfl (lv_at hl 1 rfl) ?_
          refine lv_iload_n hx hb (dAt dX7_sheet 28 rfl) rfl (lv_at hl 3 rfl) ?_
          obtain ⟨z51, h⟩ := h
          refine x_ist C hw (hE.1 2) (nM hE (by decide)) z51 rfl (dAt dX7_sheet 29 rfl) (fun σ51 H locs eσ51 hw => ?_)
          replace h := h σ51 eσ51
          refine lv_iconst (v := 0) hx hb (dAt dX7_sheet 30 rfl) (by decide) ?_
          refine lv_istore (lv' := [(4, .int (0 : Int32)), (0, .ref (gE E 0)), (1, .int x1), (2, .int x2), (3, .int x3)]) hx hb (dAt dX7_sheet 31 rfl) hl (by decide) rfl (fun ls hl => ?_)
          obtain ⟨n55, h⟩ := h
          exact kX7_sheet_55 hE C hr hlk n55 x1 x3 (0 : Int32) σ51  _ _ _ hw (lv_sub hl [1, 2, 4, 0] rfl) h
        · replace h := h.2 c29
          refine lv_aload_n hx hb (dAt dX7_sheet 16 rfl) rfl (lv_at hl 0 rfl) ?_
          refine lv_iconst (v := 5) hx hb (dAt dX7_sheet 17 rfl) (by decide) ?_
          refine x_calli C hw (x_runV (As := [.int (5 : Int32)]) (rest := []) C hw (kX7_finds l E hE (5 : Int32) σ13 _ h) mtX7_finds lk_X7_103 (hE.1 0) (nM hE (by decide)) rfl ⟨by decide, by decide⟩ ⟨rfl, rfl⟩ rfl hl.1 rfl (by decide) (dAt dX7_sheet 18 rfl) ⟨Nat.zero_le _, Nat.zero_le _⟩) (fun r34 σ34 H locs h hw => ?_)
          exact x_iret C hw hr hlk h (dAt dX7_sheet 19 rfl)
      · replace h := h.2 c22
        refine lv_bipush (v := -2) hx hb (dAt dX7_sheet 12 rfl) (by decide) ?_
        exact x_iret C hw hr hlk h (dAt dX7_sheet 13 rfl)
def tX7_dancerOf : List (Nat × Instr × Nat) := [(0, .iload_n 0, 1), (1, .tableswitch 98 0 2 #[27, 51, 74], 27), (28, .iload_n 1, 1), (29, .i2l, 1), (30, .ldc2_w 121, 3), (33, .ldc2_w 123, 3), (36, .invokestatic 88, 3), (39, .ifCond .eq 10, 3), (42, .iload_n 1, 1), (43, .bipush 97, 2), (45, .isub, 1), (46, .goto 5, 3), (49, .bipush (-9), 2), (51, .ireturn, 1), (52, .iload_n 1, 1), (53, .bipush 114, 2), (55, .if_icmp .ne 7, 3), (58, .iconst 0, 1), (59, .goto 15, 3), (62, .iload_n 1, 1), (63, .bipush 108, 2), (65, .if_icmp .ne 7, 3), (68, .iconst 1, 1), (69, .goto 5, 3), (72, .bipush (-9), 2), (74, .ireturn, 1), (75, .iload_n 1, 1), (76, .i2l, 1), (77, .ldc2_w 125, 3), (80, .ldc2_w 127, 3), (83, .invokestatic 88, 3), (86, .ifCond .eq 10, 3), (89, .iload_n 1, 1), (90, .bipush 48, 2), (92, .isub, 1), (93, .goto 5, 3), (96, .bipush (-9), 2), (98, .ireturn, 1), (99, .iload_n 1, 1), (100, .bipush 59, 2), (102, .if_icmp .ne 7, 3), (105, .iconst 0, 1), (106, .goto 5, 3), (109, .bipush (-9), 2), (111, .ireturn, 1)]
theorem dX7_dancerOf : dOk cX7_dancerOf tX7_dancerOf = true := by decide +kernel
abbrev rX7_dancerOf : Room := { frames := 1, cells := 0, slots := 0, locals := 25 }
def wX7_dancerOf (x0 : Int32) (x1 : Int32) (σ : Mem) (Q : Int32 → Mem → Prop) : Prop := ((x0 = (0 : Int32) → (wX7_in ((x1).toInt64) (97 : Int64) (108 : Int64) σ (fun r36 σ36 => (Q (if r36 = 0 then (-9 : Int32) else (x1 - (97 : Int32))) σ36)))) ∧ (x0 = (1 : Int32) → (Q (if x1 = (114 : Int32) then (0 : Int32) else (if x1 = (108 : Int32) then (1 : Int32) else (-9 : Int32))) σ)) ∧ (x0 = (2 : Int32) → (wX7_in ((x1).toInt64) (48 : Int64) (57 : Int64) σ (fun r83 σ83 => (Q (if r83 = 0 then (-9 : Int32) else (x1 - (48 : Int32))) σ83)))) ∧ ((x0).toInt < 0 ∨ 2 < (x0).toInt → (Q (if x1 = (59 : Int32) then (0 : Int32) else (-9 : Int32)) σ)))
set_option maxHeartbeats 4000000 in
set_option maxRecDepth 100000 in
theorem kX7_dancerOf (l : Launch) (E : wE) (hE : wM E) (x0 : Int32) (x1 : Int32) (σ : Mem) (Q : Int32 → Mem → Prop) (h : wX7_dancerOf x0 x1 σ Q) : Met l yX7_dancerOf (Cond.code yX7_dancerOf cX7_dancerOf 2 (some .int) :: TB) rX7_dancerOf (wPc E σ [.int x0, .int x1]) (wQi E Q) 0 0 (wA E) := by
  refine wMet (by decide) hE.2.2 (Nat.le_of_ble_eq_true rfl) ?_
  intro p e s m args below meth c ls C hr hlk hl hw
  have hx := C.1.1
  have hb := C.1.2.1
  replace C : Cx p s m args c cX7_dancerOf 2 RX7 E (wA E) := C
  replace hl : lv_has ls 2 [(0, .int x0), (1, .int x1)] := hl
  unfold wX7_dancerOf at h
  refine lv_iload_n hx hb (dAt dX7_dancerOf 0 rfl) rfl (lv_at hl 0 rfl) ?_
  rcases swT x0 0 3 (by decide) with ⟨j1, hj1, ej1⟩ | ej1
  · match j1, hj1, ej1 with
    | 0, _, ej1 =>
      have ej1 : x0 = (0 : Int32) := ej1
      replace h := h.1 ej1
      refine lv_tableIn (off := 27) (tgt := 28) hx hb (dAt dX7_dancerOf 1 rfl) (by rw [ej1]; decide) (by rw [ej1]; decide) (by rw [ej1]; rfl) (by decide) ?_
      refine lv_iload_n hx hb (dAt dX7_dancerOf 2 rfl) rfl (lv_at hl 1 rfl) ?_
      refine lv_i2l hx hb (dAt dX7_dancerOf 3 rfl) rfl ?_
      refine lv_ldc2 (v := 97) hx hb C.1.2.2.2.1 (C.1.2.2.2.2 _ ck_X7_121) (dAt dX7_dancerOf 4 rfl) ?_
      refine lv_ldc2 (v := 108) hx hb C.1.2.2.2.1 (C.1.2.2.2.2 _ ck_X7_123) (dAt dX7_dancerOf 5 rfl) ?_
      refine x_calli C hw (x_runS (As := [.long ((x1).toInt64), .long (97 : Int64), .long (108 : Int64)]) (rest := []) C hw (kX7_in l E hE ((x1).toInt64) (97 : Int64) (108 : Int64) σ _ h) mtX7_in lk_X7_88 ⟨by decide, by decide⟩ ⟨rfl, rfl⟩ rfl hl.1 rfl (by decide) (dAt dX7_dancerOf 6 rfl) ⟨Nat.zero_le _, Nat.zero_le _⟩) (fun r36 σ36 H locs h hw => ?_)
      refine x_dia (ls := ls) (pcJ := 51) (cnd := r36 = 0) (a := (-9 : Int32)) (b := (x1 - (97 : Int32))) ([]) ?_ (fun ht39 hf39 => ?_)
      · exact x_iret C hw hr hlk h (dAt dX7_dancerOf 13 rfl)
      · refine lv_if_eq (tgt := 49) hx hb (dAt dX7_dancerOf 7 rfl) (by decide) (fun c39 => ?_) (fun c39 => ?_)
        · refine lv_bipush (v := -9) hx hb (dAt dX7_dancerOf 12 rfl) (by decide) ?_
          exact ht39 c39
        · refine lv_iload_n hx hb (dAt dX7_dancerOf 8 rfl) rfl (lv_at hl 1 rfl) ?_
          refine lv_bipush (v := 97) hx hb (dAt dX7_dancerOf 9 rfl) (by decide) ?_
          refine lv_isub hx hb (dAt dX7_dancerOf 10 rfl) ?_
          refine lv_goto (tgt := 51) hx hb (dAt dX7_dancerOf 11 rfl) (by decide) ?_
          exact hf39 c39
    | 1, _, ej1 =>
      have ej1 : x0 = (1 : Int32) := ej1
      replace h := h.2.1 ej1
      refine lv_tableIn (off := 51) (tgt := 52) hx hb (dAt dX7_dancerOf 1 rfl) (by rw [ej1]; decide) (by rw [ej1]; decide) (by rw [ej1]; rfl) (by decide) ?_
      refine lv_iload_n hx hb (dAt dX7_dancerOf 14 rfl) rfl (lv_at hl 1 rfl) ?_
      refine lv_bipush (v := 114) hx hb (dAt dX7_dancerOf 15 rfl) (by decide) ?_
      refine x_dia (ls := ls) (pcJ := 74) (cnd := x1 = (114 : Int32)) (a := (0 : Int32)) (b := (if x1 = (108 : Int32) then (1 : Int32) else (-9 : Int32))) ([]) ?_ (fun ht55 hf55 => ?_)
      · exact x_iret C hw hr hlk h (dAt dX7_dancerOf 25 rfl)
      · refine lv_icmp_ne (tgt := 62) hx hb (dAt dX7_dancerOf 16 rfl) (by decide) (fun c55 => ?_) (fun c55 => ?_)
        · refine lv_iload_n hx hb (dAt dX7_dancerOf 19 rfl) rfl (lv_at hl 1 rfl) ?_
          refine lv_bipush (v := 108) hx hb (dAt dX7_dancerOf 20 rfl) (by decide) ?_
          refine x_dia (ls := ls) _ (hf55 c55) (fun ht55_55t hf55_55t => ?_)
          refine lv_icmp_ne (tgt := 72) hx hb (dAt dX7_dancerOf 21 rfl) (by decide) (fun c65 => ?_) (fun c65 => ?_)
          · refine lv_bipush (v := -9) hx hb (dAt dX7_dancerOf 24 rfl) (by decide) ?_
            exact hf55_55t c65
          · refine lv_iconst (v := 1) hx hb (dAt dX7_dancerOf 22 rfl) (by decide) ?_
            refine lv_goto (tgt := 74) hx hb (dAt dX7_dancerOf 23 rfl) (by decide) ?_
            exact ht55_55t c65
        · refine lv_iconst (v := 0) hx hb (dAt dX7_dancerOf 17 rfl) (by decide) ?_
          refine lv_goto (tgt := 74) hx hb (dAt dX7_dancerOf 18 rfl) (by decide) ?_
          exact ht55 c55
    | 2, _, ej1 =>
      have ej1 : x0 = (2 : Int32) := ej1
      replace h := h.2.2.1 ej1
      refine lv_tableIn (off := 74) (tgt := 75) hx hb (dAt dX7_dancerOf 1 rfl) (by rw [ej1]; decide) (by rw [ej1]; decide) (by rw [ej1]; rfl) (by decide) ?_
      refine lv_iload_n hx hb (dAt dX7_dancerOf 26 rfl) rfl (lv_at hl 1 rfl) ?_
      refine lv_i2l hx hb (dAt dX7_dancerOf 27 rfl) rfl ?_
      refine lv_ldc2 (v := 48) hx hb C.1.2.2.2.1 (C.1.2.2.2.2 _ ck_X7_125) (dAt dX7_dancerOf 28 rfl) ?_
      refine lv_ldc2 (v := 57) hx hb C.1.2.2.2.1 (C.1.2.2.2.2 _ ck_X7_127) (dAt dX7_dancerOf 29 rfl) ?_
      refine x_calli C hw (x_runS (As := [.long ((x1).toInt64), .long (48 : Int64), .long (57 : Int64)]) (rest := []) C hw (kX7_in l E hE ((x1).toInt64) (48 : Int64) (57 : Int64) σ _ h) mtX7_in lk_X7_88 ⟨by decide, by decide⟩ ⟨rfl, rfl⟩ rfl hl.1 rfl (by decide) (dAt dX7_dancerOf 30 rfl) ⟨Nat.zero_le _, Nat.zero_le _⟩) (fun r83 σ83 H locs h hw => ?_)
      refine x_dia (ls := ls) (pcJ := 98) (cnd := r83 = 0) (a := (-9 : Int32)) (b := (x1 - (48 : Int32))) ([]) ?_ (fun ht86 hf86 => ?_)
      · exact x_iret C hw hr hlk h (dAt dX7_dancerOf 37 rfl)
      · refine lv_if_eq (tgt := 96) hx hb (dAt dX7_dancerOf 31 rfl) (by decide) (fun c86 => ?_) (fun c86 => ?_)
        · refine lv_bipush (v := -9) hx hb (dAt dX7_dancerOf 36 rfl) (by decide) ?_
          exact ht86 c86
        · refine lv_iload_n hx hb (dAt dX7_dancerOf 32 rfl) rfl (lv_at hl 1 rfl) ?_
          refine lv_bipush (v := 48) hx hb (dAt dX7_dancerOf 33 rfl) (by decide) ?_
          refine lv_isub hx hb (dAt dX7_dancerOf 34 rfl) ?_
          refine lv_goto (tgt := 98) hx hb (dAt dX7_dancerOf 35 rfl) (by decide) ?_
          exact hf86 c86
    | j + 3, hj, _ => exact absurd hj (by omega)
  · replace h := h.2.2.2 ej1
    refine lv_tableOut (tgt := 99) hx hb (dAt dX7_dancerOf 1 rfl) ej1 (by decide) ?_
    refine lv_iload_n hx hb (dAt dX7_dancerOf 38 rfl) rfl (lv_at hl 1 rfl) ?_
    refine lv_bipush (v := 59) hx hb (dAt dX7_dancerOf 39 rfl) (by decide) ?_
    refine x_dia (ls := ls) (pcJ := 111) (cnd := x1 = (59 : Int32)) (a := (0 : Int32)) (b := (-9 : Int32)) ([]) ?_ (fun ht102 hf102 => ?_)
    · exact x_iret C hw hr hlk h (dAt dX7_dancerOf 44 rfl)
    · refine lv_icmp_ne (tgt := 109) hx hb (dAt dX7_dancerOf 40 rfl) (by decide) (fun c102 => ?_) (fun c102 => ?_)
      · refine lv_bipush (v := -9) hx hb (dAt dX7_dancerOf 43 rfl) (by decide) ?_
        exact hf102 c102
      · refine lv_iconst (v := 0) hx hb (dAt dX7_dancerOf 41 rfl) (by decide) ?_
        refine lv_goto (tgt := 111) hx hb (dAt dX7_dancerOf 42 rfl) (by decide) ?_
        exact ht102 c102
def tX7_isTaken : List (Nat × Instr × Nat) := [(0, .iconst 0, 1), (1, .istore_n 3, 1), (2, .iconst 0, 1), (3, .istore 4, 2), (5, .iload 4, 2), (7, .iload_n 1, 1), (8, .if_icmp .ge 32, 3), (11, .iload_n 3, 1), (12, .ifCond .ne 16, 3), (15, .aload_n 0, 1), (16, .getfield 28, 3), (19, .iconst 3, 1), (20, .iload 4, 2), (22, .imul, 1), (23, .iaload, 1), (24, .iload_n 2, 1), (25, .if_icmp .ne 7, 3), (28, .iconst 1, 1), (29, .goto 4, 3), (32, .iconst 0, 1), (33, .istore_n 3, 1), (34, .iinc 4 1, 3), (37, .goto (-32), 3), (40, .iload_n 3, 1), (41, .ireturn, 1)]
theorem dX7_isTaken : dOk cX7_isTaken tX7_isTaken = true := by decide +kernel
abbrev rX7_isTaken : Room := { frames := 0, cells := 0, slots := 0, locals := 0 }
def wX7_isTaken_5 (Q : Int32 → Mem → Prop) : Nat → Int32 → Int32 → Int32 → Int32 → Mem → Prop
  | 0, _, _, _, _, _ => False
  | n + 1, x1, x2, x3, x4, σ => (((x1 ≤ x4) → (bz x3 ∧ Q x3 σ)) ∧ ((¬ x1 ≤ x4) → (((¬ x3 = 0) → (wX7_isTaken_5 Q n x1 x2 (1 : Int32) (x4 + (1 : Int32)) σ)) ∧ ((x3 = 0) → (vp_in ((3 : Int32) * x4) 24 ∧ (((¬ (σ 7 (((3 : Int32) * x4)).toNatClampNeg) = x2) → (wX7_isTaken_5 Q n x1 x2 (0 : Int32) (x4 + (1 : Int32)) σ)) ∧ (((σ 7 (((3 : Int32) * x4)).toNatClampNeg) = x2) → (wX7_isTaken_5 Q n x1 x2 (1 : Int32) (x4 + (1 : Int32)) σ))))))))
def wX7_isTaken (x1 : Int32) (x2 : Int32) (σ : Mem) (Q : Int32 → Mem → Prop) : Prop := (∃ n, wX7_isTaken_5 Q n x1 x2 (0 : Int32) (0 : Int32) σ)
set_option maxHeartbeats 4000000 in
set_option maxRecDepth 100000 in
theorem kX7_isTaken_5 {p : Program} {l : Launch} {e : Env} {s : State} {m : MethodId} {args : Array Value} {below : List Frame} {meth : Method} {c : Code} {E : wE} (hE : wM E) (C : Cx p s m args c cX7_isTaken 5 RX7 E (wA E)) (hr : meth.sig.returnType = (some .boolean)) (hlk : meth.locks = false) {Q : Int32 → Mem → Prop} : ∀ (n : Nat) (x1 : Int32) (x2 : Int32) (x3 : Int32) (x4 : Int32) (σ : Mem) (H : Heap) (locs : List Loc) (ls : Array Slot), wd E (wA E) s σ H locs → lv_has ls 5 [(0, .ref (gE E 0)), (1, .int x1), (2, .int x2), (3, .int x3), (4, .int x4)] → wX7_isTaken_5 Q n x1 x2 x3 x4 σ → W p l e rX7_isTaken s m args below meth c H locs 0 0 (MQ below (wQi E Q) args s 0 0 (wA E)) (F0 m 5 ls []) := by
  have hx := C.1.1
  have hb := C.1.2.1
  intro n
  induction n with
  | zero =>
    intro x1 x2 x3 x4 σ  H locs ls hw hl h
    exact h.elim
  | succ n ih =>
    intro x1 x2 x3 x4 σ  H locs ls hw hl h
    rw [wX7_isTaken_5] at h
    refine lv_iload hx hb (dAt dX7_isTaken 4 rfl) (lv_at hl 4 rfl) ?_
    refine lv_iload_n hx hb (dAt dX7_isTaken 5 rfl) rfl (lv_at hl 1 rfl) ?_
    refine lv_icmp_ge (tgt := 40) hx hb (dAt dX7_isTaken 6 rfl) (by decide) (fun c8 => ?_) (fun c8 => ?_)
    · replace h := h.1 c8
      refine lv_iload_n hx hb (dAt dX7_isTaken 23 rfl) rfl (lv_at hl 3 rfl) ?_
      exact x_zret C hw hr hlk h.1 h.2 (dAt dX7_isTaken 24 rfl)
    · replace h := h.2 c8
      refine lv_iload_n hx hb (dAt dX7_isTaken 7 rfl) rfl (lv_at hl 3 rfl) ?_
      refine lv_if_ne (tgt := 28) hx hb (dAt dX7_isTaken 8 rfl) (by decide) (fun c12 => ?_) (fun c12 => ?_)
      · replace h := h.1 c12
        refine lv_iconst (v := 1) hx hb (dAt dX7_isTaken 17 rfl) (by decide) ?_
        refine lv_goto (tgt := 33) hx hb (dAt dX7_isTaken 18 rfl) (by decide) ?_
        refine lv_istore_n (lv' := [(3, .int (1 : Int32)), (0, .ref (gE E 0)), (1, .int x1), (2, .int x2), (4, .int x4)]) hx hb (dAt dX7_isTaken 20 rfl) rfl hl (by decide) rfl (fun ls hl => ?_)
        refine lv_iinc (v := (x4 + (1 : Int32))) (lv' := [(4, .int (x4 + (1 : Int32))), (3, .int (1 : Int32)), (0, .ref (gE E 0)), (1, .int x1), (2, .int x2)]) hx hb (dAt dX7_isTaken 21 rfl) hl (k := 4) rfl rfl (by decide) rfl (fun ls hl => ?_)
        refine lv_goto (tgt := 5) hx hb (dAt dX7_isTaken 22 rfl) (by decide) ?_
        exact ih x1 x2 (1 : Int32) (x4 + (1 : Int32)) σ  _ _ _ hw (lv_sub hl [2, 3, 4, 1, 0] rfl) h
      · replace h := h.2 c12
        refine lv_aload_n hx hb (dAt dX7_isTaken 9 rfl) rfl (lv_at hl 0 rfl) ?_
        refine x_getr C hw fl_X7_28 (hE.1 0) (nM hE (by decide)) rfl (dAt dX7_isTaken 10 rfl) ?_
        refine lv_iconst (v := 3) hx hb (dAt dX7_isTaken 11 rfl) (by decide) ?_
        refine lv_iload hx hb (dAt dX7_isTaken 12 rfl) (lv_at hl 4 rfl) ?_
        refine lv_imul hx hb (dAt dX7_isTaken 13 rfl) ?_
        obtain ⟨z23, h⟩ := h
        refine x_ild C hw (hE.1 7) (nM hE (by decide)) z23 rfl (dAt dX7_isTaken 14 rfl) ?_
        refine lv_iload_n hx hb (dAt dX7_isTaken 15 rfl) rfl (lv_at hl 2 rfl) ?_
        refine lv_icmp_ne (tgt := 32) hx hb (dAt dX7_isTaken 16 rfl) (by decide) (fun c25 => ?_) (fun c25 => ?_)
        · replace h := h.1 c25
          refine lv_iconst (v := 0) hx hb (dAt dX7_isTaken 19 rfl) (by decide) ?_
          refine lv_istore_n (lv' := [(3, .int (0 : Int32)), (0, .ref (gE E 0)), (1, .int x1), (2, .int x2), (4, .int x4)]) hx hb (dAt dX7_isTaken 20 rfl) rfl hl (by decide) rfl (fun ls hl => ?_)
          refine lv_iinc (v := (x4 + (1 : Int32))) (lv' := [(4, .int (x4 + (1 : Int32))), (3, .int (0 : Int32)), (0, .ref (gE E 0)), (1, .int x1), (2, .int x2)]) hx hb (dAt dX7_isTaken 21 rfl) hl (k := 4) rfl rfl (by decide) rfl (fun ls hl => ?_)
          refine lv_goto (tgt := 5) hx hb (dAt dX7_isTaken 22 rfl) (by decide) ?_
          exact ih x1 x2 (0 : Int32) (x4 + (1 : Int32)) σ  _ _ _ hw (lv_sub hl [2, 3, 4, 1, 0] rfl) h
        · replace h := h.2 c25
          refine lv_iconst (v := 1) hx hb (dAt dX7_isTaken 17 rfl) (by decide) ?_
          refine lv_goto (tgt := 33) hx hb (dAt dX7_isTaken 18 rfl) (by decide) ?_
          refine lv_istore_n (lv' := [(3, .int (1 : Int32)), (0, .ref (gE E 0)), (1, .int x1), (2, .int x2), (4, .int x4)]) hx hb (dAt dX7_isTaken 20 rfl) rfl hl (by decide) rfl (fun ls hl => ?_)
          refine lv_iinc (v := (x4 + (1 : Int32))) (lv' := [(4, .int (x4 + (1 : Int32))), (3, .int (1 : Int32)), (0, .ref (gE E 0)), (1, .int x1), (2, .int x2)]) hx hb (dAt dX7_isTaken 21 rfl) hl (k := 4) rfl rfl (by decide) rfl (fun ls hl => ?_)
          refine lv_goto (tgt := 5) hx hb (dAt dX7_isTaken 22 rfl) (by decide) ?_
          exact ih x1 x2 (1 : Int32) (x4 + (1 : Int32)) σ  _ _ _ hw (lv_sub hl [2, 3, 4, 1, 0] rfl) h
set_option maxHeartbeats 4000000 in
set_option maxRecDepth 100000 in
theorem kX7_isTaken (l : Launch) (E : wE) (hE : wM E) (x1 : Int32) (x2 : Int32) (σ : Mem) (Q : Int32 → Mem → Prop) (h : wX7_isTaken x1 x2 σ Q) : Met l yX7_isTaken (Cond.code yX7_isTaken cX7_isTaken 5 (some .boolean) :: TB) rX7_isTaken (wPc E σ [.ref (gE E 0), .int x1, .int x2]) (wQi E Q) 0 0 (wA E) := by
  refine wMet (by decide) hE.2.2 (Nat.le_of_ble_eq_true rfl) ?_
  intro p e s m args below meth c ls C hr hlk hl hw
  have hx := C.1.1
  have hb := C.1.2.1
  replace C : Cx p s m args c cX7_isTaken 5 RX7 E (wA E) := C
  replace hl : lv_has ls 5 [(0, .ref (gE E 0)), (1, .int x1), (2, .int x2)] := hl
  unfold wX7_isTaken at h
  refine lv_iconst (v := 0) hx hb (dAt dX7_isTaken 0 rfl) (by decide) ?_
  refine lv_istore_n (lv' := [(3, .int (0 : Int32)), (0, .ref (gE E 0)), (1, .int x1), (2, .int x2)]) hx hb (dAt dX7_isTaken 1 rfl) rfl hl (by decide) rfl (fun ls hl => ?_)
  refine lv_iconst (v := 0) hx hb (dAt dX7_isTaken 2 rfl) (by decide) ?_
  refine lv_istore (lv' := [(4, .int (0 : Int32)), (3, .int (0 : Int32)), (0, .ref (gE E 0)), (1, .int x1), (2, .int x2)]) hx hb (dAt dX7_isTaken 3 rfl) hl (by decide) rfl (fun ls hl => ?_)
  obtain ⟨n5, h⟩ := h
  exact kX7_isTaken_5 hE C hr hlk n5 x1 x2 (0 : Int32) (0 : Int32) σ  _ _ _ hw (lv_sub hl [2, 3, 4, 1, 0] rfl) h
def tX7_readsDancers : List (Nat × Instr × Nat) := [(0, .aload_n 0, 1), (1, .iconst 0, 1), (2, .putfield 129, 3), (5, .aload_n 0, 1), (6, .getfield 25, 3), (9, .iconst 0, 1), (10, .iaload, 1), (11, .istore_n 1, 1), (12, .iconst 0, 1), (13, .istore_n 2, 1), (14, .iload_n 2, 1), (15, .iload_n 1, 1), (16, .if_icmp .ge 93, 3), (19, .iload_n 2, 1), (20, .iconst 4, 1), (21, .irem, 1), (22, .istore_n 3, 1), (23, .iload_n 3, 1), (24, .aload_n 0, 1), (25, .getfield 22, 3), (28, .iload_n 2, 1), (29, .iaload, 1), (30, .invokestatic 132, 3), (33, .istore 4, 2), (35, .iload 4, 2), (37, .bipush (-9), 2), (39, .if_icmp .eq 19, 3), (42, .iload_n 3, 1), (43, .ifCond .ne 22, 3), (46, .aload_n 0, 1), (47, .iload_n 2, 1), (48, .iconst 4, 1), (49, .idiv, 1), (50, .iload 4, 2), (52, .invokevirtual 135, 3), (55, .ifCond .eq 10, 3), (58, .aload_n 0, 1), (59, .iconst 0, 1), (60, .putfield 129, 3), (63, .iload_n 2, 1), (64, .ireturn, 1), (65, .iload_n 3, 1), (66, .iconst 3, 1), (67, .if_icmp .ge 17, 3), (70, .aload_n 0, 1), (71, .getfield 28, 3), (74, .iconst 3, 1), (75, .iload_n 2, 1), (76, .iconst 4, 1), (77, .idiv, 1), (78, .imul, 1), (79, .iload_n 3, 1), (80, .iadd, 1), (81, .iload 4, 2), (83, .iastore, 1), (84, .aload_n 0, 1), (85, .dup, 1), (86, .getfield 129, 3), (89, .iload_n 3, 1), (90, .iconst 2, 1), (91, .if_icmp .ne 7, 3), (94, .iconst 1, 1), (95, .goto 4, 3), (98, .iconst 0, 1), (99, .iadd, 1), (100, .putfield 129, 3), (103, .iinc 2 1, 3), (106, .goto (-92), 3), (109, .iload_n 1, 1), (110, .ifCond .le 17, 3), (113, .iload_n 1, 1), (114, .iconst 4, 1), (115, .irem, 1), (116, .iconst 3, 1), (117, .if_icmp .eq 10, 3), (120, .aload_n 0, 1), (121, .iconst 0, 1), (122, .putfield 129, 3), (125, .iload_n 1, 1), (126, .ireturn, 1), (127, .iconst (-1), 1), (128, .ireturn, 1)]
theorem dX7_readsDancers : dOk cX7_readsDancers tX7_readsDancers = true := by decide +kernel
abbrev rX7_readsDancers : Room := { frames := 2, cells := 0, slots := 0, locals := 46 }
def wX7_readsDancers_109 (Q : Int32 → Mem → Prop) (x1 : Int32) (σ : Mem) : Prop := (((x1 ≤ 0) → (Q (-1 : Int32) σ)) ∧ ((¬ x1 ≤ 0) → ((((x1 - x1 / (4 : Int32) * (4 : Int32)) = (3 : Int32)) → (Q (-1 : Int32) σ)) ∧ ((¬ (x1 - x1 / (4 : Int32) * (4 : Int32)) = (3 : Int32)) → (∀ σ122 : Mem, σ122 = um σ 0 7 (0 : Int32) → (Q x1 σ122))))))
def wX7_readsDancers_58 (Q : Int32 → Mem → Prop) (x2 : Int32) (σ : Mem) : Prop := (∀ σ60 : Mem, σ60 = um σ 0 7 (0 : Int32) → (Q x2 σ60))
def wX7_readsDancers_84 (K14 : Int32 → Int32 → Mem → Prop) (Q : Int32 → Mem → Prop) (x1 : Int32) (x2 : Int32) (x3 : Int32) (σ : Mem) : Prop := (∀ σ100 : Mem, σ100 = um σ 0 7 ((σ 0 7) + (if x3 = (2 : Int32) then (1 : Int32) else (0 : Int32))) → (K14 x1 (x2 + (1 : Int32)) σ100))
def wX7_readsDancers_65 (K14 : Int32 → Int32 → Mem → Prop) (Q : Int32 → Mem → Prop) (x1 : Int32) (x2 : Int32) (x3 : Int32) (x4 : Int32) (σ : Mem) : Prop := ((((3 : Int32) ≤ x3) → (wX7_readsDancers_84 K14 Q x1 x2 x3 σ)) ∧ ((¬ (3 : Int32) ≤ x3) → (vp_in (((3 : Int32) * (x2 / (4 : Int32))) + x3) 24 ∧ (∀ σ83 : Mem, σ83 = um σ 7 ((((3 : Int32) * (x2 / (4 : Int32))) + x3)).toNatClampNeg x4 → (wX7_readsDancers_84 K14 Q x1 x2 x3 σ83)))))
def wX7_readsDancers_14 (Q : Int32 → Mem → Prop) : Nat → Int32 → Int32 → Mem → Prop
  | 0, _, _, _ => False
  | n + 1, x1, x2, σ => (((x1 ≤ x2) → (wX7_readsDancers_109 Q x1 σ)) ∧ ((¬ x1 ≤ x2) → (∀ x3_22 : Int32, x3_22 = (x2 - x2 / (4 : Int32) * (4 : Int32)) → (vp_in x2 64 ∧ (wX7_dancerOf x3_22 (σ 5 (x2).toNatClampNeg) σ (fun r30 σ30 => (((r30 = (-9 : Int32)) → (wX7_readsDancers_58 Q x2 σ30)) ∧ ((¬ r30 = (-9 : Int32)) → (((¬ x3_22 = 0) → (wX7_readsDancers_65 (fun x1 x2 ρ => wX7_readsDancers_14 Q n x1 x2 ρ) Q x1 x2 x3_22 r30 σ30)) ∧ ((x3_22 = 0) → (wX7_isTaken (x2 / (4 : Int32)) r30 σ30 (fun r52 σ52 => (((r52 = 0) → (wX7_readsDancers_65 (fun x1 x2 ρ => wX7_readsDancers_14 Q n x1 x2 ρ) Q x1 x2 x3_22 r30 σ52)) ∧ ((¬ r52 = 0) → (wX7_readsDancers_58 Q x2 σ52)))))))))))))))
def wX7_readsDancers (σ : Mem) (Q : Int32 → Mem → Prop) : Prop := (∀ σ2 : Mem, σ2 = um σ 0 7 (0 : Int32) → (∀ x1_11 : Int32, x1_11 = (σ2 6 0) → (∃ n, wX7_readsDancers_14 Q n x1_11 (0 : Int32) σ2)))
set_option maxHeartbeats 4000000 in
set_option maxRecDepth 100000 in
theorem kX7_readsDancers_109 {p : Program} {l : Launch} {e : Env} {s : State} {m : MethodId} {args : Array Value} {below : List Frame} {meth : Method} {c : Code} {E : wE} (hE : wM E) (C : Cx p s m args c cX7_readsDancers 5 RX7 E (wA E)) (hr : meth.sig.returnType = (some .int)) (hlk : meth.locks = false) {Q : Int32 → Mem → Prop} : ∀ (x1 : Int32) (σ : Mem) (H : Heap) (locs : List Loc) (ls : Array Slot), wd E (wA E) s σ H locs → lv_has ls 5 [(0, .ref (gE E 0)), (1, .int x1)] → wX7_readsDancers_109 Q x1 σ → W p l e rX7_readsDancers s m args below meth c H locs 0 0 (MQ below (wQi E Q) args s 0 0 (wA E)) (F0 m 109 ls []) := by
  have hx := C.1.1
  have hb := C.1.2.1
  intro x1 σ  H locs ls hw hl h
  unfold wX7_readsDancers_109 at h
  refine lv_iload_n hx hb (dAt dX7_readsDancers 68 rfl) rfl (lv_at hl 1 rfl) ?_
  refine lv_if_le (tgt := 127) hx hb (dAt dX7_readsDancers 69 rfl) (by decide) (fun c110 => ?_) (fun c110 => ?_)
  · replace h := h.1 c110
    refine lv_iconst (v := -1) hx hb (dAt dX7_readsDancers 80 rfl) (by decide) ?_
    exact x_iret C hw hr hlk h (dAt dX7_readsDancers 81 rfl)
  · replace h := h.2 c110
    refine lv_iload_n hx hb (dAt dX7_readsDancers 70 rfl) rfl (lv_at hl 1 rfl) ?_
    refine lv_iconst (v := 4) hx hb (dAt dX7_readsDancers 71 rfl) (by decide) ?_
    refine lv_irem hx hb (dAt dX7_readsDancers 72 rfl) (by decide) ?_
    refine lv_iconst (v := 3) hx hb (dAt dX7_readsDancers 73 rfl) (by decide) ?_
    refine lv_icmp_eq (tgt := 127) hx hb (dAt dX7_readsDancers 74 rfl) (by decide) (fun c117 => ?_) (fun c117 => ?_)
    · replace h := h.1 c117
      refine lv_iconst (v := -1) hx hb (dAt dX7_readsDancers 80 rfl) (by decide) ?_
      exact x_iret C hw hr hlk h (dAt dX7_readsDancers 81 rfl)
    · replace h := h.2 c117
      refine lv_aload_n hx hb (dAt dX7_readsDancers 75 rfl) rfl (lv_at hl 0 rfl) ?_
      refine lv_iconst (v := 0) hx hb (dAt dX7_readsDancers 76 rfl) (by decide) ?_
      refine x_pf C hw fl_X7_129 (hE.1 0) (nM hE (by decide)) rfl rfl rfl (dAt dX7_readsDancers 77 rfl) (fun σ122 H locs eσ122 hw => ?_)
      replace h := h σ122 eσ122
      refine lv_iload_n hx hb (dAt dX7_readsDancers 78 rfl) rfl (lv_at hl 1 rfl) ?_
      exact x_iret C hw hr hlk h (dAt dX7_readsDancers 79 rfl)
set_option maxHeartbeats 4000000 in
set_option maxRecDepth 100000 in
theorem kX7_readsDancers_58 {p : Program} {l : Launch} {e : Env} {s : State} {m : MethodId} {args : Array Value} {below : List Frame} {meth : Method} {c : Code} {E : wE} (hE : wM E) (C : Cx p s m args c cX7_readsDancers 5 RX7 E (wA E)) (hr : meth.sig.returnType = (some .int)) (hlk : meth.locks = false) {Q : Int32 → Mem → Prop} : ∀ (x2 : Int32) (σ : Mem) (H : Heap) (locs : List Loc) (ls : Array Slot), wd E (wA E) s σ H locs → lv_has ls 5 [(0, .ref (gE E 0)), (2, .int x2)] → wX7_readsDancers_58 Q x2 σ → W p l e rX7_readsDancers s m args below meth c H locs 0 0 (MQ below (wQi E Q) args s 0 0 (wA E)) (F0 m 58 ls []) := by
  have hx := C.1.1
  have hb := C.1.2.1
  intro x2 σ  H locs ls hw hl h
  unfold wX7_readsDancers_58 at h
  refine lv_aload_n hx hb (dAt dX7_readsDancers 36 rfl) rfl (lv_at hl 0 rfl) ?_
  refine lv_iconst (v := 0) hx hb (dAt dX7_readsDancers 37 rfl) (by decide) ?_
  refine x_pf C hw fl_X7_129 (hE.1 0) (nM hE (by decide)) rfl rfl rfl (dAt dX7_readsDancers 38 rfl) (fun σ60 H locs eσ60 hw => ?_)
  replace h := h σ60 eσ60
  refine lv_iload_n hx hb (dAt dX7_readsDancers 39 rfl) rfl (lv_at hl 1 rfl) ?_
  exact x_iret C hw hr hlk h (dAt dX7_readsDancers 40 rfl)
set_option maxHeartbeats 4000000 in
set_option maxRecDepth 100000 in
theorem kX7_readsDancers_84 {p : Program} {l : Launch} {e : Env} {s : State} {m : MethodId} {args : Array Value} {below : List Frame} {meth : Method} {c : Code} {E : wE} (hE : wM E) (C : Cx p s m args c cX7_readsDancers 5 RX7 E (wA E)) (hr : meth.sig.returnType = (some .int)) (hlk : meth.locks = false) {Q : Int32 → Mem → Prop} {K14 : Int32 → Int32 → Mem → Prop} (hK14 : ∀ (x1 : Int32) (x2 : Int32) (σ : Mem) (H : Heap) (locs : List Loc) (ls : Array Slot), wd E (wA E) s σ H locs → lv_has ls 5 [(0, .ref (gE E 0)), (1, .int x1), (2, .int x2)] → K14 x1 x2 σ → W p l e rX7_readsDancers s m args below meth c H locs 0 0 (MQ below (wQi E Q) args s 0 0 (wA E)) (F0 m 14 ls [])) : ∀ (x1 : Int32) (x2 : Int32) (x3 : Int32) (σ : Mem) (H : Heap) (locs : List Loc) (ls : Array Slot), wd E (wA E) s σ H locs → lv_has ls 5 [(0, .ref (gE E 0)), (1, .int x1), (2, .int x2), (3, .int x3)] → wX7_readsDancers_84 K14 Q x1 x2 x3 σ → W p l e rX7_readsDancers s m args below meth c H locs 0 0 (MQ below (wQi E Q) args s 0 0 (wA E)) (F0 m 84 ls []) := by
  have hx := C.1.1
  have hb := C.1.2.1
  intro x1 x2 x3 σ  H locs ls hw hl h
  unfold wX7_readsDancers_84 at h
  refine lv_aload_n hx hb (dAt dX7_readsDancers 55 rfl) rfl (lv_at hl 0 rfl) ?_
  refine lv_dup hx hb (dAt dX7_readsDancers 56 rfl) rfl ?_
  refine x_geti C hw fl_X7_129 (hE.1 0) (nM hE (by decide)) rfl (dAt dX7_readsDancers 57 rfl) ?_
  refine lv_iload_n hx hb (dAt dX7_readsDancers 58 rfl) rfl (lv_at hl 3 rfl) ?_
  refine lv_iconst (v := 2) hx hb (dAt dX7_readsDancers 59 rfl) (by decide) ?_
  refine x_dia (ls := ls) (pcJ := 99) (cnd := x3 = (2 : Int32)) (a := (1 : Int32)) (b := (0 : Int32)) ([.int (σ 0 7), .ref (gE E 0)]) ?_ (fun ht91 hf91 => ?_)
  · refine lv_iadd hx hb (dAt dX7_readsDancers 64 rfl) ?_
    refine x_pf C hw fl_X7_129 (hE.1 0) (nM hE (by decide)) rfl rfl rfl (dAt dX7_readsDancers 65 rfl) (fun σ100 H locs eσ100 hw => ?_)
    replace h := h σ100 eσ100
    refine lv_iinc (v := (x2 + (1 : Int32))) (lv' := [(2, .int (x2 + (1 : Int32))), (0, .ref (gE E 0)), (1, .int x1), (3, .int x3)]) hx hb (dAt dX7_readsDancers 66 rfl) hl (k := 2) rfl rfl (by decide) rfl (fun ls hl => ?_)
    refine lv_goto (tgt := 14) hx hb (dAt dX7_readsDancers 67 rfl) (by decide) ?_
    exact hK14 x1 (x2 + (1 : Int32)) σ100  _ _ _ hw (lv_sub hl [1, 2, 0] rfl) h
  · refine lv_icmp_ne (tgt := 98) hx hb (dAt dX7_readsDancers 60 rfl) (by decide) (fun c91 => ?_) (fun c91 => ?_)
    · refine lv_iconst (v := 0) hx hb (dAt dX7_readsDancers 63 rfl) (by decide) ?_
      exact hf91 c91
    · refine lv_iconst (v := 1) hx hb (dAt dX7_readsDancers 61 rfl) (by decide) ?_
      refine lv_goto (tgt := 99) hx hb (dAt dX7_readsDancers 62 rfl) (by decide) ?_
      exact ht91 c91
set_option maxHeartbeats 4000000 in
set_option maxRecDepth 100000 in
theorem kX7_readsDancers_65 {p : Program} {l : Launch} {e : Env} {s : State} {m : MethodId} {args : Array Value} {below : List Frame} {meth : Method} {c : Code} {E : wE} (hE : wM E) (C : Cx p s m args c cX7_readsDancers 5 RX7 E (wA E)) (hr : meth.sig.returnType = (some .int)) (hlk : meth.locks = false) {Q : Int32 → Mem → Prop} {K14 : Int32 → Int32 → Mem → Prop} (hK14 : ∀ (x1 : Int32) (x2 : Int32) (σ : Mem) (H : Heap) (locs : List Loc) (ls : Array Slot), wd E (wA E) s σ H locs → lv_has ls 5 [(0, .ref (gE E 0)), (1, .int x1), (2, .int x2)] → K14 x1 x2 σ → W p l e rX7_readsDancers s m args below meth c H locs 0 0 (MQ below (wQi E Q) args s 0 0 (wA E)) (F0 m 14 ls [])) : ∀ (x1 : Int32) (x2 : Int32) (x3 : Int32) (x4 : Int32) (σ : Mem) (H : Heap) (locs : List Loc) (ls : Array Slot), wd E (wA E) s σ H locs → lv_has ls 5 [(0, .ref (gE E 0)), (1, .int x1), (2, .int x2), (3, .int x3), (4, .int x4)] → wX7_readsDancers_65 K14 Q x1 x2 x3 x4 σ → W p l e rX7_readsDancers s m args below meth c H locs 0 0 (MQ below (wQi E Q) args s 0 0 (wA E)) (F0 m 65 ls []) := by
  have hx := C.1.1
  have hb := C.1.2.1
  intro x1 x2 x3 x4 σ  H locs ls hw hl h
  unfold wX7_readsDancers_65 at h
  refine lv_iload_n hx hb (dAt dX7_readsDancers 41 rfl) rfl (lv_at hl 3 rfl) ?_
  refine lv_iconst (v := 3) hx hb (dAt dX7_readsDancers 42 rfl) (by decide) ?_
  refine lv_icmp_ge (tgt := 84) hx hb (dAt dX7_readsDancers 43 rfl) (by decide) (fun c67 => ?_) (fun c67 => ?_)
  · replace h := h.1 c67
    exact kX7_readsDancers_84 hE C hr hlk hK14 x1 x2 x3 σ  _ _ _ hw (lv_sub hl [0, 1, 2, 3] rfl) h
  · replace h := h.2 c67
    refine lv_aload_n hx hb (dAt dX7_readsDancers 44 rfl) rfl (lv_at hl 0 rfl) ?_
    refine x_getr C hw fl_X7_28 (hE.1 0) (nM hE (by decide)) rfl (dAt dX7_readsDancers 45 rfl) ?_
    refine lv_iconst (v := 3) hx hb (dAt dX7_readsDancers 46 rfl) (by decide) ?_
    refine lv_iload_n hx hb (dAt dX7_readsDancers 47 rfl) rfl (lv_at hl 2 rfl) ?_
    refine lv_iconst (v := 4) hx hb (dAt dX7_readsDancers 48 rfl) (by decide) ?_
    refine lv_idiv hx hb (dAt dX7_readsDancers 49 rfl) (by decide) ?_
    refine lv_imul hx hb (dAt dX7_readsDancers 50 rfl) ?_
    refine lv_iload_n hx hb (dAt dX7_readsDancers 51 rfl) rfl (lv_at hl 3 rfl) ?_
    refine lv_iadd hx hb (dAt dX7_readsDancers 52 rfl) ?_
    refine lv_iload hx hb (dAt dX7_readsDancers 53 rfl) (lv_at hl 4 rfl) ?_
    obtain ⟨z83, h⟩ := h
    refine x_ist C hw (hE.1 7) (nM hE (by decide)) z83 rfl (dAt dX7_readsDancers 54 rfl) (fun σ83 H locs eσ83 hw => ?_)
    replace h := h σ83 eσ83
    exact kX7_readsDancers_84 hE C hr hlk hK14 x1 x2 x3 σ83  _ _ _ hw (lv_sub hl [0, 1, 2, 3] rfl) h
set_option maxHeartbeats 4000000 in
set_option maxRecDepth 100000 in
theorem kX7_readsDancers_14 {p : Program} {l : Launch} {e : Env} {s : State} {m : MethodId} {args : Array Value} {below : List Frame} {meth : Method} {c : Code} {E : wE} (hE : wM E) (C : Cx p s m args c cX7_readsDancers 5 RX7 E (wA E)) (hr : meth.sig.returnType = (some .int)) (hlk : meth.locks = false) {Q : Int32 → Mem → Prop} : ∀ (n : Nat) (x1 : Int32) (x2 : Int32) (σ : Mem) (H : Heap) (locs : List Loc) (ls : Array Slot), wd E (wA E) s σ H locs → lv_has ls 5 [(0, .ref (gE E 0)), (1, .int x1), (2, .int x2)] → wX7_readsDancers_14 Q n x1 x2 σ → W p l e rX7_readsDancers s m args below meth c H locs 0 0 (MQ below (wQi E Q) args s 0 0 (wA E)) (F0 m 14 ls []) := by
  have hx := C.1.1
  have hb := C.1.2.1
  intro n
  induction n with
  | zero =>
    intro x1 x2 σ  H locs ls hw hl h
    exact h.elim
  | succ n ih =>
    intro x1 x2 σ  H locs ls hw hl h
    rw [wX7_readsDancers_14] at h
    refine lv_iload_n hx hb (dAt dX7_readsDancers 10 rfl) rfl (lv_at hl 2 rfl) ?_
    refine lv_iload_n hx hb (dAt dX7_readsDancers 11 rfl) rfl (lv_at hl 1 rfl) ?_
    refine lv_icmp_ge (tgt := 109) hx hb (dAt dX7_readsDancers 12 rfl) (by decide) (fun c16 => ?_) (fun c16 => ?_)
    · replace h := h.1 c16
      exact kX7_readsDancers_109 hE C hr hlk x1 σ  _ _ _ hw (lv_sub hl [0, 1] rfl) h
    · replace h := h.2 c16
      refine lv_iload_n hx hb (dAt dX7_readsDancers 13 rfl) rfl (lv_at hl 2 rfl) ?_
      refine lv_iconst (v := 4) hx hb (dAt dX7_readsDancers 14 rfl) (by decide) ?_
      refine lv_irem hx hb (dAt dX7_readsDancers 15 rfl) (by decide) ?_
      refine lv_topi (fun x3_22 ex3_22 => ?_)
      replace h := h x3_22 ex3_22
      refine lv_istore_n (lv' := [(3, .int x3_22), (0, .ref (gE E 0)), (1, .int x1), (2, .int x2)]) hx hb (dAt dX7_readsDancers 16 rfl) rfl hl (by decide) rfl (fun ls hl => ?_)
      refine lv_iload_n hx hb (dAt dX7_readsDancers 17 rfl) rfl (lv_at hl 0 rfl) ?_
      refine lv_aload_n hx hb (dAt dX7_readsDancers 18 rfl) rfl (lv_at hl 1 rfl) ?_
      refine x_getr C hw fl_X7_22 (hE.1 0) (nM hE (by decide)) rfl (dAt dX7_readsDancers 19 rfl) ?_
      refine lv_iload_n hx hb (dAt dX7_readsDancers 20 rfl) rfl (lv_at hl 3 rfl) ?_
      obtain ⟨z29, h⟩ := h
      refine x_ild C hw (hE.1 5) (nM hE (by decide)) z29 rfl (dAt dX7_readsDancers 21 rfl) ?_
      refine x_calli C hw (x_runS (As := [.int x3_22, .int (σ 5 (x2).toNatClampNeg)]) (rest := []) C hw (kX7_dancerOf l E hE x3_22 (σ 5 (x2).toNatClampNeg) σ _ h) mtX7_dancerOf lk_X7_132 ⟨by decide, by decide⟩ ⟨rfl, rfl⟩ rfl hl.1 rfl (by decide) (dAt dX7_readsDancers 22 rfl) ⟨Nat.zero_le _, Nat.zero_le _⟩) (fun r30 σ30 H locs h hw => ?_)
      refine lv_istore (lv' := [(4, .int r30), (3, .int x3_22), (0, .ref (gE E 0)), (1, .int x1), (2, .int x2)]) hx hb (dAt dX7_readsDancers 23 rfl) hl (by decide) rfl (fun ls hl => ?_)
      refine lv_iload hx hb (dAt dX7_readsDancers 24 rfl) (lv_at hl 0 rfl) ?_
      refine lv_bipush (v := -9) hx hb (dAt dX7_readsDancers 25 rfl) (by decide) ?_
      refine lv_icmp_eq (tgt := 58) hx hb (dAt dX7_readsDancers 26 rfl) (by decide) (fun c39 => ?_) (fun c39 => ?_)
      · replace h := h.1 c39
        exact kX7_readsDancers_58 hE C hr hlk x2 σ30  _ _ _ hw (lv_sub hl [2, 4] rfl) h
      · replace h := h.2 c39
        refine lv_iload_n hx hb (dAt dX7_readsDancers 27 rfl) rfl (lv_at hl 1 rfl) ?_
        refine lv_if_ne (tgt := 65) hx hb (dAt dX7_readsDancers 28 rfl) (by decide) (fun c43 => ?_) (fun c43 => ?_)
        · replace h := h.1 c43
          exact kX7_readsDancers_65 hE C hr hlk ih x1 x2 x3_22 r30 σ30  _ _ _ hw (lv_sub hl [2, 3, 4, 1, 0] rfl) h
        · replace h := h.2 c43
          refine lv_aload_n hx hb (dAt dX7_readsDancers 29 rfl) rfl (lv_at hl 2 rfl) ?_
          refine lv_iload_n hx hb (dAt dX7_readsDancers 30 rfl) rfl (lv_at hl 4 rfl) ?_
          refine lv_iconst (v := 4) hx hb (dAt dX7_readsDancers 31 rfl) (by decide) ?_
          refine lv_idiv hx hb (dAt dX7_readsDancers 32 rfl) (by decide) ?_
          refine lv_iload hx hb (dAt dX7_readsDancers 33 rfl) (lv_at hl 0 rfl) ?_
          refine x_calli C hw (x_runV (As := [.int (x2 / (4 : Int32)), .int r30]) (rest := []) C hw (kX7_isTaken l E hE (x2 / (4 : Int32)) r30 σ30 _ h) mtX7_isTaken lk_X7_135 (hE.1 0) (nM hE (by decide)) rfl ⟨by decide, by decide⟩ ⟨rfl, rfl⟩ rfl hl.1 rfl (by decide) (dAt dX7_readsDancers 34 rfl) ⟨Nat.zero_le _, Nat.zero_le _⟩) (fun r52 σ52 H locs h hw => ?_)
          refine lv_if_eq (tgt := 65) hx hb (dAt dX7_readsDancers 35 rfl) (by decide) (fun c55 => ?_) (fun c55 => ?_)
          · replace h := h.1 c55
            exact kX7_readsDancers_65 hE C hr hlk ih x1 x2 x3_22 r30 σ52  _ _ _ hw (lv_sub hl [2, 3, 4, 1, 0] rfl) h
          · replace h := h.2 c55
            exact kX7_readsDancers_58 hE C hr hlk x2 σ52  _ _ _ hw (lv_sub hl [2, 4] rfl) h
set_option maxHeartbeats 4000000 in
set_option maxRecDepth 100000 in
theorem kX7_readsDancers (l : Launch) (E : wE) (hE : wM E) (σ : Mem) (Q : Int32 → Mem → Prop) (h : wX7_readsDancers  σ Q) : Met l yX7_readsDancers (Cond.code yX7_readsDancers cX7_readsDancers 5 (some .int) :: TB) rX7_readsDancers (wPc E σ [.ref (gE E 0)]) (wQi E Q) 0 0 (wA E) := by
  refine wMet (by decide) hE.2.2 (Nat.le_of_ble_eq_true rfl) ?_
  intro p e s m args below meth c ls C hr hlk hl hw
  have hx := C.1.1
  have hb := C.1.2.1
  replace C : Cx p s m args c cX7_readsDancers 5 RX7 E (wA E) := C
  replace hl : lv_has ls 5 [(0, .ref (gE E 0))] := hl
  unfold wX7_readsDancers at h
  refine lv_aload_n hx hb (dAt dX7_readsDancers 0 rfl) rfl (lv_at hl 0 rfl) ?_
  refine lv_iconst (v := 0) hx hb (dAt dX7_readsDancers 1 rfl) (by decide) ?_
  refine x_pf C hw fl_X7_129 (hE.1 0) (nM hE (by decide)) rfl rfl rfl (dAt dX7_readsDancers 2 rfl) (fun σ2 H locs eσ2 hw => ?_)
  replace h := h σ2 eσ2
  refine lv_aload_n hx hb (dAt dX7_readsDancers 3 rfl) rfl (lv_at hl 0 rfl) ?_
  refine x_getr C hw fl_X7_25 (hE.1 0) (nM hE (by decide)) rfl (dAt dX7_readsDancers 4 rfl) ?_
  refine lv_iconst (v := 0) hx hb (dAt dX7_readsDancers 5 rfl) (by decide) ?_
  refine x_ild C hw (hE.1 6) (nM hE (by decide)) (vin rfl) rfl (dAt dX7_readsDancers 6 rfl) ?_
  refine lv_topi (fun x1_11 ex1_11 => ?_)
  replace h := h x1_11 ex1_11
  refine lv_istore_n (lv' := [(1, .int x1_11), (0, .ref (gE E 0))]) hx hb (dAt dX7_readsDancers 7 rfl) rfl hl (by decide) rfl (fun ls hl => ?_)
  refine lv_iconst (v := 0) hx hb (dAt dX7_readsDancers 8 rfl) (by decide) ?_
  refine lv_istore_n (lv' := [(2, .int (0 : Int32)), (1, .int x1_11), (0, .ref (gE E 0))]) hx hb (dAt dX7_readsDancers 9 rfl) rfl hl (by decide) rfl (fun ls hl => ?_)
  obtain ⟨n14, h⟩ := h
  exact kX7_readsDancers_14 hE C hr hlk n14 x1_11 (0 : Int32) σ2  _ _ _ hw (lv_sub hl [2, 1, 0] rfl) h
def tX7_takes : List (Nat × Instr × Nat) := [(0, .aload_n 0, 1), (1, .getfield 46, 3), (4, .iload_n 1, 1), (5, .dup2, 1), (6, .iaload, 1), (7, .iload_n 3, 1), (8, .iadd, 1), (9, .iastore, 1), (10, .aload_n 0, 1), (11, .getfield 46, 3), (14, .iload_n 2, 1), (15, .dup2, 1), (16, .iaload, 1), (17, .iload_n 3, 1), (18, .iadd, 1), (19, .iastore, 1), (20, .return_, 1)]
theorem dX7_takes : dOk cX7_takes tX7_takes = true := by decide +kernel
abbrev rX7_takes : Room := { frames := 0, cells := 0, slots := 0, locals := 0 }
def wX7_takes (x1 : Int32) (x2 : Int32) (x3 : Int32) (σ : Mem) (Q : Mem → Prop) : Prop := (vp_in x1 8 ∧ (vp_in x1 8 ∧ (∀ σ9 : Mem, σ9 = um σ 13 (x1).toNatClampNeg ((σ 13 (x1).toNatClampNeg) + x3) → (vp_in x2 8 ∧ (vp_in x2 8 ∧ (∀ σ19 : Mem, σ19 = um σ9 13 (x2).toNatClampNeg ((σ9 13 (x2).toNatClampNeg) + x3) → (Q σ19)))))))
set_option maxHeartbeats 4000000 in
set_option maxRecDepth 100000 in
theorem kX7_takes (l : Launch) (E : wE) (hE : wM E) (x1 : Int32) (x2 : Int32) (x3 : Int32) (σ : Mem) (Q : Mem → Prop) (h : wX7_takes x1 x2 x3 σ Q) : Met l yX7_takes (Cond.code yX7_takes cX7_takes 4 none :: TB) rX7_takes (wPc E σ [.ref (gE E 0), .int x1, .int x2, .int x3]) (wQv E Q) 0 0 (wA E) := by
  refine wMet (by decide) hE.2.2 (Nat.le_of_ble_eq_true rfl) ?_
  intro p e s m args below meth c ls C hr hlk hl hw
  have hx := C.1.1
  have hb := C.1.2.1
  replace C : Cx p s m args c cX7_takes 4 RX7 E (wA E) := C
  replace hl : lv_has ls 4 [(0, .ref (gE E 0)), (1, .int x1), (2, .int x2), (3, .int x3)] := hl
  unfold wX7_takes at h
  refine lv_aload_n hx hb (dAt dX7_takes 0 rfl) rfl (lv_at hl 0 rfl) ?_
  refine x_getr C hw fl_X7_46 (hE.1 0) (nM hE (by decide)) rfl (dAt dX7_takes 1 rfl) ?_
  refine lv_iload_n hx hb (dAt dX7_takes 2 rfl) rfl (lv_at hl 1 rfl) ?_
  refine lv_dup2_11 hx hb (dAt dX7_takes 3 rfl) rfl rfl ?_
  obtain ⟨z6, h⟩ := h
  refine x_ild C hw (hE.1 13) (nM hE (by decide)) z6 rfl (dAt dX7_takes 4 rfl) ?_
  refine lv_iload_n hx hb (dAt dX7_takes 5 rfl) rfl (lv_at hl 3 rfl) ?_
  refine lv_iadd hx hb (dAt dX7_takes 6 rfl) ?_
  obtain ⟨z9, h⟩ := h
  refine x_ist C hw (hE.1 13) (nM hE (by decide)) z9 rfl (dAt dX7_takes 7 rfl) (fun σ9 H locs eσ9 hw => ?_)
  replace h := h σ9 eσ9
  refine lv_aload_n hx hb (dAt dX7_takes 8 rfl) rfl (lv_at hl 0 rfl) ?_
  refine x_getr C hw fl_X7_46 (hE.1 0) (nM hE (by decide)) rfl (dAt dX7_takes 9 rfl) ?_
  refine lv_iload_n hx hb (dAt dX7_takes 10 rfl) rfl (lv_at hl 2 rfl) ?_
  refine lv_dup2_11 hx hb (dAt dX7_takes 11 rfl) rfl rfl ?_
  obtain ⟨z16, h⟩ := h
  refine x_ild C hw (hE.1 13) (nM hE (by decide)) z16 rfl (dAt dX7_takes 12 rfl) ?_
  refine lv_iload_n hx hb (dAt dX7_takes 13 rfl) rfl (lv_at hl 3 rfl) ?_
  refine lv_iadd hx hb (dAt dX7_takes 14 rfl) ?_
  obtain ⟨z19, h⟩ := h
  refine x_ist C hw (hE.1 13) (nM hE (by decide)) z19 rfl (dAt dX7_takes 15 rfl) (fun σ19 H locs eσ19 hw => ?_)
  replace h := h σ19 eσ19
  exact x_vret C hw hr hlk h (dAt dX7_takes 16 rfl)
def tX7_weaves : List (Nat × Instr × Nat) := [(0, .aload_n 0, 1), (1, .getfield 178, 3), (4, .iconst 1, 1), (5, .isub, 1), (6, .istore 4, 2), (8, .aload_n 0, 1), (9, .getfield 178, 3), (12, .ifCond .le 71, 3), (15, .aload_n 0, 1), (16, .getfield 49, 3), (19, .iload 4, 2), (21, .iaload, 1), (22, .iload_n 2, 1), (23, .if_icmp .ne 60, 3), (26, .aload_n 0, 1), (27, .getfield 52, 3), (30, .iload 4, 2), (32, .iaload, 1), (33, .iload_n 3, 1), (34, .if_icmp .ne 49, 3), (37, .aload_n 0, 1), (38, .getfield 55, 3), (41, .iload 4, 2), (43, .iaload, 1), (44, .aload_n 0, 1), (45, .getfield 43, 3), (48, .iload_n 2, 1), (49, .iaload, 1), (50, .if_icmp .eq 33, 3), (53, .aload_n 0, 1), (54, .dup, 1), (55, .getfield 178, 3), (58, .iconst 1, 1), (59, .isub, 1), (60, .putfield 178, 3), (63, .aload_n 0, 1), (64, .dup, 1), (65, .getfield 181, 3), (68, .iconst 1, 1), (69, .iadd, 1), (70, .putfield 181, 3), (73, .aload_n 0, 1), (74, .iload_n 2, 1), (75, .iload_n 3, 1), (76, .iconst 1, 1), (77, .invokevirtual 184, 3), (80, .goto 93, 3), (83, .aload_n 0, 1), (84, .getfield 46, 3), (87, .iload_n 2, 1), (88, .iaload, 1), (89, .ifCond .le 84, 3), (92, .aload_n 0, 1), (93, .getfield 46, 3), (96, .iload_n 3, 1), (97, .iaload, 1), (98, .ifCond .le 75, 3), (101, .aload_n 0, 1), (102, .getfield 49, 3), (105, .aload_n 0, 1), (106, .getfield 178, 3), (109, .iload_n 2, 1), (110, .iastore, 1), (111, .aload_n 0, 1), (112, .getfield 52, 3), (115, .aload_n 0, 1), (116, .getfield 178, 3), (119, .iload_n 3, 1), (120, .iastore, 1), (121, .aload_n 0, 1), (122, .getfield 55, 3), (125, .aload_n 0, 1), (126, .getfield 178, 3), (129, .aload_n 0, 1), (130, .getfield 43, 3), (133, .iload_n 2, 1), (134, .iaload, 1), (135, .iastore, 1), (136, .aload_n 0, 1), (137, .getfield 58, 3), (140, .aload_n 0, 1), (141, .getfield 178, 3), (144, .iload_n 1, 1), (145, .iastore, 1), (146, .aload_n 0, 1), (147, .dup, 1), (148, .getfield 178, 3), (151, .iconst 1, 1), (152, .iadd, 1), (153, .putfield 178, 3), (156, .aload_n 0, 1), (157, .dup, 1), (158, .getfield 188, 3), (161, .iconst 1, 1), (162, .iadd, 1), (163, .putfield 188, 3), (166, .aload_n 0, 1), (167, .iload_n 2, 1), (168, .iload_n 3, 1), (169, .iconst (-1), 1), (170, .invokevirtual 184, 3), (173, .return_, 1)]
theorem dX7_weaves : dOk cX7_weaves tX7_weaves = true := by decide +kernel
abbrev rX7_weaves : Room := { frames := 1, cells := 0, slots := 0, locals := 23 }
def wX7_weaves_83 (Q : Mem → Prop) (x1 : Int32) (x2 : Int32) (x3 : Int32) (σ : Mem) : Prop := (vp_in x2 8 ∧ ((((σ 13 (x2).toNatClampNeg) ≤ 0) → (Q σ)) ∧ ((¬ (σ 13 (x2).toNatClampNeg) ≤ 0) → (vp_in x3 8 ∧ ((((σ 13 (x3).toNatClampNeg) ≤ 0) → (Q σ)) ∧ ((¬ (σ 13 (x3).toNatClampNeg) ≤ 0) → (vp_in (σ 0 20) 120 ∧ (∀ σ110 : Mem, σ110 = um σ 14 ((σ 0 20)).toNatClampNeg x2 → (vp_in (σ110 0 20) 120 ∧ (∀ σ120 : Mem, σ120 = um σ110 15 ((σ110 0 20)).toNatClampNeg x3 → (vp_in x2 8 ∧ (vp_in (σ120 0 20) 120 ∧ (∀ σ135 : Mem, σ135 = um σ120 16 ((σ120 0 20)).toNatClampNeg (σ120 12 (x2).toNatClampNeg) → (vp_in (σ135 0 20) 120 ∧ (∀ σ145 : Mem, σ145 = um σ135 17 ((σ135 0 20)).toNatClampNeg x1 → (∀ σ153 : Mem, σ153 = um σ145 0 20 ((σ145 0 20) + (1 : Int32)) → (∀ σ163 : Mem, σ163 = um σ153 0 26 ((σ153 0 26) + (1 : Int32)) → (wX7_takes x2 x3 (-1 : Int32) σ163 (fun σ170 => (Q σ170))))))))))))))))))))
def wX7_weaves (x1 : Int32) (x2 : Int32) (x3 : Int32) (σ : Mem) (Q : Mem → Prop) : Prop := (∀ x4_6 : Int32, x4_6 = ((σ 0 20) - (1 : Int32)) → ((((σ 0 20) ≤ 0) → (wX7_weaves_83 Q x1 x2 x3 σ)) ∧ ((¬ (σ 0 20) ≤ 0) → (vp_in x4_6 120 ∧ (((¬ (σ 14 (x4_6).toNatClampNeg) = x2) → (wX7_weaves_83 Q x1 x2 x3 σ)) ∧ (((σ 14 (x4_6).toNatClampNeg) = x2) → (vp_in x4_6 120 ∧ (((¬ (σ 15 (x4_6).toNatClampNeg) = x3) → (wX7_weaves_83 Q x1 x2 x3 σ)) ∧ (((σ 15 (x4_6).toNatClampNeg) = x3) → (vp_in x4_6 120 ∧ (vp_in x2 8 ∧ ((((σ 16 (x4_6).toNatClampNeg) = (σ 12 (x2).toNatClampNeg)) → (wX7_weaves_83 Q x1 x2 x3 σ)) ∧ ((¬ (σ 16 (x4_6).toNatClampNeg) = (σ 12 (x2).toNatClampNeg)) → (∀ σ60 : Mem, σ60 = um σ 0 20 ((σ 0 20) - (1 : Int32)) → (∀ σ70 : Mem, σ70 = um σ60 0 27 ((σ60 0 27) + (1 : Int32)) → (wX7_takes x2 x3 (1 : Int32) σ70 (fun σ77 => (Q σ77))))))))))))))))))
set_option maxHeartbeats 4000000 in
set_option maxRecDepth 100000 in
theorem kX7_weaves_83 {p : Program} {l : Launch} {e : Env} {s : State} {m : MethodId} {args : Array Value} {below : List Frame} {meth : Method} {c : Code} {E : wE} (hE : wM E) (C : Cx p s m args c cX7_weaves 5 RX7 E (wA E)) (hr : meth.sig.returnType = none) (hlk : meth.locks = false) {Q : Mem → Prop} : ∀ (x1 : Int32) (x2 : Int32) (x3 : Int32) (σ : Mem) (H : Heap) (locs : List Loc) (ls : Array Slot), wd E (wA E) s σ H locs → lv_has ls 5 [(0, .ref (gE E 0)), (1, .int x1), (2, .int x2), (3, .int x3)] → wX7_weaves_83 Q x1 x2 x3 σ → W p l e rX7_weaves s m args below meth c H locs 0 0 (MQ below (wQv E Q) args s 0 0 (wA E)) (F0 m 83 ls []) := by
  have hx := C.1.1
  have hb := C.1.2.1
  intro x1 x2 x3 σ  H locs ls hw hl h
  unfold wX7_weaves_83 at h
  refine lv_aload_n hx hb (dAt dX7_weaves 47 rfl) rfl (lv_at hl 0 rfl) ?_
  refine x_getr C hw fl_X7_46 (hE.1 0) (nM hE (by decide)) rfl (dAt dX7_weaves 48 rfl) ?_
  refine lv_iload_n hx hb (dAt dX7_weaves 49 rfl) rfl (lv_at hl 2 rfl) ?_
  obtain ⟨z88, h⟩ := h
  refine x_ild C hw (hE.1 13) (nM hE (by decide)) z88 rfl (dAt dX7_weaves 50 rfl) ?_
  refine lv_if_le (tgt := 173) hx hb (dAt dX7_weaves 51 rfl) (by decide) (fun c89 => ?_) (fun c89 => ?_)
  · replace h := h.1 c89
    exact x_vret C hw hr hlk h (dAt dX7_weaves 101 rfl)
  · replace h := h.2 c89
    refine lv_aload_n hx hb (dAt dX7_weaves 52 rfl) rfl (lv_at hl 0 rfl) ?_
    refine x_getr C hw fl_X7_46 (hE.1 0) (nM hE (by decide)) rfl (dAt dX7_weaves 53 rfl) ?_
    refine lv_iload_n hx hb (dAt dX7_weaves 54 rfl) rfl (lv_at hl 3 rfl) ?_
    obtain ⟨z97, h⟩ := h
    refine x_ild C hw (hE.1 13) (nM hE (by decide)) z97 rfl (dAt dX7_weaves 55 rfl) ?_
    refine lv_if_le (tgt := 173) hx hb (dAt dX7_weaves 56 rfl) (by decide) (fun c98 => ?_) (fun c98 => ?_)
    · replace h := h.1 c98
      exact x_vret C hw hr hlk h (dAt dX7_weaves 101 rfl)
    · replace h := h.2 c98
      refine lv_aload_n hx hb (dAt dX7_weaves 57 rfl) rfl (lv_at hl 0 rfl) ?_
      refine x_getr C hw fl_X7_49 (hE.1 0) (nM hE (by decide)) rfl (dAt dX7_weaves 58 rfl) ?_
      refine lv_aload_n hx hb (dAt dX7_weaves 59 rfl) rfl (lv_at hl 0 rfl) ?_
      refine x_geti C hw fl_X7_178 (hE.1 0) (nM hE (by decide)) rfl (dAt dX7_weaves 60 rfl) ?_
      refine lv_iload_n hx hb (dAt dX7_weaves 61 rfl) rfl (lv_at hl 2 rfl) ?_
      obtain ⟨z110, h⟩ := h
      refine x_ist C hw (hE.1 14) (nM hE (by decide)) z110 rfl (dAt dX7_weaves 62 rfl) (fun σ110 H locs eσ110 hw => ?_)
      replace h := h σ110 eσ110
      refine lv_aload_n hx hb (dAt dX7_weaves 63 rfl) rfl (lv_at hl 0 rfl) ?_
      refine x_getr C hw fl_X7_52 (hE.1 0) (nM hE (by decide)) rfl (dAt dX7_weaves 64 rfl) ?_
      refine lv_aload_n hx hb (dAt dX7_weaves 65 rfl) rfl (lv_at hl 0 rfl) ?_
      refine x_geti C hw fl_X7_178 (hE.1 0) (nM hE (by decide)) rfl (dAt dX7_weaves 66 rfl) ?_
      refine lv_iload_n hx hb (dAt dX7_weaves 67 rfl) rfl (lv_at hl 3 rfl) ?_
      obtain ⟨z120, h⟩ := h
      refine x_ist C hw (hE.1 15) (nM hE (by decide)) z120 rfl (dAt dX7_weaves 68 rfl) (fun σ120 H locs eσ120 hw => ?_)
      replace h := h σ120 eσ120
      refine lv_aload_n hx hb (dAt dX7_weaves 69 rfl) rfl (lv_at hl 0 rfl) ?_
      refine x_getr C hw fl_X7_55 (hE.1 0) (nM hE (by decide)) rfl (dAt dX7_weaves 70 rfl) ?_
      refine lv_aload_n hx hb (dAt dX7_weaves 71 rfl) rfl (lv_at hl 0 rfl) ?_
      refine x_geti C hw fl_X7_178 (hE.1 0) (nM hE (by decide)) rfl (dAt dX7_weaves 72 rfl) ?_
      refine lv_aload_n hx hb (dAt dX7_weaves 73 rfl) rfl (lv_at hl 0 rfl) ?_
      refine x_getr C hw fl_X7_43 (hE.1 0) (nM hE (by decide)) rfl (dAt dX7_weaves 74 rfl) ?_
      refine lv_iload_n hx hb (dAt dX7_weaves 75 rfl) rfl (lv_at hl 2 rfl) ?_
      obtain ⟨z134, h⟩ := h
      refine x_ild C hw (hE.1 12) (nM hE (by decide)) z134 rfl (dAt dX7_weaves 76 rfl) ?_
      obtain ⟨z135, h⟩ := h
      refine x_ist C hw (hE.1 16) (nM hE (by decide)) z135 rfl (dAt dX7_weaves 77 rfl) (fun σ135 H locs eσ135 hw => ?_)
      replace h := h σ135 eσ135
      refine lv_aload_n hx hb (dAt dX7_weaves 78 rfl) rfl (lv_at hl 0 rfl) ?_
      refine x_getr C hw fl_X7_58 (hE.1 0) (nM hE (by decide)) rfl (dAt dX7_weaves 79 rfl) ?_
      refine lv_aload_n hx hb (dAt dX7_weaves 80 rfl) rfl (lv_at hl 0 rfl) ?_
      refine x_geti C hw fl_X7_178 (hE.1 0) (nM hE (by decide)) rfl (dAt dX7_weaves 81 rfl) ?_
      refine lv_iload_n hx hb (dAt dX7_weaves 82 rfl) rfl (lv_at hl 1 rfl) ?_
      obtain ⟨z145, h⟩ := h
      refine x_ist C hw (hE.1 17) (nM hE (by decide)) z145 rfl (dAt dX7_weaves 83 rfl) (fun σ145 H locs eσ145 hw => ?_)
      replace h := h σ145 eσ145
      refine lv_aload_n hx hb (dAt dX7_weaves 84 rfl) rfl (lv_at hl 0 rfl) ?_
      refine lv_dup hx hb (dAt dX7_weaves 85 rfl) rfl ?_
      refine x_geti C hw fl_X7_178 (hE.1 0) (nM hE (by decide)) rfl (dAt dX7_weaves 86 rfl) ?_
      refine lv_iconst (v := 1) hx hb (dAt dX7_weaves 87 rfl) (by decide) ?_
      refine lv_iadd hx hb (dAt dX7_weaves 88 rfl) ?_
      refine x_pf C hw fl_X7_178 (hE.1 0) (nM hE (by decide)) rfl rfl rfl (dAt dX7_weaves 89 rfl) (fun σ153 H locs eσ153 hw => ?_)
      replace h := h σ153 eσ153
      refine lv_aload_n hx hb (dAt dX7_weaves 90 rfl) rfl (lv_at hl 0 rfl) ?_
      refine lv_dup hx hb (dAt dX7_weaves 91 rfl) rfl ?_
      refine x_geti C hw fl_X7_188 (hE.1 0) (nM hE (by decide)) rfl (dAt dX7_weaves 92 rfl) ?_
      refine lv_iconst (v := 1) hx hb (dAt dX7_weaves 93 rfl) (by decide) ?_
      refine lv_iadd hx hb (dAt dX7_weaves 94 rfl) ?_
      refine x_pf C hw fl_X7_188 (hE.1 0) (nM hE (by decide)) rfl rfl rfl (dAt dX7_weaves 95 rfl) (fun σ163 H locs eσ163 hw => ?_)
      replace h := h σ163 eσ163
      refine lv_aload_n hx hb (dAt dX7_weaves 96 rfl) rfl (lv_at hl 0 rfl) ?_
      refine lv_iload_n hx hb (dAt dX7_weaves 97 rfl) rfl (lv_at hl 2 rfl) ?_
      refine lv_iload_n hx hb (dAt dX7_weaves 98 rfl) rfl (lv_at hl 3 rfl) ?_
      refine lv_iconst (v := -1) hx hb (dAt dX7_weaves 99 rfl) (by decide) ?_
      refine x_callv C hw (x_runV (As := [.int x2, .int x3, .int (-1 : Int32)]) (rest := []) C hw (kX7_takes l E hE x2 x3 (-1 : Int32) σ163 _ h) mtX7_takes lk_X7_184 (hE.1 0) (nM hE (by decide)) rfl ⟨by decide, by decide⟩ ⟨rfl, rfl⟩ rfl hl.1 rfl (by decide) (dAt dX7_weaves 100 rfl) ⟨Nat.zero_le _, Nat.zero_le _⟩) (fun σ170 H locs h hw => ?_)
      exact x_vret C hw hr hlk h (dAt dX7_weaves 101 rfl)
set_option maxHeartbeats 4000000 in
set_option maxRecDepth 100000 in
theorem kX7_weaves (l : Launch) (E : wE) (hE : wM E) (x1 : Int32) (x2 : Int32) (x3 : Int32) (σ : Mem) (Q : Mem → Prop) (h : wX7_weaves x1 x2 x3 σ Q) : Met l yX7_weaves (Cond.code yX7_weaves cX7_weaves 5 none :: TB) rX7_weaves (wPc E σ [.ref (gE E 0), .int x1, .int x2, .int x3]) (wQv E Q) 0 0 (wA E) := by
  refine wMet (by decide) hE.2.2 (Nat.le_of_ble_eq_true rfl) ?_
  intro p e s m args below meth c ls C hr hlk hl hw
  have hx := C.1.1
  have hb := C.1.2.1
  replace C : Cx p s m args c cX7_weaves 5 RX7 E (wA E) := C
  replace hl : lv_has ls 5 [(0, .ref (gE E 0)), (1, .int x1), (2, .int x2), (3, .int x3)] := hl
  unfold wX7_weaves at h
  refine lv_aload_n hx hb (dAt dX7_weaves 0 rfl) rfl (lv_at hl 0 rfl) ?_
  refine x_geti C hw fl_X7_178 (hE.1 0) (nM hE (by decide)) rfl (dAt dX7_weaves 1 rfl) ?_
  refine lv_iconst (v := 1) hx hb (dAt dX7_weaves 2 rfl) (by decide) ?_
  refine lv_isub hx hb (dAt dX7_weaves 3 rfl) ?_
  refine lv_topi (fun x4_6 ex4_6 => ?_)
  replace h := h x4_6 ex4_6
  refine lv_istore (lv' := [(4, .int x4_6), (0, .ref (gE E 0)), (1, .int x1), (2, .int x2), (3, .int x3)]) hx hb (dAt dX7_weaves 4 rfl) hl (by decide) rfl (fun ls hl => ?_)
  refine lv_aload_n hx hb (dAt dX7_weaves 5 rfl) rfl (lv_at hl 1 rfl) ?_
  refine x_geti C hw fl_X7_178 (hE.1 0) (nM hE (by decide)) rfl (dAt dX7_weaves 6 rfl) ?_
  refine lv_if_le (tgt := 83) hx hb (dAt dX7_weaves 7 rfl) (by decide) (fun c12 => ?_) (fun c12 => ?_)
  · replace h := h.1 c12
    exact kX7_weaves_83 hE C hr hlk x1 x2 x3 σ  _ _ _ hw (lv_sub hl [1, 2, 3, 4] rfl) h
  · replace h := h.2 c12
    refine lv_aload_n hx hb (dAt dX7_weaves 8 rfl) rfl (lv_at hl 1 rfl) ?_
    refine x_getr C hw fl_X7_49 (hE.1 0) (nM hE (by decide)) rfl (dAt dX7_weaves 9 rfl) ?_
    refine lv_iload hx hb (dAt dX7_weaves 10 rfl) (lv_at hl 0 rfl) ?_
    obtain ⟨z21, h⟩ := h
    refine x_ild C hw (hE.1 14) (nM hE (by decide)) z21 rfl (dAt dX7_weaves 11 rfl) ?_
    refine lv_iload_n hx hb (dAt dX7_weaves 12 rfl) rfl (lv_at hl 3 rfl) ?_
    refine lv_icmp_ne (tgt := 83) hx hb (dAt dX7_weaves 13 rfl) (by decide) (fun c23 => ?_) (fun c23 => ?_)
    · replace h := h.1 c23
      exact kX7_weaves_83 hE C hr hlk x1 x2 x3 σ  _ _ _ hw (lv_sub hl [1, 2, 3, 4] rfl) h
    · replace h := h.2 c23
      refine lv_aload_n hx hb (dAt dX7_weaves 14 rfl) rfl (lv_at hl 1 rfl) ?_
      refine x_getr C hw fl_X7_52 (hE.1 0) (nM hE (by decide)) rfl (dAt dX7_weaves 15 rfl) ?_
      refine lv_iload hx hb (dAt dX7_weaves 16 rfl) (lv_at hl 0 rfl) ?_
      obtain ⟨z32, h⟩ := h
      refine x_ild C hw (hE.1 15) (nM hE (by decide)) z32 rfl (dAt dX7_weaves 17 rfl) ?_
      refine lv_iload_n hx hb (dAt dX7_weaves 18 rfl) rfl (lv_at hl 4 rfl) ?_
      refine lv_icmp_ne (tgt := 83) hx hb (dAt dX7_weaves 19 rfl) (by decide) (fun c34 => ?_) (fun c34 => ?_)
      · replace h := h.1 c34
        exact kX7_weaves_83 hE C hr hlk x1 x2 x3 σ  _ _ _ hw (lv_sub hl [1, 2, 3, 4] rfl) h
      · replace h := h.2 c34
        refine lv_aload_n hx hb (dAt dX7_weaves 20 rfl) rfl (lv_at hl 1 rfl) ?_
        refine x_getr C hw fl_X7_55 (hE.1 0) (nM hE (by decide)) rfl (dAt dX7_weaves 21 rfl) ?_
        refine lv_iload hx hb (dAt dX7_weaves 22 rfl) (lv_at hl 0 rfl) ?_
        obtain ⟨z43, h⟩ := h
        refine x_ild C hw (hE.1 16) (nM hE (by decide)) z43 rfl (dAt dX7_weaves 23 rfl) ?_
        refine lv_aload_n hx hb (dAt dX7_weaves 24 rfl) rfl (lv_at hl 1 rfl) ?_
        refine x_getr C hw fl_X7_43 (hE.1 0) (nM hE (by decide)) rfl (dAt dX7_weaves 25 rfl) ?_
        refine lv_iload_n hx hb (dAt dX7_weaves 26 rfl) rfl (lv_at hl 3 rfl) ?_
        obtain ⟨z49, h⟩ := h
        refine x_ild C hw (hE.1 12) (nM hE (by decide)) z49 rfl (dAt dX7_weaves 27 rfl) ?_
        refine lv_icmp_eq (tgt := 83) hx hb (dAt dX7_weaves 28 rfl) (by decide) (fun c50 => ?_) (fun c50 => ?_)
        · replace h := h.1 c50
          exact kX7_weaves_83 hE C hr hlk x1 x2 x3 σ  _ _ _ hw (lv_sub hl [1, 2, 3, 4] rfl) h
        · replace h := h.2 c50
          refine lv_aload_n hx hb (dAt dX7_weaves 29 rfl) rfl (lv_at hl 1 rfl) ?_
          refine lv_dup hx hb (dAt dX7_weaves 30 rfl) rfl ?_
          refine x_geti C hw fl_X7_178 (hE.1 0) (nM hE (by decide)) rfl (dAt dX7_weaves 31 rfl) ?_
          refine lv_iconst (v := 1) hx hb (dAt dX7_weaves 32 rfl) (by decide) ?_
          refine lv_isub hx hb (dAt dX7_weaves 33 rfl) ?_
          refine x_pf C hw fl_X7_178 (hE.1 0) (nM hE (by decide)) rfl rfl rfl (dAt dX7_weaves 34 rfl) (fun σ60 H locs eσ60 hw => ?_)
          replace h := h σ60 eσ60
          refine lv_aload_n hx hb (dAt dX7_weaves 35 rfl) rfl (lv_at hl 1 rfl) ?_
          refine lv_dup hx hb (dAt dX7_weaves 36 rfl) rfl ?_
          refine x_geti C hw fl_X7_181 (hE.1 0) (nM hE (by decide)) rfl (dAt dX7_weaves 37 rfl) ?_
          refine lv_iconst (v := 1) hx hb (dAt dX7_weaves 38 rfl) (by decide) ?_
          refine lv_iadd hx hb (dAt dX7_weaves 39 rfl) ?_
          refine x_pf C hw fl_X7_181 (hE.1 0) (nM hE (by decide)) rfl rfl rfl (dAt dX7_weaves 40 rfl) (fun σ70 H locs eσ70 hw => ?_)
          replace h := h σ70 eσ70
          refine lv_aload_n hx hb (dAt dX7_weaves 41 rfl) rfl (lv_at hl 1 rfl) ?_
          refine lv_iload_n hx hb (dAt dX7_weaves 42 rfl) rfl (lv_at hl 3 rfl) ?_
          refine lv_iload_n hx hb (dAt dX7_weaves 43 rfl) rfl (lv_at hl 4 rfl) ?_
          refine lv_iconst (v := 1) hx hb (dAt dX7_weaves 44 rfl) (by decide) ?_
          refine x_callv C hw (x_runV (As := [.int x2, .int x3, .int (1 : Int32)]) (rest := []) C hw (kX7_takes l E hE x2 x3 (1 : Int32) σ70 _ h) mtX7_takes lk_X7_184 (hE.1 0) (nM hE (by decide)) rfl ⟨by decide, by decide⟩ ⟨rfl, rfl⟩ rfl hl.1 rfl (by decide) (dAt dX7_weaves 45 rfl) ⟨Nat.zero_le _, Nat.zero_le _⟩) (fun σ77 H locs h hw => ?_)
          refine lv_goto (tgt := 173) hx hb (dAt dX7_weaves 46 rfl) (by decide) ?_
          exact x_vret C hw hr hlk h (dAt dX7_weaves 101 rfl)
end
