section
-- ===== PART A: goes FIRST, ahead of the names: the tables' words, and 'selects' of the private methods out of them =====
/-- a private method of a class that the tables say can be made, by its rows of tables_1 -/
def lw_okq (q : MethodName × Nat) : Prop := (q.1.cls ≠ "java/lang/invoke/MethodHandle" ∧ q.1.cls ≠ "java/lang/invoke/VarHandle") ∧ Cond.instantiable q.1.cls q.2 ∈ tables_1 ∧ Cond.privateMethod q.1 ∈ tables_1 ∧ Cond.instanceMethod q.1 ∈ tables_1
theorem lw_p0 : lw_okq (⟨"ClockZones$Reader", "putBytes", "(I)V"⟩, 10) := ⟨⟨by decide +kernel, by decide +kernel⟩, List.mem_of_getElem? (i := 28) (by decide +kernel), List.mem_of_getElem? (i := 396) (by decide +kernel), List.mem_of_getElem? (i := 397) (by decide +kernel)⟩
theorem lw_p1 : lw_okq (⟨"ClockZones$Reader", "readText", "(I)Z"⟩, 10) := ⟨⟨by decide +kernel, by decide +kernel⟩, List.mem_of_getElem? (i := 28) (by decide +kernel), List.mem_of_getElem? (i := 404) (by decide +kernel), List.mem_of_getElem? (i := 405) (by decide +kernel)⟩
theorem lw_p2 : lw_okq (⟨"ClockZones$Plan", "clear", "()V"⟩, 18) := ⟨⟨by decide +kernel, by decide +kernel⟩, List.mem_of_getElem? (i := 34) (by decide +kernel), List.mem_of_getElem? (i := 408) (by decide +kernel), List.mem_of_getElem? (i := 409) (by decide +kernel)⟩
theorem lw_p3 : lw_okq (⟨"ClockZones$Reader", "advance", "()V"⟩, 10) := ⟨⟨by decide +kernel, by decide +kernel⟩, List.mem_of_getElem? (i := 28) (by decide +kernel), List.mem_of_getElem? (i := 416) (by decide +kernel), List.mem_of_getElem? (i := 417) (by decide +kernel)⟩
theorem lw_p4 : lw_okq (⟨"ClockZones$Reader", "readWord", "()V"⟩, 10) := ⟨⟨by decide +kernel, by decide +kernel⟩, List.mem_of_getElem? (i := 28) (by decide +kernel), List.mem_of_getElem? (i := 420) (by decide +kernel), List.mem_of_getElem? (i := 421) (by decide +kernel)⟩
theorem lw_p5 : lw_okq (⟨"ClockZones$Reader", "readDigits", "()V"⟩, 10) := ⟨⟨by decide +kernel, by decide +kernel⟩, List.mem_of_getElem? (i := 28) (by decide +kernel), List.mem_of_getElem? (i := 429) (by decide +kernel), List.mem_of_getElem? (i := 430) (by decide +kernel)⟩
theorem lw_p6 : lw_okq (⟨"ClockZones$Reader", "readSign", "()V"⟩, 10) := ⟨⟨by decide +kernel, by decide +kernel⟩, List.mem_of_getElem? (i := 28) (by decide +kernel), List.mem_of_getElem? (i := 433) (by decide +kernel), List.mem_of_getElem? (i := 434) (by decide +kernel)⟩
theorem lw_p7 : lw_okq (⟨"ClockZones$Reader", "readLine", "()Z"⟩, 10) := ⟨⟨by decide +kernel, by decide +kernel⟩, List.mem_of_getElem? (i := 28) (by decide +kernel), List.mem_of_getElem? (i := 437) (by decide +kernel), List.mem_of_getElem? (i := 438) (by decide +kernel)⟩
theorem lw_p8 : lw_okq (⟨"ClockZones$Reader", "readClock", "()Z"⟩, 10) := ⟨⟨by decide +kernel, by decide +kernel⟩, List.mem_of_getElem? (i := 28) (by decide +kernel), List.mem_of_getElem? (i := 441) (by decide +kernel), List.mem_of_getElem? (i := 442) (by decide +kernel)⟩
theorem lw_p9 : lw_okq (⟨"ClockZones$Reader", "fail", "(I)Z"⟩, 10) := ⟨⟨by decide +kernel, by decide +kernel⟩, List.mem_of_getElem? (i := 28) (by decide +kernel), List.mem_of_getElem? (i := 445) (by decide +kernel), List.mem_of_getElem? (i := 446) (by decide +kernel)⟩
theorem lw_p10 : lw_okq (⟨"ClockZones$Plan", "clockNamed", "(I)I"⟩, 18) := ⟨⟨by decide +kernel, by decide +kernel⟩, List.mem_of_getElem? (i := 34) (by decide +kernel), List.mem_of_getElem? (i := 449) (by decide +kernel), List.mem_of_getElem? (i := 450) (by decide +kernel)⟩
theorem lw_p11 : lw_okq (⟨"ClockZones$Reader", "endLine", "()Z"⟩, 10) := ⟨⟨by decide +kernel, by decide +kernel⟩, List.mem_of_getElem? (i := 28) (by decide +kernel), List.mem_of_getElem? (i := 456) (by decide +kernel), List.mem_of_getElem? (i := 457) (by decide +kernel)⟩
theorem lw_p12 : lw_okq (⟨"ClockZones$Reader", "readPlace", "()Z"⟩, 10) := ⟨⟨by decide +kernel, by decide +kernel⟩, List.mem_of_getElem? (i := 28) (by decide +kernel), List.mem_of_getElem? (i := 460) (by decide +kernel), List.mem_of_getElem? (i := 461) (by decide +kernel)⟩
theorem lw_p13 : lw_okq (⟨"ClockZones$Plan", "placeNamed", "(I)I"⟩, 18) := ⟨⟨by decide +kernel, by decide +kernel⟩, List.mem_of_getElem? (i := 34) (by decide +kernel), List.mem_of_getElem? (i := 464) (by decide +kernel), List.mem_of_getElem? (i := 465) (by decide +kernel)⟩
theorem lw_p14 : lw_okq (⟨"ClockZones$Reader", "readWhens", "(I)Z"⟩, 10) := ⟨⟨by decide +kernel, by decide +kernel⟩, List.mem_of_getElem? (i := 28) (by decide +kernel), List.mem_of_getElem? (i := 471) (by decide +kernel), List.mem_of_getElem? (i := 472) (by decide +kernel)⟩
theorem lw_p15 : lw_okq (⟨"ClockZones$Reader", "clockHere", "()I"⟩, 10) := ⟨⟨by decide +kernel, by decide +kernel⟩, List.mem_of_getElem? (i := 28) (by decide +kernel), List.mem_of_getElem? (i := 475) (by decide +kernel), List.mem_of_getElem? (i := 476) (by decide +kernel)⟩
def lw_privs_1 : List (MethodName × Nat) := [(⟨"ClockZones$Reader", "putBytes", "(I)V"⟩, 10), (⟨"ClockZones$Reader", "readText", "(I)Z"⟩, 10), (⟨"ClockZones$Plan", "clear", "()V"⟩, 18), (⟨"ClockZones$Reader", "advance", "()V"⟩, 10), (⟨"ClockZones$Reader", "readWord", "()V"⟩, 10), (⟨"ClockZones$Reader", "readDigits", "()V"⟩, 10), (⟨"ClockZones$Reader", "readSign", "()V"⟩, 10), (⟨"ClockZones$Reader", "readLine", "()Z"⟩, 10), (⟨"ClockZones$Reader", "readClock", "()Z"⟩, 10), (⟨"ClockZones$Reader", "fail", "(I)Z"⟩, 10), (⟨"ClockZones$Plan", "clockNamed", "(I)I"⟩, 18), (⟨"ClockZones$Reader", "endLine", "()Z"⟩, 10), (⟨"ClockZones$Reader", "readPlace", "()Z"⟩, 10), (⟨"ClockZones$Plan", "placeNamed", "(I)I"⟩, 18), (⟨"ClockZones$Reader", "readWhens", "(I)Z"⟩, 10), (⟨"ClockZones$Reader", "clockHere", "()I"⟩, 10)]
theorem lw_r1 : ∀ q ∈ lw_privs_1, lw_okq q := List.forall_mem_cons.mpr ⟨lw_p0, List.forall_mem_cons.mpr ⟨lw_p1, List.forall_mem_cons.mpr ⟨lw_p2, List.forall_mem_cons.mpr ⟨lw_p3, List.forall_mem_cons.mpr ⟨lw_p4, List.forall_mem_cons.mpr ⟨lw_p5, List.forall_mem_cons.mpr ⟨lw_p6, List.forall_mem_cons.mpr ⟨lw_p7, List.forall_mem_cons.mpr ⟨lw_p8, List.forall_mem_cons.mpr ⟨lw_p9, List.forall_mem_cons.mpr ⟨lw_p10, List.forall_mem_cons.mpr ⟨lw_p11, List.forall_mem_cons.mpr ⟨lw_p12, List.forall_mem_cons.mpr ⟨lw_p13, List.forall_mem_cons.mpr ⟨lw_p14, List.forall_mem_cons.mpr ⟨lw_p15, fun _ h => absurd h List.not_mem_nil⟩⟩⟩⟩⟩⟩⟩⟩⟩⟩⟩⟩⟩⟩⟩⟩
theorem lw_p16 : lw_okq (⟨"ClockZones$Reader", "numberHere", "()Z"⟩, 10) := ⟨⟨by decide +kernel, by decide +kernel⟩, List.mem_of_getElem? (i := 28) (by decide +kernel), List.mem_of_getElem? (i := 479) (by decide +kernel), List.mem_of_getElem? (i := 480) (by decide +kernel)⟩
theorem lw_p17 : lw_okq (⟨"ClockZones$Plan", "addRule", "(IIII)V"⟩, 18) := ⟨⟨by decide +kernel, by decide +kernel⟩, List.mem_of_getElem? (i := 34) (by decide +kernel), List.mem_of_getElem? (i := 483) (by decide +kernel), List.mem_of_getElem? (i := 484) (by decide +kernel)⟩
theorem lw_p18 : lw_okq (⟨"ClockZones$Reader", "readEdge", "()Z"⟩, 10) := ⟨⟨by decide +kernel, by decide +kernel⟩, List.mem_of_getElem? (i := 28) (by decide +kernel), List.mem_of_getElem? (i := 490) (by decide +kernel), List.mem_of_getElem? (i := 491) (by decide +kernel)⟩
theorem lw_p19 : lw_okq (⟨"ClockZones$Reader", "placeHere", "()I"⟩, 10) := ⟨⟨by decide +kernel, by decide +kernel⟩, List.mem_of_getElem? (i := 28) (by decide +kernel), List.mem_of_getElem? (i := 494) (by decide +kernel), List.mem_of_getElem? (i := 495) (by decide +kernel)⟩
theorem lw_p20 : lw_okq (⟨"ClockZones$Reader", "readSets", "(I)Z"⟩, 10) := ⟨⟨by decide +kernel, by decide +kernel⟩, List.mem_of_getElem? (i := 28) (by decide +kernel), List.mem_of_getElem? (i := 501) (by decide +kernel), List.mem_of_getElem? (i := 502) (by decide +kernel)⟩
theorem lw_p21 : lw_okq (⟨"ClockZones$Plan", "numberSet", "(II)I"⟩, 18) := ⟨⟨by decide +kernel, by decide +kernel⟩, List.mem_of_getElem? (i := 34) (by decide +kernel), List.mem_of_getElem? (i := 505) (by decide +kernel), List.mem_of_getElem? (i := 506) (by decide +kernel)⟩
theorem lw_p22 : lw_okq (⟨"ClockZones$Plan", "addSet", "(III)V"⟩, 18) := ⟨⟨by decide +kernel, by decide +kernel⟩, List.mem_of_getElem? (i := 34) (by decide +kernel), List.mem_of_getElem? (i := 509) (by decide +kernel), List.mem_of_getElem? (i := 510) (by decide +kernel)⟩
theorem lw_p23 : lw_okq (⟨"ClockZones$Reader", "readStart", "()Z"⟩, 10) := ⟨⟨by decide +kernel, by decide +kernel⟩, List.mem_of_getElem? (i := 28) (by decide +kernel), List.mem_of_getElem? (i := 513) (by decide +kernel), List.mem_of_getElem? (i := 514) (by decide +kernel)⟩
theorem lw_p24 : lw_okq (⟨"ClockZones", "beginAnew", "()V"⟩, 11) := ⟨⟨by decide +kernel, by decide +kernel⟩, List.mem_of_getElem? (i := 20) (by decide +kernel), List.mem_of_getElem? (i := 517) (by decide +kernel), List.mem_of_getElem? (i := 518) (by decide +kernel)⟩
theorem lw_p25 : lw_okq (⟨"ClockZones$Zone", "layZero", "(I)V"⟩, 3) := ⟨⟨by decide +kernel, by decide +kernel⟩, List.mem_of_getElem? (i := 190) (by decide +kernel), List.mem_of_getElem? (i := 521) (by decide +kernel), List.mem_of_getElem? (i := 522) (by decide +kernel)⟩
theorem lw_p26 : lw_okq (⟨"ClockZones$History", "forgetAll", "()V"⟩, 6) := ⟨⟨by decide +kernel, by decide +kernel⟩, List.mem_of_getElem? (i := 328) (by decide +kernel), List.mem_of_getElem? (i := 525) (by decide +kernel), List.mem_of_getElem? (i := 526) (by decide +kernel)⟩
theorem lw_p27 : lw_okq (⟨"ClockZones$Graph", "build", "(LClockZones$Plan;)V"⟩, 10) := ⟨⟨by decide +kernel, by decide +kernel⟩, List.mem_of_getElem? (i := 213) (by decide +kernel), List.mem_of_getElem? (i := 529) (by decide +kernel), List.mem_of_getElem? (i := 530) (by decide +kernel)⟩
theorem lw_p28 : lw_okq (⟨"ClockZones$Zone", "waitIn", "(LClockZones$Plan;I)V"⟩, 3) := ⟨⟨by decide +kernel, by decide +kernel⟩, List.mem_of_getElem? (i := 190) (by decide +kernel), List.mem_of_getElem? (i := 534) (by decide +kernel), List.mem_of_getElem? (i := 535) (by decide +kernel)⟩
theorem lw_p29 : lw_okq (⟨"ClockZones$Zone", "keepRules", "(LClockZones$Plan;I)V"⟩, 3) := ⟨⟨by decide +kernel, by decide +kernel⟩, List.mem_of_getElem? (i := 190) (by decide +kernel), List.mem_of_getElem? (i := 539) (by decide +kernel), List.mem_of_getElem? (i := 540) (by decide +kernel)⟩
theorem lw_p30 : lw_okq (⟨"ClockZones$Zone", "tighten", "(III)V"⟩, 3) := ⟨⟨by decide +kernel, by decide +kernel⟩, List.mem_of_getElem? (i := 190) (by decide +kernel), List.mem_of_getElem? (i := 553) (by decide +kernel), List.mem_of_getElem? (i := 554) (by decide +kernel)⟩
theorem lw_p31 : lw_okq (⟨"ClockZones$Zone", "cell", "(II)I"⟩, 3) := ⟨⟨by decide +kernel, by decide +kernel⟩, List.mem_of_getElem? (i := 190) (by decide +kernel), List.mem_of_getElem? (i := 557) (by decide +kernel), List.mem_of_getElem? (i := 558) (by decide +kernel)⟩
def lw_privs_2 : List (MethodName × Nat) := [(⟨"ClockZones$Reader", "numberHere", "()Z"⟩, 10), (⟨"ClockZones$Plan", "addRule", "(IIII)V"⟩, 18), (⟨"ClockZones$Reader", "readEdge", "()Z"⟩, 10), (⟨"ClockZones$Reader", "placeHere", "()I"⟩, 10), (⟨"ClockZones$Reader", "readSets", "(I)Z"⟩, 10), (⟨"ClockZones$Plan", "numberSet", "(II)I"⟩, 18), (⟨"ClockZones$Plan", "addSet", "(III)V"⟩, 18), (⟨"ClockZones$Reader", "readStart", "()Z"⟩, 10), (⟨"ClockZones", "beginAnew", "()V"⟩, 11), (⟨"ClockZones$Zone", "layZero", "(I)V"⟩, 3), (⟨"ClockZones$History", "forgetAll", "()V"⟩, 6), (⟨"ClockZones$Graph", "build", "(LClockZones$Plan;)V"⟩, 10), (⟨"ClockZones$Zone", "waitIn", "(LClockZones$Plan;I)V"⟩, 3), (⟨"ClockZones$Zone", "keepRules", "(LClockZones$Plan;I)V"⟩, 3), (⟨"ClockZones$Zone", "tighten", "(III)V"⟩, 3), (⟨"ClockZones$Zone", "cell", "(II)I"⟩, 3)]
theorem lw_r2 : ∀ q ∈ lw_privs_2, lw_okq q := List.forall_mem_cons.mpr ⟨lw_p16, List.forall_mem_cons.mpr ⟨lw_p17, List.forall_mem_cons.mpr ⟨lw_p18, List.forall_mem_cons.mpr ⟨lw_p19, List.forall_mem_cons.mpr ⟨lw_p20, List.forall_mem_cons.mpr ⟨lw_p21, List.forall_mem_cons.mpr ⟨lw_p22, List.forall_mem_cons.mpr ⟨lw_p23, List.forall_mem_cons.mpr ⟨lw_p24, List.forall_mem_cons.mpr ⟨lw_p25, List.forall_mem_cons.mpr ⟨lw_p26, List.forall_mem_cons.mpr ⟨lw_p27, List.forall_mem_cons.mpr ⟨lw_p28, List.forall_mem_cons.mpr ⟨lw_p29, List.forall_mem_cons.mpr ⟨lw_p30, List.forall_mem_cons.mpr ⟨lw_p31, fun _ h => absurd h List.not_mem_nil⟩⟩⟩⟩⟩⟩⟩⟩⟩⟩⟩⟩⟩⟩⟩⟩
theorem lw_p32 : lw_okq (⟨"ClockZones$Zone", "put", "(III)V"⟩, 3) := ⟨⟨by decide +kernel, by decide +kernel⟩, List.mem_of_getElem? (i := 190) (by decide +kernel), List.mem_of_getElem? (i := 566) (by decide +kernel), List.mem_of_getElem? (i := 567) (by decide +kernel)⟩
theorem lw_p33 : lw_okq (⟨"ClockZones$Zone", "goUp", "()V"⟩, 3) := ⟨⟨by decide +kernel, by decide +kernel⟩, List.mem_of_getElem? (i := 190) (by decide +kernel), List.mem_of_getElem? (i := 573) (by decide +kernel), List.mem_of_getElem? (i := 574) (by decide +kernel)⟩
theorem lw_p34 : lw_okq (⟨"ClockZones$Zone", "roughen", "(LClockZones$Plan;)V"⟩, 3) := ⟨⟨by decide +kernel, by decide +kernel⟩, List.mem_of_getElem? (i := 190) (by decide +kernel), List.mem_of_getElem? (i := 577) (by decide +kernel), List.mem_of_getElem? (i := 578) (by decide +kernel)⟩
theorem lw_p35 : lw_okq (⟨"ClockZones$Zone", "close", "()V"⟩, 3) := ⟨⟨by decide +kernel, by decide +kernel⟩, List.mem_of_getElem? (i := 190) (by decide +kernel), List.mem_of_getElem? (i := 591) (by decide +kernel), List.mem_of_getElem? (i := 592) (by decide +kernel)⟩
theorem lw_p36 : lw_okq (⟨"ClockZones$Graph", "append", "(IIII)V"⟩, 10) := ⟨⟨by decide +kernel, by decide +kernel⟩, List.mem_of_getElem? (i := 213) (by decide +kernel), List.mem_of_getElem? (i := 599) (by decide +kernel), List.mem_of_getElem? (i := 600) (by decide +kernel)⟩
theorem lw_p37 : lw_okq (⟨"ClockZones$Zone", "become", "(LClockZones$Zone;)V"⟩, 3) := ⟨⟨by decide +kernel, by decide +kernel⟩, List.mem_of_getElem? (i := 190) (by decide +kernel), List.mem_of_getElem? (i := 603) (by decide +kernel), List.mem_of_getElem? (i := 604) (by decide +kernel)⟩
theorem lw_p38 : lw_okq (⟨"ClockZones$Graph", "grow", "(LClockZones$Plan;II)V"⟩, 10) := ⟨⟨by decide +kernel, by decide +kernel⟩, List.mem_of_getElem? (i := 213) (by decide +kernel), List.mem_of_getElem? (i := 610) (by decide +kernel), List.mem_of_getElem? (i := 611) (by decide +kernel)⟩
theorem lw_p39 : lw_okq (⟨"ClockZones$Zone", "stepBy", "(LClockZones$Plan;I)V"⟩, 3) := ⟨⟨by decide +kernel, by decide +kernel⟩, List.mem_of_getElem? (i := 190) (by decide +kernel), List.mem_of_getElem? (i := 614) (by decide +kernel), List.mem_of_getElem? (i := 615) (by decide +kernel)⟩
theorem lw_p40 : lw_okq (⟨"ClockZones$Zone", "applySets", "(LClockZones$Plan;I)V"⟩, 3) := ⟨⟨by decide +kernel, by decide +kernel⟩, List.mem_of_getElem? (i := 190) (by decide +kernel), List.mem_of_getElem? (i := 619) (by decide +kernel), List.mem_of_getElem? (i := 620) (by decide +kernel)⟩
theorem lw_p41 : lw_okq (⟨"ClockZones$Zone", "assign", "(II)V"⟩, 3) := ⟨⟨by decide +kernel, by decide +kernel⟩, List.mem_of_getElem? (i := 190) (by decide +kernel), List.mem_of_getElem? (i := 623) (by decide +kernel), List.mem_of_getElem? (i := 624) (by decide +kernel)⟩
theorem lw_p42 : lw_okq (⟨"ClockZones$Graph", "isCovered", "(I)Z"⟩, 10) := ⟨⟨by decide +kernel, by decide +kernel⟩, List.mem_of_getElem? (i := 213) (by decide +kernel), List.mem_of_getElem? (i := 628) (by decide +kernel), List.mem_of_getElem? (i := 629) (by decide +kernel)⟩
theorem lw_p43 : lw_okq (⟨"ClockZones$Zone", "covers", "(LClockZones$Zone;)Z"⟩, 3) := ⟨⟨by decide +kernel, by decide +kernel⟩, List.mem_of_getElem? (i := 190) (by decide +kernel), List.mem_of_getElem? (i := 632) (by decide +kernel), List.mem_of_getElem? (i := 633) (by decide +kernel)⟩
theorem lw_p44 : lw_okq (⟨"ClockZones", "isEdge", "(I)Z"⟩, 11) := ⟨⟨by decide +kernel, by decide +kernel⟩, List.mem_of_getElem? (i := 20) (by decide +kernel), List.mem_of_getElem? (i := 644) (by decide +kernel), List.mem_of_getElem? (i := 645) (by decide +kernel)⟩
theorem lw_p45 : lw_okq (⟨"ClockZones", "isClock", "(I)Z"⟩, 11) := ⟨⟨by decide +kernel, by decide +kernel⟩, List.mem_of_getElem? (i := 20) (by decide +kernel), List.mem_of_getElem? (i := 657) (by decide +kernel), List.mem_of_getElem? (i := 658) (by decide +kernel)⟩
theorem lw_p46 : lw_okq (⟨"ClockZones$Zone", "layAll", "(I)V"⟩, 3) := ⟨⟨by decide +kernel, by decide +kernel⟩, List.mem_of_getElem? (i := 190) (by decide +kernel), List.mem_of_getElem? (i := 668) (by decide +kernel), List.mem_of_getElem? (i := 669) (by decide +kernel)⟩
theorem lw_p47 : lw_okq (⟨"ClockZones$Zone", "release", "(I)V"⟩, 3) := ⟨⟨by decide +kernel, by decide +kernel⟩, List.mem_of_getElem? (i := 190) (by decide +kernel), List.mem_of_getElem? (i := 673) (by decide +kernel), List.mem_of_getElem? (i := 674) (by decide +kernel)⟩
def lw_privs_3 : List (MethodName × Nat) := [(⟨"ClockZones$Zone", "put", "(III)V"⟩, 3), (⟨"ClockZones$Zone", "goUp", "()V"⟩, 3), (⟨"ClockZones$Zone", "roughen", "(LClockZones$Plan;)V"⟩, 3), (⟨"ClockZones$Zone", "close", "()V"⟩, 3), (⟨"ClockZones$Graph", "append", "(IIII)V"⟩, 10), (⟨"ClockZones$Zone", "become", "(LClockZones$Zone;)V"⟩, 3), (⟨"ClockZones$Graph", "grow", "(LClockZones$Plan;II)V"⟩, 10), (⟨"ClockZones$Zone", "stepBy", "(LClockZones$Plan;I)V"⟩, 3), (⟨"ClockZones$Zone", "applySets", "(LClockZones$Plan;I)V"⟩, 3), (⟨"ClockZones$Zone", "assign", "(II)V"⟩, 3), (⟨"ClockZones$Graph", "isCovered", "(I)Z"⟩, 10), (⟨"ClockZones$Zone", "covers", "(LClockZones$Zone;)Z"⟩, 3), (⟨"ClockZones", "isEdge", "(I)Z"⟩, 11), (⟨"ClockZones", "isClock", "(I)Z"⟩, 11), (⟨"ClockZones$Zone", "layAll", "(I)V"⟩, 3), (⟨"ClockZones$Zone", "release", "(I)V"⟩, 3)]
theorem lw_r3 : ∀ q ∈ lw_privs_3, lw_okq q := List.forall_mem_cons.mpr ⟨lw_p32, List.forall_mem_cons.mpr ⟨lw_p33, List.forall_mem_cons.mpr ⟨lw_p34, List.forall_mem_cons.mpr ⟨lw_p35, List.forall_mem_cons.mpr ⟨lw_p36, List.forall_mem_cons.mpr ⟨lw_p37, List.forall_mem_cons.mpr ⟨lw_p38, List.forall_mem_cons.mpr ⟨lw_p39, List.forall_mem_cons.mpr ⟨lw_p40, List.forall_mem_cons.mpr ⟨lw_p41, List.forall_mem_cons.mpr ⟨lw_p42, List.forall_mem_cons.mpr ⟨lw_p43, List.forall_mem_cons.mpr ⟨lw_p44, List.forall_mem_cons.mpr ⟨lw_p45, List.forall_mem_cons.mpr ⟨lw_p46, List.forall_mem_cons.mpr ⟨lw_p47, fun _ h => absurd h List.not_mem_nil⟩⟩⟩⟩⟩⟩⟩⟩⟩⟩⟩⟩⟩⟩⟩⟩
theorem lw_p48 : lw_okq (⟨"ClockZones$Zone", "layNothing", "(I)V"⟩, 3) := ⟨⟨by decide +kernel, by decide +kernel⟩, List.mem_of_getElem? (i := 190) (by decide +kernel), List.mem_of_getElem? (i := 677) (by decide +kernel), List.mem_of_getElem? (i := 678) (by decide +kernel)⟩
theorem lw_p49 : lw_okq (⟨"ClockZones", "settle", "(I)I"⟩, 11) := ⟨⟨by decide +kernel, by decide +kernel⟩, List.mem_of_getElem? (i := 20) (by decide +kernel), List.mem_of_getElem? (i := 681) (by decide +kernel), List.mem_of_getElem? (i := 682) (by decide +kernel)⟩
theorem lw_p50 : lw_okq (⟨"ClockZones$Zone", "goesBeyond", "(I)Z"⟩, 3) := ⟨⟨by decide +kernel, by decide +kernel⟩, List.mem_of_getElem? (i := 190) (by decide +kernel), List.mem_of_getElem? (i := 685) (by decide +kernel), List.mem_of_getElem? (i := 686) (by decide +kernel)⟩
theorem lw_p51 : lw_okq (⟨"ClockZones$History", "keepTable", "(ILClockZones$Zone;)V"⟩, 6) := ⟨⟨by decide +kernel, by decide +kernel⟩, List.mem_of_getElem? (i := 328) (by decide +kernel), List.mem_of_getElem? (i := 692) (by decide +kernel), List.mem_of_getElem? (i := 693) (by decide +kernel)⟩
theorem lw_p52 : lw_okq (⟨"ClockZones$History", "goOn", "()V"⟩, 6) := ⟨⟨by decide +kernel, by decide +kernel⟩, List.mem_of_getElem? (i := 328) (by decide +kernel), List.mem_of_getElem? (i := 697) (by decide +kernel), List.mem_of_getElem? (i := 698) (by decide +kernel)⟩
theorem lw_p53 : lw_okq (⟨"ClockZones", "isPair", "(II)Z"⟩, 11) := ⟨⟨by decide +kernel, by decide +kernel⟩, List.mem_of_getElem? (i := 20) (by decide +kernel), List.mem_of_getElem? (i := 707) (by decide +kernel), List.mem_of_getElem? (i := 708) (by decide +kernel)⟩
theorem lw_p54 : lw_okq (⟨"ClockZones$Zone", "relate", "(IIII)V"⟩, 3) := ⟨⟨by decide +kernel, by decide +kernel⟩, List.mem_of_getElem? (i := 190) (by decide +kernel), List.mem_of_getElem? (i := 711) (by decide +kernel), List.mem_of_getElem? (i := 712) (by decide +kernel)⟩
theorem lw_p55 : lw_okq (⟨"ClockZones$Zone", "goDown", "()V"⟩, 3) := ⟨⟨by decide +kernel, by decide +kernel⟩, List.mem_of_getElem? (i := 190) (by decide +kernel), List.mem_of_getElem? (i := 720) (by decide +kernel), List.mem_of_getElem? (i := 721) (by decide +kernel)⟩
theorem lw_p56 : lw_okq (⟨"ClockZones$Zone", "widenTo", "(LClockZones$Zone;)V"⟩, 3) := ⟨⟨by decide +kernel, by decide +kernel⟩, List.mem_of_getElem? (i := 190) (by decide +kernel), List.mem_of_getElem? (i := 742) (by decide +kernel), List.mem_of_getElem? (i := 743) (by decide +kernel)⟩
theorem lw_p57 : lw_okq (⟨"ClockZones$Zone", "narrowTo", "(LClockZones$Zone;)V"⟩, 3) := ⟨⟨by decide +kernel, by decide +kernel⟩, List.mem_of_getElem? (i := 190) (by decide +kernel), List.mem_of_getElem? (i := 752) (by decide +kernel), List.mem_of_getElem? (i := 753) (by decide +kernel)⟩
theorem lw_p58 : lw_okq (⟨"ClockZones", "isPlace", "(I)Z"⟩, 11) := ⟨⟨by decide +kernel, by decide +kernel⟩, List.mem_of_getElem? (i := 20) (by decide +kernel), List.mem_of_getElem? (i := 765) (by decide +kernel), List.mem_of_getElem? (i := 766) (by decide +kernel)⟩
theorem lw_p59 : lw_okq (⟨"ClockZones", "isNode", "(I)Z"⟩, 11) := ⟨⟨by decide +kernel, by decide +kernel⟩, List.mem_of_getElem? (i := 20) (by decide +kernel), List.mem_of_getElem? (i := 779) (by decide +kernel), List.mem_of_getElem? (i := 780) (by decide +kernel)⟩
theorem lw_p60 : lw_okq (⟨"ClockZones$Zone", "stepBackBy", "(LClockZones$Plan;I)V"⟩, 3) := ⟨⟨by decide +kernel, by decide +kernel⟩, List.mem_of_getElem? (i := 190) (by decide +kernel), List.mem_of_getElem? (i := 787) (by decide +kernel), List.mem_of_getElem? (i := 788) (by decide +kernel)⟩
theorem lw_p61 : lw_okq (⟨"ClockZones$History", "dropLatest", "()I"⟩, 6) := ⟨⟨by decide +kernel, by decide +kernel⟩, List.mem_of_getElem? (i := 328) (by decide +kernel), List.mem_of_getElem? (i := 796) (by decide +kernel), List.mem_of_getElem? (i := 797) (by decide +kernel)⟩
theorem lw_p62 : lw_okq (⟨"ClockZones$History", "restorePath", "(ILClockZones$Path;)V"⟩, 6) := ⟨⟨by decide +kernel, by decide +kernel⟩, List.mem_of_getElem? (i := 328) (by decide +kernel), List.mem_of_getElem? (i := 800) (by decide +kernel), List.mem_of_getElem? (i := 801) (by decide +kernel)⟩
theorem lw_p63 : lw_okq (⟨"ClockZones", "boundOf", "(LClockZones$Zone;III)I"⟩, 11) := ⟨⟨by decide +kernel, by decide +kernel⟩, List.mem_of_getElem? (i := 20) (by decide +kernel), List.mem_of_getElem? (i := 809) (by decide +kernel), List.mem_of_getElem? (i := 810) (by decide +kernel)⟩
def lw_privs_4 : List (MethodName × Nat) := [(⟨"ClockZones$Zone", "layNothing", "(I)V"⟩, 3), (⟨"ClockZones", "settle", "(I)I"⟩, 11), (⟨"ClockZones$Zone", "goesBeyond", "(I)Z"⟩, 3), (⟨"ClockZones$History", "keepTable", "(ILClockZones$Zone;)V"⟩, 6), (⟨"ClockZones$History", "goOn", "()V"⟩, 6), (⟨"ClockZones", "isPair", "(II)Z"⟩, 11), (⟨"ClockZones$Zone", "relate", "(IIII)V"⟩, 3), (⟨"ClockZones$Zone", "goDown", "()V"⟩, 3), (⟨"ClockZones$Zone", "widenTo", "(LClockZones$Zone;)V"⟩, 3), (⟨"ClockZones$Zone", "narrowTo", "(LClockZones$Zone;)V"⟩, 3), (⟨"ClockZones", "isPlace", "(I)Z"⟩, 11), (⟨"ClockZones", "isNode", "(I)Z"⟩, 11), (⟨"ClockZones$Zone", "stepBackBy", "(LClockZones$Plan;I)V"⟩, 3), (⟨"ClockZones$History", "dropLatest", "()I"⟩, 6), (⟨"ClockZones$History", "restorePath", "(ILClockZones$Path;)V"⟩, 6), (⟨"ClockZones", "boundOf", "(LClockZones$Zone;III)I"⟩, 11)]
theorem lw_r4 : ∀ q ∈ lw_privs_4, lw_okq q := List.forall_mem_cons.mpr ⟨lw_p48, List.forall_mem_cons.mpr ⟨lw_p49, List.forall_mem_cons.mpr ⟨lw_p50, List.forall_mem_cons.mpr ⟨lw_p51, List.forall_mem_cons.mpr ⟨lw_p52, List.forall_mem_cons.mpr ⟨lw_p53, List.forall_mem_cons.mpr ⟨lw_p54, List.forall_mem_cons.mpr ⟨lw_p55, List.forall_mem_cons.mpr ⟨lw_p56, List.forall_mem_cons.mpr ⟨lw_p57, List.forall_mem_cons.mpr ⟨lw_p58, List.forall_mem_cons.mpr ⟨lw_p59, List.forall_mem_cons.mpr ⟨lw_p60, List.forall_mem_cons.mpr ⟨lw_p61, List.forall_mem_cons.mpr ⟨lw_p62, List.forall_mem_cons.mpr ⟨lw_p63, fun _ h => absurd h List.not_mem_nil⟩⟩⟩⟩⟩⟩⟩⟩⟩⟩⟩⟩⟩⟩⟩⟩
theorem lw_p64 : lw_okq (⟨"ClockZones$Zone", "holdsHalves", "([I)Z"⟩, 3) := ⟨⟨by decide +kernel, by decide +kernel⟩, List.mem_of_getElem? (i := 190) (by decide +kernel), List.mem_of_getElem? (i := 834) (by decide +kernel), List.mem_of_getElem? (i := 835) (by decide +kernel)⟩
theorem lw_p65 : lw_okq (⟨"ClockZones$Zone", "countsAsPair", "(III)Z"⟩, 3) := ⟨⟨by decide +kernel, by decide +kernel⟩, List.mem_of_getElem? (i := 190) (by decide +kernel), List.mem_of_getElem? (i := 842) (by decide +kernel), List.mem_of_getElem? (i := 843) (by decide +kernel)⟩
theorem lw_p66 : lw_okq (⟨"ClockZones$Zone", "followsFromOthers", "(II)Z"⟩, 3) := ⟨⟨by decide +kernel, by decide +kernel⟩, List.mem_of_getElem? (i := 190) (by decide +kernel), List.mem_of_getElem? (i := 847) (by decide +kernel), List.mem_of_getElem? (i := 848) (by decide +kernel)⟩
theorem lw_p67 : lw_okq (⟨"ClockZones$Zone", "keepWhole", "()V"⟩, 3) := ⟨⟨by decide +kernel, by decide +kernel⟩, List.mem_of_getElem? (i := 190) (by decide +kernel), List.mem_of_getElem? (i := 856) (by decide +kernel), List.mem_of_getElem? (i := 857) (by decide +kernel)⟩
theorem lw_p68 : lw_okq (⟨"ClockZones$Zone", "leastOf", "(I)I"⟩, 3) := ⟨⟨by decide +kernel, by decide +kernel⟩, List.mem_of_getElem? (i := 190) (by decide +kernel), List.mem_of_getElem? (i := 872) (by decide +kernel), List.mem_of_getElem? (i := 873) (by decide +kernel)⟩
theorem lw_p69 : lw_okq (⟨"ClockZones$Zone", "becomeTimed", "(LClockZones$Zone;)V"⟩, 3) := ⟨⟨by decide +kernel, by decide +kernel⟩, List.mem_of_getElem? (i := 190) (by decide +kernel), List.mem_of_getElem? (i := 888) (by decide +kernel), List.mem_of_getElem? (i := 889) (by decide +kernel)⟩
theorem lw_p70 : lw_okq (⟨"ClockZones$Graph", "findWay", "(I)I"⟩, 10) := ⟨⟨by decide +kernel, by decide +kernel⟩, List.mem_of_getElem? (i := 213) (by decide +kernel), List.mem_of_getElem? (i := 917) (by decide +kernel), List.mem_of_getElem? (i := 918) (by decide +kernel)⟩
theorem lw_p71 : lw_okq (⟨"ClockZones$Graph", "openEdges", "(LClockZones$Plan;I)I"⟩, 10) := ⟨⟨by decide +kernel, by decide +kernel⟩, List.mem_of_getElem? (i := 213) (by decide +kernel), List.mem_of_getElem? (i := 925) (by decide +kernel), List.mem_of_getElem? (i := 926) (by decide +kernel)⟩
theorem lw_p72 : lw_okq (⟨"ClockZones$Plan", "placesBehind", "(I)I"⟩, 18) := ⟨⟨by decide +kernel, by decide +kernel⟩, List.mem_of_getElem? (i := 34) (by decide +kernel), List.mem_of_getElem? (i := 941) (by decide +kernel), List.mem_of_getElem? (i := 942) (by decide +kernel)⟩
theorem lw_p73 : lw_okq (⟨"ClockZones$Walk", "breakIn", "(LClockZones$Plan;[II)I"⟩, 1) := ⟨⟨by decide +kernel, by decide +kernel⟩, List.mem_of_getElem? (i := 315) (by decide +kernel), List.mem_of_getElem? (i := 949) (by decide +kernel), List.mem_of_getElem? (i := 950) (by decide +kernel)⟩
theorem lw_p74 : lw_okq (⟨"ClockZones$Walk", "goAlong", "(LClockZones$Plan;I)V"⟩, 1) := ⟨⟨by decide +kernel, by decide +kernel⟩, List.mem_of_getElem? (i := 315) (by decide +kernel), List.mem_of_getElem? (i := 956) (by decide +kernel), List.mem_of_getElem? (i := 957) (by decide +kernel)⟩
theorem lw_p75 : lw_okq (⟨"ClockZones$Plan", "listsWith", "(III)I"⟩, 18) := ⟨⟨by decide +kernel, by decide +kernel⟩, List.mem_of_getElem? (i := 34) (by decide +kernel), List.mem_of_getElem? (i := 971) (by decide +kernel), List.mem_of_getElem? (i := 972) (by decide +kernel)⟩
theorem lw_p76 : lw_okq (⟨"ClockZones$Plan", "hasRuleOf", "(II)Z"⟩, 18) := ⟨⟨by decide +kernel, by decide +kernel⟩, List.mem_of_getElem? (i := 34) (by decide +kernel), List.mem_of_getElem? (i := 975) (by decide +kernel), List.mem_of_getElem? (i := 976) (by decide +kernel)⟩
theorem lw_p77 : lw_okq (⟨"ClockZones$Plan", "edgesThatSet", "(I)I"⟩, 18) := ⟨⟨by decide +kernel, by decide +kernel⟩, List.mem_of_getElem? (i := 34) (by decide +kernel), List.mem_of_getElem? (i := 979) (by decide +kernel), List.mem_of_getElem? (i := 980) (by decide +kernel)⟩
theorem lw_p78 : lw_okq (⟨"ClockZones$Path", "endIn", "(LClockZones$Plan;)I"⟩, 2) := ⟨⟨by decide +kernel, by decide +kernel⟩, List.mem_of_getElem? (i := 261) (by decide +kernel), List.mem_of_getElem? (i := 988) (by decide +kernel), List.mem_of_getElem? (i := 989) (by decide +kernel)⟩
theorem lw_p79 : lw_okq (⟨"ClockZones", "changePath", "()V"⟩, 11) := ⟨⟨by decide +kernel, by decide +kernel⟩, List.mem_of_getElem? (i := 20) (by decide +kernel), List.mem_of_getElem? (i := 992) (by decide +kernel), List.mem_of_getElem? (i := 993) (by decide +kernel)⟩
def lw_privs_5 : List (MethodName × Nat) := [(⟨"ClockZones$Zone", "holdsHalves", "([I)Z"⟩, 3), (⟨"ClockZones$Zone", "countsAsPair", "(III)Z"⟩, 3), (⟨"ClockZones$Zone", "followsFromOthers", "(II)Z"⟩, 3), (⟨"ClockZones$Zone", "keepWhole", "()V"⟩, 3), (⟨"ClockZones$Zone", "leastOf", "(I)I"⟩, 3), (⟨"ClockZones$Zone", "becomeTimed", "(LClockZones$Zone;)V"⟩, 3), (⟨"ClockZones$Graph", "findWay", "(I)I"⟩, 10), (⟨"ClockZones$Graph", "openEdges", "(LClockZones$Plan;I)I"⟩, 10), (⟨"ClockZones$Plan", "placesBehind", "(I)I"⟩, 18), (⟨"ClockZones$Walk", "breakIn", "(LClockZones$Plan;[II)I"⟩, 1), (⟨"ClockZones$Walk", "goAlong", "(LClockZones$Plan;I)V"⟩, 1), (⟨"ClockZones$Plan", "listsWith", "(III)I"⟩, 18), (⟨"ClockZones$Plan", "hasRuleOf", "(II)Z"⟩, 18), (⟨"ClockZones$Plan", "edgesThatSet", "(I)I"⟩, 18), (⟨"ClockZones$Path", "endIn", "(LClockZones$Plan;)I"⟩, 2), (⟨"ClockZones", "changePath", "()V"⟩, 11)]
theorem lw_r5 : ∀ q ∈ lw_privs_5, lw_okq q := List.forall_mem_cons.mpr ⟨lw_p64, List.forall_mem_cons.mpr ⟨lw_p65, List.forall_mem_cons.mpr ⟨lw_p66, List.forall_mem_cons.mpr ⟨lw_p67, List.forall_mem_cons.mpr ⟨lw_p68, List.forall_mem_cons.mpr ⟨lw_p69, List.forall_mem_cons.mpr ⟨lw_p70, List.forall_mem_cons.mpr ⟨lw_p71, List.forall_mem_cons.mpr ⟨lw_p72, List.forall_mem_cons.mpr ⟨lw_p73, List.forall_mem_cons.mpr ⟨lw_p74, List.forall_mem_cons.mpr ⟨lw_p75, List.forall_mem_cons.mpr ⟨lw_p76, List.forall_mem_cons.mpr ⟨lw_p77, List.forall_mem_cons.mpr ⟨lw_p78, List.forall_mem_cons.mpr ⟨lw_p79, fun _ h => absurd h List.not_mem_nil⟩⟩⟩⟩⟩⟩⟩⟩⟩⟩⟩⟩⟩⟩⟩⟩
theorem lw_p80 : lw_okq (⟨"ClockZones$History", "keepPath", "(LClockZones$Path;)V"⟩, 6) := ⟨⟨by decide +kernel, by decide +kernel⟩, List.mem_of_getElem? (i := 328) (by decide +kernel), List.mem_of_getElem? (i := 996) (by decide +kernel), List.mem_of_getElem? (i := 997) (by decide +kernel)⟩
theorem lw_p81 : lw_okq (⟨"ClockZones", "timesOfPath", "()LClockZones$Times;"⟩, 11) := ⟨⟨by decide +kernel, by decide +kernel⟩, List.mem_of_getElem? (i := 20) (by decide +kernel), List.mem_of_getElem? (i := 1012) (by decide +kernel), List.mem_of_getElem? (i := 1013) (by decide +kernel)⟩
theorem lw_p82 : lw_okq (⟨"ClockZones$Times", "build", "(LClockZones$Plan;LClockZones$Path;)V"⟩, 8) := ⟨⟨by decide +kernel, by decide +kernel⟩, List.mem_of_getElem? (i := 280) (by decide +kernel), List.mem_of_getElem? (i := 1016) (by decide +kernel), List.mem_of_getElem? (i := 1017) (by decide +kernel)⟩
theorem lw_p83 : lw_okq (⟨"ClockZones$Times", "lower", "(III)V"⟩, 8) := ⟨⟨by decide +kernel, by decide +kernel⟩, List.mem_of_getElem? (i := 280) (by decide +kernel), List.mem_of_getElem? (i := 1022) (by decide +kernel), List.mem_of_getElem? (i := 1023) (by decide +kernel)⟩
theorem lw_p84 : lw_okq (⟨"ClockZones$Times", "keepRules", "(LClockZones$Plan;II)V"⟩, 8) := ⟨⟨by decide +kernel, by decide +kernel⟩, List.mem_of_getElem? (i := 280) (by decide +kernel), List.mem_of_getElem? (i := 1028) (by decide +kernel), List.mem_of_getElem? (i := 1029) (by decide +kernel)⟩
theorem lw_p85 : lw_okq (⟨"ClockZones$Times", "takeEdge", "(LClockZones$Plan;II)V"⟩, 8) := ⟨⟨by decide +kernel, by decide +kernel⟩, List.mem_of_getElem? (i := 280) (by decide +kernel), List.mem_of_getElem? (i := 1034) (by decide +kernel), List.mem_of_getElem? (i := 1035) (by decide +kernel)⟩
theorem lw_p86 : lw_okq (⟨"ClockZones$Times", "span", "(IIII)I"⟩, 8) := ⟨⟨by decide +kernel, by decide +kernel⟩, List.mem_of_getElem? (i := 280) (by decide +kernel), List.mem_of_getElem? (i := 1044) (by decide +kernel), List.mem_of_getElem? (i := 1045) (by decide +kernel)⟩
theorem lw_p87 : lw_okq (⟨"ClockZones$Path", "setterAhead", "(LClockZones$Plan;II)I"⟩, 2) := ⟨⟨by decide +kernel, by decide +kernel⟩, List.mem_of_getElem? (i := 261) (by decide +kernel), List.mem_of_getElem? (i := 1058) (by decide +kernel), List.mem_of_getElem? (i := 1059) (by decide +kernel)⟩
theorem lw_p88 : lw_okq (⟨"ClockZones$Times", "buildWhole", "(LClockZones$Path;)V"⟩, 8) := ⟨⟨by decide +kernel, by decide +kernel⟩, List.mem_of_getElem? (i := 280) (by decide +kernel), List.mem_of_getElem? (i := 1072) (by decide +kernel), List.mem_of_getElem? (i := 1073) (by decide +kernel)⟩
theorem lw_p89 : lw_okq (⟨"ClockZones$Times", "leastWhole", "(I)I"⟩, 8) := ⟨⟨by decide +kernel, by decide +kernel⟩, List.mem_of_getElem? (i := 280) (by decide +kernel), List.mem_of_getElem? (i := 1077) (by decide +kernel), List.mem_of_getElem? (i := 1078) (by decide +kernel)⟩
theorem lw_p90 : lw_okq (⟨"java/lang/Throwable", "fillInStackTrace", "(I)Ljava/lang/Throwable;"⟩, 6) := ⟨⟨by decide +kernel, by decide +kernel⟩, List.mem_of_getElem? (i := 1131) (by decide +kernel), List.mem_of_getElem? (i := 1129) (by decide +kernel), List.mem_of_getElem? (i := 1130) (by decide +kernel)⟩
theorem lw_p91 : lw_okq (⟨"ClockZones$Plan", "edgesFrom", "(I)I"⟩, 18) := ⟨⟨by decide +kernel, by decide +kernel⟩, List.mem_of_getElem? (i := 34) (by decide +kernel), List.mem_of_getElem? (i := 1161) (by decide +kernel), List.mem_of_getElem? (i := 1162) (by decide +kernel)⟩
theorem lw_p92 : lw_okq (⟨"ClockZones$Plan", "edgesTo", "(I)I"⟩, 18) := ⟨⟨by decide +kernel, by decide +kernel⟩, List.mem_of_getElem? (i := 34) (by decide +kernel), List.mem_of_getElem? (i := 1165) (by decide +kernel), List.mem_of_getElem? (i := 1166) (by decide +kernel)⟩
theorem lw_p93 : lw_okq (⟨"ClockZones$Graph", "nodesOf", "(I)I"⟩, 10) := ⟨⟨by decide +kernel, by decide +kernel⟩, List.mem_of_getElem? (i := 213) (by decide +kernel), List.mem_of_getElem? (i := 1169) (by decide +kernel), List.mem_of_getElem? (i := 1170) (by decide +kernel)⟩
theorem lw_p94 : lw_okq (⟨"ClockZones$Graph", "hasNodeBy", "(I)Z"⟩, 10) := ⟨⟨by decide +kernel, by decide +kernel⟩, List.mem_of_getElem? (i := 213) (by decide +kernel), List.mem_of_getElem? (i := 1197) (by decide +kernel), List.mem_of_getElem? (i := 1198) (by decide +kernel)⟩
theorem lw_p95 : lw_okq (⟨"ClockZonesModel", "laysAll", "()V"⟩, 61) := ⟨⟨by decide +kernel, by decide +kernel⟩, List.mem_of_getElem? (i := 1205) (by decide +kernel), List.mem_of_getElem? (i := 1211) (by decide +kernel), List.mem_of_getElem? (i := 1212) (by decide +kernel)⟩
def lw_privs_6 : List (MethodName × Nat) := [(⟨"ClockZones$History", "keepPath", "(LClockZones$Path;)V"⟩, 6), (⟨"ClockZones", "timesOfPath", "()LClockZones$Times;"⟩, 11), (⟨"ClockZones$Times", "build", "(LClockZones$Plan;LClockZones$Path;)V"⟩, 8), (⟨"ClockZones$Times", "lower", "(III)V"⟩, 8), (⟨"ClockZones$Times", "keepRules", "(LClockZones$Plan;II)V"⟩, 8), (⟨"ClockZones$Times", "takeEdge", "(LClockZones$Plan;II)V"⟩, 8), (⟨"ClockZones$Times", "span", "(IIII)I"⟩, 8), (⟨"ClockZones$Path", "setterAhead", "(LClockZones$Plan;II)I"⟩, 2), (⟨"ClockZones$Times", "buildWhole", "(LClockZones$Path;)V"⟩, 8), (⟨"ClockZones$Times", "leastWhole", "(I)I"⟩, 8), (⟨"java/lang/Throwable", "fillInStackTrace", "(I)Ljava/lang/Throwable;"⟩, 6), (⟨"ClockZones$Plan", "edgesFrom", "(I)I"⟩, 18), (⟨"ClockZones$Plan", "edgesTo", "(I)I"⟩, 18), (⟨"ClockZones$Graph", "nodesOf", "(I)I"⟩, 10), (⟨"ClockZones$Graph", "hasNodeBy", "(I)Z"⟩, 10), (⟨"ClockZonesModel", "laysAll", "()V"⟩, 61)]
theorem lw_r6 : ∀ q ∈ lw_privs_6, lw_okq q := List.forall_mem_cons.mpr ⟨lw_p80, List.forall_mem_cons.mpr ⟨lw_p81, List.forall_mem_cons.mpr ⟨lw_p82, List.forall_mem_cons.mpr ⟨lw_p83, List.forall_mem_cons.mpr ⟨lw_p84, List.forall_mem_cons.mpr ⟨lw_p85, List.forall_mem_cons.mpr ⟨lw_p86, List.forall_mem_cons.mpr ⟨lw_p87, List.forall_mem_cons.mpr ⟨lw_p88, List.forall_mem_cons.mpr ⟨lw_p89, List.forall_mem_cons.mpr ⟨lw_p90, List.forall_mem_cons.mpr ⟨lw_p91, List.forall_mem_cons.mpr ⟨lw_p92, List.forall_mem_cons.mpr ⟨lw_p93, List.forall_mem_cons.mpr ⟨lw_p94, List.forall_mem_cons.mpr ⟨lw_p95, fun _ h => absurd h List.not_mem_nil⟩⟩⟩⟩⟩⟩⟩⟩⟩⟩⟩⟩⟩⟩⟩⟩
theorem lw_p96 : lw_okq (⟨"ClockZonesModel", "nought", "()V"⟩, 61) := ⟨⟨by decide +kernel, by decide +kernel⟩, List.mem_of_getElem? (i := 1205) (by decide +kernel), List.mem_of_getElem? (i := 1215) (by decide +kernel), List.mem_of_getElem? (i := 1216) (by decide +kernel)⟩
theorem lw_p97 : lw_okq (⟨"ClockZonesModel", "put", "(III)V"⟩, 61) := ⟨⟨by decide +kernel, by decide +kernel⟩, List.mem_of_getElem? (i := 1205) (by decide +kernel), List.mem_of_getElem? (i := 1219) (by decide +kernel), List.mem_of_getElem? (i := 1220) (by decide +kernel)⟩
theorem lw_p98 : lw_okq (⟨"ClockZonesModel", "stores", "(I)V"⟩, 61) := ⟨⟨by decide +kernel, by decide +kernel⟩, List.mem_of_getElem? (i := 1205) (by decide +kernel), List.mem_of_getElem? (i := 1223) (by decide +kernel), List.mem_of_getElem? (i := 1224) (by decide +kernel)⟩
theorem lw_p99 : lw_okq (⟨"ClockZonesModel", "get", "(II)I"⟩, 61) := ⟨⟨by decide +kernel, by decide +kernel⟩, List.mem_of_getElem? (i := 1205) (by decide +kernel), List.mem_of_getElem? (i := 1227) (by decide +kernel), List.mem_of_getElem? (i := 1228) (by decide +kernel)⟩
theorem lw_p100 : lw_okq (⟨"ClockZonesModel", "four", "(I)V"⟩, 61) := ⟨⟨by decide +kernel, by decide +kernel⟩, List.mem_of_getElem? (i := 1205) (by decide +kernel), List.mem_of_getElem? (i := 1419) (by decide +kernel), List.mem_of_getElem? (i := 1420) (by decide +kernel)⟩
theorem lw_p101 : lw_okq (⟨"ClockZonesModel", "advance", "()V"⟩, 61) := ⟨⟨by decide +kernel, by decide +kernel⟩, List.mem_of_getElem? (i := 1205) (by decide +kernel), List.mem_of_getElem? (i := 1430) (by decide +kernel), List.mem_of_getElem? (i := 1431) (by decide +kernel)⟩
theorem lw_p102 : lw_okq (⟨"ClockZonesModel", "see", "()I"⟩, 61) := ⟨⟨by decide +kernel, by decide +kernel⟩, List.mem_of_getElem? (i := 1205) (by decide +kernel), List.mem_of_getElem? (i := 1434) (by decide +kernel), List.mem_of_getElem? (i := 1435) (by decide +kernel)⟩
theorem lw_p103 : lw_okq (⟨"ClockZonesModel", "lineHere", "()V"⟩, 61) := ⟨⟨by decide +kernel, by decide +kernel⟩, List.mem_of_getElem? (i := 1205) (by decide +kernel), List.mem_of_getElem? (i := 1438) (by decide +kernel), List.mem_of_getElem? (i := 1439) (by decide +kernel)⟩
theorem lw_p104 : lw_okq (⟨"ClockZonesModel", "isWord", "(I)Z"⟩, 61) := ⟨⟨by decide +kernel, by decide +kernel⟩, List.mem_of_getElem? (i := 1205) (by decide +kernel), List.mem_of_getElem? (i := 1443) (by decide +kernel), List.mem_of_getElem? (i := 1444) (by decide +kernel)⟩
theorem lw_p105 : lw_okq (⟨"ClockZonesModel", "opens", "(ZI)V"⟩, 61) := ⟨⟨by decide +kernel, by decide +kernel⟩, List.mem_of_getElem? (i := 1205) (by decide +kernel), List.mem_of_getElem? (i := 1447) (by decide +kernel), List.mem_of_getElem? (i := 1448) (by decide +kernel)⟩
theorem lw_p106 : lw_okq (⟨"ClockZonesModel", "must", "(ZI)V"⟩, 61) := ⟨⟨by decide +kernel, by decide +kernel⟩, List.mem_of_getElem? (i := 1205) (by decide +kernel), List.mem_of_getElem? (i := 1451) (by decide +kernel), List.mem_of_getElem? (i := 1452) (by decide +kernel)⟩
theorem lw_p107 : lw_okq (⟨"ClockZonesModel", "freshHere", "([II)I"⟩, 61) := ⟨⟨by decide +kernel, by decide +kernel⟩, List.mem_of_getElem? (i := 1205) (by decide +kernel), List.mem_of_getElem? (i := 1455) (by decide +kernel), List.mem_of_getElem? (i := 1456) (by decide +kernel)⟩
theorem lw_p108 : lw_okq (⟨"ClockZonesModel", "isName", "()Z"⟩, 61) := ⟨⟨by decide +kernel, by decide +kernel⟩, List.mem_of_getElem? (i := 1205) (by decide +kernel), List.mem_of_getElem? (i := 1459) (by decide +kernel), List.mem_of_getElem? (i := 1460) (by decide +kernel)⟩
theorem lw_p109 : lw_okq (⟨"ClockZonesModel", "whensHere", "(I)V"⟩, 61) := ⟨⟨by decide +kernel, by decide +kernel⟩, List.mem_of_getElem? (i := 1205) (by decide +kernel), List.mem_of_getElem? (i := 1470) (by decide +kernel), List.mem_of_getElem? (i := 1471) (by decide +kernel)⟩
theorem lw_p110 : lw_okq (⟨"ClockZonesModel", "seenHere", "([II)I"⟩, 61) := ⟨⟨by decide +kernel, by decide +kernel⟩, List.mem_of_getElem? (i := 1205) (by decide +kernel), List.mem_of_getElem? (i := 1474) (by decide +kernel), List.mem_of_getElem? (i := 1475) (by decide +kernel)⟩
theorem lw_p111 : lw_okq (⟨"ClockZonesModel", "numberHere", "()I"⟩, 61) := ⟨⟨by decide +kernel, by decide +kernel⟩, List.mem_of_getElem? (i := 1205) (by decide +kernel), List.mem_of_getElem? (i := 1478) (by decide +kernel), List.mem_of_getElem? (i := 1479) (by decide +kernel)⟩
def lw_privs_7 : List (MethodName × Nat) := [(⟨"ClockZonesModel", "nought", "()V"⟩, 61), (⟨"ClockZonesModel", "put", "(III)V"⟩, 61), (⟨"ClockZonesModel", "stores", "(I)V"⟩, 61), (⟨"ClockZonesModel", "get", "(II)I"⟩, 61), (⟨"ClockZonesModel", "four", "(I)V"⟩, 61), (⟨"ClockZonesModel", "advance", "()V"⟩, 61), (⟨"ClockZonesModel", "see", "()I"⟩, 61), (⟨"ClockZonesModel", "lineHere", "()V"⟩, 61), (⟨"ClockZonesModel", "isWord", "(I)Z"⟩, 61), (⟨"ClockZonesModel", "opens", "(ZI)V"⟩, 61), (⟨"ClockZonesModel", "must", "(ZI)V"⟩, 61), (⟨"ClockZonesModel", "freshHere", "([II)I"⟩, 61), (⟨"ClockZonesModel", "isName", "()Z"⟩, 61), (⟨"ClockZonesModel", "whensHere", "(I)V"⟩, 61), (⟨"ClockZonesModel", "seenHere", "([II)I"⟩, 61), (⟨"ClockZonesModel", "numberHere", "()I"⟩, 61)]
theorem lw_r7 : ∀ q ∈ lw_privs_7, lw_okq q := List.forall_mem_cons.mpr ⟨lw_p96, List.forall_mem_cons.mpr ⟨lw_p97, List.forall_mem_cons.mpr ⟨lw_p98, List.forall_mem_cons.mpr ⟨lw_p99, List.forall_mem_cons.mpr ⟨lw_p100, List.forall_mem_cons.mpr ⟨lw_p101, List.forall_mem_cons.mpr ⟨lw_p102, List.forall_mem_cons.mpr ⟨lw_p103, List.forall_mem_cons.mpr ⟨lw_p104, List.forall_mem_cons.mpr ⟨lw_p105, List.forall_mem_cons.mpr ⟨lw_p106, List.forall_mem_cons.mpr ⟨lw_p107, List.forall_mem_cons.mpr ⟨lw_p108, List.forall_mem_cons.mpr ⟨lw_p109, List.forall_mem_cons.mpr ⟨lw_p110, List.forall_mem_cons.mpr ⟨lw_p111, fun _ h => absurd h List.not_mem_nil⟩⟩⟩⟩⟩⟩⟩⟩⟩⟩⟩⟩⟩⟩⟩⟩
theorem lw_p112 : lw_okq (⟨"ClockZonesModel", "placeHere", "()I"⟩, 61) := ⟨⟨by decide +kernel, by decide +kernel⟩, List.mem_of_getElem? (i := 1205) (by decide +kernel), List.mem_of_getElem? (i := 1482) (by decide +kernel), List.mem_of_getElem? (i := 1483) (by decide +kernel)⟩
theorem lw_p113 : lw_okq (⟨"ClockZonesModel", "setsHere", "(I)V"⟩, 61) := ⟨⟨by decide +kernel, by decide +kernel⟩, List.mem_of_getElem? (i := 1205) (by decide +kernel), List.mem_of_getElem? (i := 1486) (by decide +kernel), List.mem_of_getElem? (i := 1487) (by decide +kernel)⟩
theorem lw_p114 : lw_okq (⟨"ClockZonesModel", "becomes", "()V"⟩, 61) := ⟨⟨by decide +kernel, by decide +kernel⟩, List.mem_of_getElem? (i := 1205) (by decide +kernel), List.mem_of_getElem? (i := 1490) (by decide +kernel), List.mem_of_getElem? (i := 1491) (by decide +kernel)⟩
theorem lw_p115 : lw_okq (⟨"ClockZonesModel", "greatens", "(I)V"⟩, 61) := ⟨⟨by decide +kernel, by decide +kernel⟩, List.mem_of_getElem? (i := 1205) (by decide +kernel), List.mem_of_getElem? (i := 1497) (by decide +kernel), List.mem_of_getElem? (i := 1498) (by decide +kernel)⟩
theorem lw_p116 : lw_okq (⟨"ClockZonesModel", "grows", "(II)V"⟩, 61) := ⟨⟨by decide +kernel, by decide +kernel⟩, List.mem_of_getElem? (i := 1205) (by decide +kernel), List.mem_of_getElem? (i := 1501) (by decide +kernel), List.mem_of_getElem? (i := 1502) (by decide +kernel)⟩
theorem lw_p117 : lw_okq (⟨"ClockZonesModel", "explores", "()V"⟩, 61) := ⟨⟨by decide +kernel, by decide +kernel⟩, List.mem_of_getElem? (i := 1205) (by decide +kernel), List.mem_of_getElem? (i := 1505) (by decide +kernel), List.mem_of_getElem? (i := 1506) (by decide +kernel)⟩
theorem lw_p118 : lw_okq (⟨"ClockZonesModel", "stays", "(I)V"⟩, 61) := ⟨⟨by decide +kernel, by decide +kernel⟩, List.mem_of_getElem? (i := 1205) (by decide +kernel), List.mem_of_getElem? (i := 1509) (by decide +kernel), List.mem_of_getElem? (i := 1510) (by decide +kernel)⟩
theorem lw_p119 : lw_okq (⟨"ClockZonesModel", "whens", "(I)V"⟩, 61) := ⟨⟨by decide +kernel, by decide +kernel⟩, List.mem_of_getElem? (i := 1205) (by decide +kernel), List.mem_of_getElem? (i := 1513) (by decide +kernel), List.mem_of_getElem? (i := 1514) (by decide +kernel)⟩
theorem lw_p120 : lw_okq (⟨"ClockZonesModel", "meets", "(IIII)V"⟩, 61) := ⟨⟨by decide +kernel, by decide +kernel⟩, List.mem_of_getElem? (i := 1205) (by decide +kernel), List.mem_of_getElem? (i := 1517) (by decide +kernel), List.mem_of_getElem? (i := 1518) (by decide +kernel)⟩
theorem lw_p121 : lw_okq (⟨"ClockZonesModel", "tightens", "(III)V"⟩, 61) := ⟨⟨by decide +kernel, by decide +kernel⟩, List.mem_of_getElem? (i := 1205) (by decide +kernel), List.mem_of_getElem? (i := 1524) (by decide +kernel), List.mem_of_getElem? (i := 1525) (by decide +kernel)⟩
theorem lw_p122 : lw_okq (⟨"ClockZonesModel", "closes", "()V"⟩, 61) := ⟨⟨by decide +kernel, by decide +kernel⟩, List.mem_of_getElem? (i := 1205) (by decide +kernel), List.mem_of_getElem? (i := 1528) (by decide +kernel), List.mem_of_getElem? (i := 1529) (by decide +kernel)⟩
theorem lw_p123 : lw_okq (⟨"ClockZonesModel", "ups", "()V"⟩, 61) := ⟨⟨by decide +kernel, by decide +kernel⟩, List.mem_of_getElem? (i := 1205) (by decide +kernel), List.mem_of_getElem? (i := 1536) (by decide +kernel), List.mem_of_getElem? (i := 1537) (by decide +kernel)⟩
theorem lw_p124 : lw_okq (⟨"ClockZonesModel", "roughens", "()V"⟩, 61) := ⟨⟨by decide +kernel, by decide +kernel⟩, List.mem_of_getElem? (i := 1205) (by decide +kernel), List.mem_of_getElem? (i := 1540) (by decide +kernel), List.mem_of_getElem? (i := 1541) (by decide +kernel)⟩
theorem lw_p125 : lw_okq (⟨"ClockZonesModel", "adds", "(III)V"⟩, 61) := ⟨⟨by decide +kernel, by decide +kernel⟩, List.mem_of_getElem? (i := 1205) (by decide +kernel), List.mem_of_getElem? (i := 1547) (by decide +kernel), List.mem_of_getElem? (i := 1548) (by decide +kernel)⟩
theorem lw_p126 : lw_okq (⟨"ClockZonesModel", "loadsNode", "(I)V"⟩, 61) := ⟨⟨by decide +kernel, by decide +kernel⟩, List.mem_of_getElem? (i := 1205) (by decide +kernel), List.mem_of_getElem? (i := 1551) (by decide +kernel), List.mem_of_getElem? (i := 1552) (by decide +kernel)⟩
theorem lw_p127 : lw_okq (⟨"ClockZonesModel", "steps", "(I)V"⟩, 61) := ⟨⟨by decide +kernel, by decide +kernel⟩, List.mem_of_getElem? (i := 1205) (by decide +kernel), List.mem_of_getElem? (i := 1555) (by decide +kernel), List.mem_of_getElem? (i := 1556) (by decide +kernel)⟩
def lw_privs_8 : List (MethodName × Nat) := [(⟨"ClockZonesModel", "placeHere", "()I"⟩, 61), (⟨"ClockZonesModel", "setsHere", "(I)V"⟩, 61), (⟨"ClockZonesModel", "becomes", "()V"⟩, 61), (⟨"ClockZonesModel", "greatens", "(I)V"⟩, 61), (⟨"ClockZonesModel", "grows", "(II)V"⟩, 61), (⟨"ClockZonesModel", "explores", "()V"⟩, 61), (⟨"ClockZonesModel", "stays", "(I)V"⟩, 61), (⟨"ClockZonesModel", "whens", "(I)V"⟩, 61), (⟨"ClockZonesModel", "meets", "(IIII)V"⟩, 61), (⟨"ClockZonesModel", "tightens", "(III)V"⟩, 61), (⟨"ClockZonesModel", "closes", "()V"⟩, 61), (⟨"ClockZonesModel", "ups", "()V"⟩, 61), (⟨"ClockZonesModel", "roughens", "()V"⟩, 61), (⟨"ClockZonesModel", "adds", "(III)V"⟩, 61), (⟨"ClockZonesModel", "loadsNode", "(I)V"⟩, 61), (⟨"ClockZonesModel", "steps", "(I)V"⟩, 61)]
theorem lw_r8 : ∀ q ∈ lw_privs_8, lw_okq q := List.forall_mem_cons.mpr ⟨lw_p112, List.forall_mem_cons.mpr ⟨lw_p113, List.forall_mem_cons.mpr ⟨lw_p114, List.forall_mem_cons.mpr ⟨lw_p115, List.forall_mem_cons.mpr ⟨lw_p116, List.forall_mem_cons.mpr ⟨lw_p117, List.forall_mem_cons.mpr ⟨lw_p118, List.forall_mem_cons.mpr ⟨lw_p119, List.forall_mem_cons.mpr ⟨lw_p120, List.forall_mem_cons.mpr ⟨lw_p121, List.forall_mem_cons.mpr ⟨lw_p122, List.forall_mem_cons.mpr ⟨lw_p123, List.forall_mem_cons.mpr ⟨lw_p124, List.forall_mem_cons.mpr ⟨lw_p125, List.forall_mem_cons.mpr ⟨lw_p126, List.forall_mem_cons.mpr ⟨lw_p127, fun _ h => absurd h List.not_mem_nil⟩⟩⟩⟩⟩⟩⟩⟩⟩⟩⟩⟩⟩⟩⟩⟩
theorem lw_p128 : lw_okq (⟨"ClockZonesModel", "sets", "(II)V"⟩, 61) := ⟨⟨by decide +kernel, by decide +kernel⟩, List.mem_of_getElem? (i := 1205) (by decide +kernel), List.mem_of_getElem? (i := 1559) (by decide +kernel), List.mem_of_getElem? (i := 1560) (by decide +kernel)⟩
theorem lw_p129 : lw_okq (⟨"ClockZonesModel", "isKnown", "(I)Z"⟩, 61) := ⟨⟨by decide +kernel, by decide +kernel⟩, List.mem_of_getElem? (i := 1205) (by decide +kernel), List.mem_of_getElem? (i := 1563) (by decide +kernel), List.mem_of_getElem? (i := 1564) (by decide +kernel)⟩
theorem lw_p130 : lw_okq (⟨"ClockZonesModel", "isInside", "([II)Z"⟩, 61) := ⟨⟨by decide +kernel, by decide +kernel⟩, List.mem_of_getElem? (i := 1205) (by decide +kernel), List.mem_of_getElem? (i := 1567) (by decide +kernel), List.mem_of_getElem? (i := 1568) (by decide +kernel)⟩
theorem lw_p131 : lw_okq (⟨"ClockZonesModel", "wide", "()V"⟩, 61) := ⟨⟨by decide +kernel, by decide +kernel⟩, List.mem_of_getElem? (i := 1205) (by decide +kernel), List.mem_of_getElem? (i := 1586) (by decide +kernel), List.mem_of_getElem? (i := 1587) (by decide +kernel)⟩
theorem lw_p132 : lw_okq (⟨"ClockZonesModel", "becomesTable", "(I)I"⟩, 61) := ⟨⟨by decide +kernel, by decide +kernel⟩, List.mem_of_getElem? (i := 1205) (by decide +kernel), List.mem_of_getElem? (i := 1590) (by decide +kernel), List.mem_of_getElem? (i := 1591) (by decide +kernel)⟩
theorem lw_p133 : lw_okq (⟨"ClockZonesModel", "isFar", "()Z"⟩, 61) := ⟨⟨by decide +kernel, by decide +kernel⟩, List.mem_of_getElem? (i := 1205) (by decide +kernel), List.mem_of_getElem? (i := 1594) (by decide +kernel), List.mem_of_getElem? (i := 1595) (by decide +kernel)⟩
theorem lw_p134 : lw_okq (⟨"ClockZonesModel", "keeps", "()V"⟩, 61) := ⟨⟨by decide +kernel, by decide +kernel⟩, List.mem_of_getElem? (i := 1205) (by decide +kernel), List.mem_of_getElem? (i := 1598) (by decide +kernel), List.mem_of_getElem? (i := 1599) (by decide +kernel)⟩
theorem lw_p135 : lw_okq (⟨"ClockZonesModel", "arePair", "(II)Z"⟩, 61) := ⟨⟨by decide +kernel, by decide +kernel⟩, List.mem_of_getElem? (i := 1205) (by decide +kernel), List.mem_of_getElem? (i := 1606) (by decide +kernel), List.mem_of_getElem? (i := 1607) (by decide +kernel)⟩
theorem lw_p136 : lw_okq (⟨"ClockZonesModel", "loads", "(I)V"⟩, 61) := ⟨⟨by decide +kernel, by decide +kernel⟩, List.mem_of_getElem? (i := 1205) (by decide +kernel), List.mem_of_getElem? (i := 1610) (by decide +kernel), List.mem_of_getElem? (i := 1611) (by decide +kernel)⟩
theorem lw_p137 : lw_okq (⟨"ClockZonesModel", "downs", "()V"⟩, 61) := ⟨⟨by decide +kernel, by decide +kernel⟩, List.mem_of_getElem? (i := 1205) (by decide +kernel), List.mem_of_getElem? (i := 1621) (by decide +kernel), List.mem_of_getElem? (i := 1622) (by decide +kernel)⟩
theorem lw_p138 : lw_okq (⟨"ClockZonesModel", "isClock", "(I)Z"⟩, 61) := ⟨⟨by decide +kernel, by decide +kernel⟩, List.mem_of_getElem? (i := 1205) (by decide +kernel), List.mem_of_getElem? (i := 1629) (by decide +kernel), List.mem_of_getElem? (i := 1630) (by decide +kernel)⟩
theorem lw_p139 : lw_okq (⟨"ClockZonesModel", "frees", "(I)V"⟩, 61) := ⟨⟨by decide +kernel, by decide +kernel⟩, List.mem_of_getElem? (i := 1205) (by decide +kernel), List.mem_of_getElem? (i := 1637) (by decide +kernel), List.mem_of_getElem? (i := 1638) (by decide +kernel)⟩
theorem lw_p140 : lw_okq (⟨"ClockZonesModel", "other", "(III)I"⟩, 61) := ⟨⟨by decide +kernel, by decide +kernel⟩, List.mem_of_getElem? (i := 1205) (by decide +kernel), List.mem_of_getElem? (i := 1649) (by decide +kernel), List.mem_of_getElem? (i := 1650) (by decide +kernel)⟩
theorem lw_p141 : lw_okq (⟨"ClockZonesModel", "meetsTable", "(II)V"⟩, 61) := ⟨⟨by decide +kernel, by decide +kernel⟩, List.mem_of_getElem? (i := 1205) (by decide +kernel), List.mem_of_getElem? (i := 1657) (by decide +kernel), List.mem_of_getElem? (i := 1658) (by decide +kernel)⟩
theorem lw_p142 : lw_okq (⟨"ClockZonesModel", "isEdge", "(I)Z"⟩, 61) := ⟨⟨by decide +kernel, by decide +kernel⟩, List.mem_of_getElem? (i := 1205) (by decide +kernel), List.mem_of_getElem? (i := 1669) (by decide +kernel), List.mem_of_getElem? (i := 1670) (by decide +kernel)⟩
theorem lw_p143 : lw_okq (⟨"ClockZonesModel", "backs", "(I)V"⟩, 61) := ⟨⟨by decide +kernel, by decide +kernel⟩, List.mem_of_getElem? (i := 1205) (by decide +kernel), List.mem_of_getElem? (i := 1677) (by decide +kernel), List.mem_of_getElem? (i := 1678) (by decide +kernel)⟩
def lw_privs_9 : List (MethodName × Nat) := [(⟨"ClockZonesModel", "sets", "(II)V"⟩, 61), (⟨"ClockZonesModel", "isKnown", "(I)Z"⟩, 61), (⟨"ClockZonesModel", "isInside", "([II)Z"⟩, 61), (⟨"ClockZonesModel", "wide", "()V"⟩, 61), (⟨"ClockZonesModel", "becomesTable", "(I)I"⟩, 61), (⟨"ClockZonesModel", "isFar", "()Z"⟩, 61), (⟨"ClockZonesModel", "keeps", "()V"⟩, 61), (⟨"ClockZonesModel", "arePair", "(II)Z"⟩, 61), (⟨"ClockZonesModel", "loads", "(I)V"⟩, 61), (⟨"ClockZonesModel", "downs", "()V"⟩, 61), (⟨"ClockZonesModel", "isClock", "(I)Z"⟩, 61), (⟨"ClockZonesModel", "frees", "(I)V"⟩, 61), (⟨"ClockZonesModel", "other", "(III)I"⟩, 61), (⟨"ClockZonesModel", "meetsTable", "(II)V"⟩, 61), (⟨"ClockZonesModel", "isEdge", "(I)Z"⟩, 61), (⟨"ClockZonesModel", "backs", "(I)V"⟩, 61)]
theorem lw_r9 : ∀ q ∈ lw_privs_9, lw_okq q := List.forall_mem_cons.mpr ⟨lw_p128, List.forall_mem_cons.mpr ⟨lw_p129, List.forall_mem_cons.mpr ⟨lw_p130, List.forall_mem_cons.mpr ⟨lw_p131, List.forall_mem_cons.mpr ⟨lw_p132, List.forall_mem_cons.mpr ⟨lw_p133, List.forall_mem_cons.mpr ⟨lw_p134, List.forall_mem_cons.mpr ⟨lw_p135, List.forall_mem_cons.mpr ⟨lw_p136, List.forall_mem_cons.mpr ⟨lw_p137, List.forall_mem_cons.mpr ⟨lw_p138, List.forall_mem_cons.mpr ⟨lw_p139, List.forall_mem_cons.mpr ⟨lw_p140, List.forall_mem_cons.mpr ⟨lw_p141, List.forall_mem_cons.mpr ⟨lw_p142, List.forall_mem_cons.mpr ⟨lw_p143, fun _ h => absurd h List.not_mem_nil⟩⟩⟩⟩⟩⟩⟩⟩⟩⟩⟩⟩⟩⟩⟩⟩
theorem lw_p144 : lw_okq (⟨"ClockZonesModel", "isPlace", "(I)Z"⟩, 61) := ⟨⟨by decide +kernel, by decide +kernel⟩, List.mem_of_getElem? (i := 1205) (by decide +kernel), List.mem_of_getElem? (i := 1685) (by decide +kernel), List.mem_of_getElem? (i := 1686) (by decide +kernel)⟩
theorem lw_p145 : lw_okq (⟨"ClockZonesModel", "told", "(II)I"⟩, 61) := ⟨⟨by decide +kernel, by decide +kernel⟩, List.mem_of_getElem? (i := 1205) (by decide +kernel), List.mem_of_getElem? (i := 1701) (by decide +kernel), List.mem_of_getElem? (i := 1702) (by decide +kernel)⟩
theorem lw_p146 : lw_okq (⟨"ClockZonesModel", "hasTimes", "(I)Z"⟩, 61) := ⟨⟨by decide +kernel, by decide +kernel⟩, List.mem_of_getElem? (i := 1205) (by decide +kernel), List.mem_of_getElem? (i := 1721) (by decide +kernel), List.mem_of_getElem? (i := 1722) (by decide +kernel)⟩
theorem lw_p147 : lw_okq (⟨"ClockZonesModel", "follows", "(II)Z"⟩, 61) := ⟨⟨by decide +kernel, by decide +kernel⟩, List.mem_of_getElem? (i := 1205) (by decide +kernel), List.mem_of_getElem? (i := 1729) (by decide +kernel), List.mem_of_getElem? (i := 1730) (by decide +kernel)⟩
theorem lw_p148 : lw_okq (⟨"ClockZonesModel", "wholes", "()V"⟩, 61) := ⟨⟨by decide +kernel, by decide +kernel⟩, List.mem_of_getElem? (i := 1205) (by decide +kernel), List.mem_of_getElem? (i := 1745) (by decide +kernel), List.mem_of_getElem? (i := 1746) (by decide +kernel)⟩
theorem lw_p149 : lw_okq (⟨"ClockZonesModel", "stretches", "()V"⟩, 61) := ⟨⟨by decide +kernel, by decide +kernel⟩, List.mem_of_getElem? (i := 1205) (by decide +kernel), List.mem_of_getElem? (i := 1753) (by decide +kernel), List.mem_of_getElem? (i := 1754) (by decide +kernel)⟩
theorem lw_p150 : lw_okq (⟨"ClockZonesModel", "depth", "(I)I"⟩, 61) := ⟨⟨by decide +kernel, by decide +kernel⟩, List.mem_of_getElem? (i := 1205) (by decide +kernel), List.mem_of_getElem? (i := 1772) (by decide +kernel), List.mem_of_getElem? (i := 1773) (by decide +kernel)⟩
theorem lw_p151 : lw_okq (⟨"ClockZonesModel", "laysRoad", "(I)Z"⟩, 61) := ⟨⟨by decide +kernel, by decide +kernel⟩, List.mem_of_getElem? (i := 1205) (by decide +kernel), List.mem_of_getElem? (i := 1784) (by decide +kernel), List.mem_of_getElem? (i := 1785) (by decide +kernel)⟩
theorem lw_p152 : lw_okq (⟨"ClockZonesModel", "firstNode", "(I)I"⟩, 61) := ⟨⟨by decide +kernel, by decide +kernel⟩, List.mem_of_getElem? (i := 1205) (by decide +kernel), List.mem_of_getElem? (i := 1788) (by decide +kernel), List.mem_of_getElem? (i := 1789) (by decide +kernel)⟩
theorem lw_p153 : lw_okq (⟨"ClockZonesModel", "openOf", "(I)I"⟩, 61) := ⟨⟨by decide +kernel, by decide +kernel⟩, List.mem_of_getElem? (i := 1205) (by decide +kernel), List.mem_of_getElem? (i := 1800) (by decide +kernel), List.mem_of_getElem? (i := 1801) (by decide +kernel)⟩
theorem lw_p154 : lw_okq (⟨"ClockZonesModel", "hasWhen", "(II)Z"⟩, 61) := ⟨⟨by decide +kernel, by decide +kernel⟩, List.mem_of_getElem? (i := 1205) (by decide +kernel), List.mem_of_getElem? (i := 1836) (by decide +kernel), List.mem_of_getElem? (i := 1837) (by decide +kernel)⟩
theorem lw_p155 : lw_okq (⟨"ClockZonesModel", "hasSet", "(II)Z"⟩, 61) := ⟨⟨by decide +kernel, by decide +kernel⟩, List.mem_of_getElem? (i := 1205) (by decide +kernel), List.mem_of_getElem? (i := 1840) (by decide +kernel), List.mem_of_getElem? (i := 1841) (by decide +kernel)⟩
theorem lw_p156 : lw_okq (⟨"ClockZonesModel", "traced", "()I"⟩, 61) := ⟨⟨by decide +kernel, by decide +kernel⟩, List.mem_of_getElem? (i := 1205) (by decide +kernel), List.mem_of_getElem? (i := 1852) (by decide +kernel), List.mem_of_getElem? (i := 1853) (by decide +kernel)⟩
theorem lw_p157 : lw_okq (⟨"ClockZonesModel", "laysTrace", "()V"⟩, 61) := ⟨⟨by decide +kernel, by decide +kernel⟩, List.mem_of_getElem? (i := 1205) (by decide +kernel), List.mem_of_getElem? (i := 1868) (by decide +kernel), List.mem_of_getElem? (i := 1869) (by decide +kernel)⟩
theorem lw_p158 : lw_okq (⟨"ClockZonesModel", "laysTimes", "([III)V"⟩, 61) := ⟨⟨by decide +kernel, by decide +kernel⟩, List.mem_of_getElem? (i := 1205) (by decide +kernel), List.mem_of_getElem? (i := 1872) (by decide +kernel), List.mem_of_getElem? (i := 1873) (by decide +kernel)⟩
theorem lw_p159 : lw_okq (⟨"ClockZonesModel", "holdsAt", "(II)V"⟩, 61) := ⟨⟨by decide +kernel, by decide +kernel⟩, List.mem_of_getElem? (i := 1205) (by decide +kernel), List.mem_of_getElem? (i := 1876) (by decide +kernel), List.mem_of_getElem? (i := 1877) (by decide +kernel)⟩
def lw_privs_10 : List (MethodName × Nat) := [(⟨"ClockZonesModel", "isPlace", "(I)Z"⟩, 61), (⟨"ClockZonesModel", "told", "(II)I"⟩, 61), (⟨"ClockZonesModel", "hasTimes", "(I)Z"⟩, 61), (⟨"ClockZonesModel", "follows", "(II)Z"⟩, 61), (⟨"ClockZonesModel", "wholes", "()V"⟩, 61), (⟨"ClockZonesModel", "stretches", "()V"⟩, 61), (⟨"ClockZonesModel", "depth", "(I)I"⟩, 61), (⟨"ClockZonesModel", "laysRoad", "(I)Z"⟩, 61), (⟨"ClockZonesModel", "firstNode", "(I)I"⟩, 61), (⟨"ClockZonesModel", "openOf", "(I)I"⟩, 61), (⟨"ClockZonesModel", "hasWhen", "(II)Z"⟩, 61), (⟨"ClockZonesModel", "hasSet", "(II)Z"⟩, 61), (⟨"ClockZonesModel", "traced", "()I"⟩, 61), (⟨"ClockZonesModel", "laysTrace", "()V"⟩, 61), (⟨"ClockZonesModel", "laysTimes", "([III)V"⟩, 61), (⟨"ClockZonesModel", "holdsAt", "(II)V"⟩, 61)]
theorem lw_r10 : ∀ q ∈ lw_privs_10, lw_okq q := List.forall_mem_cons.mpr ⟨lw_p144, List.forall_mem_cons.mpr ⟨lw_p145, List.forall_mem_cons.mpr ⟨lw_p146, List.forall_mem_cons.mpr ⟨lw_p147, List.forall_mem_cons.mpr ⟨lw_p148, List.forall_mem_cons.mpr ⟨lw_p149, List.forall_mem_cons.mpr ⟨lw_p150, List.forall_mem_cons.mpr ⟨lw_p151, List.forall_mem_cons.mpr ⟨lw_p152, List.forall_mem_cons.mpr ⟨lw_p153, List.forall_mem_cons.mpr ⟨lw_p154, List.forall_mem_cons.mpr ⟨lw_p155, List.forall_mem_cons.mpr ⟨lw_p156, List.forall_mem_cons.mpr ⟨lw_p157, List.forall_mem_cons.mpr ⟨lw_p158, List.forall_mem_cons.mpr ⟨lw_p159, fun _ h => absurd h List.not_mem_nil⟩⟩⟩⟩⟩⟩⟩⟩⟩⟩⟩⟩⟩⟩⟩⟩
theorem lw_p160 : lw_okq (⟨"ClockZonesModel", "spanOf", "(IIII)I"⟩, 61) := ⟨⟨by decide +kernel, by decide +kernel⟩, List.mem_of_getElem? (i := 1205) (by decide +kernel), List.mem_of_getElem? (i := 1887) (by decide +kernel), List.mem_of_getElem? (i := 1888) (by decide +kernel)⟩
def lw_privs_11 : List (MethodName × Nat) := [(⟨"ClockZonesModel", "spanOf", "(IIII)I"⟩, 61)]
theorem lw_r11 : ∀ q ∈ lw_privs_11, lw_okq q := List.forall_mem_cons.mpr ⟨lw_p160, fun _ h => absurd h List.not_mem_nil⟩
def lw_privs : List (MethodName × Nat) := lw_privs_1 ++ (lw_privs_2 ++ (lw_privs_3 ++ (lw_privs_4 ++ (lw_privs_5 ++ (lw_privs_6 ++ (lw_privs_7 ++ (lw_privs_8 ++ (lw_privs_9 ++ (lw_privs_10 ++ (lw_privs_11))))))))))
def lw_tbl : List Cond := k2_sels lw_privs ++ tables_1
theorem lw_privs_ok : ∀ q ∈ lw_privs, lw_okq q := by
  show ∀ q ∈ lw_privs_1 ++ (lw_privs_2 ++ (lw_privs_3 ++ (lw_privs_4 ++ (lw_privs_5 ++ (lw_privs_6 ++ (lw_privs_7 ++ (lw_privs_8 ++ (lw_privs_9 ++ (lw_privs_10 ++ (lw_privs_11)))))))))), lw_okq q
  exact List.forall_mem_append.mpr ⟨lw_r1, List.forall_mem_append.mpr ⟨lw_r2, List.forall_mem_append.mpr ⟨lw_r3, List.forall_mem_append.mpr ⟨lw_r4, List.forall_mem_append.mpr ⟨lw_r5, List.forall_mem_append.mpr ⟨lw_r6, List.forall_mem_append.mpr ⟨lw_r7, List.forall_mem_append.mpr ⟨lw_r8, List.forall_mem_append.mpr ⟨lw_r9, List.forall_mem_append.mpr ⟨lw_r10, lw_r11⟩⟩⟩⟩⟩⟩⟩⟩⟩⟩
-- ===== end of PART A; then your names; then what follows =====
end
section
/-! The classes (names, fields, types: printed by the kit), and the tables of our own small machine: methods by number, what each index of a constant pool stands for, with its place in lw_tbl. Written by wip/whole/gen/mktab.py. -/
def RX0 : String := "ClockZones$Graph"
def TX0 : u_T := fun k => match k with
  | 0 => ("ClockZones$Graph", "zones", "[LClockZones$Zone;", true)
  | 1 => ("ClockZones$Graph", "places", "[I", true)
  | 2 => ("ClockZones$Graph", "parents", "[I", true)
  | 3 => ("ClockZones$Graph", "edges", "[I", true)
  | 4 => ("ClockZones$Graph", "depths", "[I", true)
  | 5 => ("ClockZones$Graph", "opens", "[I", true)
  | 6 => ("ClockZones$Graph", "firsts", "[I", true)
  | 7 => ("ClockZones$Graph", "way", "[I", true)
  | 8 => ("ClockZones$Graph", "work", "LClockZones$Zone;", true)
  | _ => ("ClockZones$Graph", "count", "I", false)
def tyX0 : Nat → FieldType := fun k => match k with
  | 0 => .array (.object "ClockZones$Zone")
  | 1 => .array .int
  | 2 => .array .int
  | 3 => .array .int
  | 4 => .array .int
  | 5 => .array .int
  | 6 => .array .int
  | 7 => .array .int
  | 8 => .object "ClockZones$Zone"
  | _ => .int
abbrev wsX00 : List Cond := u_ws RX0 TX0 10
theorem nmX0 : ∀ a, a < 10 → ∀ b, b < 10 → a ≠ b → (TX0 a).2.1 ≠ (TX0 b).2.1 := by decide +kernel
theorem tyX0_ok : ∀ k, k < 10 → parseFieldDescriptor (TX0 k).2.2.1 = some (tyX0 k) := by decide +kernel
def RX1 : String := "ClockZones$History"
def TX1 : u_T := fun k => match k with
  | 0 => ("ClockZones$History", "owners", "[I", true)
  | 1 => ("ClockZones$History", "zones", "[LClockZones$Zone;", true)
  | 2 => ("ClockZones$History", "rows", "[I", true)
  | 3 => ("ClockZones$History", "lengths", "[I", true)
  | 4 => ("ClockZones$History", "next", "I", false)
  | _ => ("ClockZones$History", "count", "I", false)
def tyX1 : Nat → FieldType := fun k => match k with
  | 0 => .array .int
  | 1 => .array (.object "ClockZones$Zone")
  | 2 => .array .int
  | 3 => .array .int
  | 4 => .int
  | _ => .int
abbrev wsX10 : List Cond := u_ws RX1 TX1 6
theorem nmX1 : ∀ a, a < 6 → ∀ b, b < 6 → a ≠ b → (TX1 a).2.1 ≠ (TX1 b).2.1 := by decide +kernel
theorem tyX1_ok : ∀ k, k < 6 → parseFieldDescriptor (TX1 k).2.2.1 = some (tyX1 k) := by decide +kernel
def RX2 : String := "ClockZones$Path"
def TX2 : u_T := fun k => match k with
  | 0 => ("ClockZones$Path", "edges", "[I", true)
  | _ => ("ClockZones$Path", "length", "I", false)
def tyX2 : Nat → FieldType := fun k => match k with
  | 0 => .array .int
  | _ => .int
abbrev wsX20 : List Cond := u_ws RX2 TX2 2
theorem nmX2 : ∀ a, a < 2 → ∀ b, b < 2 → a ≠ b → (TX2 a).2.1 ≠ (TX2 b).2.1 := by decide +kernel
theorem tyX2_ok : ∀ k, k < 2 → parseFieldDescriptor (TX2 k).2.2.1 = some (tyX2 k) := by decide +kernel
def RX3 : String := "ClockZones$Plan"
def TX3 : u_T := fun k => match k with
  | 0 => ("ClockZones$Plan", "lines", "I", false)
  | 1 => ("ClockZones$Plan", "clocks", "I", false)
  | 2 => ("ClockZones$Plan", "places", "I", false)
  | 3 => ("ClockZones$Plan", "edges", "I", false)
  | 4 => ("ClockZones$Plan", "start", "I", false)
  | 5 => ("ClockZones$Plan", "started", "Z", false)
  | 6 => ("ClockZones$Plan", "clockNames", "[I", true)
  | 7 => ("ClockZones$Plan", "placeNames", "[I", true)
  | 8 => ("ClockZones$Plan", "greats", "[I", true)
  | 9 => ("ClockZones$Plan", "ruleCounts", "[I", true)
  | 10 => ("ClockZones$Plan", "ruleClocks", "[I", true)
  | 11 => ("ClockZones$Plan", "ruleRels", "[I", true)
  | 12 => ("ClockZones$Plan", "ruleNumbers", "[I", true)
  | 13 => ("ClockZones$Plan", "from", "[I", true)
  | 14 => ("ClockZones$Plan", "to", "[I", true)
  | 15 => ("ClockZones$Plan", "setCounts", "[I", true)
  | 16 => ("ClockZones$Plan", "setClocks", "[I", true)
  | _ => ("ClockZones$Plan", "setNumbers", "[I", true)
def tyX3 : Nat → FieldType := fun k => match k with
  | 0 => .int
  | 1 => .int
  | 2 => .int
  | 3 => .int
  | 4 => .int
  | 5 => .boolean
  | 6 => .array .int
  | 7 => .array .int
  | 8 => .array .int
  | 9 => .array .int
  | 10 => .array .int
  | 11 => .array .int
  | 12 => .array .int
  | 13 => .array .int
  | 14 => .array .int
  | 15 => .array .int
  | 16 => .array .int
  | _ => .array .int
abbrev wsX30 : List Cond := u_ws RX3 TX3 18
theorem nmX3 : ∀ a, a < 18 → ∀ b, b < 18 → a ≠ b → (TX3 a).2.1 ≠ (TX3 b).2.1 := by decide +kernel
theorem tyX3_ok : ∀ k, k < 18 → parseFieldDescriptor (TX3 k).2.2.1 = some (tyX3 k) := by decide +kernel
def RX4 : String := "ClockZones$Reader"
def TX4 : u_T := fun k => match k with
  | 0 => ("ClockZones$Reader", "tape", "[B", true)
  | 1 => ("ClockZones$Reader", "taped", "I", false)
  | 2 => ("ClockZones$Reader", "fresh", "LClockZones$Plan;", false)
  | 3 => ("ClockZones$Reader", "length", "I", false)
  | 4 => ("ClockZones$Reader", "pos", "I", false)
  | 5 => ("ClockZones$Reader", "kind", "I", false)
  | 6 => ("ClockZones$Reader", "at", "I", false)
  | 7 => ("ClockZones$Reader", "number", "I", false)
  | 8 => ("ClockZones$Reader", "faultKind", "I", false)
  | _ => ("ClockZones$Reader", "faultAt", "I", false)
def tyX4 : Nat → FieldType := fun k => match k with
  | 0 => .array .byte
  | 1 => .int
  | 2 => .object "ClockZones$Plan"
  | 3 => .int
  | 4 => .int
  | 5 => .int
  | 6 => .int
  | 7 => .int
  | 8 => .int
  | _ => .int
abbrev wsX40 : List Cond := u_ws RX4 TX4 10
theorem nmX4 : ∀ a, a < 10 → ∀ b, b < 10 → a ≠ b → (TX4 a).2.1 ≠ (TX4 b).2.1 := by decide +kernel
theorem tyX4_ok : ∀ k, k < 10 → parseFieldDescriptor (TX4 k).2.2.1 = some (tyX4 k) := by decide +kernel
def RX5 : String := "ClockZones$Times"
def TX5 : u_T := fun k => match k with
  | 0 => ("ClockZones$Times", "gaps", "[I", true)
  | 1 => ("ClockZones$Times", "wholeGaps", "[I", true)
  | 2 => ("ClockZones$Times", "setMoments", "[I", true)
  | 3 => ("ClockZones$Times", "setNumbers", "[I", true)
  | 4 => ("ClockZones$Times", "stale", "Z", false)
  | 5 => ("ClockZones$Times", "wholeStale", "Z", false)
  | 6 => ("ClockZones$Times", "can", "Z", false)
  | _ => ("ClockZones$Times", "canWhole", "Z", false)
def tyX5 : Nat → FieldType := fun k => match k with
  | 0 => .array .int
  | 1 => .array .int
  | 2 => .array .int
  | 3 => .array .int
  | 4 => .boolean
  | 5 => .boolean
  | 6 => .boolean
  | _ => .boolean
abbrev wsX50 : List Cond := u_ws RX5 TX5 8
theorem nmX5 : ∀ a, a < 8 → ∀ b, b < 8 → a ≠ b → (TX5 a).2.1 ≠ (TX5 b).2.1 := by decide +kernel
theorem tyX5_ok : ∀ k, k < 8 → parseFieldDescriptor (TX5 k).2.2.1 = some (tyX5 k) := by decide +kernel
def RX6 : String := "ClockZones$Walk"
def TX6 : u_T := fun k => match k with
  | _ => ("ClockZones$Walk", "zone", "LClockZones$Zone;", true)
def tyX6 : Nat → FieldType := fun k => match k with
  | _ => .object "ClockZones$Zone"
abbrev wsX60 : List Cond := u_ws RX6 TX6 1
theorem nmX6 : ∀ a, a < 1 → ∀ b, b < 1 → a ≠ b → (TX6 a).2.1 ≠ (TX6 b).2.1 := by decide +kernel
theorem tyX6_ok : ∀ k, k < 1 → parseFieldDescriptor (TX6 k).2.2.1 = some (tyX6 k) := by decide +kernel
def RX7 : String := "ClockZones$Zone"
def TX7 : u_T := fun k => match k with
  | 0 => ("ClockZones$Zone", "cells", "[I", true)
  | 1 => ("ClockZones$Zone", "size", "I", false)
  | _ => ("ClockZones$Zone", "vacant", "Z", false)
def tyX7 : Nat → FieldType := fun k => match k with
  | 0 => .array .int
  | 1 => .int
  | _ => .boolean
abbrev wsX70 : List Cond := u_ws RX7 TX7 3
theorem nmX7 : ∀ a, a < 3 → ∀ b, b < 3 → a ≠ b → (TX7 a).2.1 ≠ (TX7 b).2.1 := by decide +kernel
theorem tyX7_ok : ∀ k, k < 3 → parseFieldDescriptor (TX7 k).2.2.1 = some (tyX7 k) := by decide +kernel
def RX8 : String := "ClockZones"
def TX8 : u_T := fun k => match k with
  | 0 => ("ClockZones", "reader", "LClockZones$Reader;", true)
  | 1 => ("ClockZones", "plan", "LClockZones$Plan;", false)
  | 2 => ("ClockZones", "tables", "[LClockZones$Zone;", true)
  | 3 => ("ClockZones", "work", "LClockZones$Zone;", true)
  | 4 => ("ClockZones", "timed", "LClockZones$Zone;", true)
  | 5 => ("ClockZones", "point", "[I", true)
  | 6 => ("ClockZones", "graph", "LClockZones$Graph;", true)
  | 7 => ("ClockZones", "path", "LClockZones$Path;", true)
  | 8 => ("ClockZones", "times", "LClockZones$Times;", true)
  | 9 => ("ClockZones", "walk", "LClockZones$Walk;", true)
  | _ => ("ClockZones", "history", "LClockZones$History;", true)
def tyX8 : Nat → FieldType := fun k => match k with
  | 0 => .object "ClockZones$Reader"
  | 1 => .object "ClockZones$Plan"
  | 2 => .array (.object "ClockZones$Zone")
  | 3 => .object "ClockZones$Zone"
  | 4 => .object "ClockZones$Zone"
  | 5 => .array .int
  | 6 => .object "ClockZones$Graph"
  | 7 => .object "ClockZones$Path"
  | 8 => .object "ClockZones$Times"
  | 9 => .object "ClockZones$Walk"
  | _ => .object "ClockZones$History"
abbrev wsX80 : List Cond := u_ws RX8 TX8 11
theorem nmX8 : ∀ a, a < 11 → ∀ b, b < 11 → a ≠ b → (TX8 a).2.1 ≠ (TX8 b).2.1 := by decide +kernel
theorem tyX8_ok : ∀ k, k < 11 → parseFieldDescriptor (TX8 k).2.2.1 = some (tyX8 k) := by decide +kernel
def RX9 : String := "ClockZonesModel"
def TX9 : u_T := fun k => match k with
  | 0 => ("ClockZonesModel", "thrown", "I", false)
  | 1 => ("ClockZonesModel", "lines", "I", false)
  | 2 => ("ClockZonesModel", "clocks", "I", false)
  | 3 => ("ClockZonesModel", "places", "I", false)
  | 4 => ("ClockZonesModel", "edges", "I", false)
  | 5 => ("ClockZonesModel", "start", "I", false)
  | 6 => ("ClockZonesModel", "whenMany", "[I", true)
  | 7 => ("ClockZonesModel", "whenClock", "[I", true)
  | 8 => ("ClockZonesModel", "whenRel", "[I", true)
  | 9 => ("ClockZonesModel", "whenNumber", "[I", true)
  | 10 => ("ClockZonesModel", "edgeFrom", "[I", true)
  | 11 => ("ClockZonesModel", "edgeTo", "[I", true)
  | 12 => ("ClockZonesModel", "setMany", "[I", true)
  | 13 => ("ClockZonesModel", "setClock", "[I", true)
  | 14 => ("ClockZonesModel", "setNumber", "[I", true)
  | 15 => ("ClockZonesModel", "great", "[I", true)
  | 16 => ("ClockZonesModel", "now", "[I", true)
  | 17 => ("ClockZonesModel", "past", "[I", true)
  | 18 => ("ClockZonesModel", "pasts", "I", false)
  | 19 => ("ClockZonesModel", "nodePlace", "[I", true)
  | 20 => ("ClockZonesModel", "nodeBy", "[I", true)
  | 21 => ("ClockZonesModel", "nodeEdge", "[I", true)
  | 22 => ("ClockZonesModel", "nodeTable", "[I", true)
  | 23 => ("ClockZonesModel", "nodes", "I", false)
  | 24 => ("ClockZonesModel", "tape", "[B", true)
  | 25 => ("ClockZonesModel", "taped", "I", false)
  | 26 => ("ClockZonesModel", "size", "I", false)
  | 27 => ("ClockZonesModel", "next", "I", false)
  | 28 => ("ClockZonesModel", "from", "I", false)
  | 29 => ("ClockZonesModel", "token", "I", false)
  | 30 => ("ClockZonesModel", "value", "I", false)
  | 31 => ("ClockZonesModel", "fault", "I", false)
  | 32 => ("ClockZonesModel", "faultPlace", "I", false)
  | 33 => ("ClockZonesModel", "bad", "Z", false)
  | 34 => ("ClockZonesModel", "clockName", "[I", true)
  | 35 => ("ClockZonesModel", "placeName", "[I", true)
  | 36 => ("ClockZonesModel", "newClocks", "I", false)
  | 37 => ("ClockZonesModel", "newPlaces", "I", false)
  | 38 => ("ClockZonesModel", "newEdges", "I", false)
  | 39 => ("ClockZonesModel", "newStart", "I", false)
  | 40 => ("ClockZonesModel", "hasStart", "Z", false)
  | 41 => ("ClockZonesModel", "newLines", "I", false)
  | 42 => ("ClockZonesModel", "newMany", "[I", true)
  | 43 => ("ClockZonesModel", "newClock", "[I", true)
  | 44 => ("ClockZonesModel", "newRel", "[I", true)
  | 45 => ("ClockZonesModel", "newNumber", "[I", true)
  | 46 => ("ClockZonesModel", "newFrom", "[I", true)
  | 47 => ("ClockZonesModel", "newTo", "[I", true)
  | 48 => ("ClockZonesModel", "newSets", "[I", true)
  | 49 => ("ClockZonesModel", "newSetClock", "[I", true)
  | 50 => ("ClockZonesModel", "newSetNumber", "[I", true)
  | 51 => ("ClockZonesModel", "w", "[I", true)
  | 52 => ("ClockZonesModel", "dim", "I", false)
  | 53 => ("ClockZonesModel", "isVoid", "Z", false)
  | 54 => ("ClockZonesModel", "times", "[I", true)
  | 55 => ("ClockZonesModel", "road", "[I", true)
  | 56 => ("ClockZonesModel", "roads", "I", false)
  | 57 => ("ClockZonesModel", "since", "[I", true)
  | 58 => ("ClockZonesModel", "began", "[I", true)
  | 59 => ("ClockZonesModel", "sinceAt", "[I", true)
  | _ => ("ClockZonesModel", "beganAt", "[I", true)
def tyX9 : Nat → FieldType := fun k => match k with
  | 0 => .int
  | 1 => .int
  | 2 => .int
  | 3 => .int
  | 4 => .int
  | 5 => .int
  | 6 => .array .int
  | 7 => .array .int
  | 8 => .array .int
  | 9 => .array .int
  | 10 => .array .int
  | 11 => .array .int
  | 12 => .array .int
  | 13 => .array .int
  | 14 => .array .int
  | 15 => .array .int
  | 16 => .array .int
  | 17 => .array .int
  | 18 => .int
  | 19 => .array .int
  | 20 => .array .int
  | 21 => .array .int
  | 22 => .array .int
  | 23 => .int
  | 24 => .array .byte
  | 25 => .int
  | 26 => .int
  | 27 => .int
  | 28 => .int
  | 29 => .int
  | 30 => .int
  | 31 => .int
  | 32 => .int
  | 33 => .boolean
  | 34 => .array .int
  | 35 => .array .int
  | 36 => .int
  | 37 => .int
  | 38 => .int
  | 39 => .int
  | 40 => .boolean
  | 41 => .int
  | 42 => .array .int
  | 43 => .array .int
  | 44 => .array .int
  | 45 => .array .int
  | 46 => .array .int
  | 47 => .array .int
  | 48 => .array .int
  | 49 => .array .int
  | 50 => .array .int
  | 51 => .array .int
  | 52 => .int
  | 53 => .boolean
  | 54 => .array .int
  | 55 => .array .int
  | 56 => .int
  | 57 => .array .int
  | 58 => .array .int
  | 59 => .array .int
  | _ => .array .int
abbrev wsX90 : List Cond := u_ws RX9 TX9 61
theorem nmX9 : ∀ a, a < 61 → ∀ b, b < 61 → a ≠ b → (TX9 a).2.1 ≠ (TX9 b).2.1 := by decide +kernel
theorem tyX9_ok : ∀ k, k < 61 → parseFieldDescriptor (TX9 k).2.2.1 = some (tyX9 k) := by decide +kernel
abbrev mj_cl : List vw_C := [(RX0, TX0, 10), (RX1, TX1, 6), (RX2, TX2, 2), (RX3, TX3, 18), (RX4, TX4, 10), (RX5, TX5, 8), (RX6, TX6, 1), (RX7, TX7, 3), (RX8, TX8, 11), (RX9, TX9, 61)]
/-- how many fields a class has -/
def mj_nf (ci : Nat) : Nat := [10, 6, 2, 18, 10, 8, 1, 3, 11, 61].getD ci 0
/-- kinds of fields: 0 int, 1 boolean, 2 reference -/
def mj_kinds : List (List Nat) := [[2, 2, 2, 2, 2, 2, 2, 2, 2, 0], [2, 2, 2, 2, 0, 0], [2, 0], [0, 0, 0, 0, 0, 1, 2, 2, 2, 2, 2, 2, 2, 2, 2, 2, 2, 2], [2, 0, 2, 0, 0, 0, 0, 0, 0, 0], [2, 2, 2, 2, 1, 1, 1, 1], [2], [2, 0, 1], [2, 2, 2, 2, 2, 2, 2, 2, 2, 2, 2], [0, 0, 0, 0, 0, 0, 2, 2, 2, 2, 2, 2, 2, 2, 2, 2, 2, 2, 0, 2, 2, 2, 2, 0, 2, 0, 0, 0, 0, 0, 0, 0, 0, 1, 2, 2, 0, 0, 0, 0, 1, 0, 2, 2, 2, 2, 2, 2, 2, 2, 2, 2, 0, 1, 2, 2, 0, 2, 2, 2, 2]]
def mj_kind (ci k : Nat) : Nat := (mj_kinds.getD ci []).getD k 3
abbrev mj_Row : Type := MethodName × ByteArray × Nat × Option FieldType × Nat × Nat × Nat
/-- a method: name, bytes, locals, what it returns, arguments (with the receiver), level, number of its pool -/
def mj_tab : List mj_Row := [
  (⟨"ClockZones$Plan", "<init>", "()V"⟩, prog_5_method_1_code, 1, none, 1, 0, 3),
  (⟨"ClockZones$Reader", "<init>", "()V"⟩, prog_6_method_1_code, 1, none, 1, 1, 4),
  (⟨"java/util/Arrays", "fill", "([II)V"⟩, prog_20_method_103_code, 4, none, 2, 0, 12),
  (⟨"ClockZones$Zone", "<init>", "()V"⟩, prog_9_method_1_code, 1, none, 1, 1, 7),
  (⟨"ClockZones$Graph", "<init>", "()V"⟩, prog_2_method_1_code, 2, none, 1, 2, 0),
  (⟨"ClockZones$Path", "<init>", "()V"⟩, prog_4_method_1_code, 1, none, 1, 0, 2),
  (⟨"ClockZones$Times", "<init>", "()V"⟩, prog_7_method_1_code, 1, none, 1, 0, 5),
  (⟨"ClockZones$Walk", "<init>", "()V"⟩, prog_8_method_1_code, 1, none, 1, 2, 6),
  (⟨"ClockZones$History", "<init>", "()V"⟩, prog_3_method_1_code, 2, none, 1, 2, 1),
  (⟨"ClockZones", "<init>", "()V"⟩, prog_1_method_1_code, 2, none, 1, 3, 8),
  (⟨"ClockZonesModel", "put", "(III)V"⟩, prog_11_method_31_code, 4, none, 4, 0, 9),
  (⟨"ClockZonesModel", "nought", "()V"⟩, prog_11_method_35_code, 3, none, 1, 1, 9),
  (⟨"ClockZonesModel", "get", "(II)I"⟩, prog_11_method_30_code, 3, some (FieldType.int), 3, 0, 9),
  (⟨"ClockZonesModel", "stores", "(I)V"⟩, prog_11_method_46_code, 4, none, 2, 1, 9),
  (⟨"ClockZonesModel", "laysAll", "()V"⟩, prog_11_method_4_code, 2, none, 1, 2, 9),
  (⟨"ClockZonesModel", "<init>", "()V"⟩, prog_11_method_3_code, 1, none, 1, 3, 9),
  (⟨"ClockZones$Reader", "putBytes", "(I)V"⟩, prog_6_method_2_code, 3, none, 2, 0, 4),
  (⟨"ClockZones", "feed", "(IIIII)I"⟩, prog_1_method_2_code, 6, some (FieldType.int), 6, 1, 8),
  (⟨"ClockZonesModel", "four", "(I)V"⟩, prog_11_method_5_code, 3, none, 2, 0, 9),
  (⟨"ClockZonesModel", "feed", "(IIIII)I"⟩, prog_11_method_6_code, 6, some (FieldType.int), 6, 1, 9),
  (⟨"ClockZones$Plan", "clear", "()V"⟩, prog_5_method_2_code, 1, none, 1, 1, 3),
  (⟨"ClockZones$Reader", "readWord", "()V"⟩, prog_6_method_17_code, 1, none, 1, 0, 4),
  (⟨"ClockZones$Reader", "readDigits", "()V"⟩, prog_6_method_18_code, 1, none, 1, 0, 4),
  (⟨"ClockZones$Reader", "readSign", "()V"⟩, prog_6_method_19_code, 3, none, 1, 0, 4),
  (⟨"ClockZones$Reader", "advance", "()V"⟩, prog_6_method_16_code, 1, none, 1, 1, 4),
  (⟨"ClockZones$Reader", "fail", "(I)Z"⟩, prog_6_method_4_code, 2, some (FieldType.boolean), 2, 0, 4),
  (⟨"ClockZones$Plan", "indexIn", "([III)I"⟩, prog_5_method_5_code, 4, some (FieldType.int), 3, 0, 3),
  (⟨"ClockZones$Plan", "clockNamed", "(I)I"⟩, prog_5_method_3_code, 2, some (FieldType.int), 2, 1, 3),
  (⟨"ClockZones$Reader", "readClock", "()Z"⟩, prog_6_method_7_code, 1, some (FieldType.boolean), 1, 2, 4),
  (⟨"ClockZones$Reader", "endLine", "()Z"⟩, prog_6_method_6_code, 1, some (FieldType.boolean), 1, 2, 4),
  (⟨"ClockZones$Plan", "placeNamed", "(I)I"⟩, prog_5_method_4_code, 2, some (FieldType.int), 2, 1, 3),
  (⟨"ClockZones", "stayRules", "(I)I"⟩, prog_1_method_78_code, 1, some (FieldType.int), 1, 0, 8),
  (⟨"ClockZones$Reader", "clockHere", "()I"⟩, prog_6_method_13_code, 1, some (FieldType.int), 1, 2, 4),
  (⟨"ClockZones$Reader", "numberHere", "()Z"⟩, prog_6_method_15_code, 1, some (FieldType.boolean), 1, 1, 4),
  (⟨"ClockZones$Plan", "addRule", "(IIII)V"⟩, prog_5_method_6_code, 6, none, 5, 0, 3),
  (⟨"ClockZones$Reader", "readWhens", "(I)Z"⟩, prog_6_method_11_code, 5, some (FieldType.boolean), 2, 3, 4),
  (⟨"ClockZones$Reader", "readPlace", "()Z"⟩, prog_6_method_8_code, 2, some (FieldType.boolean), 1, 4, 4),
  (⟨"ClockZones$Reader", "placeHere", "()I"⟩, prog_6_method_14_code, 1, some (FieldType.int), 1, 2, 4),
  (⟨"ClockZones", "edgeRules", "(I)I"⟩, prog_1_method_79_code, 1, some (FieldType.int), 1, 0, 8),
  (⟨"ClockZones$Plan", "numberSet", "(II)I"⟩, prog_5_method_8_code, 4, some (FieldType.int), 3, 0, 3),
  (⟨"ClockZones$Plan", "addSet", "(III)V"⟩, prog_5_method_7_code, 5, none, 4, 0, 3),
  (⟨"ClockZones$Reader", "readSets", "(I)Z"⟩, prog_6_method_12_code, 4, some (FieldType.boolean), 2, 3, 4),
  (⟨"ClockZones$Reader", "readEdge", "()Z"⟩, prog_6_method_9_code, 4, some (FieldType.boolean), 1, 4, 4),
  (⟨"ClockZones$Reader", "readStart", "()Z"⟩, prog_6_method_10_code, 2, some (FieldType.boolean), 1, 3, 4),
  (⟨"ClockZones$Reader", "readLine", "()Z"⟩, prog_6_method_5_code, 1, some (FieldType.boolean), 1, 5, 4),
  (⟨"ClockZones$Reader", "readText", "(I)Z"⟩, prog_6_method_3_code, 3, some (FieldType.boolean), 2, 6, 4),
  (⟨"ClockZones$Zone", "layZero", "(I)V"⟩, prog_9_method_5_code, 2, none, 2, 1, 7),
  (⟨"ClockZones$History", "forgetAll", "()V"⟩, prog_3_method_2_code, 1, none, 1, 0, 1),
  (⟨"ClockZones", "beginAnew", "()V"⟩, prog_1_method_57_code, 2, none, 1, 2, 8),
  (⟨"ClockZones", "lessThan", "(I)I"⟩, prog_1_method_71_code, 1, some (FieldType.int), 1, 0, 8),
  (⟨"ClockZones", "atMost", "(I)I"⟩, prog_1_method_70_code, 1, some (FieldType.int), 1, 0, 8),
  (⟨"ClockZones", "upperOf", "(II)I"⟩, prog_1_method_75_code, 2, some (FieldType.int), 2, 1, 8),
  (⟨"ClockZones$Zone", "cell", "(II)I"⟩, prog_9_method_2_code, 3, some (FieldType.int), 3, 0, 7),
  (⟨"ClockZones", "sumOf", "(II)I"⟩, prog_1_method_74_code, 2, some (FieldType.int), 2, 0, 8),
  (⟨"ClockZones$Zone", "put", "(III)V"⟩, prog_9_method_3_code, 4, none, 4, 0, 7),
  (⟨"ClockZones$Zone", "tighten", "(III)V"⟩, prog_9_method_11_code, 7, none, 4, 1, 7),
  (⟨"ClockZones", "lowerOf", "(II)I"⟩, prog_1_method_76_code, 2, some (FieldType.int), 2, 1, 8),
  (⟨"ClockZones$Zone", "keepRules", "(LClockZones$Plan;I)V"⟩, prog_9_method_12_code, 6, none, 3, 2, 7),
  (⟨"ClockZones$Zone", "goUp", "()V"⟩, prog_9_method_14_code, 2, none, 1, 1, 7),
  (⟨"ClockZones$Zone", "waitIn", "(LClockZones$Plan;I)V"⟩, prog_9_method_18_code, 3, none, 3, 3, 7),
  (⟨"ClockZones$Zone", "greatOf", "(LClockZones$Plan;I)I"⟩, prog_9_method_25_code, 2, some (FieldType.int), 2, 0, 7),
  (⟨"ClockZones", "numberOf", "(I)I"⟩, prog_1_method_72_code, 1, some (FieldType.int), 1, 0, 8),
  (⟨"ClockZones$Zone", "roughBound", "(III)I"⟩, prog_9_method_26_code, 3, some (FieldType.int), 3, 1, 7),
  (⟨"ClockZones", "closeCells", "([III)Z"⟩, prog_1_method_80_code, 8, some (FieldType.boolean), 3, 1, 8),
  (⟨"ClockZones$Zone", "close", "()V"⟩, prog_9_method_28_code, 1, none, 1, 2, 7),
  (⟨"ClockZones$Zone", "roughen", "(LClockZones$Plan;)V"⟩, prog_9_method_24_code, 4, none, 2, 3, 7),
  (⟨"ClockZones$Zone", "become", "(LClockZones$Zone;)V"⟩, prog_9_method_8_code, 2, none, 2, 0, 7),
  (⟨"ClockZones$Graph", "append", "(IIII)V"⟩, prog_2_method_5_code, 5, none, 5, 1, 0),
  (⟨"ClockZones$Zone", "assign", "(II)V"⟩, prog_9_method_16_code, 4, none, 3, 1, 7),
  (⟨"ClockZones$Zone", "applySets", "(LClockZones$Plan;I)V"⟩, prog_9_method_13_code, 5, none, 3, 2, 7),
  (⟨"ClockZones$Zone", "stepBy", "(LClockZones$Plan;I)V"⟩, prog_9_method_19_code, 4, none, 3, 3, 7),
  (⟨"ClockZones$Zone", "covers", "(LClockZones$Zone;)Z"⟩, prog_9_method_23_code, 4, some (FieldType.boolean), 2, 1, 7),
  (⟨"ClockZones$Graph", "isCovered", "(I)Z"⟩, prog_2_method_4_code, 3, some (FieldType.boolean), 2, 2, 0),
  (⟨"ClockZones$Graph", "grow", "(LClockZones$Plan;II)V"⟩, prog_2_method_3_code, 4, none, 4, 4, 0),
  (⟨"ClockZones$Graph", "build", "(LClockZones$Plan;)V"⟩, prog_2_method_2_code, 4, none, 2, 5, 0),
  (⟨"ClockZones", "text", "(I)I"⟩, prog_1_method_3_code, 3, some (FieldType.int), 2, 7, 8),
  (⟨"ClockZonesModel", "isIn", "(III)Z"⟩, prog_11_method_2_code, 3, some (FieldType.boolean), 3, 0, 9),
  (⟨"ClockZonesModel", "see", "()I"⟩, prog_11_method_7_code, 1, some (FieldType.int), 1, 0, 9),
  (⟨"ClockZonesModel", "advance", "()V"⟩, prog_11_method_8_code, 3, none, 1, 1, 9),
  (⟨"ClockZonesModel", "isWord", "(I)Z"⟩, prog_11_method_10_code, 2, some (FieldType.boolean), 2, 0, 9),
  (⟨"ClockZonesModel", "must", "(ZI)V"⟩, prog_11_method_9_code, 3, none, 3, 0, 9),
  (⟨"ClockZonesModel", "opens", "(ZI)V"⟩, prog_11_method_14_code, 3, none, 3, 2, 9),
  (⟨"ClockZonesModel", "isName", "()Z"⟩, prog_11_method_11_code, 1, some (FieldType.boolean), 1, 0, 9),
  (⟨"ClockZonesModel", "at", "([III)I"⟩, prog_11_method_13_code, 4, some (FieldType.int), 3, 0, 9),
  (⟨"ClockZonesModel", "freshHere", "([II)I"⟩, prog_11_method_15_code, 4, some (FieldType.int), 3, 2, 9),
  (⟨"ClockZonesModel", "seenHere", "([II)I"⟩, prog_11_method_16_code, 3, some (FieldType.int), 3, 1, 9),
  (⟨"ClockZonesModel", "numberHere", "()I"⟩, prog_11_method_12_code, 2, some (FieldType.int), 1, 2, 9),
  (⟨"ClockZonesModel", "whensHere", "(I)V"⟩, prog_11_method_18_code, 6, none, 2, 3, 9),
  (⟨"ClockZonesModel", "placeHere", "()I"⟩, prog_11_method_17_code, 2, some (FieldType.int), 1, 2, 9),
  (⟨"ClockZonesModel", "setsHere", "(I)V"⟩, prog_11_method_19_code, 5, none, 2, 3, 9),
  (⟨"ClockZonesModel", "lineHere", "()V"⟩, prog_11_method_20_code, 3, none, 1, 4, 9),
  (⟨"ClockZonesModel", "copies", "([I[II)V"⟩, prog_11_method_22_code, 4, none, 3, 0, 9),
  (⟨"ClockZonesModel", "grows", "(II)V"⟩, prog_11_method_25_code, 3, none, 3, 0, 9),
  (⟨"ClockZonesModel", "greatens", "(I)V"⟩, prog_11_method_24_code, 3, none, 2, 1, 9),
  (⟨"ClockZonesModel", "reached", "(I)I"⟩, prog_11_method_27_code, 1, some (FieldType.int), 1, 0, 9),
  (⟨"ClockZonesModel", "tightens", "(III)V"⟩, prog_11_method_32_code, 4, none, 4, 1, 9),
  (⟨"ClockZonesModel", "meets", "(IIII)V"⟩, prog_11_method_36_code, 5, none, 5, 2, 9),
  (⟨"ClockZonesModel", "plus", "(II)I"⟩, prog_11_method_28_code, 2, some (FieldType.int), 2, 0, 9),
  (⟨"ClockZonesModel", "closes", "()V"⟩, prog_11_method_33_code, 4, none, 1, 2, 9),
  (⟨"ClockZonesModel", "whens", "(I)V"⟩, prog_11_method_37_code, 3, none, 2, 3, 9),
  (⟨"ClockZonesModel", "ups", "()V"⟩, prog_11_method_38_code, 2, none, 1, 1, 9),
  (⟨"ClockZonesModel", "stays", "(I)V"⟩, prog_11_method_42_code, 2, none, 2, 4, 9),
  (⟨"ClockZonesModel", "numberOf", "(I)I"⟩, prog_11_method_29_code, 1, some (FieldType.int), 1, 0, 9),
  (⟨"ClockZonesModel", "roughens", "()V"⟩, prog_11_method_45_code, 4, none, 1, 3, 9),
  (⟨"ClockZonesModel", "adds", "(III)V"⟩, prog_11_method_94_code, 6, none, 4, 1, 9),
  (⟨"ClockZonesModel", "loadsNode", "(I)V"⟩, prog_11_method_48_code, 4, none, 2, 1, 9),
  (⟨"ClockZonesModel", "sets", "(II)V"⟩, prog_11_method_40_code, 4, none, 3, 1, 9),
  (⟨"ClockZonesModel", "steps", "(I)V"⟩, prog_11_method_43_code, 3, none, 2, 5, 9),
  (⟨"ClockZonesModel", "isInside", "([II)Z"⟩, prog_11_method_80_code, 5, some (FieldType.boolean), 3, 1, 9),
  (⟨"ClockZonesModel", "isKnown", "(I)Z"⟩, prog_11_method_93_code, 3, some (FieldType.boolean), 2, 2, 9),
  (⟨"ClockZonesModel", "explores", "()V"⟩, prog_11_method_95_code, 3, none, 1, 6, 9),
  (⟨"ClockZonesModel", "becomes", "()V"⟩, prog_11_method_23_code, 2, none, 1, 7, 9),
  (⟨"ClockZonesModel", "text", "(I)I"⟩, prog_11_method_21_code, 2, some (FieldType.int), 2, 8, 9),
  (⟨"ClockZones", "fault", "(I)I"⟩, prog_1_method_4_code, 2, some (FieldType.int), 2, 0, 8),
  (⟨"ClockZonesModel", "fault", "(I)I"⟩, prog_11_method_26_code, 2, some (FieldType.int), 2, 0, 9),
  (⟨"ClockZones", "isPlace", "(I)Z"⟩, prog_1_method_60_code, 2, some (FieldType.boolean), 2, 0, 8),
  (⟨"ClockZones$Plan", "edgesFrom", "(I)I"⟩, prog_5_method_9_code, 4, some (FieldType.int), 2, 0, 3),
  (⟨"ClockZones$Plan", "edgesTo", "(I)I"⟩, prog_5_method_10_code, 4, some (FieldType.int), 2, 0, 3),
  (⟨"ClockZones$Graph", "nodesOf", "(I)I"⟩, prog_2_method_6_code, 4, some (FieldType.int), 2, 0, 0),
  (⟨"ClockZones", "place", "(II)I"⟩, prog_1_method_5_code, 3, some (FieldType.int), 3, 1, 8),
  (⟨"ClockZonesModel", "isPlace", "(I)Z"⟩, prog_11_method_51_code, 2, some (FieldType.boolean), 2, 1, 9),
  (⟨"ClockZonesModel", "firstNode", "(I)I"⟩, prog_11_method_100_code, 3, some (FieldType.int), 2, 0, 9),
  (⟨"ClockZonesModel", "place", "(II)I"⟩, prog_11_method_109_code, 5, some (FieldType.int), 3, 2, 9),
  (⟨"ClockZonesModel", "thrown", "()I"⟩, prog_11_method_1_code, 1, some (FieldType.int), 1, 0, 9),
  (⟨"ClockZones", "isEdge", "(I)Z"⟩, prog_1_method_61_code, 2, some (FieldType.boolean), 2, 0, 8),
  (⟨"ClockZones$Graph", "hasNodeBy", "(I)Z"⟩, prog_2_method_7_code, 3, some (FieldType.boolean), 2, 0, 0),
  (⟨"ClockZones", "edge", "(II)I"⟩, prog_1_method_6_code, 3, some (FieldType.int), 3, 1, 8),
  (⟨"ClockZonesModel", "isEdge", "(I)Z"⟩, prog_11_method_52_code, 2, some (FieldType.boolean), 2, 1, 9),
  (⟨"ClockZonesModel", "edge", "(II)I"⟩, prog_11_method_110_code, 4, some (FieldType.int), 3, 2, 9),
  (⟨"ClockZones", "when", "(III)I"⟩, prog_1_method_7_code, 6, some (FieldType.int), 4, 1, 8),
  (⟨"ClockZonesModel", "when", "(III)I"⟩, prog_11_method_111_code, 5, some (FieldType.int), 4, 2, 9),
  (⟨"ClockZones", "set", "(III)I"⟩, prog_1_method_8_code, 5, some (FieldType.int), 4, 1, 8),
  (⟨"ClockZonesModel", "isTwo", "(I)Z"⟩, prog_11_method_54_code, 1, some (FieldType.boolean), 1, 1, 9),
  (⟨"ClockZonesModel", "set", "(III)I"⟩, prog_11_method_112_code, 4, some (FieldType.int), 4, 2, 9),
  (⟨"ClockZones", "isClock", "(I)Z"⟩, prog_1_method_59_code, 2, some (FieldType.boolean), 2, 0, 8),
  (⟨"ClockZones", "great", "(I)I"⟩, prog_1_method_9_code, 2, some (FieldType.int), 2, 1, 8),
  (⟨"ClockZonesModel", "isClock", "(I)Z"⟩, prog_11_method_50_code, 2, some (FieldType.boolean), 2, 1, 9),
  (⟨"ClockZonesModel", "great", "(I)I"⟩, prog_11_method_116_code, 2, some (FieldType.int), 2, 2, 9),
  (⟨"ClockZones", "isTable", "(I)Z"⟩, prog_1_method_58_code, 1, some (FieldType.boolean), 1, 0, 8),
  (⟨"ClockZones$Zone", "release", "(I)V"⟩, prog_9_method_17_code, 3, none, 2, 1, 7),
  (⟨"ClockZones$Zone", "layAll", "(I)V"⟩, prog_9_method_6_code, 3, none, 2, 2, 7),
  (⟨"ClockZones$Zone", "layNothing", "(I)V"⟩, prog_9_method_7_code, 2, none, 2, 2, 7),
  (⟨"ClockZones$Zone", "goesBeyond", "(I)Z"⟩, prog_9_method_29_code, 5, some (FieldType.boolean), 2, 1, 7),
  (⟨"ClockZones$History", "goOn", "()V"⟩, prog_3_method_5_code, 1, none, 1, 0, 1),
  (⟨"ClockZones$History", "keepTable", "(ILClockZones$Zone;)V"⟩, prog_3_method_3_code, 3, none, 3, 1, 1),
  (⟨"ClockZones", "settle", "(I)I"⟩, prog_1_method_64_code, 2, some (FieldType.int), 2, 2, 8),
  (⟨"ClockZones", "lay", "(II)Z"⟩, prog_1_method_10_code, 4, some (FieldType.boolean), 3, 3, 8),
  (⟨"ClockZonesModel", "isTable", "(I)Z"⟩, prog_11_method_49_code, 1, some (FieldType.boolean), 1, 1, 9),
  (⟨"ClockZonesModel", "wide", "()V"⟩, prog_11_method_34_code, 3, none, 1, 1, 9),
  (⟨"ClockZonesModel", "isFar", "()Z"⟩, prog_11_method_57_code, 3, some (FieldType.boolean), 1, 1, 9),
  (⟨"ClockZonesModel", "keeps", "()V"⟩, prog_11_method_55_code, 2, none, 1, 0, 9),
  (⟨"ClockZonesModel", "becomesTable", "(I)I"⟩, prog_11_method_58_code, 2, some (FieldType.int), 2, 2, 9),
  (⟨"ClockZonesModel", "lay", "(II)Z"⟩, prog_11_method_59_code, 3, some (FieldType.boolean), 3, 3, 9),
  (⟨"ClockZones", "isPair", "(II)Z"⟩, prog_1_method_63_code, 3, some (FieldType.boolean), 3, 1, 8),
  (⟨"ClockZones$Zone", "relate", "(IIII)V"⟩, prog_9_method_10_code, 5, none, 5, 2, 7),
  (⟨"ClockZones", "meet", "(IIIII)I"⟩, prog_1_method_11_code, 6, some (FieldType.int), 6, 3, 8),
  (⟨"ClockZonesModel", "arePair", "(II)Z"⟩, prog_11_method_53_code, 3, some (FieldType.boolean), 3, 1, 9),
  (⟨"ClockZonesModel", "loads", "(I)V"⟩, prog_11_method_47_code, 4, none, 2, 1, 9),
  (⟨"ClockZonesModel", "meet", "(IIIII)I"⟩, prog_11_method_60_code, 6, some (FieldType.int), 6, 3, 9),
  (⟨"ClockZones$Zone", "goDown", "()V"⟩, prog_9_method_15_code, 4, none, 1, 1, 7),
  (⟨"ClockZones", "pass", "(II)I"⟩, prog_1_method_12_code, 3, some (FieldType.int), 3, 3, 8),
  (⟨"ClockZonesModel", "downs", "()V"⟩, prog_11_method_39_code, 2, none, 1, 3, 9),
  (⟨"ClockZonesModel", "pass", "(II)I"⟩, prog_11_method_61_code, 3, some (FieldType.int), 3, 4, 9),
  (⟨"ClockZones", "reset", "(III)I"⟩, prog_1_method_13_code, 4, some (FieldType.int), 4, 3, 8),
  (⟨"ClockZonesModel", "reset", "(III)I"⟩, prog_11_method_62_code, 4, some (FieldType.int), 4, 3, 9),
  (⟨"ClockZones", "free", "(II)I"⟩, prog_1_method_14_code, 3, some (FieldType.int), 3, 3, 8),
  (⟨"ClockZonesModel", "frees", "(I)V"⟩, prog_11_method_41_code, 3, none, 2, 1, 9),
  (⟨"ClockZonesModel", "free", "(II)I"⟩, prog_11_method_63_code, 3, some (FieldType.int), 3, 3, 9),
  (⟨"ClockZones", "copy", "(II)I"⟩, prog_1_method_15_code, 3, some (FieldType.int), 3, 3, 8),
  (⟨"ClockZonesModel", "copy", "(II)I"⟩, prog_11_method_64_code, 3, some (FieldType.int), 3, 3, 9),
  (⟨"ClockZones$Zone", "widenTo", "(LClockZones$Zone;)V"⟩, prog_9_method_21_code, 3, none, 2, 1, 7),
  (⟨"ClockZones", "join", "(II)I"⟩, prog_1_method_16_code, 3, some (FieldType.int), 3, 3, 8),
  (⟨"ClockZonesModel", "other", "(III)I"⟩, prog_11_method_65_code, 4, some (FieldType.int), 4, 0, 9),
  (⟨"ClockZonesModel", "join", "(II)I"⟩, prog_11_method_66_code, 5, some (FieldType.int), 3, 3, 9),
  (⟨"ClockZones$Zone", "narrowTo", "(LClockZones$Zone;)V"⟩, prog_9_method_22_code, 3, none, 2, 3, 7),
  (⟨"ClockZones", "both", "(II)I"⟩, prog_1_method_17_code, 3, some (FieldType.int), 3, 4, 8),
  (⟨"ClockZonesModel", "meetsTable", "(II)V"⟩, prog_11_method_67_code, 5, none, 3, 3, 9),
  (⟨"ClockZonesModel", "both", "(II)I"⟩, prog_11_method_68_code, 3, some (FieldType.int), 3, 4, 9),
  (⟨"ClockZones", "step", "(II)I"⟩, prog_1_method_18_code, 3, some (FieldType.int), 3, 4, 8),
  (⟨"ClockZonesModel", "step", "(II)I"⟩, prog_11_method_70_code, 3, some (FieldType.int), 3, 6, 9),
  (⟨"ClockZones", "stay", "(II)I"⟩, prog_1_method_19_code, 3, some (FieldType.int), 3, 4, 8),
  (⟨"ClockZonesModel", "stay", "(II)I"⟩, prog_11_method_72_code, 3, some (FieldType.int), 3, 5, 9),
  (⟨"ClockZones", "rough", "(I)I"⟩, prog_1_method_20_code, 2, some (FieldType.int), 2, 4, 8),
  (⟨"ClockZonesModel", "rough", "(I)I"⟩, prog_11_method_73_code, 2, some (FieldType.int), 2, 4, 9),
  (⟨"ClockZones", "isNode", "(I)Z"⟩, prog_1_method_62_code, 2, some (FieldType.boolean), 2, 0, 8),
  (⟨"ClockZones", "take", "(II)I"⟩, prog_1_method_21_code, 3, some (FieldType.int), 3, 3, 8),
  (⟨"ClockZonesModel", "take", "(II)I"⟩, prog_11_method_74_code, 3, some (FieldType.int), 3, 3, 9),
  (⟨"ClockZones$History", "dropLatest", "()I"⟩, prog_3_method_6_code, 1, some (FieldType.int), 1, 0, 1),
  (⟨"ClockZones$History", "restorePath", "(ILClockZones$Path;)V"⟩, prog_3_method_7_code, 3, none, 3, 0, 1),
  (⟨"ClockZones", "undo", "()I"⟩, prog_1_method_23_code, 3, some (FieldType.int), 1, 1, 8),
  (⟨"ClockZonesModel", "undo", "()I"⟩, prog_11_method_56_code, 2, some (FieldType.int), 1, 0, 9),
  (⟨"ClockZones", "reachedOf", "(I)I"⟩, prog_1_method_73_code, 1, some (FieldType.int), 1, 0, 8),
  (⟨"ClockZones", "tellBound", "(II)I"⟩, prog_1_method_68_code, 2, some (FieldType.int), 2, 1, 8),
  (⟨"ClockZones", "boundOf", "(LClockZones$Zone;III)I"⟩, prog_1_method_67_code, 5, some (FieldType.int), 5, 2, 8),
  (⟨"ClockZones", "bound", "(IIII)I"⟩, prog_1_method_24_code, 5, some (FieldType.int), 5, 3, 8),
  (⟨"ClockZonesModel", "told", "(II)I"⟩, prog_11_method_75_code, 3, some (FieldType.int), 3, 1, 9),
  (⟨"ClockZonesModel", "bound", "(IIII)I"⟩, prog_11_method_76_code, 5, some (FieldType.int), 5, 2, 9),
  (⟨"ClockZones", "empty", "(I)I"⟩, prog_1_method_25_code, 2, some (FieldType.int), 2, 1, 8),
  (⟨"ClockZonesModel", "empty", "(I)I"⟩, prog_11_method_78_code, 2, some (FieldType.int), 2, 2, 9),
  (⟨"ClockZones", "within", "(II)I"⟩, prog_1_method_26_code, 3, some (FieldType.int), 3, 2, 8),
  (⟨"ClockZonesModel", "within", "(II)I"⟩, prog_11_method_79_code, 3, some (FieldType.int), 3, 2, 9),
  (⟨"ClockZones$Zone", "holdsHalves", "([I)Z"⟩, prog_9_method_30_code, 4, some (FieldType.boolean), 2, 1, 7),
  (⟨"ClockZones", "has", "(IIIII)I"⟩, prog_1_method_27_code, 6, some (FieldType.int), 6, 2, 8),
  (⟨"ClockZonesModel", "hasTimes", "(I)Z"⟩, prog_11_method_81_code, 7, some (FieldType.boolean), 2, 1, 9),
  (⟨"ClockZonesModel", "has", "(IIIII)I"⟩, prog_11_method_82_code, 6, some (FieldType.int), 6, 2, 9),
  (⟨"ClockZones$Zone", "followsFromOthers", "(II)Z"⟩, prog_9_method_32_code, 4, some (FieldType.boolean), 3, 1, 7),
  (⟨"ClockZones$Zone", "countsAsPair", "(III)Z"⟩, prog_9_method_31_code, 5, some (FieldType.boolean), 4, 2, 7),
  (⟨"ClockZones", "pairs", "(II)I"⟩, prog_1_method_28_code, 7, some (FieldType.int), 3, 3, 8),
  (⟨"ClockZonesModel", "follows", "(II)Z"⟩, prog_11_method_83_code, 4, some (FieldType.boolean), 3, 1, 9),
  (⟨"ClockZonesModel", "pairs", "(II)I"⟩, prog_11_method_84_code, 6, some (FieldType.int), 3, 2, 9),
  (⟨"ClockZones", "wholeBound", "(I)I"⟩, prog_1_method_77_code, 1, some (FieldType.int), 1, 1, 8),
  (⟨"ClockZones$Zone", "keepWhole", "()V"⟩, prog_9_method_27_code, 2, none, 1, 3, 7),
  (⟨"ClockZones", "pointsFrom", "(LClockZones$Zone;[II)I"⟩, prog_1_method_69_code, 7, some (FieldType.int), 3, 1, 20),
  (⟨"ClockZones", "pointsFrom", "(LClockZones$Zone;[II)I"⟩, prog_1_method_69_code, 7, some (FieldType.int), 3, 2, 21),
  (⟨"ClockZones", "pointsFrom", "(LClockZones$Zone;[II)I"⟩, prog_1_method_69_code, 7, some (FieldType.int), 3, 3, 22),
  (⟨"ClockZones", "pointsFrom", "(LClockZones$Zone;[II)I"⟩, prog_1_method_69_code, 7, some (FieldType.int), 3, 4, 23),
  (⟨"ClockZones", "pointsFrom", "(LClockZones$Zone;[II)I"⟩, prog_1_method_69_code, 7, some (FieldType.int), 3, 5, 24),
  (⟨"ClockZones", "pointsFrom", "(LClockZones$Zone;[II)I"⟩, prog_1_method_69_code, 7, some (FieldType.int), 3, 6, 25),
  (⟨"ClockZones", "whole", "(II)I"⟩, prog_1_method_29_code, 4, some (FieldType.int), 3, 7, 8),
  (⟨"ClockZonesModel", "whole", "(II)I"⟩, prog_11_method_86_code, 8, some (FieldType.int), 3, 2, 9),
  (⟨"ClockZones$Zone", "leastOf", "(I)I"⟩, prog_9_method_4_code, 2, some (FieldType.int), 2, 1, 7),
  (⟨"ClockZones", "first", "(II)I"⟩, prog_1_method_30_code, 4, some (FieldType.int), 3, 4, 8),
  (⟨"ClockZonesModel", "wholes", "()V"⟩, prog_11_method_87_code, 3, none, 1, 3, 9),
  (⟨"ClockZonesModel", "first", "(II)I"⟩, prog_11_method_88_code, 4, some (FieldType.int), 3, 4, 9),
  (⟨"ClockZones", "nodes", "()I"⟩, prog_1_method_36_code, 1, some (FieldType.int), 1, 0, 8),
  (⟨"ClockZonesModel", "nodes", "()I"⟩, prog_11_method_96_code, 1, some (FieldType.int), 1, 0, 9),
  (⟨"ClockZones", "node", "(II)I"⟩, prog_1_method_37_code, 3, some (FieldType.int), 3, 1, 8),
  (⟨"ClockZonesModel", "depth", "(I)I"⟩, prog_11_method_97_code, 4, some (FieldType.int), 2, 0, 9),
  (⟨"ClockZonesModel", "node", "(II)I"⟩, prog_11_method_98_code, 3, some (FieldType.int), 3, 1, 9),
  (⟨"ClockZones", "nodeBound", "(IIII)I"⟩, prog_1_method_38_code, 5, some (FieldType.int), 5, 3, 8),
  (⟨"ClockZonesModel", "nodeBound", "(IIII)I"⟩, prog_11_method_99_code, 5, some (FieldType.int), 5, 2, 9),
  (⟨"ClockZones$Graph", "findWay", "(I)I"⟩, prog_2_method_8_code, 5, some (FieldType.int), 2, 0, 0),
  (⟨"ClockZones", "way", "(II)I"⟩, prog_1_method_39_code, 4, some (FieldType.int), 3, 1, 8),
  (⟨"ClockZonesModel", "laysRoad", "(I)Z"⟩, prog_11_method_101_code, 5, some (FieldType.boolean), 2, 1, 9),
  (⟨"ClockZonesModel", "way", "(II)I"⟩, prog_11_method_102_code, 3, some (FieldType.int), 3, 2, 9),
  (⟨"ClockZones$Graph", "openEdges", "(LClockZones$Plan;I)I"⟩, prog_2_method_9_code, 5, some (FieldType.int), 3, 4, 0),
  (⟨"ClockZones", "open", "(I)I"⟩, prog_1_method_40_code, 2, some (FieldType.int), 2, 5, 8),
  (⟨"ClockZonesModel", "openOf", "(I)I"⟩, prog_11_method_104_code, 4, some (FieldType.int), 2, 6, 9),
  (⟨"ClockZonesModel", "open", "(I)I"⟩, prog_11_method_105_code, 2, some (FieldType.int), 2, 7, 9),
  (⟨"ClockZones", "stuck", "()I"⟩, prog_1_method_41_code, 2, some (FieldType.int), 1, 5, 8),
  (⟨"ClockZonesModel", "stuck", "()I"⟩, prog_11_method_106_code, 2, some (FieldType.int), 1, 7, 9),
  (⟨"ClockZones", "reached", "()I"⟩, prog_1_method_42_code, 3, some (FieldType.int), 1, 0, 8),
  (⟨"ClockZonesModel", "reached", "()I"⟩, prog_11_method_107_code, 3, some (FieldType.int), 1, 0, 9),
  (⟨"ClockZones$Path", "endIn", "(LClockZones$Plan;)I"⟩, prog_4_method_2_code, 2, some (FieldType.int), 2, 0, 2),
  (⟨"ClockZones$History", "keepPath", "(LClockZones$Path;)V"⟩, prog_3_method_4_code, 2, none, 2, 1, 1),
  (⟨"ClockZones", "changePath", "()V"⟩, prog_1_method_65_code, 1, none, 1, 2, 8),
  (⟨"ClockZones", "add", "(I)I"⟩, prog_1_method_47_code, 2, some (FieldType.int), 2, 3, 8),
  (⟨"ClockZonesModel", "traced", "()I"⟩, prog_11_method_120_code, 1, some (FieldType.int), 1, 0, 9),
  (⟨"ClockZonesModel", "add", "(I)I"⟩, prog_11_method_122_code, 3, some (FieldType.int), 2, 2, 9),
  (⟨"ClockZones", "lead", "(I)I"⟩, prog_1_method_48_code, 4, some (FieldType.int), 2, 3, 8),
  (⟨"ClockZonesModel", "lead", "(I)I"⟩, prog_11_method_123_code, 3, some (FieldType.int), 2, 2, 9),
  (⟨"ClockZones", "trace", "(I)I"⟩, prog_1_method_49_code, 2, some (FieldType.int), 2, 0, 8),
  (⟨"ClockZonesModel", "trace", "(I)I"⟩, prog_11_method_124_code, 2, some (FieldType.int), 2, 1, 9),
  (⟨"ClockZones$Times", "lower", "(III)V"⟩, prog_7_method_6_code, 5, none, 4, 0, 5),
  (⟨"ClockZones$Times", "keepRules", "(LClockZones$Plan;II)V"⟩, prog_7_method_5_code, 9, none, 4, 2, 5),
  (⟨"ClockZones$Times", "takeEdge", "(LClockZones$Plan;II)V"⟩, prog_7_method_4_code, 6, none, 4, 3, 5),
  (⟨"ClockZones$Times", "build", "(LClockZones$Plan;LClockZones$Path;)V"⟩, prog_7_method_2_code, 5, none, 3, 4, 5),
  (⟨"ClockZones", "timesOfPath", "()LClockZones$Times;"⟩, prog_1_method_66_code, 1, some ((FieldType.object "ClockZones$Times")), 1, 5, 8),
  (⟨"ClockZones", "can", "()I"⟩, prog_1_method_50_code, 1, some (FieldType.int), 1, 6, 8),
  (⟨"ClockZonesModel", "holds", "(III)Z"⟩, prog_11_method_117_code, 3, some (FieldType.boolean), 3, 0, 9),
  (⟨"ClockZonesModel", "holdsAt", "(II)V"⟩, prog_11_method_118_code, 5, none, 3, 3, 9),
  (⟨"ClockZonesModel", "laysTimes", "([III)V"⟩, prog_11_method_119_code, 9, none, 4, 4, 9),
  (⟨"ClockZonesModel", "laysTrace", "()V"⟩, prog_11_method_121_code, 1, none, 1, 5, 9),
  (⟨"ClockZonesModel", "can", "()I"⟩, prog_11_method_125_code, 1, some (FieldType.int), 1, 6, 9),
  (⟨"ClockZones$Times", "span", "(IIII)I"⟩, prog_7_method_7_code, 7, some (FieldType.int), 5, 1, 5),
  (⟨"ClockZones", "window", "(II)I"⟩, prog_1_method_51_code, 3, some (FieldType.int), 3, 6, 8),
  (⟨"ClockZonesModel", "spanOf", "(IIII)I"⟩, prog_11_method_126_code, 6, some (FieldType.int), 5, 1, 9),
  (⟨"ClockZonesModel", "window", "(II)I"⟩, prog_11_method_127_code, 3, some (FieldType.int), 3, 6, 9),
  (⟨"ClockZones", "between", "(III)I"⟩, prog_1_method_52_code, 4, some (FieldType.int), 4, 6, 8),
  (⟨"ClockZonesModel", "between", "(III)I"⟩, prog_11_method_128_code, 4, some (FieldType.int), 4, 6, 9),
  (⟨"ClockZones$Path", "setterAhead", "(LClockZones$Plan;II)I"⟩, prog_4_method_3_code, 5, some (FieldType.int), 4, 1, 2),
  (⟨"ClockZones", "value", "(III)I"⟩, prog_1_method_53_code, 6, some (FieldType.int), 4, 6, 8),
  (⟨"ClockZonesModel", "value", "(III)I"⟩, prog_11_method_129_code, 4, some (FieldType.int), 4, 6, 9),
  (⟨"ClockZones$Walk", "goAlong", "(LClockZones$Plan;I)V"⟩, prog_8_method_3_code, 3, none, 3, 3, 6),
  (⟨"ClockZones$Walk", "breakIn", "(LClockZones$Plan;[II)I"⟩, prog_8_method_2_code, 5, some (FieldType.int), 4, 4, 6),
  (⟨"ClockZones", "breaks", "()I"⟩, prog_1_method_54_code, 1, some (FieldType.int), 1, 5, 8),
  (⟨"ClockZonesModel", "breaks", "()I"⟩, prog_11_method_130_code, 2, some (FieldType.int), 1, 5, 9),
  (⟨"ClockZones", "width", "(IIII)I"⟩, prog_1_method_31_code, 6, some (FieldType.int), 5, 2, 8),
  (⟨"ClockZonesModel", "width", "(IIII)I"⟩, prog_11_method_77_code, 5, some (FieldType.int), 5, 2, 9),
  (⟨"ClockZones", "touch", "(II)I"⟩, prog_1_method_32_code, 3, some (FieldType.int), 3, 4, 8),
  (⟨"ClockZonesModel", "touch", "(II)I"⟩, prog_11_method_69_code, 3, some (FieldType.int), 3, 4, 9),
  (⟨"ClockZones$Zone", "stepBackBy", "(LClockZones$Plan;I)V"⟩, prog_9_method_20_code, 5, none, 3, 3, 7),
  (⟨"ClockZones", "back", "(II)I"⟩, prog_1_method_22_code, 3, some (FieldType.int), 3, 4, 8),
  (⟨"ClockZonesModel", "backs", "(I)V"⟩, prog_11_method_44_code, 3, none, 2, 4, 9),
  (⟨"ClockZonesModel", "back", "(II)I"⟩, prog_11_method_71_code, 3, some (FieldType.int), 3, 5, 9),
  (⟨"ClockZones$Zone", "becomeTimed", "(LClockZones$Zone;)V"⟩, prog_9_method_9_code, 3, none, 2, 2, 7),
  (⟨"ClockZones", "longest", "(III)I"⟩, prog_1_method_33_code, 4, some (FieldType.int), 4, 4, 8),
  (⟨"ClockZonesModel", "stretches", "()V"⟩, prog_11_method_89_code, 3, none, 1, 1, 9),
  (⟨"ClockZonesModel", "longest", "(III)I"⟩, prog_11_method_90_code, 4, some (FieldType.int), 4, 4, 9),
  (⟨"ClockZones", "soonest", "(III)I"⟩, prog_1_method_34_code, 5, some (FieldType.int), 4, 4, 8),
  (⟨"ClockZonesModel", "low", "(II)I"⟩, prog_11_method_92_code, 2, some (FieldType.int), 2, 1, 9),
  (⟨"ClockZonesModel", "soonest", "(III)I"⟩, prog_11_method_91_code, 4, some (FieldType.int), 4, 4, 9),
  (⟨"ClockZones$Plan", "placesBehind", "(I)I"⟩, prog_5_method_14_code, 5, some (FieldType.int), 2, 0, 3),
  (⟨"ClockZones", "leads", "(I)I"⟩, prog_1_method_43_code, 2, some (FieldType.int), 2, 1, 8),
  (⟨"ClockZonesModel", "leads", "(I)I"⟩, prog_11_method_108_code, 5, some (FieldType.int), 2, 2, 9),
  (⟨"ClockZones", "fastest", "(II)I"⟩, prog_1_method_44_code, 6, some (FieldType.int), 3, 5, 8),
  (⟨"ClockZonesModel", "fastest", "(II)I"⟩, prog_11_method_131_code, 3, some (FieldType.int), 3, 5, 9),
  (⟨"ClockZones$Times", "buildWhole", "(LClockZones$Path;)V"⟩, prog_7_method_3_code, 3, none, 2, 2, 5),
  (⟨"ClockZones$Times", "leastWhole", "(I)I"⟩, prog_7_method_8_code, 2, some (FieldType.int), 2, 1, 5),
  (⟨"ClockZones", "moment", "(I)I"⟩, prog_1_method_55_code, 2, some (FieldType.int), 2, 6, 8),
  (⟨"ClockZonesModel", "moment", "(I)I"⟩, prog_11_method_132_code, 2, some (FieldType.int), 2, 6, 9),
  (⟨"ClockZones", "deepest", "(I)I"⟩, prog_1_method_45_code, 6, some (FieldType.int), 2, 0, 8),
  (⟨"ClockZonesModel", "deepest", "(I)I"⟩, prog_11_method_103_code, 6, some (FieldType.int), 2, 2, 9),
  (⟨"ClockZones$Plan", "hasRuleOf", "(II)Z"⟩, prog_5_method_13_code, 4, some (FieldType.boolean), 3, 0, 3),
  (⟨"ClockZones$Plan", "listsWith", "(III)I"⟩, prog_5_method_12_code, 6, some (FieldType.int), 4, 1, 3),
  (⟨"ClockZones$Plan", "edgesThatSet", "(I)I"⟩, prog_5_method_11_code, 4, some (FieldType.int), 2, 1, 3),
  (⟨"ClockZones", "tells", "(II)I"⟩, prog_1_method_46_code, 3, some (FieldType.int), 3, 2, 8),
  (⟨"ClockZonesModel", "hasWhen", "(II)Z"⟩, prog_11_method_113_code, 4, some (FieldType.boolean), 3, 0, 9),
  (⟨"ClockZonesModel", "hasSet", "(II)Z"⟩, prog_11_method_114_code, 4, some (FieldType.boolean), 3, 0, 9),
  (⟨"ClockZonesModel", "tells", "(II)I"⟩, prog_11_method_115_code, 5, some (FieldType.int), 3, 2, 9),
  (⟨"ClockZones", "single", "(I)I"⟩, prog_1_method_35_code, 5, some (FieldType.int), 2, 1, 8),
  (⟨"ClockZonesModel", "single", "(I)I"⟩, prog_11_method_85_code, 4, some (FieldType.int), 2, 2, 9),
  (⟨"ClockZones", "count", "(I)I"⟩, prog_1_method_56_code, 2, some (FieldType.int), 2, 0, 8),
  (⟨"ClockZonesModel", "count", "(I)I"⟩, prog_11_method_133_code, 2, some (FieldType.int), 2, 1, 9),
  (⟨"ClockZonesLaw", "law", "([I)Z"⟩, code, 7, some (FieldType.boolean), 1, 11, 10)]
/-- methods that make cells, write references or throw -/
def mj_imps : List Nat := [0, 1, 3, 4, 5, 6, 7, 8, 9, 15, 75, 119, 126, 314]
def mj_ft_0 : List (Nat × Nat × Nat × Nat) := [(11, 0, 0, 382), (17, 0, 1, 384), (21, 0, 2, 386), (24, 0, 3, 388), (27, 0, 4, 390), (30, 0, 5, 392), (33, 0, 6, 393), (36, 0, 7, 395), (40, 0, 8, 397), (44, 0, 9, 398), (54, 3, 1, 205), (63, 3, 4, 218), (74, 7, 2, 364), (82, 3, 3, 212), (84, 3, 13, 248), (98, 3, 14, 255)]
def mj_ct_0 : List (Nat × Nat × Nat × Nat) := [(3, 6, 0, 378), (9, 9, 7, 379), (39, 5, 3, 380), (48, 2, 2, 381), (59, 1, 46, 693), (66, 1, 59, 694), (70, 1, 65, 737), (78, 0, 67, 759), (87, 0, 73, 770), (91, 1, 66, 763), (95, 1, 70, 774), (101, 0, 72, 788), (105, 1, 71, 792)]
def mj_kt_0 : List (Nat × Int32 × Nat) := []
def mj_ft_1 : List (Nat × Nat × Nat × Nat) := [(9, 1, 0, 496), (17, 1, 1, 498), (21, 1, 2, 500), (24, 1, 3, 501), (27, 1, 4, 502), (31, 1, 5, 503), (42, 2, 1, 433), (47, 2, 0, 429)]
def mj_ct_1 : List (Nat × Nat × Nat × Nat) := [(3, 6, 0, 493), (15, 9, 7, 494), (34, 5, 3, 495), (35, 1, 66, 856), (39, 0, 143, 857), (50, 7, 0, 964), (56, 13, 0, 861)]
def mj_kt_1 : List (Nat × Int32 × Nat) := []
def mj_ft_2 : List (Nat × Nat × Nat × Nat) := [(9, 2, 0, 427), (15, 2, 1, 431), (19, 3, 4, 215), (24, 3, 14, 254)]
def mj_ct_2 : List (Nat × Nat × Nat × Nat) := [(3, 6, 0, 426), (27, 1, 39, 1222)]
def mj_kt_2 : List (Nat × Int32 × Nat) := []
def mj_ft_3 : List (Nat × Nat × Nat × Nat) := [(9, 3, 6, 224), (15, 3, 7, 226), (18, 3, 8, 228), (21, 3, 9, 231), (24, 3, 10, 235), (27, 3, 11, 239), (30, 3, 12, 243), (33, 3, 13, 247), (36, 3, 14, 253), (39, 3, 15, 261), (42, 3, 16, 265), (45, 3, 17, 269), (48, 3, 0, 200), (52, 3, 1, 204), (55, 3, 2, 208), (58, 3, 3, 211), (61, 3, 4, 217), (64, 3, 5, 222)]
def mj_ct_3 : List (Nat × Nat × Nat × Nat) := [(3, 6, 0, 199), (68, 2, 2, 572), (74, 2, 26, 613), (78, 12, 0, 647), (84, 0, 39, 1143), (87, 0, 303, 1135)]
def mj_kt_3 : List (Nat × Int32 × Nat) := []
def mj_ft_4 : List (Nat × Nat × Nat × Nat) := [(9, 4, 0, 312), (15, 4, 1, 313), (22, 4, 2, 315), (26, 4, 3, 317), (29, 4, 4, 318), (32, 4, 5, 319), (35, 4, 6, 320), (38, 4, 7, 321), (41, 4, 8, 322), (44, 4, 9, 324), (63, 3, 0, 201), (66, 3, 2, 209), (88, 3, 1, 206), (95, 3, 6, 225), (102, 3, 7, 227), (111, 3, 3, 213), (118, 3, 13, 252), (121, 3, 14, 259), (130, 3, 5, 223), (134, 3, 4, 220)]
def mj_ct_4 : List (Nat × Nat × Nat × Nat) := [(3, 6, 0, 193), (19, 9, 3, 194), (21, 5, 0, 196), (47, 1, 20, 568), (50, 13, 0, 573), (56, 0, 24, 576), (59, 0, 44, 597), (69, 0, 25, 605), (73, 0, 28, 601), (76, 0, 29, 616), (79, 0, 36, 620), (82, 0, 42, 650), (85, 0, 43, 673), (91, 1, 27, 609), (99, 1, 30, 624), (105, 3, 31, 628), (108, 0, 35, 631), (114, 0, 37, 654), (124, 3, 38, 658), (127, 0, 41, 661), (137, 0, 32, 635), (140, 0, 33, 639), (143, 1, 34, 643), (147, 1, 39, 665), (150, 1, 40, 669), (154, 0, 21, 580), (157, 0, 22, 589), (160, 0, 23, 593)]
def mj_kt_4 : List (Nat × Int32 × Nat) := [(163, 3554411, 584), (164, 17171557, 585), (165, 168165, 586), (166, 20579924, 587), (167, 762030, 588)]
def mj_ft_5 : List (Nat × Nat × Nat × Nat) := [(9, 5, 0, 446), (15, 5, 1, 447), (18, 5, 2, 448), (21, 5, 3, 449), (24, 5, 4, 450), (28, 5, 5, 452), (31, 5, 6, 454), (34, 5, 7, 456), (37, 2, 1, 432), (54, 3, 4, 219), (67, 2, 0, 428), (80, 3, 13, 250), (86, 3, 15, 262), (89, 3, 16, 266), (92, 3, 17, 270), (93, 3, 14, 257), (96, 3, 9, 232), (99, 3, 10, 236), (102, 3, 11, 240), (105, 3, 12, 244)]
def mj_ct_5 : List (Nat × Nat × Nat × Nat) := [(3, 6, 0, 445), (44, 2, 2, 1181), (50, 0, 253, 1182), (59, 3, 31, 1187), (63, 0, 254, 1188), (70, 0, 255, 1194), (73, 3, 63, 1199), (77, 3, 210, 1236), (83, 3, 38, 1198), (108, 3, 51, 1192), (112, 3, 56, 1193), (115, 13, 0, 1186), (120, 3, 61, 1208), (123, 3, 191, 1209)]
def mj_kt_5 : List (Nat × Int32 × Nat) := [(43, 268435456, 1180)]
def mj_ft_6 : List (Nat × Nat × Nat × Nat) := [(10, 6, 0, 483), (16, 3, 1, 203), (26, 3, 4, 216), (39, 7, 2, 363), (49, 3, 13, 249), (59, 3, 14, 256)]
def mj_ct_6 : List (Nat × Nat × Nat × Nat) := [(1, 6, 0, 480), (7, 9, 7, 481), (9, 5, 3, 482), (22, 1, 46, 1113), (29, 3, 31, 1114), (35, 1, 57, 1115), (43, 0, 273, 1116), (46, 1, 58, 1120), (53, 3, 38, 1121), (56, 1, 69, 1122)]
def mj_kt_6 : List (Nat × Int32 × Nat) := []
def mj_ft_7 : List (Nat × Nat × Nat × Nat) := [(9, 7, 0, 359), (15, 7, 1, 360), (19, 7, 2, 362), (80, 3, 9, 234), (85, 3, 10, 238), (88, 3, 11, 242), (91, 3, 12, 246), (94, 3, 15, 264), (97, 3, 16, 268), (100, 3, 17, 272), (116, 3, 14, 260), (143, 3, 8, 230)]
def mj_ct_7 : List (Nat × Nat × Nat × Nat) := [(3, 6, 0, 355), (23, 2, 2, 356), (29, 0, 52, 717), (33, 3, 61, 747), (37, 0, 46, 832), (41, 0, 139, 833), (44, 7, 0, 767), (50, 0, 66, 906), (54, 0, 54, 726), (58, 0, 68, 783), (62, 3, 51, 703), (65, 0, 55, 713), (68, 3, 56, 730), (71, 3, 53, 721), (75, 13, 0, 725), (103, 3, 50, 787), (106, 3, 31, 698), (109, 0, 57, 699), (113, 0, 58, 733), (119, 3, 38, 778), (122, 0, 69, 779), (125, 0, 154, 951), (129, 12, 0, 907), (132, 0, 64, 751), (135, 2, 60, 741), (139, 2, 62, 744), (146, 3, 49, 750), (149, 3, 210, 1020), (152, 3, 63, 755), (156, 14, 0, 849), (159, 3, 191, 1006), (162, 0, 205, 1007)]
def mj_kt_7 : List (Nat × Int32 × Nat) := [(74, 268435456, 724)]
def mj_ft_8 : List (Nat × Nat × Nat × Nat) := [(12, 8, 0, 518), (19, 8, 1, 519), (25, 8, 2, 520), (30, 8, 3, 521), (34, 8, 4, 522), (37, 8, 5, 523), (44, 8, 6, 524), (51, 8, 7, 525), (58, 8, 8, 526), (65, 8, 9, 527), (72, 8, 10, 528), (76, 4, 1, 314), (88, 4, 2, 316), (98, 3, 0, 202), (101, 4, 8, 323), (104, 4, 9, 325), (117, 3, 9, 233), (130, 0, 6, 394), (146, 3, 13, 251), (149, 3, 14, 258), (155, 3, 15, 263), (161, 3, 10, 237), (164, 3, 11, 241), (167, 3, 12, 245), (170, 3, 16, 267), (173, 3, 17, 271), (179, 3, 8, 229), (185, 3, 1, 207), (244, 0, 0, 383), (250, 1, 5, 504), (257, 1, 0, 497), (260, 1, 1, 499), (265, 5, 4, 451), (273, 7, 2, 365), (284, 7, 1, 361), (327, 0, 9, 399), (328, 0, 1, 385), (331, 0, 2, 387), (334, 0, 3, 389), (337, 0, 4, 391), (343, 0, 7, 396), (350, 3, 2, 210), (359, 6, 0, 484), (362, 3, 3, 214), (375, 2, 1, 434), (381, 2, 0, 430), (391, 5, 6, 455), (405, 5, 5, 453), (412, 5, 7, 457), (418, 3, 4, 221)]
def mj_ct_8 : List (Nat × Nat × Nat × Nat) := [(3, 6, 0, 185), (9, 9, 4, 188), (11, 5, 1, 190), (16, 9, 3, 347), (18, 5, 0, 348), (23, 9, 7, 349), (29, 5, 3, 352), (41, 9, 0, 373), (43, 5, 4, 375), (48, 9, 2, 421), (50, 5, 5, 423), (55, 9, 5, 440), (57, 5, 6, 442), (62, 9, 6, 475), (64, 5, 7, 477), (69, 9, 1, 488), (71, 5, 8, 490), (80, 1, 16, 556), (84, 1, 45, 564), (91, 0, 48, 677), (94, 1, 74, 689), (107, 0, 115, 925), (110, 11, 1, 1254), (120, 2, 31, 1320), (124, 1, 116, 1321), (127, 1, 117, 1325), (133, 1, 118, 1329), (136, 11, 2, 1333), (141, 0, 124, 804), (152, 2, 38, 808), (158, 1, 125, 1357), (176, 0, 134, 817), (182, 2, 138, 825), (188, 1, 46, 681), (191, 1, 140, 828), (194, 1, 141, 837), (197, 0, 145, 841), (200, 0, 153, 867), (204, 1, 66, 862), (208, 1, 154, 871), (212, 1, 58, 879), (215, 1, 159, 880), (218, 1, 68, 888), (222, 1, 139, 893), (225, 1, 170, 902), (228, 1, 174, 912), (231, 1, 70, 920), (235, 1, 59, 929), (238, 1, 65, 934), (241, 0, 184, 939), (247, 1, 281, 947), (253, 1, 187, 956), (261, 1, 188, 960), (269, 0, 193, 969), (276, 1, 71, 989), (280, 1, 201, 994), (287, 1, 206, 1002), (291, 2, 50, 709), (294, 1, 55, 1015), (298, 1, 211, 1016), (301, 2, 217, 1023), (305, 1, 220, 1032), (308, 1, 52, 973), (312, 2, 53, 758), (315, 2, 192, 974), (318, 1, 285, 1048), (321, 1, 57, 1056), (324, 2, 191, 978), (340, 1, 231, 1077), (346, 1, 235, 1085), (352, 1, 292, 1101), (355, 1, 274, 1109), (364, 1, 304, 1131), (368, 1, 305, 1139), (371, 1, 243, 1148), (378, 0, 245, 1152), (382, 13, 0, 1027), (387, 0, 257, 1172), (394, 1, 264, 1204), (398, 1, 270, 1218), (402, 1, 39, 1223), (408, 1, 297, 1232), (415, 1, 298, 1237), (421, 1, 47, 685), (424, 1, 142, 845), (427, 1, 144, 852), (431, 1, 244, 1156), (434, 1, 256, 1176), (438, 2, 61, 977), (444, 2, 49, 706)]
def mj_kt_8 : List (Nat × Int32 × Nat) := [(437, 268435456, 712)]
def mj_ft_9 : List (Nat × Nat × Nat × Nat) := [(1, 9, 0, 1391), (13, 9, 6, 1397), (17, 9, 7, 1398), (20, 9, 8, 1399), (23, 9, 9, 1400), (26, 9, 10, 1401), (29, 9, 11, 1402), (32, 9, 12, 1403), (35, 9, 13, 1404), (38, 9, 14, 1405), (41, 9, 15, 1406), (44, 9, 16, 1407), (47, 9, 17, 1408), (50, 9, 19, 1410), (53, 9, 20, 1411), (56, 9, 21, 1412), (59, 9, 22, 1413), (62, 9, 24, 1415), (66, 9, 32, 1423), (69, 9, 34, 1425), (72, 9, 35, 1426), (75, 9, 42, 1433), (78, 9, 43, 1434), (81, 9, 44, 1435), (84, 9, 45, 1436), (87, 9, 46, 1437), (90, 9, 47, 1438), (93, 9, 48, 1439), (96, 9, 49, 1440), (99, 9, 50, 1441), (102, 9, 51, 1442), (105, 9, 54, 1445), (108, 9, 55, 1446), (111, 9, 57, 1448), (114, 9, 58, 1449), (117, 9, 59, 1450), (120, 9, 60, 1451), (133, 9, 25, 1416), (139, 9, 27, 1418), (142, 9, 26, 1417), (149, 9, 28, 1419), (152, 9, 30, 1421), (155, 9, 29, 1420), (162, 9, 33, 1424), (166, 9, 31, 1422), (189, 9, 37, 1428), (203, 9, 36, 1427), (215, 9, 38, 1429), (224, 9, 40, 1431), (227, 9, 39, 1430), (230, 9, 41, 1432), (239, 9, 1, 1392), (242, 9, 2, 1393), (245, 9, 3, 1394), (248, 9, 4, 1395), (251, 9, 5, 1396), (261, 9, 18, 1409), (280, 9, 52, 1443), (289, 9, 53, 1444), (374, 9, 23, 1414), (414, 9, 56, 1447)]
def mj_ct_9 : List (Nat × Nat × Nat × Nat) := [(7, 6, 0, 1370), (123, 0, 14, 1371), (126, 0, 11, 1375), (129, 0, 13, 1383), (136, 0, 18, 1579), (145, 0, 77, 1594), (158, 2, 76, 1587), (174, 0, 80, 1611), (178, 0, 78, 1590), (181, 0, 82, 1619), (185, 2, 83, 1627), (192, 0, 85, 1634), (196, 0, 79, 1603), (200, 0, 81, 1607), (206, 0, 86, 1638), (209, 0, 84, 1615), (212, 0, 87, 1630), (218, 0, 88, 1642), (221, 0, 89, 1646), (233, 0, 90, 1598), (236, 0, 111, 1650), (254, 2, 91, 1654), (258, 0, 93, 1657), (264, 0, 110, 1665), (267, 0, 92, 1661), (272, 0, 12, 1387), (276, 0, 10, 1379), (283, 2, 97, 1693), (286, 0, 95, 1684), (292, 2, 94, 1681), (296, 0, 96, 1677), (300, 0, 98, 1688), (303, 0, 99, 1673), (306, 0, 100, 1696), (309, 0, 106, 1719), (312, 0, 101, 1669), (315, 0, 166, 1797), (318, 2, 102, 1704), (321, 0, 149, 1754), (324, 0, 150, 1758), (327, 2, 147, 1743), (330, 0, 148, 1746), (333, 0, 151, 1750), (336, 0, 156, 1766), (340, 0, 157, 1770), (343, 2, 132, 1778), (346, 0, 161, 1781), (349, 0, 136, 1789), (352, 0, 172, 1809), (356, 0, 176, 1817), (359, 0, 127, 1829), (362, 0, 107, 1715), (365, 0, 283, 1837), (368, 0, 120, 1845), (371, 0, 103, 1700), (377, 0, 105, 1711), (380, 0, 195, 1861), (383, 0, 108, 1727), (387, 0, 203, 1881), (390, 0, 208, 1889), (393, 0, 222, 1905), (396, 0, 287, 1913), (399, 2, 290, 1921), (402, 0, 104, 1707), (405, 0, 109, 1723), (408, 0, 227, 1932), (411, 0, 121, 1948), (417, 0, 233, 1944), (420, 0, 237, 1960), (423, 0, 307, 1996), (426, 0, 308, 2000), (429, 2, 259, 2040), (432, 0, 260, 2036), (435, 0, 247, 2012), (438, 0, 261, 2032), (442, 0, 262, 2028), (445, 0, 266, 2047)]
def mj_kt_9 : List (Nat × Int32 × Nat) := [(169, 3554411, 1602), (170, 17171557, 1623), (171, 168165, 1624), (172, 20579924, 1625), (173, 762030, 1626), (271, 1000000, 1692)]
def mj_ft_10 : List (Nat × Nat × Nat × Nat) := []
def mj_ct_10 : List (Nat × Nat × Nat × Nat) := [(8, 9, 8, 180), (20, 4, 9, 182), (21, 9, 9, 1365), (23, 4, 15, 1367), (24, 0, 17, 552), (28, 0, 19, 1575), (29, 0, 75, 560), (33, 0, 112, 1583), (34, 0, 113, 796), (37, 0, 114, 1731), (38, 8, 119, 1245), (43, 0, 122, 1976), (44, 0, 123, 1361), (48, 8, 126, 1349), (50, 0, 128, 1980), (51, 0, 129, 800), (55, 0, 130, 1984), (56, 0, 131, 809), (59, 0, 133, 1988), (60, 0, 135, 813), (63, 0, 137, 2004), (64, 0, 146, 821), (68, 0, 152, 1739), (69, 0, 155, 863), (72, 0, 158, 1762), (73, 0, 160, 875), (76, 0, 162, 1774), (77, 0, 163, 884), (80, 0, 164, 1785), (81, 0, 165, 889), (84, 0, 167, 1793), (85, 0, 168, 894), (88, 0, 169, 1801), (89, 0, 171, 898), (92, 0, 173, 1805), (93, 0, 175, 908), (96, 0, 177, 1813), (97, 0, 178, 916), (100, 0, 179, 1825), (101, 0, 180, 921), (104, 0, 181, 1841), (105, 0, 182, 930), (108, 0, 183, 1849), (109, 0, 185, 935), (112, 0, 186, 1853), (113, 0, 189, 952), (116, 0, 190, 1735), (117, 0, 194, 965), (121, 0, 196, 1857), (122, 0, 197, 981), (125, 0, 198, 1869), (126, 0, 199, 985), (129, 0, 200, 1873), (130, 0, 202, 990), (133, 0, 204, 1877), (134, 0, 207, 998), (137, 0, 209, 1885), (138, 0, 218, 1011), (141, 0, 219, 1897), (142, 0, 221, 1028), (145, 0, 223, 1901), (146, 0, 224, 1061), (149, 0, 225, 1924), (150, 0, 226, 1065), (153, 0, 228, 1928), (154, 0, 229, 1069), (157, 0, 230, 1936), (158, 0, 232, 1073), (161, 0, 234, 1940), (162, 0, 236, 1081), (165, 0, 238, 1956), (166, 0, 239, 1089), (169, 0, 240, 1964), (170, 0, 241, 1093), (173, 0, 242, 1968), (174, 0, 246, 1144), (177, 0, 248, 2008), (178, 0, 249, 1160), (181, 0, 250, 2016), (182, 0, 251, 1164), (185, 0, 252, 2020), (186, 0, 258, 1168), (189, 0, 263, 2024), (190, 0, 265, 1200), (193, 0, 267, 2043), (194, 0, 268, 1210), (197, 0, 269, 2051), (198, 0, 271, 1214), (201, 0, 272, 2055), (202, 0, 275, 1224), (205, 0, 276, 2059), (206, 0, 277, 1036), (209, 0, 278, 1865), (210, 0, 279, 1040), (213, 0, 280, 1821), (214, 0, 282, 943), (217, 0, 284, 1833), (218, 0, 286, 1044), (221, 0, 288, 1909), (222, 0, 289, 1052), (225, 0, 291, 1917), (226, 0, 293, 1097), (229, 0, 294, 1972), (230, 0, 295, 1105), (233, 0, 296, 2063), (234, 0, 299, 1228), (237, 0, 300, 2067), (238, 0, 301, 1123), (241, 0, 302, 1952), (242, 0, 306, 1127), (245, 0, 309, 1992), (246, 0, 310, 1057), (249, 0, 311, 1893), (250, 0, 312, 1241), (253, 0, 313, 2071)]
def mj_kt_10 : List (Nat × Int32 × Nat) := []
def mj_ft_12 : List (Nat × Nat × Nat × Nat) := []
def mj_ct_12 : List (Nat × Nat × Nat × Nat) := []
def mj_kt_12 : List (Nat × Int32 × Nat) := []
def mj_ft_20 : List (Nat × Nat × Nat × Nat) := [(284, 7, 1, 361)]
def mj_ct_20 : List (Nat × Nat × Nat × Nat) := [(308, 1, 52, 973), (382, 13, 0, 1027), (438, 2, 61, 977), (441, 12, 0, 1026)]
def mj_kt_20 : List (Nat × Int32 × Nat) := []
def mj_ft_21 : List (Nat × Nat × Nat × Nat) := [(284, 7, 1, 361)]
def mj_ct_21 : List (Nat × Nat × Nat × Nat) := [(301, 2, 212, 1023), (308, 1, 52, 973), (382, 13, 0, 1027), (438, 2, 61, 977), (441, 12, 0, 1026)]
def mj_kt_21 : List (Nat × Int32 × Nat) := []
def mj_ft_22 : List (Nat × Nat × Nat × Nat) := [(284, 7, 1, 361)]
def mj_ct_22 : List (Nat × Nat × Nat × Nat) := [(301, 2, 213, 1023), (308, 1, 52, 973), (382, 13, 0, 1027), (438, 2, 61, 977), (441, 12, 0, 1026)]
def mj_kt_22 : List (Nat × Int32 × Nat) := []
def mj_ft_23 : List (Nat × Nat × Nat × Nat) := [(284, 7, 1, 361)]
def mj_ct_23 : List (Nat × Nat × Nat × Nat) := [(301, 2, 214, 1023), (308, 1, 52, 973), (382, 13, 0, 1027), (438, 2, 61, 977), (441, 12, 0, 1026)]
def mj_kt_23 : List (Nat × Int32 × Nat) := []
def mj_ft_24 : List (Nat × Nat × Nat × Nat) := [(284, 7, 1, 361)]
def mj_ct_24 : List (Nat × Nat × Nat × Nat) := [(301, 2, 215, 1023), (308, 1, 52, 973), (382, 13, 0, 1027), (438, 2, 61, 977), (441, 12, 0, 1026)]
def mj_kt_24 : List (Nat × Int32 × Nat) := []
def mj_ft_25 : List (Nat × Nat × Nat × Nat) := [(284, 7, 1, 361)]
def mj_ct_25 : List (Nat × Nat × Nat × Nat) := [(301, 2, 216, 1023), (308, 1, 52, 973), (382, 13, 0, 1027), (438, 2, 61, 977), (441, 12, 0, 1026)]
def mj_kt_25 : List (Nat × Int32 × Nat) := []
/-- by the pool -/
def mj_fts : List (List (Nat × Nat × Nat × Nat)) := [mj_ft_0, mj_ft_1, mj_ft_2, mj_ft_3, mj_ft_4, mj_ft_5, mj_ft_6, mj_ft_7, mj_ft_8, mj_ft_9, mj_ft_10, [], mj_ft_12, [], [], [], [], [], [], [], mj_ft_20, mj_ft_21, mj_ft_22, mj_ft_23, mj_ft_24, mj_ft_25]
/-- by the pool -/
def mj_cts : List (List (Nat × Nat × Nat × Nat)) := [mj_ct_0, mj_ct_1, mj_ct_2, mj_ct_3, mj_ct_4, mj_ct_5, mj_ct_6, mj_ct_7, mj_ct_8, mj_ct_9, mj_ct_10, [], mj_ct_12, [], [], [], [], [], [], [], mj_ct_20, mj_ct_21, mj_ct_22, mj_ct_23, mj_ct_24, mj_ct_25]
/-- by the pool -/
def mj_kts : List (List (Nat × Int32 × Nat)) := [mj_kt_0, mj_kt_1, mj_kt_2, mj_kt_3, mj_kt_4, mj_kt_5, mj_kt_6, mj_kt_7, mj_kt_8, mj_kt_9, mj_kt_10, [], mj_kt_12, [], [], [], [], [], [], [], mj_kt_20, mj_kt_21, mj_kt_22, mj_kt_23, mj_kt_24, mj_kt_25]
/-- by the pool -/
def mj_owns : List (String) := ["ClockZones$Graph", "ClockZones$History", "ClockZones$Path", "ClockZones$Plan", "ClockZones$Reader", "ClockZones$Times", "ClockZones$Walk", "ClockZones$Zone", "ClockZones", "ClockZonesModel", "ClockZonesLaw", "", "java/util/Arrays", "", "", "", "", "", "", "", "ClockZones", "ClockZones", "ClockZones", "ClockZones", "ClockZones", "ClockZones"]
end
section
/-! Our own small machine: it runs the real bytes (the library's decode) over a flat memory of whole numbers. -/
/-- a value: an int, a reference (0 null, 1 the script, 2.. what the law makes), a long; unset (0), thrown (its kind) -/
abbrev mj_V : Type := Int ⊕ (Nat ⊕ (Int ⊕ Nat))
/-- kinds and lengths of the cells; the references in them (0: null); the next address; the slots used -/
abbrev mj_W : Type := (Nat → Nat × Nat) × (Nat → Nat → Nat) × Nat × Nat
abbrev mj_F : Type := Nat → Nat → Int
def mj_row (y : Nat) : mj_Row := mj_tab.getD y (⟨"", "", ""⟩, ⟨#[]⟩, 0, none, 0, 0, 0)
def mj_code (y : Nat) : ByteArray := (mj_row y).2.1
def mj_nL (y : Nat) : Nat := (mj_row y).2.2.1
def mj_rt (y : Nat) : Option FieldType := (mj_row y).2.2.2.1
def mj_ar (y : Nat) : Nat := (mj_row y).2.2.2.2.1
def mj_lev (y : Nat) : Nat := (mj_row y).2.2.2.2.2.1
def mj_cn (y : Nat) : Nat := (mj_row y).2.2.2.2.2.2
def mj_look {α : Type} : List (Nat × α) → Nat → Option α
  | [], _ => none
  | (k, v) :: t, i => if k = i then some v else mj_look t i
def mj_fl (cn idx : Nat) : Option (Nat × Nat × Nat) := mj_look (mj_fts.getD cn []) idx
def mj_cl2 (cn idx : Nat) : Option (Nat × Nat × Nat) := mj_look (mj_cts.getD cn []) idx
def mj_kl (cn idx : Nat) : Option (Int32 × Nat) := mj_look (mj_kts.getD cn []) idx
/-- wrap-around -/
def mj_w (x : Int) : Int := (x + 2147483648) % 4294967296 - 2147483648
def mj_w8 (x : Int) : Int := (x + 128) % 256 - 128
def mj_w64 (x : Int) : Int := (x + 9223372036854775808) % 18446744073709551616 - 9223372036854775808
def mj_and (a b : Int) : Int := (Int32.ofInt a &&& Int32.ofInt b).toInt
def mj_or (a b : Int) : Int := (Int32.ofInt a ||| Int32.ofInt b).toInt
def mj_shl (a b : Int) : Int := (Int32.ofInt a <<< (Int32.ofInt b &&& 31)).toInt
def mj_shr (a b : Int) : Int := (Int32.ofInt a >>> (Int32.ofInt b &&& 31)).toInt
def mj_div (a b : Int) : Int := (Int32.ofInt a / Int32.ofInt b).toInt
def mj_rem (a b : Int) : Int := (Int32.ofInt a - Int32.ofInt a / Int32.ofInt b * Int32.ofInt b).toInt
def mj_cmp (a b : Int) : Int := if a < b then -1 else if a = b then 0 else 1
/-- one int is written -/
def mj_u (f : mj_F) (a i : Nat) (v : Int) : mj_F := fun b j => if b = a ∧ j = i then v else f b j
/-- one reference is written -/
def mj_ug (w : mj_W) (a i v : Nat) : mj_W := (w.1, fun b j => if b = a ∧ j = i then v else w.2.1 b j, w.2.2.1, w.2.2.2)
/-- a new cell of kind t, of n slots -/
def mj_new (w : mj_W) (t : Nat × Nat) (n : Nat) : mj_W := (fun b => if b = w.2.2.1 then t else w.1 b, fun b j => if b = w.2.2.1 then 0 else w.2.1 b j, w.2.2.1 + 1, w.2.2.2 + n)
def mj_z (f : mj_F) (a : Nat) : mj_F := fun b j => if b = a then 0 else f b j
/-- a row is copied -/
def mj_cpy (f : mj_F) (a sp d dp n : Nat) : mj_F := fun b j => if b = d ∧ dp ≤ j ∧ j < dp + n then f a (sp + (j - dp)) else f b j
/-- the cell of a thrown exception -/
def mj_junk (w : mj_W) : mj_W := (w.1, w.2.1, w.2.2.1 + 1, w.2.2.2 + 6)
def mj_set (ls : List mj_V) (k : Nat) (v : mj_V) : List mj_V :=
  (match k with
   | 0 => ls
   | j + 1 => match ls[j]? with
     | some (.inr (.inr (.inl _))) => ls.set j (.inr (.inr (.inr 0)))
     | _ => ls).set k v
def mj_j (pc : Nat) (off : Int) : Option Nat := if 0 ≤ (pc : Int) + off then some ((pc : Int) + off).toNat else none
abbrev mj_T : Type := mj_W × mj_F × Nat × List mj_V × List mj_V
def mj_jmp (w : mj_W) (f : mj_F) (pc : Nat) (off : Int) (ls st : List mj_V) : Option mj_T := match mj_j pc off with
  | some t => some (w, f, t, ls, st)
  | none => none
def mj_if (c : Prop) [Decidable c] (w : mj_W) (f : mj_F) (pc : Nat) (off : Int) (ls st : List mj_V) : Option mj_T := if c then mj_jmp w f pc off ls st else if 0 ≤ (pc : Int) + off then some (w, f, pc + 3, ls, st) else none
def mj_ldi (w : mj_W) (f : mj_F) (pc' : Nat) (ls st : List mj_V) (k : Nat) : Option mj_T := match ls[k]? with
  | some (.inl v) => some (w, f, pc', ls, .inl v :: st)
  | _ => none
def mj_ldl (w : mj_W) (f : mj_F) (pc' : Nat) (ls st : List mj_V) (k : Nat) : Option mj_T := match ls[k]? with
  | some (.inr (.inr (.inl v))) => some (w, f, pc', ls, .inr (.inr (.inl v)) :: st)
  | _ => none
def mj_lda (w : mj_W) (f : mj_F) (pc' : Nat) (ls st : List mj_V) (k : Nat) : Option mj_T := match ls[k]? with
  | some (.inr (.inl v)) => some (w, f, pc', ls, .inr (.inl v) :: st)
  | _ => none
def mj_sti (w : mj_W) (f : mj_F) (pc' : Nat) (ls st : List mj_V) (k : Nat) : Option mj_T := match st with
  | .inl v :: r => if k < ls.length then some (w, f, pc', mj_set ls k (.inl v), r) else none
  | _ => none
def mj_stl (w : mj_W) (f : mj_F) (pc' : Nat) (ls st : List mj_V) (k : Nat) : Option mj_T := match st with
  | .inr (.inr (.inl v)) :: r => if k + 1 < ls.length then some (w, f, pc', (mj_set ls k (.inr (.inr (.inl v)))).set (k + 1) (.inr (.inr (.inr 0))), r) else none
  | _ => none
def mj_sta (w : mj_W) (f : mj_F) (pc' : Nat) (ls st : List mj_V) (k : Nat) : Option mj_T := match st with
  | .inr (.inl v) :: r => if k < ls.length then some (w, f, pc', mj_set ls k (.inr (.inl v)), r) else none
  | _ => none
def mj_b2 (w : mj_W) (f : mj_F) (pc : Nat) (ls st : List mj_V) (op : Int → Int → Int) : Option mj_T := match st with
  | .inl b :: .inl a :: r => some (w, f, pc + 1, ls, .inl (op a b) :: r)
  | _ => none
def mj_b1 (w : mj_W) (f : mj_F) (pc : Nat) (ls st : List mj_V) (op : Int → Int) : Option mj_T := match st with
  | .inl a :: r => some (w, f, pc + 1, ls, .inl (op a) :: r)
  | _ => none
def mj_l2 (w : mj_W) (f : mj_F) (pc : Nat) (ls st : List mj_V) (op : Int → Int → mj_V) : Option mj_T := match st with
  | .inr (.inr (.inl b)) :: .inr (.inr (.inl a)) :: r => some (w, f, pc + 1, ls, op a b :: r)
  | _ => none
/-- an index is within a row -/
def mj_in (j : Int) (n : Nat) : Prop := 0 ≤ j ∧ j < n
theorem mj_in_def (j : Int) (n : Nat) : mj_in j n ↔ 0 ≤ j ∧ j < n := Iff.rfl
def mj_inb (j : Int) (n : Nat) : Bool := decide (0 ≤ j) && decide (j < n)
def mj_isInit (y : Nat) : Bool := (mj_row y).1.name == "<init>"
/-- may a method write the field: it isn't final, or the method is a constructor of its class -/
def mj_mayPut (y ci k : Nat) : Bool := !((mj_cl.getD ci ("", TX0, 0)).2.1 k).2.2.2 || (mj_isInit y && mj_cn y == ci)
def mj_getf (y : Nat) (w : mj_W) (f : mj_F) (pc : Nat) (ls st : List mj_V) (idx : Nat) : Option mj_T := match st, mj_fl (mj_cn y) idx with
  | .inr (.inl a) :: r, some (ci, k, _) =>
    if w.1 a = (ci, 0) then
      (if mj_kind ci k = 2 then (if w.2.1 a k = 0 then none else some (w, f, pc + 3, ls, .inr (.inl (w.2.1 a k)) :: r)) else some (w, f, pc + 3, ls, .inl (f a k) :: r))
    else none
  | _, _ => none
def mj_putf (y : Nat) (w : mj_W) (f : mj_F) (pc : Nat) (ls st : List mj_V) (idx : Nat) : Option mj_T := match st, mj_fl (mj_cn y) idx with
  | .inl v :: .inr (.inl a) :: r, some (ci, k, _) =>
    if mj_mayPut y ci k = true then
      (if w.1 a = (ci, 0) ∧ (mj_kind ci k = 0 ∨ mj_kind ci k = 1 ∧ (v = 0 ∨ v = 1)) then some (w, mj_u f a k v, pc + 3, ls, r) else none) else none
  | .inr (.inl v) :: .inr (.inl a) :: r, some (ci, k, _) =>
    if mj_mayPut y ci k = true then
      (if w.1 a = (ci, 0) ∧ mj_kind ci k = 2 ∧ 2 ≤ v then some (mj_ug w a k v, f, pc + 3, ls, r) else none) else none
  | _, _ => none
def mj_iald (w : mj_W) (f : mj_F) (pc : Nat) (ls st : List mj_V) : Option mj_T := match st with
  | .inl j :: .inr (.inl a) :: r => if ((w.1 a).1 = 100 ∨ (w.1 a).1 = 104) ∧ 0 ≤ j ∧ j < (w.1 a).2 then some (w, f, pc + 1, ls, .inl (f a j.toNat) :: r) else none
  | _ => none
def mj_bald (w : mj_W) (f : mj_F) (pc : Nat) (ls st : List mj_V) : Option mj_T := match st with
  | .inl j :: .inr (.inl a) :: r => if (w.1 a).1 = 101 ∧ 0 ≤ j ∧ j < (w.1 a).2 then some (w, f, pc + 1, ls, .inl (f a j.toNat) :: r) else none
  | _ => none
def mj_lald (w : mj_W) (f : mj_F) (pc : Nat) (ls st : List mj_V) : Option mj_T := match st with
  | .inl j :: .inr (.inl a) :: r => if (w.1 a).1 = 103 ∧ 0 ≤ j ∧ j < (w.1 a).2 then some (w, f, pc + 1, ls, .inr (.inr (.inl (f a j.toNat))) :: r) else none
  | _ => none
def mj_aald (w : mj_W) (f : mj_F) (pc : Nat) (ls st : List mj_V) : Option mj_T := match st with
  | .inl j :: .inr (.inl a) :: r => if (w.1 a).1 = 102 ∧ (0 ≤ j ∧ j < (w.1 a).2) ∧ w.2.1 a j.toNat ≠ 0 then some (w, f, pc + 1, ls, .inr (.inl (w.2.1 a j.toNat)) :: r) else none
  | _ => none
def mj_iast (w : mj_W) (f : mj_F) (pc : Nat) (ls st : List mj_V) : Option mj_T := match st with
  | .inl v :: .inl j :: .inr (.inl a) :: r => if (w.1 a).1 = 100 ∧ 0 ≤ j ∧ j < (w.1 a).2 then some (w, mj_u f a j.toNat v, pc + 1, ls, r) else none
  | _ => none
def mj_bast (w : mj_W) (f : mj_F) (pc : Nat) (ls st : List mj_V) : Option mj_T := match st with
  | .inl v :: .inl j :: .inr (.inl a) :: r => if (w.1 a).1 = 101 ∧ 0 ≤ j ∧ j < (w.1 a).2 then some (w, mj_u f a j.toNat (mj_w8 v), pc + 1, ls, r) else none
  | _ => none
def mj_aast (w : mj_W) (f : mj_F) (pc : Nat) (ls st : List mj_V) : Option mj_T := match st with
  | .inr (.inl v) :: .inl j :: .inr (.inl a) :: r => if (w.1 a).1 = 102 ∧ (0 ≤ j ∧ j < (w.1 a).2) ∧ w.1 v = (7, 0) then some (mj_ug w a j.toNat v, f, pc + 1, ls, r) else none
  | _ => none
def mj_alen (w : mj_W) (f : mj_F) (pc : Nat) (ls st : List mj_V) : Option mj_T := match st with
  | .inr (.inl a) :: r => if (100 ≤ (w.1 a).1 ∧ (w.1 a).1 ≤ 104) ∧ (w.1 a).2 < 2147483648 then some (w, f, pc + 1, ls, .inl ((w.1 a).2 : Int) :: r) else none
  | _ => none
def mj_newa (w : mj_W) (f : mj_F) (pc' : Nat) (ls st : List mj_V) (k : Nat) : Option mj_T := match st with
  | .inl n :: r => if 0 ≤ n ∧ n < 1000000 then some (mj_new w (k, n.toNat) n.toNat, mj_z f w.2.2.1, pc', ls, .inr (.inl w.2.2.1) :: r) else none
  | _ => none
def mj_newo (y : Nat) (w : mj_W) (f : mj_F) (pc : Nat) (ls st : List mj_V) (idx : Nat) : Option mj_T := match mj_cl2 (mj_cn y) idx with
  | some (9, ci, _) => if ci < 10 then some (mj_new w (ci, 0) (mj_nf ci), mj_z f w.2.2.1, pc + 3, ls, .inr (.inl w.2.2.1) :: st) else none
  | _ => none
def mj_anew (y : Nat) (w : mj_W) (f : mj_F) (pc : Nat) (ls st : List mj_V) (idx : Nat) : Option mj_T := match mj_cl2 (mj_cn y) idx with
  | some (10, 7, _) => mj_newa w f (pc + 3) ls st 102
  | _ => none
/-- how much of the stack stays below a call -/
def mj_cat (v : mj_V) : Nat := match v with
  | .inr (.inr (.inl _)) => 2
  | _ => 1
def mj_low (st : List mj_V) : Bool := decide ((st.map mj_cat).sum ≤ 8)
def mj_spec (y : Nat) (w : mj_W) (f : mj_F) (pc : Nat) (ls st : List mj_V) (idx : Nat) : Option mj_T := match mj_cl2 (mj_cn y) idx, st with
  | some (6, _, _), .inr (.inl _) :: r => if mj_low r = true then some (w, f, pc + 3, ls, r) else none
  | _, _ => none
def mj_copy (y : Nat) (w : mj_W) (f : mj_F) (pc : Nat) (ls st : List mj_V) (idx : Nat) : Option mj_T := match mj_cl2 (mj_cn y) idx, st with
  | some (7, _, _), .inl n :: .inl dp :: .inr (.inl d) :: .inl sp :: .inr (.inl a) :: r =>
    if (w.1 a).1 = 100 ∧ (w.1 d).1 = 100 ∧ 0 ≤ n ∧ 0 ≤ sp ∧ 0 ≤ dp ∧ sp + n ≤ (w.1 a).2 ∧ dp + n ≤ (w.1 d).2 ∧ mj_low r = true then
      some (w, mj_cpy f a sp.toNat d dp.toNat n.toNat, pc + 3, ls, r) else none
  | some (12, _, _), .inl b :: .inl a :: r => if mj_low r = true then some (w, f, pc + 3, ls, .inl (if a < b then b else a) :: r) else none
  | some (13, _, _), .inl b :: .inl a :: r => if mj_low r = true then some (w, f, pc + 3, ls, .inl (if b < a then b else a) :: r) else none
  | some (14, _, _), .inl a :: r => if mj_low r = true then some (w, f, pc + 3, ls, .inl (if 0 ≤ a then a else mj_w (0 - a)) :: r) else none
  | _, _ => none
def mj_stp (y : Nat) (i : Instr) (w : mj_W) (f : mj_F) (pc : Nat) (ls st : List mj_V) : Option mj_T :=
  match i with
  | .iconst n => some (w, f, pc + 1, ls, .inl (Int32.ofInt n).toInt :: st)
  | .bipush n => some (w, f, pc + 2, ls, .inl (Int8.ofInt n).toInt32.toInt :: st)
  | .sipush n => some (w, f, pc + 3, ls, .inl (Int16.ofInt n).toInt32.toInt :: st)
  | .lconst n => some (w, f, pc + 1, ls, .inr (.inr (.inl ((n : Nat) : Int))) :: st)
  | .ldc idx => match mj_kl (mj_cn y) idx with
    | some (v, _) => some (w, f, pc + 2, ls, .inl v.toInt :: st)
    | none => none
  | .ldc_w idx => match mj_kl (mj_cn y) idx with
    | some (v, _) => some (w, f, pc + 3, ls, .inl v.toInt :: st)
    | none => none
  | .iload k => mj_ldi w f (pc + 2) ls st k
  | .iload_n k => mj_ldi w f (pc + 1) ls st k
  | .lload k => mj_ldl w f (pc + 2) ls st k
  | .lload_n k => mj_ldl w f (pc + 1) ls st k
  | .aload k => mj_lda w f (pc + 2) ls st k
  | .aload_n k => mj_lda w f (pc + 1) ls st k
  | .istore k => mj_sti w f (pc + 2) ls st k
  | .istore_n k => mj_sti w f (pc + 1) ls st k
  | .lstore k => mj_stl w f (pc + 2) ls st k
  | .lstore_n k => mj_stl w f (pc + 1) ls st k
  | .astore k => mj_sta w f (pc + 2) ls st k
  | .astore_n k => mj_sta w f (pc + 1) ls st k
  | .iinc k n => match ls[k]? with
    | some (.inl v) => some (w, f, pc + 3, mj_set ls k (.inl (mj_w (v + n))), st)
    | _ => none
  | .iadd => mj_b2 w f pc ls st (fun a b => mj_w (a + b))
  | .isub => mj_b2 w f pc ls st (fun a b => mj_w (a - b))
  | .imul => mj_b2 w f pc ls st (fun a b => mj_w (a * b))
  | .iand => mj_b2 w f pc ls st mj_and
  | .ior => mj_b2 w f pc ls st mj_or
  | .ishl => mj_b2 w f pc ls st mj_shl
  | .ishr => mj_b2 w f pc ls st mj_shr
  | .idiv => match st with
    | .inl b :: .inl a :: r => if b = 0 then none else some (w, f, pc + 1, ls, .inl (mj_div a b) :: r)
    | _ => none
  | .irem => match st with
    | .inl b :: .inl a :: r => if b = 0 then none else some (w, f, pc + 1, ls, .inl (mj_rem a b) :: r)
    | _ => none
  | .ineg => mj_b1 w f pc ls st (fun a => mj_w (-a))
  | .i2b => mj_b1 w f pc ls st mj_w8
  | .i2l => match st with
    | .inl a :: r => some (w, f, pc + 1, ls, .inr (.inr (.inl a)) :: r)
    | _ => none
  | .lsub => mj_l2 w f pc ls st (fun a b => .inr (.inr (.inl (mj_w64 (a - b)))))
  | .lmul => mj_l2 w f pc ls st (fun a b => .inr (.inr (.inl (mj_w64 (a * b)))))
  | .lcmp => mj_l2 w f pc ls st (fun a b => .inl (mj_cmp a b))
  | .dup => match st with
    | .inl a :: r => some (w, f, pc + 1, ls, .inl a :: .inl a :: r)
    | .inr (.inl a) :: r => some (w, f, pc + 1, ls, .inr (.inl a) :: .inr (.inl a) :: r)
    | _ => none
  | .dup2 => match st with
    | .inl b :: .inr (.inl a) :: r => some (w, f, pc + 1, ls, .inl b :: .inr (.inl a) :: .inl b :: .inr (.inl a) :: r)
    | _ => none
  | .pop => match st with
    | .inl _ :: r => some (w, f, pc + 1, ls, r)
    | .inr (.inl _) :: r => some (w, f, pc + 1, ls, r)
    | _ => none
  | .goto off => mj_jmp w f pc off ls st
  | .ifCond c off => match st with
    | .inl a :: r => match c with
      | .eq => mj_if (a = 0) w f pc off ls r
      | .ne => mj_if (¬ a = 0) w f pc off ls r
      | .lt => mj_if (a < 0) w f pc off ls r
      | .ge => mj_if (0 ≤ a) w f pc off ls r
      | .gt => mj_if (0 < a) w f pc off ls r
      | .le => mj_if (a ≤ 0) w f pc off ls r
    | _ => none
  | .if_icmp c off => match st with
    | .inl b :: .inl a :: r => match c with
      | .eq => mj_if (a = b) w f pc off ls r
      | .ne => mj_if (¬ a = b) w f pc off ls r
      | .lt => mj_if (a < b) w f pc off ls r
      | .ge => mj_if (b ≤ a) w f pc off ls r
      | .gt => mj_if (b < a) w f pc off ls r
      | .le => mj_if (a ≤ b) w f pc off ls r
    | _ => none
  | .tableswitch dflt lo hi offs => match st with
    | .inl a :: r => if a < lo ∨ hi < a then mj_jmp w f pc dflt ls r else match offs[(a - lo).toNat]? with
      | some off => mj_jmp w f pc off ls r
      | none => none
    | _ => none
  | .lookupswitch dflt ps => match st with
    | .inl a :: r => if (ps.toList.zip (ps.toList.drop 1)).all (fun (a, next) => a.1 < next.1) = true then mj_jmp w f pc (Op.lookupswitch.offset ps.toList dflt a) ls r else none
    | _ => none
  | .getfield idx => mj_getf y w f pc ls st idx
  | .putfield idx => mj_putf y w f pc ls st idx
  | .iaload => mj_iald w f pc ls st
  | .baload => mj_bald w f pc ls st
  | .laload => mj_lald w f pc ls st
  | .aaload => mj_aald w f pc ls st
  | .iastore => mj_iast w f pc ls st
  | .bastore => mj_bast w f pc ls st
  | .aastore => mj_aast w f pc ls st
  | .arraylength => mj_alen w f pc ls st
  | .newarray .int => mj_newa w f (pc + 2) ls st 100
  | .newarray .byte => mj_newa w f (pc + 2) ls st 101
  | .newarray .long => mj_newa w f (pc + 2) ls st 103
  | .new idx => mj_newo y w f pc ls st idx
  | .anewarray idx => mj_anew y w f pc ls st idx
  | .invokespecial idx => mj_spec y w f pc ls st idx
  | .invokestatic idx => mj_copy y w f pc ls st idx
  | _ => none
/-- does the method end here, and with what (a thrown exception: its kind) -/
def mj_end (y : Nat) (i : Instr) (w : mj_W) (st : List mj_V) : Option (mj_W × Option mj_V) := match i with
  | .ireturn => match st with
    | .inl v :: [] => if mj_rt y = some .int ∨ mj_rt y = some .boolean ∧ (v = 0 ∨ v = 1) then some (w, some (.inl v)) else none
    | _ => none
  | .areturn => match st with
    | .inr (.inl a) :: [] => if 2 ≤ a ∧ mj_rt y = some (.object "ClockZones$Times") then some (w, some (.inr (.inl a))) else none
    | _ => none
  | .return_ => match st with
    | [] => if mj_rt y = none then some (w, none) else none
    | _ => none
  | .new idx => match mj_cl2 (mj_cn y) idx, st with
    | some (11, k, _), [] => some (mj_junk w, some (.inr (.inr (.inr k))))
    | _, _ => none
  | _ => none
/-- a call of a method of the table: its number, its arguments, what stays on the stack; behind a wrapper of the law: the row for the answer -/
def mj_args (w : mj_W) (st : List mj_V) (cy : Nat) (virt : Bool) : Option (Nat × List mj_V × List mj_V × Nat) :=
  if mj_ar cy ≤ st.length ∧ mj_low (st.drop (mj_ar cy)) = true ∧ (st.take (mj_ar cy)).all (fun v => mj_cat v == 1) = true then
    (match (st.take (mj_ar cy)).reverse, virt with
     | .inr (.inl a) :: as, true => if w.1 a = (mj_cn cy, 0) then some (cy, .inr (.inl a) :: as, st.drop (mj_ar cy), 0) else none
     | _, true => none
     | as, false => some (cy, as, st.drop (mj_ar cy), 0))
  else none
/-- calls go down -/
def mj_dn (y cy : Nat) (o : Option (Nat × List mj_V × List mj_V × Nat)) : Option (Nat × List mj_V × List mj_V × Nat) := if mj_lev cy < mj_lev y then o else none
def mj_callee (y : Nat) (i : Instr) (w : mj_W) (st : List mj_V) : Option (Nat × List mj_V × List mj_V × Nat) := match i with
  | .invokevirtual idx => match mj_cl2 (mj_cn y) idx with
    | some (0, cy, _) => mj_dn y cy (mj_args w st cy true)
    | some (1, cy, _) => mj_dn y cy (mj_args w st cy true)
    | _ => none
  | .invokestatic idx => match mj_cl2 (mj_cn y) idx, st with
    | some (2, cy, _), st => mj_dn y cy (mj_args w st cy false)
    | some (3, cy, _), st => mj_dn y cy (mj_args w st cy false)
    | some (8, cy, _), .inr (.inl o) :: .inl b :: .inl a :: .inr (.inl x) :: r => if w.1 o = (103, 1) ∧ w.1 x = (8, 0) ∧ mj_low r = true then some (cy, [.inr (.inl x), .inl a, .inl b], r, o) else none
    | _, _ => none
  | .invokespecial idx => match mj_cl2 (mj_cn y) idx with
    | some (4, cy, _) => mj_dn y cy (mj_args w st cy true)
    | some (5, cy, _) => mj_dn y cy (mj_args w st cy true)
    | _ => none
  | _ => none
def mj_pad (y : Nat) (as : List mj_V) : List mj_V := as ++ List.replicate (mj_nL y - as.length) (.inr (.inr (.inr 0)))
/-- what a call answers: k = 0 as the method does; else as the law's wrapper does, with the row k -/
def mj_ret (k : Nat) (f : mj_F) (v : Option mj_V) : Option (mj_F × Option mj_V) := match k, v with
  | 0, some (.inr (.inr (.inr _))) => none
  | 0, v => some (f, v)
  | k + 1, some (.inl r) => some (mj_u f (k + 1) 0 r, some (.inl 0))
  | _ + 1, some (.inr (.inr (.inr e))) => some (f, some (.inl (e : Int)))
  | _, _ => none
/-- the length of an instruction (0: any) -/
def mj_len (i : Instr) : Nat := match i with
  | .iload _ => 2 | .lload _ => 2 | .aload _ => 2 | .istore _ => 2 | .lstore _ => 2 | .astore _ => 2 | .bipush _ => 2 | .ldc _ => 2 | .newarray _ => 2
  | .sipush _ => 3 | .ldc_w _ => 3 | .iinc _ _ => 3 | .goto _ => 3 | .ifCond _ _ => 3 | .if_icmp _ _ => 3 | .getfield _ => 3 | .putfield _ => 3
  | .invokevirtual _ => 3 | .invokespecial _ => 3 | .invokestatic _ => 3 | .new _ => 3 | .anewarray _ => 3
  | .tableswitch _ _ _ _ => 0 | .lookupswitch _ _ => 0
  | _ => 1
def mj_dec (y pc : Nat) : Option Instr := match decode (mj_code y) pc with
  | .ok (i, n) => if mj_len i = 0 ∨ n = mj_len i then some i else none
  | _ => none
abbrev mj_N : Type := (mj_W × Option mj_V) ⊕ ((Nat × List mj_V × List mj_V × Nat) ⊕ mj_T)
/-- may a method make cells, write references, throw -/
def mj_imp (y : Nat) : Bool := mj_imps.contains y
/-- does an instruction leave the cells and the references alone -/
def mj_keepw (y : Nat) (i : Instr) : Bool := match i with
  | .new _ => false
  | .newarray _ => false
  | .anewarray _ => false
  | .aastore => false
  | .putfield idx => match mj_fl (mj_cn y) idx with
    | some (ci, k, _) => !(mj_kind ci k == 2)
    | none => false
  | _ => true
def mj_nx (y : Nat) (w : mj_W) (f : mj_F) (pc : Nat) (ls st : List mj_V) : Option mj_N := match mj_dec y pc with
  | some i => if mj_imp y = true ∨ mj_keepw y i = true then
      (match mj_end y i w st with
      | some r => some (.inl r)
      | none => match mj_callee y i w st with
        | some r => if mj_imp y = true ∨ mj_imp r.1 = false then some (.inr (.inl r)) else none
        | none => match mj_stp y i w f pc ls st with
          | some r => some (.inr (.inr r))
          | none => none)
    else none
  | none => none
abbrev mj_O : Type := mj_W × mj_F × Option mj_V
def mj_exec : Nat → Nat → mj_W → mj_F → Nat → List mj_V → List mj_V → Option mj_O
  | 0, _, _, _, _, _, _ => none
  | n + 1, y, w, f, pc, ls, st => match mj_nx y w f pc ls st with
    | some (.inl (w', v)) => some (w', f, v)
    | some (.inr (.inl (cy, as, rest, k))) => match mj_exec n cy w f 0 (mj_pad cy as) [] with
      | some (w', f', v) => match mj_ret k f' v with
        | some (f'', v') => mj_exec n y w' f'' (pc + 3) ls (v'.toList ++ rest)
        | none => none
      | none => none
    | some (.inr (.inr (w', f', pc', ls', st'))) => mj_exec n y w' f' pc' ls' st'
    | none => none
theorem mj_mono1 : ∀ (n y : Nat) (w : mj_W) (f : mj_F) (pc : Nat) (ls st : List mj_V) (r : mj_O), mj_exec n y w f pc ls st = some r → mj_exec (n + 1) y w f pc ls st = some r := by
  intro n
  induction n with
  | zero => intro y w f pc ls st r h; simp [mj_exec] at h
  | succ n ih =>
    intro y w f pc ls st r h
    rw [mj_exec] at h
    rw [mj_exec]
    cases hn : mj_nx y w f pc ls st with
    | none => rw [hn] at h; simp at h
    | some q =>
      rw [hn] at h
      rcases q with ⟨w', v⟩ | ⟨cy, as, rest, k⟩ | ⟨w', f', pc', ls', st'⟩
      · exact h
      · dsimp only at h ⊢
        cases hc : mj_exec n cy w f 0 (mj_pad cy as) [] with
        | none => rw [hc] at h; simp at h
        | some q =>
          obtain ⟨w', f', v⟩ := q
          rw [hc] at h
          rw [ih _ _ _ _ _ _ _ hc]
          dsimp only at h ⊢
          cases hr : mj_ret k f' v with
          | none => rw [hr] at h; simp at h
          | some q =>
            obtain ⟨f'', v'⟩ := q
            rw [hr] at h
            dsimp only at h ⊢
            exact ih _ _ _ _ _ _ _ h
      · exact ih _ _ _ _ _ _ _ h
theorem mj_mono {n m : Nat} (hnm : n ≤ m) {y : Nat} {w : mj_W} {f : mj_F} {pc : Nat} {ls st : List mj_V} {r : mj_O} (h : mj_exec n y w f pc ls st = some r) : mj_exec m y w f pc ls st = some r := by
  induction hnm with
  | refl => exact h
  | step _ ih => exact mj_mono1 _ _ _ _ _ _ _ _ ih
/-- what a method comes to, from a place in it; none if it comes to no end -/
noncomputable def mj_run (y : Nat) (w : mj_W) (f : mj_F) (pc : Nat) (ls st : List mj_V) : Option mj_O :=
  @dite _ (∃ r, ∃ n, mj_exec n y w f pc ls st = some r) (Classical.propDecidable _) (fun h => some (Classical.choose h)) (fun _ => none)
theorem mj_run_of {n y : Nat} {w : mj_W} {f : mj_F} {pc : Nat} {ls st : List mj_V} {r : mj_O} (h : mj_exec n y w f pc ls st = some r) : mj_run y w f pc ls st = some r := by
  have hx : ∃ r, ∃ n, mj_exec n y w f pc ls st = some r := ⟨r, n, h⟩
  unfold mj_run
  rw [dif_pos hx]
  obtain ⟨k, hk⟩ := Classical.choose_spec hx
  have h1 := mj_mono (Nat.le_max_left n k) h
  have h2 := mj_mono (Nat.le_max_right n k) hk
  rw [h1] at h2
  exact h2.symm
theorem mj_run_ex {y : Nat} {w : mj_W} {f : mj_F} {pc : Nat} {ls st : List mj_V} {r : mj_O} (h : mj_run y w f pc ls st = some r) : ∃ n, mj_exec n y w f pc ls st = some r := by
  unfold mj_run at h
  by_cases hx : ∃ r, ∃ n, mj_exec n y w f pc ls st = some r
  · rw [dif_pos hx] at h
    have h2 := Classical.choose_spec hx
    rw [Option.some.inj h] at h2
    exact h2
  · rw [dif_neg hx] at h
    exact absurd h (by simp)
theorem mj_run_eq {y y' : Nat} {w w' : mj_W} {f f' : mj_F} {pc pc' : Nat} {ls ls' st st' : List mj_V} (h : ∀ r, (∃ n, mj_exec n y w f pc ls st = some r) ↔ ∃ n, mj_exec n y' w' f' pc' ls' st' = some r) : mj_run y w f pc ls st = mj_run y' w' f' pc' ls' st' := by
  cases h1 : mj_run y w f pc ls st with
  | some r =>
    obtain ⟨n, hn⟩ := (h r).mp (mj_run_ex h1)
    exact (mj_run_of hn).symm
  | none =>
    cases h2 : mj_run y' w' f' pc' ls' st' with
    | none => rfl
    | some r =>
      obtain ⟨n, hn⟩ := (h r).mpr (mj_run_ex h2)
      rw [mj_run_of hn] at h1
      exact absurd h1 (by simp)
/-- a method's answer -/
noncomputable def mj_call (y : Nat) (w : mj_W) (f : mj_F) (as : List mj_V) : Option mj_O := mj_run y w f 0 (mj_pad y as) []
theorem mj_run_step {y : Nat} {w w' : mj_W} {f f' : mj_F} {pc pc' : Nat} {ls ls' st st' : List mj_V} (h : mj_nx y w f pc ls st = some (.inr (.inr (w', f', pc', ls', st')))) : mj_run y w f pc ls st = mj_run y w' f' pc' ls' st' := by
  refine mj_run_eq fun r => ⟨fun ⟨n, hn⟩ => ?_, fun ⟨n, hn⟩ => ⟨n + 1, ?_⟩⟩
  · cases n with
    | zero => simp [mj_exec] at hn
    | succ n =>
      rw [mj_exec, h] at hn
      exact ⟨n, hn⟩
  · rw [mj_exec, h]
    exact hn
theorem mj_run_end {y : Nat} {w w' : mj_W} {f : mj_F} {pc : Nat} {ls st : List mj_V} {v : Option mj_V} (h : mj_nx y w f pc ls st = some (.inl (w', v))) : mj_run y w f pc ls st = some (w', f, v) := by
  refine mj_run_of (n := 1) ?_
  rw [mj_exec, h]
/-- goes on behind a call -/
noncomputable def mj_then (k : Nat) (o : Option mj_O) (y pc : Nat) (ls rest : List mj_V) : Option mj_O := match o with
  | some (w', f', v) => match mj_ret k f' v with
    | some (f'', v') => mj_run y w' f'' (pc + 3) ls (v'.toList ++ rest)
    | none => none
  | none => none
theorem mj_run_call {y : Nat} {w : mj_W} {f : mj_F} {pc : Nat} {ls st : List mj_V} {cy k : Nat} {as rest : List mj_V} (h : mj_nx y w f pc ls st = some (.inr (.inl (cy, as, rest, k)))) : mj_run y w f pc ls st = mj_then k (mj_call cy w f as) y pc ls rest := by
  cases h1 : mj_call cy w f as with
  | none =>
    show mj_run y w f pc ls st = none
    cases h2 : mj_run y w f pc ls st with
    | none => rfl
    | some r =>
      obtain ⟨n, hn⟩ := mj_run_ex h2
      cases n with
      | zero => simp [mj_exec] at hn
      | succ n =>
        rw [mj_exec, h] at hn
        dsimp only at hn
        cases hc : mj_exec n cy w f 0 (mj_pad cy as) [] with
        | none => rw [hc] at hn; simp at hn
        | some q =>
          have h3 : mj_call cy w f as = some q := mj_run_of hc
          rw [h3] at h1
          exact absurd h1 (by simp)
  | some q =>
    obtain ⟨w', f', v⟩ := q
    obtain ⟨n1, hn1⟩ := mj_run_ex h1
    show mj_run y w f pc ls st = mj_then k (some (w', f', v)) y pc ls rest
    unfold mj_then
    dsimp only
    cases hr : mj_ret k f' v with
    | none =>
      dsimp only
      cases h2 : mj_run y w f pc ls st with
      | none => rfl
      | some r =>
        obtain ⟨n, hn⟩ := mj_run_ex h2
        cases n with
        | zero => simp [mj_exec] at hn
        | succ n =>
          rw [mj_exec, h] at hn
          dsimp only at hn
          cases hc : mj_exec n cy w f 0 (mj_pad cy as) [] with
          | none => rw [hc] at hn; simp at hn
          | some q =>
            have h3 : mj_run cy w f 0 (mj_pad cy as) [] = some q := mj_run_of hc
            have h4 := (mj_run_of hn1).symm.trans h3
            cases h4
            rw [hc] at hn
            dsimp only at hn
            rw [hr] at hn
            simp at hn
    | some q =>
      obtain ⟨f'', v'⟩ := q
      dsimp only
      refine mj_run_eq fun r => ⟨fun ⟨n, hn⟩ => ?_, fun ⟨n, hn⟩ => ?_⟩
      · cases n with
        | zero => simp [mj_exec] at hn
        | succ n =>
          rw [mj_exec, h] at hn
          dsimp only at hn
          cases hc : mj_exec n cy w f 0 (mj_pad cy as) [] with
          | none => rw [hc] at hn; simp at hn
          | some q =>
            have h3 : mj_run cy w f 0 (mj_pad cy as) [] = some q := mj_run_of hc
            have h4 := (mj_run_of hn1).symm.trans h3
            cases h4
            rw [hc] at hn
            dsimp only at hn
            rw [hr] at hn
            exact ⟨n, hn⟩
      · refine ⟨max n1 n + 1, ?_⟩
        rw [mj_exec, h]
        dsimp only
        rw [mj_mono (Nat.le_max_left n1 n) hn1]
        dsimp only
        rw [hr]
        exact mj_mono (Nat.le_max_right n1 n) hn
end
section
/-! The real machine follows ours: values, cells, the world. -/
def lw_t2 : List Cond := lw_tbl.filter goodWord
def mj_rg (v : Int) : Prop := -2147483648 ≤ v ∧ v < 2147483648
def mj_okv : mj_V → Prop
  | .inl v => mj_rg v
  | .inr (.inl _) => True
  | .inr (.inr (.inl v)) => -9223372036854775808 ≤ v ∧ v < 9223372036854775808
  | .inr (.inr (.inr _)) => True
def mj_ad (b sz a : Nat) : Nat := if a = 1 then b else sz + a - 2
def mj_val (b sz : Nat) : mj_V → Value
  | .inl v => .int (Int32.ofInt v)
  | .inr (.inl a) => .ref (mj_ad b sz a)
  | .inr (.inr (.inl v)) => .long (Int64.ofInt v)
  | .inr (.inr (.inr _)) => .null
theorem mj_to {v : Int} (h : mj_rg v) : (Int32.ofInt v).toInt = v := Int32.toInt_ofInt_of_le h.1 h.2
theorem mj_rg_to (x : Int32) : mj_rg x.toInt := ⟨Int32.le_toInt x, Int32.toInt_lt x⟩
theorem mj_w_rg (x : Int) : mj_rg (mj_w x) := by unfold mj_w mj_rg; omega
theorem mj_w8_rg (x : Int) : mj_rg (mj_w8 x) := by unfold mj_w8 mj_rg; omega
theorem mj_w_id {x : Int} (h1 : -2147483648 ≤ x) (h2 : x < 2147483648) : mj_w x = x := by unfold mj_w; omega
theorem mj_bmod (x : Int) : x.bmod (2 ^ 32) = mj_w x := by
  rw [Int.bmod_def]
  unfold mj_w
  have : ((2 ^ 32 : Nat) : Int) = 4294967296 := by decide
  rw [this]
  split <;> omega
theorem mj_ofw (x : Int) : Int32.ofInt (mj_w x) = Int32.ofInt x := by
  apply Int32.toInt_inj.mp
  rw [mj_to (mj_w_rg x), Int32.toInt_ofInt]
  exact (mj_bmod x).symm
theorem mj_lt {a b : Int} (ha : mj_rg a) (hb : mj_rg b) : Int32.ofInt a < Int32.ofInt b ↔ a < b := by rw [Int32.lt_iff_toInt_lt, mj_to ha, mj_to hb]
theorem mj_le {a b : Int} (ha : mj_rg a) (hb : mj_rg b) : Int32.ofInt a ≤ Int32.ofInt b ↔ a ≤ b := by rw [Int32.le_iff_toInt_le, mj_to ha, mj_to hb]
theorem mj_eq {a b : Int} (ha : mj_rg a) (hb : mj_rg b) : Int32.ofInt a = Int32.ofInt b ↔ a = b := by rw [← Int32.toInt_inj, mj_to ha, mj_to hb]
theorem mj_rg0 : mj_rg 0 := by unfold mj_rg; omega
theorem mj_clamp {a : Int} (ha : mj_rg a) : (Int32.ofInt a).toNatClampNeg = a.toNat := by
  show (Int32.ofInt a).toInt.toNat = a.toNat
  rw [mj_to ha]
theorem mj_vpin {j : Int} {n : Nat} (h : mj_rg j) (h0 : 0 ≤ j) (h1 : j < n) : vp_in (Int32.ofInt j) n := by
  unfold vp_in
  rw [mj_clamp h]
  intro q
  rcases q with q | q
  · have := (mj_lt h mj_rg0).mp q
    omega
  · omega
theorem mj_ofto (x : Int32) : Int32.ofInt x.toInt = x := Int32.ofInt_toInt x
theorem mj_w8_of (a : Int) : (Int32.ofInt a).toInt8.toInt32 = Int32.ofInt (mj_w8 a) := by
  apply Int32.toInt_inj.mp
  rw [mj_to (mj_w8_rg a), Int8.toInt_toInt32, Int32.toInt_toInt8, Int32.toInt_ofInt, mj_bmod, Int.bmod_def]
  unfold mj_w mj_w8
  have : ((2 ^ 8 : Nat) : Int) = 256 := by decide
  rw [this]
  split <;> omega
theorem mj_to64 {v : Int} (h1 : -9223372036854775808 ≤ v) (h2 : v < 9223372036854775808) : (Int64.ofInt v).toInt = v := Int64.toInt_ofInt_of_le h1 h2
theorem mj_w64_rg (x : Int) : -9223372036854775808 ≤ mj_w64 x ∧ mj_w64 x < 9223372036854775808 := by unfold mj_w64; omega
theorem mj_ofw64 (x : Int) : Int64.ofInt (mj_w64 x) = Int64.ofInt x := by
  apply Int64.toInt_inj.mp
  rw [mj_to64 (mj_w64_rg x).1 (mj_w64_rg x).2, Int64.toInt_ofInt, Int.bmod_def]
  unfold mj_w64
  have : ((2 ^ 64 : Nat) : Int) = 18446744073709551616 := by decide
  rw [this]
  split <;> omega
theorem mj_i2l {a : Int} (h : mj_rg a) : (Int32.ofInt a).toInt64 = Int64.ofInt a := by
  apply Int64.toInt_inj.mp
  rw [Int32.toInt_toInt64, mj_to h, mj_to64 (by unfold mj_rg at h; omega) (by unfold mj_rg at h; omega)]
end
section
/-! The world: what the heap holds for a flat memory. -/
abbrev mj_G : Type := va_G × (Nat → ClassId)
def mj_zn : String := "ClockZones$Zone"
def mj_tys (c : Nat → ClassId) : List (ClassId × FieldType) := [(c 0, .int), (c 1, .byte), (c 2, .object mj_zn), (c 3, .long)]
def mj_rv (b sz r : Nat) : Value := if r = 0 then .null else .ref (mj_ad b sz r)
def mj_fv (b sz : Nat) (w : mj_W) (f : mj_F) (ci a k : Nat) : Value := if mj_kind ci k = 2 then mj_rv b sz (w.2.1 a k) else .int (Int32.ofInt (f a k))
def mj_E (c : Nat → ClassId) (b sz : Nat) (w : mj_W) (f : mj_F) (a : Nat) : va_E :=
  if (w.1 a).1 = 100 then .inl (c 0, (w.1 a).2, .inl (fun j => Int32.ofInt (f a j)))
  else if (w.1 a).1 = 101 then .inl (c 1, (w.1 a).2, .inl (fun j => Int32.ofInt (f a j)))
  else if (w.1 a).1 = 102 then .inl (c 2, (w.1 a).2, .inr (.inr (.inr (.inr (fun j => if w.2.1 a j = 0 then none else some (mj_ad b sz (w.2.1 a j)))))))
  else if (w.1 a).1 = 103 then .inl (c 3, (w.1 a).2, .inr (.inl (fun j => Int64.ofInt (f a j))))
  else .inr ((w.1 a).1, (List.range (mj_nf (w.1 a).1)).map (mj_fv b sz w f (w.1 a).1 a))
def mj_lv (w : mj_W) (a : Nat) : Prop := (w.1 a).1 < 10 ∨ 100 ≤ (w.1 a).1 ∧ (w.1 a).1 ≤ 103
def mj_wf (w : mj_W) : Prop := 2 ≤ w.2.2.1 ∧ (∀ a, mj_lv w a → 2 ≤ a ∧ a < w.2.2.1) ∧ ∀ a, (w.1 a).1 = 104 → a = 1
def mj_Cl (c : Nat → ClassId) (b sz : Nat) (w : mj_W) (f : mj_F) (q : Nat) : va_E := mj_E c b sz w f (q + 2 - sz)
abbrev mj_A (sz : Nat) : Nat → Prop := fun q => sz ≤ q
/-- the heap holds the memory -/
def mj_P (G : mj_G) (b sz : Nat) (w : mj_W) (f : mj_F) (H : Heap) : Prop :=
  ∃ L : List Nat, va_P G.1 mj_cl (va_pl L (mj_Cl G.2 b sz w f)) H ∧ va_D (mj_A sz) (va_pl L (mj_Cl G.2 b sz w f)) ∧ (∀ a, mj_lv w a → sz + a - 2 ∈ L) ∧ H.size + 2 = sz + w.2.2.1 ∧ mj_wf w ∧ ∀ a j, mj_rg (f a j)
theorem mj_E_congr {c : Nat → ClassId} {b sz : Nat} {w w' : mj_W} {f f' : mj_F} {a : Nat} (h1 : w'.1 a = w.1 a) (h2 : w'.2.1 a = w.2.1 a) (h3 : f' a = f a) : mj_E c b sz w' f' a = mj_E c b sz w f a := by
  unfold mj_E
  rw [h1, h2, h3]
  have h4 : mj_fv b sz w' f' (w.1 a).1 a = mj_fv b sz w f (w.1 a).1 a := by
    funext k
    unfold mj_fv
    rw [h2, h3]
  rw [h4]
theorem mj_pl_get {L : List Nat} {F : Nat → va_E} {q : Nat} (h : q ∈ L) : ∃ k : Nat, (va_pl L F)[k]? = some (q, F q) := by
  obtain ⟨k, hk⟩ := va_pl_get (X := []) (f := F) h
  exact ⟨k, hk⟩
theorem mj_pl_congr {L : List Nat} {F F' : Nat → va_E} (h : ∀ q ∈ L, F' q = F q) : va_pl L F' = va_pl L F := by
  unfold va_pl
  exact List.map_congr_left (fun q hq => by rw [h q hq])
theorem mj_pl_set {A : Nat → Prop} {L : List Nat} {F F' : Nat → va_E} {k q : Nat} {e : va_E} (hD : va_D A (va_pl L F)) (h : q ∈ L) (hk : (va_pl L F)[k]? = some (q, F q)) (he : F' q = e) (ho : ∀ x ∈ L, x ≠ q → F' x = F x) : (va_pl L F).set k (q, e) = va_pl L F' := by
  have h1 := va_pl_set (X := []) (e := e) hD h hk
  refine h1.trans (mj_pl_congr (fun x hx => ?_))
  by_cases hq : x = q
  · subst hq
    rw [va_up_self, he]
  · rw [va_up_ne _ _ hq, ho x hx hq]
theorem mj_pl_push {L : List Nat} {F F' : Nat → va_E} {q : Nat} {e : va_E} (h : q ∉ L) (he : F' q = e) (ho : ∀ x ∈ L, F' x = F x) : va_pl L F ++ [(q, e)] = va_pl (L ++ [q]) F' := by
  rw [va_pl_push h]
  refine mj_pl_congr (fun x hx => ?_)
  by_cases hq : x = q
  · subst hq
    rw [va_up_self, he]
  · rw [va_up_ne _ _ hq]
    rcases List.mem_append.mp hx with h1 | h1
    · exact (ho x h1).symm
    · exact absurd (List.mem_singleton.mp h1) hq
theorem mj_Cl_ad {c : Nat → ClassId} {b sz : Nat} {w : mj_W} {f : mj_F} {a : Nat} (h : 2 ≤ a) : mj_Cl c b sz w f (sz + a - 2) = mj_E c b sz w f a := by
  unfold mj_Cl
  rw [show sz + a - 2 + 2 - sz = a by omega]
theorem mj_ad_2 {b sz a : Nat} (h : 2 ≤ a) : mj_ad b sz a = sz + a - 2 := by unfold mj_ad; rw [if_neg (by omega)]
theorem mj_mem_sz {sz : Nat} {L : List Nat} {F : Nat → va_E} (hD : va_D (mj_A sz) (va_pl L F)) {q : Nat} (h : q ∈ L) : sz ≤ q := by
  obtain ⟨k, hk⟩ := mj_pl_get (F := F) h
  exact hD.2 k _ hk
theorem mj_mem_lt {D : va_G} {cl : List vw_C} {L : List Nat} {F : Nat → va_E} {H : Heap} (hP : va_P D cl (va_pl L F) H) {q : Nat} (h : q ∈ L) : q < H.size := by
  obtain ⟨k, hk⟩ := mj_pl_get (F := F) h
  exact (hP k _ hk).lt
/-- a cell of ours, as it lies in the heap's list -/
theorem mj_P_at {G : mj_G} {b sz : Nat} {w : mj_W} {f : mj_F} {L : List Nat} (hL : ∀ a, mj_lv w a → sz + a - 2 ∈ L) (hwf : mj_wf w) {a : Nat} (ha : mj_lv w a) : 2 ≤ a ∧ a < w.2.2.1 ∧ mj_ad b sz a = sz + a - 2 ∧ sz + a - 2 ∈ L ∧ ∃ k : Nat, (va_pl L (mj_Cl G.2 b sz w f))[k]? = some (mj_ad b sz a, mj_E G.2 b sz w f a) := by
  have h2 := hwf.2.1 a ha
  have hm := hL a ha
  obtain ⟨k, hk⟩ := mj_pl_get (F := mj_Cl G.2 b sz w f) hm
  rw [mj_Cl_ad h2.1] at hk
  exact ⟨h2.1, h2.2, mj_ad_2 h2.1, hm, k, by rw [mj_ad_2 h2.1]; exact hk⟩
/-- one cell is written: the new memory is like the old one but at a -/
theorem mj_P.write {G : mj_G} {b sz : Nat} {w w' : mj_W} {f f' : mj_F} {H1 : Heap} {L : List Nat} {k a : Nat} {e : va_E} (hD : va_D (mj_A sz) (va_pl L (mj_Cl G.2 b sz w f))) (hL : ∀ a, mj_lv w a → sz + a - 2 ∈ L) (hwf : mj_wf w) (ha : mj_lv w a)
    (hk : (va_pl L (mj_Cl G.2 b sz w f))[k]? = some (mj_ad b sz a, mj_E G.2 b sz w f a)) (he : mj_E G.2 b sz w' f' a = e) (h1 : w'.1 = w.1) (h2 : ∀ x, x ≠ a → w'.2.1 x = w.2.1 x) (h3 : ∀ x, x ≠ a → f' x = f x) (h4 : w'.2.2.1 = w.2.2.1) (hz : H1.size + 2 = sz + w.2.2.1) (hr : ∀ a j, mj_rg (f' a j))
    (hP1 : va_P G.1 mj_cl ((va_pl L (mj_Cl G.2 b sz w f)).set k (mj_ad b sz a, e)) H1) (hD1 : va_D (mj_A sz) ((va_pl L (mj_Cl G.2 b sz w f)).set k (mj_ad b sz a, e))) : mj_P G b sz w' f' H1 := by
  have g := hwf.2.1 a ha
  have hm := hL a ha
  rw [mj_ad_2 g.1] at hk hP1 hD1
  have hs : (va_pl L (mj_Cl G.2 b sz w f)).set k (sz + a - 2, e) = va_pl L (mj_Cl G.2 b sz w' f') := by
    refine mj_pl_set hD hm (by rw [hk, mj_Cl_ad g.1]) (by rw [mj_Cl_ad g.1, he]) (fun x hx hne => ?_)
    have := mj_mem_sz hD hx
    have hxa : x + 2 - sz ≠ a := by omega
    exact mj_E_congr (by rw [h1]) (h2 _ hxa) (h3 _ hxa)
  rw [hs] at hP1 hD1
  have hlv : ∀ x, mj_lv w' x ↔ mj_lv w x := fun x => by unfold mj_lv; rw [h1]
  refine ⟨L, hP1, hD1, fun x hx => hL x ((hlv x).mp hx), by rw [h4]; exact hz, ⟨by rw [h4]; exact hwf.1, fun x hx => by rw [h4]; exact hwf.2.1 x ((hlv x).mp hx), fun x hx => hwf.2.2 x (by rw [← h1]; exact hx)⟩, hr⟩
/-- a cell is made -/
theorem mj_P.push {G : mj_G} {b sz : Nat} {w : mj_W} {f f' : mj_F} {H H1 : Heap} {L : List Nat} {t : Nat × Nat} {n : Nat} {e : va_E} (hP : va_P G.1 mj_cl (va_pl L (mj_Cl G.2 b sz w f)) H) (hD : va_D (mj_A sz) (va_pl L (mj_Cl G.2 b sz w f))) (hL : ∀ a, mj_lv w a → sz + a - 2 ∈ L) (hz : H.size + 2 = sz + w.2.2.1) (hwf : mj_wf w) (hr : ∀ a j, mj_rg (f a j)) (ht : t.1 ≠ 104) {q : Nat}
    (hq : q = H.size) (he : mj_E G.2 b sz (mj_new w t n) (mj_z f w.2.2.1) w.2.2.1 = e) (hz1 : H1.size = H.size + 1)
    (hP1 : va_P G.1 mj_cl (va_pl L (mj_Cl G.2 b sz w f) ++ [(q, e)]) H1) (hD1 : va_D (mj_A sz) (va_pl L (mj_Cl G.2 b sz w f) ++ [(q, e)])) : mj_P G b sz (mj_new w t n) (mj_z f w.2.2.1) H1 ∧ q = mj_ad b sz w.2.2.1 := by
  have g := hwf.1
  have hqa : q = sz + w.2.2.1 - 2 := by omega
  have hnew : ∀ x, x ≠ w.2.2.1 → mj_E G.2 b sz (mj_new w t n) (mj_z f w.2.2.1) x = mj_E G.2 b sz w f x := fun x hx => mj_E_congr (by simp [mj_new, hx]) (by funext j; simp [mj_new, hx]) (by funext j; simp [mj_z, hx])
  have hs : va_pl L (mj_Cl G.2 b sz w f) ++ [(q, e)] = va_pl (L ++ [q]) (mj_Cl G.2 b sz (mj_new w t n) (mj_z f w.2.2.1)) := by
    refine mj_pl_push (fun h => ?_) ?_ (fun x hx => ?_)
    · have := mj_mem_lt hP h
      omega
    · rw [hqa, mj_Cl_ad g, he]
    · have h1 := mj_mem_sz hD hx
      have h2 := mj_mem_lt hP hx
      exact hnew _ (by omega)
  rw [hs] at hP1 hD1
  refine ⟨⟨L ++ [q], hP1, hD1, fun a ha => ?_, by show _ = sz + (w.2.2.1 + 1); omega, ⟨by show 2 ≤ w.2.2.1 + 1; omega, fun a ha => ?_, fun a ha => ?_⟩, fun a j => ?_⟩, by rw [mj_ad_2 g, hqa]⟩
  · by_cases hx : a = w.2.2.1
    · subst hx
      exact List.mem_append_right _ (by rw [hqa]; exact List.mem_singleton.mpr rfl)
    · have : mj_lv w a := by simpa [mj_lv, mj_new, hx] using ha
      exact List.mem_append_left _ (hL a this)
  · show 2 ≤ a ∧ a < w.2.2.1 + 1
    by_cases hx : a = w.2.2.1
    · omega
    · have h1 : mj_lv w a := by simpa [mj_lv, mj_new, hx] using ha
      have := hwf.2.1 a h1
      omega
  · by_cases hx : a = w.2.2.1
    · subst hx
      simp [mj_new] at ha
      exact absurd ha ht
    · exact hwf.2.2 a (by simpa [mj_new, hx] using ha)
  · unfold mj_z
    split
    · exact mj_rg0
    · exact hr a j
end
section
/-! What the tables of our machine say stands in the claim's tables: decided by the kernel. -/
def mj_own (y : Nat) : String := mj_owns.getD (mj_cn y) ""
def mj_typ : List (Nat → FieldType) := [tyX0, tyX1, tyX2, tyX3, tyX4, tyX5, tyX6, tyX7, tyX8, tyX9]
def mj_ty (ci : Nat) : Nat → FieldType := mj_typ.getD ci tyX0
/-- a word of a nest link: not among those that stay by themselves -/
def mj_nst : Cond → Bool
  | .fieldLinkNest .. => true
  | .methodLinkNest .. => true
  | _ => false
theorem mj_t2 {w : Cond} {q : Nat} (h : lw_tbl[q]? = some w) (hg : goodWord w = true) : w ∈ lw_t2 := List.mem_filter.mpr ⟨List.mem_of_getElem? h, hg⟩
/-- a field of a class, and the link to it -/
def mj_fok (cn : Nat) (e : Nat × Nat × Nat × Nat) : Bool := match mj_cl[e.2.1]? with
  | some (_, T, N) => decide (e.2.2.1 < N) && (match lw_tbl[e.2.2.2]? with
    | some (.fieldLink own i r n d) => own == mj_owns.getD cn "" && i == e.1 && r == (T e.2.2.1).1 && n == (T e.2.2.1).2.1 && d == (T e.2.2.1).2.2.1
    | some (.fieldLinkNest own i r n d _) => own == mj_owns.getD cn "" && i == e.1 && r == (T e.2.2.1).1 && n == (T e.2.2.1).2.1 && d == (T e.2.2.1).2.2.1
    | _ => false)
  | none => false
theorem mj_fok_all : ((List.range 26).all fun cn => (mj_fts.getD cn []).all (mj_fok cn)) = true := by decide +kernel
theorem mj_look_mem {α : Type} : ∀ (t : List (Nat × α)) (i : Nat) (v : α), mj_look t i = some v → (i, v) ∈ t := by
  intro t
  induction t with
  | nil => intro i v h; simp [mj_look] at h
  | cons q t ih =>
    intro i v h
    obtain ⟨k, x⟩ := q
    unfold mj_look at h
    by_cases hk : k = i
    · rw [if_pos hk] at h
      cases h
      subst hk
      exact List.mem_cons_self
    · rw [if_neg hk] at h
      exact List.mem_cons_of_mem _ (ih i v h)
theorem mj_getD_lt {α : Type} {l : List α} {n : Nat} {d : α} (h : l.getD n d ≠ d) : n < l.length := by
  rcases Nat.lt_or_ge n l.length with q | q
  · exact q
  · exact absurd (by rw [List.getD_eq_getElem?_getD, List.getElem?_eq_none q]; rfl) h
theorem mj_fts_len : mj_fts.length = 26 := by decide +kernel
theorem mj_cts_len : mj_cts.length = 26 := by decide +kernel
theorem mj_kts_len : mj_kts.length = 26 := by decide +kernel
theorem mj_look_lt {α : Type} {l : List (List (Nat × α))} {cn idx : Nat} {v : α} (h : mj_look (l.getD cn []) idx = some v) : cn < l.length := by
  refine mj_getD_lt (d := []) fun q => ?_
  rw [q] at h
  simp [mj_look] at h
/-- the field behind an index -/
theorem mj_fl_ok {cn idx ci k q : Nat} (h : mj_fl cn idx = some (ci, k, q)) : ∃ (C : String) (T : u_T) (N : Nat), mj_cl[ci]? = some (C, T, N) ∧ k < N ∧ ((lw_tbl[q]? = some (.fieldLink (mj_owns.getD cn "") idx (T k).1 (T k).2.1 (T k).2.2.1)) ∨ ∃ host, lw_tbl[q]? = some (.fieldLinkNest (mj_owns.getD cn "") idx (T k).1 (T k).2.1 (T k).2.2.1 host)) := by
  have hm := mj_look_mem _ _ _ h
  have hl := mj_look_lt h
  rw [mj_fts_len] at hl
  have h1 := List.all_eq_true.mp (List.all_eq_true.mp mj_fok_all cn (List.mem_range.mpr hl)) _ hm
  unfold mj_fok at h1
  dsimp only at h1
  cases hc : mj_cl[ci]? with
  | none => rw [hc] at h1; cases h1
  | some r =>
    obtain ⟨C, T, N⟩ := r
    rw [hc] at h1
    dsimp only at h1
    rw [Bool.and_eq_true] at h1
    refine ⟨C, T, N, rfl, of_decide_eq_true h1.1, ?_⟩
    cases hq : lw_tbl[q]? with
    | none => rw [hq] at h1; cases h1.2
    | some w =>
      rw [hq] at h1
      cases w with
      | fieldLink own i r n d =>
        left
        have h2 := h1.2
        simp only [Bool.and_eq_true, beq_iff_eq] at h2
        obtain ⟨⟨⟨⟨a1, a2⟩, a3⟩, a4⟩, a5⟩ := h2
        subst a1 a2 a3 a4 a5
        rfl
      | fieldLinkNest own i r n d host =>
        right
        have h2 := h1.2
        simp only [Bool.and_eq_true, beq_iff_eq] at h2
        obtain ⟨⟨⟨⟨a1, a2⟩, a3⟩, a4⟩, a5⟩ := h2
        subst a1 a2 a3 a4 a5
        exact ⟨host, rfl⟩
      | _ => cases h1.2
def mj_kok (cn : Nat) (e : Nat × Int32 × Nat) : Bool := match lw_tbl[e.2.2]? with
  | some (.constant own i v) => own == mj_owns.getD cn "" && i == e.1 && decide (v = e.2.1)
  | _ => false
theorem mj_kok_all : ((List.range 26).all fun cn => (mj_kts.getD cn []).all (mj_kok cn)) = true := by decide +kernel
theorem mj_kl_ok {cn idx q : Nat} {v : Int32} (h : mj_kl cn idx = some (v, q)) : lw_tbl[q]? = some (.constant (mj_owns.getD cn "") idx v) := by
  have hm := mj_look_mem _ _ _ h
  have hl := mj_look_lt h
  rw [mj_kts_len] at hl
  have h1 := List.all_eq_true.mp (List.all_eq_true.mp mj_kok_all cn (List.mem_range.mpr hl)) _ hm
  unfold mj_kok at h1
  dsimp only at h1
  cases hq : lw_tbl[q]? with
  | none => rw [hq] at h1; cases h1
  | some w =>
    rw [hq] at h1
    cases w with
    | constant own i v =>
      simp only [Bool.and_eq_true, beq_iff_eq, decide_eq_true_eq] at h1
      obtain ⟨⟨a1, a2⟩, a3⟩ := h1
      subst a1 a2 a3
      rfl
    | _ => cases h1
/-- the classes: their words, names, types -/
theorem mj_cl_in : (mj_cl.all fun q => (u_ws q.1 q.2.1 q.2.2).all fun w => decide (w ∈ lw_tbl) && goodWord w) = true := by decide +kernel
theorem mj_hin {ci : Nat} {C : String} {T : u_T} {N : Nat} (h : mj_cl[ci]? = some (C, T, N)) : ∀ w ∈ u_ws C T N, w ∈ lw_t2 := by
  intro w hw
  have h1 := List.all_eq_true.mp (List.all_eq_true.mp mj_cl_in _ (List.mem_of_getElem? h)) w hw
  rw [Bool.and_eq_true] at h1
  exact List.mem_filter.mpr ⟨of_decide_eq_true h1.1, h1.2⟩
theorem mj_cl_cases {ci : Nat} {r : vw_C} (h : mj_cl[ci]? = some r) {P : Nat → vw_C → Prop} (h0 : P 0 (RX0, TX0, 10)) (h1 : P 1 (RX1, TX1, 6)) (h2 : P 2 (RX2, TX2, 2)) (h3 : P 3 (RX3, TX3, 18)) (h4 : P 4 (RX4, TX4, 10)) (h5 : P 5 (RX5, TX5, 8)) (h6 : P 6 (RX6, TX6, 1)) (h7 : P 7 (RX7, TX7, 3)) (h8 : P 8 (RX8, TX8, 11)) (h9 : P 9 (RX9, TX9, 61)) : P ci r := by
  match ci, h with
  | 0, h => cases h; exact h0
  | 1, h => cases h; exact h1
  | 2, h => cases h; exact h2
  | 3, h => cases h; exact h3
  | 4, h => cases h; exact h4
  | 5, h => cases h; exact h5
  | 6, h => cases h; exact h6
  | 7, h => cases h; exact h7
  | 8, h => cases h; exact h8
  | 9, h => cases h; exact h9
  | k + 10, h => simp [mj_cl] at h
theorem mj_cl_nf {ci : Nat} {C : String} {T : u_T} {N : Nat} (h : mj_cl[ci]? = some (C, T, N)) : mj_nf ci = N ∧ ci < 10 := by
  refine mj_cl_cases (P := fun ci r => mj_nf ci = r.2.2 ∧ ci < 10) h ?_ ?_ ?_ ?_ ?_ ?_ ?_ ?_ ?_ ?_ <;> exact ⟨rfl, by decide⟩
theorem mj_cl_nm {ci : Nat} {C : String} {T : u_T} {N : Nat} (h : mj_cl[ci]? = some (C, T, N)) : ∀ a, a < N → ∀ b, b < N → a ≠ b → (T a).2.1 ≠ (T b).2.1 :=
  mj_cl_cases (P := fun _ r => ∀ a, a < r.2.2 → ∀ b, b < r.2.2 → a ≠ b → (r.2.1 a).2.1 ≠ (r.2.1 b).2.1) h nmX0 nmX1 nmX2 nmX3 nmX4 nmX5 nmX6 nmX7 nmX8 nmX9
theorem mj_cl_ty {ci : Nat} {C : String} {T : u_T} {N : Nat} (h : mj_cl[ci]? = some (C, T, N)) : ∀ k, k < N → parseFieldDescriptor (T k).2.2.1 = some (mj_ty ci k) :=
  mj_cl_cases (P := fun ci r => ∀ k, k < r.2.2 → parseFieldDescriptor (r.2.1 k).2.2.1 = some (mj_ty ci k)) h tyX0_ok tyX1_ok tyX2_ok tyX3_ok tyX4_ok tyX5_ok tyX6_ok tyX7_ok tyX8_ok tyX9_ok
/-- a type's kind -/
def mj_tk : FieldType → Nat
  | .int => 0
  | .boolean => 1
  | .object _ => 2
  | .array _ => 2
  | _ => 5
theorem mj_tk_all : ((List.range 10).all fun ci => (List.range (mj_nf ci)).all fun k => mj_tk (mj_ty ci k) == mj_kind ci k) = true := by decide +kernel
theorem mj_tk_of {ci k : Nat} (h : ci < 10) (hk : k < mj_nf ci) : mj_tk (mj_ty ci k) = mj_kind ci k := by
  have h1 := List.all_eq_true.mp (List.all_eq_true.mp mj_tk_all ci (List.mem_range.mpr h)) k (List.mem_range.mpr hk)
  exact beq_iff_eq.mp h1
theorem mj_kind_le {ci k : Nat} (h : ci < 10) (hk : k < mj_nf ci) : mj_kind ci k = 0 ∨ mj_kind ci k = 1 ∨ mj_kind ci k = 2 := by
  have := mj_tk_all
  have h2 : ((List.range 10).all fun ci => (List.range (mj_nf ci)).all fun k => decide (mj_kind ci k < 3)) = true := by decide +kernel
  have h1 := of_decide_eq_true (List.all_eq_true.mp (List.all_eq_true.mp h2 ci (List.mem_range.mpr h)) k (List.mem_range.mpr hk))
  omega
theorem mj_narrow_i {ty : FieldType} {v : Int} (h : mj_tk ty = 0 ∨ mj_tk ty = 1 ∧ (v = 0 ∨ v = 1)) : narrow ty (.int (Int32.ofInt v)) = .int (Int32.ofInt v) ∧ fits ty (.int (Int32.ofInt v)) = true := by
  cases ty <;> simp [mj_tk] at h <;> first | exact ⟨rfl, rfl⟩ | (rcases h with rfl | rfl <;> exact ⟨rfl, rfl⟩)
theorem mj_narrow_r {ty : FieldType} {a : Nat} (h : mj_tk ty = 2) : narrow ty (.ref a) = .ref a ∧ fits ty (.ref a) = true := by
  cases ty <;> simp [mj_tk] at h <;> exact ⟨rfl, rfl⟩
theorem mj_default {ty : FieldType} {k : Nat} (h : mj_tk ty = k) (hk : k = 0 ∨ k = 1 ∨ k = 2) : defaultValue ty = if k = 2 then .null else .int 0 := by
  subst h
  cases ty <;> simp [mj_tk] at hk ⊢ <;> rfl
/-- what a state has beside its heap -/
def mj_Ok (G : mj_G) (U : State) : Prop := va_K G.1 mj_cl (mj_tys G.2) U ∧ va_AO mj_zn U ∧ ∀ w ∈ lw_tbl, mj_nst w = true → va_Nw w U
theorem mj_Ok.warm {G : mj_G} {s U : State} (hW : s.WarmedH U.vm) (h : mj_Ok G s) : mj_Ok G U := by
  refine ⟨va_K.moved hW.alike h.1, va_AO.moved hW.alike h.2.1, fun w hw hn => ?_⟩
  have h1 := h.2.2 w hw hn
  cases w with
  | fieldLinkNest a i b n d h => exact va_Nw.warmF hW h1
  | methodLinkNest a i x h => exact va_Nw.warmM hW h1
  | _ => cases hn
theorem mj_Ok.same {G : mj_G} {s U : State} (hv : s.vm = U.vm) (h : mj_Ok G s) : mj_Ok G U := by
  refine ⟨va_K.moved (by rw [hv]; exact Vm.Alike.refl _) h.1, va_AO.moved (by rw [hv]; exact Vm.Alike.refl _) h.2.1, fun w hw hn => ?_⟩
  have h1 := h.2.2 w hw hn
  cases w with
  | fieldLinkNest a i b n d h => exact va_Nw.same rfl hv h1
  | methodLinkNest a i x h => exact va_Nw.same rfl hv h1
  | _ => cases hn
end
section
/-! One step of ours is one step of the real machine. -/
def mj_C (p : Program) (s : State) (m : MethodId) (args : Array Value) (meth : Method) (c : Code) (G : mj_G) (y : Nat) : Prop :=
  p.tables.exec = Jvm.exec ∧ c.code = mj_code y ∧ c.maxLocals = mj_nL y ∧ s.vm.findClass (mj_own y) = some m.cls ∧ (∀ w ∈ lw_t2, w.before args s = true) ∧ (mj_isInit y = true → meth.name = "<init>") ∧ mj_Ok G s
def mj_Ls (b sz y : Nat) (ls : List mj_V) (lsA : Array Slot) : Prop :=
  ls.length = mj_nL y ∧ (∀ v ∈ ls, mj_okv v) ∧ ∃ lv : List (Nat × Value), lv_has lsA (mj_nL y) lv ∧ ∀ (k : Nat) (v : mj_V), ls[k]? = some v → (∀ u, v ≠ .inr (.inr (.inr u))) → (k, mj_val b sz v) ∈ lv
def mj_I (s : State) (G : mj_G) (b sz : Nat) (n0 s0 y : Nat) (w : mj_W) (f : mj_F) (ls st : List mj_V) (H : Heap) (locs : List Loc) (lsA : Array Slot) : Prop :=
  mj_P G b sz w f H ∧ va_S (mj_A sz) s.heap H locs ∧ mj_Ls b sz y ls lsA ∧ (∀ v ∈ st, mj_okv v) ∧ (s.heap.size + 2 = sz + n0 ∧ 2 ≤ n0) ∧ b < sz ∧ ((w.1 1).1 = 104 → va_X b (w.1 1).2 (fun j => Int32.ofInt (f 1 j)) s s.heap) ∧ n0 ≤ w.2.2.1 ∧ s0 ≤ w.2.2.2
theorem mj_dec_ex {y pc : Nat} {i : Instr} (h : mj_dec y pc = some i) : ∃ n, decode (mj_code y) pc = .ok (i, n) ∧ (mj_len i = 0 ∨ n = mj_len i) := by
  unfold mj_dec at h
  cases hd : decode (mj_code y) pc with
  | error x => rw [hd] at h; cases h
  | ok q =>
    obtain ⟨j, n⟩ := q
    rw [hd] at h
    dsimp only at h
    by_cases hc : mj_len j = 0 ∨ n = mj_len j
    · rw [if_pos hc] at h
      cases h
      exact ⟨n, rfl, hc⟩
    · rw [if_neg hc] at h
      cases h
theorem mj_dec_ok {y pc : Nat} {i : Instr} {n : Nat} (h : mj_dec y pc = some i) (hn : mj_len i = n) (h0 : n ≠ 0) : decode (mj_code y) pc = .ok (i, n) := by
  obtain ⟨k, hk, h1⟩ := mj_dec_ex h
  rcases h1 with h1 | h1
  · exact absurd (hn.symm.trans h1) h0
  · rw [hk, h1, hn]
theorem mj_Ls.get {b sz y : Nat} {ls : List mj_V} {lsA : Array Slot} (h : mj_Ls b sz y ls lsA) {k : Nat} {v : mj_V} (hk : ls[k]? = some v) (hv : ∀ u, v ≠ .inr (.inr (.inr u))) : lsA[k]? = some (.val (mj_val b sz v)) ∧ mj_okv v := by
  obtain ⟨-, h2, lv, h3, h4⟩ := h
  exact ⟨h3.2.2 _ (h4 k v hk hv), h2 v (List.mem_of_getElem? hk)⟩
theorem mj_set_len (ls : List mj_V) (k : Nat) (v : mj_V) : (mj_set ls k v).length = ls.length := by
  unfold mj_set
  rw [List.length_set]
  cases k with
  | zero => rfl
  | succ j =>
    dsimp only
    split
    · rw [List.length_set]
    · rfl
theorem mj_set_get {ls : List mj_V} {k j : Nat} {v u : mj_V} (h : (mj_set ls k v)[j]? = some u) (hu : ∀ x, u ≠ .inr (.inr (.inr x))) : (j = k ∧ u = v) ∨ (j ≠ k ∧ ls[j]? = some u ∧ (j + 1 = k → ∀ x, u ≠ .inr (.inr (.inl x)))) := by
  unfold mj_set at h
  by_cases hj : j = k
  · subst hj
    left
    have hl := (List.getElem?_eq_some_iff.mp h).1
    rw [List.length_set] at hl
    rw [List.getElem?_set_self hl] at h
    exact ⟨rfl, (Option.some.inj h).symm⟩
  · right
    rw [List.getElem?_set_ne (Ne.symm hj)] at h
    refine ⟨hj, ?_⟩
    cases k with
    | zero => exact ⟨h, fun q => by omega⟩
    | succ i =>
      dsimp only at h
      split at h
      · next x hx =>
        by_cases hji : j = i
        · subst hji
          have hl := (List.getElem?_eq_some_iff.mp h).1
          rw [List.length_set] at hl
          rw [List.getElem?_set_self hl] at h
          exact absurd (Option.some.inj h).symm (hu 0)
        · rw [List.getElem?_set_ne (Ne.symm hji)] at h
          exact ⟨h, fun q => by omega⟩
      · next hx =>
        refine ⟨h, fun q x hux => ?_⟩
        have : j = i := by omega
        subst this
        exact hx x (by rw [h, hux])
theorem mj_set_mem {ls : List mj_V} {k : Nat} {v u : mj_V} (h : u ∈ mj_set ls k v) (hv : mj_okv v) (hl : ∀ u ∈ ls, mj_okv u) : mj_okv u := by
  obtain ⟨j, hj⟩ := List.getElem?_of_mem h
  by_cases hu : ∃ x, u = .inr (.inr (.inr x))
  · obtain ⟨x, rfl⟩ := hu
    exact trivial
  · rcases mj_set_get hj (fun x hx => hu ⟨x, hx⟩) with ⟨-, rfl⟩ | ⟨-, h1, -⟩
    · exact hv
    · exact hl u (List.mem_of_getElem? h1)
theorem mj_cat1 {b sz : Nat} {u : mj_V} (h : ∀ x, u ≠ .inr (.inr (.inl x))) : (mj_val b sz u).category = 1 := by
  rcases u with u | u | u | u
  · rfl
  · rfl
  · exact absurd rfl (h u)
  · rfl
/-- a word is stored in a local -/
theorem mj_Ls.set {b sz y : Nat} {ls : List mj_V} {lsA lsB : Array Slot} {lv : List (Nat × Value)} (h : ls.length = mj_nL y) (h2 : ∀ v ∈ ls, mj_okv v) (h4 : ∀ (k : Nat) (v : mj_V), ls[k]? = some v → (∀ u, v ≠ .inr (.inr (.inr u))) → (k, mj_val b sz v) ∈ lv) {k : Nat} {v : mj_V} (hv : mj_okv v)
    (hB : lv_has lsB (mj_nL y) ((k, mj_val b sz v) :: lv.filter (fun q => !(q.1 == k) && !(q.1 + 1 == k && q.2.category == 2)))) : mj_Ls b sz y (mj_set ls k v) lsB := by
  refine ⟨by rw [mj_set_len]; exact h, fun u hu => mj_set_mem hu hv h2, _, hB, fun j u hj hu => ?_⟩
  rcases mj_set_get hj hu with ⟨rfl, rfl⟩ | ⟨h5, h6, h7⟩
  · exact List.mem_cons_self
  · refine List.mem_cons_of_mem _ (List.mem_filter.mpr ⟨h4 j u h6 hu, ?_⟩)
    have h8 : (j == k) = false := by simpa using h5
    by_cases h9 : j + 1 = k
    · simp [h8, mj_cat1 (h7 h9)]
    · have : (j + 1 == k) = false := by simpa using h9
      simp [h8, this]
theorem mj_Ls.setL {b sz y : Nat} {ls : List mj_V} {lsA lsB : Array Slot} {lv : List (Nat × Value)} (h : ls.length = mj_nL y) (h2 : ∀ v ∈ ls, mj_okv v) (h4 : ∀ (k : Nat) (v : mj_V), ls[k]? = some v → (∀ u, v ≠ .inr (.inr (.inr u))) → (k, mj_val b sz v) ∈ lv) {k : Nat} {v : mj_V} (hv : mj_okv v)
    (hB : lv_has lsB (mj_nL y) ((k, mj_val b sz v) :: lv.filter (fun q => !(q.1 == k) && (!(q.1 == k + 1) && !(q.1 + 1 == k && q.2.category == 2))))) : mj_Ls b sz y ((mj_set ls k v).set (k + 1) (.inr (.inr (.inr 0)))) lsB := by
  refine ⟨by rw [List.length_set, mj_set_len]; exact h, fun u hu => ?_, _, hB, fun j u hj hu => ?_⟩
  · rcases List.mem_or_eq_of_mem_set hu with h5 | rfl
    · exact mj_set_mem h5 hv h2
    · exact trivial
  · by_cases hjk : j = k + 1
    · subst hjk
      have hl := (List.getElem?_eq_some_iff.mp hj).1
      rw [List.length_set] at hl
      rw [List.getElem?_set_self hl] at hj
      exact absurd (Option.some.inj hj).symm (hu 0)
    · rw [List.getElem?_set_ne (Ne.symm hjk)] at hj
      rcases mj_set_get hj hu with ⟨rfl, rfl⟩ | ⟨h5, h6, h7⟩
      · exact List.mem_cons_self
      · refine List.mem_cons_of_mem _ (List.mem_filter.mpr ⟨h4 j u h6 hu, ?_⟩)
        have h8 : (j == k) = false := by simpa using h5
        have h10 : (j == k + 1) = false := by simpa using hjk
        by_cases h9 : j + 1 = k
        · simp [h8, h10, mj_cat1 (h7 h9)]
        · have : (j + 1 == k) = false := by simpa using h9
          simp [h8, h10, this]
section MJ
variable {p : Program} {l : Launch} {e : Env} {R : Room} {s : State} {m : MethodId} {args : Array Value} {below : List Frame} {meth : Method} {c : Code} {Q : State → Prop} {G : mj_G} {b sz : Nat} {H : Heap} {n0 s0 y : Nat} {w w' : mj_W} {f f' : mj_F} {ls ls' st st' : List mj_V} {locs : List Loc} {lsA : Array Slot} {pc pc' : Nat}
/-- the real machine, at our state -/
def mj_Wg (p : Program) (l : Launch) (e : Env) (R : Room) (s : State) (m : MethodId) (args : Array Value) (below : List Frame) (meth : Method) (c : Code) (Q : State → Prop) (b sz n0 s0 : Nat) (w : mj_W) (H : Heap) (locs : List Loc) (pc : Nat) (lsA : Array Slot) (st : List mj_V) : Prop :=
  W p l e R s m args below meth c H locs (w.2.2.1 - n0) (w.2.2.2 - s0) Q (F0 m pc lsA (st.map (mj_val b sz)))
theorem mj_I_st (I : mj_I s G b sz n0 s0 y w f ls st H locs lsA) (h : ∀ v ∈ st', mj_okv v) : mj_I s G b sz n0 s0 y w f ls st' H locs lsA := by
  obtain ⟨a1, a2, a3, a4, a5⟩ := I
  exact ⟨a1, a2, a3, h, a5⟩
theorem mj_jmp_ok {off : Int} (h : mj_jmp w f pc off ls st = some (w', f', pc', ls', st')) : (pc : Int) + off = (pc' : Int) ∧ w' = w ∧ f' = f ∧ ls' = ls ∧ st' = st := by
  unfold mj_jmp mj_j at h
  by_cases h0 : 0 ≤ (pc : Int) + off
  · rw [if_pos h0] at h
    cases h
    exact ⟨by omega, rfl, rfl, rfl, rfl⟩
  · rw [if_neg h0] at h
    cases h
/-- a branch, once its row is known -/
theorem mj_br {c0 : Prop} [Decidable c0] {off : Int} {r : List mj_V} {d : Prop} (hcd : d ↔ c0) (I : mj_I s G b sz n0 s0 y w f ls r H locs lsA) (hs : mj_if c0 w f pc off ls r = some (w', f', pc', ls', st'))
    (kk : ∀ H1 locs1 lsA1, mj_I s G b sz n0 s0 y w' f' ls' st' H1 locs1 lsA1 → mj_Wg p l e R s m args below meth c Q b sz n0 s0 w' H1 locs1 pc' lsA1 st')
    (row : ∀ tgt : Nat, (pc : Int) + off = (tgt : Int) → (d → mj_Wg p l e R s m args below meth c Q b sz n0 s0 w H locs tgt lsA r) → (¬ d → mj_Wg p l e R s m args below meth c Q b sz n0 s0 w H locs (pc + 3) lsA r) → mj_Wg p l e R s m args below meth c Q b sz n0 s0 w H locs pc lsA st) : mj_Wg p l e R s m args below meth c Q b sz n0 s0 w H locs pc lsA st := by
  unfold mj_if at hs
  by_cases hc : c0
  · rw [if_pos hc] at hs
    obtain ⟨h1, rfl, rfl, rfl, rfl⟩ := mj_jmp_ok hs
    exact row pc' h1 (fun _ => kk _ _ _ I) (fun hd => absurd (hcd.mpr hc) hd)
  · rw [if_neg hc] at hs
    by_cases h0 : 0 ≤ (pc : Int) + off
    · rw [if_pos h0] at hs
      cases hs
      exact row ((pc : Int) + off).toNat (by omega) (fun hd => absurd (hcd.mp hd) hc) (fun _ => kk _ _ _ I)
    · rw [if_neg h0] at hs
      cases hs
end MJ
end
section
section MJ
variable {p : Program} {l : Launch} {e : Env} {R : Room} {s : State} {m : MethodId} {args : Array Value} {below : List Frame} {meth : Method} {c : Code} {Q : State → Prop} {G : mj_G} {b sz : Nat} {H : Heap} {n0 s0 y : Nat} {w w' : mj_W} {f f' : mj_F} {ls ls' st st' : List mj_V} {locs : List Loc} {lsA : Array Slot} {pc pc' : Nat}
theorem mj_cmp_of {a b : Int} (ha : mj_okv (.inr (.inr (.inl a)))) (hb : mj_okv (.inr (.inr (.inl b)))) : lg_cmp (Int64.ofInt a) (Int64.ofInt b) = Int32.ofInt (mj_cmp a b) := by
  unfold lg_cmp mj_cmp
  have h1 : Int64.ofInt a > Int64.ofInt b ↔ b < a := by rw [gt_iff_lt, Int64.lt_iff_toInt_lt, mj_to64 ha.1 ha.2, mj_to64 hb.1 hb.2]
  have h2 : Int64.ofInt a = Int64.ofInt b ↔ a = b := by rw [← Int64.toInt_inj, mj_to64 ha.1 ha.2, mj_to64 hb.1 hb.2]
  by_cases h : b < a
  · rw [if_pos (h1.mpr h), if_neg (by omega), if_neg (by omega)]
    rfl
  · rw [if_neg (fun q => h (h1.mp q))]
    by_cases h3 : a = b
    · rw [if_pos (h2.mpr h3), if_neg (by omega), if_pos h3]
      rfl
    · rw [if_neg (fun q => h3 (h2.mp q)), if_pos (by omega)]
      rfl
theorem mj_cmp_rg (a b : Int) : mj_rg (mj_cmp a b) := by
  unfold mj_cmp mj_rg
  split
  · omega
  · split <;> omega
/-- the continuation of a step -/
abbrev mj_K (p : Program) (l : Launch) (e : Env) (R : Room) (s : State) (m : MethodId) (args : Array Value) (below : List Frame) (meth : Method) (c : Code) (Q : State → Prop) (G : mj_G) (b sz : Nat) (n0 s0 y : Nat) (w' : mj_W) (f' : mj_F) (pc' : Nat) (ls' st' : List mj_V) : Prop :=
  ∀ H1 locs1 lsA1, mj_I s G b sz n0 s0 y w' f' ls' st' H1 locs1 lsA1 → mj_Wg p l e R s m args below meth c Q b sz n0 s0 w' H1 locs1 pc' lsA1 st'
theorem mj_s_ldi {k : Nat} {d : Nat} (hs : mj_ldi w f d ls st k = some (w', f', pc', ls', st')) (I : mj_I s G b sz n0 s0 y w f ls st H locs lsA) (kk : mj_K p l e R s m args below meth c Q G b sz n0 s0 y w' f' pc' ls' st')
    (row : ∀ x : Int32, lsA[k]? = some (.val (.int x)) → W p l e R s m args below meth c H locs (w.2.2.1 - n0) (w.2.2.2 - s0) Q (F0 m d lsA (.int x :: st.map (mj_val b sz))) → mj_Wg p l e R s m args below meth c Q b sz n0 s0 w H locs pc lsA st) : mj_Wg p l e R s m args below meth c Q b sz n0 s0 w H locs pc lsA st := by
  unfold mj_ldi at hs
  split at hs
  · next v hv =>
    cases hs
    obtain ⟨h1, h2⟩ := I.2.2.1.get hv (fun u q => by cases q)
    exact row _ h1 (kk _ _ _ (mj_I_st I (List.forall_mem_cons.mpr ⟨h2, I.2.2.2.1⟩)))
  · cases hs
theorem mj_s_ldl {k : Nat} {d : Nat} (hs : mj_ldl w f d ls st k = some (w', f', pc', ls', st')) (I : mj_I s G b sz n0 s0 y w f ls st H locs lsA) (kk : mj_K p l e R s m args below meth c Q G b sz n0 s0 y w' f' pc' ls' st')
    (row : ∀ x : Int64, lsA[k]? = some (.val (.long x)) → W p l e R s m args below meth c H locs (w.2.2.1 - n0) (w.2.2.2 - s0) Q (F0 m d lsA (.long x :: st.map (mj_val b sz))) → mj_Wg p l e R s m args below meth c Q b sz n0 s0 w H locs pc lsA st) : mj_Wg p l e R s m args below meth c Q b sz n0 s0 w H locs pc lsA st := by
  unfold mj_ldl at hs
  split at hs
  · next v hv =>
    cases hs
    obtain ⟨h1, h2⟩ := I.2.2.1.get hv (fun u q => by cases q)
    exact row _ h1 (kk _ _ _ (mj_I_st I (List.forall_mem_cons.mpr ⟨h2, I.2.2.2.1⟩)))
  · cases hs
theorem mj_s_lda {k : Nat} {d : Nat} (hs : mj_lda w f d ls st k = some (w', f', pc', ls', st')) (I : mj_I s G b sz n0 s0 y w f ls st H locs lsA) (kk : mj_K p l e R s m args below meth c Q G b sz n0 s0 y w' f' pc' ls' st')
    (row : ∀ x : Nat, lsA[k]? = some (.val (.ref x)) → W p l e R s m args below meth c H locs (w.2.2.1 - n0) (w.2.2.2 - s0) Q (F0 m d lsA (.ref x :: st.map (mj_val b sz))) → mj_Wg p l e R s m args below meth c Q b sz n0 s0 w H locs pc lsA st) : mj_Wg p l e R s m args below meth c Q b sz n0 s0 w H locs pc lsA st := by
  unfold mj_lda at hs
  split at hs
  · next v hv =>
    cases hs
    obtain ⟨h1, h2⟩ := I.2.2.1.get hv (fun u q => by cases q)
    exact row _ h1 (kk _ _ _ (mj_I_st I (List.forall_mem_cons.mpr ⟨h2, I.2.2.2.1⟩)))
  · cases hs
/-- a store, given its row -/
theorem mj_s_sto {k d : Nat} {v : mj_V} {r : List mj_V} (hk : k < ls.length) (I : mj_I s G b sz n0 s0 y w f ls (v :: r) H locs lsA) (kk : mj_K p l e R s m args below meth c Q G b sz n0 s0 y w f d (mj_set ls k v) r)
    (row : ∀ lv : List (Nat × Value), lv_has lsA (mj_nL y) lv → k < mj_nL y → (∀ lsB : Array Slot, lv_has lsB (mj_nL y) ((k, mj_val b sz v) :: lv.filter (fun q => !(q.1 == k) && !(q.1 + 1 == k && q.2.category == 2))) → W p l e R s m args below meth c H locs (w.2.2.1 - n0) (w.2.2.2 - s0) Q (F0 m d lsB (r.map (mj_val b sz)))) → mj_Wg p l e R s m args below meth c Q b sz n0 s0 w H locs pc lsA (v :: r)) : mj_Wg p l e R s m args below meth c Q b sz n0 s0 w H locs pc lsA (v :: r) := by
  obtain ⟨a1, a2, ⟨b1, b2, lv, b3, b4⟩, a4, a5⟩ := I
  have ho := List.forall_mem_cons.mp a4
  refine row lv b3 (by rw [← b1]; exact hk) (fun lsB hB => ?_)
  exact kk _ _ _ ⟨a1, a2, mj_Ls.set (lsA := lsA) b1 b2 b4 ho.1 hB, ho.2, a5⟩
theorem mj_s_b2 {op : Int → Int → Int} (hs : mj_b2 w f pc ls st op = some (w', f', pc', ls', st')) (I : mj_I s G b sz n0 s0 y w f ls st H locs lsA) (kk : mj_K p l e R s m args below meth c Q G b sz n0 s0 y w' f' pc' ls' st')
    (row : ∀ (x z : Int) (r : List mj_V), mj_rg x → mj_rg z → mj_rg (op x z) ∧ (W p l e R s m args below meth c H locs (w.2.2.1 - n0) (w.2.2.2 - s0) Q (F0 m (pc + 1) lsA (.int (Int32.ofInt (op x z)) :: r.map (mj_val b sz))) → W p l e R s m args below meth c H locs (w.2.2.1 - n0) (w.2.2.2 - s0) Q (F0 m pc lsA (.int (Int32.ofInt z) :: .int (Int32.ofInt x) :: r.map (mj_val b sz))))) : mj_Wg p l e R s m args below meth c Q b sz n0 s0 w H locs pc lsA st := by
  unfold mj_b2 at hs
  split at hs
  · next z x r =>
    cases hs
    have o1 := List.forall_mem_cons.mp I.2.2.2.1
    have o2 := List.forall_mem_cons.mp o1.2
    obtain ⟨h1, h2⟩ := row x z r o2.1 o1.1
    exact h2 (kk _ _ _ (mj_I_st I (List.forall_mem_cons.mpr ⟨h1, o2.2⟩)))
  · cases hs
theorem mj_s_b1 {op : Int → Int} (hs : mj_b1 w f pc ls st op = some (w', f', pc', ls', st')) (I : mj_I s G b sz n0 s0 y w f ls st H locs lsA) (kk : mj_K p l e R s m args below meth c Q G b sz n0 s0 y w' f' pc' ls' st')
    (row : ∀ (x : Int) (r : List mj_V), mj_rg x → mj_rg (op x) ∧ (W p l e R s m args below meth c H locs (w.2.2.1 - n0) (w.2.2.2 - s0) Q (F0 m (pc + 1) lsA (.int (Int32.ofInt (op x)) :: r.map (mj_val b sz))) → W p l e R s m args below meth c H locs (w.2.2.1 - n0) (w.2.2.2 - s0) Q (F0 m pc lsA (.int (Int32.ofInt x) :: r.map (mj_val b sz))))) : mj_Wg p l e R s m args below meth c Q b sz n0 s0 w H locs pc lsA st := by
  unfold mj_b1 at hs
  split at hs
  · next x r =>
    cases hs
    have o1 := List.forall_mem_cons.mp I.2.2.2.1
    obtain ⟨h1, h2⟩ := row x r o1.1
    exact h2 (kk _ _ _ (mj_I_st I (List.forall_mem_cons.mpr ⟨h1, o1.2⟩)))
  · cases hs
theorem mj_s_l2 {op : Int → Int → mj_V} (hs : mj_l2 w f pc ls st op = some (w', f', pc', ls', st')) (I : mj_I s G b sz n0 s0 y w f ls st H locs lsA) (kk : mj_K p l e R s m args below meth c Q G b sz n0 s0 y w' f' pc' ls' st')
    (row : ∀ (x z : Int) (r : List mj_V), mj_okv (.inr (.inr (.inl x))) → mj_okv (.inr (.inr (.inl z))) → mj_okv (op x z) ∧ (W p l e R s m args below meth c H locs (w.2.2.1 - n0) (w.2.2.2 - s0) Q (F0 m (pc + 1) lsA (mj_val b sz (op x z) :: r.map (mj_val b sz))) → W p l e R s m args below meth c H locs (w.2.2.1 - n0) (w.2.2.2 - s0) Q (F0 m pc lsA (.long (Int64.ofInt z) :: .long (Int64.ofInt x) :: r.map (mj_val b sz))))) : mj_Wg p l e R s m args below meth c Q b sz n0 s0 w H locs pc lsA st := by
  unfold mj_l2 at hs
  split at hs
  · next z x r =>
    cases hs
    have o1 := List.forall_mem_cons.mp I.2.2.2.1
    have o2 := List.forall_mem_cons.mp o1.2
    obtain ⟨h1, h2⟩ := row x z r o2.1 o1.1
    exact h2 (kk _ _ _ (mj_I_st I (List.forall_mem_cons.mpr ⟨h1, o2.2⟩)))
  · cases hs
/-- instructions that touch neither heap nor calls -/
def mj_plain : Instr → Bool
  | .iconst _ | .bipush _ | .sipush _ | .lconst _ | .ldc _ | .ldc_w _ | .iload _ | .iload_n _ | .lload _ | .lload_n _ | .aload _ | .aload_n _ | .istore _ | .istore_n _ | .lstore _ | .lstore_n _ | .astore _ | .astore_n _ | .iinc _ _ | .iadd | .isub | .imul | .iand | .ior | .ishl | .ishr | .idiv | .irem | .ineg | .i2b | .i2l | .lsub | .lmul | .lcmp | .dup | .dup2 | .pop | .goto _ | .ifCond _ _ | .if_icmp _ _ | .tableswitch _ _ _ _ | .lookupswitch _ _ => true
  | _ => false
set_option maxHeartbeats 4000000 in
theorem mj_step1 {i : Instr} (hpl : mj_plain i = true) (C : mj_C p s m args meth c G y) (I : mj_I s G b sz n0 s0 y w f ls st H locs lsA) (hd : mj_dec y pc = some i) (hs : mj_stp y i w f pc ls st = some (w', f', pc', ls', st')) (kk : mj_K p l e R s m args below meth c Q G b sz n0 s0 y w' f' pc' ls' st') : mj_Wg p l e R s m args below meth c Q b sz n0 s0 w H locs pc lsA st := by
  obtain ⟨hx, hb, hml, hown, hts, hini, hok⟩ := C
  match i, hpl, hd, hs with
  | .iconst n, _, hd, hs =>
    cases hs
    have h := kk _ _ _ (mj_I_st I (List.forall_mem_cons.mpr ⟨mj_rg_to _, I.2.2.2.1⟩))
    simp only [mj_Wg, List.map_cons, mj_val, mj_ofto] at h
    exact lv_iconst hx hb (mj_dec_ok hd rfl (by decide)) rfl h
  | .bipush n, _, hd, hs =>
    cases hs
    have h := kk _ _ _ (mj_I_st I (List.forall_mem_cons.mpr ⟨mj_rg_to _, I.2.2.2.1⟩))
    simp only [mj_Wg, List.map_cons, mj_val, mj_ofto] at h
    exact lv_bipush hx hb (mj_dec_ok hd rfl (by decide)) rfl h
  | .sipush n, _, hd, hs =>
    cases hs
    have h := kk _ _ _ (mj_I_st I (List.forall_mem_cons.mpr ⟨mj_rg_to _, I.2.2.2.1⟩))
    simp only [mj_Wg, List.map_cons, mj_val, mj_ofto] at h
    exact lv_sipush hx hb (mj_dec_ok hd rfl (by decide)) rfl h
  | .lconst n, _, hd, hs =>
    cases hs
    have h := kk _ _ _ (mj_I_st I (List.forall_mem_cons.mpr ⟨(by have := n.isLt; exact ⟨by omega, by omega⟩), I.2.2.2.1⟩))
    exact lv_lconst hx hb (mj_dec_ok hd rfl (by decide)) (Int64.ofInt_eq_ofNat).symm h
  | .ldc idx, _, hd, hs =>
    simp only [mj_stp] at hs
    split at hs
    · next v q hq =>
      cases hs
      have h := kk _ _ _ (mj_I_st I (List.forall_mem_cons.mpr ⟨mj_rg_to _, I.2.2.2.1⟩))
      simp only [mj_Wg, List.map_cons, mj_val, mj_ofto] at h
      exact lv_ldc hx hb hown (hts _ (mj_t2 (mj_kl_ok hq) rfl)) (mj_dec_ok hd rfl (by decide)) h
    · cases hs
  | .ldc_w idx, _, hd, hs =>
    simp only [mj_stp] at hs
    split at hs
    · next v q hq =>
      cases hs
      have h := kk _ _ _ (mj_I_st I (List.forall_mem_cons.mpr ⟨mj_rg_to _, I.2.2.2.1⟩))
      simp only [mj_Wg, List.map_cons, mj_val, mj_ofto] at h
      exact lv_ldcw hx hb hown (hts _ (mj_t2 (mj_kl_ok hq) rfl)) (mj_dec_ok hd rfl (by decide)) h
    · cases hs
  | .iload k, _, hd, hs => exact mj_s_ldi hs I kk (fun x h1 h2 => lv_iload hx hb (mj_dec_ok hd rfl (by decide)) h1 h2)
  | .iload_n k, _, hd, hs => exact mj_s_ldi hs I kk (fun x h1 h2 => lv_iload_n hx hb (mj_dec_ok hd rfl (by decide)) rfl h1 h2)
  | .lload k, _, hd, hs => exact mj_s_ldl hs I kk (fun x h1 h2 => lv_lload hx hb (mj_dec_ok hd rfl (by decide)) h1 h2)
  | .lload_n k, _, hd, hs => exact mj_s_ldl hs I kk (fun x h1 h2 => lv_lload_n hx hb (mj_dec_ok hd rfl (by decide)) rfl h1 h2)
  | .aload k, _, hd, hs => exact mj_s_lda hs I kk (fun x h1 h2 => lv_aload hx hb (mj_dec_ok hd rfl (by decide)) h1 h2)
  | .aload_n k, _, hd, hs => exact mj_s_lda hs I kk (fun x h1 h2 => lv_aload_n hx hb (mj_dec_ok hd rfl (by decide)) rfl h1 h2)
  | .istore k, _, hd, hs =>
    simp only [mj_stp, mj_sti] at hs
    split at hs
    · split at hs
      · next v r hk =>
        cases hs
        exact mj_s_sto hk I kk (fun lv h1 h2 h3 => lv_istore hx hb (mj_dec_ok hd rfl (by decide)) h1 h2 rfl h3)
      · cases hs
    · cases hs
  | .istore_n k, _, hd, hs =>
    simp only [mj_stp, mj_sti] at hs
    split at hs
    · split at hs
      · next v r hk =>
        cases hs
        exact mj_s_sto hk I kk (fun lv h1 h2 h3 => lv_istore_n hx hb (mj_dec_ok hd rfl (by decide)) rfl h1 h2 rfl h3)
      · cases hs
    · cases hs
  | .astore k, _, hd, hs =>
    simp only [mj_stp, mj_sta] at hs
    split at hs
    · split at hs
      · next v r hk =>
        cases hs
        exact mj_s_sto hk I kk (fun lv h1 h2 h3 => lv_astore hx hb (mj_dec_ok hd rfl (by decide)) h1 h2 rfl h3)
      · cases hs
    · cases hs
  | .astore_n k, _, hd, hs =>
    simp only [mj_stp, mj_sta] at hs
    split at hs
    · split at hs
      · next v r hk =>
        cases hs
        exact mj_s_sto hk I kk (fun lv h1 h2 h3 => lv_astore_n hx hb (mj_dec_ok hd rfl (by decide)) rfl h1 h2 rfl h3)
      · cases hs
    · cases hs
  | .lstore k, _, hd, hs =>
    simp only [mj_stp, mj_stl] at hs
    split at hs
    · split at hs
      · next v r hk =>
        cases hs
        obtain ⟨a1, a2, ⟨b1, b2, lv, b3, b4⟩, a4, a5⟩ := I
        have ho := List.forall_mem_cons.mp a4
        exact lv_lstore hx hb (mj_dec_ok hd rfl (by decide)) b3 (by rw [← b1]; exact hk) rfl (fun lsB hB => kk _ _ _ ⟨a1, a2, mj_Ls.setL (lsA := lsA) b1 b2 b4 ho.1 hB, ho.2, a5⟩)
      · cases hs
    · cases hs
  | .lstore_n k, _, hd, hs =>
    simp only [mj_stp, mj_stl] at hs
    split at hs
    · split at hs
      · next v r hk =>
        cases hs
        obtain ⟨a1, a2, ⟨b1, b2, lv, b3, b4⟩, a4, a5⟩ := I
        have ho := List.forall_mem_cons.mp a4
        exact lv_lstore_n hx hb (mj_dec_ok hd rfl (by decide)) rfl b3 (by rw [← b1]; exact hk) rfl (fun lsB hB => kk _ _ _ ⟨a1, a2, mj_Ls.setL (lsA := lsA) b1 b2 b4 ho.1 hB, ho.2, a5⟩)
      · cases hs
    · cases hs
  | .iinc k n, _, hd, hs =>
    simp only [mj_stp] at hs
    split at hs
    · next v hv =>
      cases hs
      obtain ⟨a1, a2, ⟨b1, b2, lv, b3, b4⟩, a4, a5⟩ := I
      obtain ⟨j, hj⟩ := List.getElem?_of_mem (b4 _ _ hv (fun u q => by cases q))
      have hl := (List.getElem?_eq_some_iff.mp hv).1
      refine lv_iinc (v := Int32.ofInt (mj_w (v + n))) hx hb (mj_dec_ok hd rfl (by decide)) b3 hj (by rw [mj_ofw, Int32.ofInt_add]) (by rw [← b1]; exact hl) rfl (fun lsB hB => ?_)
      exact kk _ _ _ ⟨a1, a2, mj_Ls.set (lsA := lsA) (v := .inl (mj_w (v + n))) b1 b2 b4 (mj_w_rg _) hB, a4, a5⟩
    · cases hs
  | .iadd, _, hd, hs => exact mj_s_b2 hs I kk (fun x z r _ _ => ⟨mj_w_rg _, fun h => lv_iadd hx hb (mj_dec_ok hd rfl (by decide)) (by rw [← Int32.ofInt_add, ← mj_ofw]; exact h)⟩)
  | .isub, _, hd, hs => exact mj_s_b2 hs I kk (fun x z r _ _ => ⟨mj_w_rg _, fun h => lv_isub hx hb (mj_dec_ok hd rfl (by decide)) (by rw [← Int32.ofInt_sub, ← mj_ofw]; exact h)⟩)
  | .imul, _, hd, hs => exact mj_s_b2 hs I kk (fun x z r _ _ => ⟨mj_w_rg _, fun h => lv_imul hx hb (mj_dec_ok hd rfl (by decide)) (by rw [← Int32.ofInt_mul, ← mj_ofw]; exact h)⟩)
  | .iand, _, hd, hs => exact mj_s_b2 hs I kk (fun x z r _ _ => ⟨mj_rg_to _, fun h => lv_iand hx hb (mj_dec_ok hd rfl (by decide)) (by rw [mj_and, mj_ofto] at h; exact h)⟩)
  | .ior, _, hd, hs => exact mj_s_b2 hs I kk (fun x z r _ _ => ⟨mj_rg_to _, fun h => lv_ior hx hb (mj_dec_ok hd rfl (by decide)) (by rw [mj_or, mj_ofto] at h; exact h)⟩)
  | .ishl, _, hd, hs => exact mj_s_b2 hs I kk (fun x z r _ _ => ⟨mj_rg_to _, fun h => lv_ishl hx hb (mj_dec_ok hd rfl (by decide)) (by rw [mj_shl, mj_ofto] at h; exact h)⟩)
  | .ishr, _, hd, hs => exact mj_s_b2 hs I kk (fun x z r _ _ => ⟨mj_rg_to _, fun h => lv_ishr hx hb (mj_dec_ok hd rfl (by decide)) (by rw [mj_shr, mj_ofto] at h; exact h)⟩)
  | .idiv, _, hd, hs =>
    simp only [mj_stp] at hs
    split at hs
    · next z x r =>
      split at hs
      · cases hs
      · next hz =>
        cases hs
        have o1 := List.forall_mem_cons.mp I.2.2.2.1
        have o2 := List.forall_mem_cons.mp o1.2
        have h := kk _ _ _ (mj_I_st I (List.forall_mem_cons.mpr ⟨mj_rg_to _, o2.2⟩))
        simp only [mj_Wg, List.map_cons, mj_val, mj_div, mj_ofto] at h
        exact lv_idiv hx hb (mj_dec_ok hd rfl (by decide)) (fun q => hz ((mj_eq o1.1 mj_rg0).mp q)) h
    · cases hs
  | .irem, _, hd, hs =>
    simp only [mj_stp] at hs
    split at hs
    · next z x r =>
      split at hs
      · cases hs
      · next hz =>
        cases hs
        have o1 := List.forall_mem_cons.mp I.2.2.2.1
        have o2 := List.forall_mem_cons.mp o1.2
        have h := kk _ _ _ (mj_I_st I (List.forall_mem_cons.mpr ⟨mj_rg_to _, o2.2⟩))
        simp only [mj_Wg, List.map_cons, mj_val, mj_rem, mj_ofto] at h
        exact lv_irem hx hb (mj_dec_ok hd rfl (by decide)) (fun q => hz ((mj_eq o1.1 mj_rg0).mp q)) h
    · cases hs
  | .ineg, _, hd, hs => exact mj_s_b1 hs I kk (fun x r _ => ⟨mj_w_rg _, fun h => lv_ineg hx hb (mj_dec_ok hd rfl (by decide)) (by rw [← Int32.ofInt_neg, ← mj_ofw]; exact h)⟩)
  | .i2b, _, hd, hs => exact mj_s_b1 hs I kk (fun x r _ => ⟨mj_w8_rg _, fun h => lv_i2b hx hb (mj_dec_ok hd rfl (by decide)) (mj_w8_of x) h⟩)
  | .i2l, _, hd, hs =>
    simp only [mj_stp] at hs
    split at hs
    · next x r =>
      cases hs
      have o1 := List.forall_mem_cons.mp I.2.2.2.1
      have h := kk _ _ _ (mj_I_st I (List.forall_mem_cons.mpr ⟨(by have := o1.1; unfold mj_okv mj_rg at this; exact ⟨by omega, by omega⟩), o1.2⟩))
      exact lv_i2l hx hb (mj_dec_ok hd rfl (by decide)) (mj_i2l o1.1) h
    · cases hs
  | .lsub, _, hd, hs => exact mj_s_l2 hs I kk (fun x z r _ _ => ⟨mj_w64_rg _, fun h => lv_lsub hx hb (mj_dec_ok hd rfl (by decide)) (by rw [← Int64.ofInt_sub, ← mj_ofw64]; exact h)⟩)
  | .lmul, _, hd, hs => exact mj_s_l2 hs I kk (fun x z r _ _ => ⟨mj_w64_rg _, fun h => lv_lmul hx hb (mj_dec_ok hd rfl (by decide)) (by rw [← Int64.ofInt_mul, ← mj_ofw64]; exact h)⟩)
  | .lcmp, _, hd, hs => exact mj_s_l2 hs I kk (fun x z r h1 h2 => ⟨mj_cmp_rg _ _, fun h => W.lcmp hx hb (mj_dec_ok hd rfl (by decide)) (by rw [mj_cmp_of h1 h2]; exact h)⟩)
  | .dup, _, hd, hs =>
    simp only [mj_stp] at hs
    split at hs
    · cases hs
      have o1 := List.forall_mem_cons.mp I.2.2.2.1
      exact lv_dup hx hb (mj_dec_ok hd rfl (by decide)) rfl (kk _ _ _ (mj_I_st I (List.forall_mem_cons.mpr ⟨o1.1, I.2.2.2.1⟩)))
    · cases hs
      have o1 := List.forall_mem_cons.mp I.2.2.2.1
      exact lv_dup hx hb (mj_dec_ok hd rfl (by decide)) rfl (kk _ _ _ (mj_I_st I (List.forall_mem_cons.mpr ⟨o1.1, I.2.2.2.1⟩)))
    · cases hs
  | .dup2, _, hd, hs =>
    simp only [mj_stp] at hs
    split at hs
    · cases hs
      have o1 := List.forall_mem_cons.mp I.2.2.2.1
      have o2 := List.forall_mem_cons.mp o1.2
      exact lv_dup2_11 hx hb (mj_dec_ok hd rfl (by decide)) rfl rfl (kk _ _ _ (mj_I_st I (List.forall_mem_cons.mpr ⟨o1.1, List.forall_mem_cons.mpr ⟨o2.1, I.2.2.2.1⟩⟩)))
    · cases hs
  | .pop, _, hd, hs =>
    simp only [mj_stp] at hs
    split at hs
    · cases hs
      exact lv_pop hx hb (mj_dec_ok hd rfl (by decide)) rfl (kk _ _ _ (mj_I_st I (List.forall_mem_cons.mp I.2.2.2.1).2))
    · cases hs
      exact lv_pop hx hb (mj_dec_ok hd rfl (by decide)) rfl (kk _ _ _ (mj_I_st I (List.forall_mem_cons.mp I.2.2.2.1).2))
    · cases hs
  | .goto off, _, hd, hs =>
    obtain ⟨h1, rfl, rfl, rfl, rfl⟩ := mj_jmp_ok hs
    exact lv_goto hx hb (mj_dec_ok hd rfl (by decide)) h1 (kk _ _ _ I)
  | .ifCond cc off, _, hd, hs =>
    simp only [mj_stp] at hs
    split at hs
    · next x r =>
      have o1 := List.forall_mem_cons.mp I.2.2.2.1
      have I' := mj_I_st I o1.2
      cases cc <;> dsimp only at hs
      · exact mj_br (mj_eq o1.1 mj_rg0) I' hs kk (fun t h1 h2 h3 => lv_if_eq hx hb (mj_dec_ok hd rfl (by decide)) h1 h2 h3)
      · exact mj_br (not_congr (mj_eq o1.1 mj_rg0)) I' hs kk (fun t h1 h2 h3 => lv_if_ne hx hb (mj_dec_ok hd rfl (by decide)) h1 h2 (fun q => h3 (fun n => n q)))
      · exact mj_br (mj_lt o1.1 mj_rg0) I' hs kk (fun t h1 h2 h3 => lv_if_lt hx hb (mj_dec_ok hd rfl (by decide)) h1 h2 h3)
      · exact mj_br (mj_le mj_rg0 o1.1) I' hs kk (fun t h1 h2 h3 => lv_if_ge hx hb (mj_dec_ok hd rfl (by decide)) h1 h2 h3)
      · exact mj_br (mj_lt mj_rg0 o1.1) I' hs kk (fun t h1 h2 h3 => lv_if_gt hx hb (mj_dec_ok hd rfl (by decide)) h1 h2 h3)
      · exact mj_br (mj_le o1.1 mj_rg0) I' hs kk (fun t h1 h2 h3 => lv_if_le hx hb (mj_dec_ok hd rfl (by decide)) h1 h2 h3)
    · cases hs
  | .if_icmp cc off, _, hd, hs =>
    simp only [mj_stp] at hs
    split at hs
    · next z x r =>
      have o1 := List.forall_mem_cons.mp I.2.2.2.1
      have o2 := List.forall_mem_cons.mp o1.2
      have I' := mj_I_st I o2.2
      cases cc <;> dsimp only at hs
      · exact mj_br (mj_eq o2.1 o1.1) I' hs kk (fun t h1 h2 h3 => lv_icmp_eq hx hb (mj_dec_ok hd rfl (by decide)) h1 h2 h3)
      · exact mj_br (not_congr (mj_eq o2.1 o1.1)) I' hs kk (fun t h1 h2 h3 => lv_icmp_ne hx hb (mj_dec_ok hd rfl (by decide)) h1 h2 (fun q => h3 (fun n => n q)))
      · exact mj_br (mj_lt o2.1 o1.1) I' hs kk (fun t h1 h2 h3 => lv_icmp_lt hx hb (mj_dec_ok hd rfl (by decide)) h1 h2 h3)
      · exact mj_br (mj_le o1.1 o2.1) I' hs kk (fun t h1 h2 h3 => lv_icmp_ge hx hb (mj_dec_ok hd rfl (by decide)) h1 h2 h3)
      · exact mj_br (mj_lt o1.1 o2.1) I' hs kk (fun t h1 h2 h3 => lv_icmp_gt hx hb (mj_dec_ok hd rfl (by decide)) h1 h2 h3)
      · exact mj_br (mj_le o2.1 o1.1) I' hs kk (fun t h1 h2 h3 => lv_icmp_le hx hb (mj_dec_ok hd rfl (by decide)) h1 h2 h3)
    · cases hs
  | .tableswitch dflt lo hi offs, _, hd, hs =>
    obtain ⟨n, hd, -⟩ := mj_dec_ex hd
    simp only [mj_stp] at hs
    split at hs
    · next x r =>
      have o1 := List.forall_mem_cons.mp I.2.2.2.1
      have ht := mj_to o1.1
      split at hs
      · next hc =>
        obtain ⟨h1, rfl, rfl, rfl, rfl⟩ := mj_jmp_ok hs
        exact lv_tableOut hx hb hd (by rw [ht]; exact hc) h1 (kk _ _ _ (mj_I_st I o1.2))
      · next hc =>
        split at hs
        · next off hoff =>
          obtain ⟨h1, rfl, rfl, rfl, rfl⟩ := mj_jmp_ok hs
          exact lv_tableIn hx hb hd (by rw [ht]; exact fun q => hc (Or.inl q)) (by rw [ht]; exact fun q => hc (Or.inr q)) (by rw [ht]; exact hoff) h1 (kk _ _ _ (mj_I_st I o1.2))
        · cases hs
    · cases hs
  | .lookupswitch dflt ps, _, hd, hs =>
    obtain ⟨n, hd, -⟩ := mj_dec_ex hd
    simp only [mj_stp] at hs
    split at hs
    · next x r =>
      have o1 := List.forall_mem_cons.mp I.2.2.2.1
      have ht := mj_to o1.1
      split at hs
      · next hc =>
        obtain ⟨h1, rfl, rfl, rfl, rfl⟩ := mj_jmp_ok hs
        exact lv_lookup hx hb hd hc (by rw [ht]) h1 (kk _ _ _ (mj_I_st I o1.2))
      · cases hs
    · cases hs
end MJ
end
section
section MJ
variable {p : Program} {l : Launch} {e : Env} {R : Room} {s : State} {m : MethodId} {args : Array Value} {below : List Frame} {meth : Method} {c : Code} {Q : State → Prop} {G : mj_G} {b sz : Nat} {H : Heap} {n0 s0 y : Nat} {w w' : mj_W} {f f' : mj_F} {ls ls' st st' : List mj_V} {locs : List Loc} {lsA : Array Slot} {pc pc' : Nat}
theorem mj_E_obj {c : Nat → ClassId} {a ci : Nat} (h : w.1 a = (ci, 0)) (hc : ci < 10) : mj_E c b sz w f a = .inr (ci, (List.range (mj_nf ci)).map (mj_fv b sz w f ci a)) := by
  unfold mj_E
  rw [h]
  rw [if_neg (by omega), if_neg (by omega), if_neg (by omega), if_neg (by omega)]
theorem mj_E_100 {c : Nat → ClassId} {a : Nat} (h : (w.1 a).1 = 100) : mj_E c b sz w f a = .inl (c 0, (w.1 a).2, .inl (fun j => Int32.ofInt (f a j))) := by
  unfold mj_E
  rw [if_pos h]
theorem mj_E_101 {c : Nat → ClassId} {a : Nat} (h : (w.1 a).1 = 101) : mj_E c b sz w f a = .inl (c 1, (w.1 a).2, .inl (fun j => Int32.ofInt (f a j))) := by
  unfold mj_E
  rw [if_neg (by omega), if_pos h]
theorem mj_E_102 {c : Nat → ClassId} {a : Nat} (h : (w.1 a).1 = 102) : mj_E c b sz w f a = .inl (c 2, (w.1 a).2, .inr (.inr (.inr (.inr (fun j => if w.2.1 a j = 0 then none else some (mj_ad b sz (w.2.1 a j))))))) := by
  unfold mj_E
  rw [if_neg (by omega), if_neg (by omega), if_pos h]
theorem mj_E_103 {c : Nat → ClassId} {a : Nat} (h : (w.1 a).1 = 103) : mj_E c b sz w f a = .inl (c 3, (w.1 a).2, .inr (.inl (fun j => Int64.ofInt (f a j)))) := by
  unfold mj_E
  rw [if_neg (by omega), if_neg (by omega), if_neg (by omega), if_pos h]
theorem mj_u_self {f : mj_F} {a i : Nat} {v : Int} : mj_u f a i v a = fun j => if j = i then v else f a j := by
  funext j
  simp [mj_u]
theorem mj_u_ne {f : mj_F} {a i x : Nat} {v : Int} (h : x ≠ a) : mj_u f a i v x = f x := by
  funext j
  simp [mj_u, h]
theorem mj_u_rg {f : mj_F} {a i : Nat} {v : Int} (hr : ∀ a j, mj_rg (f a j)) (hv : mj_rg v) : ∀ x j, mj_rg (mj_u f a i v x j) := by
  intro x j
  unfold mj_u
  split
  · exact hv
  · exact hr x j
theorem mj_lv_of {a ci : Nat} (h : w.1 a = (ci, 0)) (hc : ci < 10) : mj_lv w a := by
  unfold mj_lv
  rw [h]
  exact Or.inl hc
/-- the script stays as it is -/
theorem mj_X_keep (h : (w.1 1).1 = 104 → va_X b (w.1 1).2 (fun j => Int32.ofInt (f 1 j)) s s.heap) (h1 : w'.1 1 = w.1 1) (h2 : f' 1 = f 1) : (w'.1 1).1 = 104 → va_X b (w'.1 1).2 (fun j => Int32.ofInt (f' 1 j)) s s.heap := by
  rw [h1, h2]
  exact h
theorem mj_fs_get {ci a k : Nat} (hk : k < mj_nf ci) : ((List.range (mj_nf ci)).map (mj_fv b sz w f ci a))[k]? = some (mj_fv b sz w f ci a k) := by
  rw [List.getElem?_map, List.getElem?_range hk]
  rfl
theorem mj_fs_set {ci a k : Nat} {v : Value} (h : ∀ j, j < mj_nf ci → mj_fv b sz w' f' ci a j = if j = k then v else mj_fv b sz w f ci a j) : ((List.range (mj_nf ci)).map (mj_fv b sz w f ci a)).set k v = (List.range (mj_nf ci)).map (mj_fv b sz w' f' ci a) := by
  apply List.ext_getElem?
  intro j
  by_cases hj : j < mj_nf ci
  · rw [mj_fs_get hj, h j hj]
    by_cases hk : j = k
    · subst hk
      rw [List.getElem?_set_self (by rw [List.length_map, List.length_range]; exact hj), if_pos rfl]
    · rw [List.getElem?_set_ne (Ne.symm hk), mj_fs_get hj, if_neg hk]
  · rw [List.getElem?_eq_none (by rw [List.length_set, List.length_map, List.length_range]; omega), List.getElem?_eq_none (by rw [List.length_map, List.length_range]; omega)]
theorem mj_s_getf {idx : Nat} (C : mj_C p s m args meth c G y) (I : mj_I s G b sz n0 s0 y w f ls st H locs lsA) (hd : mj_dec y pc = some (.getfield idx)) (hs : mj_getf y w f pc ls st idx = some (w', f', pc', ls', st')) (kk : mj_K p l e R s m args below meth c Q G b sz n0 s0 y w' f' pc' ls' st') : mj_Wg p l e R s m args below meth c Q b sz n0 s0 w H locs pc lsA st := by
  obtain ⟨hx, hb, hml, hown, hts, hini, hok⟩ := C
  have hdg : decode (mj_code y) pc = .ok (.getfield idx, 3) := mj_dec_ok hd rfl (by decide)
  obtain ⟨⟨L, hP, hD, hL, hz, hwf, hr⟩, hS, hls, ho, hrest⟩ := id I
  unfold mj_getf at hs
  split at hs
  · next a r ci k q hq =>
    split at hs
    · next hw =>
      obtain ⟨CC, T, N, hc, hk, hlink⟩ := mj_fl_ok hq
      obtain ⟨hN, hci⟩ := mj_cl_nf hc
      subst hN
      obtain ⟨-, -, -, -, q0, hq0⟩ := mj_P_at (G := G) (b := b) (f := f) hL hwf (mj_lv_of hw hci)
      rw [mj_E_obj hw hci] at hq0
      have o1 := List.forall_mem_cons.mp ho
      have row : W p l e R s m args below meth c H locs (w.2.2.1 - n0) (w.2.2.2 - s0) Q (F0 m (pc + 3) lsA (mj_fv b sz w f ci a k :: r.map (mj_val b sz))) → mj_Wg p l e R s m args below meth c Q b sz n0 s0 w H locs pc lsA (.inr (.inl a) :: r) := by
        intro h
        rcases hlink with hlink | ⟨host, hlink⟩
        · exact va_get hx hb hts (mj_hin hc) hown hok.1 hP q0 hq0 hc k hk (hts _ (mj_t2 hlink rfl)) (fun x h => h) (mj_fs_get hk) hdg h
        · exact va_getN hx hb hts (mj_hin hc) hown hok.1 hP q0 hq0 hc k hk (va_Nw.use rfl (hok.2.2 _ (List.mem_of_getElem? hlink) rfl)) (fun x h => h) (mj_fs_get hk) hdg h
      split at hs
      · next hk2 =>
        split at hs
        · cases hs
        · next hne =>
          cases hs
          have h := kk _ _ _ (mj_I_st I (List.forall_mem_cons.mpr ⟨trivial, o1.2⟩))
          refine row ?_
          rw [show mj_fv b sz w f ci a k = .ref (mj_ad b sz (w.2.1 a k)) by unfold mj_fv mj_rv; rw [if_pos hk2, if_neg hne]]
          exact h
      · next hk2 =>
        cases hs
        have h := kk _ _ _ (mj_I_st I (List.forall_mem_cons.mpr ⟨hr a k, o1.2⟩))
        refine row ?_
        rw [show mj_fv b sz w f ci a k = .int (Int32.ofInt (f a k)) by unfold mj_fv; rw [if_neg hk2]]
        exact h
    · cases hs
  · cases hs
theorem mj_mayPut_ok {ci k : Nat} {CC : String} {T : u_T} {N : Nat} (hc : mj_cl[ci]? = some (CC, T, N)) (h : mj_mayPut y ci k = true) : (T k).2.2.2 = false ∨ ((T k).2.2.2 = true ∧ mj_isInit y = true ∧ mj_cn y = ci) := by
  unfold mj_mayPut at h
  rw [List.getD_eq_getElem?_getD, hc] at h
  simp only [Option.getD_some, Bool.or_eq_true, Bool.not_eq_true', Bool.and_eq_true, beq_iff_eq] at h
  rcases h with h | ⟨h1, h2⟩
  · exact Or.inl h
  · cases hf : (T k).2.2.2 with
    | false => exact Or.inl rfl
    | true => exact Or.inr ⟨rfl, h1, h2⟩
theorem mj_own_cl {ci : Nat} {CC : String} {T : u_T} {N : Nat} (hc : mj_cl[ci]? = some (CC, T, N)) {k : Nat} (hk : k < N) : (T k).1 = mj_owns.getD ci "" := by
  have h : ∀ k, k < N → (T k).1 = mj_owns.getD ci "" := mj_cl_cases (P := fun ci r => ∀ k, k < r.2.2 → (r.2.1 k).1 = mj_owns.getD ci "") hc (by decide +kernel) (by decide +kernel) (by decide +kernel) (by decide +kernel) (by decide +kernel) (by decide +kernel) (by decide +kernel) (by decide +kernel) (by decide +kernel) (by decide +kernel)
  exact h k hk
/-- how large the heap can be at most -/
theorem mj_Wsize {g : JFrame} {cells slots : Nat} (k : H.size ≤ s.heap.size + cells → W p l e R s m args below meth c H locs cells slots Q g) : W p l e R s m args below meth c H locs cells slots Q g := by
  intro T hT X
  have h := X.same.2.2.1
  exact k (by rw [← hT]; exact h) T hT X
theorem mj_S_trans {H1 : Heap} {locs1 : List Loc} (h : va_S (mj_A sz) s.heap H locs) (h1 : va_S (mj_A sz) H H1 locs1) : va_S (mj_A sz) s.heap H1 locs1 :=
  ⟨Nat.le_trans h.1 h1.1, fun q hq hn => (h1.2.1 q (Nat.lt_of_lt_of_le hq h.1) hn).trans (h.2.1 q hq hn), h1.2.2⟩
theorem mj_S_here (h : va_S (mj_A sz) s.heap H locs) : va_S (mj_A sz) H H locs := ⟨Nat.le_refl _, fun _ _ _ => rfl, h.2.2⟩
/-- behind a store: our invariant again -/
theorem mj_I_write {H1 : Heap} {locs1 : List Loc} {L : List Nat} {q0 a : Nat} {ev : va_E} {r : List mj_V} (I : mj_I s G b sz n0 s0 y w f ls st H locs lsA) (hD : va_D (mj_A sz) (va_pl L (mj_Cl G.2 b sz w f))) (hL : ∀ a, mj_lv w a → sz + a - 2 ∈ L) (ha : mj_lv w a) (hz : H.size + 2 = sz + w.2.2.1)
    (hq0 : (va_pl L (mj_Cl G.2 b sz w f))[q0]? = some (mj_ad b sz a, mj_E G.2 b sz w f a)) (he : mj_E G.2 b sz w' f' a = ev) (h1 : w'.1 = w.1) (h2 : ∀ x, x ≠ a → w'.2.1 x = w.2.1 x) (h3 : ∀ x, x ≠ a → f' x = f x) (h4 : w'.2.2 = w.2.2) (hr : ∀ a j, mj_rg (f' a j)) (ho : ∀ v ∈ r, mj_okv v)
    (hup : H1.size ≤ s.heap.size + (w.2.2.1 - n0))
    (hP1 : va_P G.1 mj_cl ((va_pl L (mj_Cl G.2 b sz w f)).set q0 (mj_ad b sz a, ev)) H1) (hD1 : va_D (mj_A sz) ((va_pl L (mj_Cl G.2 b sz w f)).set q0 (mj_ad b sz a, ev))) (hS1 : va_S (mj_A sz) H H1 locs1) : mj_I s G b sz n0 s0 y w' f' ls r H1 locs1 lsA := by
  obtain ⟨⟨-, -, -, -, -, hwf, -⟩, hS, hls, -, ⟨hn, hn2⟩, hb, hX, hn0, hs0⟩ := I
  have hlow := hS1.1
  have ha2 := (hwf.2.1 a ha).1
  refine ⟨mj_P.write hD hL hwf ha hq0 he h1 h2 h3 (by rw [h4]) (by omega) hr hP1 hD1, mj_S_trans hS hS1, hls, ho, ⟨hn, hn2⟩, hb, mj_X_keep hX (by rw [h1]) (h3 1 (by omega)), by rw [h4]; exact hn0, by rw [h4]; exact hs0⟩
theorem mj_nest_put : ((List.range 26).all fun cn => (mj_fts.getD cn []).all fun e => match lw_tbl[e.2.2.2]? with
    | some (.fieldLinkNest _ _ _ _ _ _) => !(cn == e.2.1)
    | _ => true) = true := by decide +kernel
/-- a field is written: the row -/
theorem mj_put_row {idx ci k q a : Nat} {v : Value} {r : List Value} {L : List Nat} {CC : String} {T : u_T} {N q0 : Nat} (C : mj_C p s m args meth c G y) (hdg : decode (mj_code y) pc = .ok (.putfield idx, 3)) (hP : va_P G.1 mj_cl (va_pl L (mj_Cl G.2 b sz w f)) H) (hD : va_D (mj_A sz) (va_pl L (mj_Cl G.2 b sz w f))) (hS : va_S (mj_A sz) H H locs)
    (hfl : mj_fl (mj_cn y) idx = some (ci, k, q)) (hc : mj_cl[ci]? = some (CC, T, N)) (hk : k < N) (hlink : (lw_tbl[q]? = some (.fieldLink (mj_owns.getD (mj_cn y) "") idx (T k).1 (T k).2.1 (T k).2.2.1)) ∨ ∃ host, lw_tbl[q]? = some (.fieldLinkNest (mj_owns.getD (mj_cn y) "") idx (T k).1 (T k).2.1 (T k).2.2.1 host)) (hmay : mj_mayPut y ci k = true)
    (hq0 : (va_pl L (mj_Cl G.2 b sz w f))[q0]? = some (mj_ad b sz a, .inr (ci, (List.range (mj_nf ci)).map (mj_fv b sz w f ci a)))) (hn : narrow (mj_ty ci k) v = v ∧ fits (mj_ty ci k) v = true)
    (kk : ∀ (H1 : Heap) (locs1 : List Loc), va_P G.1 mj_cl ((va_pl L (mj_Cl G.2 b sz w f)).set q0 (mj_ad b sz a, .inr (ci, ((List.range (mj_nf ci)).map (mj_fv b sz w f ci a)).set k v))) H1 → va_D (mj_A sz) ((va_pl L (mj_Cl G.2 b sz w f)).set q0 (mj_ad b sz a, .inr (ci, ((List.range (mj_nf ci)).map (mj_fv b sz w f ci a)).set k v))) → va_S (mj_A sz) H H1 locs1 → W p l e R s m args below meth c H1 locs1 (w.2.2.1 - n0) (w.2.2.2 - s0) Q (F0 m (pc + 3) lsA r)) :
    W p l e R s m args below meth c H locs (w.2.2.1 - n0) (w.2.2.2 - s0) Q (F0 m pc lsA (v :: .ref (mj_ad b sz a) :: r)) := by
  obtain ⟨hx, hb, hml, hown, hts, hini, hok⟩ := C
  obtain ⟨hN, hci⟩ := mj_cl_nf hc
  have hlen : k < ((List.range (mj_nf ci)).map (mj_fv b sz w f ci a)).length := by rw [List.length_map, List.length_range, hN]; exact hk
  rcases mj_mayPut_ok hc hmay with hfin | ⟨hfin, hi, hcn⟩
  · rcases hlink with hlink | ⟨host, hlink⟩
    · exact va_put hx hb hts (mj_hin hc) (mj_ty ci) (mj_cl_ty hc) (mj_cl_nm hc) hown hok.1 hP hD hS q0 hq0 hc k hk (hts _ (mj_t2 hlink rfl)) (fun x h => h) hfin (mj_cl_ty hc k hk) hn.1 hn.2 hlen hdg kk
    · exact va_putN hx hb hts (mj_hin hc) (mj_ty ci) (mj_cl_ty hc) (mj_cl_nm hc) hown hok.1 hP hD hS q0 hq0 hc k hk (va_Nw.use rfl (hok.2.2 _ (List.mem_of_getElem? hlink) rfl)) (fun x h => h) hfin (mj_cl_ty hc k hk) hn.1 hn.2 hlen hdg kk
  · rcases hlink with hlink | ⟨host, hlink⟩
    · exact va_putF hx hb hts (mj_hin hc) (mj_ty ci) (mj_cl_ty hc) (mj_cl_nm hc) hown hok.1 hP hD hS q0 hq0 hc k hk (hts _ (mj_t2 hlink rfl)) (fun x h => h) hfin (hini hi) (by rw [mj_own_cl hc hk, ← hcn]; rfl) (mj_cl_ty hc k hk) hn.1 hn.2 hlen hdg kk
    · have hm := mj_look_mem _ _ _ hfl
      have hl := mj_look_lt hfl
      rw [mj_fts_len] at hl
      have h1 := List.all_eq_true.mp (List.all_eq_true.mp mj_nest_put _ (List.mem_range.mpr hl)) _ hm
      dsimp only at h1
      rw [hlink] at h1
      simp [hcn] at h1
theorem mj_s_putf {idx : Nat} (C : mj_C p s m args meth c G y) (I : mj_I s G b sz n0 s0 y w f ls st H locs lsA) (hd : mj_dec y pc = some (.putfield idx)) (hs : mj_putf y w f pc ls st idx = some (w', f', pc', ls', st')) (kk : mj_K p l e R s m args below meth c Q G b sz n0 s0 y w' f' pc' ls' st') : mj_Wg p l e R s m args below meth c Q b sz n0 s0 w H locs pc lsA st := by
  have hdg : decode (mj_code y) pc = .ok (.putfield idx, 3) := mj_dec_ok hd rfl (by decide)
  obtain ⟨⟨L, hP, hD, hL, hz, hwf, hr⟩, hS, hls, ho, hrest⟩ := id I
  have hn := hrest.1
  unfold mj_putf at hs
  split at hs
  · next v a r ci k q hq =>
    split at hs
    · next hmay =>
      split at hs
      · next hw =>
        cases hs
        obtain ⟨CC, T, N, hc, hk, hlink⟩ := mj_fl_ok hq
        obtain ⟨hN, hci⟩ := mj_cl_nf hc
        have hlv := mj_lv_of hw.1 hci
        obtain ⟨g1, g2, g3, g4, q0, hq0⟩ := mj_P_at (G := G) (b := b) (f := f) hL hwf hlv
        have hq1 := hq0
        rw [mj_E_obj hw.1 hci] at hq1
        have o1 := List.forall_mem_cons.mp ho
        have o2 := List.forall_mem_cons.mp o1.2
        have hty := mj_tk_of hci (by rw [hN]; exact hk : k < mj_nf ci)
        have hkn : mj_kind ci k ≠ 2 := by rcases hw.2 with h | h <;> omega
        refine mj_put_row C hdg hP hD (mj_S_here hS) hq hc hk hlink hmay hq1 (mj_narrow_i (by rw [hty]; exact hw.2)) (fun H1 locs1 hP1 hD1 hS1 => mj_Wsize fun hup => ?_)
        refine kk _ _ _ (mj_I_write I hD hL hlv hz hq0 ?_ rfl (fun _ _ => rfl) (fun x hx => mj_u_ne hx) rfl (mj_u_rg hr o1.1) o2.2 hup hP1 hD1 hS1)
        rw [mj_E_obj hw.1 hci, mj_fs_set]
        intro j hj
        unfold mj_fv
        by_cases hjk : j = k
        · subst hjk
          rw [if_neg hkn, if_pos rfl, mj_u_self]
          dsimp only
          rw [if_pos rfl]
          rfl
        · rw [if_neg hjk, mj_u_self]
          dsimp only
          rw [if_neg hjk]
      · cases hs
    · cases hs
  · next v a r ci k q hq =>
    split at hs
    · next hmay =>
      split at hs
      · next hw =>
        cases hs
        obtain ⟨CC, T, N, hc, hk, hlink⟩ := mj_fl_ok hq
        obtain ⟨hN, hci⟩ := mj_cl_nf hc
        have hlv := mj_lv_of hw.1 hci
        obtain ⟨g1, g2, g3, g4, q0, hq0⟩ := mj_P_at (G := G) (b := b) (f := f) hL hwf hlv
        have hq1 := hq0
        rw [mj_E_obj hw.1 hci] at hq1
        have o1 := List.forall_mem_cons.mp ho
        have o2 := List.forall_mem_cons.mp o1.2
        have hty := mj_tk_of hci (by rw [hN]; exact hk : k < mj_nf ci)
        refine mj_put_row C hdg hP hD (mj_S_here hS) hq hc hk hlink hmay hq1 (mj_narrow_r (by rw [hty]; exact hw.2.1)) (fun H1 locs1 hP1 hD1 hS1 => mj_Wsize fun hup => ?_)
        refine kk _ _ _ (mj_I_write I hD hL hlv hz hq0 ?_ rfl (fun x hx => by funext j; simp [mj_ug, hx]) (fun _ _ => rfl) rfl hr o2.2 hup hP1 hD1 hS1)
        rw [mj_E_obj (w := mj_ug w a k v) hw.1 hci, mj_fs_set]
        intro j hj
        unfold mj_fv
        by_cases hjk : j = k
        · subst hjk
          rw [if_pos hw.2.1, if_pos rfl]
          have : (mj_ug w a j v).2.1 a j = v := by simp [mj_ug]
          rw [this]
          unfold mj_rv
          rw [if_neg (by omega)]
          rfl
        · rw [if_neg hjk]
          have : (mj_ug w a k v).2.1 a j = w.2.1 a j := by simp [mj_ug, hjk]
          rw [this]
      · cases hs
    · cases hs
  · cases hs
theorem mj_s_iald (C : mj_C p s m args meth c G y) (I : mj_I s G b sz n0 s0 y w f ls st H locs lsA) (hd : mj_dec y pc = some .iaload) (hs : mj_iald w f pc ls st = some (w', f', pc', ls', st')) (kk : mj_K p l e R s m args below meth c Q G b sz n0 s0 y w' f' pc' ls' st') : mj_Wg p l e R s m args below meth c Q b sz n0 s0 w H locs pc lsA st := by
  obtain ⟨hx, hb, hml, hown, hts, hini, hok⟩ := C
  have hdg : decode (mj_code y) pc = .ok (.iaload, 1) := mj_dec_ok hd rfl (by decide)
  obtain ⟨⟨L, hP, hD, hL, hz, hwf, hr⟩, hS, hls, ho, hn, hbz, hX, hrest⟩ := id I
  unfold mj_iald at hs
  split at hs
  · next j a r =>
    split at hs
    · next hw =>
      cases hs
      have o1 := List.forall_mem_cons.mp ho
      have o2 := List.forall_mem_cons.mp o1.2
      have h := kk _ _ _ (mj_I_st I (List.forall_mem_cons.mpr ⟨hr a j.toNat, o2.2⟩))
      have hin := mj_vpin o1.1 hw.2.1 hw.2.2
      rcases hw.1 with hk | hk
      · obtain ⟨-, -, -, -, q0, hq0⟩ := mj_P_at (G := G) (b := b) (f := f) hL hwf (a := a) (by unfold mj_lv; omega)
        rw [mj_E_100 hk] at hq0
        refine va_iald hx hb hok.1 hP q0 0 hq0 rfl hin hdg ?_
        rw [mj_clamp o1.1]
        exact h
      · have ha := hwf.2.2 a hk
        subst ha
        refine va_sld hx hb (hX hk) (by omega) (by show ¬ sz ≤ b; omega) hS hin hdg ?_
        rw [mj_clamp o1.1]
        exact h
    · cases hs
  · cases hs
theorem mj_s_bald (C : mj_C p s m args meth c G y) (I : mj_I s G b sz n0 s0 y w f ls st H locs lsA) (hd : mj_dec y pc = some .baload) (hs : mj_bald w f pc ls st = some (w', f', pc', ls', st')) (kk : mj_K p l e R s m args below meth c Q G b sz n0 s0 y w' f' pc' ls' st') : mj_Wg p l e R s m args below meth c Q b sz n0 s0 w H locs pc lsA st := by
  obtain ⟨hx, hb, hml, hown, hts, hini, hok⟩ := C
  have hdg : decode (mj_code y) pc = .ok (.baload, 1) := mj_dec_ok hd rfl (by decide)
  obtain ⟨⟨L, hP, hD, hL, hz, hwf, hr⟩, hS, hls, ho, hrest⟩ := id I
  unfold mj_bald at hs
  split at hs
  · next j a r =>
    split at hs
    · next hw =>
      cases hs
      have o1 := List.forall_mem_cons.mp ho
      have o2 := List.forall_mem_cons.mp o1.2
      have h := kk _ _ _ (mj_I_st I (List.forall_mem_cons.mpr ⟨hr a j.toNat, o2.2⟩))
      obtain ⟨-, -, -, -, q0, hq0⟩ := mj_P_at (G := G) (b := b) (f := f) hL hwf (a := a) (by unfold mj_lv; omega)
      rw [mj_E_101 hw.1] at hq0
      refine va_bald hx hb hok.1 hP q0 1 hq0 rfl (mj_vpin o1.1 hw.2.1 hw.2.2) hdg ?_
      rw [mj_clamp o1.1]
      exact h
    · cases hs
  · cases hs
theorem mj_s_lald (C : mj_C p s m args meth c G y) (I : mj_I s G b sz n0 s0 y w f ls st H locs lsA) (hd : mj_dec y pc = some .laload) (hs : mj_lald w f pc ls st = some (w', f', pc', ls', st')) (kk : mj_K p l e R s m args below meth c Q G b sz n0 s0 y w' f' pc' ls' st') : mj_Wg p l e R s m args below meth c Q b sz n0 s0 w H locs pc lsA st := by
  obtain ⟨hx, hb, hml, hown, hts, hini, hok⟩ := C
  have hdg : decode (mj_code y) pc = .ok (.laload, 1) := mj_dec_ok hd rfl (by decide)
  obtain ⟨⟨L, hP, hD, hL, hz, hwf, hr⟩, hS, hls, ho, hrest⟩ := id I
  unfold mj_lald at hs
  split at hs
  · next j a r =>
    split at hs
    · next hw =>
      cases hs
      have o1 := List.forall_mem_cons.mp ho
      have o2 := List.forall_mem_cons.mp o1.2
      have h := kk _ _ _ (mj_I_st I (List.forall_mem_cons.mpr ⟨(by have := hr a j.toNat; unfold mj_rg at this; exact ⟨by omega, by omega⟩), o2.2⟩))
      obtain ⟨-, -, -, -, q0, hq0⟩ := mj_P_at (G := G) (b := b) (f := f) hL hwf (a := a) (by unfold mj_lv; omega)
      rw [mj_E_103 hw.1] at hq0
      refine va_lald hx hb hok.1 hP q0 3 hq0 rfl (mj_vpin o1.1 hw.2.1 hw.2.2) hdg ?_
      rw [mj_clamp o1.1]
      exact h
    · cases hs
  · cases hs
theorem mj_s_aald (C : mj_C p s m args meth c G y) (I : mj_I s G b sz n0 s0 y w f ls st H locs lsA) (hd : mj_dec y pc = some .aaload) (hs : mj_aald w f pc ls st = some (w', f', pc', ls', st')) (kk : mj_K p l e R s m args below meth c Q G b sz n0 s0 y w' f' pc' ls' st') : mj_Wg p l e R s m args below meth c Q b sz n0 s0 w H locs pc lsA st := by
  obtain ⟨hx, hb, hml, hown, hts, hini, hok⟩ := C
  have hdg : decode (mj_code y) pc = .ok (.aaload, 1) := mj_dec_ok hd rfl (by decide)
  obtain ⟨⟨L, hP, hD, hL, hz, hwf, hr⟩, hS, hls, ho, hrest⟩ := id I
  unfold mj_aald at hs
  split at hs
  · next j a r =>
    split at hs
    · next hw =>
      cases hs
      have o1 := List.forall_mem_cons.mp ho
      have o2 := List.forall_mem_cons.mp o1.2
      have h := kk _ _ _ (mj_I_st I (List.forall_mem_cons.mpr ⟨trivial, o2.2⟩))
      obtain ⟨-, -, -, -, q0, hq0⟩ := mj_P_at (G := G) (b := b) (f := f) hL hwf (a := a) (by unfold mj_lv; omega)
      rw [mj_E_102 hw.1] at hq0
      refine va_aldq hx hb hok.1 hP q0 2 hq0 rfl (mj_vpin o1.1 hw.2.1.1 hw.2.1.2) hdg ?_
      rw [mj_clamp o1.1, if_neg hw.2.2]
      exact h
    · cases hs
  · cases hs
theorem mj_upd_of {a i : Nat} {v : Int} : (fun j => Int32.ofInt (mj_u f a i v a j)) = upd (fun j => Int32.ofInt (f a j)) i (Int32.ofInt v) := by
  funext j
  rw [mj_u_self]
  unfold upd
  dsimp only
  split <;> rfl
theorem mj_s_iast (C : mj_C p s m args meth c G y) (I : mj_I s G b sz n0 s0 y w f ls st H locs lsA) (hd : mj_dec y pc = some .iastore) (hs : mj_iast w f pc ls st = some (w', f', pc', ls', st')) (kk : mj_K p l e R s m args below meth c Q G b sz n0 s0 y w' f' pc' ls' st') : mj_Wg p l e R s m args below meth c Q b sz n0 s0 w H locs pc lsA st := by
  obtain ⟨hx, hb, hml, hown, hts, hini, hok⟩ := C
  have hdg : decode (mj_code y) pc = .ok (.iastore, 1) := mj_dec_ok hd rfl (by decide)
  obtain ⟨⟨L, hP, hD, hL, hz, hwf, hr⟩, hS, hls, ho, hrest⟩ := id I
  unfold mj_iast at hs
  split at hs
  · next v j a r =>
    split at hs
    · next hw =>
      cases hs
      have o1 := List.forall_mem_cons.mp ho
      have o2 := List.forall_mem_cons.mp o1.2
      have o3 := List.forall_mem_cons.mp o2.2
      have hlv : mj_lv w a := by unfold mj_lv; omega
      obtain ⟨-, -, -, -, q0, hq0⟩ := mj_P_at (G := G) (b := b) (f := f) hL hwf hlv
      have hq1 := hq0
      rw [mj_E_100 hw.1] at hq1
      refine va_iast hx hb hok.1 hP hD (mj_S_here hS) q0 0 hq1 rfl (mj_vpin o2.1 hw.2.1 hw.2.2) hdg (fun H1 locs1 hP1 hD1 hS1 => mj_Wsize fun hup => ?_)
      refine kk _ _ _ (mj_I_write I hD hL hlv hz hq0 ?_ rfl (fun _ _ => rfl) (fun x hx => mj_u_ne hx) rfl (mj_u_rg hr o1.1) o3.2 hup hP1 hD1 hS1)
      rw [mj_E_100 hw.1, mj_upd_of, mj_clamp o2.1]
    · cases hs
  · cases hs
theorem mj_w8_nar (x : Int) : vp_nar .byte (Int32.ofInt x) = Int32.ofInt (mj_w8 x) := by
  rw [← mj_w8_of]
  rfl
theorem mj_s_bast (C : mj_C p s m args meth c G y) (I : mj_I s G b sz n0 s0 y w f ls st H locs lsA) (hd : mj_dec y pc = some .bastore) (hs : mj_bast w f pc ls st = some (w', f', pc', ls', st')) (kk : mj_K p l e R s m args below meth c Q G b sz n0 s0 y w' f' pc' ls' st') : mj_Wg p l e R s m args below meth c Q b sz n0 s0 w H locs pc lsA st := by
  obtain ⟨hx, hb, hml, hown, hts, hini, hok⟩ := C
  have hdg : decode (mj_code y) pc = .ok (.bastore, 1) := mj_dec_ok hd rfl (by decide)
  obtain ⟨⟨L, hP, hD, hL, hz, hwf, hr⟩, hS, hls, ho, hrest⟩ := id I
  unfold mj_bast at hs
  split at hs
  · next v j a r =>
    split at hs
    · next hw =>
      cases hs
      have o1 := List.forall_mem_cons.mp ho
      have o2 := List.forall_mem_cons.mp o1.2
      have o3 := List.forall_mem_cons.mp o2.2
      have hlv : mj_lv w a := by unfold mj_lv; omega
      obtain ⟨-, -, -, -, q0, hq0⟩ := mj_P_at (G := G) (b := b) (f := f) hL hwf hlv
      have hq1 := hq0
      rw [mj_E_101 hw.1] at hq1
      refine va_bast hx hb hok.1 hP hD (mj_S_here hS) q0 1 hq1 rfl (mj_vpin o2.1 hw.2.1 hw.2.2) hdg (fun H1 locs1 hP1 hD1 hS1 => mj_Wsize fun hup => ?_)
      refine kk _ _ _ (mj_I_write I hD hL hlv hz hq0 ?_ rfl (fun _ _ => rfl) (fun x hx => mj_u_ne hx) rfl (mj_u_rg hr (mj_w8_rg _)) o3.2 hup hP1 hD1 hS1)
      rw [mj_E_101 hw.1, mj_upd_of, mj_clamp o2.1, mj_w8_nar]
    · cases hs
  · cases hs
theorem mj_s_aast (C : mj_C p s m args meth c G y) (I : mj_I s G b sz n0 s0 y w f ls st H locs lsA) (hd : mj_dec y pc = some .aastore) (hs : mj_aast w f pc ls st = some (w', f', pc', ls', st')) (kk : mj_K p l e R s m args below meth c Q G b sz n0 s0 y w' f' pc' ls' st') : mj_Wg p l e R s m args below meth c Q b sz n0 s0 w H locs pc lsA st := by
  obtain ⟨hx, hb, hml, hown, hts, hini, hok⟩ := C
  have hdg : decode (mj_code y) pc = .ok (.aastore, 1) := mj_dec_ok hd rfl (by decide)
  obtain ⟨⟨L, hP, hD, hL, hz, hwf, hr⟩, hS, hls, ho, hrest⟩ := id I
  unfold mj_aast at hs
  split at hs
  · next v j a r =>
    split at hs
    · next hw =>
      cases hs
      have o1 := List.forall_mem_cons.mp ho
      have o2 := List.forall_mem_cons.mp o1.2
      have o3 := List.forall_mem_cons.mp o2.2
      have hlv : mj_lv w a := by unfold mj_lv; omega
      have hlv2 : mj_lv w v := mj_lv_of hw.2.2 (by decide)
      obtain ⟨-, -, -, -, q0, hq0⟩ := mj_P_at (G := G) (b := b) (f := f) hL hwf hlv
      obtain ⟨gv, -, -, -, qv, hqv⟩ := mj_P_at (G := G) (b := b) (f := f) hL hwf hlv2
      have hq1 := hq0
      rw [mj_E_102 hw.1] at hq1
      rw [mj_E_obj hw.2.2 (by decide)] at hqv
      refine va_astq (r := (RX7, TX7, 3)) hx hb hok.1 hP hD (mj_S_here hS) q0 2 qv 7 hq1 rfl hqv rfl (mj_vpin o2.1 hw.2.1.1 hw.2.1.2) hdg (fun H1 locs1 hP1 hD1 hS1 => mj_Wsize fun hup => ?_)
      refine kk _ _ _ (mj_I_write I hD hL hlv hz hq0 ?_ rfl (fun x hx => by funext i; simp [mj_ug, hx]) (fun _ _ => rfl) rfl hr o3.2 hup hP1 hD1 hS1)
      rw [mj_E_102 (w := mj_ug w a j.toNat v) hw.1, mj_clamp o2.1]
      have hF : (fun i => if (mj_ug w a j.toNat v).2.1 a i = 0 then none else some (mj_ad b sz ((mj_ug w a j.toNat v).2.1 a i))) = va_up (fun i => if w.2.1 a i = 0 then none else some (mj_ad b sz (w.2.1 a i))) j.toNat (some (mj_ad b sz v)) := by
        funext i
        unfold va_up
        by_cases hi : i = j.toNat
        · rw [if_pos hi]
          have : (mj_ug w a j.toNat v).2.1 a i = v := by simp [mj_ug, hi]
          rw [this, if_neg (by omega)]
        · rw [if_neg hi]
          have : (mj_ug w a j.toNat v).2.1 a i = w.2.1 a i := by simp [mj_ug, hi]
          rw [this]
      rw [hF]
      rfl
    · cases hs
  · cases hs
theorem mj_s_alen (C : mj_C p s m args meth c G y) (I : mj_I s G b sz n0 s0 y w f ls st H locs lsA) (hd : mj_dec y pc = some .arraylength) (hs : mj_alen w f pc ls st = some (w', f', pc', ls', st')) (kk : mj_K p l e R s m args below meth c Q G b sz n0 s0 y w' f' pc' ls' st') : mj_Wg p l e R s m args below meth c Q b sz n0 s0 w H locs pc lsA st := by
  obtain ⟨hx, hb, hml, hown, hts, hini, hok⟩ := C
  have hdg : decode (mj_code y) pc = .ok (.arraylength, 1) := mj_dec_ok hd rfl (by decide)
  obtain ⟨⟨L, hP, hD, hL, hz, hwf, hr⟩, hS, hls, ho, hn, hbz, hX, hrest⟩ := id I
  unfold mj_alen at hs
  split at hs
  · next a r =>
    split at hs
    · next hw =>
      cases hs
      have o1 := List.forall_mem_cons.mp ho
      have hrg : mj_rg ((w.1 a).2 : Int) := ⟨by omega, by omega⟩
      have h := kk _ _ _ (mj_I_st I (List.forall_mem_cons.mpr ⟨hrg, o1.2⟩))
      have hv : Int32.ofNat (w.1 a).2 = Int32.ofInt ((w.1 a).2 : Int) := (Int32.ofInt_eq_ofNat).symm
      by_cases h4 : (w.1 a).1 = 104
      · have ha := hwf.2.2 a h4
        subst ha
        have hbl : b < s.heap.size := by
          have h6 := hn.1
          have h7 := hn.2
          omega
        refine va_slen hx hb (hX h4) hbl (by show ¬ sz ≤ b; omega) hS hdg ?_
        rw [hv]
        exact h
      · have hlv : mj_lv w a := by unfold mj_lv; omega
        obtain ⟨-, -, -, -, q0, hq0⟩ := mj_P_at (G := G) (b := b) (f := f) hL hwf hlv
        have h5 : (w.1 a).1 = 100 ∨ (w.1 a).1 = 101 ∨ (w.1 a).1 = 102 ∨ (w.1 a).1 = 103 := by omega
        rcases h5 with h5 | h5 | h5 | h5
        · rw [mj_E_100 h5] at hq0
          exact va_alen hx hb hok.1 hP q0 0 hq0 rfl hv hdg h
        · rw [mj_E_101 h5] at hq0
          exact va_alen hx hb hok.1 hP q0 1 hq0 rfl hv hdg h
        · rw [mj_E_102 h5] at hq0
          exact va_alen hx hb hok.1 hP q0 2 hq0 rfl hv hdg h
        · rw [mj_E_103 h5] at hq0
          exact va_alen hx hb hok.1 hP q0 3 hq0 rfl hv hdg h
    · cases hs
  · cases hs
end MJ
end
section
/-! Calls: where the words of each method stand. The two tables are written by wip/whole/gen/mkcall.py. -/
def mj_mpos : List (Nat × Nat × Nat × Nat) := [(198, 197, 0, 164), (192, 191, 0, 163), (358, 357, 0, 166), (354, 353, 0, 165), (377, 376, 0, 167), (425, 424, 0, 168), (444, 443, 0, 169), (479, 478, 0, 170), (492, 491, 0, 171), (184, 183, 0, 162), (1382, 1381, 97, 172), (1378, 1377, 96, 172), (1390, 1389, 99, 172), (1386, 1385, 98, 172), (1374, 1373, 95, 172), (1369, 1368, 0, 172), (559, 558, 0, 163), (555, 553, 554, 162), (1582, 1581, 100, 172), (1578, 1576, 1577, 172), (571, 570, 2, 164), (583, 582, 4, 163), (592, 591, 5, 163), (596, 595, 6, 163), (579, 578, 3, 163), (608, 607, 9, 163), (615, 614, 0, 164), (612, 611, 10, 164), (604, 603, 8, 163), (619, 618, 11, 163), (627, 626, 13, 164), (630, 629, 0, 162), (638, 637, 15, 163), (642, 641, 16, 163), (646, 645, 17, 164), (634, 633, 14, 163), (623, 622, 12, 163), (657, 656, 19, 163), (660, 659, 0, 162), (668, 667, 21, 164), (672, 671, 22, 164), (664, 663, 20, 163), (653, 652, 18, 163), (676, 675, 23, 163), (600, 599, 7, 163), (567, 566, 1, 163), (684, 683, 25, 165), (688, 687, 26, 171), (680, 679, 24, 162), (708, 707, 0, 162), (711, 710, 0, 162), (705, 704, 0, 162), (720, 719, 31, 165), (723, 722, 0, 162), (729, 728, 32, 165), (716, 715, 30, 165), (732, 731, 0, 162), (702, 701, 29, 165), (736, 735, 33, 165), (697, 696, 28, 165), (743, 742, 0, 165), (749, 748, 0, 162), (746, 745, 0, 165), (757, 756, 0, 162), (754, 753, 35, 165), (740, 739, 34, 165), (766, 765, 37, 165), (762, 761, 36, 167), (786, 785, 41, 165), (782, 781, 40, 165), (777, 776, 39, 165), (795, 794, 43, 165), (791, 790, 42, 167), (773, 772, 38, 167), (692, 691, 27, 167), (563, 561, 562, 162), (1589, 1588, 0, 172), (1597, 1596, 102, 172), (1593, 1592, 101, 172), (1606, 1605, 104, 172), (1614, 1613, 106, 172), (1610, 1609, 105, 172), (1622, 1621, 108, 172), (1629, 1628, 0, 172), (1618, 1617, 107, 172), (1637, 1636, 110, 172), (1641, 1640, 111, 172), (1633, 1632, 109, 172), (1645, 1644, 112, 172), (1649, 1648, 113, 172), (1601, 1600, 103, 172), (1656, 1655, 0, 172), (1664, 1663, 116, 172), (1660, 1659, 115, 172), (1683, 1682, 0, 172), (1687, 1686, 121, 172), (1680, 1679, 120, 172), (1695, 1694, 0, 172), (1691, 1690, 122, 172), (1676, 1675, 119, 172), (1699, 1698, 123, 172), (1672, 1671, 118, 172), (1706, 1705, 0, 172), (1703, 1702, 124, 172), (1710, 1709, 125, 172), (1714, 1713, 126, 172), (1722, 1721, 128, 172), (1718, 1717, 127, 172), (1730, 1729, 130, 172), (1726, 1725, 129, 172), (1668, 1667, 117, 172), (1653, 1652, 114, 172), (1586, 1584, 1585, 172), (799, 797, 798, 162), (1734, 1732, 1733, 172), (928, 927, 58, 162), (1324, 1323, 91, 164), (1328, 1327, 92, 164), (1332, 1331, 93, 167), (1253, 1251, 1252, 162), (1848, 1847, 144, 172), (1951, 1950, 152, 172), (1979, 1977, 1978, 172), (1364, 1362, 1363, 172), (807, 806, 44, 162), (1360, 1359, 94, 167), (1355, 1353, 1354, 162), (1832, 1831, 142, 172), (1983, 1981, 1982, 172), (803, 801, 802, 162), (1987, 1985, 1986, 172), (812, 810, 811, 162), (1780, 1779, 0, 172), (1991, 1989, 1990, 172), (820, 819, 45, 162), (816, 814, 815, 162), (1792, 1791, 138, 172), (2007, 2005, 2006, 172), (827, 826, 0, 162), (836, 835, 47, 165), (831, 830, 46, 165), (840, 839, 48, 165), (848, 847, 50, 165), (860, 859, 52, 171), (855, 854, 51, 171), (844, 843, 49, 162), (824, 822, 823, 162), (1745, 1744, 0, 172), (1749, 1748, 131, 172), (1757, 1756, 133, 172), (1761, 1760, 134, 172), (1753, 1752, 132, 172), (1742, 1740, 1741, 172), (870, 869, 53, 162), (874, 873, 54, 165), (866, 864, 865, 162), (1769, 1768, 135, 172), (1773, 1772, 136, 172), (1765, 1763, 1764, 172), (883, 882, 55, 165), (878, 876, 877, 162), (1784, 1783, 137, 172), (1777, 1775, 1776, 172), (887, 885, 886, 162), (1788, 1786, 1787, 172), (892, 890, 891, 162), (1800, 1799, 139, 172), (1796, 1794, 1795, 172), (897, 895, 896, 162), (1804, 1802, 1803, 172), (905, 904, 56, 165), (901, 899, 900, 162), (1812, 1811, 140, 172), (1808, 1806, 1807, 172), (915, 914, 57, 165), (911, 909, 910, 162), (1820, 1819, 141, 172), (1816, 1814, 1815, 172), (919, 917, 918, 162), (1828, 1826, 1827, 172), (924, 922, 923, 162), (1844, 1842, 1843, 172), (933, 931, 932, 162), (1852, 1850, 1851, 172), (942, 941, 59, 162), (938, 936, 937, 162), (1856, 1854, 1855, 172), (959, 958, 61, 171), (963, 962, 62, 171), (955, 953, 954, 162), (1738, 1736, 1737, 172), (980, 979, 0, 162), (976, 975, 0, 162), (972, 971, 63, 162), (968, 966, 967, 162), (1864, 1863, 145, 172), (1860, 1858, 1859, 172), (984, 982, 983, 162), (1872, 1870, 1871, 172), (988, 986, 987, 162), (1876, 1874, 1875, 172), (997, 996, 64, 165), (993, 991, 992, 162), (1884, 1883, 146, 172), (1880, 1878, 1879, 172), (1010, 1009, 66, 165), (1005, 1004, 65, 165), (1001, 999, 1000, 162), (1892, 1891, 147, 172), (1888, 1886, 1887, 172), (1022, 1021, 0, 162), (1019, 1018, 67, 165), (1025, 1024, 0, 162), (1025, 1024, 0, 162), (1025, 1024, 0, 162), (1025, 1024, 0, 162), (1025, 1024, 0, 162), (1025, 1024, 0, 162), (1014, 1012, 1013, 162), (1900, 1898, 1899, 172), (1035, 1034, 68, 165), (1031, 1029, 1030, 162), (1908, 1907, 148, 172), (1904, 1902, 1903, 172), (1064, 1062, 1063, 162), (1927, 1925, 1926, 172), (1068, 1066, 1067, 162), (1935, 1934, 150, 172), (1931, 1929, 1930, 172), (1072, 1070, 1071, 162), (1939, 1937, 1938, 172), (1080, 1079, 70, 167), (1076, 1074, 1075, 162), (1947, 1946, 151, 172), (1943, 1941, 1942, 172), (1088, 1087, 71, 167), (1084, 1082, 1083, 162), (1963, 1962, 153, 172), (1959, 1957, 1958, 172), (1092, 1090, 1091, 162), (1967, 1965, 1966, 172), (1096, 1094, 1095, 162), (1971, 1969, 1970, 172), (1151, 1150, 78, 168), (1159, 1158, 80, 171), (1155, 1154, 79, 162), (1147, 1145, 1146, 162), (2015, 2014, 156, 172), (2011, 2009, 2010, 172), (1163, 1161, 1162, 162), (2019, 2017, 2018, 172), (1167, 1165, 1166, 162), (2023, 2021, 2022, 172), (1185, 1184, 83, 169), (1191, 1190, 84, 169), (1197, 1196, 85, 169), (1179, 1178, 82, 169), (1175, 1174, 81, 162), (1171, 1169, 1170, 162), (2042, 2041, 0, 172), (2039, 2038, 159, 172), (2035, 2034, 158, 172), (2031, 2030, 157, 172), (2027, 2025, 2026, 172), (1207, 1206, 86, 169), (1203, 1201, 1202, 162), (2050, 2049, 160, 172), (2046, 2044, 2045, 172), (1213, 1211, 1212, 162), (2054, 2052, 2053, 172), (1221, 1220, 87, 168), (1217, 1215, 1216, 162), (2058, 2056, 2057, 172), (1119, 1118, 74, 170), (1112, 1111, 73, 170), (1227, 1225, 1226, 162), (2062, 2060, 2061, 172), (1039, 1037, 1038, 162), (1868, 1866, 1867, 172), (1043, 1041, 1042, 162), (1824, 1822, 1823, 172), (950, 949, 60, 165), (946, 944, 945, 162), (1840, 1839, 143, 172), (1836, 1834, 1835, 172), (1051, 1050, 69, 165), (1047, 1045, 1046, 162), (1916, 1915, 149, 172), (1912, 1910, 1911, 172), (1055, 1053, 1054, 162), (1923, 1922, 0, 172), (1920, 1918, 1919, 172), (1104, 1103, 72, 164), (1100, 1098, 1099, 162), (1975, 1973, 1974, 172), (1108, 1106, 1107, 162), (2066, 2064, 2065, 172), (1235, 1234, 88, 169), (1240, 1239, 89, 169), (1231, 1229, 1230, 162), (2070, 2068, 2069, 172), (1126, 1124, 1125, 162), (1955, 1953, 1954, 172), (1138, 1137, 76, 164), (1134, 1133, 75, 164), (1142, 1141, 77, 164), (1130, 1128, 1129, 162), (1999, 1998, 154, 172), (2003, 2002, 155, 172), (1995, 1993, 1994, 172), (1060, 1058, 1059, 162), (1896, 1894, 1895, 172), (1244, 1242, 1243, 162), (2074, 2072, 2073, 172), (0, 0, 0, 0)]
/-- 0 static, 1 virtual, 2 a constructor, 3 the law -/
def mj_mk : List Nat := [2, 2, 0, 2, 2, 2, 2, 2, 2, 2, 1, 1, 1, 1, 1, 2, 1, 1, 1, 1, 1, 1, 1, 1, 1, 1, 0, 1, 1, 1, 1, 0, 1, 1, 1, 1, 1, 1, 0, 1, 1, 1, 1, 1, 1, 1, 1, 1, 1, 0, 0, 0, 1, 0, 1, 1, 0, 1, 1, 1, 0, 0, 0, 0, 1, 1, 1, 1, 1, 1, 1, 1, 1, 1, 1, 1, 0, 1, 1, 1, 1, 1, 1, 0, 1, 1, 1, 1, 1, 1, 1, 0, 1, 1, 0, 1, 1, 0, 1, 1, 1, 1, 0, 1, 1, 1, 1, 1, 1, 1, 1, 1, 1, 1, 1, 1, 1, 1, 1, 1, 1, 1, 1, 1, 1, 1, 1, 1, 1, 1, 1, 1, 0, 1, 1, 1, 1, 1, 0, 1, 1, 1, 1, 1, 1, 1, 1, 0, 1, 1, 1, 1, 1, 1, 1, 1, 1, 1, 1, 1, 1, 1, 1, 1, 1, 1, 1, 1, 1, 1, 1, 1, 1, 1, 1, 1, 1, 1, 1, 1, 1, 1, 1, 1, 1, 1, 1, 1, 1, 1, 1, 0, 0, 1, 1, 1, 1, 1, 1, 1, 1, 1, 1, 1, 1, 1, 1, 1, 1, 1, 0, 1, 0, 0, 0, 0, 0, 0, 1, 1, 1, 1, 1, 1, 1, 1, 1, 1, 1, 1, 1, 1, 1, 1, 1, 1, 1, 1, 1, 1, 1, 1, 1, 1, 1, 1, 1, 1, 1, 1, 1, 1, 1, 1, 1, 1, 1, 1, 1, 0, 1, 1, 1, 1, 1, 1, 1, 1, 1, 1, 1, 1, 1, 1, 1, 1, 1, 1, 1, 1, 1, 1, 1, 1, 1, 1, 1, 1, 1, 1, 0, 1, 1, 1, 1, 1, 1, 1, 1, 1, 1, 1, 1, 1, 1, 1, 1, 1, 1, 1, 1, 1, 1, 1, 3]
def mj_mp (cy : Nat) : Nat × Nat × Nat × Nat := mj_mpos.getD cy (0, 0, 0, 0)
def mj_mkd (cy : Nat) : Nat := mj_mk.getD cy 3
def mj_nm (cy : Nat) : MethodName := (mj_row cy).1
def mj_cw (y : Nat) : Cond := .code (mj_nm y) (mj_code y) (mj_nL y) (mj_rt y)
def mj_npar (d : String) : Option Nat := (parseMethodDescriptor d).map (fun d => d.parameters.length)
/-- a method that is called: its words -/
def mj_mok (cy : Nat) : Bool :=
  decide (lw_tbl[(mj_mp cy).2.2.2]? = some (.initialized (mj_nm cy).cls)) && plainName (mj_nm cy).cls && decide ((mj_nm cy).cls ≠ "java/lang/invoke/MethodHandle") && decide ((mj_nm cy).cls ≠ "java/lang/invoke/VarHandle") && decide (mj_nL cy ≤ 60) && decide (mj_ar cy ≤ mj_nL cy) && (match mj_mkd cy with
    | 0 => decide (lw_tbl[(mj_mp cy).2.1]? = some (.static (mj_nm cy))) && decide (mj_npar (mj_nm cy).desc = some (mj_ar cy))
    | 1 => decide (lw_tbl[(mj_mp cy).2.1]? = some (.instanceMethod (mj_nm cy))) && decide (lw_tbl[(mj_mp cy).2.2.1]? = some (.selects (mj_nm cy).cls (mj_nm cy) (mj_nm cy))) && decide (mj_npar (mj_nm cy).desc = some (mj_ar cy - 1)) && decide (1 ≤ mj_ar cy) && decide ((mj_cl[mj_cn cy]?).map (·.1) = some (mj_nm cy).cls)
    | 2 => decide (lw_tbl[(mj_mp cy).2.1]? = some (.instanceMethod (mj_nm cy))) && decide ((mj_nm cy).name = "<init>") && decide (mj_rt cy = none) && decide (mj_npar (mj_nm cy).desc = some (mj_ar cy - 1)) && decide (1 ≤ mj_ar cy)
    | _ => false)
theorem mj_mok_1 : ((List.range 80).all fun k => mj_mok k) = true := by decide +kernel
theorem mj_mok_2 : ((List.range 80).all fun k => mj_mok (k + 80)) = true := by decide +kernel
theorem mj_mok_3 : ((List.range 80).all fun k => mj_mok (k + 160)) = true := by decide +kernel
theorem mj_mok_4 : ((List.range 74).all fun k => mj_mok (k + 240)) = true := by decide +kernel
theorem mj_mok_all {cy : Nat} (h : cy < 314) : mj_mok cy = true := by
  rcases Nat.lt_or_ge cy 80 with q | q
  · exact List.all_eq_true.mp mj_mok_1 cy (List.mem_range.mpr q)
  · rcases Nat.lt_or_ge cy 160 with q2 | q2
    · have := List.all_eq_true.mp mj_mok_2 (cy - 80) (List.mem_range.mpr (by omega))
      rwa [show cy - 80 + 80 = cy by omega] at this
    · rcases Nat.lt_or_ge cy 240 with q3 | q3
      · have := List.all_eq_true.mp mj_mok_3 (cy - 160) (List.mem_range.mpr (by omega))
        rwa [show cy - 160 + 160 = cy by omega] at this
      · have := List.all_eq_true.mp mj_mok_4 (cy - 240) (List.mem_range.mpr (by omega))
        rwa [show cy - 240 + 240 = cy by omega] at this
/-- a call's link -/
def mj_cok (cn : Nat) (e : Nat × Nat × Nat × Nat) : Bool :=
  match e.2.1 with
  | 0 => decide (lw_tbl[e.2.2.2]? = some (.methodLink (mj_owns.getD cn "") e.1 (mj_nm e.2.2.1))) && decide (e.2.2.1 < 314) && decide (mj_mkd e.2.2.1 = 1)
  | 1 => (match lw_tbl[e.2.2.2]? with
    | some (.methodLinkNest own i x _) => own == mj_owns.getD cn "" && i == e.1 && decide (x = mj_nm e.2.2.1)
    | _ => false) && decide (e.2.2.1 < 314) && decide (mj_mkd e.2.2.1 = 1)
  | 2 => decide (lw_tbl[e.2.2.2]? = some (.methodLink (mj_owns.getD cn "") e.1 (mj_nm e.2.2.1))) && decide (e.2.2.1 < 314) && decide (mj_mkd e.2.2.1 = 0)
  | 3 => (match lw_tbl[e.2.2.2]? with
    | some (.methodLinkNest own i x _) => own == mj_owns.getD cn "" && i == e.1 && decide (x = mj_nm e.2.2.1)
    | _ => false) && decide (e.2.2.1 < 314) && decide (mj_mkd e.2.2.1 = 0)
  | 4 => decide (lw_tbl[e.2.2.2]? = some (.methodLink (mj_owns.getD cn "") e.1 (mj_nm e.2.2.1))) && decide (e.2.2.1 < 314) && decide (mj_mkd e.2.2.1 = 2)
  | 5 => (match lw_tbl[e.2.2.2]? with
    | some (.methodLinkNest own i x _) => own == mj_owns.getD cn "" && i == e.1 && decide (x = mj_nm e.2.2.1)
    | _ => false) && decide (e.2.2.1 < 314) && decide (mj_mkd e.2.2.1 = 2)
  | 6 => decide (lw_tbl[e.2.2.2]? = some (.methodLink (mj_owns.getD cn "") e.1 Lib.objectInit))
  | 7 => decide (lw_tbl[e.2.2.2]? = some (.methodLink (mj_owns.getD cn "") e.1 arraycopyName))
  | 12 => decide (lw_tbl[e.2.2.2]? = some (.methodLink (mj_owns.getD cn "") e.1 Lib.Math.max.name))
  | 13 => decide (lw_tbl[e.2.2.2]? = some (.methodLink (mj_owns.getD cn "") e.1 Lib.Math.min.name))
  | 14 => decide (lw_tbl[e.2.2.2]? = some (.methodLink (mj_owns.getD cn "") e.1 Lib.Math.abs.name))
  | 9 => (match mj_cl[e.2.2.1]? with
    | some (C, _, N) => decide (lw_tbl[e.2.2.2]? = some (.classLink (mj_owns.getD cn "") e.1 C)) && decide (Cond.instantiable C N ∈ lw_tbl) && decide (Cond.initialized C ∈ lw_tbl)
    | none => false)
  | 10 => decide (lw_tbl[e.2.2.2]? = some (.classLink (mj_owns.getD cn "") e.1 mj_zn)) && decide (e.2.2.1 = 7)
  | _ => true
theorem mj_cok_0 : (mj_cts.getD 0 []).all (mj_cok 0) = true := by decide +kernel
theorem mj_cok_1 : (mj_cts.getD 1 []).all (mj_cok 1) = true := by decide +kernel
theorem mj_cok_2 : (mj_cts.getD 2 []).all (mj_cok 2) = true := by decide +kernel
theorem mj_cok_3 : (mj_cts.getD 3 []).all (mj_cok 3) = true := by decide +kernel
theorem mj_cok_4 : (mj_cts.getD 4 []).all (mj_cok 4) = true := by decide +kernel
theorem mj_cok_5 : (mj_cts.getD 5 []).all (mj_cok 5) = true := by decide +kernel
theorem mj_cok_6 : (mj_cts.getD 6 []).all (mj_cok 6) = true := by decide +kernel
theorem mj_cok_7 : (mj_cts.getD 7 []).all (mj_cok 7) = true := by decide +kernel
theorem mj_cok_8 : (mj_cts.getD 8 []).all (mj_cok 8) = true := by decide +kernel
theorem mj_cok_9 : (mj_cts.getD 9 []).all (mj_cok 9) = true := by decide +kernel
theorem mj_cok_10 : (mj_cts.getD 10 []).all (mj_cok 10) = true := by decide +kernel
theorem mj_cok_11 : (mj_cts.getD 11 []).all (mj_cok 11) = true := by decide +kernel
theorem mj_cok_12 : (mj_cts.getD 12 []).all (mj_cok 12) = true := by decide +kernel
theorem mj_cok_13 : (mj_cts.getD 13 []).all (mj_cok 13) = true := by decide +kernel
theorem mj_cok_14 : (mj_cts.getD 14 []).all (mj_cok 14) = true := by decide +kernel
theorem mj_cok_15 : (mj_cts.getD 15 []).all (mj_cok 15) = true := by decide +kernel
theorem mj_cok_16 : (mj_cts.getD 16 []).all (mj_cok 16) = true := by decide +kernel
theorem mj_cok_17 : (mj_cts.getD 17 []).all (mj_cok 17) = true := by decide +kernel
theorem mj_cok_18 : (mj_cts.getD 18 []).all (mj_cok 18) = true := by decide +kernel
theorem mj_cok_19 : (mj_cts.getD 19 []).all (mj_cok 19) = true := by decide +kernel
theorem mj_cok_20 : (mj_cts.getD 20 []).all (mj_cok 20) = true := by decide +kernel
theorem mj_cok_21 : (mj_cts.getD 21 []).all (mj_cok 21) = true := by decide +kernel
theorem mj_cok_22 : (mj_cts.getD 22 []).all (mj_cok 22) = true := by decide +kernel
theorem mj_cok_23 : (mj_cts.getD 23 []).all (mj_cok 23) = true := by decide +kernel
theorem mj_cok_24 : (mj_cts.getD 24 []).all (mj_cok 24) = true := by decide +kernel
theorem mj_cok_25 : (mj_cts.getD 25 []).all (mj_cok 25) = true := by decide +kernel
theorem mj_cok_all {cn : Nat} (h : cn < 26) : (mj_cts.getD cn []).all (mj_cok cn) = true := by
  have h : cn = 0 ∨ cn = 1 ∨ cn = 2 ∨ cn = 3 ∨ cn = 4 ∨ cn = 5 ∨ cn = 6 ∨ cn = 7 ∨ cn = 8 ∨ cn = 9 ∨ cn = 10 ∨ cn = 11 ∨ cn = 12 ∨ cn = 13 ∨ cn = 14 ∨ cn = 15 ∨ cn = 16 ∨ cn = 17 ∨ cn = 18 ∨ cn = 19 ∨ cn = 20 ∨ cn = 21 ∨ cn = 22 ∨ cn = 23 ∨ cn = 24 ∨ cn = 25 := by omega
  rcases h with rfl | rfl | rfl | rfl | rfl | rfl | rfl | rfl | rfl | rfl | rfl | rfl | rfl | rfl | rfl | rfl | rfl | rfl | rfl | rfl | rfl | rfl | rfl | rfl | rfl | rfl
  · exact mj_cok_0
  · exact mj_cok_1
  · exact mj_cok_2
  · exact mj_cok_3
  · exact mj_cok_4
  · exact mj_cok_5
  · exact mj_cok_6
  · exact mj_cok_7
  · exact mj_cok_8
  · exact mj_cok_9
  · exact mj_cok_10
  · exact mj_cok_11
  · exact mj_cok_12
  · exact mj_cok_13
  · exact mj_cok_14
  · exact mj_cok_15
  · exact mj_cok_16
  · exact mj_cok_17
  · exact mj_cok_18
  · exact mj_cok_19
  · exact mj_cok_20
  · exact mj_cok_21
  · exact mj_cok_22
  · exact mj_cok_23
  · exact mj_cok_24
  · exact mj_cok_25
theorem mj_cl2_ok {cn idx k x q : Nat} (h : mj_cl2 cn idx = some (k, x, q)) : mj_cok cn (idx, k, x, q) = true := by
  have hm := mj_look_mem _ _ _ h
  have hl := mj_look_lt h
  rw [mj_cts_len] at hl
  exact List.all_eq_true.mp (mj_cok_all hl) _ hm
theorem mj_words : Cond.instanceMethod Lib.objectInit ∈ lw_t2 ∧ Cond.native arraycopyName ∈ lw_t2 ∧ Cond.static arraycopyName ∈ lw_t2 ∧ Cond.initialized "java/lang/System" ∈ lw_t2 ∧ Cond.arrayClass .int ∈ lw_t2 ∧ Cond.arrayClass .byte ∈ lw_t2 ∧ Cond.arrayClass .long ∈ lw_t2 ∧ Cond.static Lib.Math.max.name ∈ lw_t2 ∧ Cond.static Lib.Math.min.name ∈ lw_t2 ∧ Cond.static Lib.Math.abs.name ∈ lw_t2 ∧ Cond.initialized "java/lang/Math" ∈ lw_t2 := by
  refine ⟨?_, ?_, ?_, ?_, ?_, ?_, ?_, ?_, ?_, ?_, ?_⟩ <;> exact List.mem_filter.mpr ⟨by decide +kernel, by decide +kernel⟩
end
section
/-! The code words of the methods, at their places. Written by wip/whole/gen/mkcall.py. -/
set_option maxRecDepth 100000 in
theorem mj_cw_0 : lw_tbl[(mj_mp 0).1]? = some (mj_cw 0) := rfl
set_option maxRecDepth 100000 in
theorem mj_cw_1 : lw_tbl[(mj_mp 1).1]? = some (mj_cw 1) := rfl
set_option maxRecDepth 100000 in
theorem mj_cw_2 : lw_tbl[(mj_mp 2).1]? = some (mj_cw 2) := rfl
set_option maxRecDepth 100000 in
theorem mj_cw_3 : lw_tbl[(mj_mp 3).1]? = some (mj_cw 3) := rfl
set_option maxRecDepth 100000 in
theorem mj_cw_4 : lw_tbl[(mj_mp 4).1]? = some (mj_cw 4) := rfl
set_option maxRecDepth 100000 in
theorem mj_cw_5 : lw_tbl[(mj_mp 5).1]? = some (mj_cw 5) := rfl
set_option maxRecDepth 100000 in
theorem mj_cw_6 : lw_tbl[(mj_mp 6).1]? = some (mj_cw 6) := rfl
set_option maxRecDepth 100000 in
theorem mj_cw_7 : lw_tbl[(mj_mp 7).1]? = some (mj_cw 7) := rfl
set_option maxRecDepth 100000 in
theorem mj_cw_8 : lw_tbl[(mj_mp 8).1]? = some (mj_cw 8) := rfl
set_option maxRecDepth 100000 in
theorem mj_cw_9 : lw_tbl[(mj_mp 9).1]? = some (mj_cw 9) := rfl
set_option maxRecDepth 100000 in
theorem mj_cw_10 : lw_tbl[(mj_mp 10).1]? = some (mj_cw 10) := rfl
set_option maxRecDepth 100000 in
theorem mj_cw_11 : lw_tbl[(mj_mp 11).1]? = some (mj_cw 11) := rfl
set_option maxRecDepth 100000 in
theorem mj_cw_12 : lw_tbl[(mj_mp 12).1]? = some (mj_cw 12) := rfl
set_option maxRecDepth 100000 in
theorem mj_cw_13 : lw_tbl[(mj_mp 13).1]? = some (mj_cw 13) := rfl
set_option maxRecDepth 100000 in
theorem mj_cw_14 : lw_tbl[(mj_mp 14).1]? = some (mj_cw 14) := rfl
set_option maxRecDepth 100000 in
theorem mj_cw_15 : lw_tbl[(mj_mp 15).1]? = some (mj_cw 15) := rfl
set_option maxRecDepth 100000 in
theorem mj_cw_16 : lw_tbl[(mj_mp 16).1]? = some (mj_cw 16) := rfl
set_option maxRecDepth 100000 in
theorem mj_cw_17 : lw_tbl[(mj_mp 17).1]? = some (mj_cw 17) := rfl
set_option maxRecDepth 100000 in
theorem mj_cw_18 : lw_tbl[(mj_mp 18).1]? = some (mj_cw 18) := rfl
set_option maxRecDepth 100000 in
theorem mj_cw_19 : lw_tbl[(mj_mp 19).1]? = some (mj_cw 19) := rfl
set_option maxRecDepth 100000 in
theorem mj_cw_20 : lw_tbl[(mj_mp 20).1]? = some (mj_cw 20) := rfl
set_option maxRecDepth 100000 in
theorem mj_cw_21 : lw_tbl[(mj_mp 21).1]? = some (mj_cw 21) := rfl
set_option maxRecDepth 100000 in
theorem mj_cw_22 : lw_tbl[(mj_mp 22).1]? = some (mj_cw 22) := rfl
set_option maxRecDepth 100000 in
theorem mj_cw_23 : lw_tbl[(mj_mp 23).1]? = some (mj_cw 23) := rfl
set_option maxRecDepth 100000 in
theorem mj_cw_24 : lw_tbl[(mj_mp 24).1]? = some (mj_cw 24) := rfl
set_option maxRecDepth 100000 in
theorem mj_cw_25 : lw_tbl[(mj_mp 25).1]? = some (mj_cw 25) := rfl
set_option maxRecDepth 100000 in
theorem mj_cw_26 : lw_tbl[(mj_mp 26).1]? = some (mj_cw 26) := rfl
set_option maxRecDepth 100000 in
theorem mj_cw_27 : lw_tbl[(mj_mp 27).1]? = some (mj_cw 27) := rfl
set_option maxRecDepth 100000 in
theorem mj_cw_28 : lw_tbl[(mj_mp 28).1]? = some (mj_cw 28) := rfl
set_option maxRecDepth 100000 in
theorem mj_cw_29 : lw_tbl[(mj_mp 29).1]? = some (mj_cw 29) := rfl
set_option maxRecDepth 100000 in
theorem mj_cw_30 : lw_tbl[(mj_mp 30).1]? = some (mj_cw 30) := rfl
set_option maxRecDepth 100000 in
theorem mj_cw_31 : lw_tbl[(mj_mp 31).1]? = some (mj_cw 31) := rfl
set_option maxRecDepth 100000 in
theorem mj_cw_32 : lw_tbl[(mj_mp 32).1]? = some (mj_cw 32) := rfl
set_option maxRecDepth 100000 in
theorem mj_cw_33 : lw_tbl[(mj_mp 33).1]? = some (mj_cw 33) := rfl
set_option maxRecDepth 100000 in
theorem mj_cw_34 : lw_tbl[(mj_mp 34).1]? = some (mj_cw 34) := rfl
set_option maxRecDepth 100000 in
theorem mj_cw_35 : lw_tbl[(mj_mp 35).1]? = some (mj_cw 35) := rfl
set_option maxRecDepth 100000 in
theorem mj_cw_36 : lw_tbl[(mj_mp 36).1]? = some (mj_cw 36) := rfl
set_option maxRecDepth 100000 in
theorem mj_cw_37 : lw_tbl[(mj_mp 37).1]? = some (mj_cw 37) := rfl
set_option maxRecDepth 100000 in
theorem mj_cw_38 : lw_tbl[(mj_mp 38).1]? = some (mj_cw 38) := rfl
set_option maxRecDepth 100000 in
theorem mj_cw_39 : lw_tbl[(mj_mp 39).1]? = some (mj_cw 39) := rfl
set_option maxRecDepth 100000 in
theorem mj_cw_40 : lw_tbl[(mj_mp 40).1]? = some (mj_cw 40) := rfl
set_option maxRecDepth 100000 in
theorem mj_cw_41 : lw_tbl[(mj_mp 41).1]? = some (mj_cw 41) := rfl
set_option maxRecDepth 100000 in
theorem mj_cw_42 : lw_tbl[(mj_mp 42).1]? = some (mj_cw 42) := rfl
set_option maxRecDepth 100000 in
theorem mj_cw_43 : lw_tbl[(mj_mp 43).1]? = some (mj_cw 43) := rfl
set_option maxRecDepth 100000 in
theorem mj_cw_44 : lw_tbl[(mj_mp 44).1]? = some (mj_cw 44) := rfl
set_option maxRecDepth 100000 in
theorem mj_cw_45 : lw_tbl[(mj_mp 45).1]? = some (mj_cw 45) := rfl
set_option maxRecDepth 100000 in
theorem mj_cw_46 : lw_tbl[(mj_mp 46).1]? = some (mj_cw 46) := rfl
set_option maxRecDepth 100000 in
theorem mj_cw_47 : lw_tbl[(mj_mp 47).1]? = some (mj_cw 47) := rfl
set_option maxRecDepth 100000 in
theorem mj_cw_48 : lw_tbl[(mj_mp 48).1]? = some (mj_cw 48) := rfl
set_option maxRecDepth 100000 in
theorem mj_cw_49 : lw_tbl[(mj_mp 49).1]? = some (mj_cw 49) := rfl
set_option maxRecDepth 100000 in
theorem mj_cw_50 : lw_tbl[(mj_mp 50).1]? = some (mj_cw 50) := rfl
set_option maxRecDepth 100000 in
theorem mj_cw_51 : lw_tbl[(mj_mp 51).1]? = some (mj_cw 51) := rfl
set_option maxRecDepth 100000 in
theorem mj_cw_52 : lw_tbl[(mj_mp 52).1]? = some (mj_cw 52) := rfl
set_option maxRecDepth 100000 in
theorem mj_cw_53 : lw_tbl[(mj_mp 53).1]? = some (mj_cw 53) := rfl
set_option maxRecDepth 100000 in
theorem mj_cw_54 : lw_tbl[(mj_mp 54).1]? = some (mj_cw 54) := rfl
set_option maxRecDepth 100000 in
theorem mj_cw_55 : lw_tbl[(mj_mp 55).1]? = some (mj_cw 55) := rfl
set_option maxRecDepth 100000 in
theorem mj_cw_56 : lw_tbl[(mj_mp 56).1]? = some (mj_cw 56) := rfl
set_option maxRecDepth 100000 in
theorem mj_cw_57 : lw_tbl[(mj_mp 57).1]? = some (mj_cw 57) := rfl
set_option maxRecDepth 100000 in
theorem mj_cw_58 : lw_tbl[(mj_mp 58).1]? = some (mj_cw 58) := rfl
set_option maxRecDepth 100000 in
theorem mj_cw_59 : lw_tbl[(mj_mp 59).1]? = some (mj_cw 59) := rfl
set_option maxRecDepth 100000 in
theorem mj_cw_60 : lw_tbl[(mj_mp 60).1]? = some (mj_cw 60) := rfl
set_option maxRecDepth 100000 in
theorem mj_cw_61 : lw_tbl[(mj_mp 61).1]? = some (mj_cw 61) := rfl
set_option maxRecDepth 100000 in
theorem mj_cw_62 : lw_tbl[(mj_mp 62).1]? = some (mj_cw 62) := rfl
set_option maxRecDepth 100000 in
theorem mj_cw_63 : lw_tbl[(mj_mp 63).1]? = some (mj_cw 63) := rfl
set_option maxRecDepth 100000 in
theorem mj_cw_64 : lw_tbl[(mj_mp 64).1]? = some (mj_cw 64) := rfl
set_option maxRecDepth 100000 in
theorem mj_cw_65 : lw_tbl[(mj_mp 65).1]? = some (mj_cw 65) := rfl
set_option maxRecDepth 100000 in
theorem mj_cw_66 : lw_tbl[(mj_mp 66).1]? = some (mj_cw 66) := rfl
set_option maxRecDepth 100000 in
theorem mj_cw_67 : lw_tbl[(mj_mp 67).1]? = some (mj_cw 67) := rfl
set_option maxRecDepth 100000 in
theorem mj_cw_68 : lw_tbl[(mj_mp 68).1]? = some (mj_cw 68) := rfl
set_option maxRecDepth 100000 in
theorem mj_cw_69 : lw_tbl[(mj_mp 69).1]? = some (mj_cw 69) := rfl
set_option maxRecDepth 100000 in
theorem mj_cw_70 : lw_tbl[(mj_mp 70).1]? = some (mj_cw 70) := rfl
set_option maxRecDepth 100000 in
theorem mj_cw_71 : lw_tbl[(mj_mp 71).1]? = some (mj_cw 71) := rfl
set_option maxRecDepth 100000 in
theorem mj_cw_72 : lw_tbl[(mj_mp 72).1]? = some (mj_cw 72) := rfl
set_option maxRecDepth 100000 in
theorem mj_cw_73 : lw_tbl[(mj_mp 73).1]? = some (mj_cw 73) := rfl
set_option maxRecDepth 100000 in
theorem mj_cw_74 : lw_tbl[(mj_mp 74).1]? = some (mj_cw 74) := rfl
set_option maxRecDepth 100000 in
theorem mj_cw_75 : lw_tbl[(mj_mp 75).1]? = some (mj_cw 75) := rfl
set_option maxRecDepth 100000 in
theorem mj_cw_76 : lw_tbl[(mj_mp 76).1]? = some (mj_cw 76) := rfl
set_option maxRecDepth 100000 in
theorem mj_cw_77 : lw_tbl[(mj_mp 77).1]? = some (mj_cw 77) := rfl
set_option maxRecDepth 100000 in
theorem mj_cw_78 : lw_tbl[(mj_mp 78).1]? = some (mj_cw 78) := rfl
set_option maxRecDepth 100000 in
theorem mj_cw_79 : lw_tbl[(mj_mp 79).1]? = some (mj_cw 79) := rfl
set_option maxRecDepth 100000 in
theorem mj_cw_80 : lw_tbl[(mj_mp 80).1]? = some (mj_cw 80) := rfl
set_option maxRecDepth 100000 in
theorem mj_cw_81 : lw_tbl[(mj_mp 81).1]? = some (mj_cw 81) := rfl
set_option maxRecDepth 100000 in
theorem mj_cw_82 : lw_tbl[(mj_mp 82).1]? = some (mj_cw 82) := rfl
set_option maxRecDepth 100000 in
theorem mj_cw_83 : lw_tbl[(mj_mp 83).1]? = some (mj_cw 83) := rfl
set_option maxRecDepth 100000 in
theorem mj_cw_84 : lw_tbl[(mj_mp 84).1]? = some (mj_cw 84) := rfl
set_option maxRecDepth 100000 in
theorem mj_cw_85 : lw_tbl[(mj_mp 85).1]? = some (mj_cw 85) := rfl
set_option maxRecDepth 100000 in
theorem mj_cw_86 : lw_tbl[(mj_mp 86).1]? = some (mj_cw 86) := rfl
set_option maxRecDepth 100000 in
theorem mj_cw_87 : lw_tbl[(mj_mp 87).1]? = some (mj_cw 87) := rfl
set_option maxRecDepth 100000 in
theorem mj_cw_88 : lw_tbl[(mj_mp 88).1]? = some (mj_cw 88) := rfl
set_option maxRecDepth 100000 in
theorem mj_cw_89 : lw_tbl[(mj_mp 89).1]? = some (mj_cw 89) := rfl
set_option maxRecDepth 100000 in
theorem mj_cw_90 : lw_tbl[(mj_mp 90).1]? = some (mj_cw 90) := rfl
set_option maxRecDepth 100000 in
theorem mj_cw_91 : lw_tbl[(mj_mp 91).1]? = some (mj_cw 91) := rfl
set_option maxRecDepth 100000 in
theorem mj_cw_92 : lw_tbl[(mj_mp 92).1]? = some (mj_cw 92) := rfl
set_option maxRecDepth 100000 in
theorem mj_cw_93 : lw_tbl[(mj_mp 93).1]? = some (mj_cw 93) := rfl
set_option maxRecDepth 100000 in
theorem mj_cw_94 : lw_tbl[(mj_mp 94).1]? = some (mj_cw 94) := rfl
set_option maxRecDepth 100000 in
theorem mj_cw_95 : lw_tbl[(mj_mp 95).1]? = some (mj_cw 95) := rfl
set_option maxRecDepth 100000 in
theorem mj_cw_96 : lw_tbl[(mj_mp 96).1]? = some (mj_cw 96) := rfl
set_option maxRecDepth 100000 in
theorem mj_cw_97 : lw_tbl[(mj_mp 97).1]? = some (mj_cw 97) := rfl
set_option maxRecDepth 100000 in
theorem mj_cw_98 : lw_tbl[(mj_mp 98).1]? = some (mj_cw 98) := rfl
set_option maxRecDepth 100000 in
theorem mj_cw_99 : lw_tbl[(mj_mp 99).1]? = some (mj_cw 99) := rfl
set_option maxRecDepth 100000 in
theorem mj_cw_100 : lw_tbl[(mj_mp 100).1]? = some (mj_cw 100) := rfl
set_option maxRecDepth 100000 in
theorem mj_cw_101 : lw_tbl[(mj_mp 101).1]? = some (mj_cw 101) := rfl
set_option maxRecDepth 100000 in
theorem mj_cw_102 : lw_tbl[(mj_mp 102).1]? = some (mj_cw 102) := rfl
set_option maxRecDepth 100000 in
theorem mj_cw_103 : lw_tbl[(mj_mp 103).1]? = some (mj_cw 103) := rfl
set_option maxRecDepth 100000 in
theorem mj_cw_104 : lw_tbl[(mj_mp 104).1]? = some (mj_cw 104) := rfl
set_option maxRecDepth 100000 in
theorem mj_cw_105 : lw_tbl[(mj_mp 105).1]? = some (mj_cw 105) := rfl
set_option maxRecDepth 100000 in
theorem mj_cw_106 : lw_tbl[(mj_mp 106).1]? = some (mj_cw 106) := rfl
set_option maxRecDepth 100000 in
theorem mj_cw_107 : lw_tbl[(mj_mp 107).1]? = some (mj_cw 107) := rfl
set_option maxRecDepth 100000 in
theorem mj_cw_108 : lw_tbl[(mj_mp 108).1]? = some (mj_cw 108) := rfl
set_option maxRecDepth 100000 in
theorem mj_cw_109 : lw_tbl[(mj_mp 109).1]? = some (mj_cw 109) := rfl
set_option maxRecDepth 100000 in
theorem mj_cw_110 : lw_tbl[(mj_mp 110).1]? = some (mj_cw 110) := rfl
set_option maxRecDepth 100000 in
theorem mj_cw_111 : lw_tbl[(mj_mp 111).1]? = some (mj_cw 111) := rfl
set_option maxRecDepth 100000 in
theorem mj_cw_112 : lw_tbl[(mj_mp 112).1]? = some (mj_cw 112) := rfl
set_option maxRecDepth 100000 in
theorem mj_cw_113 : lw_tbl[(mj_mp 113).1]? = some (mj_cw 113) := rfl
set_option maxRecDepth 100000 in
theorem mj_cw_114 : lw_tbl[(mj_mp 114).1]? = some (mj_cw 114) := rfl
set_option maxRecDepth 100000 in
theorem mj_cw_115 : lw_tbl[(mj_mp 115).1]? = some (mj_cw 115) := rfl
set_option maxRecDepth 100000 in
theorem mj_cw_116 : lw_tbl[(mj_mp 116).1]? = some (mj_cw 116) := rfl
set_option maxRecDepth 100000 in
theorem mj_cw_117 : lw_tbl[(mj_mp 117).1]? = some (mj_cw 117) := rfl
set_option maxRecDepth 100000 in
theorem mj_cw_118 : lw_tbl[(mj_mp 118).1]? = some (mj_cw 118) := rfl
set_option maxRecDepth 100000 in
theorem mj_cw_119 : lw_tbl[(mj_mp 119).1]? = some (mj_cw 119) := rfl
set_option maxRecDepth 100000 in
theorem mj_cw_120 : lw_tbl[(mj_mp 120).1]? = some (mj_cw 120) := rfl
set_option maxRecDepth 100000 in
theorem mj_cw_121 : lw_tbl[(mj_mp 121).1]? = some (mj_cw 121) := rfl
set_option maxRecDepth 100000 in
theorem mj_cw_122 : lw_tbl[(mj_mp 122).1]? = some (mj_cw 122) := rfl
set_option maxRecDepth 100000 in
theorem mj_cw_123 : lw_tbl[(mj_mp 123).1]? = some (mj_cw 123) := rfl
set_option maxRecDepth 100000 in
theorem mj_cw_124 : lw_tbl[(mj_mp 124).1]? = some (mj_cw 124) := rfl
set_option maxRecDepth 100000 in
theorem mj_cw_125 : lw_tbl[(mj_mp 125).1]? = some (mj_cw 125) := rfl
set_option maxRecDepth 100000 in
theorem mj_cw_126 : lw_tbl[(mj_mp 126).1]? = some (mj_cw 126) := rfl
set_option maxRecDepth 100000 in
theorem mj_cw_127 : lw_tbl[(mj_mp 127).1]? = some (mj_cw 127) := rfl
set_option maxRecDepth 100000 in
theorem mj_cw_128 : lw_tbl[(mj_mp 128).1]? = some (mj_cw 128) := rfl
set_option maxRecDepth 100000 in
theorem mj_cw_129 : lw_tbl[(mj_mp 129).1]? = some (mj_cw 129) := rfl
set_option maxRecDepth 100000 in
theorem mj_cw_130 : lw_tbl[(mj_mp 130).1]? = some (mj_cw 130) := rfl
set_option maxRecDepth 100000 in
theorem mj_cw_131 : lw_tbl[(mj_mp 131).1]? = some (mj_cw 131) := rfl
set_option maxRecDepth 100000 in
theorem mj_cw_132 : lw_tbl[(mj_mp 132).1]? = some (mj_cw 132) := rfl
set_option maxRecDepth 100000 in
theorem mj_cw_133 : lw_tbl[(mj_mp 133).1]? = some (mj_cw 133) := rfl
set_option maxRecDepth 100000 in
theorem mj_cw_134 : lw_tbl[(mj_mp 134).1]? = some (mj_cw 134) := rfl
set_option maxRecDepth 100000 in
theorem mj_cw_135 : lw_tbl[(mj_mp 135).1]? = some (mj_cw 135) := rfl
set_option maxRecDepth 100000 in
theorem mj_cw_136 : lw_tbl[(mj_mp 136).1]? = some (mj_cw 136) := rfl
set_option maxRecDepth 100000 in
theorem mj_cw_137 : lw_tbl[(mj_mp 137).1]? = some (mj_cw 137) := rfl
set_option maxRecDepth 100000 in
theorem mj_cw_138 : lw_tbl[(mj_mp 138).1]? = some (mj_cw 138) := rfl
set_option maxRecDepth 100000 in
theorem mj_cw_139 : lw_tbl[(mj_mp 139).1]? = some (mj_cw 139) := rfl
set_option maxRecDepth 100000 in
theorem mj_cw_140 : lw_tbl[(mj_mp 140).1]? = some (mj_cw 140) := rfl
set_option maxRecDepth 100000 in
theorem mj_cw_141 : lw_tbl[(mj_mp 141).1]? = some (mj_cw 141) := rfl
set_option maxRecDepth 100000 in
theorem mj_cw_142 : lw_tbl[(mj_mp 142).1]? = some (mj_cw 142) := rfl
set_option maxRecDepth 100000 in
theorem mj_cw_143 : lw_tbl[(mj_mp 143).1]? = some (mj_cw 143) := rfl
set_option maxRecDepth 100000 in
theorem mj_cw_144 : lw_tbl[(mj_mp 144).1]? = some (mj_cw 144) := rfl
set_option maxRecDepth 100000 in
theorem mj_cw_145 : lw_tbl[(mj_mp 145).1]? = some (mj_cw 145) := rfl
set_option maxRecDepth 100000 in
theorem mj_cw_146 : lw_tbl[(mj_mp 146).1]? = some (mj_cw 146) := rfl
set_option maxRecDepth 100000 in
theorem mj_cw_147 : lw_tbl[(mj_mp 147).1]? = some (mj_cw 147) := rfl
set_option maxRecDepth 100000 in
theorem mj_cw_148 : lw_tbl[(mj_mp 148).1]? = some (mj_cw 148) := rfl
set_option maxRecDepth 100000 in
theorem mj_cw_149 : lw_tbl[(mj_mp 149).1]? = some (mj_cw 149) := rfl
set_option maxRecDepth 100000 in
theorem mj_cw_150 : lw_tbl[(mj_mp 150).1]? = some (mj_cw 150) := rfl
set_option maxRecDepth 100000 in
theorem mj_cw_151 : lw_tbl[(mj_mp 151).1]? = some (mj_cw 151) := rfl
set_option maxRecDepth 100000 in
theorem mj_cw_152 : lw_tbl[(mj_mp 152).1]? = some (mj_cw 152) := rfl
set_option maxRecDepth 100000 in
theorem mj_cw_153 : lw_tbl[(mj_mp 153).1]? = some (mj_cw 153) := rfl
set_option maxRecDepth 100000 in
theorem mj_cw_154 : lw_tbl[(mj_mp 154).1]? = some (mj_cw 154) := rfl
set_option maxRecDepth 100000 in
theorem mj_cw_155 : lw_tbl[(mj_mp 155).1]? = some (mj_cw 155) := rfl
set_option maxRecDepth 100000 in
theorem mj_cw_156 : lw_tbl[(mj_mp 156).1]? = some (mj_cw 156) := rfl
set_option maxRecDepth 100000 in
theorem mj_cw_157 : lw_tbl[(mj_mp 157).1]? = some (mj_cw 157) := rfl
set_option maxRecDepth 100000 in
theorem mj_cw_158 : lw_tbl[(mj_mp 158).1]? = some (mj_cw 158) := rfl
set_option maxRecDepth 100000 in
theorem mj_cw_159 : lw_tbl[(mj_mp 159).1]? = some (mj_cw 159) := rfl
set_option maxRecDepth 100000 in
theorem mj_cw_160 : lw_tbl[(mj_mp 160).1]? = some (mj_cw 160) := rfl
set_option maxRecDepth 100000 in
theorem mj_cw_161 : lw_tbl[(mj_mp 161).1]? = some (mj_cw 161) := rfl
set_option maxRecDepth 100000 in
theorem mj_cw_162 : lw_tbl[(mj_mp 162).1]? = some (mj_cw 162) := rfl
set_option maxRecDepth 100000 in
theorem mj_cw_163 : lw_tbl[(mj_mp 163).1]? = some (mj_cw 163) := rfl
set_option maxRecDepth 100000 in
theorem mj_cw_164 : lw_tbl[(mj_mp 164).1]? = some (mj_cw 164) := rfl
set_option maxRecDepth 100000 in
theorem mj_cw_165 : lw_tbl[(mj_mp 165).1]? = some (mj_cw 165) := rfl
set_option maxRecDepth 100000 in
theorem mj_cw_166 : lw_tbl[(mj_mp 166).1]? = some (mj_cw 166) := rfl
set_option maxRecDepth 100000 in
theorem mj_cw_167 : lw_tbl[(mj_mp 167).1]? = some (mj_cw 167) := rfl
set_option maxRecDepth 100000 in
theorem mj_cw_168 : lw_tbl[(mj_mp 168).1]? = some (mj_cw 168) := rfl
set_option maxRecDepth 100000 in
theorem mj_cw_169 : lw_tbl[(mj_mp 169).1]? = some (mj_cw 169) := rfl
set_option maxRecDepth 100000 in
theorem mj_cw_170 : lw_tbl[(mj_mp 170).1]? = some (mj_cw 170) := rfl
set_option maxRecDepth 100000 in
theorem mj_cw_171 : lw_tbl[(mj_mp 171).1]? = some (mj_cw 171) := rfl
set_option maxRecDepth 100000 in
theorem mj_cw_172 : lw_tbl[(mj_mp 172).1]? = some (mj_cw 172) := rfl
set_option maxRecDepth 100000 in
theorem mj_cw_173 : lw_tbl[(mj_mp 173).1]? = some (mj_cw 173) := rfl
set_option maxRecDepth 100000 in
theorem mj_cw_174 : lw_tbl[(mj_mp 174).1]? = some (mj_cw 174) := rfl
set_option maxRecDepth 100000 in
theorem mj_cw_175 : lw_tbl[(mj_mp 175).1]? = some (mj_cw 175) := rfl
set_option maxRecDepth 100000 in
theorem mj_cw_176 : lw_tbl[(mj_mp 176).1]? = some (mj_cw 176) := rfl
set_option maxRecDepth 100000 in
theorem mj_cw_177 : lw_tbl[(mj_mp 177).1]? = some (mj_cw 177) := rfl
set_option maxRecDepth 100000 in
theorem mj_cw_178 : lw_tbl[(mj_mp 178).1]? = some (mj_cw 178) := rfl
set_option maxRecDepth 100000 in
theorem mj_cw_179 : lw_tbl[(mj_mp 179).1]? = some (mj_cw 179) := rfl
set_option maxRecDepth 100000 in
theorem mj_cw_180 : lw_tbl[(mj_mp 180).1]? = some (mj_cw 180) := rfl
set_option maxRecDepth 100000 in
theorem mj_cw_181 : lw_tbl[(mj_mp 181).1]? = some (mj_cw 181) := rfl
set_option maxRecDepth 100000 in
theorem mj_cw_182 : lw_tbl[(mj_mp 182).1]? = some (mj_cw 182) := rfl
set_option maxRecDepth 100000 in
theorem mj_cw_183 : lw_tbl[(mj_mp 183).1]? = some (mj_cw 183) := rfl
set_option maxRecDepth 100000 in
theorem mj_cw_184 : lw_tbl[(mj_mp 184).1]? = some (mj_cw 184) := rfl
set_option maxRecDepth 100000 in
theorem mj_cw_185 : lw_tbl[(mj_mp 185).1]? = some (mj_cw 185) := rfl
set_option maxRecDepth 100000 in
theorem mj_cw_186 : lw_tbl[(mj_mp 186).1]? = some (mj_cw 186) := rfl
set_option maxRecDepth 100000 in
theorem mj_cw_187 : lw_tbl[(mj_mp 187).1]? = some (mj_cw 187) := rfl
set_option maxRecDepth 100000 in
theorem mj_cw_188 : lw_tbl[(mj_mp 188).1]? = some (mj_cw 188) := rfl
set_option maxRecDepth 100000 in
theorem mj_cw_189 : lw_tbl[(mj_mp 189).1]? = some (mj_cw 189) := rfl
set_option maxRecDepth 100000 in
theorem mj_cw_190 : lw_tbl[(mj_mp 190).1]? = some (mj_cw 190) := rfl
set_option maxRecDepth 100000 in
theorem mj_cw_191 : lw_tbl[(mj_mp 191).1]? = some (mj_cw 191) := rfl
set_option maxRecDepth 100000 in
theorem mj_cw_192 : lw_tbl[(mj_mp 192).1]? = some (mj_cw 192) := rfl
set_option maxRecDepth 100000 in
theorem mj_cw_193 : lw_tbl[(mj_mp 193).1]? = some (mj_cw 193) := rfl
set_option maxRecDepth 100000 in
theorem mj_cw_194 : lw_tbl[(mj_mp 194).1]? = some (mj_cw 194) := rfl
set_option maxRecDepth 100000 in
theorem mj_cw_195 : lw_tbl[(mj_mp 195).1]? = some (mj_cw 195) := rfl
set_option maxRecDepth 100000 in
theorem mj_cw_196 : lw_tbl[(mj_mp 196).1]? = some (mj_cw 196) := rfl
set_option maxRecDepth 100000 in
theorem mj_cw_197 : lw_tbl[(mj_mp 197).1]? = some (mj_cw 197) := rfl
set_option maxRecDepth 100000 in
theorem mj_cw_198 : lw_tbl[(mj_mp 198).1]? = some (mj_cw 198) := rfl
set_option maxRecDepth 100000 in
theorem mj_cw_199 : lw_tbl[(mj_mp 199).1]? = some (mj_cw 199) := rfl
set_option maxRecDepth 100000 in
theorem mj_cw_200 : lw_tbl[(mj_mp 200).1]? = some (mj_cw 200) := rfl
set_option maxRecDepth 100000 in
theorem mj_cw_201 : lw_tbl[(mj_mp 201).1]? = some (mj_cw 201) := rfl
set_option maxRecDepth 100000 in
theorem mj_cw_202 : lw_tbl[(mj_mp 202).1]? = some (mj_cw 202) := rfl
set_option maxRecDepth 100000 in
theorem mj_cw_203 : lw_tbl[(mj_mp 203).1]? = some (mj_cw 203) := rfl
set_option maxRecDepth 100000 in
theorem mj_cw_204 : lw_tbl[(mj_mp 204).1]? = some (mj_cw 204) := rfl
set_option maxRecDepth 100000 in
theorem mj_cw_205 : lw_tbl[(mj_mp 205).1]? = some (mj_cw 205) := rfl
set_option maxRecDepth 100000 in
theorem mj_cw_206 : lw_tbl[(mj_mp 206).1]? = some (mj_cw 206) := rfl
set_option maxRecDepth 100000 in
theorem mj_cw_207 : lw_tbl[(mj_mp 207).1]? = some (mj_cw 207) := rfl
set_option maxRecDepth 100000 in
theorem mj_cw_208 : lw_tbl[(mj_mp 208).1]? = some (mj_cw 208) := rfl
set_option maxRecDepth 100000 in
theorem mj_cw_209 : lw_tbl[(mj_mp 209).1]? = some (mj_cw 209) := rfl
set_option maxRecDepth 100000 in
theorem mj_cw_210 : lw_tbl[(mj_mp 210).1]? = some (mj_cw 210) := rfl
set_option maxRecDepth 100000 in
theorem mj_cw_211 : lw_tbl[(mj_mp 211).1]? = some (mj_cw 211) := rfl
set_option maxRecDepth 100000 in
theorem mj_cw_212 : lw_tbl[(mj_mp 212).1]? = some (mj_cw 212) := rfl
set_option maxRecDepth 100000 in
theorem mj_cw_213 : lw_tbl[(mj_mp 213).1]? = some (mj_cw 213) := rfl
set_option maxRecDepth 100000 in
theorem mj_cw_214 : lw_tbl[(mj_mp 214).1]? = some (mj_cw 214) := rfl
set_option maxRecDepth 100000 in
theorem mj_cw_215 : lw_tbl[(mj_mp 215).1]? = some (mj_cw 215) := rfl
set_option maxRecDepth 100000 in
theorem mj_cw_216 : lw_tbl[(mj_mp 216).1]? = some (mj_cw 216) := rfl
set_option maxRecDepth 100000 in
theorem mj_cw_217 : lw_tbl[(mj_mp 217).1]? = some (mj_cw 217) := rfl
set_option maxRecDepth 100000 in
theorem mj_cw_218 : lw_tbl[(mj_mp 218).1]? = some (mj_cw 218) := rfl
set_option maxRecDepth 100000 in
theorem mj_cw_219 : lw_tbl[(mj_mp 219).1]? = some (mj_cw 219) := rfl
set_option maxRecDepth 100000 in
theorem mj_cw_220 : lw_tbl[(mj_mp 220).1]? = some (mj_cw 220) := rfl
set_option maxRecDepth 100000 in
theorem mj_cw_221 : lw_tbl[(mj_mp 221).1]? = some (mj_cw 221) := rfl
set_option maxRecDepth 100000 in
theorem mj_cw_222 : lw_tbl[(mj_mp 222).1]? = some (mj_cw 222) := rfl
set_option maxRecDepth 100000 in
theorem mj_cw_223 : lw_tbl[(mj_mp 223).1]? = some (mj_cw 223) := rfl
set_option maxRecDepth 100000 in
theorem mj_cw_224 : lw_tbl[(mj_mp 224).1]? = some (mj_cw 224) := rfl
set_option maxRecDepth 100000 in
theorem mj_cw_225 : lw_tbl[(mj_mp 225).1]? = some (mj_cw 225) := rfl
set_option maxRecDepth 100000 in
theorem mj_cw_226 : lw_tbl[(mj_mp 226).1]? = some (mj_cw 226) := rfl
set_option maxRecDepth 100000 in
theorem mj_cw_227 : lw_tbl[(mj_mp 227).1]? = some (mj_cw 227) := rfl
set_option maxRecDepth 100000 in
theorem mj_cw_228 : lw_tbl[(mj_mp 228).1]? = some (mj_cw 228) := rfl
set_option maxRecDepth 100000 in
theorem mj_cw_229 : lw_tbl[(mj_mp 229).1]? = some (mj_cw 229) := rfl
set_option maxRecDepth 100000 in
theorem mj_cw_230 : lw_tbl[(mj_mp 230).1]? = some (mj_cw 230) := rfl
set_option maxRecDepth 100000 in
theorem mj_cw_231 : lw_tbl[(mj_mp 231).1]? = some (mj_cw 231) := rfl
set_option maxRecDepth 100000 in
theorem mj_cw_232 : lw_tbl[(mj_mp 232).1]? = some (mj_cw 232) := rfl
set_option maxRecDepth 100000 in
theorem mj_cw_233 : lw_tbl[(mj_mp 233).1]? = some (mj_cw 233) := rfl
set_option maxRecDepth 100000 in
theorem mj_cw_234 : lw_tbl[(mj_mp 234).1]? = some (mj_cw 234) := rfl
set_option maxRecDepth 100000 in
theorem mj_cw_235 : lw_tbl[(mj_mp 235).1]? = some (mj_cw 235) := rfl
set_option maxRecDepth 100000 in
theorem mj_cw_236 : lw_tbl[(mj_mp 236).1]? = some (mj_cw 236) := rfl
set_option maxRecDepth 100000 in
theorem mj_cw_237 : lw_tbl[(mj_mp 237).1]? = some (mj_cw 237) := rfl
set_option maxRecDepth 100000 in
theorem mj_cw_238 : lw_tbl[(mj_mp 238).1]? = some (mj_cw 238) := rfl
set_option maxRecDepth 100000 in
theorem mj_cw_239 : lw_tbl[(mj_mp 239).1]? = some (mj_cw 239) := rfl
set_option maxRecDepth 100000 in
theorem mj_cw_240 : lw_tbl[(mj_mp 240).1]? = some (mj_cw 240) := rfl
set_option maxRecDepth 100000 in
theorem mj_cw_241 : lw_tbl[(mj_mp 241).1]? = some (mj_cw 241) := rfl
set_option maxRecDepth 100000 in
theorem mj_cw_242 : lw_tbl[(mj_mp 242).1]? = some (mj_cw 242) := rfl
set_option maxRecDepth 100000 in
theorem mj_cw_243 : lw_tbl[(mj_mp 243).1]? = some (mj_cw 243) := rfl
set_option maxRecDepth 100000 in
theorem mj_cw_244 : lw_tbl[(mj_mp 244).1]? = some (mj_cw 244) := rfl
set_option maxRecDepth 100000 in
theorem mj_cw_245 : lw_tbl[(mj_mp 245).1]? = some (mj_cw 245) := rfl
set_option maxRecDepth 100000 in
theorem mj_cw_246 : lw_tbl[(mj_mp 246).1]? = some (mj_cw 246) := rfl
set_option maxRecDepth 100000 in
theorem mj_cw_247 : lw_tbl[(mj_mp 247).1]? = some (mj_cw 247) := rfl
set_option maxRecDepth 100000 in
theorem mj_cw_248 : lw_tbl[(mj_mp 248).1]? = some (mj_cw 248) := rfl
set_option maxRecDepth 100000 in
theorem mj_cw_249 : lw_tbl[(mj_mp 249).1]? = some (mj_cw 249) := rfl
set_option maxRecDepth 100000 in
theorem mj_cw_250 : lw_tbl[(mj_mp 250).1]? = some (mj_cw 250) := rfl
set_option maxRecDepth 100000 in
theorem mj_cw_251 : lw_tbl[(mj_mp 251).1]? = some (mj_cw 251) := rfl
set_option maxRecDepth 100000 in
theorem mj_cw_252 : lw_tbl[(mj_mp 252).1]? = some (mj_cw 252) := rfl
set_option maxRecDepth 100000 in
theorem mj_cw_253 : lw_tbl[(mj_mp 253).1]? = some (mj_cw 253) := rfl
set_option maxRecDepth 100000 in
theorem mj_cw_254 : lw_tbl[(mj_mp 254).1]? = some (mj_cw 254) := rfl
set_option maxRecDepth 100000 in
theorem mj_cw_255 : lw_tbl[(mj_mp 255).1]? = some (mj_cw 255) := rfl
set_option maxRecDepth 100000 in
theorem mj_cw_256 : lw_tbl[(mj_mp 256).1]? = some (mj_cw 256) := rfl
set_option maxRecDepth 100000 in
theorem mj_cw_257 : lw_tbl[(mj_mp 257).1]? = some (mj_cw 257) := rfl
set_option maxRecDepth 100000 in
theorem mj_cw_258 : lw_tbl[(mj_mp 258).1]? = some (mj_cw 258) := rfl
set_option maxRecDepth 100000 in
theorem mj_cw_259 : lw_tbl[(mj_mp 259).1]? = some (mj_cw 259) := rfl
set_option maxRecDepth 100000 in
theorem mj_cw_260 : lw_tbl[(mj_mp 260).1]? = some (mj_cw 260) := rfl
set_option maxRecDepth 100000 in
theorem mj_cw_261 : lw_tbl[(mj_mp 261).1]? = some (mj_cw 261) := rfl
set_option maxRecDepth 100000 in
theorem mj_cw_262 : lw_tbl[(mj_mp 262).1]? = some (mj_cw 262) := rfl
set_option maxRecDepth 100000 in
theorem mj_cw_263 : lw_tbl[(mj_mp 263).1]? = some (mj_cw 263) := rfl
set_option maxRecDepth 100000 in
theorem mj_cw_264 : lw_tbl[(mj_mp 264).1]? = some (mj_cw 264) := rfl
set_option maxRecDepth 100000 in
theorem mj_cw_265 : lw_tbl[(mj_mp 265).1]? = some (mj_cw 265) := rfl
set_option maxRecDepth 100000 in
theorem mj_cw_266 : lw_tbl[(mj_mp 266).1]? = some (mj_cw 266) := rfl
set_option maxRecDepth 100000 in
theorem mj_cw_267 : lw_tbl[(mj_mp 267).1]? = some (mj_cw 267) := rfl
set_option maxRecDepth 100000 in
theorem mj_cw_268 : lw_tbl[(mj_mp 268).1]? = some (mj_cw 268) := rfl
set_option maxRecDepth 100000 in
theorem mj_cw_269 : lw_tbl[(mj_mp 269).1]? = some (mj_cw 269) := rfl
set_option maxRecDepth 100000 in
theorem mj_cw_270 : lw_tbl[(mj_mp 270).1]? = some (mj_cw 270) := rfl
set_option maxRecDepth 100000 in
theorem mj_cw_271 : lw_tbl[(mj_mp 271).1]? = some (mj_cw 271) := rfl
set_option maxRecDepth 100000 in
theorem mj_cw_272 : lw_tbl[(mj_mp 272).1]? = some (mj_cw 272) := rfl
set_option maxRecDepth 100000 in
theorem mj_cw_273 : lw_tbl[(mj_mp 273).1]? = some (mj_cw 273) := rfl
set_option maxRecDepth 100000 in
theorem mj_cw_274 : lw_tbl[(mj_mp 274).1]? = some (mj_cw 274) := rfl
set_option maxRecDepth 100000 in
theorem mj_cw_275 : lw_tbl[(mj_mp 275).1]? = some (mj_cw 275) := rfl
set_option maxRecDepth 100000 in
theorem mj_cw_276 : lw_tbl[(mj_mp 276).1]? = some (mj_cw 276) := rfl
set_option maxRecDepth 100000 in
theorem mj_cw_277 : lw_tbl[(mj_mp 277).1]? = some (mj_cw 277) := rfl
set_option maxRecDepth 100000 in
theorem mj_cw_278 : lw_tbl[(mj_mp 278).1]? = some (mj_cw 278) := rfl
set_option maxRecDepth 100000 in
theorem mj_cw_279 : lw_tbl[(mj_mp 279).1]? = some (mj_cw 279) := rfl
set_option maxRecDepth 100000 in
theorem mj_cw_280 : lw_tbl[(mj_mp 280).1]? = some (mj_cw 280) := rfl
set_option maxRecDepth 100000 in
theorem mj_cw_281 : lw_tbl[(mj_mp 281).1]? = some (mj_cw 281) := rfl
set_option maxRecDepth 100000 in
theorem mj_cw_282 : lw_tbl[(mj_mp 282).1]? = some (mj_cw 282) := rfl
set_option maxRecDepth 100000 in
theorem mj_cw_283 : lw_tbl[(mj_mp 283).1]? = some (mj_cw 283) := rfl
set_option maxRecDepth 100000 in
theorem mj_cw_284 : lw_tbl[(mj_mp 284).1]? = some (mj_cw 284) := rfl
set_option maxRecDepth 100000 in
theorem mj_cw_285 : lw_tbl[(mj_mp 285).1]? = some (mj_cw 285) := rfl
set_option maxRecDepth 100000 in
theorem mj_cw_286 : lw_tbl[(mj_mp 286).1]? = some (mj_cw 286) := rfl
set_option maxRecDepth 100000 in
theorem mj_cw_287 : lw_tbl[(mj_mp 287).1]? = some (mj_cw 287) := rfl
set_option maxRecDepth 100000 in
theorem mj_cw_288 : lw_tbl[(mj_mp 288).1]? = some (mj_cw 288) := rfl
set_option maxRecDepth 100000 in
theorem mj_cw_289 : lw_tbl[(mj_mp 289).1]? = some (mj_cw 289) := rfl
set_option maxRecDepth 100000 in
theorem mj_cw_290 : lw_tbl[(mj_mp 290).1]? = some (mj_cw 290) := rfl
set_option maxRecDepth 100000 in
theorem mj_cw_291 : lw_tbl[(mj_mp 291).1]? = some (mj_cw 291) := rfl
set_option maxRecDepth 100000 in
theorem mj_cw_292 : lw_tbl[(mj_mp 292).1]? = some (mj_cw 292) := rfl
set_option maxRecDepth 100000 in
theorem mj_cw_293 : lw_tbl[(mj_mp 293).1]? = some (mj_cw 293) := rfl
set_option maxRecDepth 100000 in
theorem mj_cw_294 : lw_tbl[(mj_mp 294).1]? = some (mj_cw 294) := rfl
set_option maxRecDepth 100000 in
theorem mj_cw_295 : lw_tbl[(mj_mp 295).1]? = some (mj_cw 295) := rfl
set_option maxRecDepth 100000 in
theorem mj_cw_296 : lw_tbl[(mj_mp 296).1]? = some (mj_cw 296) := rfl
set_option maxRecDepth 100000 in
theorem mj_cw_297 : lw_tbl[(mj_mp 297).1]? = some (mj_cw 297) := rfl
set_option maxRecDepth 100000 in
theorem mj_cw_298 : lw_tbl[(mj_mp 298).1]? = some (mj_cw 298) := rfl
set_option maxRecDepth 100000 in
theorem mj_cw_299 : lw_tbl[(mj_mp 299).1]? = some (mj_cw 299) := rfl
set_option maxRecDepth 100000 in
theorem mj_cw_300 : lw_tbl[(mj_mp 300).1]? = some (mj_cw 300) := rfl
set_option maxRecDepth 100000 in
theorem mj_cw_301 : lw_tbl[(mj_mp 301).1]? = some (mj_cw 301) := rfl
set_option maxRecDepth 100000 in
theorem mj_cw_302 : lw_tbl[(mj_mp 302).1]? = some (mj_cw 302) := rfl
set_option maxRecDepth 100000 in
theorem mj_cw_303 : lw_tbl[(mj_mp 303).1]? = some (mj_cw 303) := rfl
set_option maxRecDepth 100000 in
theorem mj_cw_304 : lw_tbl[(mj_mp 304).1]? = some (mj_cw 304) := rfl
set_option maxRecDepth 100000 in
theorem mj_cw_305 : lw_tbl[(mj_mp 305).1]? = some (mj_cw 305) := rfl
set_option maxRecDepth 100000 in
theorem mj_cw_306 : lw_tbl[(mj_mp 306).1]? = some (mj_cw 306) := rfl
set_option maxRecDepth 100000 in
theorem mj_cw_307 : lw_tbl[(mj_mp 307).1]? = some (mj_cw 307) := rfl
set_option maxRecDepth 100000 in
theorem mj_cw_308 : lw_tbl[(mj_mp 308).1]? = some (mj_cw 308) := rfl
set_option maxRecDepth 100000 in
theorem mj_cw_309 : lw_tbl[(mj_mp 309).1]? = some (mj_cw 309) := rfl
set_option maxRecDepth 100000 in
theorem mj_cw_310 : lw_tbl[(mj_mp 310).1]? = some (mj_cw 310) := rfl
set_option maxRecDepth 100000 in
theorem mj_cw_311 : lw_tbl[(mj_mp 311).1]? = some (mj_cw 311) := rfl
set_option maxRecDepth 100000 in
theorem mj_cw_312 : lw_tbl[(mj_mp 312).1]? = some (mj_cw 312) := rfl
set_option maxRecDepth 100000 in
theorem mj_cw_313 : lw_tbl[(mj_mp 313).1]? = some (mj_cw 313) := rfl
theorem mj_cwc_0 (cy : Nat) (h1 : 0 ≤ cy) (h2 : cy < 10) : lw_tbl[(mj_mp cy).1]? = some (mj_cw cy) := by
  have h : cy = 0 ∨ cy = 1 ∨ cy = 2 ∨ cy = 3 ∨ cy = 4 ∨ cy = 5 ∨ cy = 6 ∨ cy = 7 ∨ cy = 8 ∨ cy = 9 := by omega
  rcases h with rfl | rfl | rfl | rfl | rfl | rfl | rfl | rfl | rfl | rfl
  · exact mj_cw_0
  · exact mj_cw_1
  · exact mj_cw_2
  · exact mj_cw_3
  · exact mj_cw_4
  · exact mj_cw_5
  · exact mj_cw_6
  · exact mj_cw_7
  · exact mj_cw_8
  · exact mj_cw_9
theorem mj_cwc_10 (cy : Nat) (h1 : 10 ≤ cy) (h2 : cy < 20) : lw_tbl[(mj_mp cy).1]? = some (mj_cw cy) := by
  have h : cy = 10 ∨ cy = 11 ∨ cy = 12 ∨ cy = 13 ∨ cy = 14 ∨ cy = 15 ∨ cy = 16 ∨ cy = 17 ∨ cy = 18 ∨ cy = 19 := by omega
  rcases h with rfl | rfl | rfl | rfl | rfl | rfl | rfl | rfl | rfl | rfl
  · exact mj_cw_10
  · exact mj_cw_11
  · exact mj_cw_12
  · exact mj_cw_13
  · exact mj_cw_14
  · exact mj_cw_15
  · exact mj_cw_16
  · exact mj_cw_17
  · exact mj_cw_18
  · exact mj_cw_19
theorem mj_cwc_20 (cy : Nat) (h1 : 20 ≤ cy) (h2 : cy < 30) : lw_tbl[(mj_mp cy).1]? = some (mj_cw cy) := by
  have h : cy = 20 ∨ cy = 21 ∨ cy = 22 ∨ cy = 23 ∨ cy = 24 ∨ cy = 25 ∨ cy = 26 ∨ cy = 27 ∨ cy = 28 ∨ cy = 29 := by omega
  rcases h with rfl | rfl | rfl | rfl | rfl | rfl | rfl | rfl | rfl | rfl
  · exact mj_cw_20
  · exact mj_cw_21
  · exact mj_cw_22
  · exact mj_cw_23
  · exact mj_cw_24
  · exact mj_cw_25
  · exact mj_cw_26
  · exact mj_cw_27
  · exact mj_cw_28
  · exact mj_cw_29
theorem mj_cwc_30 (cy : Nat) (h1 : 30 ≤ cy) (h2 : cy < 40) : lw_tbl[(mj_mp cy).1]? = some (mj_cw cy) := by
  have h : cy = 30 ∨ cy = 31 ∨ cy = 32 ∨ cy = 33 ∨ cy = 34 ∨ cy = 35 ∨ cy = 36 ∨ cy = 37 ∨ cy = 38 ∨ cy = 39 := by omega
  rcases h with rfl | rfl | rfl | rfl | rfl | rfl | rfl | rfl | rfl | rfl
  · exact mj_cw_30
  · exact mj_cw_31
  · exact mj_cw_32
  · exact mj_cw_33
  · exact mj_cw_34
  · exact mj_cw_35
  · exact mj_cw_36
  · exact mj_cw_37
  · exact mj_cw_38
  · exact mj_cw_39
theorem mj_cwc_40 (cy : Nat) (h1 : 40 ≤ cy) (h2 : cy < 50) : lw_tbl[(mj_mp cy).1]? = some (mj_cw cy) := by
  have h : cy = 40 ∨ cy = 41 ∨ cy = 42 ∨ cy = 43 ∨ cy = 44 ∨ cy = 45 ∨ cy = 46 ∨ cy = 47 ∨ cy = 48 ∨ cy = 49 := by omega
  rcases h with rfl | rfl | rfl | rfl | rfl | rfl | rfl | rfl | rfl | rfl
  · exact mj_cw_40
  · exact mj_cw_41
  · exact mj_cw_42
  · exact mj_cw_43
  · exact mj_cw_44
  · exact mj_cw_45
  · exact mj_cw_46
  · exact mj_cw_47
  · exact mj_cw_48
  · exact mj_cw_49
theorem mj_cwc_50 (cy : Nat) (h1 : 50 ≤ cy) (h2 : cy < 60) : lw_tbl[(mj_mp cy).1]? = some (mj_cw cy) := by
  have h : cy = 50 ∨ cy = 51 ∨ cy = 52 ∨ cy = 53 ∨ cy = 54 ∨ cy = 55 ∨ cy = 56 ∨ cy = 57 ∨ cy = 58 ∨ cy = 59 := by omega
  rcases h with rfl | rfl | rfl | rfl | rfl | rfl | rfl | rfl | rfl | rfl
  · exact mj_cw_50
  · exact mj_cw_51
  · exact mj_cw_52
  · exact mj_cw_53
  · exact mj_cw_54
  · exact mj_cw_55
  · exact mj_cw_56
  · exact mj_cw_57
  · exact mj_cw_58
  · exact mj_cw_59
theorem mj_cwc_60 (cy : Nat) (h1 : 60 ≤ cy) (h2 : cy < 70) : lw_tbl[(mj_mp cy).1]? = some (mj_cw cy) := by
  have h : cy = 60 ∨ cy = 61 ∨ cy = 62 ∨ cy = 63 ∨ cy = 64 ∨ cy = 65 ∨ cy = 66 ∨ cy = 67 ∨ cy = 68 ∨ cy = 69 := by omega
  rcases h with rfl | rfl | rfl | rfl | rfl | rfl | rfl | rfl | rfl | rfl
  · exact mj_cw_60
  · exact mj_cw_61
  · exact mj_cw_62
  · exact mj_cw_63
  · exact mj_cw_64
  · exact mj_cw_65
  · exact mj_cw_66
  · exact mj_cw_67
  · exact mj_cw_68
  · exact mj_cw_69
theorem mj_cwc_70 (cy : Nat) (h1 : 70 ≤ cy) (h2 : cy < 80) : lw_tbl[(mj_mp cy).1]? = some (mj_cw cy) := by
  have h : cy = 70 ∨ cy = 71 ∨ cy = 72 ∨ cy = 73 ∨ cy = 74 ∨ cy = 75 ∨ cy = 76 ∨ cy = 77 ∨ cy = 78 ∨ cy = 79 := by omega
  rcases h with rfl | rfl | rfl | rfl | rfl | rfl | rfl | rfl | rfl | rfl
  · exact mj_cw_70
  · exact mj_cw_71
  · exact mj_cw_72
  · exact mj_cw_73
  · exact mj_cw_74
  · exact mj_cw_75
  · exact mj_cw_76
  · exact mj_cw_77
  · exact mj_cw_78
  · exact mj_cw_79
theorem mj_cwc_80 (cy : Nat) (h1 : 80 ≤ cy) (h2 : cy < 90) : lw_tbl[(mj_mp cy).1]? = some (mj_cw cy) := by
  have h : cy = 80 ∨ cy = 81 ∨ cy = 82 ∨ cy = 83 ∨ cy = 84 ∨ cy = 85 ∨ cy = 86 ∨ cy = 87 ∨ cy = 88 ∨ cy = 89 := by omega
  rcases h with rfl | rfl | rfl | rfl | rfl | rfl | rfl | rfl | rfl | rfl
  · exact mj_cw_80
  · exact mj_cw_81
  · exact mj_cw_82
  · exact mj_cw_83
  · exact mj_cw_84
  · exact mj_cw_85
  · exact mj_cw_86
  · exact mj_cw_87
  · exact mj_cw_88
  · exact mj_cw_89
theorem mj_cwc_90 (cy : Nat) (h1 : 90 ≤ cy) (h2 : cy < 100) : lw_tbl[(mj_mp cy).1]? = some (mj_cw cy) := by
  have h : cy = 90 ∨ cy = 91 ∨ cy = 92 ∨ cy = 93 ∨ cy = 94 ∨ cy = 95 ∨ cy = 96 ∨ cy = 97 ∨ cy = 98 ∨ cy = 99 := by omega
  rcases h with rfl | rfl | rfl | rfl | rfl | rfl | rfl | rfl | rfl | rfl
  · exact mj_cw_90
  · exact mj_cw_91
  · exact mj_cw_92
  · exact mj_cw_93
  · exact mj_cw_94
  · exact mj_cw_95
  · exact mj_cw_96
  · exact mj_cw_97
  · exact mj_cw_98
  · exact mj_cw_99
theorem mj_cwc_100 (cy : Nat) (h1 : 100 ≤ cy) (h2 : cy < 110) : lw_tbl[(mj_mp cy).1]? = some (mj_cw cy) := by
  have h : cy = 100 ∨ cy = 101 ∨ cy = 102 ∨ cy = 103 ∨ cy = 104 ∨ cy = 105 ∨ cy = 106 ∨ cy = 107 ∨ cy = 108 ∨ cy = 109 := by omega
  rcases h with rfl | rfl | rfl | rfl | rfl | rfl | rfl | rfl | rfl | rfl
  · exact mj_cw_100
  · exact mj_cw_101
  · exact mj_cw_102
  · exact mj_cw_103
  · exact mj_cw_104
  · exact mj_cw_105
  · exact mj_cw_106
  · exact mj_cw_107
  · exact mj_cw_108
  · exact mj_cw_109
theorem mj_cwc_110 (cy : Nat) (h1 : 110 ≤ cy) (h2 : cy < 120) : lw_tbl[(mj_mp cy).1]? = some (mj_cw cy) := by
  have h : cy = 110 ∨ cy = 111 ∨ cy = 112 ∨ cy = 113 ∨ cy = 114 ∨ cy = 115 ∨ cy = 116 ∨ cy = 117 ∨ cy = 118 ∨ cy = 119 := by omega
  rcases h with rfl | rfl | rfl | rfl | rfl | rfl | rfl | rfl | rfl | rfl
  · exact mj_cw_110
  · exact mj_cw_111
  · exact mj_cw_112
  · exact mj_cw_113
  · exact mj_cw_114
  · exact mj_cw_115
  · exact mj_cw_116
  · exact mj_cw_117
  · exact mj_cw_118
  · exact mj_cw_119
theorem mj_cwc_120 (cy : Nat) (h1 : 120 ≤ cy) (h2 : cy < 130) : lw_tbl[(mj_mp cy).1]? = some (mj_cw cy) := by
  have h : cy = 120 ∨ cy = 121 ∨ cy = 122 ∨ cy = 123 ∨ cy = 124 ∨ cy = 125 ∨ cy = 126 ∨ cy = 127 ∨ cy = 128 ∨ cy = 129 := by omega
  rcases h with rfl | rfl | rfl | rfl | rfl | rfl | rfl | rfl | rfl | rfl
  · exact mj_cw_120
  · exact mj_cw_121
  · exact mj_cw_122
  · exact mj_cw_123
  · exact mj_cw_124
  · exact mj_cw_125
  · exact mj_cw_126
  · exact mj_cw_127
  · exact mj_cw_128
  · exact mj_cw_129
theorem mj_cwc_130 (cy : Nat) (h1 : 130 ≤ cy) (h2 : cy < 140) : lw_tbl[(mj_mp cy).1]? = some (mj_cw cy) := by
  have h : cy = 130 ∨ cy = 131 ∨ cy = 132 ∨ cy = 133 ∨ cy = 134 ∨ cy = 135 ∨ cy = 136 ∨ cy = 137 ∨ cy = 138 ∨ cy = 139 := by omega
  rcases h with rfl | rfl | rfl | rfl | rfl | rfl | rfl | rfl | rfl | rfl
  · exact mj_cw_130
  · exact mj_cw_131
  · exact mj_cw_132
  · exact mj_cw_133
  · exact mj_cw_134
  · exact mj_cw_135
  · exact mj_cw_136
  · exact mj_cw_137
  · exact mj_cw_138
  · exact mj_cw_139
theorem mj_cwc_140 (cy : Nat) (h1 : 140 ≤ cy) (h2 : cy < 150) : lw_tbl[(mj_mp cy).1]? = some (mj_cw cy) := by
  have h : cy = 140 ∨ cy = 141 ∨ cy = 142 ∨ cy = 143 ∨ cy = 144 ∨ cy = 145 ∨ cy = 146 ∨ cy = 147 ∨ cy = 148 ∨ cy = 149 := by omega
  rcases h with rfl | rfl | rfl | rfl | rfl | rfl | rfl | rfl | rfl | rfl
  · exact mj_cw_140
  · exact mj_cw_141
  · exact mj_cw_142
  · exact mj_cw_143
  · exact mj_cw_144
  · exact mj_cw_145
  · exact mj_cw_146
  · exact mj_cw_147
  · exact mj_cw_148
  · exact mj_cw_149
theorem mj_cwc_150 (cy : Nat) (h1 : 150 ≤ cy) (h2 : cy < 160) : lw_tbl[(mj_mp cy).1]? = some (mj_cw cy) := by
  have h : cy = 150 ∨ cy = 151 ∨ cy = 152 ∨ cy = 153 ∨ cy = 154 ∨ cy = 155 ∨ cy = 156 ∨ cy = 157 ∨ cy = 158 ∨ cy = 159 := by omega
  rcases h with rfl | rfl | rfl | rfl | rfl | rfl | rfl | rfl | rfl | rfl
  · exact mj_cw_150
  · exact mj_cw_151
  · exact mj_cw_152
  · exact mj_cw_153
  · exact mj_cw_154
  · exact mj_cw_155
  · exact mj_cw_156
  · exact mj_cw_157
  · exact mj_cw_158
  · exact mj_cw_159
theorem mj_cwc_160 (cy : Nat) (h1 : 160 ≤ cy) (h2 : cy < 170) : lw_tbl[(mj_mp cy).1]? = some (mj_cw cy) := by
  have h : cy = 160 ∨ cy = 161 ∨ cy = 162 ∨ cy = 163 ∨ cy = 164 ∨ cy = 165 ∨ cy = 166 ∨ cy = 167 ∨ cy = 168 ∨ cy = 169 := by omega
  rcases h with rfl | rfl | rfl | rfl | rfl | rfl | rfl | rfl | rfl | rfl
  · exact mj_cw_160
  · exact mj_cw_161
  · exact mj_cw_162
  · exact mj_cw_163
  · exact mj_cw_164
  · exact mj_cw_165
  · exact mj_cw_166
  · exact mj_cw_167
  · exact mj_cw_168
  · exact mj_cw_169
theorem mj_cwc_170 (cy : Nat) (h1 : 170 ≤ cy) (h2 : cy < 180) : lw_tbl[(mj_mp cy).1]? = some (mj_cw cy) := by
  have h : cy = 170 ∨ cy = 171 ∨ cy = 172 ∨ cy = 173 ∨ cy = 174 ∨ cy = 175 ∨ cy = 176 ∨ cy = 177 ∨ cy = 178 ∨ cy = 179 := by omega
  rcases h with rfl | rfl | rfl | rfl | rfl | rfl | rfl | rfl | rfl | rfl
  · exact mj_cw_170
  · exact mj_cw_171
  · exact mj_cw_172
  · exact mj_cw_173
  · exact mj_cw_174
  · exact mj_cw_175
  · exact mj_cw_176
  · exact mj_cw_177
  · exact mj_cw_178
  · exact mj_cw_179
theorem mj_cwc_180 (cy : Nat) (h1 : 180 ≤ cy) (h2 : cy < 190) : lw_tbl[(mj_mp cy).1]? = some (mj_cw cy) := by
  have h : cy = 180 ∨ cy = 181 ∨ cy = 182 ∨ cy = 183 ∨ cy = 184 ∨ cy = 185 ∨ cy = 186 ∨ cy = 187 ∨ cy = 188 ∨ cy = 189 := by omega
  rcases h with rfl | rfl | rfl | rfl | rfl | rfl | rfl | rfl | rfl | rfl
  · exact mj_cw_180
  · exact mj_cw_181
  · exact mj_cw_182
  · exact mj_cw_183
  · exact mj_cw_184
  · exact mj_cw_185
  · exact mj_cw_186
  · exact mj_cw_187
  · exact mj_cw_188
  · exact mj_cw_189
theorem mj_cwc_190 (cy : Nat) (h1 : 190 ≤ cy) (h2 : cy < 200) : lw_tbl[(mj_mp cy).1]? = some (mj_cw cy) := by
  have h : cy = 190 ∨ cy = 191 ∨ cy = 192 ∨ cy = 193 ∨ cy = 194 ∨ cy = 195 ∨ cy = 196 ∨ cy = 197 ∨ cy = 198 ∨ cy = 199 := by omega
  rcases h with rfl | rfl | rfl | rfl | rfl | rfl | rfl | rfl | rfl | rfl
  · exact mj_cw_190
  · exact mj_cw_191
  · exact mj_cw_192
  · exact mj_cw_193
  · exact mj_cw_194
  · exact mj_cw_195
  · exact mj_cw_196
  · exact mj_cw_197
  · exact mj_cw_198
  · exact mj_cw_199
theorem mj_cwc_200 (cy : Nat) (h1 : 200 ≤ cy) (h2 : cy < 210) : lw_tbl[(mj_mp cy).1]? = some (mj_cw cy) := by
  have h : cy = 200 ∨ cy = 201 ∨ cy = 202 ∨ cy = 203 ∨ cy = 204 ∨ cy = 205 ∨ cy = 206 ∨ cy = 207 ∨ cy = 208 ∨ cy = 209 := by omega
  rcases h with rfl | rfl | rfl | rfl | rfl | rfl | rfl | rfl | rfl | rfl
  · exact mj_cw_200
  · exact mj_cw_201
  · exact mj_cw_202
  · exact mj_cw_203
  · exact mj_cw_204
  · exact mj_cw_205
  · exact mj_cw_206
  · exact mj_cw_207
  · exact mj_cw_208
  · exact mj_cw_209
theorem mj_cwc_210 (cy : Nat) (h1 : 210 ≤ cy) (h2 : cy < 220) : lw_tbl[(mj_mp cy).1]? = some (mj_cw cy) := by
  have h : cy = 210 ∨ cy = 211 ∨ cy = 212 ∨ cy = 213 ∨ cy = 214 ∨ cy = 215 ∨ cy = 216 ∨ cy = 217 ∨ cy = 218 ∨ cy = 219 := by omega
  rcases h with rfl | rfl | rfl | rfl | rfl | rfl | rfl | rfl | rfl | rfl
  · exact mj_cw_210
  · exact mj_cw_211
  · exact mj_cw_212
  · exact mj_cw_213
  · exact mj_cw_214
  · exact mj_cw_215
  · exact mj_cw_216
  · exact mj_cw_217
  · exact mj_cw_218
  · exact mj_cw_219
theorem mj_cwc_220 (cy : Nat) (h1 : 220 ≤ cy) (h2 : cy < 230) : lw_tbl[(mj_mp cy).1]? = some (mj_cw cy) := by
  have h : cy = 220 ∨ cy = 221 ∨ cy = 222 ∨ cy = 223 ∨ cy = 224 ∨ cy = 225 ∨ cy = 226 ∨ cy = 227 ∨ cy = 228 ∨ cy = 229 := by omega
  rcases h with rfl | rfl | rfl | rfl | rfl | rfl | rfl | rfl | rfl | rfl
  · exact mj_cw_220
  · exact mj_cw_221
  · exact mj_cw_222
  · exact mj_cw_223
  · exact mj_cw_224
  · exact mj_cw_225
  · exact mj_cw_226
  · exact mj_cw_227
  · exact mj_cw_228
  · exact mj_cw_229
theorem mj_cwc_230 (cy : Nat) (h1 : 230 ≤ cy) (h2 : cy < 240) : lw_tbl[(mj_mp cy).1]? = some (mj_cw cy) := by
  have h : cy = 230 ∨ cy = 231 ∨ cy = 232 ∨ cy = 233 ∨ cy = 234 ∨ cy = 235 ∨ cy = 236 ∨ cy = 237 ∨ cy = 238 ∨ cy = 239 := by omega
  rcases h with rfl | rfl | rfl | rfl | rfl | rfl | rfl | rfl | rfl | rfl
  · exact mj_cw_230
  · exact mj_cw_231
  · exact mj_cw_232
  · exact mj_cw_233
  · exact mj_cw_234
  · exact mj_cw_235
  · exact mj_cw_236
  · exact mj_cw_237
  · exact mj_cw_238
  · exact mj_cw_239
theorem mj_cwc_240 (cy : Nat) (h1 : 240 ≤ cy) (h2 : cy < 250) : lw_tbl[(mj_mp cy).1]? = some (mj_cw cy) := by
  have h : cy = 240 ∨ cy = 241 ∨ cy = 242 ∨ cy = 243 ∨ cy = 244 ∨ cy = 245 ∨ cy = 246 ∨ cy = 247 ∨ cy = 248 ∨ cy = 249 := by omega
  rcases h with rfl | rfl | rfl | rfl | rfl | rfl | rfl | rfl | rfl | rfl
  · exact mj_cw_240
  · exact mj_cw_241
  · exact mj_cw_242
  · exact mj_cw_243
  · exact mj_cw_244
  · exact mj_cw_245
  · exact mj_cw_246
  · exact mj_cw_247
  · exact mj_cw_248
  · exact mj_cw_249
theorem mj_cwc_250 (cy : Nat) (h1 : 250 ≤ cy) (h2 : cy < 260) : lw_tbl[(mj_mp cy).1]? = some (mj_cw cy) := by
  have h : cy = 250 ∨ cy = 251 ∨ cy = 252 ∨ cy = 253 ∨ cy = 254 ∨ cy = 255 ∨ cy = 256 ∨ cy = 257 ∨ cy = 258 ∨ cy = 259 := by omega
  rcases h with rfl | rfl | rfl | rfl | rfl | rfl | rfl | rfl | rfl | rfl
  · exact mj_cw_250
  · exact mj_cw_251
  · exact mj_cw_252
  · exact mj_cw_253
  · exact mj_cw_254
  · exact mj_cw_255
  · exact mj_cw_256
  · exact mj_cw_257
  · exact mj_cw_258
  · exact mj_cw_259
theorem mj_cwc_260 (cy : Nat) (h1 : 260 ≤ cy) (h2 : cy < 270) : lw_tbl[(mj_mp cy).1]? = some (mj_cw cy) := by
  have h : cy = 260 ∨ cy = 261 ∨ cy = 262 ∨ cy = 263 ∨ cy = 264 ∨ cy = 265 ∨ cy = 266 ∨ cy = 267 ∨ cy = 268 ∨ cy = 269 := by omega
  rcases h with rfl | rfl | rfl | rfl | rfl | rfl | rfl | rfl | rfl | rfl
  · exact mj_cw_260
  · exact mj_cw_261
  · exact mj_cw_262
  · exact mj_cw_263
  · exact mj_cw_264
  · exact mj_cw_265
  · exact mj_cw_266
  · exact mj_cw_267
  · exact mj_cw_268
  · exact mj_cw_269
theorem mj_cwc_270 (cy : Nat) (h1 : 270 ≤ cy) (h2 : cy < 280) : lw_tbl[(mj_mp cy).1]? = some (mj_cw cy) := by
  have h : cy = 270 ∨ cy = 271 ∨ cy = 272 ∨ cy = 273 ∨ cy = 274 ∨ cy = 275 ∨ cy = 276 ∨ cy = 277 ∨ cy = 278 ∨ cy = 279 := by omega
  rcases h with rfl | rfl | rfl | rfl | rfl | rfl | rfl | rfl | rfl | rfl
  · exact mj_cw_270
  · exact mj_cw_271
  · exact mj_cw_272
  · exact mj_cw_273
  · exact mj_cw_274
  · exact mj_cw_275
  · exact mj_cw_276
  · exact mj_cw_277
  · exact mj_cw_278
  · exact mj_cw_279
theorem mj_cwc_280 (cy : Nat) (h1 : 280 ≤ cy) (h2 : cy < 290) : lw_tbl[(mj_mp cy).1]? = some (mj_cw cy) := by
  have h : cy = 280 ∨ cy = 281 ∨ cy = 282 ∨ cy = 283 ∨ cy = 284 ∨ cy = 285 ∨ cy = 286 ∨ cy = 287 ∨ cy = 288 ∨ cy = 289 := by omega
  rcases h with rfl | rfl | rfl | rfl | rfl | rfl | rfl | rfl | rfl | rfl
  · exact mj_cw_280
  · exact mj_cw_281
  · exact mj_cw_282
  · exact mj_cw_283
  · exact mj_cw_284
  · exact mj_cw_285
  · exact mj_cw_286
  · exact mj_cw_287
  · exact mj_cw_288
  · exact mj_cw_289
theorem mj_cwc_290 (cy : Nat) (h1 : 290 ≤ cy) (h2 : cy < 300) : lw_tbl[(mj_mp cy).1]? = some (mj_cw cy) := by
  have h : cy = 290 ∨ cy = 291 ∨ cy = 292 ∨ cy = 293 ∨ cy = 294 ∨ cy = 295 ∨ cy = 296 ∨ cy = 297 ∨ cy = 298 ∨ cy = 299 := by omega
  rcases h with rfl | rfl | rfl | rfl | rfl | rfl | rfl | rfl | rfl | rfl
  · exact mj_cw_290
  · exact mj_cw_291
  · exact mj_cw_292
  · exact mj_cw_293
  · exact mj_cw_294
  · exact mj_cw_295
  · exact mj_cw_296
  · exact mj_cw_297
  · exact mj_cw_298
  · exact mj_cw_299
theorem mj_cwc_300 (cy : Nat) (h1 : 300 ≤ cy) (h2 : cy < 310) : lw_tbl[(mj_mp cy).1]? = some (mj_cw cy) := by
  have h : cy = 300 ∨ cy = 301 ∨ cy = 302 ∨ cy = 303 ∨ cy = 304 ∨ cy = 305 ∨ cy = 306 ∨ cy = 307 ∨ cy = 308 ∨ cy = 309 := by omega
  rcases h with rfl | rfl | rfl | rfl | rfl | rfl | rfl | rfl | rfl | rfl
  · exact mj_cw_300
  · exact mj_cw_301
  · exact mj_cw_302
  · exact mj_cw_303
  · exact mj_cw_304
  · exact mj_cw_305
  · exact mj_cw_306
  · exact mj_cw_307
  · exact mj_cw_308
  · exact mj_cw_309
theorem mj_cwc_310 (cy : Nat) (h1 : 310 ≤ cy) (h2 : cy < 314) : lw_tbl[(mj_mp cy).1]? = some (mj_cw cy) := by
  have h : cy = 310 ∨ cy = 311 ∨ cy = 312 ∨ cy = 313 := by omega
  rcases h with rfl | rfl | rfl | rfl
  · exact mj_cw_310
  · exact mj_cw_311
  · exact mj_cw_312
  · exact mj_cw_313
theorem mj_cw_at {cy : Nat} (h : cy < 314) : lw_tbl[(mj_mp cy).1]? = some (mj_cw cy) := by
  rcases Nat.lt_or_ge cy 10 with q10 | q10
  · exact mj_cwc_0 cy (by omega) q10
  rcases Nat.lt_or_ge cy 20 with q20 | q20
  · exact mj_cwc_10 cy (by omega) q20
  rcases Nat.lt_or_ge cy 30 with q30 | q30
  · exact mj_cwc_20 cy (by omega) q30
  rcases Nat.lt_or_ge cy 40 with q40 | q40
  · exact mj_cwc_30 cy (by omega) q40
  rcases Nat.lt_or_ge cy 50 with q50 | q50
  · exact mj_cwc_40 cy (by omega) q50
  rcases Nat.lt_or_ge cy 60 with q60 | q60
  · exact mj_cwc_50 cy (by omega) q60
  rcases Nat.lt_or_ge cy 70 with q70 | q70
  · exact mj_cwc_60 cy (by omega) q70
  rcases Nat.lt_or_ge cy 80 with q80 | q80
  · exact mj_cwc_70 cy (by omega) q80
  rcases Nat.lt_or_ge cy 90 with q90 | q90
  · exact mj_cwc_80 cy (by omega) q90
  rcases Nat.lt_or_ge cy 100 with q100 | q100
  · exact mj_cwc_90 cy (by omega) q100
  rcases Nat.lt_or_ge cy 110 with q110 | q110
  · exact mj_cwc_100 cy (by omega) q110
  rcases Nat.lt_or_ge cy 120 with q120 | q120
  · exact mj_cwc_110 cy (by omega) q120
  rcases Nat.lt_or_ge cy 130 with q130 | q130
  · exact mj_cwc_120 cy (by omega) q130
  rcases Nat.lt_or_ge cy 140 with q140 | q140
  · exact mj_cwc_130 cy (by omega) q140
  rcases Nat.lt_or_ge cy 150 with q150 | q150
  · exact mj_cwc_140 cy (by omega) q150
  rcases Nat.lt_or_ge cy 160 with q160 | q160
  · exact mj_cwc_150 cy (by omega) q160
  rcases Nat.lt_or_ge cy 170 with q170 | q170
  · exact mj_cwc_160 cy (by omega) q170
  rcases Nat.lt_or_ge cy 180 with q180 | q180
  · exact mj_cwc_170 cy (by omega) q180
  rcases Nat.lt_or_ge cy 190 with q190 | q190
  · exact mj_cwc_180 cy (by omega) q190
  rcases Nat.lt_or_ge cy 200 with q200 | q200
  · exact mj_cwc_190 cy (by omega) q200
  rcases Nat.lt_or_ge cy 210 with q210 | q210
  · exact mj_cwc_200 cy (by omega) q210
  rcases Nat.lt_or_ge cy 220 with q220 | q220
  · exact mj_cwc_210 cy (by omega) q220
  rcases Nat.lt_or_ge cy 230 with q230 | q230
  · exact mj_cwc_220 cy (by omega) q230
  rcases Nat.lt_or_ge cy 240 with q240 | q240
  · exact mj_cwc_230 cy (by omega) q240
  rcases Nat.lt_or_ge cy 250 with q250 | q250
  · exact mj_cwc_240 cy (by omega) q250
  rcases Nat.lt_or_ge cy 260 with q260 | q260
  · exact mj_cwc_250 cy (by omega) q260
  rcases Nat.lt_or_ge cy 270 with q270 | q270
  · exact mj_cwc_260 cy (by omega) q270
  rcases Nat.lt_or_ge cy 280 with q280 | q280
  · exact mj_cwc_270 cy (by omega) q280
  rcases Nat.lt_or_ge cy 290 with q290 | q290
  · exact mj_cwc_280 cy (by omega) q290
  rcases Nat.lt_or_ge cy 300 with q300 | q300
  · exact mj_cwc_290 cy (by omega) q300
  rcases Nat.lt_or_ge cy 310 with q310 | q310
  · exact mj_cwc_300 cy (by omega) q310
  exact mj_cwc_310 cy (by omega) h
theorem mj_cw_oi : Cond.code Lib.objectInit ⟨#[0xb1]⟩ 1 none ∈ lw_t2 := mj_t2 (q := 187) (by decide +kernel) rfl
theorem mj_cw_max : Cond.code Lib.Math.max.name Lib.Math.max.code 2 (some .int) ∈ lw_t2 := mj_t2 (q := 649) (by decide +kernel) rfl
theorem mj_cw_min : Cond.code Lib.Math.min.name Lib.Math.min.code 2 (some .int) ∈ lw_t2 := mj_t2 (q := 575) (by decide +kernel) rfl
theorem mj_cw_abs : Cond.code Lib.Math.abs.name Lib.Math.abs.code 1 (some .int) ∈ lw_t2 := mj_t2 (q := 851) (by decide +kernel) rfl
end
section
section MJ
variable {p : Program} {l : Launch} {e : Env} {R : Room} {s : State} {m : MethodId} {args : Array Value} {below : List Frame} {meth : Method} {c : Code} {Q : State → Prop} {G : mj_G} {b sz : Nat} {H : Heap} {n0 s0 y : Nat} {w w' : mj_W} {f f' : mj_F} {ls ls' st st' : List mj_V} {locs : List Loc} {lsA : Array Slot} {pc pc' : Nat}
/-- behind a cell's making: our invariant again -/
theorem mj_I_push {H1 : Heap} {L : List Nat} {t : Nat × Nat} {n : Nat} {ev : va_E} {r : List mj_V} (I : mj_I s G b sz n0 s0 y w f ls st H locs lsA) (hP : va_P G.1 mj_cl (va_pl L (mj_Cl G.2 b sz w f)) H) (hD : va_D (mj_A sz) (va_pl L (mj_Cl G.2 b sz w f))) (hL : ∀ a, mj_lv w a → sz + a - 2 ∈ L) (hz : H.size + 2 = sz + w.2.2.1) (hr : ∀ a j, mj_rg (f a j)) (ht : t.1 ≠ 104)
    (he : mj_E G.2 b sz (mj_new w t n) (mj_z f w.2.2.1) w.2.2.1 = ev) (ho : ∀ v ∈ r, mj_okv v) (h1 : H1.size = H.size + 1) (h2 : ∀ q : Nat, q < H.size → H1[q]? = H[q]?) (h3 : va_at G.1 mj_cl (H.size, ev) H1) : mj_I s G b sz n0 s0 y (mj_new w t n) (mj_z f w.2.2.1) ls r H1 locs lsA ∧ H.size = mj_ad b sz w.2.2.1 := by
  obtain ⟨⟨-, -, -, -, -, hwf, -⟩, hS, hls, -, ⟨hn, hn2⟩, hb, hX, hn0, hs0⟩ := I
  have hkept : ∀ (k : Nat) (x : Nat × va_E), (va_pl L (mj_Cl G.2 b sz w f))[k]? = some x → H1[x.1]? = H[x.1]? := fun k x hx => h2 x.1 ((hP k x hx).lt)
  have hP1 : va_P G.1 mj_cl (va_pl L (mj_Cl G.2 b sz w f) ++ [(H.size, ev)]) H1 := (hP.kept hkept).app (fun k x hx => by
    have hz : k < 1 := (List.getElem?_eq_some_iff.mp hx).1
    rw [show k = 0 by omega] at hx
    cases hx
    exact h3)
  have hD1 : va_D (mj_A sz) (va_pl L (mj_Cl G.2 b sz w f) ++ [(H.size, ev)]) := hD.push hP rfl (by show sz ≤ H.size; have := hwf.1; omega)
  obtain ⟨g1, g2⟩ := mj_P.push (f' := f) hP hD hL hz hwf hr ht rfl he h1 hP1 hD1
  have h22 := hwf.1
  have hne : (1 : Nat) ≠ w.2.2.1 := by omega
  refine ⟨⟨g1, ⟨by have := hS.1; omega, fun q hq hn => ?_, hS.2.2⟩, hls, ho, ⟨hn, hn2⟩, hb, mj_X_keep hX ?_ ?_, by show n0 ≤ w.2.2.1 + 1; omega, by show s0 ≤ w.2.2.2 + n; omega⟩, g2⟩
  · rw [h2 q (Nat.lt_of_lt_of_le hq hS.1)]
    exact hS.2.1 q hq hn
  · simp [mj_new, hne]
  · funext j
    simp [mj_z, hne]
theorem mj_s_newa {k : Nat} {ty : ArrayType} {idx : Nat} (hk : (ty, k, idx) = (.int, 100, 0) ∨ (ty, k, idx) = (.byte, 101, 1) ∨ (ty, k, idx) = (.long, 103, 3)) (C : mj_C p s m args meth c G y) (I : mj_I s G b sz n0 s0 y w f ls st H locs lsA) (hd : mj_dec y pc = some (.newarray ty)) (hs : mj_newa w f (pc + 2) ls st k = some (w', f', pc', ls', st')) (hRc : w'.2.2.1 - n0 ≤ R.cells) (hRs : w'.2.2.2 - s0 ≤ R.slots) (kk : mj_K p l e R s m args below meth c Q G b sz n0 s0 y w' f' pc' ls' st') : mj_Wg p l e R s m args below meth c Q b sz n0 s0 w H locs pc lsA st := by
  obtain ⟨hx, hb, hml, hown, hts, hini, hok⟩ := C
  have hdg : decode (mj_code y) pc = .ok (.newarray ty, 2) := mj_dec_ok hd rfl (by decide)
  obtain ⟨⟨L, hP, hD, hL, hz, hwf, hr⟩, hS, hls, ho, hrest⟩ := id I
  have hn0 := hrest.2.2.2.1
  have hs0 := hrest.2.2.2.2
  unfold mj_newa at hs
  split at hs
  · next n r =>
    split at hs
    · next hn =>
      cases hs
      have o1 := List.forall_mem_cons.mp ho
      have hnn : ¬ Int32.ofInt n < 0 := fun q => by have := (mj_lt o1.1 mj_rg0).mp q; omega
      have hcl := mj_clamp o1.1
      have hRc' : w.2.2.1 - n0 + 1 ≤ R.cells := by have : (mj_new w (k, n.toNat) n.toNat).2.2.1 = w.2.2.1 + 1 := rfl; omega
      have hRs' : w.2.2.2 - s0 + n.toNat ≤ R.slots := by have : (mj_new w (k, n.toNat) n.toNat).2.2.2 = w.2.2.2 + n.toNat := rfl; omega
      have e1 : (mj_new w (k, n.toNat) n.toNat).2.2.1 - n0 = w.2.2.1 - n0 + 1 := by show w.2.2.1 + 1 - n0 = _; omega
      have e2 : (mj_new w (k, n.toNat) n.toNat).2.2.2 - s0 = w.2.2.2 - s0 + n.toNat := by show w.2.2.2 + n.toNat - s0 = _; omega
      have hself : (mj_new w (k, n.toNat) n.toNat).1 w.2.2.1 = (k, n.toNat) := by simp [mj_new]
      have hfz : mj_z f w.2.2.1 w.2.2.1 = fun _ => 0 := by funext j; simp [mj_z]
      have hK : ∀ (i : Nat) (q : ClassId × FieldType), (mj_tys G.2)[i]? = some q → ArrOfT s q.1 q.2 ∧ va_RA s q.1 q.2 := hok.1.2
      rcases hk with hk | hk | hk <;> cases hk
      · refine va_newaK (atype := .int) (N := n.toNat) hx hb (hts _ mj_words.2.2.2.2.1) rfl hdg rfl hnn hcl (by show n.toNat * 4 ≤ 536870912; omega) hRc' hRs' rfl (fun H1 cA f1 f2 f3 f4 f5 => ?_)
        have hcA : cA = G.2 0 := Option.some.inj (f5.symm.trans (hK 0 (G.2 0, .int) rfl).2)
        subst hcA
        obtain ⟨I1, I2⟩ := mj_I_push (t := (100, n.toNat)) (n := n.toNat) (ev := .inl (G.2 0, n.toNat, .inl (fun _ => 0))) (r := .inr (.inl w.2.2.1) :: r) I hP hD hL hz hr (by show (100 : Nat) ≠ 104; decide) (by rw [mj_E_100 (by rw [hself]), hself, hfz]; rfl) (List.forall_mem_cons.mpr ⟨trivial, o1.2⟩) f2 f3 f1
        have h := kk _ _ _ I1
        unfold mj_Wg at h
        rw [e1, e2] at h
        rw [I2]
        exact h
      · refine va_newaK (atype := .byte) (N := n.toNat) hx hb (hts _ mj_words.2.2.2.2.2.1) rfl hdg rfl hnn hcl (by show n.toNat * 1 ≤ 536870912; omega) hRc' hRs' rfl (fun H1 cA f1 f2 f3 f4 f5 => ?_)
        have hcA : cA = G.2 1 := Option.some.inj (f5.symm.trans (hK 1 (G.2 1, .byte) rfl).2)
        subst hcA
        obtain ⟨I1, I2⟩ := mj_I_push (t := (101, n.toNat)) (n := n.toNat) (ev := .inl (G.2 1, n.toNat, .inl (fun _ => 0))) (r := .inr (.inl w.2.2.1) :: r) I hP hD hL hz hr (by show (101 : Nat) ≠ 104; decide) (by rw [mj_E_101 (by rw [hself]), hself, hfz]; rfl) (List.forall_mem_cons.mpr ⟨trivial, o1.2⟩) f2 f3 f1
        have h := kk _ _ _ I1
        unfold mj_Wg at h
        rw [e1, e2] at h
        rw [I2]
        exact h
      · refine va_newaK (atype := .long) (N := n.toNat) hx hb (hts _ mj_words.2.2.2.2.2.2.1) rfl hdg rfl hnn hcl (by show n.toNat * 8 ≤ 536870912; omega) hRc' hRs' rfl (fun H1 cA f1 f2 f3 f4 f5 => ?_)
        have hcA : cA = G.2 3 := Option.some.inj (f5.symm.trans (hK 3 (G.2 3, .long) rfl).2)
        subst hcA
        obtain ⟨I1, I2⟩ := mj_I_push (t := (103, n.toNat)) (n := n.toNat) (ev := .inl (G.2 3, n.toNat, .inr (.inl (fun _ => 0)))) (r := .inr (.inl w.2.2.1) :: r) I hP hD hL hz hr (by show (103 : Nat) ≠ 104; decide) (by rw [mj_E_103 (by rw [hself]), hself, hfz]; rfl) (List.forall_mem_cons.mpr ⟨trivial, o1.2⟩) f2 f3 f1
        have h := kk _ _ _ I1
        unfold mj_Wg at h
        rw [e1, e2] at h
        rw [I2]
        exact h
    · cases hs
  · cases hs
theorem mj_s_anew {idx : Nat} (C : mj_C p s m args meth c G y) (I : mj_I s G b sz n0 s0 y w f ls st H locs lsA) (hd : mj_dec y pc = some (.anewarray idx)) (hs : mj_anew y w f pc ls st idx = some (w', f', pc', ls', st')) (hRc : w'.2.2.1 - n0 ≤ R.cells) (hRs : w'.2.2.2 - s0 ≤ R.slots) (kk : mj_K p l e R s m args below meth c Q G b sz n0 s0 y w' f' pc' ls' st') : mj_Wg p l e R s m args below meth c Q b sz n0 s0 w H locs pc lsA st := by
  obtain ⟨hx, hb, hml, hown, hts, hini, hok⟩ := C
  have hdg : decode (mj_code y) pc = .ok (.anewarray idx, 3) := mj_dec_ok hd rfl (by decide)
  obtain ⟨⟨L, hP, hD, hL, hz, hwf, hr⟩, hS, hls, ho, hrest⟩ := id I
  have hn0 := hrest.2.2.2.1
  have hs0 := hrest.2.2.2.2
  unfold mj_anew at hs
  split at hs
  · next q hq =>
    have hlk := mj_cl2_ok hq
    unfold mj_cok at hlk
    simp only [Bool.and_eq_true, decide_eq_true_eq] at hlk
    unfold mj_newa at hs
    split at hs
    · next n r =>
      split at hs
      · next hn =>
        cases hs
        have o1 := List.forall_mem_cons.mp ho
        have hnn : ¬ Int32.ofInt n < 0 := fun q => by have := (mj_lt o1.1 mj_rg0).mp q; omega
        have hcl := mj_clamp o1.1
        have e1 : (mj_new w (102, n.toNat) n.toNat).2.2.1 - n0 = w.2.2.1 - n0 + 1 := by show w.2.2.1 + 1 - n0 = _; omega
        have e2 : (mj_new w (102, n.toNat) n.toNat).2.2.2 - s0 = w.2.2.2 - s0 + n.toNat := by show w.2.2.2 + n.toNat - s0 = _; omega
        have hself : (mj_new w (102, n.toNat) n.toNat).1 w.2.2.1 = (102, n.toNat) := by simp [mj_new]
        have hgz : (mj_new w (102, n.toNat) n.toNat).2.1 w.2.2.1 = fun _ => 0 := by funext j; simp [mj_new]
        have hK : ∀ (i : Nat) (q : ClassId × FieldType), (mj_tys G.2)[i]? = some q → ArrOfT s q.1 q.2 ∧ va_RA s q.1 q.2 := hok.1.2
        refine W.anew (C := mj_zn) hx hb hown (hts _ (mj_t2 hlk.1 rfl)) (va_AO.use hok.2.1) rfl hdg rfl hnn (by rw [hcl]; omega) (by omega) (by rw [hcl]; omega) (fun cA kA comp f1 f2 f3 f4 => ?_)
        have hcA : cA = G.2 2 := by
          obtain ⟨_, _, _, _, _, g⟩ := (hK 2 (G.2 2, .object mj_zn) rfl).2
          exact Option.some.inj (f1.symm.trans g)
        subst hcA
        rw [hcl]
        generalize hH1 : H.push ({ cls := G.2 2, slots := Array.replicate n.toNat .null, vm := .none } : Cell) = H1
        have z1 : H1.size = H.size + 1 := by rw [← hH1, Array.size_push]
        have g1 : H1[H.size]? = some (arrV (G.2 2) n.toNat (fun _ => .null)) := by rw [← hH1, Array.getElem?_push_size, ← arrV_new]
        have o2 : ∀ q : Nat, q < H.size → H1[q]? = H[q]? := fun q hq => by rw [← hH1, Array.getElem?_push, if_neg (Nat.ne_of_lt hq)]
        obtain ⟨I1, I2⟩ := mj_I_push (t := (102, n.toNat)) (n := n.toNat) (ev := .inl (G.2 2, n.toNat, .inr (.inr (.inr (.inr (fun _ => none)))))) (r := .inr (.inl w.2.2.1) :: r) I hP hD hL hz hr (by show (102 : Nat) ≠ 104; decide) (by rw [mj_E_102 (by rw [hself]), hself, hgz]; rfl) (List.forall_mem_cons.mpr ⟨trivial, o1.2⟩) z1 o2 (by show H1[H.size]? = some (vp_cell _ _); rw [g1]; rfl)
        have h := kk _ _ _ I1
        unfold mj_Wg at h
        rw [e1, e2] at h
        rw [I2]
        exact h
      · cases hs
    · cases hs
  · cases hs
theorem mj_s_newo {idx : Nat} (C : mj_C p s m args meth c G y) (I : mj_I s G b sz n0 s0 y w f ls st H locs lsA) (hd : mj_dec y pc = some (.new idx)) (hs : mj_newo y w f pc ls st idx = some (w', f', pc', ls', st')) (hRc : w'.2.2.1 - n0 ≤ R.cells) (hRs : w'.2.2.2 - s0 ≤ R.slots) (kk : mj_K p l e R s m args below meth c Q G b sz n0 s0 y w' f' pc' ls' st') : mj_Wg p l e R s m args below meth c Q b sz n0 s0 w H locs pc lsA st := by
  obtain ⟨hx, hb, hml, hown, hts, hini, hok⟩ := C
  have hdg : decode (mj_code y) pc = .ok (.new idx, 3) := mj_dec_ok hd rfl (by decide)
  obtain ⟨⟨L, hP, hD, hL, hz, hwf, hr⟩, hS, hls, ho, hrest⟩ := id I
  have hn0 := hrest.2.2.2.1
  have hs0 := hrest.2.2.2.2
  unfold mj_newo at hs
  split at hs
  · next ci q hq =>
    split at hs
    · next hci =>
      cases hs
      have hlk := mj_cl2_ok hq
      unfold mj_cok at hlk
      dsimp only at hlk
      cases hc : mj_cl[ci]? with
      | none => rw [hc] at hlk; cases hlk
      | some rr =>
        obtain ⟨CC, T, N⟩ := rr
        rw [hc] at hlk
        simp only [Bool.and_eq_true, decide_eq_true_eq] at hlk
        obtain ⟨hN, -⟩ := mj_cl_nf hc
        have hKn := hok.1.1 ci _ hc
        have e1 : (mj_new w (ci, 0) (mj_nf ci)).2.2.1 - n0 = w.2.2.1 - n0 + 1 := by show w.2.2.1 + 1 - n0 = _; omega
        have e2 : (mj_new w (ci, 0) (mj_nf ci)).2.2.2 - s0 = w.2.2.2 - s0 + N := by show w.2.2.2 + mj_nf ci - s0 = _; omega
        refine W.newcK (n := N) hx hb hown (hts _ (mj_t2 hlk.1.1 rfl)) (hts _ (List.mem_filter.mpr ⟨hlk.1.2, rfl⟩)) (hts _ (List.mem_filter.mpr ⟨hlk.2, rfl⟩)) rfl hdg (by omega) (by omega) hKn.2.1 rfl (fun H1 kC f1 f2 f3 f4 => ?_)
        have hself : (mj_new w (ci, 0) (mj_nf ci)).1 w.2.2.1 = (ci, 0) := by simp [mj_new]
        obtain ⟨I1, I2⟩ := mj_I_push (t := (ci, 0)) (n := mj_nf ci) (ev := mj_E G.2 b sz (mj_new w (ci, 0) (mj_nf ci)) (mj_z f w.2.2.1) w.2.2.1) (r := .inr (.inl w.2.2.1) :: st) I hP hD hL hz hr (by show ci ≠ 104; omega) rfl (List.forall_mem_cons.mpr ⟨trivial, ho⟩) f3 f4 (by
          rw [mj_E_obj hself hci]
          refine ⟨_, hc, (u_born (mj_ty ci) hts (mj_hin hc) hKn f1 f2 (mj_cl_ty hc)).to (fun j hj => ?_)⟩
          have hj2 : j < mj_nf ci := by rw [hN]; exact hj
          unfold vp_V
          rw [List.getD_eq_getElem?_getD, mj_fs_get hj2]
          rw [mj_default (mj_tk_of hci hj2) (mj_kind_le hci hj2)]
          show _ = mj_fv b sz _ _ ci w.2.2.1 j
          unfold mj_fv
          have h1 : (mj_new w (ci, 0) (mj_nf ci)).2.1 w.2.2.1 j = 0 := by simp [mj_new]
          have h2 : mj_z f w.2.2.1 w.2.2.1 j = 0 := by simp [mj_z]
          rw [h1, h2]
          rfl)
        have h := kk _ _ _ I1
        unfold mj_Wg at h
        rw [e1, e2] at h
        rw [I2]
        exact h
    · cases hs
  · cases hs
theorem mj_val_cat (v : mj_V) : (mj_val b sz v).category = mj_cat v := by
  rcases v with v | v | v | v <;> rfl
theorem mj_low_ok {r : List mj_V} (h : mj_low r = true) : ((r.map (mj_val b sz)).map fun v => v.category).sum ≤ 8 := by
  have h1 := of_decide_eq_true h
  rw [List.map_map]
  have : ((fun v : Value => v.category) ∘ mj_val b sz) = mj_cat := by funext v; exact mj_val_cat v
  rw [this]
  exact h1
theorem mj_s_spec {idx : Nat} (C : mj_C p s m args meth c G y) (I : mj_I s G b sz n0 s0 y w f ls st H locs lsA) (hd : mj_dec y pc = some (.invokespecial idx)) (hs : mj_spec y w f pc ls st idx = some (w', f', pc', ls', st')) (hRf : 1 ≤ R.frames) (hRl : 100 ≤ R.locals) (kk : mj_K p l e R s m args below meth c Q G b sz n0 s0 y w' f' pc' ls' st') : mj_Wg p l e R s m args below meth c Q b sz n0 s0 w H locs pc lsA st := by
  obtain ⟨hx, hb, hml, hown, hts, hini, hok⟩ := C
  have hdg : decode (mj_code y) pc = .ok (.invokespecial idx, 3) := mj_dec_ok hd rfl (by decide)
  unfold mj_spec at hs
  split at hs
  · next x q a r hq =>
    split at hs
    · next hlow =>
      cases hs
      have hlk := mj_cl2_ok hq
      unfold mj_cok at hlk
      have hlk := of_decide_eq_true hlk
      have o1 := List.forall_mem_cons.mp I.2.2.2.1
      have hl := mj_low_ok (b := b) (sz := sz) hlow
      obtain ⟨lv, hlv, -⟩ := I.2.2.1.2.2
      exact W.objInit hx hb hown (hts _ (mj_t2 hlk rfl)) (hts _ mj_words.1) (hts _ mj_cw_oi) rfl (by rw [hml]; exact hlv.1) rfl hdg hRf (by show 2 * 0 + _ + 12 ≤ _; omega) (kk _ _ _ (mj_I_st I o1.2))
    · cases hs
  · cases hs
theorem mj_cpy_self {a sp d dp n : Nat} : (fun j => Int32.ofInt (mj_cpy f a sp d dp n d j)) = va_cpy (fun j => Int32.ofInt (f a j)) (fun j => Int32.ofInt (f d j)) sp dp n := by
  funext j
  unfold mj_cpy va_cpy
  by_cases h : dp ≤ j ∧ j < dp + n
  · rw [if_pos h, if_pos ⟨rfl, h⟩]
  · rw [if_neg h, if_neg (fun q => h q.2)]
theorem mj_s_copy {idx : Nat} (C : mj_C p s m args meth c G y) (I : mj_I s G b sz n0 s0 y w f ls st H locs lsA) (hd : mj_dec y pc = some (.invokestatic idx)) (hs : mj_copy y w f pc ls st idx = some (w', f', pc', ls', st')) (hRc : w'.2.2.1 - n0 ≤ R.cells) (hRs : w'.2.2.2 - s0 ≤ R.slots) (hRf : 1 ≤ R.frames) (hRl : 100 ≤ R.locals) (kk : mj_K p l e R s m args below meth c Q G b sz n0 s0 y w' f' pc' ls' st') : mj_Wg p l e R s m args below meth c Q b sz n0 s0 w H locs pc lsA st := by
  obtain ⟨hx, hb, hml, hown, hts, hini, hok⟩ := C
  have hdg : decode (mj_code y) pc = .ok (.invokestatic idx, 3) := mj_dec_ok hd rfl (by decide)
  obtain ⟨⟨L, hP, hD, hL, hz, hwf, hr⟩, hS, hls, ho, hrest⟩ := id I
  obtain ⟨lv, hlv, -⟩ := hls.2.2
  have hmls : c.maxLocals = lsA.size := by rw [hml]; exact hlv.1.symm
  unfold mj_copy at hs
  split at hs
  · next x q n dp d sp a r hq =>
    split at hs
    · next hw =>
      cases hs
      have hlk := mj_cl2_ok hq
      unfold mj_cok at hlk
      have hlk := of_decide_eq_true hlk
      obtain ⟨ha, hd', h1, h2, h3, h4, h5, hlow⟩ := hw
      have o1 := List.forall_mem_cons.mp ho
      have o2 := List.forall_mem_cons.mp o1.2
      have o3 := List.forall_mem_cons.mp o2.2
      have o4 := List.forall_mem_cons.mp o3.2
      have o5 := List.forall_mem_cons.mp o4.2
      have hl := mj_low_ok (b := b) (sz := sz) hlow
      have hlva : mj_lv w a := by unfold mj_lv; omega
      have hlvd : mj_lv w d := by unfold mj_lv; omega
      obtain ⟨-, -, -, -, qa, hqa⟩ := mj_P_at (G := G) (b := b) (f := f) hL hwf hlva
      obtain ⟨-, -, -, -, qd, hqd⟩ := mj_P_at (G := G) (b := b) (f := f) hL hwf hlvd
      have hq1 := hqd
      rw [mj_E_100 ha] at hqa
      rw [mj_E_100 hd'] at hq1
      have hneg : ∀ {x : Int}, mj_rg x → 0 ≤ x → ¬ Int32.ofInt x < 0 := fun hr h q => by have := (mj_lt hr mj_rg0).mp q; omega
      refine va_copyi hx hb hmls hown (hts _ (mj_t2 hlk rfl)) (hts _ mj_words.2.1) (hts _ mj_words.2.2.1) (hts _ mj_words.2.2.2.1) hok.1 hP hD (mj_S_here hS) qa qd 0 0 hqa hq1 rfl rfl rfl (hneg o4.1 h2) (hneg o2.1 h3) (hneg o1.1 h1) (by rw [mj_clamp o4.1, mj_clamp o1.1]; omega) (by rw [mj_clamp o2.1, mj_clamp o1.1]; omega) (fun i _ => rfl) hRf (by
        have : nativeFrameWords "java/lang/System" "arraycopy" 5 + 11 ≤ 80 := by decide +kernel
        omega) hdg (fun H1 locs1 hP1 hD1 hS1 => mj_Wsize fun hup => ?_)
      refine kk _ _ _ (mj_I_write I hD hL hlvd hz hqd ?_ rfl (fun _ _ => rfl) (fun x hx => by funext j; simp [mj_cpy, hx]) rfl (fun x j => by unfold mj_cpy; split <;> exact hr _ _) o5.2 hup hP1 hD1 hS1)
      rw [mj_E_100 hd', mj_cpy_self, mj_clamp o4.1, mj_clamp o2.1, mj_clamp o1.1]
    · cases hs
  · next x q z a r hq =>
    split at hs
    · next hlow =>
      cases hs
      have hlk := mj_cl2_ok hq
      unfold mj_cok at hlk
      have hlk := of_decide_eq_true hlk
      have o1 := List.forall_mem_cons.mp ho
      have o2 := List.forall_mem_cons.mp o1.2
      have hl := mj_low_ok (b := b) (sz := sz) hlow
      have h := kk _ _ _ (mj_I_st I (List.forall_mem_cons.mpr ⟨(by show mj_rg _; split; exact o1.1; exact o2.1), o2.2⟩))
      refine va_mmax hx hb hmls hown (hts _ (mj_t2 hlk rfl)) (hts _ mj_words.2.2.2.2.2.2.2.1) (hts _ mj_words.2.2.2.2.2.2.2.2.2.2) (hts _ mj_cw_max) hRf (by omega) hRc hRs hdg ?_
      have he : (if Int32.ofInt a < Int32.ofInt z then Int32.ofInt z else Int32.ofInt a) = Int32.ofInt (if a < z then z else a) := by
        by_cases hc : a < z
        · rw [if_pos hc, if_pos ((mj_lt o2.1 o1.1).mpr hc)]
        · rw [if_neg hc, if_neg (fun q => hc ((mj_lt o2.1 o1.1).mp q))]
      rw [he]
      exact h
    · cases hs
  · next x q z a r hq =>
    split at hs
    · next hlow =>
      cases hs
      have hlk := mj_cl2_ok hq
      unfold mj_cok at hlk
      have hlk := of_decide_eq_true hlk
      have o1 := List.forall_mem_cons.mp ho
      have o2 := List.forall_mem_cons.mp o1.2
      have hl := mj_low_ok (b := b) (sz := sz) hlow
      have h := kk _ _ _ (mj_I_st I (List.forall_mem_cons.mpr ⟨(by show mj_rg _; split; exact o1.1; exact o2.1), o2.2⟩))
      refine va_mmin hx hb hmls hown (hts _ (mj_t2 hlk rfl)) (hts _ mj_words.2.2.2.2.2.2.2.2.1) (hts _ mj_words.2.2.2.2.2.2.2.2.2.2) (hts _ mj_cw_min) hRf (by omega) hRc hRs hdg ?_
      have he : (if Int32.ofInt z < Int32.ofInt a then Int32.ofInt z else Int32.ofInt a) = Int32.ofInt (if z < a then z else a) := by
        by_cases hc : z < a
        · rw [if_pos hc, if_pos ((mj_lt o1.1 o2.1).mpr hc)]
        · rw [if_neg hc, if_neg (fun q => hc ((mj_lt o1.1 o2.1).mp q))]
      rw [he]
      exact h
    · cases hs
  · next x q a r hq =>
    split at hs
    · next hlow =>
      cases hs
      have hlk := mj_cl2_ok hq
      unfold mj_cok at hlk
      have hlk := of_decide_eq_true hlk
      have o1 := List.forall_mem_cons.mp ho
      have hl := mj_low_ok (b := b) (sz := sz) hlow
      have h := kk _ _ _ (mj_I_st I (List.forall_mem_cons.mpr ⟨(by show mj_rg _; split; exact o1.1; exact mj_w_rg _), o1.2⟩))
      refine va_mabs hx hb hmls hown (hts _ (mj_t2 hlk rfl)) (hts _ mj_words.2.2.2.2.2.2.2.2.2.1) (hts _ mj_words.2.2.2.2.2.2.2.2.2.2) (hts _ mj_cw_abs) hRf (by omega) hRc hRs hdg ?_
      have he : (if 0 ≤ Int32.ofInt a then Int32.ofInt a else 0 - Int32.ofInt a) = Int32.ofInt (if 0 ≤ a then a else mj_w (0 - a)) := by
        have hle : (0 ≤ Int32.ofInt a) ↔ 0 ≤ a := mj_le mj_rg0 o1.1
        by_cases hc : 0 ≤ a
        · rw [if_pos hc, if_pos (hle.mpr hc)]
        · rw [if_neg hc, if_neg (fun q => hc (hle.mp q)), mj_ofw, Int32.ofInt_sub]
          rfl
      rw [he]
      exact h
    · cases hs
  · cases hs
/-- every step of ours that is no call and no end -/
theorem mj_step {i : Instr} (C : mj_C p s m args meth c G y) (I : mj_I s G b sz n0 s0 y w f ls st H locs lsA) (hd : mj_dec y pc = some i) (hs : mj_stp y i w f pc ls st = some (w', f', pc', ls', st')) (hRc : w'.2.2.1 - n0 ≤ R.cells) (hRs : w'.2.2.2 - s0 ≤ R.slots) (hRf : 1 ≤ R.frames) (hRl : 100 ≤ R.locals) (kk : mj_K p l e R s m args below meth c Q G b sz n0 s0 y w' f' pc' ls' st') : mj_Wg p l e R s m args below meth c Q b sz n0 s0 w H locs pc lsA st := by
  by_cases hpl : mj_plain i = true
  · exact mj_step1 hpl C I hd hs kk
  · cases i with
    | getfield idx => exact mj_s_getf C I hd hs kk
    | putfield idx => exact mj_s_putf C I hd hs kk
    | iaload => exact mj_s_iald C I hd hs kk
    | baload => exact mj_s_bald C I hd hs kk
    | laload => exact mj_s_lald C I hd hs kk
    | aaload => exact mj_s_aald C I hd hs kk
    | iastore => exact mj_s_iast C I hd hs kk
    | bastore => exact mj_s_bast C I hd hs kk
    | aastore => exact mj_s_aast C I hd hs kk
    | arraylength => exact mj_s_alen C I hd hs kk
    | newarray ty =>
      cases ty with
      | int => exact mj_s_newa (Or.inl rfl) C I hd hs hRc hRs kk
      | byte => exact mj_s_newa (Or.inr (Or.inl rfl)) C I hd hs hRc hRs kk
      | long => exact mj_s_newa (Or.inr (Or.inr rfl)) C I hd hs hRc hRs kk
      | _ => cases hs
    | new idx => exact mj_s_newo C I hd hs hRc hRs kk
    | anewarray idx => exact mj_s_anew C I hd hs hRc hRs kk
    | invokespecial idx => exact mj_s_spec C I hd hs hRf hRl kk
    | invokestatic idx => exact mj_s_copy C I hd hs hRc hRs hRf hRl kk
    | _ => first | (exact absurd rfl hpl) | cases hs
end MJ
end
section
/-! What stays along our own machine: values fit, the script stays, addresses grow. -/
def mj_J (w : mj_W) (f : mj_F) (w' : mj_W) (f' : mj_F) : Prop := mj_wf w' ∧ (∀ a j, mj_rg (f' a j)) ∧ w'.1 1 = w.1 1 ∧ f' 1 = f 1 ∧ w.2.2.1 ≤ w'.2.2.1 ∧ w.2.2.2 ≤ w'.2.2.2 ∧ ∀ a, mj_lv w a → w'.1 a = w.1 a
section MJ
variable {y : Nat} {w w' w2 : mj_W} {f f' f2 : mj_F} {ls ls' st st' : List mj_V} {pc pc' : Nat}
theorem mj_J_rf (hwf : mj_wf w) (hr : ∀ a j, mj_rg (f a j)) : mj_J w f w f := ⟨hwf, hr, rfl, rfl, Nat.le_refl _, Nat.le_refl _, fun _ _ => rfl⟩
theorem mj_J_tr (h1 : mj_J w f w' f') (h2 : mj_J w' f' w2 f2) : mj_J w f w2 f2 := ⟨h2.1, h2.2.1, h2.2.2.1.trans h1.2.2.1, h2.2.2.2.1.trans h1.2.2.2.1, Nat.le_trans h1.2.2.2.2.1 h2.2.2.2.2.1, Nat.le_trans h1.2.2.2.2.2.1 h2.2.2.2.2.2.1, fun a ha => (h2.2.2.2.2.2.2 a (by unfold mj_lv; rw [h1.2.2.2.2.2.2 a ha]; exact ha)).trans (h1.2.2.2.2.2.2 a ha)⟩
theorem mj_J_u {a i : Nat} {v : Int} (hwf : mj_wf w) (hr : ∀ a j, mj_rg (f a j)) (ha : mj_lv w a) (hv : mj_rg v) : mj_J w f w (mj_u f a i v) :=
  ⟨hwf, mj_u_rg hr hv, rfl, mj_u_ne (by have := (hwf.2.1 a ha).1; omega), Nat.le_refl _, Nat.le_refl _, fun _ _ => rfl⟩
theorem mj_J_ug {a i v : Nat} (hwf : mj_wf w) (hr : ∀ a j, mj_rg (f a j)) : mj_J w f (mj_ug w a i v) f := ⟨hwf, hr, rfl, rfl, Nat.le_refl _, Nat.le_refl _, fun _ _ => rfl⟩
theorem mj_wf_new {t : Nat × Nat} {n : Nat} (hwf : mj_wf w) (ht : t.1 ≠ 104) : mj_wf (mj_new w t n) := by
  refine ⟨by show 2 ≤ w.2.2.1 + 1; have := hwf.1; omega, fun a ha => ?_, fun a ha => ?_⟩
  · show 2 ≤ a ∧ a < w.2.2.1 + 1
    have h22 := hwf.1
    by_cases hx : a = w.2.2.1
    · omega
    · have h1 : mj_lv w a := by simpa [mj_lv, mj_new, hx] using ha
      have := hwf.2.1 a h1
      omega
  · by_cases hx : a = w.2.2.1
    · subst hx
      simp [mj_new] at ha
      exact absurd ha ht
    · exact hwf.2.2 a (by simpa [mj_new, hx] using ha)
theorem mj_J_new {t : Nat × Nat} {n : Nat} (hwf : mj_wf w) (hr : ∀ a j, mj_rg (f a j)) (ht : t.1 ≠ 104) : mj_J w f (mj_new w t n) (mj_z f w.2.2.1) := by
  have h22 := hwf.1
  have hne : (1 : Nat) ≠ w.2.2.1 := by omega
  refine ⟨mj_wf_new hwf ht, fun a j => ?_, by simp [mj_new, hne], by funext j; simp [mj_z, hne], by show w.2.2.1 ≤ w.2.2.1 + 1; omega, by show w.2.2.2 ≤ w.2.2.2 + n; omega, fun a ha => ?_⟩
  case refine_2 =>
    have h3 : a ≠ w.2.2.1 := by have := (hwf.2.1 a ha).2; omega
    simp [mj_new, h3]
  unfold mj_z
  split
  · exact mj_rg0
  · exact hr a j
theorem mj_J_cpy {a sp d dp n : Nat} (hwf : mj_wf w) (hr : ∀ a j, mj_rg (f a j)) (hd : mj_lv w d) : mj_J w f w (mj_cpy f a sp d dp n) :=
  ⟨hwf, fun x j => by unfold mj_cpy; split <;> exact hr _ _, rfl, by funext j; have := (hwf.2.1 d hd).1; have hne : (1 : Nat) ≠ d := by omega
                                                                     simp [mj_cpy, hne], Nat.le_refl _, Nat.le_refl _, fun _ _ => rfl⟩
theorem mj_J_if {c0 : Prop} [Decidable c0] {off : Int} (h : mj_if c0 w f pc off ls st = some (w', f', pc', ls', st')) : w' = w ∧ f' = f ∧ ls' = ls ∧ st' = st := by
  unfold mj_if at h
  split at h
  · exact (mj_jmp_ok h).2
  · split at h
    · cases h
      exact ⟨rfl, rfl, rfl, rfl⟩
    · cases h
set_option maxHeartbeats 4000000 in
theorem mj_stp_inv {i : Instr} (hwf : mj_wf w) (hr : ∀ a j, mj_rg (f a j)) (hl : ∀ v ∈ ls, mj_okv v) (ho : ∀ v ∈ st, mj_okv v) (hs : mj_stp y i w f pc ls st = some (w', f', pc', ls', st')) : mj_J w f w' f' ∧ (∀ v ∈ ls', mj_okv v) ∧ ∀ v ∈ st', mj_okv v := by
  have J0 := mj_J_rf hwf hr
  have c1 : ∀ {v : mj_V} {r : List mj_V}, mj_okv v → (∀ u ∈ r, mj_okv u) → ∀ u ∈ v :: r, mj_okv u := fun h1 h2 => List.forall_mem_cons.mpr ⟨h1, h2⟩
  have d1 : ∀ {v : mj_V} {r : List mj_V}, (∀ u ∈ v :: r, mj_okv u) → mj_okv v ∧ ∀ u ∈ r, mj_okv u := fun h => List.forall_mem_cons.mp h
  have hidi : ∀ {d k : Nat}, mj_ldi w f d ls st k = some (w', f', pc', ls', st') → mj_J w f w' f' ∧ (∀ v ∈ ls', mj_okv v) ∧ ∀ v ∈ st', mj_okv v := by
    intro d k hs
    unfold mj_ldi at hs
    split at hs
    · next v hv => cases hs; exact ⟨J0, hl, c1 (hl _ (List.mem_of_getElem? hv)) ho⟩
    · cases hs
  have hidl : ∀ {d k : Nat}, mj_ldl w f d ls st k = some (w', f', pc', ls', st') → mj_J w f w' f' ∧ (∀ v ∈ ls', mj_okv v) ∧ ∀ v ∈ st', mj_okv v := by
    intro d k hs
    unfold mj_ldl at hs
    split at hs
    · next v hv => cases hs; exact ⟨J0, hl, c1 (hl _ (List.mem_of_getElem? hv)) ho⟩
    · cases hs
  have hida : ∀ {d k : Nat}, mj_lda w f d ls st k = some (w', f', pc', ls', st') → mj_J w f w' f' ∧ (∀ v ∈ ls', mj_okv v) ∧ ∀ v ∈ st', mj_okv v := by
    intro d k hs
    unfold mj_lda at hs
    split at hs
    · next v hv => cases hs; exact ⟨J0, hl, c1 trivial ho⟩
    · cases hs
  have hsti : ∀ {d k : Nat}, mj_sti w f d ls st k = some (w', f', pc', ls', st') → mj_J w f w' f' ∧ (∀ v ∈ ls', mj_okv v) ∧ ∀ v ∈ st', mj_okv v := by
    intro d k hs
    unfold mj_sti at hs
    split at hs
    · split at hs
      · cases hs
        exact ⟨J0, fun u hu => mj_set_mem hu (d1 ho).1 hl, (d1 ho).2⟩
      · cases hs
    · cases hs
  have hsta : ∀ {d k : Nat}, mj_sta w f d ls st k = some (w', f', pc', ls', st') → mj_J w f w' f' ∧ (∀ v ∈ ls', mj_okv v) ∧ ∀ v ∈ st', mj_okv v := by
    intro d k hs
    unfold mj_sta at hs
    split at hs
    · split at hs
      · cases hs
        exact ⟨J0, fun u hu => mj_set_mem hu (d1 ho).1 hl, (d1 ho).2⟩
      · cases hs
    · cases hs
  have hstl : ∀ {d k : Nat}, mj_stl w f d ls st k = some (w', f', pc', ls', st') → mj_J w f w' f' ∧ (∀ v ∈ ls', mj_okv v) ∧ ∀ v ∈ st', mj_okv v := by
    intro d k hs
    unfold mj_stl at hs
    split at hs
    · split at hs
      · cases hs
        refine ⟨J0, fun u hu => ?_, (d1 ho).2⟩
        rcases List.mem_or_eq_of_mem_set hu with h5 | rfl
        · exact mj_set_mem h5 (d1 ho).1 hl
        · exact trivial
      · cases hs
    · cases hs
  have hb2 : ∀ {op : Int → Int → Int}, (∀ x z, mj_rg (op x z)) → mj_b2 w f pc ls st op = some (w', f', pc', ls', st') → mj_J w f w' f' ∧ (∀ v ∈ ls', mj_okv v) ∧ ∀ v ∈ st', mj_okv v := by
    intro op hop hs
    unfold mj_b2 at hs
    split at hs
    · cases hs
      exact ⟨J0, hl, c1 (hop _ _) (d1 (d1 ho).2).2⟩
    · cases hs
  have hb1 : ∀ {op : Int → Int}, (∀ x, mj_rg (op x)) → mj_b1 w f pc ls st op = some (w', f', pc', ls', st') → mj_J w f w' f' ∧ (∀ v ∈ ls', mj_okv v) ∧ ∀ v ∈ st', mj_okv v := by
    intro op hop hs
    unfold mj_b1 at hs
    split at hs
    · cases hs
      exact ⟨J0, hl, c1 (hop _) (d1 ho).2⟩
    · cases hs
  have hl2 : ∀ {op : Int → Int → mj_V}, (∀ x z, mj_okv (op x z)) → mj_l2 w f pc ls st op = some (w', f', pc', ls', st') → mj_J w f w' f' ∧ (∀ v ∈ ls', mj_okv v) ∧ ∀ v ∈ st', mj_okv v := by
    intro op hop hs
    unfold mj_l2 at hs
    split at hs
    · cases hs
      exact ⟨J0, hl, c1 (hop _ _) (d1 (d1 ho).2).2⟩
    · cases hs
  have hjm : ∀ {off : Int} {r : List mj_V}, (∀ u ∈ r, mj_okv u) → mj_jmp w f pc off ls r = some (w', f', pc', ls', st') → mj_J w f w' f' ∧ (∀ v ∈ ls', mj_okv v) ∧ ∀ v ∈ st', mj_okv v := by
    intro off r hro hs
    obtain ⟨-, rfl, rfl, rfl, rfl⟩ := mj_jmp_ok hs
    exact ⟨J0, hl, hro⟩
  have hif : ∀ {c0 : Prop} [Decidable c0] {off : Int} {r : List mj_V}, (∀ u ∈ r, mj_okv u) → mj_if c0 w f pc off ls r = some (w', f', pc', ls', st') → mj_J w f w' f' ∧ (∀ v ∈ ls', mj_okv v) ∧ ∀ v ∈ st', mj_okv v := by
    intro c0 _ off r hro hs
    obtain ⟨rfl, rfl, rfl, rfl⟩ := mj_J_if hs
    exact ⟨J0, hl, hro⟩
  have hna : ∀ {d k : Nat}, k ≠ 104 → mj_newa w f d ls st k = some (w', f', pc', ls', st') → mj_J w f w' f' ∧ (∀ v ∈ ls', mj_okv v) ∧ ∀ v ∈ st', mj_okv v := by
    intro d k hk hs
    unfold mj_newa at hs
    split at hs
    · split at hs
      · cases hs
        exact ⟨mj_J_new hwf hr hk, hl, c1 trivial (d1 ho).2⟩
      · cases hs
    · cases hs
  cases i with
  | iconst n => cases hs; exact ⟨J0, hl, c1 (mj_rg_to _) ho⟩
  | bipush n => cases hs; exact ⟨J0, hl, c1 (mj_rg_to _) ho⟩
  | sipush n => cases hs; exact ⟨J0, hl, c1 (mj_rg_to _) ho⟩
  | lconst n => cases hs; exact ⟨J0, hl, c1 (by have := n.isLt; exact ⟨by omega, by omega⟩) ho⟩
  | ldc idx =>
    simp only [mj_stp] at hs
    split at hs
    · cases hs; exact ⟨J0, hl, c1 (mj_rg_to _) ho⟩
    · cases hs
  | ldc_w idx =>
    simp only [mj_stp] at hs
    split at hs
    · cases hs; exact ⟨J0, hl, c1 (mj_rg_to _) ho⟩
    · cases hs
  | iload k => exact hidi hs
  | iload_n k => exact hidi hs
  | lload k => exact hidl hs
  | lload_n k => exact hidl hs
  | aload k => exact hida hs
  | aload_n k => exact hida hs
  | istore k => exact hsti hs
  | istore_n k => exact hsti hs
  | astore k => exact hsta hs
  | astore_n k => exact hsta hs
  | lstore k => exact hstl hs
  | lstore_n k => exact hstl hs
  | iinc k n =>
    simp only [mj_stp] at hs
    split at hs
    · cases hs; exact ⟨J0, fun u hu => mj_set_mem hu (mj_w_rg _) hl, ho⟩
    · cases hs
  | iadd => exact hb2 (fun _ _ => mj_w_rg _) hs
  | isub => exact hb2 (fun _ _ => mj_w_rg _) hs
  | imul => exact hb2 (fun _ _ => mj_w_rg _) hs
  | iand => exact hb2 (fun _ _ => mj_rg_to _) hs
  | ior => exact hb2 (fun _ _ => mj_rg_to _) hs
  | ishl => exact hb2 (fun _ _ => mj_rg_to _) hs
  | ishr => exact hb2 (fun _ _ => mj_rg_to _) hs
  | idiv =>
    simp only [mj_stp] at hs
    split at hs
    · split at hs
      · cases hs
      · cases hs; exact ⟨J0, hl, c1 (mj_rg_to _) (d1 (d1 ho).2).2⟩
    · cases hs
  | irem =>
    simp only [mj_stp] at hs
    split at hs
    · split at hs
      · cases hs
      · cases hs; exact ⟨J0, hl, c1 (mj_rg_to _) (d1 (d1 ho).2).2⟩
    · cases hs
  | ineg => exact hb1 (fun _ => mj_w_rg _) hs
  | i2b => exact hb1 (fun _ => mj_w8_rg _) hs
  | i2l =>
    simp only [mj_stp] at hs
    split at hs
    · cases hs
      exact ⟨J0, hl, c1 (by have := (d1 ho).1; unfold mj_okv mj_rg at this; exact ⟨by omega, by omega⟩) (d1 ho).2⟩
    · cases hs
  | lsub =>
    refine hl2 ?_ hs
    intro x z
    exact mj_w64_rg _
  | lmul =>
    refine hl2 ?_ hs
    intro x z
    exact mj_w64_rg _
  | lcmp =>
    refine hl2 ?_ hs
    intro x z
    exact mj_cmp_rg _ _
  | dup =>
    simp only [mj_stp] at hs
    split at hs
    · cases hs; exact ⟨J0, hl, c1 (d1 ho).1 ho⟩
    · cases hs; exact ⟨J0, hl, c1 (d1 ho).1 ho⟩
    · cases hs
  | dup2 =>
    simp only [mj_stp] at hs
    split at hs
    · cases hs; exact ⟨J0, hl, c1 (d1 ho).1 (c1 (d1 (d1 ho).2).1 ho)⟩
    · cases hs
  | pop =>
    simp only [mj_stp] at hs
    split at hs
    · cases hs; exact ⟨J0, hl, (d1 ho).2⟩
    · cases hs; exact ⟨J0, hl, (d1 ho).2⟩
    · cases hs
  | goto off => exact hjm ho hs
  | ifCond cc off =>
    simp only [mj_stp] at hs
    split at hs
    · cases cc <;> exact hif (d1 ho).2 hs
    · cases hs
  | if_icmp cc off =>
    simp only [mj_stp] at hs
    split at hs
    · cases cc <;> exact hif (d1 (d1 ho).2).2 hs
    · cases hs
  | tableswitch dflt lo hi offs =>
    simp only [mj_stp] at hs
    split at hs
    · split at hs
      · exact hjm (d1 ho).2 hs
      · split at hs
        · exact hjm (d1 ho).2 hs
        · cases hs
    · cases hs
  | lookupswitch dflt ps =>
    simp only [mj_stp] at hs
    split at hs
    · split at hs
      · exact hjm (d1 ho).2 hs
      · cases hs
    · cases hs
  | getfield idx =>
    simp only [mj_stp, mj_getf] at hs
    split at hs
    · split at hs
      · split at hs
        · split at hs
          · cases hs
          · cases hs; exact ⟨J0, hl, c1 trivial (d1 ho).2⟩
        · cases hs; exact ⟨J0, hl, c1 (hr _ _) (d1 ho).2⟩
      · cases hs
    · cases hs
  | putfield idx =>
    simp only [mj_stp, mj_putf] at hs
    split at hs
    · next v a r ci k q hq =>
      split at hs
      · split at hs
        · next hw =>
          cases hs
          obtain ⟨CC, T, N, hc, hk, hlink⟩ := mj_fl_ok hq
          obtain ⟨hN, hci⟩ := mj_cl_nf hc
          exact ⟨mj_J_u hwf hr (mj_lv_of hw.1 hci) (d1 ho).1, hl, (d1 (d1 ho).2).2⟩
        · cases hs
      · cases hs
    · split at hs
      · split at hs
        · cases hs; exact ⟨mj_J_ug hwf hr, hl, (d1 (d1 ho).2).2⟩
        · cases hs
      · cases hs
    · cases hs
  | iaload =>
    simp only [mj_stp, mj_iald] at hs
    split at hs
    · split at hs
      · cases hs; exact ⟨J0, hl, c1 (hr _ _) (d1 (d1 ho).2).2⟩
      · cases hs
    · cases hs
  | baload =>
    simp only [mj_stp, mj_bald] at hs
    split at hs
    · split at hs
      · cases hs; exact ⟨J0, hl, c1 (hr _ _) (d1 (d1 ho).2).2⟩
      · cases hs
    · cases hs
  | laload =>
    simp only [mj_stp, mj_lald] at hs
    split at hs
    · next j a r =>
      split at hs
      · cases hs; exact ⟨J0, hl, c1 (by have := hr a j.toNat; unfold mj_rg at this; exact ⟨by omega, by omega⟩) (d1 (d1 ho).2).2⟩
      · cases hs
    · cases hs
  | aaload =>
    simp only [mj_stp, mj_aald] at hs
    split at hs
    · split at hs
      · cases hs; exact ⟨J0, hl, c1 trivial (d1 (d1 ho).2).2⟩
      · cases hs
    · cases hs
  | iastore =>
    simp only [mj_stp, mj_iast] at hs
    split at hs
    · split at hs
      · next hw => cases hs; exact ⟨mj_J_u hwf hr (by unfold mj_lv; omega) (d1 ho).1, hl, (d1 (d1 (d1 ho).2).2).2⟩
      · cases hs
    · cases hs
  | bastore =>
    simp only [mj_stp, mj_bast] at hs
    split at hs
    · split at hs
      · next hw => cases hs; exact ⟨mj_J_u hwf hr (by unfold mj_lv; omega) (mj_w8_rg _), hl, (d1 (d1 (d1 ho).2).2).2⟩
      · cases hs
    · cases hs
  | aastore =>
    simp only [mj_stp, mj_aast] at hs
    split at hs
    · split at hs
      · cases hs; exact ⟨mj_J_ug hwf hr, hl, (d1 (d1 (d1 ho).2).2).2⟩
      · cases hs
    · cases hs
  | arraylength =>
    simp only [mj_stp, mj_alen] at hs
    split at hs
    · split at hs
      · next hw => cases hs; exact ⟨J0, hl, c1 ⟨by omega, by omega⟩ (d1 ho).2⟩
      · cases hs
    · cases hs
  | newarray ty =>
    cases ty with
    | int => exact hna (by decide) hs
    | byte => exact hna (by decide) hs
    | long => exact hna (by decide) hs
    | _ => cases hs
  | anewarray idx =>
    simp only [mj_stp, mj_anew] at hs
    split at hs
    · exact hna (by decide) hs
    · cases hs
  | new idx =>
    simp only [mj_stp, mj_newo] at hs
    split at hs
    · split at hs
      · next hci => cases hs; exact ⟨mj_J_new hwf hr (by show _ ≠ 104; omega), hl, c1 trivial ho⟩
      · cases hs
    · cases hs
  | invokespecial idx =>
    simp only [mj_stp, mj_spec] at hs
    split at hs
    · split at hs
      · cases hs; exact ⟨J0, hl, (d1 ho).2⟩
      · cases hs
    · cases hs
  | invokestatic idx =>
    simp only [mj_stp, mj_copy] at hs
    split at hs
    · split at hs
      · next hw => cases hs; exact ⟨mj_J_cpy hwf hr (by unfold mj_lv; omega), hl, (d1 (d1 (d1 (d1 (d1 ho).2).2).2).2).2⟩
      · cases hs
    · split at hs
      · cases hs; exact ⟨J0, hl, c1 (by show mj_rg _; split; exact (d1 ho).1; exact (d1 (d1 ho).2).1) (d1 (d1 ho).2).2⟩
      · cases hs
    · split at hs
      · cases hs; exact ⟨J0, hl, c1 (by show mj_rg _; split; exact (d1 ho).1; exact (d1 (d1 ho).2).1) (d1 (d1 ho).2).2⟩
      · cases hs
    · split at hs
      · cases hs; exact ⟨J0, hl, c1 (by show mj_rg _; split; exact (d1 ho).1; exact mj_w_rg _) (d1 ho).2⟩
      · cases hs
    · cases hs
  | _ => cases hs
theorem mj_callee_mem {i : Instr} {cy k : Nat} {as rest : List mj_V} (h : mj_callee y i w st = some (cy, as, rest, k)) : (∀ v ∈ as, v ∈ st) ∧ (∀ v ∈ rest, v ∈ st) ∧ (k ≠ 0 → w.1 k = (103, 1)) := by
  have hA : ∀ (cy' : Nat) (virt : Bool), mj_dn y cy' (mj_args w st cy' virt) = some (cy, as, rest, k) → (∀ v ∈ as, v ∈ st) ∧ (∀ v ∈ rest, v ∈ st) ∧ (k ≠ 0 → w.1 k = (103, 1)) := by
    intro cy' virt h
    have ht : ∀ v ∈ (st.take (mj_ar cy')).reverse, v ∈ st := fun v hv => List.mem_of_mem_take (List.mem_reverse.mp hv)
    have hdr : ∀ v ∈ st.drop (mj_ar cy'), v ∈ st := fun v hv => List.mem_of_mem_drop hv
    unfold mj_dn at h
    split at h
    · unfold mj_args at h
      split at h
      · split at h
        · next a as' heq =>
          split at h
          · cases h
            rw [heq] at ht
            exact ⟨ht, hdr, fun q => absurd rfl q⟩
          · cases h
        · cases h
        · cases h
          exact ⟨ht, hdr, fun q => absurd rfl q⟩
      · cases h
    · cases h
  unfold mj_callee at h
  split at h
  · split at h
    · exact hA _ _ h
    · exact hA _ _ h
    · cases h
  · split at h
    · exact hA _ _ h
    · exact hA _ _ h
    · split at h
      · next hw =>
        cases h
        refine ⟨fun v hv => ?_, fun v hv => ?_, fun _ => hw.1⟩
        · simp only [List.mem_cons, List.not_mem_nil, or_false] at hv ⊢
          rcases hv with h | h | h
          · exact Or.inr (Or.inr (Or.inr (Or.inl h)))
          · exact Or.inr (Or.inr (Or.inl h))
          · exact Or.inr (Or.inl h)
        · exact List.mem_cons_of_mem _ (List.mem_cons_of_mem _ (List.mem_cons_of_mem _ (List.mem_cons_of_mem _ hv)))
      · cases h
    · cases h
  · split at h
    · exact hA _ _ h
    · exact hA _ _ h
    · cases h
  · cases h
theorem mj_nx_end {w2 : mj_W} {v : Option mj_V} (h : mj_nx y w f pc ls st = some (.inl (w2, v))) : ∃ i, mj_dec y pc = some i ∧ mj_end y i w st = some (w2, v) ∧ (mj_imp y = true ∨ mj_keepw y i = true) := by
  unfold mj_nx at h
  split at h
  · next i hi =>
    split at h
    · next hk =>
      split at h
      · next r hr =>
        cases h
        exact ⟨i, hi, hr, hk⟩
      · split at h
        · split at h <;> cases h
        · split at h
          · cases h
          · cases h
    · cases h
  · cases h
theorem mj_nx_call {q : Nat × List mj_V × List mj_V × Nat} (h : mj_nx y w f pc ls st = some (.inr (.inl q))) : ∃ i, mj_dec y pc = some i ∧ mj_callee y i w st = some q ∧ (mj_imp y = true ∨ mj_imp q.1 = false) := by
  unfold mj_nx at h
  split at h
  · next i hi =>
    split at h
    · split at h
      · cases h
      · split at h
        · next r hr =>
          split at h
          · next hk =>
            cases h
            exact ⟨i, hi, hr, hk⟩
          · cases h
        · split at h
          · cases h
          · cases h
    · cases h
  · cases h
theorem mj_nx_stp {q : mj_T} (h : mj_nx y w f pc ls st = some (.inr (.inr q))) : ∃ i, mj_dec y pc = some i ∧ mj_stp y i w f pc ls st = some q ∧ (mj_imp y = true ∨ mj_keepw y i = true) := by
  unfold mj_nx at h
  split at h
  · next i hi =>
    split at h
    · next hk =>
      split at h
      · cases h
      · split at h
        · split at h <;> cases h
        · split at h
          · next r hr =>
            cases h
            exact ⟨i, hi, hr, hk⟩
          · cases h
    · cases h
  · cases h
theorem mj_end_inv {i : Instr} {v : Option mj_V} (hwf : mj_wf w) (hr : ∀ a j, mj_rg (f a j)) (ho : ∀ v ∈ st, mj_okv v) (h : mj_end y i w st = some (w', v)) : mj_J w f w' f ∧ ∀ u, v = some u → mj_okv u := by
  unfold mj_end at h
  split at h
  · split at h
    · split at h
      · cases h
        exact ⟨mj_J_rf hwf hr, fun u hu => by cases hu; exact ho _ List.mem_cons_self⟩
      · cases h
    · cases h
  · split at h
    · split at h
      · cases h
        exact ⟨mj_J_rf hwf hr, fun u hu => by cases hu; exact trivial⟩
      · cases h
    · cases h
  · split at h
    · split at h
      · cases h
        exact ⟨mj_J_rf hwf hr, fun u hu => by cases hu⟩
      · cases h
    · cases h
  · split at h
    · cases h
      refine ⟨⟨⟨by show 2 ≤ w.2.2.1 + 1; have := hwf.1; omega, fun a ha => ?_, fun a ha => hwf.2.2 a ha⟩, hr, rfl, rfl, by show w.2.2.1 ≤ w.2.2.1 + 1; omega, by show w.2.2.2 ≤ w.2.2.2 + 6; omega, fun _ _ => rfl⟩, fun u hu => by cases hu; exact trivial⟩
      have := hwf.2.1 a ha
      show 2 ≤ a ∧ a < w.2.2.1 + 1
      omega
    · cases h
  · cases h
theorem mj_ret_inv {k : Nat} {v v' : Option mj_V} (hwf : mj_wf w) (hr : ∀ a j, mj_rg (f a j)) (hk : k ≠ 0 → mj_lv w k) (hv : ∀ u, v = some u → mj_okv u) (h : mj_ret k f v = some (f', v')) (he : ∀ n, v = some (.inr (.inr (.inr n))) → n < 100) : mj_J w f w f' ∧ ∀ u, v' = some u → mj_okv u := by
  unfold mj_ret at h
  split at h
  · cases h
  · cases h
    exact ⟨mj_J_rf hwf hr, hv⟩
  · next k r =>
    cases h
    exact ⟨mj_J_u hwf hr (hk (by omega)) (hv _ rfl), fun u hu => by cases hu; exact mj_rg0⟩
  · next k n =>
    cases h
    have := he n rfl
    exact ⟨mj_J_rf hwf hr, fun u hu => by cases hu; exact ⟨by omega, by omega⟩⟩
  · cases h
end MJ
theorem mj_exc_all : ((List.range 26).all fun cn => (mj_cts.getD cn []).all fun e => decide (e.2.2.1 < 100) || decide (e.2.1 ≠ 11)) = true := by decide +kernel
theorem mj_pad_ok {y : Nat} {as : List mj_V} (ho : ∀ v ∈ as, mj_okv v) : ∀ v ∈ mj_pad y as, mj_okv v := by
  intro v hv
  unfold mj_pad at hv
  rcases List.mem_append.mp hv with h | h
  · exact ho v h
  · rw [(List.mem_replicate.mp h).2]
    exact trivial
theorem mj_end_exc {y : Nat} {i : Instr} {w w' : mj_W} {st : List mj_V} {k : Nat} (h : mj_end y i w st = some (w', some (.inr (.inr (.inr k))))) : k < 100 := by
  unfold mj_end at h
  split at h
  · split at h
    · split at h <;> cases h
    · cases h
  · split at h
    · split at h <;> cases h
    · cases h
  · split at h
    · split at h <;> cases h
    · cases h
  · split at h
    · next k' q hq =>
      cases h
      have hm := mj_look_mem _ _ _ hq
      have hl := mj_look_lt hq
      rw [mj_cts_len] at hl
      have h1 := List.all_eq_true.mp (List.all_eq_true.mp mj_exc_all _ (List.mem_range.mpr hl)) _ hm
      simpa using h1
    · cases h
  · cases h
/-- a run of ours keeps what must stay -/
theorem mj_exec_inv : ∀ (n y : Nat) (w : mj_W) (f : mj_F) (pc : Nat) (ls st : List mj_V) (r : mj_O), mj_exec n y w f pc ls st = some r → mj_wf w → (∀ a j, mj_rg (f a j)) → (∀ v ∈ ls, mj_okv v) → (∀ v ∈ st, mj_okv v) → mj_J w f r.1 r.2.1 ∧ (∀ u, r.2.2 = some u → mj_okv u) ∧ ∀ k, r.2.2 = some (.inr (.inr (.inr k))) → k < 100 := by
  intro n
  induction n with
  | zero => intro y w f pc ls st r h; simp [mj_exec] at h
  | succ n ih =>
    intro y w f pc ls st r h hwf hr hl ho
    rw [mj_exec] at h
    cases hn : mj_nx y w f pc ls st with
    | none => rw [hn] at h; simp at h
    | some q =>
      rw [hn] at h
      rcases q with ⟨w', v⟩ | ⟨cy, as, rest, k⟩ | ⟨w', f', pc', ls', st'⟩
      · cases h
        obtain ⟨i, -, he, -⟩ := mj_nx_end hn
        obtain ⟨h1, h2⟩ := mj_end_inv (f := f) hwf hr ho he
        exact ⟨h1, h2, fun k hk => mj_end_exc (by rw [← hk]; exact he)⟩
      · dsimp only at h
        obtain ⟨i, -, hc, -⟩ := mj_nx_call hn
        obtain ⟨m1, m2, m3⟩ := mj_callee_mem hc
        cases hx : mj_exec n cy w f 0 (mj_pad cy as) [] with
        | none => rw [hx] at h; simp at h
        | some q =>
          obtain ⟨w', f', v⟩ := q
          rw [hx] at h
          dsimp only at h
          obtain ⟨g1, g2, g3⟩ := ih _ _ _ _ _ _ _ hx hwf hr (mj_pad_ok (fun v hv => ho v (m1 v hv))) (fun v hv => by cases hv)
          cases hrt : mj_ret k f' v with
          | none => rw [hrt] at h; simp at h
          | some q =>
            obtain ⟨f'', v'⟩ := q
            rw [hrt] at h
            dsimp only at h
            have hkl : k ≠ 0 → mj_lv w' k := fun hk => by
              have h3 := m3 hk
              have hlv : mj_lv w k := by unfold mj_lv; rw [h3]; omega
              unfold mj_lv
              rw [g1.2.2.2.2.2.2 k hlv]
              exact hlv
            obtain ⟨j1, j2⟩ := mj_ret_inv (w := w') g1.1 g1.2.1 hkl g2 hrt g3
            obtain ⟨e1, e2⟩ := ih _ _ _ _ _ _ _ h j1.1 j1.2.1 hl (fun u hu => by
              rcases List.mem_append.mp hu with hu | hu
              · exact j2 u (by cases v' with | none => cases hu | some x => rw [List.mem_singleton.mp hu])
              · exact ho u (m2 u hu))
            exact ⟨mj_J_tr (mj_J_tr g1 j1) e1, e2⟩
      · dsimp only at h
        obtain ⟨i, -, hs, -⟩ := mj_nx_stp hn
        obtain ⟨j1, j2, j3⟩ := mj_stp_inv hwf hr hl ho hs
        obtain ⟨e1, e2⟩ := ih _ _ _ _ _ _ _ h j1.1 j1.2.1 j2 j3
        exact ⟨mj_J_tr j1 e1, e2⟩
end
section
/-! Calls, and whole methods. -/
theorem mj_own_all : ((List.range 315).all fun y => mj_own y == (mj_nm y).cls) = true := by decide +kernel
theorem mj_own_nm {y : Nat} (h : y < 315) : mj_own y = (mj_nm y).cls := beq_iff_eq.mp (List.all_eq_true.mp mj_own_all y (List.mem_range.mpr h))
def mj_ws (y : Nat) : List Cond := mj_cw y :: lw_t2
def mj_rm (y cells slots : Nat) : Room := { frames := mj_lev y + 1, cells := cells, slots := slots, locals := 100 * (mj_lev y + 1) }
def mj_B (G : mj_G) (b sz : Nat) (w : mj_W) (f : mj_F) (U : State) : Prop := mj_P G b sz w f U.heap ∧ mj_Ok G U ∧ b < sz ∧ ((w.1 1).1 = 104 → va_X b (w.1 1).2 (fun j => Int32.ofInt (f 1 j)) U U.heap)
def mj_Q (G : mj_G) (b sz : Nat) (w : mj_W) (f : mj_F) (v : Option mj_V) : Array Value → State → Outcome → State → Prop := fun _ st oc t => oc = .returned (v.map (mj_val b sz)) ∧ mj_P G b sz w f t.heap ∧ va_F (mj_A sz) st t
theorem mj_B_blind {G : mj_G} {b sz : Nat} {w : mj_W} {f : mj_F} {av : List Value} : FrameBlind (va_Pc av (mj_B G b sz w f)) := by
  intro a U g mk h
  obtain ⟨h1, h2, h3, h4, h5⟩ := h
  exact ⟨h1, h2, mj_Ok.same (s := U) (U := U.calling g mk a) rfl h3, h4, fun q => va_X.moved (u := U) (U := U.calling g mk a) (Vm.Alike.refl U.vm) (h5 q)⟩
theorem mj_args_at {b sz : Nat} : ∀ (as : List mj_V), (∀ v ∈ as, mj_cat v = 1) → ∀ (i k : Nat) (v : mj_V), as[k]? = some v → (i + k, mj_val b sz v) ∈ lv_args i (as.map (mj_val b sz)) := by
  intro as
  induction as with
  | nil => intro _ i k v h; simp at h
  | cons x t ih =>
    intro hc i k v h
    have hx := List.forall_mem_cons.mp hc
    show _ ∈ (i, mj_val b sz x) :: lv_args (if (mj_val b sz x).category = 2 then i + 2 else i + 1) (t.map (mj_val b sz))
    rw [mj_val_cat, hx.1, if_neg (by decide)]
    cases k with
    | zero =>
      cases h
      exact List.mem_cons_self
    | succ k =>
      have := ih hx.2 (i + 1) k v h
      rw [show i + 1 + k = i + (k + 1) by omega] at this
      exact List.mem_cons_of_mem _ this
theorem mj_sl_len {b sz : Nat} : ∀ (as : List mj_V), (∀ v ∈ as, mj_cat v = 1) → (lg_sl (as.map (mj_val b sz))).length = as.length := by
  intro as
  induction as with
  | nil => intro _; rfl
  | cons x t ih =>
    intro hc
    have hx := List.forall_mem_cons.mp hc
    have h := ih hx.2
    unfold lg_sl at h ⊢
    rw [List.map_cons, List.flatMap_cons, List.length_append, h, mj_val_cat, hx.1, if_neg (by decide)]
    simp
    omega
/-- a method's entry -/
theorem mj_entry {b sz y : Nat} {as : List mj_V} (hc : ∀ v ∈ as, mj_cat v = 1) (ho : ∀ v ∈ as, mj_okv v) (hl : as.length ≤ mj_nL y) (m : MethodId) : ∃ lsA : Array Slot, entryFrame m (as.map (mj_val b sz)).toArray (mj_nL y) = F0 m 0 lsA [] ∧ mj_Ls b sz y (mj_pad y as) lsA := by
  refine ⟨_, lg_entry_eq m _ _, ?_, ?_, lv_args 0 (as.map (mj_val b sz)), lv_entry _ (by rw [mj_sl_len as hc]; exact hl), ?_⟩
  · unfold mj_pad
    rw [List.length_append, List.length_replicate]
    omega
  · intro v hv
    unfold mj_pad at hv
    rcases List.mem_append.mp hv with h | h
    · exact ho v h
    · rw [(List.mem_replicate.mp h).2]
      exact trivial
  · intro k v hk hu
    unfold mj_pad at hk
    by_cases hkl : k < as.length
    · rw [List.getElem?_append_left hkl] at hk
      have := mj_args_at (b := b) (sz := sz) as hc 0 k v hk
      rw [Nat.zero_add] at this
      exact this
    · rw [List.getElem?_append_right (by omega)] at hk
      have := List.mem_of_getElem? hk
      exact absurd (List.mem_replicate.mp this).2 (hu 0)
theorem mj_good_ws {cy : Nat} (h : cy < 314) : GoodIn lw_t2 (mj_ws cy) := by
  intro w hw
  rcases List.mem_cons.mp hw with rfl | hw
  · exact ⟨mj_t2 (mj_cw_at h) rfl, Or.inl rfl⟩
  · exact ⟨hw, good_of_word (List.mem_filter.mp hw).2⟩
section MJ
variable {p : Program} {l : Launch} {e : Env} {R : Room} {s : State} {m : MethodId} {args : Array Value} {below : List Frame} {meth : Method} {c : Code} {Q : State → Prop} {G : mj_G} {b sz : Nat} {H : Heap} {n0 s0 y : Nat} {w w' : mj_W} {f f' : mj_F} {ls ls' st st' : List mj_V} {locs : List Loc} {lsA : Array Slot} {pc pc' : Nat}
theorem mj_go {v : Option mj_V} {st0 rest : List Value} {a : Array Value} {free : Addr → Prop} {cells slots mc ms : Nat} (hr : va_Run p l e R s m args below meth c H locs cells slots mc ms (F0 m pc lsA st0) rest (mj_Q G b sz w' f' v a) free) (hS : va_S (mj_A sz) s.heap H locs) (hf : ∀ q, free q → sz ≤ q)
    (kk : ∀ (H1 : Heap) (locs1 : List Loc), mj_P G b sz w' f' H1 → va_S (mj_A sz) s.heap H1 locs1 → W p l e R s m args below meth c H1 locs1 (cells + mc) (slots + ms) Q (F0 m (pc + 3) lsA ((v.map (mj_val b sz)).toList ++ rest))) : W p l e R s m args below meth c H locs cells slots Q (F0 m pc lsA st0) := by
  intro T hT X
  obtain ⟨v0, st₀, t, T', L, h0, X', hL, e1, e2, ⟨hv, hP, hz, hk⟩, st⟩ := hr T hT X
  have hv : v0 = v.map (mj_val b sz) := by injection hv
  subst hv
  rw [h0] at hz hk
  obtain ⟨t2, a1, b1⟩ := kk T'.heap (locs ++ L) (by rw [e1]; exact hP) ⟨Nat.le_trans hS.1 (by rw [e1]; exact hz), fun q h1 h2 => by rw [e1, hk q (Nat.lt_of_lt_of_le h1 hS.1) h2]; exact hS.2.1 q h1 h2, fun q hq => by
      rcases List.mem_append.mp hq with h | h
      · exact hS.2.2 q h
      · exact hf _ (hL q h)⟩ T' rfl X'
  exact ⟨t2, st t2 a1, b1⟩
/-- what a call of ours is: which method, how it is linked -/
theorem mj_callee_ok {i : Instr} {cy : Nat} {as rest : List mj_V} (hwf : mj_wf w) (h : mj_callee y i w st = some (cy, as, rest, 0)) : mj_lev cy < mj_lev y ∧ cy < 314 ∧ st = as.reverse ++ rest ∧ as.length = mj_ar cy ∧ mj_low rest = true ∧ (∀ v ∈ as, mj_cat v = 1) ∧
    ∃ (idx q : Nat), ((lw_tbl[q]? = some (Cond.methodLink (mj_own y) idx (mj_nm cy))) ∨ ∃ host, lw_tbl[q]? = some (Cond.methodLinkNest (mj_own y) idx (mj_nm cy) host)) ∧
      ((i = .invokevirtual idx ∧ mj_mkd cy = 1 ∧ ∃ a as', as = .inr (.inl a) :: as' ∧ w.1 a = (mj_cn cy, 0)) ∨ (i = .invokestatic idx ∧ mj_mkd cy = 0) ∨ (i = .invokespecial idx ∧ mj_mkd cy = 2 ∧ ∃ a as', as = .inr (.inl a) :: as')) := by
  have hA : ∀ (cy' : Nat) (virt : Bool), mj_dn y cy' (mj_args w st cy' virt) = some (cy, as, rest, 0) → cy' = cy ∧ mj_lev cy < mj_lev y ∧ st = as.reverse ++ rest ∧ as.length = mj_ar cy ∧ mj_low rest = true ∧ (∀ v ∈ as, mj_cat v = 1) ∧ (virt = true → ∃ a as', as = .inr (.inl a) :: as' ∧ w.1 a = (mj_cn cy, 0)) := by
    intro cy' virt h
    unfold mj_dn at h
    split at h
    · next hlev =>
      unfold mj_args at h
      split at h
      · next hc =>
        obtain ⟨h1, h2, h3⟩ := hc
        have hcat : ∀ v ∈ (st.take (mj_ar cy')).reverse, mj_cat v = 1 := fun v hv => beq_iff_eq.mp (List.all_eq_true.mp h3 v (List.mem_reverse.mp hv))
        have hst : st = ((st.take (mj_ar cy')).reverse).reverse ++ st.drop (mj_ar cy') := by rw [List.reverse_reverse, List.take_append_drop]
        have hlen : ((st.take (mj_ar cy')).reverse).length = mj_ar cy' := by rw [List.length_reverse, List.length_take]; omega
        split at h
        · next a as' heq =>
          split at h
          · next hw =>
            cases h
            rw [heq] at hcat hst hlen
            exact ⟨rfl, hlev, hst, hlen, h2, hcat, fun _ => ⟨a, as', rfl, hw⟩⟩
          · cases h
        · cases h
        · cases h
          exact ⟨rfl, hlev, hst, hlen, h2, hcat, fun q => by cases q⟩
      · cases h
    · cases h
  have hN : ∀ {q cy' idx : Nat}, ((match lw_tbl[q]? with
    | some (.methodLinkNest own i x _) => own == mj_owns.getD (mj_cn y) "" && i == idx && decide (x = mj_nm cy')
    | _ => false) = true) → ∃ host, lw_tbl[q]? = some (.methodLinkNest (mj_own y) idx (mj_nm cy') host) := by
    intro q cy' idx h
    split at h
    · next own i x host heq =>
      simp only [Bool.and_eq_true, beq_iff_eq, decide_eq_true_eq] at h
      obtain ⟨⟨a1, a2⟩, a3⟩ := h
      subst a1 a2 a3
      exact ⟨host, heq⟩
    · cases h
  unfold mj_callee at h
  split at h
  · next idx =>
    split at h
    · next cy' q hq =>
      obtain ⟨rfl, g1, g2, g3, g4, g5, g6⟩ := hA _ _ h
      have hlk := mj_cl2_ok hq
      unfold mj_cok at hlk
      simp only [Bool.and_eq_true, decide_eq_true_eq] at hlk
      exact ⟨g1, hlk.1.2, g2, g3, g4, g5, idx, q, Or.inl hlk.1.1, Or.inl ⟨rfl, hlk.2, g6 rfl⟩⟩
    · next cy' q hq =>
      obtain ⟨rfl, g1, g2, g3, g4, g5, g6⟩ := hA _ _ h
      have hlk := mj_cl2_ok hq
      unfold mj_cok at hlk
      simp only [Bool.and_eq_true, decide_eq_true_eq] at hlk
      exact ⟨g1, hlk.1.2, g2, g3, g4, g5, idx, q, Or.inr (hN hlk.1.1), Or.inl ⟨rfl, hlk.2, g6 rfl⟩⟩
    · cases h
  · next idx =>
    split at h
    · next cy' q hq =>
      obtain ⟨rfl, g1, g2, g3, g4, g5, g6⟩ := hA _ _ h
      have hlk := mj_cl2_ok hq
      unfold mj_cok at hlk
      simp only [Bool.and_eq_true, decide_eq_true_eq] at hlk
      exact ⟨g1, hlk.1.2, g2, g3, g4, g5, idx, q, Or.inl hlk.1.1, Or.inr (Or.inl ⟨rfl, hlk.2⟩)⟩
    · next cy' q hq =>
      obtain ⟨rfl, g1, g2, g3, g4, g5, g6⟩ := hA _ _ h
      have hlk := mj_cl2_ok hq
      unfold mj_cok at hlk
      simp only [Bool.and_eq_true, decide_eq_true_eq] at hlk
      exact ⟨g1, hlk.1.2, g2, g3, g4, g5, idx, q, Or.inr (hN hlk.1.1), Or.inr (Or.inl ⟨rfl, hlk.2⟩)⟩
    · next cy' q o bb aa xx r hq =>
      split at h
      · next hw =>
        have hr : (cy', ([.inr (.inl xx), .inl aa, .inl bb] : List mj_V), r, o) = (cy, as, rest, 0) := Option.some.inj h
        have ho : o = 0 := congrArg (fun q => q.2.2.2) hr
        subst ho
        have := (hwf.2.1 0 (by unfold mj_lv; rw [hw.1]; omega)).1
        omega
      · cases h
    · cases h
  · next idx =>
    split at h
    · next cy' q hq =>
      obtain ⟨rfl, g1, g2, g3, g4, g5, g6⟩ := hA _ _ h
      have hlk := mj_cl2_ok hq
      unfold mj_cok at hlk
      simp only [Bool.and_eq_true, decide_eq_true_eq] at hlk
      obtain ⟨a, as', h1, -⟩ := g6 rfl
      exact ⟨g1, hlk.1.2, g2, g3, g4, g5, idx, q, Or.inl hlk.1.1, Or.inr (Or.inr ⟨rfl, hlk.2, a, as', h1⟩)⟩
    · next cy' q hq =>
      obtain ⟨rfl, g1, g2, g3, g4, g5, g6⟩ := hA _ _ h
      have hlk := mj_cl2_ok hq
      unfold mj_cok at hlk
      simp only [Bool.and_eq_true, decide_eq_true_eq] at hlk
      obtain ⟨a, as', h1, -⟩ := g6 rfl
      exact ⟨g1, hlk.1.2, g2, g3, g4, g5, idx, q, Or.inr (hN hlk.1.1), Or.inr (Or.inr ⟨rfl, hlk.2, a, as', h1⟩)⟩
    · cases h
  · cases h
/-- a call, by the contract of what is called -/
theorem mj_call0 {i : Instr} {cy : Nat} {as rest : List mj_V} {w2 : mj_W} {f2 : mj_F} {v : Option mj_V} (C : mj_C p s m args meth c G y) (I : mj_I s G b sz n0 s0 y w f ls st H locs lsA) (hd : mj_dec y pc = some i) (hc : mj_callee y i w st = some (cy, as, rest, 0))
    (hmono : w.2.2.1 ≤ w2.2.2.1 ∧ w.2.2.2 ≤ w2.2.2.2) (hM : Met l (mj_nm cy) (mj_ws cy) (mj_rm cy (w2.2.2.1 - w.2.2.1) (w2.2.2.2 - w.2.2.2)) (va_Pc (as.map (mj_val b sz)) (mj_B G b sz w f)) (mj_Q G b sz w2 f2 v) (w2.2.2.1 - w.2.2.1) (w2.2.2.2 - w.2.2.2) (fun q => sz ≤ q))
    (hRf : mj_lev y + 1 ≤ R.frames) (hRl : 100 * (mj_lev y + 1) ≤ R.locals) (hRc : w2.2.2.1 - n0 ≤ R.cells) (hRs : w2.2.2.2 - s0 ≤ R.slots) (hX1 : w2.1 1 = w.1 1) (hX2 : f2 1 = f 1) (hov : ∀ u, v = some u → mj_okv u)
    (kk : mj_K p l e R s m args below meth c Q G b sz n0 s0 y w2 f2 (pc + 3) ls (v.toList ++ rest)) : mj_Wg p l e R s m args below meth c Q b sz n0 s0 w H locs pc lsA st := by
  obtain ⟨hx, hb, hml, hown, hts, hini, hok⟩ := C
  obtain ⟨⟨L, hP, hD, hL, hz, hwf, hr⟩, hS, hls, ho, hn, hbz, hX, hn0, hs0⟩ := id I
  obtain ⟨hlev, hcy, rfl, hlen, hlow, hcat, idx, q, hlink, hkind⟩ := mj_callee_ok hwf hc
  have hm := mj_mok_all hcy
  unfold mj_mok at hm
  simp only [Bool.and_eq_true, decide_eq_true_eq] at hm
  obtain ⟨⟨⟨⟨⟨⟨hi1, hi2⟩, hi3⟩, hi4⟩, hi5⟩, hi6⟩, hi7⟩ := hm
  obtain ⟨lv, hlv, -⟩ := hls.2.2
  have hl8 := mj_low_ok (b := b) (sz := sz) hlow
  have hoas : ∀ u ∈ rest, mj_okv u := fun u hu => ho u (List.mem_append_right _ hu)
  have e1 : w.2.2.1 - n0 + (w2.2.2.1 - w.2.2.1) = w2.2.2.1 - n0 := by omega
  have e2 : w.2.2.2 - s0 + (w2.2.2.2 - w.2.2.2) = w2.2.2.2 - s0 := by omega
  have hfit : w.2.2.1 - n0 + (w2.2.2.1 - w.2.2.1) ≤ R.cells ∧ w.2.2.2 - s0 + (w2.2.2.2 - w.2.2.2) ≤ R.slots := by rw [e1, e2]; exact ⟨hRc, hRs⟩
  have hini1 := hts _ (mj_t2 hi1 rfl)
  have hR2 : (mj_rm cy (w2.2.2.1 - w.2.2.1) (w2.2.2.2 - w.2.2.2)).frames + 1 ≤ R.frames ∧ 8 + (mj_nL cy + 11) + (mj_rm cy (w2.2.2.1 - w.2.2.1) (w2.2.2.2 - w.2.2.2)).locals ≤ R.locals := by
    show mj_lev cy + 1 + 1 ≤ R.frames ∧ 8 + (mj_nL cy + 11) + 100 * (mj_lev cy + 1) ≤ R.locals
    omega
  have hpre : ∀ U : State, U.heap = H → s.WarmedH U.vm → va_Pc (as.map (mj_val b sz)) (mj_B G b sz w f) (as.map (mj_val b sz)).toArray U := by
    intro U hU hW
    refine ⟨rfl, ?_, hok.warm hW, hbz, fun q => ?_⟩
    · rw [hU]
      exact I.1
    · refine va_X.moved hW.alike ((hX q).kept ?_)
      rw [hU]
      exact hS.2.1 b (by omega) (by show ¬ sz ≤ b; omega)
  have hcont : ∀ (H1 : Heap) (locs1 : List Loc), mj_P G b sz w2 f2 H1 → va_S (mj_A sz) s.heap H1 locs1 → W p l e R s m args below meth c H1 locs1 (w.2.2.1 - n0 + (w2.2.2.1 - w.2.2.1)) (w.2.2.2 - s0 + (w2.2.2.2 - w.2.2.2)) Q (F0 m (pc + 3) lsA ((v.map (mj_val b sz)).toList ++ rest.map (mj_val b sz))) := by
    intro H1 locs1 hP1 hS1
    have h := kk H1 locs1 lsA ⟨hP1, hS1, hls, ?_, hn, hbz, mj_X_keep hX hX1 hX2, by omega, by omega⟩
    · unfold mj_Wg at h
      rw [e1, e2]
      rw [List.map_append] at h
      cases v with
      | none => exact h
      | some u => exact h
    · intro u hu
      rcases List.mem_append.mp hu with h | h
      · cases v with
        | none => cases h
        | some x =>
          rw [List.mem_singleton.mp h]
          exact hov x rfl
      · exact hoas u h
  unfold mj_Wg
  rcases hkind with ⟨rfl, hk, a, as', rfl, hwa⟩ | ⟨rfl, hk⟩ | ⟨rfl, hk, a, as', rfl⟩
  · rw [hk] at hi7
    simp only [Bool.and_eq_true, decide_eq_true_eq] at hi7
    obtain ⟨⟨⟨⟨j1, j2⟩, j3⟩, j4⟩, j5⟩ := hi7
    have hdg : decode (mj_code y) pc = .ok (.invokevirtual idx, 3) := mj_dec_ok hd rfl (by decide)
    have hin := hts _ (mj_t2 j1 rfl)
    have hsel := hts _ (mj_t2 j2 rfl)
    cases hcl : mj_cl[mj_cn cy]? with
    | none => rw [hcl] at j5; cases j5
    | some rr =>
      rw [hcl] at j5
      have hrr : rr.1 = (mj_nm cy).cls := Option.some.inj j5
      obtain ⟨CC, T, N⟩ := rr
      obtain ⟨-, hcn⟩ := mj_cl_nf hcl
      obtain ⟨-, -, -, -, q0, hq0⟩ := mj_P_at (G := G) (b := b) (f := f) hL hwf (mj_lv_of hwa hcn)
      rw [mj_E_obj hwa hcn] at hq0
      have hrecv := va_recv hok.1 hP hcl hq0
      rw [hrr] at hrecv
      have hlen' : (as'.map (mj_val b sz)).length = mj_ar cy - 1 := by rw [List.length_map]; simp only [List.length_cons] at hlen; omega
      have hstk : (((.inr (.inl a) :: as').reverse ++ rest).map (mj_val b sz)) = (as'.map (mj_val b sz)).reverse ++ .ref (mj_ad b sz a) :: rest.map (mj_val b sz) := by
        simp [mj_val]
      rcases hlink with hl | ⟨host, hl⟩
      · exact mj_go (va_runV (C := (mj_nm cy).cls) (b := mj_ad b sz a) (As := as'.map (mj_val b sz)) (rest := rest.map (mj_val b sz)) ⟨hx, hb, hml, hown, hts⟩ hM ⟨callB_of (mj_ar cy - 1) hts (mj_good_ws hcy) rfl rfl rfl hini1 (hts _ (mj_t2 hl rfl)) ⟨hi3, hi4, j3⟩ hR2, hin, hsel⟩ ⟨mj_B_blind, hrecv, hpre⟩ rfl hlen' hlv.1 hstk (by show 2 * 0 + _ ≤ 8; omega) hdg hfit) hS (fun q h => h) hcont
      · exact mj_go (va_runVN (C := (mj_nm cy).cls) (b := mj_ad b sz a) (As := as'.map (mj_val b sz)) (rest := rest.map (mj_val b sz)) ⟨hx, hb, hml, hown, hts⟩ hM ⟨va_cnB (mj_ar cy - 1) hts (mj_good_ws hcy) rfl rfl rfl (hok.2.2 _ (List.mem_of_getElem? hl) rfl) hini1 ⟨hi3, hi4, j3⟩ hR2, hin, hsel⟩ ⟨mj_B_blind, hrecv, hpre⟩ rfl hlen' hlv.1 hstk (by show 2 * 0 + _ ≤ 8; omega) hdg hfit) hS (fun q h => h) hcont
  · rw [hk] at hi7
    simp only [Bool.and_eq_true, decide_eq_true_eq] at hi7
    obtain ⟨j1, j3⟩ := hi7
    have hdg : decode (mj_code y) pc = .ok (.invokestatic idx, 3) := mj_dec_ok hd rfl (by decide)
    have hin := hts _ (mj_t2 j1 rfl)
    have hlen' : (as.map (mj_val b sz)).length = mj_ar cy := by rw [List.length_map]; exact hlen
    have hstk : ((as.reverse ++ rest).map (mj_val b sz)) = (as.map (mj_val b sz)).reverse ++ rest.map (mj_val b sz) := by
      simp
    rcases hlink with hl | ⟨host, hl⟩
    · exact mj_go (va_runS (As := as.map (mj_val b sz)) (rest := rest.map (mj_val b sz)) ⟨hx, hb, hml, hown, hts⟩ hM ⟨callB_of (mj_ar cy) hts (mj_good_ws hcy) rfl rfl rfl hini1 (hts _ (mj_t2 hl rfl)) ⟨hi3, hi4, j3⟩ hR2, hin⟩ ⟨mj_B_blind, hpre⟩ rfl hlen' hlv.1 hstk (by show 2 * 0 + _ ≤ 8; omega) hdg hfit) hS (fun q h => h) hcont
    · exact mj_go (va_runSN (As := as.map (mj_val b sz)) (rest := rest.map (mj_val b sz)) ⟨hx, hb, hml, hown, hts⟩ hM ⟨va_cnB (mj_ar cy) hts (mj_good_ws hcy) rfl rfl rfl (hok.2.2 _ (List.mem_of_getElem? hl) rfl) hini1 ⟨hi3, hi4, j3⟩ hR2, hin, trivial⟩ ⟨mj_B_blind, hpre⟩ rfl hlen' hlv.1 hstk (by show 2 * 0 + _ ≤ 8; omega) hdg hfit) hS (fun q h => h) hcont
  · rw [hk] at hi7
    simp only [Bool.and_eq_true, decide_eq_true_eq] at hi7
    obtain ⟨⟨⟨⟨j1, j2⟩, j4⟩, j3⟩, j5⟩ := hi7
    have hdg : decode (mj_code y) pc = .ok (.invokespecial idx, 3) := mj_dec_ok hd rfl (by decide)
    have hin := hts _ (mj_t2 j1 rfl)
    have hlen' : (as'.map (mj_val b sz)).length = mj_ar cy - 1 := by rw [List.length_map]; simp only [List.length_cons] at hlen; omega
    have hstk : (((.inr (.inl a) :: as').reverse ++ rest).map (mj_val b sz)) = (as'.map (mj_val b sz)).reverse ++ .ref (mj_ad b sz a) :: rest.map (mj_val b sz) := by
      simp [mj_val]
    have hws : mj_ws cy = Cond.code (mj_nm cy) (mj_code cy) (mj_nL cy) none :: lw_t2 := by unfold mj_ws mj_cw; rw [j4]
    rcases hlink with hl | ⟨host, hl⟩
    · exact mj_go (va_runI (b := mj_ad b sz a) (As := as'.map (mj_val b sz)) (rest := rest.map (mj_val b sz)) ⟨hx, hb, hml, hown, hts⟩ hM ⟨callB_of (mj_ar cy - 1) hts (mj_good_ws hcy) hws rfl rfl hini1 (hts _ (mj_t2 hl rfl)) ⟨hi3, hi4, j3⟩ hR2, j2, hin⟩ ⟨mj_B_blind, hpre⟩ rfl hlen' hlv.1 hstk (by show 2 * 0 + _ ≤ 8; omega) hdg hfit) hS (fun q h => h) hcont
    · exact mj_go (va_runIN (b := mj_ad b sz a) (As := as'.map (mj_val b sz)) (rest := rest.map (mj_val b sz)) ⟨hx, hb, hml, hown, hts⟩ hM ⟨va_cnB (mj_ar cy - 1) hts (mj_good_ws hcy) hws rfl rfl (hok.2.2 _ (List.mem_of_getElem? hl) rfl) hini1 ⟨hi3, hi4, j3⟩ hR2, j2, hin⟩ ⟨mj_B_blind, hpre⟩ rfl hlen' hlv.1 hstk (by show 2 * 0 + _ ≤ 8; omega) hdg hfit) hS (fun q h => h) hcont
end MJ
/-- where a method ends -/
def mj_EndK (p : Program) (l : Launch) (e : Env) (R : Room) (s : State) (m : MethodId) (args : Array Value) (below : List Frame) (meth : Method) (c : Code) (Q : State → Prop) (G : mj_G) (b sz n0 s0 y : Nat) (r : mj_O) : Prop :=
  ∀ (w1 : mj_W) (f1 : mj_F) (pc1 : Nat) (ls1 st1 : List mj_V) (i : Instr) (w2 : mj_W) (v : Option mj_V) (H1 : Heap) (locs1 : List Loc) (lsA1 : Array Slot), mj_dec y pc1 = some i → mj_end y i w1 st1 = some (w2, v) → r = (w2, f1, v) → mj_I s G b sz n0 s0 y w1 f1 ls1 st1 H1 locs1 lsA1 → mj_Wg p l e R s m args below meth c Q b sz n0 s0 w1 H1 locs1 pc1 lsA1 st1
/-- a call by way of the law's wrappers -/
def mj_8K (p : Program) (l : Launch) (e : Env) (R : Room) (s : State) (m : MethodId) (args : Array Value) (below : List Frame) (meth : Method) (c : Code) (Q : State → Prop) (G : mj_G) (b sz n0 s0 y : Nat) : Prop :=
  ∀ (n : Nat) (w1 : mj_W) (f1 : mj_F) (pc1 : Nat) (ls1 st1 : List mj_V) (i : Instr) (cy k : Nat) (as rest : List mj_V) (w2 : mj_W) (f2 f3 : mj_F) (v v3 : Option mj_V) (H1 : Heap) (locs1 : List Loc) (lsA1 : Array Slot), mj_dec y pc1 = some i → mj_callee y i w1 st1 = some (cy, as, rest, k) → k ≠ 0 → mj_exec n cy w1 f1 0 (mj_pad cy as) [] = some (w2, f2, v) → mj_ret k f2 v = some (f3, v3) → mj_I s G b sz n0 s0 y w1 f1 ls1 st1 H1 locs1 lsA1 → w2.2.2.1 - n0 ≤ R.cells → w2.2.2.2 - s0 ≤ R.slots → mj_K p l e R s m args below meth c Q G b sz n0 s0 y w2 f3 (pc1 + 3) ls1 (v3.toList ++ rest) → mj_Wg p l e R s m args below meth c Q b sz n0 s0 w1 H1 locs1 pc1 lsA1 st1
/-- a run of ours is a run of the real machine (for n steps of ours) -/
def mj_Sim (l : Launch) (n : Nat) : Prop := ∀ (y : Nat) (w : mj_W) (f : mj_F) (pc : Nat) (ls st : List mj_V) (r : mj_O), mj_exec n y w f pc ls st = some r → ∀ {p : Program} {e : Env} {R : Room} {s : State} {m : MethodId} {args : Array Value} {below : List Frame} {meth : Method} {c : Code} {Q : State → Prop} {G : mj_G} {b sz : Nat} {H : Heap} {n0 s0 : Nat} {locs : List Loc} {lsA : Array Slot},
  mj_C p s m args meth c G y → mj_I s G b sz n0 s0 y w f ls st H locs lsA → mj_lev y + 1 ≤ R.frames → 100 * (mj_lev y + 1) ≤ R.locals → r.1.2.2.1 - n0 ≤ R.cells → r.1.2.2.2 - s0 ≤ R.slots → mj_EndK p l e R s m args below meth c Q G b sz n0 s0 y r → mj_8K p l e R s m args below meth c Q G b sz n0 s0 y → mj_Wg p l e R s m args below meth c Q b sz n0 s0 w H locs pc lsA st
theorem mj_no8 : ((List.range 26).all fun cn => (mj_cts.getD cn []).all fun e => decide (cn = 10) || decide (e.2.1 ≠ 8)) = true := by decide +kernel
theorem mj_no8_ok {y : Nat} {i : Instr} {w : mj_W} {st : List mj_V} {cy k : Nat} {as rest : List mj_V} (hy : mj_cn y ≠ 10) (h : mj_callee y i w st = some (cy, as, rest, k)) : k = 0 := by
  have hA : ∀ (cy' : Nat) (virt : Bool), mj_dn y cy' (mj_args w st cy' virt) = some (cy, as, rest, k) → k = 0 := by
    intro cy' virt h
    unfold mj_dn at h
    split at h
    · unfold mj_args at h
      split at h
      · split at h
        · split at h
          · cases h; rfl
          · cases h
        · cases h
        · cases h; rfl
      · cases h
    · cases h
  unfold mj_callee at h
  split at h
  · split at h
    · exact hA _ _ h
    · exact hA _ _ h
    · cases h
  · split at h
    · exact hA _ _ h
    · exact hA _ _ h
    · next hq =>
      have hm := mj_look_mem _ _ _ hq
      have hl := mj_look_lt hq
      rw [mj_cts_len] at hl
      have h1 := List.all_eq_true.mp (List.all_eq_true.mp mj_no8 _ (List.mem_range.mpr hl)) _ hm
      simp [hy] at h1
    · cases h
  · split at h
    · exact hA _ _ h
    · exact hA _ _ h
    · cases h
  · cases h
theorem mj_cn10 : ((List.range 314).all fun y => decide (mj_cn y ≠ 10)) = true := by decide +kernel
/-- a method's contract, out of a run of ours -/
theorem mj_met {l : Launch} {n cy : Nat} {w : mj_W} {f : mj_F} {as : List mj_V} {w2 : mj_W} {f2 : mj_F} {v : Option mj_V} (hS : mj_Sim l n) (hcy : cy < 314) (hx : mj_exec n cy w f 0 (mj_pad cy as) [] = some (w2, f2, v)) (hv : ∀ k, v ≠ some (.inr (.inr (.inr k)))) (hc : ∀ v ∈ as, mj_cat v = 1) (ho : ∀ v ∈ as, mj_okv v) (hlen : as.length ≤ mj_nL cy) (G : mj_G) (b sz : Nat) :
    Met l (mj_nm cy) (mj_ws cy) (mj_rm cy (w2.2.2.1 - w.2.2.1) (w2.2.2.2 - w.2.2.2)) (va_Pc (as.map (mj_val b sz)) (mj_B G b sz w f)) (mj_Q G b sz w2 f2 v) (w2.2.2.1 - w.2.2.1) (w2.2.2.2 - w.2.2.2) (fun q => sz ≤ q) := by
  have hm := mj_mok_all hcy
  unfold mj_mok at hm
  simp only [Bool.and_eq_true, decide_eq_true_eq] at hm
  obtain ⟨⟨⟨⟨⟨⟨hi1, hi2⟩, hi3⟩, hi4⟩, hi5⟩, hi6⟩, -⟩ := hm
  refine Met.ofW (cc := mj_code cy) (maxL := mj_nL cy) (ret := mj_rt cy) hi2 rfl ?_
  intro p e s m args below meth c s₁ B hml hpre
  obtain ⟨rfl, hP, hok, hbz, hX⟩ := hpre
  have hts := atoms_spec (ws := mj_ws cy) B.pre
  have hown : s.vm.findClass (mj_own cy) = some m.cls := by rw [mj_own_nm (by omega)]; exact findClass_of_methodNamed B.named
  have hlocks := B.notSynchronized
  have hret := B.returns
  have hnm := (name_of_methodNamed B.named B.method).1
  obtain ⟨lsA, he, hls⟩ := mj_entry (b := b) (sz := sz) hc ho hlen m
  rw [he]
  have hC : mj_C p s m (as.map (mj_val b sz)).toArray meth c G cy := ⟨B.exec, B.bytes, hml, hown, fun w hw => hts w (List.mem_cons_of_mem _ hw), fun h => by rw [hnm]; exact beq_iff_eq.mp h, hok⟩
  obtain ⟨L, hP1, hD, hL, hz, hwf, hr⟩ := hP
  have hI : mj_I s G b sz w.2.2.1 w.2.2.2 cy w f (mj_pad cy as) [] s.heap [] lsA := ⟨⟨L, hP1, hD, hL, hz, hwf, hr⟩, va_S.rf, hls, (fun v hv => by cases hv), ⟨hz, hwf.1⟩, hbz, hX, Nat.le_refl _, Nat.le_refl _⟩
  have hcn : mj_cn cy ≠ 10 := of_decide_eq_true (List.all_eq_true.mp mj_cn10 cy (List.mem_range.mpr hcy))
  have key := hS cy w f 0 (mj_pad cy as) [] _ hx (R := (headSpec (mj_ws cy) (mj_rm cy (w2.2.2.1 - w.2.2.1) (w2.2.2.2 - w.2.2.2))).room) (below := below) (Q := MQ below (mj_Q G b sz w2 f2 v) (as.map (mj_val b sz)).toArray s (w2.2.2.1 - w.2.2.1) (w2.2.2.2 - w.2.2.2) (fun q => sz ≤ q)) (p := p) (e := e) hC hI (Nat.le_refl _) (Nat.le_refl _) (Nat.le_refl _) (Nat.le_refl _) ?_ ?_
  · unfold mj_Wg at key
    rw [Nat.sub_self, Nat.sub_self] at key
    exact key
  · intro w1 f1 pc1 ls1 st1 i w3 v3 H1 locs1 lsA1 hd hend hreq I1
    have hq : (w2, f2, v) = (w3, f1, v3) := hreq
    cases hq
    have hfree : ∀ q ∈ locs1, sz ≤ q.base := I1.2.1.2.2
    have hdx : ∀ {j : Instr}, i = j → mj_len j = 1 → decode (mj_code cy) pc1 = .ok (j, 1) := fun hj h1 => by subst hj; exact mj_dec_ok hd h1 (by decide)
    unfold mj_end at hend
    split at hend
    · split at hend
      · next x =>
        split at hend
        · next hrt =>
          cases hend
          have hq : ∀ t : State, t.heap = H1 → s.WarmedH t.vm → mj_Q G b sz w2 f2 (some (.inl x)) (as.map (mj_val b sz)).toArray s (.returned (some (.int (Int32.ofInt x)))) t := fun t ht _ => ⟨rfl, by rw [ht]; exact I1.1, I1.2.1.F ht⟩
          rcases hrt with hrt | ⟨hrt, h01⟩
          · exact W.iret B.exec B.bytes (by rw [hret, hrt]) hq hfree (hdx rfl rfl) hlocks
          · exact W.zret (ty := .boolean) B.exec B.bytes (by rw [hret, hrt]) (mj_narrow_i (Or.inr ⟨rfl, h01⟩)).1 hq hfree (hdx rfl rfl) hlocks
        · cases hend
      · cases hend
    · split at hend
      · next a =>
        split at hend
        · next hrt =>
          cases hend
          have hq : ∀ t : State, t.heap = H1 → s.WarmedH t.vm → mj_Q G b sz w2 f2 (some (.inr (.inl a))) (as.map (mj_val b sz)).toArray s (.returned (some (.ref (mj_ad b sz a)))) t := fun t ht _ => ⟨rfl, by rw [ht]; exact I1.1, I1.2.1.F ht⟩
          exact W.aret (rt := .object "ClockZones$Times") B.exec B.bytes (by rw [hret, hrt.2]) (Or.inl ⟨_, rfl⟩) (Or.inr ⟨_, rfl⟩) hq hfree (hdx rfl rfl) hlocks
        · cases hend
      · cases hend
    · split at hend
      · split at hend
        · next hrt =>
          cases hend
          have hq : ∀ t : State, t.heap = H1 → s.WarmedH t.vm → mj_Q G b sz w2 f2 none (as.map (mj_val b sz)).toArray s (.returned none) t := fun t ht _ => ⟨rfl, by rw [ht]; exact I1.1, I1.2.1.F ht⟩
          exact W.vret B.exec B.bytes (by rw [hret, hrt]) hq hfree (hdx rfl rfl) hlocks
        · cases hend
      · cases hend
    · split at hend
      · cases hend
        exact absurd rfl (hv _)
      · cases hend
    · cases hend
  · intro n w1 f1 pc1 ls1 st1 i cy' k as' rest w2' f2' f3' v' v3' H1 locs1 lsA1 hd hc hk
    exact absurd (mj_no8_ok hcn hc) hk
theorem mj_simx (l : Launch) : ∀ n, mj_Sim l n := by
  intro n
  induction n with
  | zero => intro y w f pc ls st r h; simp [mj_exec] at h
  | succ n ih =>
    intro y w f pc ls st r h p e R s m args below meth c Q G b sz H n0 s0 locs lsA hC I hRf hRl hRc hRs hend h8
    obtain ⟨⟨L, hP, hD, hL, hz, hwf, hr⟩, hS, hls, ho, hn, hbz, hX, hn0, hs0⟩ := id I
    have hlo : ∀ v ∈ ls, mj_okv v := hls.2.1
    rw [mj_exec] at h
    cases hnx : mj_nx y w f pc ls st with
    | none => rw [hnx] at h; simp at h
    | some q =>
      rw [hnx] at h
      rcases q with ⟨w', v⟩ | ⟨cy, as, rest, k⟩ | ⟨w', f', pc', ls', st'⟩
      · cases h
        obtain ⟨i, hd, he, -⟩ := mj_nx_end hnx
        exact hend w f pc ls st i w' v H locs lsA hd he rfl I
      · dsimp only at h
        obtain ⟨i, hd, hc, -⟩ := mj_nx_call hnx
        obtain ⟨m1, m2, m3⟩ := mj_callee_mem hc
        cases hx : mj_exec n cy w f 0 (mj_pad cy as) [] with
        | none => rw [hx] at h; simp at h
        | some q =>
          obtain ⟨w2, f2, v⟩ := q
          rw [hx] at h
          dsimp only at h
          obtain ⟨g1, g2, g3⟩ := mj_exec_inv _ _ _ _ _ _ _ _ hx hwf hr (mj_pad_ok (fun v hv => ho v (m1 v hv))) (fun v hv => by cases hv)
          cases hrt : mj_ret k f2 v with
          | none => rw [hrt] at h; simp at h
          | some q =>
            obtain ⟨f3, v3⟩ := q
            rw [hrt] at h
            dsimp only at h
            have hkl : k ≠ 0 → mj_lv w2 k := fun hk => by
              have h3 := m3 hk
              have hlv : mj_lv w k := by unfold mj_lv; rw [h3]; omega
              unfold mj_lv
              rw [g1.2.2.2.2.2.2 k hlv]
              exact hlv
            obtain ⟨j1, j2⟩ := mj_ret_inv (w := w2) g1.1 g1.2.1 hkl g2 hrt g3
            have hst3 : ∀ u ∈ v3.toList ++ rest, mj_okv u := fun u hu => by
              rcases List.mem_append.mp hu with hu | hu
              · exact j2 u (by cases v3 with | none => cases hu | some x => rw [List.mem_singleton.mp hu])
              · exact ho u (m2 u hu)
            obtain ⟨q1, -⟩ := mj_exec_inv _ _ _ _ _ _ _ _ h j1.1 j1.2.1 hlo hst3
            have hmono := q1.2.2.2.2.1
            have hmono2 := q1.2.2.2.2.2.1
            have hc1 : w2.2.2.1 - n0 ≤ R.cells := by omega
            have hc2 : w2.2.2.2 - s0 ≤ R.slots := by omega
            have kk : mj_K p l e R s m args below meth c Q G b sz n0 s0 y w2 f3 (pc + 3) ls (v3.toList ++ rest) := fun H1 locs1 lsA1 I1 => ih y w2 f3 (pc + 3) ls (v3.toList ++ rest) r h hC I1 hRf hRl hRc hRs hend h8
            by_cases hk : k = 0
            · subst hk
              have hv : (∀ k, v ≠ some (.inr (.inr (.inr k)))) ∧ f3 = f2 ∧ v3 = v := by
                cases v with
                | none =>
                  change some (f2, (none : Option mj_V)) = some (f3, v3) at hrt
                  cases hrt
                  exact ⟨fun k hk => (by cases hk), rfl, rfl⟩
                | some u =>
                  rcases u with u | u | u | u
                  · change some (f2, (some (.inl u) : Option mj_V)) = some (f3, v3) at hrt
                    cases hrt
                    exact ⟨fun k hk => (by cases hk), rfl, rfl⟩
                  · change some (f2, (some (.inr (.inl u)) : Option mj_V)) = some (f3, v3) at hrt
                    cases hrt
                    exact ⟨fun k hk => (by cases hk), rfl, rfl⟩
                  · change some (f2, (some (.inr (.inr (.inl u))) : Option mj_V)) = some (f3, v3) at hrt
                    cases hrt
                    exact ⟨fun k hk => (by cases hk), rfl, rfl⟩
                  · change (none : Option (mj_F × Option mj_V)) = some (f3, v3) at hrt
                    cases hrt
              obtain ⟨hv, rfl, rfl⟩ := hv
              obtain ⟨-, hcy, -, hlen, -, hcat, -⟩ := mj_callee_ok hwf hc
              have hm := mj_mok_all hcy
              unfold mj_mok at hm
              simp only [Bool.and_eq_true, decide_eq_true_eq] at hm
              obtain ⟨⟨⟨⟨⟨⟨hi1, hi2⟩, hi3⟩, hi4⟩, hi5⟩, hi6⟩, -⟩ := hm
              exact mj_call0 hC I hd hc ⟨g1.2.2.2.2.1, g1.2.2.2.2.2.1⟩ (mj_met ih hcy hx hv hcat (fun v hv => ho v (m1 v hv)) (by omega) G b sz) hRf hRl hc1 hc2 g1.2.2.1 g1.2.2.2.1 g2 kk
            · exact h8 n w f pc ls st i cy k as rest w2 f2 f3 v v3 H locs lsA hd hc hk hx hrt I hc1 hc2 kk
      · dsimp only at h
        obtain ⟨i, hd, hs, -⟩ := mj_nx_stp hnx
        obtain ⟨j1, j2, j3⟩ := mj_stp_inv hwf hr hlo ho hs
        obtain ⟨q1, -⟩ := mj_exec_inv _ _ _ _ _ _ _ _ h j1.1 j1.2.1 j2 j3
        have hmono := q1.2.2.2.2.1
        have hmono2 := q1.2.2.2.2.2.1
        exact mj_step hC I hd hs (by omega) (by omega) (by omega) (by omega) (fun H1 locs1 lsA1 I1 => ih y w' f' pc' ls' st' r h hC I1 hRf hRl hRc hRs hend h8)
end
section
/-! Rows of our own machine, goal first: an instruction each; what a method that makes no cell leaves alone. -/
def mj_gd (c : Prop) [Decidable c] (x : Option mj_O) : Option mj_O := if c then x else none
def mj_bi (o : Option mj_O) (k : mj_F → Int → Option mj_O) : Option mj_O := match o with
  | some (_, f, some (.inl x)) => k f x
  | _ => none
def mj_bu (o : Option mj_O) (k : mj_F → Option mj_O) : Option mj_O := match o with
  | some (_, f, none) => k f
  | _ => none
def mj_ba (o : Option mj_O) (k : mj_F → Nat → Option mj_O) : Option mj_O := match o with
  | some (_, f, some (.inr (.inl a))) => k f a
  | _ => none
theorem mj_bi_some (w : mj_W) (f : mj_F) (x : Int) (k : mj_F → Int → Option mj_O) : mj_bi (some (w, f, some (.inl x))) k = k f x := rfl
theorem mj_bu_some (w : mj_W) (f : mj_F) (k : mj_F → Option mj_O) : mj_bu (some (w, f, none)) k = k f := rfl
theorem mj_ba_some (w : mj_W) (f : mj_F) (a : Nat) (k : mj_F → Nat → Option mj_O) : mj_ba (some (w, f, some (.inr (.inl a)))) k = k f a := rfl
theorem mj_gd_pos {c : Prop} [Decidable c] (h : c) (x : Option mj_O) : mj_gd c x = x := if_pos h
section MS
variable {y : Nat} {w w' : mj_W} {f f' : mj_F} {pc p' : Nat} {ls ls' st st' : List mj_V} {X : Option mj_O}
theorem mj_stp_w {i : Instr} (hk : mj_keepw y i = true) (h : mj_stp y i w f pc ls st = some (w', f', p', ls', st')) : w' = w := by
  have hj : ∀ {off : Int} {r : List mj_V}, mj_jmp w f pc off ls r = some (w', f', p', ls', st') → w' = w := fun h => (mj_jmp_ok h).2.1
  have hi : ∀ {c0 : Prop} [Decidable c0] {off : Int} {r : List mj_V}, mj_if c0 w f pc off ls r = some (w', f', p', ls', st') → w' = w := fun h => (mj_J_if h).1
  cases i with
  | getfield idx =>
    simp only [mj_stp, mj_getf] at h
    split at h
    · split at h
      · split at h
        · split at h
          · cases h
          · cases h; rfl
        · cases h; rfl
      · cases h
    · cases h
  | putfield idx =>
    simp only [mj_stp, mj_putf] at h
    split at h
    · split at h
      · split at h
        · cases h; rfl
        · cases h
      · cases h
    · next hq =>
      split at h
      · split at h
        · next hw =>
          simp [mj_keepw, hq, hw.2.1] at hk
        · cases h
      · cases h
    · cases h
  | goto off => exact hj h
  | ifCond cc off =>
    simp only [mj_stp] at h
    split at h
    · cases cc <;> exact hi h
    · cases h
  | if_icmp cc off =>
    simp only [mj_stp] at h
    split at h
    · cases cc <;> exact hi h
    · cases h
  | tableswitch dflt lo hi offs =>
    simp only [mj_stp] at h
    split at h
    · split at h
      · exact hj h
      · split at h
        · exact hj h
        · cases h
    · cases h
  | lookupswitch dflt ps =>
    simp only [mj_stp] at h
    split at h
    · split at h
      · exact hj h
      · cases h
    · cases h
  | new idx => cases hk
  | newarray ty => cases hk
  | anewarray idx => cases hk
  | aastore => cases hk
  | _ => first
    | (cases h; done)
    | (cases h; rfl)
    | (simp only [mj_stp, mj_ldi, mj_ldl, mj_lda, mj_sti, mj_stl, mj_sta, mj_b2, mj_b1, mj_l2, mj_iald, mj_bald, mj_lald, mj_aald, mj_iast, mj_bast, mj_alen, mj_spec, mj_copy] at h
       repeat' split at h
       all_goals first | (cases h; rfl) | (cases h; done))
end MS
/-- a method that makes no cell leaves the cells alone, and answers as its type says -/
theorem mj_pure : ∀ (n y : Nat) (w : mj_W) (f : mj_F) (pc : Nat) (ls st : List mj_V) (r : mj_O), mj_exec n y w f pc ls st = some r → mj_imp y = false → r.1 = w ∧ (mj_rt y = none → r.2.2 = none) ∧ ((mj_rt y = some .int ∨ mj_rt y = some .boolean) → ∃ x, r.2.2 = some (.inl x)) := by
  intro n
  induction n with
  | zero => intro y w f pc ls st r h; simp [mj_exec] at h
  | succ n ih =>
    intro y w f pc ls st r h hy
    rw [mj_exec] at h
    cases hn : mj_nx y w f pc ls st with
    | none => rw [hn] at h; simp at h
    | some q =>
      rw [hn] at h
      rcases q with ⟨w', v⟩ | ⟨cy, as, rest, k⟩ | ⟨w', f', pc', ls', st'⟩
      · cases h
        obtain ⟨i, -, he, hk⟩ := mj_nx_end hn
        rw [hy] at hk
        have hk : mj_keepw y i = true := by rcases hk with h | h; cases h; exact h
        unfold mj_end at he
        split at he
        · split at he
          · split at he
            · next hrt =>
              cases he
              refine ⟨rfl, fun h => ?_, fun _ => ⟨_, rfl⟩⟩
              rw [h] at hrt
              rcases hrt with h | ⟨h, -⟩ <;> cases h
            · cases he
          · cases he
        · split at he
          · split at he
            · next hrt =>
              cases he
              refine ⟨rfl, fun h => ?_, fun h => ?_⟩
              · rw [h] at hrt
                cases hrt.2
              · rw [hrt.2] at h
                rcases h with h | h <;> cases h
            · cases he
          · cases he
        · split at he
          · split at he
            · next hrt =>
              cases he
              refine ⟨rfl, fun _ => rfl, fun h => ?_⟩
              rw [hrt] at h
              rcases h with h | h <;> cases h
            · cases he
          · cases he
        · cases hk
        · cases he
      · dsimp only at h
        obtain ⟨i, -, hc, hk⟩ := mj_nx_call hn
        rw [hy] at hk
        have hk : mj_imp cy = false := by rcases hk with h | h; cases h; exact h
        cases hx : mj_exec n cy w f 0 (mj_pad cy as) [] with
        | none => rw [hx] at h; simp at h
        | some q =>
          obtain ⟨w', f', v⟩ := q
          rw [hx] at h
          dsimp only at h
          have hw := (ih _ _ _ _ _ _ _ hx hk).1
          cases hrt : mj_ret k f' v with
          | none => rw [hrt] at h; simp at h
          | some q =>
            obtain ⟨f'', v'⟩ := q
            rw [hrt] at h
            dsimp only at h
            have h2 := ih _ _ _ _ _ _ _ h hy
            exact ⟨h2.1.trans hw, h2.2⟩
      · dsimp only at h
        obtain ⟨i, -, hs, hk⟩ := mj_nx_stp hn
        rw [hy] at hk
        have hk : mj_keepw y i = true := by rcases hk with h | h; cases h; exact h
        have hw := mj_stp_w hk hs
        have h2 := ih _ _ _ _ _ _ _ h hy
        exact ⟨h2.1.trans hw, h2.2⟩
theorem mj_call_pure {cy : Nat} {w : mj_W} {f : mj_F} {as : List mj_V} {r : mj_O} (h : mj_call cy w f as = some r) (hy : mj_imp cy = false) : r.1 = w ∧ (mj_rt cy = none → r.2.2 = none) ∧ ((mj_rt cy = some .int ∨ mj_rt cy = some .boolean) → ∃ x, r.2.2 = some (.inl x)) := by
  obtain ⟨n, hn⟩ := mj_run_ex h
  exact mj_pure n _ _ _ _ _ _ _ hn hy
section MS
variable {y : Nat} {w w' : mj_W} {f f' : mj_F} {pc p' : Nat} {ls ls' st st' : List mj_V} {X : Option mj_O}
theorem mj_run_none (h : mj_nx y w f pc ls st = none) : mj_run y w f pc ls st = none := by
  cases hr : mj_run y w f pc ls st with
  | none => rfl
  | some r =>
    obtain ⟨n, hn⟩ := mj_run_ex hr
    cases n with
    | zero => simp [mj_exec] at hn
    | succ n => rw [mj_exec, h] at hn; cases hn
theorem mj_j_pos {off : Int} {t : Nat} (h : mj_j pc off = some t) : 0 ≤ (pc : Int) + off := by
  unfold mj_j at h
  split at h
  · assumption
  · cases h
theorem ms_run {i : Instr} (d : mj_dec y pc = some i) (hk : mj_keepw y i = true) (he : mj_end y i w st = none) (hc : mj_callee y i w st = none) (hs : mj_stp y i w f pc ls st = some (w', f', p', ls', st')) (h : mj_run y w' f' p' ls' st' = X) : mj_run y w f pc ls st = X :=
  (mj_run_step (by unfold mj_nx; rw [d]; dsimp only; rw [if_pos (Or.inr hk), he, hc, hs])).trans h
theorem ms_iconst {n v : Int} (d : mj_dec y pc = some (.iconst n) ∧ (Int32.ofInt n).toInt = v) (hp : pc + 1 = p') (h : mj_run y w f p' ls (.inl v :: st) = X) : mj_run y w f pc ls st = X := by
  obtain ⟨d, rfl⟩ := d
  subst hp
  exact ms_run d rfl rfl rfl rfl h
theorem ms_bipush {n v : Int} (d : mj_dec y pc = some (.bipush n) ∧ (Int8.ofInt n).toInt32.toInt = v) (hp : pc + 2 = p') (h : mj_run y w f p' ls (.inl v :: st) = X) : mj_run y w f pc ls st = X := by
  obtain ⟨d, rfl⟩ := d
  subst hp
  exact ms_run d rfl rfl rfl rfl h
theorem ms_sipush {n v : Int} (d : mj_dec y pc = some (.sipush n) ∧ (Int16.ofInt n).toInt32.toInt = v) (hp : pc + 3 = p') (h : mj_run y w f p' ls (.inl v :: st) = X) : mj_run y w f pc ls st = X := by
  obtain ⟨d, rfl⟩ := d
  subst hp
  exact ms_run d rfl rfl rfl rfl h
theorem ms_ldc {idx : Nat} {v : Int} (d : mj_dec y pc = some (.ldc idx) ∧ (mj_kl (mj_cn y) idx).map (fun q => q.1.toInt) = some v) (hp : pc + 2 = p') (h : mj_run y w f p' ls (.inl v :: st) = X) : mj_run y w f pc ls st = X := by
  obtain ⟨d, hv⟩ := d
  subst hp
  cases hq : mj_kl (mj_cn y) idx with
  | none => rw [hq] at hv; cases hv
  | some q =>
    rw [hq] at hv
    cases hv
    refine ms_run d rfl rfl rfl ?_ h
    simp only [mj_stp, hq]
theorem ms_ldc_w {idx : Nat} {v : Int} (d : mj_dec y pc = some (.ldc_w idx) ∧ (mj_kl (mj_cn y) idx).map (fun q => q.1.toInt) = some v) (hp : pc + 3 = p') (h : mj_run y w f p' ls (.inl v :: st) = X) : mj_run y w f pc ls st = X := by
  obtain ⟨d, hv⟩ := d
  subst hp
  cases hq : mj_kl (mj_cn y) idx with
  | none => rw [hq] at hv; cases hv
  | some q =>
    rw [hq] at hv
    cases hv
    refine ms_run d rfl rfl rfl ?_ h
    simp only [mj_stp, hq]
theorem ms_lconst {n : Fin 2} {v : Int} (d : mj_dec y pc = some (.lconst n) ∧ ((n : Nat) : Int) = v) (hp : pc + 1 = p') (h : mj_run y w f p' ls (.inr (.inr (.inl v)) :: st) = X) : mj_run y w f pc ls st = X := by
  obtain ⟨d, rfl⟩ := d
  subst hp
  exact ms_run d rfl rfl rfl rfl h
theorem ms_iload {k : Nat} {v : Int} (d : mj_dec y pc = some (.iload k)) (hp : pc + 2 = p') (hl : ls[k]? = some (.inl v)) (h : mj_run y w f p' ls (.inl v :: st) = X) : mj_run y w f pc ls st = X := by
  subst hp
  refine ms_run d rfl rfl rfl ?_ h
  simp only [mj_stp, mj_ldi, hl]
theorem ms_iload_n {k : Fin 4} {v : Int} (d : mj_dec y pc = some (.iload_n k)) (hp : pc + 1 = p') (hl : ls[(k : Nat)]? = some (.inl v)) (h : mj_run y w f p' ls (.inl v :: st) = X) : mj_run y w f pc ls st = X := by
  subst hp
  refine ms_run d rfl rfl rfl ?_ h
  simp only [mj_stp, mj_ldi, hl]
theorem ms_aload {k : Nat} {v : Nat} (d : mj_dec y pc = some (.aload k)) (hp : pc + 2 = p') (hl : ls[k]? = some (.inr (.inl v))) (h : mj_run y w f p' ls (.inr (.inl v) :: st) = X) : mj_run y w f pc ls st = X := by
  subst hp
  refine ms_run d rfl rfl rfl ?_ h
  simp only [mj_stp, mj_lda, hl]
theorem ms_aload_n {k : Fin 4} {v : Nat} (d : mj_dec y pc = some (.aload_n k)) (hp : pc + 1 = p') (hl : ls[(k : Nat)]? = some (.inr (.inl v))) (h : mj_run y w f p' ls (.inr (.inl v) :: st) = X) : mj_run y w f pc ls st = X := by
  subst hp
  refine ms_run d rfl rfl rfl ?_ h
  simp only [mj_stp, mj_lda, hl]
theorem ms_lload {k : Nat} {v : Int} (d : mj_dec y pc = some (.lload k)) (hp : pc + 2 = p') (hl : ls[k]? = some (.inr (.inr (.inl v)))) (h : mj_run y w f p' ls (.inr (.inr (.inl v)) :: st) = X) : mj_run y w f pc ls st = X := by
  subst hp
  refine ms_run d rfl rfl rfl ?_ h
  simp only [mj_stp, mj_ldl, hl]
theorem ms_lload_n {k : Fin 4} {v : Int} (d : mj_dec y pc = some (.lload_n k)) (hp : pc + 1 = p') (hl : ls[(k : Nat)]? = some (.inr (.inr (.inl v)))) (h : mj_run y w f p' ls (.inr (.inr (.inl v)) :: st) = X) : mj_run y w f pc ls st = X := by
  subst hp
  refine ms_run d rfl rfl rfl ?_ h
  simp only [mj_stp, mj_ldl, hl]
theorem ms_istore {k : Nat} {v : Int} (d : mj_dec y pc = some (.istore k)) (hp : pc + 2 = p') (hk : k < ls.length) (hl : mj_set ls k (.inl v) = ls') (h : mj_run y w f p' ls' st = X) : mj_run y w f pc ls (.inl v :: st) = X := by
  subst hp
  subst hl
  refine ms_run d rfl rfl rfl ?_ h
  simp only [mj_stp, mj_sti, if_pos hk]
theorem ms_istore_n {k : Fin 4} {v : Int} (d : mj_dec y pc = some (.istore_n k)) (hp : pc + 1 = p') (hk : (k : Nat) < ls.length) (hl : mj_set ls k (.inl v) = ls') (h : mj_run y w f p' ls' st = X) : mj_run y w f pc ls (.inl v :: st) = X := by
  subst hp
  subst hl
  refine ms_run d rfl rfl rfl ?_ h
  simp only [mj_stp, mj_sti, if_pos hk]
theorem ms_astore {k : Nat} {v : Nat} (d : mj_dec y pc = some (.astore k)) (hp : pc + 2 = p') (hk : k < ls.length) (hl : mj_set ls k (.inr (.inl v)) = ls') (h : mj_run y w f p' ls' st = X) : mj_run y w f pc ls (.inr (.inl v) :: st) = X := by
  subst hp
  subst hl
  refine ms_run d rfl rfl rfl ?_ h
  simp only [mj_stp, mj_sta, if_pos hk]
theorem ms_astore_n {k : Fin 4} {v : Nat} (d : mj_dec y pc = some (.astore_n k)) (hp : pc + 1 = p') (hk : (k : Nat) < ls.length) (hl : mj_set ls k (.inr (.inl v)) = ls') (h : mj_run y w f p' ls' st = X) : mj_run y w f pc ls (.inr (.inl v) :: st) = X := by
  subst hp
  subst hl
  refine ms_run d rfl rfl rfl ?_ h
  simp only [mj_stp, mj_sta, if_pos hk]
theorem ms_lstore {k : Nat} {v : Int} (d : mj_dec y pc = some (.lstore k)) (hp : pc + 2 = p') (hk : k + 1 < ls.length) (hl : (mj_set ls k (.inr (.inr (.inl v)))).set (k + 1) (.inr (.inr (.inr 0))) = ls') (h : mj_run y w f p' ls' st = X) : mj_run y w f pc ls (.inr (.inr (.inl v)) :: st) = X := by
  subst hp
  subst hl
  refine ms_run d rfl rfl rfl ?_ h
  simp only [mj_stp, mj_stl, if_pos hk]
theorem ms_iinc {k : Nat} {n v : Int} (d : mj_dec y pc = some (.iinc k n)) (hp : pc + 3 = p') (hv : ls[k]? = some (.inl v)) (hl : mj_set ls k (.inl (mj_w (v + n))) = ls') (h : mj_run y w f p' ls' st = X) : mj_run y w f pc ls st = X := by
  subst hp
  subst hl
  refine ms_run d rfl rfl rfl ?_ h
  simp only [mj_stp, hv]
theorem ms_iadd {a b : Int} (d : mj_dec y pc = some .iadd) (hp : pc + 1 = p') (h : mj_run y w f p' ls (.inl (mj_w (a + b)) :: st) = X) : mj_run y w f pc ls (.inl b :: .inl a :: st) = X := by
  subst hp
  exact ms_run d rfl rfl rfl rfl h
theorem ms_isub {a b : Int} (d : mj_dec y pc = some .isub) (hp : pc + 1 = p') (h : mj_run y w f p' ls (.inl (mj_w (a - b)) :: st) = X) : mj_run y w f pc ls (.inl b :: .inl a :: st) = X := by
  subst hp
  exact ms_run d rfl rfl rfl rfl h
theorem ms_imul {a b : Int} (d : mj_dec y pc = some .imul) (hp : pc + 1 = p') (h : mj_run y w f p' ls (.inl (mj_w (a * b)) :: st) = X) : mj_run y w f pc ls (.inl b :: .inl a :: st) = X := by
  subst hp
  exact ms_run d rfl rfl rfl rfl h
theorem ms_iand {a b : Int} (d : mj_dec y pc = some .iand) (hp : pc + 1 = p') (h : mj_run y w f p' ls (.inl (mj_and a b) :: st) = X) : mj_run y w f pc ls (.inl b :: .inl a :: st) = X := by
  subst hp
  exact ms_run d rfl rfl rfl rfl h
theorem ms_ior {a b : Int} (d : mj_dec y pc = some .ior) (hp : pc + 1 = p') (h : mj_run y w f p' ls (.inl (mj_or a b) :: st) = X) : mj_run y w f pc ls (.inl b :: .inl a :: st) = X := by
  subst hp
  exact ms_run d rfl rfl rfl rfl h
theorem ms_ishl {a b : Int} (d : mj_dec y pc = some .ishl) (hp : pc + 1 = p') (h : mj_run y w f p' ls (.inl (mj_shl a b) :: st) = X) : mj_run y w f pc ls (.inl b :: .inl a :: st) = X := by
  subst hp
  exact ms_run d rfl rfl rfl rfl h
theorem ms_ishr {a b : Int} (d : mj_dec y pc = some .ishr) (hp : pc + 1 = p') (h : mj_run y w f p' ls (.inl (mj_shr a b) :: st) = X) : mj_run y w f pc ls (.inl b :: .inl a :: st) = X := by
  subst hp
  exact ms_run d rfl rfl rfl rfl h
theorem ms_idiv {a b : Int} (d : mj_dec y pc = some .idiv) (hp : pc + 1 = p') (h : ¬ b = 0 → mj_run y w f p' ls (.inl (mj_div a b) :: st) = X) : mj_run y w f pc ls (.inl b :: .inl a :: st) = mj_gd (¬ b = 0) X := by
  subst hp
  unfold mj_gd
  by_cases hb : b = 0
  · rw [if_neg (fun q => q hb)]
    exact mj_run_none (by simp [mj_nx, d, mj_end, mj_callee, mj_stp, hb])
  · rw [if_pos hb]
    refine ms_run d rfl rfl rfl ?_ (h hb)
    simp only [mj_stp, if_neg hb]
theorem ms_irem {a b : Int} (d : mj_dec y pc = some .irem) (hp : pc + 1 = p') (h : ¬ b = 0 → mj_run y w f p' ls (.inl (mj_rem a b) :: st) = X) : mj_run y w f pc ls (.inl b :: .inl a :: st) = mj_gd (¬ b = 0) X := by
  subst hp
  unfold mj_gd
  by_cases hb : b = 0
  · rw [if_neg (fun q => q hb)]
    exact mj_run_none (by simp [mj_nx, d, mj_end, mj_callee, mj_stp, hb])
  · rw [if_pos hb]
    refine ms_run d rfl rfl rfl ?_ (h hb)
    simp only [mj_stp, if_neg hb]
theorem ms_ineg {a : Int} (d : mj_dec y pc = some .ineg) (hp : pc + 1 = p') (h : mj_run y w f p' ls (.inl (mj_w (-a)) :: st) = X) : mj_run y w f pc ls (.inl a :: st) = X := by
  subst hp
  exact ms_run d rfl rfl rfl rfl h
theorem ms_i2b {a : Int} (d : mj_dec y pc = some .i2b) (hp : pc + 1 = p') (h : mj_run y w f p' ls (.inl (mj_w8 a) :: st) = X) : mj_run y w f pc ls (.inl a :: st) = X := by
  subst hp
  exact ms_run d rfl rfl rfl rfl h
theorem ms_i2l {a : Int} (d : mj_dec y pc = some .i2l) (hp : pc + 1 = p') (h : mj_run y w f p' ls (.inr (.inr (.inl a)) :: st) = X) : mj_run y w f pc ls (.inl a :: st) = X := by
  subst hp
  exact ms_run d rfl rfl rfl rfl h
theorem ms_lsub {a b : Int} (d : mj_dec y pc = some .lsub) (hp : pc + 1 = p') (h : mj_run y w f p' ls (.inr (.inr (.inl (mj_w64 (a - b)))) :: st) = X) : mj_run y w f pc ls (.inr (.inr (.inl b)) :: .inr (.inr (.inl a)) :: st) = X := by
  subst hp
  exact ms_run d rfl rfl rfl rfl h
theorem ms_lmul {a b : Int} (d : mj_dec y pc = some .lmul) (hp : pc + 1 = p') (h : mj_run y w f p' ls (.inr (.inr (.inl (mj_w64 (a * b)))) :: st) = X) : mj_run y w f pc ls (.inr (.inr (.inl b)) :: .inr (.inr (.inl a)) :: st) = X := by
  subst hp
  exact ms_run d rfl rfl rfl rfl h
theorem ms_lcmp {a b : Int} (d : mj_dec y pc = some .lcmp) (hp : pc + 1 = p') (h : mj_run y w f p' ls (.inl (mj_cmp a b) :: st) = X) : mj_run y w f pc ls (.inr (.inr (.inl b)) :: .inr (.inr (.inl a)) :: st) = X := by
  subst hp
  exact ms_run d rfl rfl rfl rfl h
theorem ms_dup_i {a : Int} (d : mj_dec y pc = some .dup) (hp : pc + 1 = p') (h : mj_run y w f p' ls (.inl a :: .inl a :: st) = X) : mj_run y w f pc ls (.inl a :: st) = X := by
  subst hp
  exact ms_run d rfl rfl rfl rfl h
theorem ms_dup_a {a : Nat} (d : mj_dec y pc = some .dup) (hp : pc + 1 = p') (h : mj_run y w f p' ls (.inr (.inl a) :: .inr (.inl a) :: st) = X) : mj_run y w f pc ls (.inr (.inl a) :: st) = X := by
  subst hp
  exact ms_run d rfl rfl rfl rfl h
theorem ms_dup2 {a : Nat} {b : Int} (d : mj_dec y pc = some .dup2) (hp : pc + 1 = p') (h : mj_run y w f p' ls (.inl b :: .inr (.inl a) :: .inl b :: .inr (.inl a) :: st) = X) : mj_run y w f pc ls (.inl b :: .inr (.inl a) :: st) = X := by
  subst hp
  exact ms_run d rfl rfl rfl rfl h
theorem ms_pop_i {a : Int} (d : mj_dec y pc = some .pop) (hp : pc + 1 = p') (h : mj_run y w f p' ls st = X) : mj_run y w f pc ls (.inl a :: st) = X := by
  subst hp
  exact ms_run d rfl rfl rfl rfl h
theorem ms_goto {off : Int} (d : mj_dec y pc = some (.goto off) ∧ mj_j pc off = some p') (h : mj_run y w f p' ls st = X) : mj_run y w f pc ls st = X := by
  obtain ⟨d, hj⟩ := d
  refine ms_run d rfl rfl rfl ?_ h
  simp only [mj_stp, mj_jmp, hj]
theorem ms_icmp_eq {a b off : Int} {t : Nat} {X1 X2 : Option mj_O} (d : mj_dec y pc = some (.if_icmp .eq off) ∧ mj_j pc off = some t) (hp : pc + 3 = p') (h1 : a = b → mj_run y w f t ls st = X1) (h2 : ¬ (a = b) → mj_run y w f p' ls st = X2) : mj_run y w f pc ls (.inl b :: .inl a :: st) = if a = b then X1 else X2 := by
  obtain ⟨d, hj⟩ := d
  subst hp
  by_cases hc : a = b
  · rw [if_pos hc]
    refine ms_run d rfl rfl rfl ?_ (h1 hc)
    simp only [mj_stp, mj_if, mj_jmp, if_pos hc, hj]
  · rw [if_neg hc]
    refine ms_run d rfl rfl rfl ?_ (h2 hc)
    simp only [mj_stp, mj_if, if_neg hc, if_pos (mj_j_pos hj)]
theorem ms_icmp_ne {a b off : Int} {t : Nat} {X1 X2 : Option mj_O} (d : mj_dec y pc = some (.if_icmp .ne off) ∧ mj_j pc off = some t) (hp : pc + 3 = p') (h1 : ¬ a = b → mj_run y w f t ls st = X1) (h2 : ¬ (¬ a = b) → mj_run y w f p' ls st = X2) : mj_run y w f pc ls (.inl b :: .inl a :: st) = if ¬ a = b then X1 else X2 := by
  obtain ⟨d, hj⟩ := d
  subst hp
  by_cases hc : ¬ a = b
  · rw [if_pos hc]
    refine ms_run d rfl rfl rfl ?_ (h1 hc)
    simp only [mj_stp, mj_if, mj_jmp, if_pos hc, hj]
  · rw [if_neg hc]
    refine ms_run d rfl rfl rfl ?_ (h2 hc)
    simp only [mj_stp, mj_if, if_neg hc, if_pos (mj_j_pos hj)]
theorem ms_icmp_lt {a b off : Int} {t : Nat} {X1 X2 : Option mj_O} (d : mj_dec y pc = some (.if_icmp .lt off) ∧ mj_j pc off = some t) (hp : pc + 3 = p') (h1 : a < b → mj_run y w f t ls st = X1) (h2 : ¬ (a < b) → mj_run y w f p' ls st = X2) : mj_run y w f pc ls (.inl b :: .inl a :: st) = if a < b then X1 else X2 := by
  obtain ⟨d, hj⟩ := d
  subst hp
  by_cases hc : a < b
  · rw [if_pos hc]
    refine ms_run d rfl rfl rfl ?_ (h1 hc)
    simp only [mj_stp, mj_if, mj_jmp, if_pos hc, hj]
  · rw [if_neg hc]
    refine ms_run d rfl rfl rfl ?_ (h2 hc)
    simp only [mj_stp, mj_if, if_neg hc, if_pos (mj_j_pos hj)]
theorem ms_icmp_ge {a b off : Int} {t : Nat} {X1 X2 : Option mj_O} (d : mj_dec y pc = some (.if_icmp .ge off) ∧ mj_j pc off = some t) (hp : pc + 3 = p') (h1 : b ≤ a → mj_run y w f t ls st = X1) (h2 : ¬ (b ≤ a) → mj_run y w f p' ls st = X2) : mj_run y w f pc ls (.inl b :: .inl a :: st) = if b ≤ a then X1 else X2 := by
  obtain ⟨d, hj⟩ := d
  subst hp
  by_cases hc : b ≤ a
  · rw [if_pos hc]
    refine ms_run d rfl rfl rfl ?_ (h1 hc)
    simp only [mj_stp, mj_if, mj_jmp, if_pos hc, hj]
  · rw [if_neg hc]
    refine ms_run d rfl rfl rfl ?_ (h2 hc)
    simp only [mj_stp, mj_if, if_neg hc, if_pos (mj_j_pos hj)]
theorem ms_icmp_gt {a b off : Int} {t : Nat} {X1 X2 : Option mj_O} (d : mj_dec y pc = some (.if_icmp .gt off) ∧ mj_j pc off = some t) (hp : pc + 3 = p') (h1 : b < a → mj_run y w f t ls st = X1) (h2 : ¬ (b < a) → mj_run y w f p' ls st = X2) : mj_run y w f pc ls (.inl b :: .inl a :: st) = if b < a then X1 else X2 := by
  obtain ⟨d, hj⟩ := d
  subst hp
  by_cases hc : b < a
  · rw [if_pos hc]
    refine ms_run d rfl rfl rfl ?_ (h1 hc)
    simp only [mj_stp, mj_if, mj_jmp, if_pos hc, hj]
  · rw [if_neg hc]
    refine ms_run d rfl rfl rfl ?_ (h2 hc)
    simp only [mj_stp, mj_if, if_neg hc, if_pos (mj_j_pos hj)]
theorem ms_icmp_le {a b off : Int} {t : Nat} {X1 X2 : Option mj_O} (d : mj_dec y pc = some (.if_icmp .le off) ∧ mj_j pc off = some t) (hp : pc + 3 = p') (h1 : a ≤ b → mj_run y w f t ls st = X1) (h2 : ¬ (a ≤ b) → mj_run y w f p' ls st = X2) : mj_run y w f pc ls (.inl b :: .inl a :: st) = if a ≤ b then X1 else X2 := by
  obtain ⟨d, hj⟩ := d
  subst hp
  by_cases hc : a ≤ b
  · rw [if_pos hc]
    refine ms_run d rfl rfl rfl ?_ (h1 hc)
    simp only [mj_stp, mj_if, mj_jmp, if_pos hc, hj]
  · rw [if_neg hc]
    refine ms_run d rfl rfl rfl ?_ (h2 hc)
    simp only [mj_stp, mj_if, if_neg hc, if_pos (mj_j_pos hj)]
theorem ms_if_eq {a off : Int} {t : Nat} {X1 X2 : Option mj_O} (d : mj_dec y pc = some (.ifCond .eq off) ∧ mj_j pc off = some t) (hp : pc + 3 = p') (h1 : a = 0 → mj_run y w f t ls st = X1) (h2 : ¬ (a = 0) → mj_run y w f p' ls st = X2) : mj_run y w f pc ls (.inl a :: st) = if a = 0 then X1 else X2 := by
  obtain ⟨d, hj⟩ := d
  subst hp
  by_cases hc : a = 0
  · rw [if_pos hc]
    refine ms_run d rfl rfl rfl ?_ (h1 hc)
    simp only [mj_stp, mj_if, mj_jmp, if_pos hc, hj]
  · rw [if_neg hc]
    refine ms_run d rfl rfl rfl ?_ (h2 hc)
    simp only [mj_stp, mj_if, if_neg hc, if_pos (mj_j_pos hj)]
theorem ms_if_ne {a off : Int} {t : Nat} {X1 X2 : Option mj_O} (d : mj_dec y pc = some (.ifCond .ne off) ∧ mj_j pc off = some t) (hp : pc + 3 = p') (h1 : ¬ a = 0 → mj_run y w f t ls st = X1) (h2 : ¬ (¬ a = 0) → mj_run y w f p' ls st = X2) : mj_run y w f pc ls (.inl a :: st) = if ¬ a = 0 then X1 else X2 := by
  obtain ⟨d, hj⟩ := d
  subst hp
  by_cases hc : ¬ a = 0
  · rw [if_pos hc]
    refine ms_run d rfl rfl rfl ?_ (h1 hc)
    simp only [mj_stp, mj_if, mj_jmp, if_pos hc, hj]
  · rw [if_neg hc]
    refine ms_run d rfl rfl rfl ?_ (h2 hc)
    simp only [mj_stp, mj_if, if_neg hc, if_pos (mj_j_pos hj)]
theorem ms_if_lt {a off : Int} {t : Nat} {X1 X2 : Option mj_O} (d : mj_dec y pc = some (.ifCond .lt off) ∧ mj_j pc off = some t) (hp : pc + 3 = p') (h1 : a < 0 → mj_run y w f t ls st = X1) (h2 : ¬ (a < 0) → mj_run y w f p' ls st = X2) : mj_run y w f pc ls (.inl a :: st) = if a < 0 then X1 else X2 := by
  obtain ⟨d, hj⟩ := d
  subst hp
  by_cases hc : a < 0
  · rw [if_pos hc]
    refine ms_run d rfl rfl rfl ?_ (h1 hc)
    simp only [mj_stp, mj_if, mj_jmp, if_pos hc, hj]
  · rw [if_neg hc]
    refine ms_run d rfl rfl rfl ?_ (h2 hc)
    simp only [mj_stp, mj_if, if_neg hc, if_pos (mj_j_pos hj)]
theorem ms_if_ge {a off : Int} {t : Nat} {X1 X2 : Option mj_O} (d : mj_dec y pc = some (.ifCond .ge off) ∧ mj_j pc off = some t) (hp : pc + 3 = p') (h1 : 0 ≤ a → mj_run y w f t ls st = X1) (h2 : ¬ (0 ≤ a) → mj_run y w f p' ls st = X2) : mj_run y w f pc ls (.inl a :: st) = if 0 ≤ a then X1 else X2 := by
  obtain ⟨d, hj⟩ := d
  subst hp
  by_cases hc : 0 ≤ a
  · rw [if_pos hc]
    refine ms_run d rfl rfl rfl ?_ (h1 hc)
    simp only [mj_stp, mj_if, mj_jmp, if_pos hc, hj]
  · rw [if_neg hc]
    refine ms_run d rfl rfl rfl ?_ (h2 hc)
    simp only [mj_stp, mj_if, if_neg hc, if_pos (mj_j_pos hj)]
theorem ms_if_gt {a off : Int} {t : Nat} {X1 X2 : Option mj_O} (d : mj_dec y pc = some (.ifCond .gt off) ∧ mj_j pc off = some t) (hp : pc + 3 = p') (h1 : 0 < a → mj_run y w f t ls st = X1) (h2 : ¬ (0 < a) → mj_run y w f p' ls st = X2) : mj_run y w f pc ls (.inl a :: st) = if 0 < a then X1 else X2 := by
  obtain ⟨d, hj⟩ := d
  subst hp
  by_cases hc : 0 < a
  · rw [if_pos hc]
    refine ms_run d rfl rfl rfl ?_ (h1 hc)
    simp only [mj_stp, mj_if, mj_jmp, if_pos hc, hj]
  · rw [if_neg hc]
    refine ms_run d rfl rfl rfl ?_ (h2 hc)
    simp only [mj_stp, mj_if, if_neg hc, if_pos (mj_j_pos hj)]
theorem ms_if_le {a off : Int} {t : Nat} {X1 X2 : Option mj_O} (d : mj_dec y pc = some (.ifCond .le off) ∧ mj_j pc off = some t) (hp : pc + 3 = p') (h1 : a ≤ 0 → mj_run y w f t ls st = X1) (h2 : ¬ (a ≤ 0) → mj_run y w f p' ls st = X2) : mj_run y w f pc ls (.inl a :: st) = if a ≤ 0 then X1 else X2 := by
  obtain ⟨d, hj⟩ := d
  subst hp
  by_cases hc : a ≤ 0
  · rw [if_pos hc]
    refine ms_run d rfl rfl rfl ?_ (h1 hc)
    simp only [mj_stp, mj_if, mj_jmp, if_pos hc, hj]
  · rw [if_neg hc]
    refine ms_run d rfl rfl rfl ?_ (h2 hc)
    simp only [mj_stp, mj_if, if_neg hc, if_pos (mj_j_pos hj)]
theorem ms_geti {idx ci k q a : Nat} (d : mj_dec y pc = some (.getfield idx) ∧ mj_fl (mj_cn y) idx = some (ci, k, q) ∧ mj_kind ci k ≠ 2) (hp : pc + 3 = p') (hw : w.1 a = (ci, 0)) (h : mj_run y w f p' ls (.inl (f a k) :: st) = X) : mj_run y w f pc ls (.inr (.inl a) :: st) = X := by
  obtain ⟨d, hf, hk⟩ := d
  subst hp
  refine ms_run d rfl rfl rfl ?_ h
  simp only [mj_stp, mj_getf, hf, if_pos hw, if_neg hk]
theorem ms_getr {idx ci k q a r : Nat} (d : mj_dec y pc = some (.getfield idx) ∧ mj_fl (mj_cn y) idx = some (ci, k, q) ∧ mj_kind ci k = 2) (hp : pc + 3 = p') (hw : w.1 a = (ci, 0)) (hr : w.2.1 a k = r) (h0 : ¬ r = 0) (h : mj_run y w f p' ls (.inr (.inl r) :: st) = X) : mj_run y w f pc ls (.inr (.inl a) :: st) = X := by
  obtain ⟨d, hf, hk⟩ := d
  subst hp
  refine ms_run d rfl rfl rfl ?_ h
  simp only [mj_stp, mj_getf, hf, if_pos hw, if_pos hk, hr, if_neg h0]
theorem ms_puti {idx ci k q a : Nat} {v : Int} (d : mj_dec y pc = some (.putfield idx) ∧ mj_fl (mj_cn y) idx = some (ci, k, q) ∧ mj_kind ci k = 0 ∧ mj_mayPut y ci k = true) (hp : pc + 3 = p') (hw : w.1 a = (ci, 0)) (h : mj_run y w (mj_u f a k v) p' ls st = X) : mj_run y w f pc ls (.inl v :: .inr (.inl a) :: st) = X := by
  obtain ⟨d, hf, hk, hm⟩ := d
  subst hp
  refine ms_run d ?_ rfl rfl ?_ h
  · simp [mj_keepw, hf, hk]
  · simp only [mj_stp, mj_putf, hf, if_pos hm]
    rw [if_pos ⟨hw, Or.inl hk⟩]
theorem ms_putz {idx ci k q a : Nat} {v : Int} (d : mj_dec y pc = some (.putfield idx) ∧ mj_fl (mj_cn y) idx = some (ci, k, q) ∧ mj_kind ci k = 1 ∧ mj_mayPut y ci k = true) (hp : pc + 3 = p') (hw : w.1 a = (ci, 0)) (h : (v = 0 ∨ v = 1) → mj_run y w (mj_u f a k v) p' ls st = X) : mj_run y w f pc ls (.inl v :: .inr (.inl a) :: st) = mj_gd (v = 0 ∨ v = 1) X := by
  obtain ⟨d, hf, hk, hm⟩ := d
  subst hp
  have hkw : mj_keepw y (.putfield idx) = true := by simp [mj_keepw, hf, hk]
  unfold mj_gd
  by_cases hv : v = 0 ∨ v = 1
  · rw [if_pos hv]
    refine ms_run d hkw rfl rfl ?_ (h hv)
    simp only [mj_stp, mj_putf, hf, if_pos hm]
    rw [if_pos ⟨hw, Or.inr ⟨hk, hv⟩⟩]
  · rw [if_neg hv]
    refine mj_run_none ?_
    have h1 : ¬ (w.1 a = (ci, 0) ∧ (mj_kind ci k = 0 ∨ mj_kind ci k = 1 ∧ (v = 0 ∨ v = 1))) := fun q => by
      rcases q.2 with h | h
      · omega
      · exact hv h.2
    simp only [mj_nx, d, if_pos (Or.inr hkw : mj_imp y = true ∨ mj_keepw y (.putfield idx) = true), mj_end, mj_callee, mj_stp, mj_putf, hf, if_pos hm]
    rw [if_neg h1]
theorem ms_iald {a n : Nat} {j : Int} (d : mj_dec y pc = some .iaload) (hp : pc + 1 = p') (hw : w.1 a = (100, n)) (h : (0 ≤ j ∧ j < (n : Int)) → mj_run y w f p' ls (.inl (f a j.toNat) :: st) = X) : mj_run y w f pc ls (.inl j :: .inr (.inl a) :: st) = mj_gd (0 ≤ j ∧ j < (n : Int)) X := by
  subst hp
  unfold mj_gd
  by_cases hj : 0 ≤ j ∧ j < (n : Int)
  · rw [if_pos hj]
    refine ms_run d rfl rfl rfl ?_ (h hj)
    simp only [mj_stp, mj_iald]
    rw [if_pos ⟨Or.inl (by rw [hw]), by rw [hw]; exact hj⟩]
  · rw [if_neg hj]
    refine mj_run_none ?_
    have h1 : ¬ (((w.1 a).1 = 100 ∨ (w.1 a).1 = 104) ∧ 0 ≤ j ∧ j < (w.1 a).2) := fun q => hj (by rw [hw] at q; exact q.2)
    simp only [mj_nx, d, if_pos (Or.inr rfl : mj_imp y = true ∨ mj_keepw y .iaload = true), mj_end, mj_callee, mj_stp, mj_iald]
    rw [if_neg h1]
theorem ms_bald {a n : Nat} {j : Int} (d : mj_dec y pc = some .baload) (hp : pc + 1 = p') (hw : w.1 a = (101, n)) (h : (0 ≤ j ∧ j < (n : Int)) → mj_run y w f p' ls (.inl (f a j.toNat) :: st) = X) : mj_run y w f pc ls (.inl j :: .inr (.inl a) :: st) = mj_gd (0 ≤ j ∧ j < (n : Int)) X := by
  subst hp
  unfold mj_gd
  by_cases hj : 0 ≤ j ∧ j < (n : Int)
  · rw [if_pos hj]
    refine ms_run d rfl rfl rfl ?_ (h hj)
    simp only [mj_stp, mj_bald]
    rw [if_pos ⟨by rw [hw], by rw [hw]; exact hj⟩]
  · rw [if_neg hj]
    refine mj_run_none ?_
    have h1 : ¬ ((w.1 a).1 = 101 ∧ 0 ≤ j ∧ j < (w.1 a).2) := fun q => hj (by rw [hw] at q; exact q.2)
    simp only [mj_nx, d, if_pos (Or.inr rfl : mj_imp y = true ∨ mj_keepw y .baload = true), mj_end, mj_callee, mj_stp, mj_bald]
    rw [if_neg h1]
theorem ms_lald {a n : Nat} {j : Int} (d : mj_dec y pc = some .laload) (hp : pc + 1 = p') (hw : w.1 a = (103, n)) (h : (0 ≤ j ∧ j < (n : Int)) → mj_run y w f p' ls (.inr (.inr (.inl (f a j.toNat))) :: st) = X) : mj_run y w f pc ls (.inl j :: .inr (.inl a) :: st) = mj_gd (0 ≤ j ∧ j < (n : Int)) X := by
  subst hp
  unfold mj_gd
  by_cases hj : 0 ≤ j ∧ j < (n : Int)
  · rw [if_pos hj]
    refine ms_run d rfl rfl rfl ?_ (h hj)
    simp only [mj_stp, mj_lald]
    rw [if_pos ⟨by rw [hw], by rw [hw]; exact hj⟩]
  · rw [if_neg hj]
    refine mj_run_none ?_
    have h1 : ¬ ((w.1 a).1 = 103 ∧ 0 ≤ j ∧ j < (w.1 a).2) := fun q => hj (by rw [hw] at q; exact q.2)
    simp only [mj_nx, d, if_pos (Or.inr rfl : mj_imp y = true ∨ mj_keepw y .laload = true), mj_end, mj_callee, mj_stp, mj_lald]
    rw [if_neg h1]
theorem ms_sald {a n : Nat} {j : Int} (d : mj_dec y pc = some .iaload) (hp : pc + 1 = p') (hw : w.1 a = (104, n)) (h : (0 ≤ j ∧ j < (n : Int)) → mj_run y w f p' ls (.inl (f a j.toNat) :: st) = X) : mj_run y w f pc ls (.inl j :: .inr (.inl a) :: st) = mj_gd (0 ≤ j ∧ j < (n : Int)) X := by
  subst hp
  unfold mj_gd
  by_cases hj : 0 ≤ j ∧ j < (n : Int)
  · rw [if_pos hj]
    refine ms_run d rfl rfl rfl ?_ (h hj)
    simp only [mj_stp, mj_iald]
    rw [if_pos ⟨Or.inr (by rw [hw]), by rw [hw]; exact hj⟩]
  · rw [if_neg hj]
    refine mj_run_none ?_
    have h1 : ¬ (((w.1 a).1 = 100 ∨ (w.1 a).1 = 104) ∧ 0 ≤ j ∧ j < (w.1 a).2) := fun q => hj (by rw [hw] at q; exact q.2)
    simp only [mj_nx, d, if_pos (Or.inr rfl : mj_imp y = true ∨ mj_keepw y .iaload = true), mj_end, mj_callee, mj_stp, mj_iald]
    rw [if_neg h1]
theorem ms_aald {a n r : Nat} {j : Int} (d : mj_dec y pc = some .aaload) (hp : pc + 1 = p') (hw : w.1 a = (102, n)) (hr : (0 ≤ j ∧ j < (n : Int)) → w.2.1 a j.toNat = r ∧ r ≠ 0) (h : (0 ≤ j ∧ j < (n : Int)) → mj_run y w f p' ls (.inr (.inl r) :: st) = X) : mj_run y w f pc ls (.inl j :: .inr (.inl a) :: st) = mj_gd (0 ≤ j ∧ j < (n : Int)) X := by
  subst hp
  unfold mj_gd
  by_cases hj : 0 ≤ j ∧ j < (n : Int)
  · rw [if_pos hj]
    obtain ⟨h1, h2⟩ := hr hj
    refine ms_run d rfl rfl rfl ?_ (h hj)
    simp only [mj_stp, mj_aald]
    rw [if_pos ⟨by rw [hw], by rw [hw]; exact hj, by rw [h1]; exact h2⟩, h1]
  · rw [if_neg hj]
    refine mj_run_none ?_
    have h1 : ¬ ((w.1 a).1 = 102 ∧ (0 ≤ j ∧ j < (w.1 a).2) ∧ w.2.1 a j.toNat ≠ 0) := fun q => hj (by rw [hw] at q; exact q.2.1)
    simp only [mj_nx, d, if_pos (Or.inr rfl : mj_imp y = true ∨ mj_keepw y .aaload = true), mj_end, mj_callee, mj_stp, mj_aald]
    rw [if_neg h1]
theorem ms_iast {a n : Nat} {j v : Int} (d : mj_dec y pc = some .iastore) (hp : pc + 1 = p') (hw : w.1 a = (100, n)) (h : (0 ≤ j ∧ j < (n : Int)) → mj_run y w (mj_u f a j.toNat v) p' ls st = X) : mj_run y w f pc ls (.inl v :: .inl j :: .inr (.inl a) :: st) = mj_gd (0 ≤ j ∧ j < (n : Int)) X := by
  subst hp
  unfold mj_gd
  by_cases hj : 0 ≤ j ∧ j < (n : Int)
  · rw [if_pos hj]
    refine ms_run d rfl rfl rfl ?_ (h hj)
    simp only [mj_stp, mj_iast]
    rw [if_pos ⟨by rw [hw], by rw [hw]; exact hj⟩]
  · rw [if_neg hj]
    refine mj_run_none ?_
    have h1 : ¬ ((w.1 a).1 = 100 ∧ 0 ≤ j ∧ j < (w.1 a).2) := fun q => hj (by rw [hw] at q; exact q.2)
    simp only [mj_nx, d, if_pos (Or.inr rfl : mj_imp y = true ∨ mj_keepw y .iastore = true), mj_end, mj_callee, mj_stp, mj_iast]
    rw [if_neg h1]
theorem ms_bast {a n : Nat} {j v : Int} (d : mj_dec y pc = some .bastore) (hp : pc + 1 = p') (hw : w.1 a = (101, n)) (h : (0 ≤ j ∧ j < (n : Int)) → mj_run y w (mj_u f a j.toNat (mj_w8 v)) p' ls st = X) : mj_run y w f pc ls (.inl v :: .inl j :: .inr (.inl a) :: st) = mj_gd (0 ≤ j ∧ j < (n : Int)) X := by
  subst hp
  unfold mj_gd
  by_cases hj : 0 ≤ j ∧ j < (n : Int)
  · rw [if_pos hj]
    refine ms_run d rfl rfl rfl ?_ (h hj)
    simp only [mj_stp, mj_bast]
    rw [if_pos ⟨by rw [hw], by rw [hw]; exact hj⟩]
  · rw [if_neg hj]
    refine mj_run_none ?_
    have h1 : ¬ ((w.1 a).1 = 101 ∧ 0 ≤ j ∧ j < (w.1 a).2) := fun q => hj (by rw [hw] at q; exact q.2)
    simp only [mj_nx, d, if_pos (Or.inr rfl : mj_imp y = true ∨ mj_keepw y .bastore = true), mj_end, mj_callee, mj_stp, mj_bast]
    rw [if_neg h1]
theorem ms_alen {a k n : Nat} (d : mj_dec y pc = some .arraylength) (hp : pc + 1 = p') (hw : w.1 a = (k, n)) (hk : (100 ≤ k ∧ k ≤ 104) ∧ n < 2147483648) (h : mj_run y w f p' ls (.inl (n : Int) :: st) = X) : mj_run y w f pc ls (.inr (.inl a) :: st) = X := by
  subst hp
  refine ms_run d rfl rfl rfl ?_ h
  simp only [mj_stp, mj_alen, hw]
  rw [if_pos hk]
theorem ms_math2 {idx k x q : Nat} {a b v : Int} (d : mj_dec y pc = some (.invokestatic idx) ∧ mj_cl2 (mj_cn y) idx = some (k, x, q)) (hk : (k = 12 ∧ v = if a < b then b else a) ∨ (k = 13 ∧ v = if b < a then b else a)) (hp : pc + 3 = p') (hl : mj_low st = true) (h : mj_run y w f p' ls (.inl v :: st) = X) : mj_run y w f pc ls (.inl b :: .inl a :: st) = X := by
  obtain ⟨d, hq⟩ := d
  subst hp
  rcases hk with ⟨rfl, rfl⟩ | ⟨rfl, rfl⟩
  · refine ms_run d rfl rfl (by simp only [mj_callee, hq]) ?_ h
    simp only [mj_stp, mj_copy, hq, if_pos hl]
  · refine ms_run d rfl rfl (by simp only [mj_callee, hq]) ?_ h
    simp only [mj_stp, mj_copy, hq, if_pos hl]
theorem ms_abs {idx x q : Nat} {a : Int} (d : mj_dec y pc = some (.invokestatic idx) ∧ mj_cl2 (mj_cn y) idx = some (14, x, q)) (hp : pc + 3 = p') (hl : mj_low st = true) (h : mj_run y w f p' ls (.inl (if 0 ≤ a then a else mj_w (0 - a)) :: st) = X) : mj_run y w f pc ls (.inl a :: st) = X := by
  obtain ⟨d, hq⟩ := d
  subst hp
  refine ms_run d rfl rfl (by simp only [mj_callee, hq]) ?_ h
  simp only [mj_stp, mj_copy, hq, if_pos hl]
theorem ms_copy {idx x q a e na ne : Nat} {n dp sp : Int} (d : mj_dec y pc = some (.invokestatic idx) ∧ mj_cl2 (mj_cn y) idx = some (7, x, q)) (hp : pc + 3 = p') (hl : mj_low st = true) (ha : w.1 a = (100, na)) (he : w.1 e = (100, ne)) (h : (0 ≤ n ∧ 0 ≤ sp ∧ 0 ≤ dp ∧ sp + n ≤ (na : Int) ∧ dp + n ≤ (ne : Int)) → mj_run y w (mj_cpy f a sp.toNat e dp.toNat n.toNat) p' ls st = X) : mj_run y w f pc ls (.inl n :: .inl dp :: .inr (.inl e) :: .inl sp :: .inr (.inl a) :: st) = mj_gd (0 ≤ n ∧ 0 ≤ sp ∧ 0 ≤ dp ∧ sp + n ≤ (na : Int) ∧ dp + n ≤ (ne : Int)) X := by
  obtain ⟨d, hq⟩ := d
  subst hp
  have hc : mj_callee y (.invokestatic idx) w (.inl n :: .inl dp :: .inr (.inl e) :: .inl sp :: .inr (.inl a) :: st) = none := by simp only [mj_callee, hq]
  unfold mj_gd
  by_cases hj : 0 ≤ n ∧ 0 ≤ sp ∧ 0 ≤ dp ∧ sp + n ≤ (na : Int) ∧ dp + n ≤ (ne : Int)
  · rw [if_pos hj]
    refine ms_run d rfl rfl hc ?_ (h hj)
    simp only [mj_stp, mj_copy, hq]
    rw [if_pos ⟨by rw [ha], by rw [he], hj.1, hj.2.1, hj.2.2.1, by rw [ha]; exact hj.2.2.2.1, by rw [he]; exact hj.2.2.2.2, hl⟩]
  · rw [if_neg hj]
    refine mj_run_none ?_
    have h1 : ¬ ((w.1 a).1 = 100 ∧ (w.1 e).1 = 100 ∧ 0 ≤ n ∧ 0 ≤ sp ∧ 0 ≤ dp ∧ sp + n ≤ (w.1 a).2 ∧ dp + n ≤ (w.1 e).2 ∧ mj_low st = true) := fun q => hj (by rw [ha, he] at q; exact ⟨q.2.2.1, q.2.2.2.1, q.2.2.2.2.1, q.2.2.2.2.2.1, q.2.2.2.2.2.2.1⟩)
    simp only [mj_nx, d, if_pos (Or.inr rfl : mj_imp y = true ∨ mj_keepw y (.invokestatic idx) = true), mj_end, hc, mj_stp, mj_copy, hq]
    rw [if_neg h1]
theorem ms_iret {v : Int} (d : mj_dec y pc = some .ireturn ∧ mj_rt y = some .int) : mj_run y w f pc ls [.inl v] = some (w, f, some (.inl v)) := by
  refine mj_run_end ?_
  simp only [mj_nx, d.1, if_pos (Or.inr rfl : mj_imp y = true ∨ mj_keepw y .ireturn = true), mj_end]
  rw [if_pos (Or.inl d.2)]
theorem ms_zret {v : Int} (d : mj_dec y pc = some .ireturn ∧ mj_rt y = some .boolean) : mj_run y w f pc ls [.inl v] = mj_gd (v = 0 ∨ v = 1) (some (w, f, some (.inl v))) := by
  unfold mj_gd
  by_cases hv : v = 0 ∨ v = 1
  · rw [if_pos hv]
    refine mj_run_end ?_
    simp only [mj_nx, d.1, if_pos (Or.inr rfl : mj_imp y = true ∨ mj_keepw y .ireturn = true), mj_end]
    rw [if_pos (Or.inr ⟨d.2, hv⟩)]
  · rw [if_neg hv]
    refine mj_run_none ?_
    have h1 : ¬ (mj_rt y = some .int ∨ mj_rt y = some .boolean ∧ (v = 0 ∨ v = 1)) := fun q => by
      rcases q with q | q
      · rw [d.2] at q; cases q
      · exact hv q.2
    simp only [mj_nx, d.1, if_pos (Or.inr rfl : mj_imp y = true ∨ mj_keepw y .ireturn = true), mj_end, mj_callee, mj_stp]
    rw [if_neg h1]
theorem ms_aret {a : Nat} (d : mj_dec y pc = some .areturn ∧ mj_rt y = some (.object "ClockZones$Times")) (ha : 2 ≤ a) : mj_run y w f pc ls [.inr (.inl a)] = some (w, f, some (.inr (.inl a))) := by
  refine mj_run_end ?_
  simp only [mj_nx, d.1, if_pos (Or.inr rfl : mj_imp y = true ∨ mj_keepw y .areturn = true), mj_end]
  rw [if_pos ⟨ha, d.2⟩]
theorem ms_vret (d : mj_dec y pc = some .return_ ∧ mj_rt y = none) : mj_run y w f pc ls [] = some (w, f, none) := by
  refine mj_run_end ?_
  simp only [mj_nx, d.1, if_pos (Or.inr rfl : mj_imp y = true ∨ mj_keepw y .return_ = true), mj_end]
  rw [if_pos d.2]
theorem ms_tabIn {dflt lo hi a : Int} {offs : Array Int} {t : Nat} (d : mj_dec y pc = some (.tableswitch dflt lo hi offs)) (h1 : ¬ (a < lo ∨ hi < a)) (ho : (offs[(a - lo).toNat]?).bind (mj_j pc) = some t) (h : mj_run y w f t ls st = X) : mj_run y w f pc ls (.inl a :: st) = X := by
  cases hq : offs[(a - lo).toNat]? with
  | none => rw [hq] at ho; cases ho
  | some off =>
    rw [hq] at ho
    have ho : mj_j pc off = some t := ho
    refine ms_run d rfl rfl rfl ?_ h
    simp only [mj_stp, if_neg h1, hq, mj_jmp, ho]
theorem ms_tabOut {dflt lo hi a : Int} {offs : Array Int} {t : Nat} (d : mj_dec y pc = some (.tableswitch dflt lo hi offs)) (h1 : a < lo ∨ hi < a) (ho : mj_j pc dflt = some t) (h : mj_run y w f t ls st = X) : mj_run y w f pc ls (.inl a :: st) = X := by
  refine ms_run d rfl rfl rfl ?_ h
  simp only [mj_stp, if_pos h1, mj_jmp, ho]
theorem ms_look {dflt a : Int} {ps : Array (Int × Int)} {t : Nat} (d : mj_dec y pc = some (.lookupswitch dflt ps)) (hs : (ps.toList.zip (ps.toList.drop 1)).all (fun (a, next) => a.1 < next.1) = true) (ho : mj_j pc (Op.lookupswitch.offset ps.toList dflt a) = some t) (h : mj_run y w f t ls st = X) : mj_run y w f pc ls (.inl a :: st) = X := by
  refine ms_run d rfl rfl rfl ?_ h
  simp only [mj_stp, if_pos hs, mj_jmp, ho]
/-- the link of a call: which method, how many arguments -/
def mj_vk (y idx : Nat) : Option (Nat × Nat) := match mj_cl2 (mj_cn y) idx with
  | some (0, cy, _) => if mj_lev cy < mj_lev y then some (cy, mj_ar cy) else none
  | some (1, cy, _) => if mj_lev cy < mj_lev y then some (cy, mj_ar cy) else none
  | _ => none
def mj_sk (y idx : Nat) : Option (Nat × Nat) := match mj_cl2 (mj_cn y) idx with
  | some (2, cy, _) => if mj_lev cy < mj_lev y then some (cy, mj_ar cy) else none
  | some (3, cy, _) => if mj_lev cy < mj_lev y then some (cy, mj_ar cy) else none
  | _ => none
theorem ms_args_v {cy a : Nat} {as rest : List mj_V} (hn : mj_ar cy = as.length + 1) (hl : mj_low rest = true) (hc : as.all (fun v => mj_cat v == 1) = true) (hw : w.1 a = (mj_cn cy, 0)) : mj_args w (as.reverse ++ .inr (.inl a) :: rest) cy true = some (cy, .inr (.inl a) :: as, rest, 0) := by
  have h1 : (as.reverse ++ .inr (.inl a) :: rest).take (mj_ar cy) = as.reverse ++ [.inr (.inl a)] := by
    rw [hn, List.take_append, List.take_of_length_le (by rw [List.length_reverse]; omega)]
    simp
  have h2 : (as.reverse ++ .inr (.inl a) :: rest).drop (mj_ar cy) = rest := by
    rw [hn, List.drop_append]
    simp
  unfold mj_args
  rw [h1, h2]
  rw [if_pos]
  · simp [hw]
  · refine ⟨by rw [hn, List.length_append, List.length_reverse, List.length_cons]; omega, hl, ?_⟩
    rw [List.all_append, List.all_reverse, hc]
    rfl
theorem ms_args_s {cy : Nat} {as rest : List mj_V} (hn : mj_ar cy = as.length) (hl : mj_low rest = true) (hc : as.all (fun v => mj_cat v == 1) = true) : mj_args w (as.reverse ++ rest) cy false = some (cy, as, rest, 0) := by
  have h1 : (as.reverse ++ rest).take (mj_ar cy) = as.reverse := by
    rw [hn, List.take_append, List.take_of_length_le (by rw [List.length_reverse]; omega)]
    simp
  have h2 : (as.reverse ++ rest).drop (mj_ar cy) = rest := by
    rw [hn, List.drop_append]
    simp
  unfold mj_args
  rw [h1, h2]
  rw [if_pos]
  · simp
  · refine ⟨by rw [hn]; simp, hl, ?_⟩
    rw [List.all_reverse, hc]
theorem ms_then {cy : Nat} {as rest : List mj_V} {i : Instr} (d : mj_dec y pc = some i) (hk : mj_keepw y i = true) (he : mj_end y i w st = none) (hi : mj_imp cy = false) (hc : mj_callee y i w st = some (cy, as, rest, 0)) : mj_run y w f pc ls st = mj_then 0 (mj_call cy w f as) y pc ls rest :=
  mj_run_call (by unfold mj_nx; rw [d]; dsimp only; rw [if_pos (Or.inr hk), he, hc]; dsimp only; rw [if_pos (Or.inr hi)])
theorem ms_then_i {cy : Nat} {as rest : List mj_V} {K : mj_F → Int → Option mj_O} (hi : mj_imp cy = false) (hr : mj_rt cy = some .int ∨ mj_rt cy = some .boolean) (hp : pc + 3 = p') (h : ∀ f x, mj_run y w f p' ls (.inl x :: rest) = K f x) : mj_then 0 (mj_call cy w f as) y pc ls rest = mj_bi (mj_call cy w f as) K := by
  subst hp
  cases hc : mj_call cy w f as with
  | none => rfl
  | some r =>
    obtain ⟨w2, f2, v⟩ := r
    obtain ⟨h1, -, h3⟩ := mj_call_pure hc hi
    obtain ⟨x, hx⟩ := h3 hr
    have h1 : w2 = w := h1
    have hx : v = some (.inl x) := hx
    subst h1 hx
    exact h f2 x
theorem ms_then_u {cy : Nat} {as rest : List mj_V} {K : mj_F → Option mj_O} (hi : mj_imp cy = false) (hr : mj_rt cy = none) (hp : pc + 3 = p') (h : ∀ f, mj_run y w f p' ls rest = K f) : mj_then 0 (mj_call cy w f as) y pc ls rest = mj_bu (mj_call cy w f as) K := by
  subst hp
  cases hc : mj_call cy w f as with
  | none => rfl
  | some r =>
    obtain ⟨w2, f2, v⟩ := r
    obtain ⟨h1, h2, -⟩ := mj_call_pure hc hi
    have h1 : w2 = w := h1
    have hx : v = none := h2 hr
    subst h1 hx
    exact h f2
theorem ms_callee_v {idx cy a : Nat} {as rest : List mj_V} (hv : mj_vk y idx = some (cy, as.length + 1)) (hl : mj_low rest = true) (hc : as.all (fun v => mj_cat v == 1) = true) (hw : w.1 a = (mj_cn cy, 0)) : mj_callee y (.invokevirtual idx) w (as.reverse ++ .inr (.inl a) :: rest) = some (cy, .inr (.inl a) :: as, rest, 0) := by
  unfold mj_vk at hv
  simp only [mj_callee]
  split at hv
  · next c2 q hq =>
    split at hv
    · next hlev =>
      have h1 := Option.some.inj hv
      have h2 : c2 = cy := congrArg Prod.fst h1
      have h3 : mj_ar c2 = as.length + 1 := congrArg Prod.snd h1
      subst h2
      rw [hq]
      show mj_dn y c2 (mj_args w _ c2 true) = _
      unfold mj_dn
      rw [if_pos hlev]
      exact ms_args_v h3 hl hc hw
    · cases hv
  · next c2 q hq =>
    split at hv
    · next hlev =>
      have h1 := Option.some.inj hv
      have h2 : c2 = cy := congrArg Prod.fst h1
      have h3 : mj_ar c2 = as.length + 1 := congrArg Prod.snd h1
      subst h2
      rw [hq]
      show mj_dn y c2 (mj_args w _ c2 true) = _
      unfold mj_dn
      rw [if_pos hlev]
      exact ms_args_v h3 hl hc hw
    · cases hv
  · cases hv
theorem ms_callee_s {idx cy : Nat} {as rest : List mj_V} (hv : mj_sk y idx = some (cy, as.length)) (hl : mj_low rest = true) (hc : as.all (fun v => mj_cat v == 1) = true) : mj_callee y (.invokestatic idx) w (as.reverse ++ rest) = some (cy, as, rest, 0) := by
  unfold mj_sk at hv
  simp only [mj_callee]
  split at hv
  · next c2 q hq =>
    split at hv
    · next hlev =>
      have h1 := Option.some.inj hv
      have h2 : c2 = cy := congrArg Prod.fst h1
      have h3 : mj_ar c2 = as.length := congrArg Prod.snd h1
      subst h2
      rw [hq]
      show mj_dn y c2 (mj_args w _ c2 false) = _
      unfold mj_dn
      rw [if_pos hlev]
      exact ms_args_s h3 hl hc
    · cases hv
  · next c2 q hq =>
    split at hv
    · next hlev =>
      have h1 := Option.some.inj hv
      have h2 : c2 = cy := congrArg Prod.fst h1
      have h3 : mj_ar c2 = as.length := congrArg Prod.snd h1
      subst h2
      rw [hq]
      show mj_dn y c2 (mj_args w _ c2 false) = _
      unfold mj_dn
      rw [if_pos hlev]
      exact ms_args_s h3 hl hc
    · cases hv
  · cases hv
theorem ms_virt_i {idx cy a n : Nat} {as rest : List mj_V} {K : mj_F → Int → Option mj_O} (d : mj_dec y pc = some (.invokevirtual idx) ∧ mj_vk y idx = some (cy, n + 1) ∧ mj_imp cy = false ∧ (mj_rt cy = some .int ∨ mj_rt cy = some .boolean)) (hn : as.length = n) (hst : st = as.reverse ++ .inr (.inl a) :: rest) (hl : mj_low rest = true) (hc : as.all (fun v => mj_cat v == 1) = true) (hw : w.1 a = (mj_cn cy, 0)) (hp : pc + 3 = p') (h : ∀ f x, mj_run y w f p' ls (.inl x :: rest) = K f x) : mj_run y w f pc ls st = mj_bi (mj_call cy w f (.inr (.inl a) :: as)) K := by
  obtain ⟨d, hv, hi, hr⟩ := d
  subst hst
  subst hn
  exact (ms_then d rfl rfl hi (ms_callee_v hv hl hc hw)).trans (ms_then_i hi hr hp h)
theorem ms_virt_u {idx cy a n : Nat} {as rest : List mj_V} {K : mj_F → Option mj_O} (d : mj_dec y pc = some (.invokevirtual idx) ∧ mj_vk y idx = some (cy, n + 1) ∧ mj_imp cy = false ∧ mj_rt cy = none) (hn : as.length = n) (hst : st = as.reverse ++ .inr (.inl a) :: rest) (hl : mj_low rest = true) (hc : as.all (fun v => mj_cat v == 1) = true) (hw : w.1 a = (mj_cn cy, 0)) (hp : pc + 3 = p') (h : ∀ f, mj_run y w f p' ls rest = K f) : mj_run y w f pc ls st = mj_bu (mj_call cy w f (.inr (.inl a) :: as)) K := by
  obtain ⟨d, hv, hi, hr⟩ := d
  subst hst
  subst hn
  exact (ms_then d rfl rfl hi (ms_callee_v hv hl hc hw)).trans (ms_then_u hi hr hp h)
theorem ms_stat_i {idx cy n : Nat} {as rest : List mj_V} {K : mj_F → Int → Option mj_O} (d : mj_dec y pc = some (.invokestatic idx) ∧ mj_sk y idx = some (cy, n) ∧ mj_imp cy = false ∧ (mj_rt cy = some .int ∨ mj_rt cy = some .boolean)) (hn : as.length = n) (hst : st = as.reverse ++ rest) (hl : mj_low rest = true) (hc : as.all (fun v => mj_cat v == 1) = true) (hp : pc + 3 = p') (h : ∀ f x, mj_run y w f p' ls (.inl x :: rest) = K f x) : mj_run y w f pc ls st = mj_bi (mj_call cy w f as) K := by
  obtain ⟨d, hv, hi, hr⟩ := d
  subst hst
  subst hn
  exact (ms_then d rfl rfl hi (ms_callee_s hv hl hc)).trans (ms_then_i hi hr hp h)
theorem ms_stat_u {idx cy n : Nat} {as rest : List mj_V} {K : mj_F → Option mj_O} (d : mj_dec y pc = some (.invokestatic idx) ∧ mj_sk y idx = some (cy, n) ∧ mj_imp cy = false ∧ mj_rt cy = none) (hn : as.length = n) (hst : st = as.reverse ++ rest) (hl : mj_low rest = true) (hc : as.all (fun v => mj_cat v == 1) = true) (hp : pc + 3 = p') (h : ∀ f, mj_run y w f p' ls rest = K f) : mj_run y w f pc ls st = mj_bu (mj_call cy w f as) K := by
  obtain ⟨d, hv, hi, hr⟩ := d
  subst hst
  subst hn
  exact (ms_then d rfl rfl hi (ms_callee_s hv hl hc)).trans (ms_then_u hi hr hp h)
end MS
end
section
/-! The world behind the constructors: where each cell lies (z: a zone, its row at z + 1; p: a plan, its rows behind it). Written by wip/whole/gen/mkwk.py. -/
abbrev yL_init : Nat := 0
abbrev yR_init : Nat := 1
abbrev yA_fill : Nat := 2
abbrev yZ_init : Nat := 3
abbrev yG_init : Nat := 4
abbrev yP_init : Nat := 5
abbrev yT_init : Nat := 6
abbrev yW_init : Nat := 7
abbrev yH_init : Nat := 8
abbrev yX_init : Nat := 9
abbrev yM_put : Nat := 10
abbrev yM_nought : Nat := 11
abbrev yM_get : Nat := 12
abbrev yM_stores : Nat := 13
abbrev yM_laysAll : Nat := 14
abbrev yM_init : Nat := 15
abbrev yR_putBytes : Nat := 16
abbrev yX_feed : Nat := 17
abbrev yM_four : Nat := 18
abbrev yM_feed : Nat := 19
abbrev yL_clear : Nat := 20
abbrev yR_readWord : Nat := 21
abbrev yR_readDigits : Nat := 22
abbrev yR_readSign : Nat := 23
abbrev yR_advance : Nat := 24
abbrev yR_fail : Nat := 25
abbrev yL_indexIn : Nat := 26
abbrev yL_clockNamed : Nat := 27
abbrev yR_readClock : Nat := 28
abbrev yR_endLine : Nat := 29
abbrev yL_placeNamed : Nat := 30
abbrev yX_stayRules : Nat := 31
abbrev yR_clockHere : Nat := 32
abbrev yR_numberHere : Nat := 33
abbrev yL_addRule : Nat := 34
abbrev yR_readWhens : Nat := 35
abbrev yR_readPlace : Nat := 36
abbrev yR_placeHere : Nat := 37
abbrev yX_edgeRules : Nat := 38
abbrev yL_numberSet : Nat := 39
abbrev yL_addSet : Nat := 40
abbrev yR_readSets : Nat := 41
abbrev yR_readEdge : Nat := 42
abbrev yR_readStart : Nat := 43
abbrev yR_readLine : Nat := 44
abbrev yR_readText : Nat := 45
abbrev yZ_layZero : Nat := 46
abbrev yH_forgetAll : Nat := 47
abbrev yX_beginAnew : Nat := 48
abbrev yX_lessThan : Nat := 49
abbrev yX_atMost : Nat := 50
abbrev yX_upperOf : Nat := 51
abbrev yZ_cell : Nat := 52
abbrev yX_sumOf : Nat := 53
abbrev yZ_put : Nat := 54
abbrev yZ_tighten : Nat := 55
abbrev yX_lowerOf : Nat := 56
abbrev yZ_keepRules : Nat := 57
abbrev yZ_goUp : Nat := 58
abbrev yZ_waitIn : Nat := 59
abbrev yZ_greatOf : Nat := 60
abbrev yX_numberOf : Nat := 61
abbrev yZ_roughBound : Nat := 62
abbrev yX_closeCells : Nat := 63
abbrev yZ_close : Nat := 64
abbrev yZ_roughen : Nat := 65
abbrev yZ_become : Nat := 66
abbrev yG_append : Nat := 67
abbrev yZ_assign : Nat := 68
abbrev yZ_applySets : Nat := 69
abbrev yZ_stepBy : Nat := 70
abbrev yZ_covers : Nat := 71
abbrev yG_isCovered : Nat := 72
abbrev yG_grow : Nat := 73
abbrev yG_build : Nat := 74
abbrev yX_text : Nat := 75
abbrev yM_isIn : Nat := 76
abbrev yM_see : Nat := 77
abbrev yM_advance : Nat := 78
abbrev yM_isWord : Nat := 79
abbrev yM_must : Nat := 80
abbrev yM_opens : Nat := 81
abbrev yM_isName : Nat := 82
abbrev yM_at : Nat := 83
abbrev yM_freshHere : Nat := 84
abbrev yM_seenHere : Nat := 85
abbrev yM_numberHere : Nat := 86
abbrev yM_whensHere : Nat := 87
abbrev yM_placeHere : Nat := 88
abbrev yM_setsHere : Nat := 89
abbrev yM_lineHere : Nat := 90
abbrev yM_copies : Nat := 91
abbrev yM_grows : Nat := 92
abbrev yM_greatens : Nat := 93
abbrev yM_reachedS : Nat := 94
abbrev yM_tightens : Nat := 95
abbrev yM_meets : Nat := 96
abbrev yM_plus : Nat := 97
abbrev yM_closes : Nat := 98
abbrev yM_whens : Nat := 99
abbrev yM_ups : Nat := 100
abbrev yM_stays : Nat := 101
abbrev yM_numberOf : Nat := 102
abbrev yM_roughens : Nat := 103
abbrev yM_adds : Nat := 104
abbrev yM_loadsNode : Nat := 105
abbrev yM_sets : Nat := 106
abbrev yM_steps : Nat := 107
abbrev yM_isInside : Nat := 108
abbrev yM_isKnown : Nat := 109
abbrev yM_explores : Nat := 110
abbrev yM_becomes : Nat := 111
abbrev yM_text : Nat := 112
abbrev yX_fault : Nat := 113
abbrev yM_fault : Nat := 114
abbrev yX_isPlace : Nat := 115
abbrev yL_edgesFrom : Nat := 116
abbrev yL_edgesTo : Nat := 117
abbrev yG_nodesOf : Nat := 118
abbrev yX_place : Nat := 119
abbrev yM_isPlace : Nat := 120
abbrev yM_firstNode : Nat := 121
abbrev yM_place : Nat := 122
abbrev yM_thrown : Nat := 123
abbrev yX_isEdge : Nat := 124
abbrev yG_hasNodeBy : Nat := 125
abbrev yX_edge : Nat := 126
abbrev yM_isEdge : Nat := 127
abbrev yM_edge : Nat := 128
abbrev yX_when : Nat := 129
abbrev yM_when : Nat := 130
abbrev yX_set : Nat := 131
abbrev yM_isTwo : Nat := 132
abbrev yM_set : Nat := 133
abbrev yX_isClock : Nat := 134
abbrev yX_great : Nat := 135
abbrev yM_isClock : Nat := 136
abbrev yM_great : Nat := 137
abbrev yX_isTable : Nat := 138
abbrev yZ_release : Nat := 139
abbrev yZ_layAll : Nat := 140
abbrev yZ_layNothing : Nat := 141
abbrev yZ_goesBeyond : Nat := 142
abbrev yH_goOn : Nat := 143
abbrev yH_keepTable : Nat := 144
abbrev yX_settle : Nat := 145
abbrev yX_lay : Nat := 146
abbrev yM_isTable : Nat := 147
abbrev yM_wide : Nat := 148
abbrev yM_isFar : Nat := 149
abbrev yM_keeps : Nat := 150
abbrev yM_becomesTable : Nat := 151
abbrev yM_lay : Nat := 152
abbrev yX_isPair : Nat := 153
abbrev yZ_relate : Nat := 154
abbrev yX_meet : Nat := 155
abbrev yM_arePair : Nat := 156
abbrev yM_loads : Nat := 157
abbrev yM_meet : Nat := 158
abbrev yZ_goDown : Nat := 159
abbrev yX_pass : Nat := 160
abbrev yM_downs : Nat := 161
abbrev yM_pass : Nat := 162
abbrev yX_reset : Nat := 163
abbrev yM_reset : Nat := 164
abbrev yX_free : Nat := 165
abbrev yM_frees : Nat := 166
abbrev yM_free : Nat := 167
abbrev yX_copy : Nat := 168
abbrev yM_copy : Nat := 169
abbrev yZ_widenTo : Nat := 170
abbrev yX_join : Nat := 171
abbrev yM_other : Nat := 172
abbrev yM_join : Nat := 173
abbrev yZ_narrowTo : Nat := 174
abbrev yX_both : Nat := 175
abbrev yM_meetsTable : Nat := 176
abbrev yM_both : Nat := 177
abbrev yX_step : Nat := 178
abbrev yM_step : Nat := 179
abbrev yX_stay : Nat := 180
abbrev yM_stay : Nat := 181
abbrev yX_rough : Nat := 182
abbrev yM_rough : Nat := 183
abbrev yX_isNode : Nat := 184
abbrev yX_take : Nat := 185
abbrev yM_take : Nat := 186
abbrev yH_dropLatest : Nat := 187
abbrev yH_restorePath : Nat := 188
abbrev yX_undo : Nat := 189
abbrev yM_undo : Nat := 190
abbrev yX_reachedOf : Nat := 191
abbrev yX_tellBound : Nat := 192
abbrev yX_boundOf : Nat := 193
abbrev yX_bound : Nat := 194
abbrev yM_told : Nat := 195
abbrev yM_bound : Nat := 196
abbrev yX_empty : Nat := 197
abbrev yM_empty : Nat := 198
abbrev yX_within : Nat := 199
abbrev yM_within : Nat := 200
abbrev yZ_holdsHalves : Nat := 201
abbrev yX_has : Nat := 202
abbrev yM_hasTimes : Nat := 203
abbrev yM_has : Nat := 204
abbrev yZ_followsFromOthers : Nat := 205
abbrev yZ_countsAsPair : Nat := 206
abbrev yX_pairs : Nat := 207
abbrev yM_follows : Nat := 208
abbrev yM_pairs : Nat := 209
abbrev yX_wholeBound : Nat := 210
abbrev yZ_keepWhole : Nat := 211
abbrev yX_pointsFrom0 : Nat := 212
abbrev yX_pointsFrom1 : Nat := 213
abbrev yX_pointsFrom2 : Nat := 214
abbrev yX_pointsFrom3 : Nat := 215
abbrev yX_pointsFrom4 : Nat := 216
abbrev yX_pointsFrom5 : Nat := 217
abbrev yX_whole : Nat := 218
abbrev yM_whole : Nat := 219
abbrev yZ_leastOf : Nat := 220
abbrev yX_first : Nat := 221
abbrev yM_wholes : Nat := 222
abbrev yM_first : Nat := 223
abbrev yX_nodes : Nat := 224
abbrev yM_nodes : Nat := 225
abbrev yX_node : Nat := 226
abbrev yM_depth : Nat := 227
abbrev yM_node : Nat := 228
abbrev yX_nodeBound : Nat := 229
abbrev yM_nodeBound : Nat := 230
abbrev yG_findWay : Nat := 231
abbrev yX_way : Nat := 232
abbrev yM_laysRoad : Nat := 233
abbrev yM_way : Nat := 234
abbrev yG_openEdges : Nat := 235
abbrev yX_open : Nat := 236
abbrev yM_openOf : Nat := 237
abbrev yM_open : Nat := 238
abbrev yX_stuck : Nat := 239
abbrev yM_stuck : Nat := 240
abbrev yX_reached : Nat := 241
abbrev yM_reached : Nat := 242
abbrev yP_endIn : Nat := 243
abbrev yH_keepPath : Nat := 244
abbrev yX_changePath : Nat := 245
abbrev yX_add : Nat := 246
abbrev yM_traced : Nat := 247
abbrev yM_add : Nat := 248
abbrev yX_lead : Nat := 249
abbrev yM_lead : Nat := 250
abbrev yX_trace : Nat := 251
abbrev yM_trace : Nat := 252
abbrev yT_lower : Nat := 253
abbrev yT_keepRules : Nat := 254
abbrev yT_takeEdge : Nat := 255
abbrev yT_build : Nat := 256
abbrev yX_timesOfPath : Nat := 257
abbrev yX_can : Nat := 258
abbrev yM_holds : Nat := 259
abbrev yM_holdsAt : Nat := 260
abbrev yM_laysTimes : Nat := 261
abbrev yM_laysTrace : Nat := 262
abbrev yM_can : Nat := 263
abbrev yT_span : Nat := 264
abbrev yX_window : Nat := 265
abbrev yM_spanOf : Nat := 266
abbrev yM_window : Nat := 267
abbrev yX_between : Nat := 268
abbrev yM_between : Nat := 269
abbrev yP_setterAhead : Nat := 270
abbrev yX_value : Nat := 271
abbrev yM_value : Nat := 272
abbrev yW_goAlong : Nat := 273
abbrev yW_breakIn : Nat := 274
abbrev yX_breaks : Nat := 275
abbrev yM_breaks : Nat := 276
abbrev yX_width : Nat := 277
abbrev yM_width : Nat := 278
abbrev yX_touch : Nat := 279
abbrev yM_touch : Nat := 280
abbrev yZ_stepBackBy : Nat := 281
abbrev yX_back : Nat := 282
abbrev yM_backs : Nat := 283
abbrev yM_back : Nat := 284
abbrev yZ_becomeTimed : Nat := 285
abbrev yX_longest : Nat := 286
abbrev yM_stretches : Nat := 287
abbrev yM_longest : Nat := 288
abbrev yX_soonest : Nat := 289
abbrev yM_low : Nat := 290
abbrev yM_soonest : Nat := 291
abbrev yL_placesBehind : Nat := 292
abbrev yX_leads : Nat := 293
abbrev yM_leads : Nat := 294
abbrev yX_fastest : Nat := 295
abbrev yM_fastest : Nat := 296
abbrev yT_buildWhole : Nat := 297
abbrev yT_leastWhole : Nat := 298
abbrev yX_moment : Nat := 299
abbrev yM_moment : Nat := 300
abbrev yX_deepest : Nat := 301
abbrev yM_deepest : Nat := 302
abbrev yL_hasRuleOf : Nat := 303
abbrev yL_listsWith : Nat := 304
abbrev yL_edgesThatSet : Nat := 305
abbrev yX_tells : Nat := 306
abbrev yM_hasWhen : Nat := 307
abbrev yM_hasSet : Nat := 308
abbrev yM_tells : Nat := 309
abbrev yX_single : Nat := 310
abbrev yM_single : Nat := 311
abbrev yX_count : Nat := 312
abbrev yM_count : Nat := 313
abbrev yY_law : Nat := 314
def wk_k : List (Nat × Nat) := [(111, 0), (104, 0), (8, 0), (4, 0), (101, 900), (3, 0), (100, 4), (100, 8), (100, 4), (100, 24), (100, 144), (100, 144), (100, 144), (100, 16), (100, 16), (100, 16), (100, 64), (100, 64), (3, 0), (100, 4), (100, 8), (100, 4), (100, 24), (100, 144), (100, 144), (100, 144), (100, 16), (100, 16), (100, 16), (100, 64), (100, 64), (102, 4), (7, 0), (100, 36), (7, 0), (100, 36), (100, 6), (0, 0), (102, 60), (100, 60), (100, 60), (100, 60), (100, 60), (100, 60), (100, 8), (100, 60), (7, 0), (100, 36), (7, 0), (100, 36), (7, 0), (100, 36), (7, 0), (100, 36), (7, 0), (100, 36), (7, 0), (100, 36), (7, 0), (100, 36), (7, 0), (100, 36), (7, 0), (100, 36), (7, 0), (100, 36), (7, 0), (100, 36), (7, 0), (100, 36), (7, 0), (100, 36), (7, 0), (100, 36), (7, 0), (100, 36), (7, 0), (100, 36), (7, 0), (100, 36), (7, 0), (100, 36), (7, 0), (100, 36), (7, 0), (100, 36), (7, 0), (100, 36), (7, 0), (100, 36), (7, 0), (100, 36), (7, 0), (100, 36), (7, 0), (100, 36), (7, 0), (100, 36), (7, 0), (100, 36), (7, 0), (100, 36), (7, 0), (100, 36), (7, 0), (100, 36), (7, 0), (100, 36), (7, 0), (100, 36), (7, 0), (100, 36), (7, 0), (100, 36), (7, 0), (100, 36), (7, 0), (100, 36), (7, 0), (100, 36), (7, 0), (100, 36), (7, 0), (100, 36), (7, 0), (100, 36), (7, 0), (100, 36), (7, 0), (100, 36), (7, 0), (100, 36), (7, 0), (100, 36), (7, 0), (100, 36), (7, 0), (100, 36), (7, 0), (100, 36), (7, 0), (100, 36), (7, 0), (100, 36), (7, 0), (100, 36), (7, 0), (100, 36), (7, 0), (100, 36), (7, 0), (100, 36), (7, 0), (100, 36), (7, 0), (100, 36), (7, 0), (100, 36), (7, 0), (100, 36), (7, 0), (100, 36), (7, 0), (100, 36), (7, 0), (100, 36), (7, 0), (100, 36), (2, 0), (100, 20), (5, 0), (100, 441), (100, 441), (100, 4), (100, 4), (6, 0), (7, 0), (100, 36), (1, 0), (100, 16), (102, 16), (100, 320), (100, 16), (7, 0), (100, 36), (7, 0), (100, 36), (7, 0), (100, 36), (7, 0), (100, 36), (7, 0), (100, 36), (7, 0), (100, 36), (7, 0), (100, 36), (7, 0), (100, 36), (7, 0), (100, 36), (7, 0), (100, 36), (7, 0), (100, 36), (7, 0), (100, 36), (7, 0), (100, 36), (7, 0), (100, 36), (7, 0), (100, 36), (7, 0), (100, 36), (7, 0), (100, 36), (7, 0), (100, 36), (7, 0), (100, 36), (7, 0), (100, 36), (9, 0), (100, 24), (100, 144), (100, 144), (100, 144), (100, 16), (100, 16), (100, 16), (100, 64), (100, 64), (100, 5), (100, 125), (100, 2000), (100, 60), (100, 60), (100, 60), (100, 1500), (101, 900), (100, 4), (100, 8), (100, 24), (100, 144), (100, 144), (100, 144), (100, 16), (100, 16), (100, 16), (100, 64), (100, 64), (100, 3844), (100, 5), (100, 60), (100, 4), (100, 4), (100, 240), (100, 240), (103, 1)]
def wk_r : List (Nat × List Nat) := [(2, [3, 18, 31, 32, 34, 36, 37, 168, 170, 175, 178]), (3, [4, 0, 5, 0, 0, 0, 0, 0, 0, 0]), (5, [0, 0, 0, 0, 0, 0, 6, 7, 8, 9, 10, 11, 12, 13, 14, 15, 16, 17]), (18, [0, 0, 0, 0, 0, 0, 19, 20, 21, 22, 23, 24, 25, 26, 27, 28, 29, 30]), (31, [215, 217, 219, 221]), (32, [33, 0, 0]), (34, [35, 0, 0]), (37, [38, 39, 40, 41, 42, 43, 44, 45, 46, 0]), (38, [48, 50, 52, 54, 56, 58, 60, 62, 64, 66, 68, 70, 72, 74, 76, 78, 80, 82, 84, 86, 88, 90, 92, 94, 96, 98, 100, 102, 104, 106, 108, 110, 112, 114, 116, 118, 120, 122, 124, 126, 128, 130, 132, 134, 136, 138, 140, 142, 144, 146, 148, 150, 152, 154, 156, 158, 160, 162, 164, 166]), (46, [47, 0, 0]), (48, [49, 0, 0]), (50, [51, 0, 0]), (52, [53, 0, 0]), (54, [55, 0, 0]), (56, [57, 0, 0]), (58, [59, 0, 0]), (60, [61, 0, 0]), (62, [63, 0, 0]), (64, [65, 0, 0]), (66, [67, 0, 0]), (68, [69, 0, 0]), (70, [71, 0, 0]), (72, [73, 0, 0]), (74, [75, 0, 0]), (76, [77, 0, 0]), (78, [79, 0, 0]), (80, [81, 0, 0]), (82, [83, 0, 0]), (84, [85, 0, 0]), (86, [87, 0, 0]), (88, [89, 0, 0]), (90, [91, 0, 0]), (92, [93, 0, 0]), (94, [95, 0, 0]), (96, [97, 0, 0]), (98, [99, 0, 0]), (100, [101, 0, 0]), (102, [103, 0, 0]), (104, [105, 0, 0]), (106, [107, 0, 0]), (108, [109, 0, 0]), (110, [111, 0, 0]), (112, [113, 0, 0]), (114, [115, 0, 0]), (116, [117, 0, 0]), (118, [119, 0, 0]), (120, [121, 0, 0]), (122, [123, 0, 0]), (124, [125, 0, 0]), (126, [127, 0, 0]), (128, [129, 0, 0]), (130, [131, 0, 0]), (132, [133, 0, 0]), (134, [135, 0, 0]), (136, [137, 0, 0]), (138, [139, 0, 0]), (140, [141, 0, 0]), (142, [143, 0, 0]), (144, [145, 0, 0]), (146, [147, 0, 0]), (148, [149, 0, 0]), (150, [151, 0, 0]), (152, [153, 0, 0]), (154, [155, 0, 0]), (156, [157, 0, 0]), (158, [159, 0, 0]), (160, [161, 0, 0]), (162, [163, 0, 0]), (164, [165, 0, 0]), (166, [167, 0, 0]), (168, [169, 0]), (170, [171, 172, 173, 174, 0, 0, 0, 0]), (175, [176]), (176, [177, 0, 0]), (178, [179, 180, 181, 182, 0, 0]), (180, [183, 185, 187, 189, 191, 193, 195, 197, 199, 201, 203, 205, 207, 209, 211, 213]), (183, [184, 0, 0]), (185, [186, 0, 0]), (187, [188, 0, 0]), (189, [190, 0, 0]), (191, [192, 0, 0]), (193, [194, 0, 0]), (195, [196, 0, 0]), (197, [198, 0, 0]), (199, [200, 0, 0]), (201, [202, 0, 0]), (203, [204, 0, 0]), (205, [206, 0, 0]), (207, [208, 0, 0]), (209, [210, 0, 0]), (211, [212, 0, 0]), (213, [214, 0, 0]), (215, [216, 0, 0]), (217, [218, 0, 0]), (219, [220, 0, 0]), (221, [222, 0, 0]), (223, [0, 0, 0, 0, 0, 0, 224, 225, 226, 227, 228, 229, 230, 231, 232, 233, 234, 235, 0, 236, 237, 238, 239, 0, 240, 0, 0, 0, 0, 0, 0, 0, 0, 0, 241, 242, 0, 0, 0, 0, 0, 0, 243, 244, 245, 246, 247, 248, 249, 250, 251, 252, 0, 0, 253, 254, 0, 255, 256, 257, 258])]
def pl (sw : Bool) : Nat := if sw then 5 else 18
def fr (sw : Bool) : Nat := if sw then 18 else 5
def wk_ref (sw : Bool) (a k : Nat) : Nat := if a = 2 ∧ k = 1 then pl sw else if a = 3 ∧ k = 2 then fr sw else ((mj_look wk_r a).getD []).getD k 0
/-- the cells are as the constructors made them (sw: the plans have changed places) -/
def wk (sw : Bool) (w : mj_W) : Prop := (∀ a, 2 ≤ a → a < 260 → w.1 a = wk_k.getD a (0, 0)) ∧ (∀ a k, 2 ≤ a → a < 260 → w.2.1 a k = wk_ref sw a k) ∧ 260 ≤ w.2.2.1
section WK
variable {sw : Bool} {w : mj_W}
theorem k_2 (hw : wk sw w) : w.1 2 = (8, 0) := hw.1 2 (by decide) (by decide)
theorem r_2_0 (hw : wk sw w) : w.2.1 2 0 = 3 := hw.2.1 2 0 (by decide) (by decide)
theorem r_2_1 (hw : wk sw w) : w.2.1 2 1 = pl sw := hw.2.1 2 1 (by decide) (by decide)
theorem r_2_2 (hw : wk sw w) : w.2.1 2 2 = 31 := hw.2.1 2 2 (by decide) (by decide)
theorem r_2_3 (hw : wk sw w) : w.2.1 2 3 = 32 := hw.2.1 2 3 (by decide) (by decide)
theorem r_2_4 (hw : wk sw w) : w.2.1 2 4 = 34 := hw.2.1 2 4 (by decide) (by decide)
theorem r_2_5 (hw : wk sw w) : w.2.1 2 5 = 36 := hw.2.1 2 5 (by decide) (by decide)
theorem r_2_6 (hw : wk sw w) : w.2.1 2 6 = 37 := hw.2.1 2 6 (by decide) (by decide)
theorem r_2_7 (hw : wk sw w) : w.2.1 2 7 = 168 := hw.2.1 2 7 (by decide) (by decide)
theorem r_2_8 (hw : wk sw w) : w.2.1 2 8 = 170 := hw.2.1 2 8 (by decide) (by decide)
theorem r_2_9 (hw : wk sw w) : w.2.1 2 9 = 175 := hw.2.1 2 9 (by decide) (by decide)
theorem r_2_10 (hw : wk sw w) : w.2.1 2 10 = 178 := hw.2.1 2 10 (by decide) (by decide)
theorem k_3 (hw : wk sw w) : w.1 3 = (4, 0) := hw.1 3 (by decide) (by decide)
theorem r_3_0 (hw : wk sw w) : w.2.1 3 0 = 4 := hw.2.1 3 0 (by decide) (by decide)
theorem r_3_2 (hw : wk sw w) : w.2.1 3 2 = fr sw := hw.2.1 3 2 (by decide) (by decide)
theorem k_4 (hw : wk sw w) : w.1 4 = (101, 900) := hw.1 4 (by decide) (by decide)
theorem k_31 (hw : wk sw w) : w.1 31 = (102, 4) := hw.1 31 (by decide) (by decide)
theorem k_36 (hw : wk sw w) : w.1 36 = (100, 6) := hw.1 36 (by decide) (by decide)
theorem k_37 (hw : wk sw w) : w.1 37 = (0, 0) := hw.1 37 (by decide) (by decide)
theorem r_37_0 (hw : wk sw w) : w.2.1 37 0 = 38 := hw.2.1 37 0 (by decide) (by decide)
theorem r_37_1 (hw : wk sw w) : w.2.1 37 1 = 39 := hw.2.1 37 1 (by decide) (by decide)
theorem r_37_2 (hw : wk sw w) : w.2.1 37 2 = 40 := hw.2.1 37 2 (by decide) (by decide)
theorem r_37_3 (hw : wk sw w) : w.2.1 37 3 = 41 := hw.2.1 37 3 (by decide) (by decide)
theorem r_37_4 (hw : wk sw w) : w.2.1 37 4 = 42 := hw.2.1 37 4 (by decide) (by decide)
theorem r_37_5 (hw : wk sw w) : w.2.1 37 5 = 43 := hw.2.1 37 5 (by decide) (by decide)
theorem r_37_6 (hw : wk sw w) : w.2.1 37 6 = 44 := hw.2.1 37 6 (by decide) (by decide)
theorem r_37_7 (hw : wk sw w) : w.2.1 37 7 = 45 := hw.2.1 37 7 (by decide) (by decide)
theorem r_37_8 (hw : wk sw w) : w.2.1 37 8 = 46 := hw.2.1 37 8 (by decide) (by decide)
theorem k_38 (hw : wk sw w) : w.1 38 = (102, 60) := hw.1 38 (by decide) (by decide)
theorem k_39 (hw : wk sw w) : w.1 39 = (100, 60) := hw.1 39 (by decide) (by decide)
theorem k_40 (hw : wk sw w) : w.1 40 = (100, 60) := hw.1 40 (by decide) (by decide)
theorem k_41 (hw : wk sw w) : w.1 41 = (100, 60) := hw.1 41 (by decide) (by decide)
theorem k_42 (hw : wk sw w) : w.1 42 = (100, 60) := hw.1 42 (by decide) (by decide)
theorem k_43 (hw : wk sw w) : w.1 43 = (100, 60) := hw.1 43 (by decide) (by decide)
theorem k_44 (hw : wk sw w) : w.1 44 = (100, 8) := hw.1 44 (by decide) (by decide)
theorem k_45 (hw : wk sw w) : w.1 45 = (100, 60) := hw.1 45 (by decide) (by decide)
theorem k_168 (hw : wk sw w) : w.1 168 = (2, 0) := hw.1 168 (by decide) (by decide)
theorem r_168_0 (hw : wk sw w) : w.2.1 168 0 = 169 := hw.2.1 168 0 (by decide) (by decide)
theorem k_169 (hw : wk sw w) : w.1 169 = (100, 20) := hw.1 169 (by decide) (by decide)
theorem k_170 (hw : wk sw w) : w.1 170 = (5, 0) := hw.1 170 (by decide) (by decide)
theorem r_170_0 (hw : wk sw w) : w.2.1 170 0 = 171 := hw.2.1 170 0 (by decide) (by decide)
theorem r_170_1 (hw : wk sw w) : w.2.1 170 1 = 172 := hw.2.1 170 1 (by decide) (by decide)
theorem r_170_2 (hw : wk sw w) : w.2.1 170 2 = 173 := hw.2.1 170 2 (by decide) (by decide)
theorem r_170_3 (hw : wk sw w) : w.2.1 170 3 = 174 := hw.2.1 170 3 (by decide) (by decide)
theorem k_171 (hw : wk sw w) : w.1 171 = (100, 441) := hw.1 171 (by decide) (by decide)
theorem k_172 (hw : wk sw w) : w.1 172 = (100, 441) := hw.1 172 (by decide) (by decide)
theorem k_173 (hw : wk sw w) : w.1 173 = (100, 4) := hw.1 173 (by decide) (by decide)
theorem k_174 (hw : wk sw w) : w.1 174 = (100, 4) := hw.1 174 (by decide) (by decide)
theorem k_175 (hw : wk sw w) : w.1 175 = (6, 0) := hw.1 175 (by decide) (by decide)
theorem r_175_0 (hw : wk sw w) : w.2.1 175 0 = 176 := hw.2.1 175 0 (by decide) (by decide)
theorem k_178 (hw : wk sw w) : w.1 178 = (1, 0) := hw.1 178 (by decide) (by decide)
theorem r_178_0 (hw : wk sw w) : w.2.1 178 0 = 179 := hw.2.1 178 0 (by decide) (by decide)
theorem r_178_1 (hw : wk sw w) : w.2.1 178 1 = 180 := hw.2.1 178 1 (by decide) (by decide)
theorem r_178_2 (hw : wk sw w) : w.2.1 178 2 = 181 := hw.2.1 178 2 (by decide) (by decide)
theorem r_178_3 (hw : wk sw w) : w.2.1 178 3 = 182 := hw.2.1 178 3 (by decide) (by decide)
theorem k_179 (hw : wk sw w) : w.1 179 = (100, 16) := hw.1 179 (by decide) (by decide)
theorem k_180 (hw : wk sw w) : w.1 180 = (102, 16) := hw.1 180 (by decide) (by decide)
theorem k_181 (hw : wk sw w) : w.1 181 = (100, 320) := hw.1 181 (by decide) (by decide)
theorem k_182 (hw : wk sw w) : w.1 182 = (100, 16) := hw.1 182 (by decide) (by decide)
theorem k_223 (hw : wk sw w) : w.1 223 = (9, 0) := hw.1 223 (by decide) (by decide)
theorem r_223_6 (hw : wk sw w) : w.2.1 223 6 = 224 := hw.2.1 223 6 (by decide) (by decide)
theorem r_223_7 (hw : wk sw w) : w.2.1 223 7 = 225 := hw.2.1 223 7 (by decide) (by decide)
theorem r_223_8 (hw : wk sw w) : w.2.1 223 8 = 226 := hw.2.1 223 8 (by decide) (by decide)
theorem r_223_9 (hw : wk sw w) : w.2.1 223 9 = 227 := hw.2.1 223 9 (by decide) (by decide)
theorem r_223_10 (hw : wk sw w) : w.2.1 223 10 = 228 := hw.2.1 223 10 (by decide) (by decide)
theorem r_223_11 (hw : wk sw w) : w.2.1 223 11 = 229 := hw.2.1 223 11 (by decide) (by decide)
theorem r_223_12 (hw : wk sw w) : w.2.1 223 12 = 230 := hw.2.1 223 12 (by decide) (by decide)
theorem r_223_13 (hw : wk sw w) : w.2.1 223 13 = 231 := hw.2.1 223 13 (by decide) (by decide)
theorem r_223_14 (hw : wk sw w) : w.2.1 223 14 = 232 := hw.2.1 223 14 (by decide) (by decide)
theorem r_223_15 (hw : wk sw w) : w.2.1 223 15 = 233 := hw.2.1 223 15 (by decide) (by decide)
theorem r_223_16 (hw : wk sw w) : w.2.1 223 16 = 234 := hw.2.1 223 16 (by decide) (by decide)
theorem r_223_17 (hw : wk sw w) : w.2.1 223 17 = 235 := hw.2.1 223 17 (by decide) (by decide)
theorem r_223_19 (hw : wk sw w) : w.2.1 223 19 = 236 := hw.2.1 223 19 (by decide) (by decide)
theorem r_223_20 (hw : wk sw w) : w.2.1 223 20 = 237 := hw.2.1 223 20 (by decide) (by decide)
theorem r_223_21 (hw : wk sw w) : w.2.1 223 21 = 238 := hw.2.1 223 21 (by decide) (by decide)
theorem r_223_22 (hw : wk sw w) : w.2.1 223 22 = 239 := hw.2.1 223 22 (by decide) (by decide)
theorem r_223_24 (hw : wk sw w) : w.2.1 223 24 = 240 := hw.2.1 223 24 (by decide) (by decide)
theorem r_223_34 (hw : wk sw w) : w.2.1 223 34 = 241 := hw.2.1 223 34 (by decide) (by decide)
theorem r_223_35 (hw : wk sw w) : w.2.1 223 35 = 242 := hw.2.1 223 35 (by decide) (by decide)
theorem r_223_42 (hw : wk sw w) : w.2.1 223 42 = 243 := hw.2.1 223 42 (by decide) (by decide)
theorem r_223_43 (hw : wk sw w) : w.2.1 223 43 = 244 := hw.2.1 223 43 (by decide) (by decide)
theorem r_223_44 (hw : wk sw w) : w.2.1 223 44 = 245 := hw.2.1 223 44 (by decide) (by decide)
theorem r_223_45 (hw : wk sw w) : w.2.1 223 45 = 246 := hw.2.1 223 45 (by decide) (by decide)
theorem r_223_46 (hw : wk sw w) : w.2.1 223 46 = 247 := hw.2.1 223 46 (by decide) (by decide)
theorem r_223_47 (hw : wk sw w) : w.2.1 223 47 = 248 := hw.2.1 223 47 (by decide) (by decide)
theorem r_223_48 (hw : wk sw w) : w.2.1 223 48 = 249 := hw.2.1 223 48 (by decide) (by decide)
theorem r_223_49 (hw : wk sw w) : w.2.1 223 49 = 250 := hw.2.1 223 49 (by decide) (by decide)
theorem r_223_50 (hw : wk sw w) : w.2.1 223 50 = 251 := hw.2.1 223 50 (by decide) (by decide)
theorem r_223_51 (hw : wk sw w) : w.2.1 223 51 = 252 := hw.2.1 223 51 (by decide) (by decide)
theorem r_223_54 (hw : wk sw w) : w.2.1 223 54 = 253 := hw.2.1 223 54 (by decide) (by decide)
theorem r_223_55 (hw : wk sw w) : w.2.1 223 55 = 254 := hw.2.1 223 55 (by decide) (by decide)
theorem r_223_57 (hw : wk sw w) : w.2.1 223 57 = 255 := hw.2.1 223 57 (by decide) (by decide)
theorem r_223_58 (hw : wk sw w) : w.2.1 223 58 = 256 := hw.2.1 223 58 (by decide) (by decide)
theorem r_223_59 (hw : wk sw w) : w.2.1 223 59 = 257 := hw.2.1 223 59 (by decide) (by decide)
theorem r_223_60 (hw : wk sw w) : w.2.1 223 60 = 258 := hw.2.1 223 60 (by decide) (by decide)
theorem k_224 (hw : wk sw w) : w.1 224 = (100, 24) := hw.1 224 (by decide) (by decide)
theorem k_225 (hw : wk sw w) : w.1 225 = (100, 144) := hw.1 225 (by decide) (by decide)
theorem k_226 (hw : wk sw w) : w.1 226 = (100, 144) := hw.1 226 (by decide) (by decide)
theorem k_227 (hw : wk sw w) : w.1 227 = (100, 144) := hw.1 227 (by decide) (by decide)
theorem k_228 (hw : wk sw w) : w.1 228 = (100, 16) := hw.1 228 (by decide) (by decide)
theorem k_229 (hw : wk sw w) : w.1 229 = (100, 16) := hw.1 229 (by decide) (by decide)
theorem k_230 (hw : wk sw w) : w.1 230 = (100, 16) := hw.1 230 (by decide) (by decide)
theorem k_231 (hw : wk sw w) : w.1 231 = (100, 64) := hw.1 231 (by decide) (by decide)
theorem k_232 (hw : wk sw w) : w.1 232 = (100, 64) := hw.1 232 (by decide) (by decide)
theorem k_233 (hw : wk sw w) : w.1 233 = (100, 5) := hw.1 233 (by decide) (by decide)
theorem k_234 (hw : wk sw w) : w.1 234 = (100, 125) := hw.1 234 (by decide) (by decide)
theorem k_235 (hw : wk sw w) : w.1 235 = (100, 2000) := hw.1 235 (by decide) (by decide)
theorem k_236 (hw : wk sw w) : w.1 236 = (100, 60) := hw.1 236 (by decide) (by decide)
theorem k_237 (hw : wk sw w) : w.1 237 = (100, 60) := hw.1 237 (by decide) (by decide)
theorem k_238 (hw : wk sw w) : w.1 238 = (100, 60) := hw.1 238 (by decide) (by decide)
theorem k_239 (hw : wk sw w) : w.1 239 = (100, 1500) := hw.1 239 (by decide) (by decide)
theorem k_240 (hw : wk sw w) : w.1 240 = (101, 900) := hw.1 240 (by decide) (by decide)
theorem k_241 (hw : wk sw w) : w.1 241 = (100, 4) := hw.1 241 (by decide) (by decide)
theorem k_242 (hw : wk sw w) : w.1 242 = (100, 8) := hw.1 242 (by decide) (by decide)
theorem k_243 (hw : wk sw w) : w.1 243 = (100, 24) := hw.1 243 (by decide) (by decide)
theorem k_244 (hw : wk sw w) : w.1 244 = (100, 144) := hw.1 244 (by decide) (by decide)
theorem k_245 (hw : wk sw w) : w.1 245 = (100, 144) := hw.1 245 (by decide) (by decide)
theorem k_246 (hw : wk sw w) : w.1 246 = (100, 144) := hw.1 246 (by decide) (by decide)
theorem k_247 (hw : wk sw w) : w.1 247 = (100, 16) := hw.1 247 (by decide) (by decide)
theorem k_248 (hw : wk sw w) : w.1 248 = (100, 16) := hw.1 248 (by decide) (by decide)
theorem k_249 (hw : wk sw w) : w.1 249 = (100, 16) := hw.1 249 (by decide) (by decide)
theorem k_250 (hw : wk sw w) : w.1 250 = (100, 64) := hw.1 250 (by decide) (by decide)
theorem k_251 (hw : wk sw w) : w.1 251 = (100, 64) := hw.1 251 (by decide) (by decide)
theorem k_252 (hw : wk sw w) : w.1 252 = (100, 3844) := hw.1 252 (by decide) (by decide)
theorem k_253 (hw : wk sw w) : w.1 253 = (100, 5) := hw.1 253 (by decide) (by decide)
theorem k_254 (hw : wk sw w) : w.1 254 = (100, 60) := hw.1 254 (by decide) (by decide)
theorem k_255 (hw : wk sw w) : w.1 255 = (100, 4) := hw.1 255 (by decide) (by decide)
theorem k_256 (hw : wk sw w) : w.1 256 = (100, 4) := hw.1 256 (by decide) (by decide)
theorem k_257 (hw : wk sw w) : w.1 257 = (100, 240) := hw.1 257 (by decide) (by decide)
theorem k_258 (hw : wk sw w) : w.1 258 = (100, 240) := hw.1 258 (by decide) (by decide)
theorem k_259 (hw : wk sw w) : w.1 259 = (103, 1) := hw.1 259 (by decide) (by decide)
def zn (a : Nat) : Bool := decide (a = 32) || decide (a = 34) || decide (a = 46) || decide (a = 176) || (decide (48 ≤ a) && decide (a < 168) && decide (a % 2 = 0)) || (decide (183 ≤ a) && decide (a < 223) && decide (a % 2 = 1))
theorem zn_lt {a : Nat} (h : zn a = true) : 32 ≤ a ∧ a + 1 < 260 := by
  simp only [zn, Bool.or_eq_true, Bool.and_eq_true, decide_eq_true_eq] at h
  omega
theorem zn_all : ((List.range 260).all fun a => !zn a || (decide (wk_k.getD a (0, 0) = (7, 0)) && decide (wk_k.getD (a + 1) (0, 0) = (100, 36)) && decide (wk_ref true a 0 = a + 1) && decide (wk_ref false a 0 = a + 1))) = true := by decide +kernel
theorem zn_at {a : Nat} (h : zn a = true) : (wk_k.getD a (0, 0) = (7, 0) ∧ wk_k.getD (a + 1) (0, 0) = (100, 36)) ∧ wk_ref sw a 0 = a + 1 := by
  have h1 := zn_lt h
  have h2 := List.all_eq_true.mp zn_all a (List.mem_range.mpr (by omega))
  simp only [h, Bool.not_true, Bool.false_or, Bool.and_eq_true, decide_eq_true_eq] at h2
  cases sw
  · exact ⟨h2.1.1, h2.2⟩
  · exact ⟨h2.1.1, h2.1.2⟩
theorem zn_k {a : Nat} (h : zn a = true) (hw : wk sw w) : w.1 a = (7, 0) := (hw.1 a (by have := zn_lt h; omega) (by have := zn_lt h; omega)).trans (zn_at (sw := sw) h).1.1
theorem zn_c {a : Nat} (h : zn a = true) (hw : wk sw w) : w.1 (a + 1) = (100, 36) := (hw.1 (a + 1) (by have := zn_lt h; omega) (by have := zn_lt h; omega)).trans (zn_at (sw := sw) h).1.2
theorem zn_r {a : Nat} (h : zn a = true) (hw : wk sw w) : w.2.1 a 0 = a + 1 := (hw.2.1 a 0 (by have := zn_lt h; omega) (by have := zn_lt h; omega)).trans (zn_at h).2
theorem nz1 (a : Nat) : ¬ a + 1 = 0 := by omega
def pn (p : Nat) : Prop := p = 5 ∨ p = 18
theorem pl_pn (sw : Bool) : pn (pl sw) := by unfold pn; cases sw <;> decide
theorem fr_pn (sw : Bool) : pn (fr sw) := by unfold pn; cases sw <;> decide
theorem pn_0 {p : Nat} (h : pn p) : ¬ p = 0 := by rcases h with rfl | rfl <;> decide
theorem pn_k {p : Nat} (h : pn p) (hw : wk sw w) : w.1 p = (3, 0) := by
  rcases h with rfl | rfl
  · exact hw.1 5 (by decide) (by decide)
  · exact hw.1 18 (by decide) (by decide)
theorem pn_r6 {p : Nat} (h : pn p) (hw : wk sw w) : w.2.1 p 6 = p + 1 := by
  rcases h with rfl | rfl
  · exact hw.2.1 5 6 (by decide) (by decide)
  · exact hw.2.1 18 6 (by decide) (by decide)
theorem pn_k6 {p : Nat} (h : pn p) (hw : wk sw w) : w.1 (p + 1) = (100, 4) := by
  rcases h with rfl | rfl
  · exact hw.1 (5 + 1) (by decide) (by decide)
  · exact hw.1 (18 + 1) (by decide) (by decide)
theorem pn_r7 {p : Nat} (h : pn p) (hw : wk sw w) : w.2.1 p 7 = p + 2 := by
  rcases h with rfl | rfl
  · exact hw.2.1 5 7 (by decide) (by decide)
  · exact hw.2.1 18 7 (by decide) (by decide)
theorem pn_k7 {p : Nat} (h : pn p) (hw : wk sw w) : w.1 (p + 2) = (100, 8) := by
  rcases h with rfl | rfl
  · exact hw.1 (5 + 2) (by decide) (by decide)
  · exact hw.1 (18 + 2) (by decide) (by decide)
theorem pn_r8 {p : Nat} (h : pn p) (hw : wk sw w) : w.2.1 p 8 = p + 3 := by
  rcases h with rfl | rfl
  · exact hw.2.1 5 8 (by decide) (by decide)
  · exact hw.2.1 18 8 (by decide) (by decide)
theorem pn_k8 {p : Nat} (h : pn p) (hw : wk sw w) : w.1 (p + 3) = (100, 4) := by
  rcases h with rfl | rfl
  · exact hw.1 (5 + 3) (by decide) (by decide)
  · exact hw.1 (18 + 3) (by decide) (by decide)
theorem pn_r9 {p : Nat} (h : pn p) (hw : wk sw w) : w.2.1 p 9 = p + 4 := by
  rcases h with rfl | rfl
  · exact hw.2.1 5 9 (by decide) (by decide)
  · exact hw.2.1 18 9 (by decide) (by decide)
theorem pn_k9 {p : Nat} (h : pn p) (hw : wk sw w) : w.1 (p + 4) = (100, 24) := by
  rcases h with rfl | rfl
  · exact hw.1 (5 + 4) (by decide) (by decide)
  · exact hw.1 (18 + 4) (by decide) (by decide)
theorem pn_r10 {p : Nat} (h : pn p) (hw : wk sw w) : w.2.1 p 10 = p + 5 := by
  rcases h with rfl | rfl
  · exact hw.2.1 5 10 (by decide) (by decide)
  · exact hw.2.1 18 10 (by decide) (by decide)
theorem pn_k10 {p : Nat} (h : pn p) (hw : wk sw w) : w.1 (p + 5) = (100, 144) := by
  rcases h with rfl | rfl
  · exact hw.1 (5 + 5) (by decide) (by decide)
  · exact hw.1 (18 + 5) (by decide) (by decide)
theorem pn_r11 {p : Nat} (h : pn p) (hw : wk sw w) : w.2.1 p 11 = p + 6 := by
  rcases h with rfl | rfl
  · exact hw.2.1 5 11 (by decide) (by decide)
  · exact hw.2.1 18 11 (by decide) (by decide)
theorem pn_k11 {p : Nat} (h : pn p) (hw : wk sw w) : w.1 (p + 6) = (100, 144) := by
  rcases h with rfl | rfl
  · exact hw.1 (5 + 6) (by decide) (by decide)
  · exact hw.1 (18 + 6) (by decide) (by decide)
theorem pn_r12 {p : Nat} (h : pn p) (hw : wk sw w) : w.2.1 p 12 = p + 7 := by
  rcases h with rfl | rfl
  · exact hw.2.1 5 12 (by decide) (by decide)
  · exact hw.2.1 18 12 (by decide) (by decide)
theorem pn_k12 {p : Nat} (h : pn p) (hw : wk sw w) : w.1 (p + 7) = (100, 144) := by
  rcases h with rfl | rfl
  · exact hw.1 (5 + 7) (by decide) (by decide)
  · exact hw.1 (18 + 7) (by decide) (by decide)
theorem pn_r13 {p : Nat} (h : pn p) (hw : wk sw w) : w.2.1 p 13 = p + 8 := by
  rcases h with rfl | rfl
  · exact hw.2.1 5 13 (by decide) (by decide)
  · exact hw.2.1 18 13 (by decide) (by decide)
theorem pn_k13 {p : Nat} (h : pn p) (hw : wk sw w) : w.1 (p + 8) = (100, 16) := by
  rcases h with rfl | rfl
  · exact hw.1 (5 + 8) (by decide) (by decide)
  · exact hw.1 (18 + 8) (by decide) (by decide)
theorem pn_r14 {p : Nat} (h : pn p) (hw : wk sw w) : w.2.1 p 14 = p + 9 := by
  rcases h with rfl | rfl
  · exact hw.2.1 5 14 (by decide) (by decide)
  · exact hw.2.1 18 14 (by decide) (by decide)
theorem pn_k14 {p : Nat} (h : pn p) (hw : wk sw w) : w.1 (p + 9) = (100, 16) := by
  rcases h with rfl | rfl
  · exact hw.1 (5 + 9) (by decide) (by decide)
  · exact hw.1 (18 + 9) (by decide) (by decide)
theorem pn_r15 {p : Nat} (h : pn p) (hw : wk sw w) : w.2.1 p 15 = p + 10 := by
  rcases h with rfl | rfl
  · exact hw.2.1 5 15 (by decide) (by decide)
  · exact hw.2.1 18 15 (by decide) (by decide)
theorem pn_k15 {p : Nat} (h : pn p) (hw : wk sw w) : w.1 (p + 10) = (100, 16) := by
  rcases h with rfl | rfl
  · exact hw.1 (5 + 10) (by decide) (by decide)
  · exact hw.1 (18 + 10) (by decide) (by decide)
theorem pn_r16 {p : Nat} (h : pn p) (hw : wk sw w) : w.2.1 p 16 = p + 11 := by
  rcases h with rfl | rfl
  · exact hw.2.1 5 16 (by decide) (by decide)
  · exact hw.2.1 18 16 (by decide) (by decide)
theorem pn_k16 {p : Nat} (h : pn p) (hw : wk sw w) : w.1 (p + 11) = (100, 64) := by
  rcases h with rfl | rfl
  · exact hw.1 (5 + 11) (by decide) (by decide)
  · exact hw.1 (18 + 11) (by decide) (by decide)
theorem pn_r17 {p : Nat} (h : pn p) (hw : wk sw w) : w.2.1 p 17 = p + 12 := by
  rcases h with rfl | rfl
  · exact hw.2.1 5 17 (by decide) (by decide)
  · exact hw.2.1 18 17 (by decide) (by decide)
theorem pn_k17 {p : Nat} (h : pn p) (hw : wk sw w) : w.1 (p + 12) = (100, 64) := by
  rcases h with rfl | rfl
  · exact hw.1 (5 + 12) (by decide) (by decide)
  · exact hw.1 (18 + 12) (by decide) (by decide)
theorem rz31_all : ((List.range 4).all fun i => decide (wk_ref true 31 i = 215 + 2 * i) && decide (wk_ref false 31 i = 215 + 2 * i) && zn (215 + 2 * i)) = true := by decide +kernel
theorem rz31 {j : Int} (hw : wk sw w) (h : 0 ≤ j ∧ j < ((4 : Nat) : Int)) : w.2.1 31 j.toNat = 215 + 2 * j.toNat ∧ 215 + 2 * j.toNat ≠ 0 := by
  have h2 := List.all_eq_true.mp rz31_all j.toNat (List.mem_range.mpr (by omega))
  simp only [Bool.and_eq_true, decide_eq_true_eq] at h2
  refine ⟨(hw.2.1 31 j.toNat (by decide) (by decide)).trans ?_, by omega⟩
  cases sw
  · exact h2.1.2
  · exact h2.1.1
theorem zz31 {j : Int} (h : 0 ≤ j ∧ j < ((4 : Nat) : Int)) : zn (215 + 2 * j.toNat) = true := by
  have h2 := List.all_eq_true.mp rz31_all j.toNat (List.mem_range.mpr (by omega))
  simp only [Bool.and_eq_true, decide_eq_true_eq] at h2
  exact h2.2
theorem rz38_all : ((List.range 60).all fun i => decide (wk_ref true 38 i = 48 + 2 * i) && decide (wk_ref false 38 i = 48 + 2 * i) && zn (48 + 2 * i)) = true := by decide +kernel
theorem rz38 {j : Int} (hw : wk sw w) (h : 0 ≤ j ∧ j < ((60 : Nat) : Int)) : w.2.1 38 j.toNat = 48 + 2 * j.toNat ∧ 48 + 2 * j.toNat ≠ 0 := by
  have h2 := List.all_eq_true.mp rz38_all j.toNat (List.mem_range.mpr (by omega))
  simp only [Bool.and_eq_true, decide_eq_true_eq] at h2
  refine ⟨(hw.2.1 38 j.toNat (by decide) (by decide)).trans ?_, by omega⟩
  cases sw
  · exact h2.1.2
  · exact h2.1.1
theorem zz38 {j : Int} (h : 0 ≤ j ∧ j < ((60 : Nat) : Int)) : zn (48 + 2 * j.toNat) = true := by
  have h2 := List.all_eq_true.mp rz38_all j.toNat (List.mem_range.mpr (by omega))
  simp only [Bool.and_eq_true, decide_eq_true_eq] at h2
  exact h2.2
theorem rz180_all : ((List.range 16).all fun i => decide (wk_ref true 180 i = 183 + 2 * i) && decide (wk_ref false 180 i = 183 + 2 * i) && zn (183 + 2 * i)) = true := by decide +kernel
theorem rz180 {j : Int} (hw : wk sw w) (h : 0 ≤ j ∧ j < ((16 : Nat) : Int)) : w.2.1 180 j.toNat = 183 + 2 * j.toNat ∧ 183 + 2 * j.toNat ≠ 0 := by
  have h2 := List.all_eq_true.mp rz180_all j.toNat (List.mem_range.mpr (by omega))
  simp only [Bool.and_eq_true, decide_eq_true_eq] at h2
  refine ⟨(hw.2.1 180 j.toNat (by decide) (by decide)).trans ?_, by omega⟩
  cases sw
  · exact h2.1.2
  · exact h2.1.1
theorem zz180 {j : Int} (h : 0 ≤ j ∧ j < ((16 : Nat) : Int)) : zn (183 + 2 * j.toNat) = true := by
  have h2 := List.all_eq_true.mp rz180_all j.toNat (List.mem_range.mpr (by omega))
  simp only [Bool.and_eq_true, decide_eq_true_eq] at h2
  exact h2.2
theorem zn32 : zn 32 = true := by decide
theorem zn34 : zn 34 = true := by decide
theorem zn46 : zn 46 = true := by decide
theorem zn176 : zn 176 = true := by decide
end WK
end
section
theorem c_M_get {sw : Bool} {w : mj_W} (hw : wk sw w) (f : mj_F) (x1 : Int) (x2 : Int)  : mj_call yM_get w f [.inr (.inl 223), .inl x1, .inl x2] = mj_gd (0 ≤ (mj_w ((mj_w (62 * x1)) + x2)) ∧ (mj_w ((mj_w (62 * x1)) + x2)) < ((3844 : Nat) : Int)) (some (w, f, some (.inl (f 252 (mj_w ((mj_w (62 * x1)) + x2)).toNat)))) := by
  show mj_run yM_get w f 0 [.inr (.inl 223), .inl x1, .inl x2] [] = _
  refine ms_aload_n (k := 0) (p' := 1) (by decide +kernel) rfl rfl ?_
  refine ms_getr (idx := 102) (ci := 9) (k := 51) (q := 1442) (p' := 4) (by decide +kernel) rfl (k_223 hw) (r_223_51 hw) (by decide) ?_
  refine ms_bipush (n := 62) (v := 62) (p' := 6) (by decide +kernel) rfl ?_
  refine ms_iload_n (k := 1) (p' := 7) (by decide +kernel) rfl rfl ?_
  refine ms_imul (p' := 8) (by decide +kernel) rfl ?_
  refine ms_iload_n (k := 2) (p' := 9) (by decide +kernel) rfl rfl ?_
  refine ms_iadd (p' := 10) (by decide +kernel) rfl ?_
  refine ms_iald (p' := 11) (by decide +kernel) rfl (k_252 hw) (fun hj1 => ?_)
  exact ms_iret (by decide +kernel)
theorem c_Z_layZero {sw : Bool} {w : mj_W} (hw : wk sw w) (f : mj_F) (z : Nat) (x1 : Int) (hz : zn z = true) : mj_call yZ_layZero w f [.inr (.inl z), .inl x1] = mj_gd (0 = 0 ∨ 0 = 1) (mj_bu (mj_call yA_fill w (mj_u (mj_u f z 1 x1) z 2 0) [.inr (.inl (z + 1)), .inl 1]) (fun f1 => some (w, f1, none))) := by
  show mj_run yZ_layZero w f 0 [.inr (.inl z), .inl x1] [] = _
  refine ms_aload_n (k := 0) (p' := 1) (by decide +kernel) rfl rfl ?_
  refine ms_iload_n (k := 1) (p' := 2) (by decide +kernel) rfl rfl ?_
  refine ms_puti (idx := 15) (ci := 7) (k := 1) (q := 360) (p' := 5) (by decide +kernel) rfl (zn_k hz hw) ?_
  refine ms_aload_n (k := 0) (p' := 6) (by decide +kernel) rfl rfl ?_
  refine ms_iconst (n := 0) (v := 0) (p' := 7) (by decide +kernel) rfl ?_
  refine ms_putz (idx := 19) (ci := 7) (k := 2) (q := 362) (p' := 10) (by decide +kernel) rfl (zn_k hz hw) (fun hz_ => ?_)
  refine ms_aload_n (k := 0) (p' := 11) (by decide +kernel) rfl rfl ?_
  refine ms_getr (idx := 9) (ci := 7) (k := 0) (q := 359) (p' := 14) (by decide +kernel) rfl (zn_k hz hw) (zn_r hz hw) (nz1 _) ?_
  refine ms_iconst (n := 1) (v := 1) (p' := 15) (by decide +kernel) rfl ?_
  refine ms_stat_u (idx := 23) (cy := yA_fill) (n := 2) (as := [.inr (.inl (z + 1)), .inl 1]) (rest := []) (p' := 18) (by decide +kernel) rfl rfl rfl rfl rfl (fun f1 => ?_)
  exact ms_vret (by decide +kernel)
theorem c_X_atMost {sw : Bool} {w : mj_W} (hw : wk sw w) (f : mj_F) (x0 : Int)  : mj_call yX_atMost w f [.inl x0] = some (w, f, some (.inl (mj_w ((mj_w (2 * x0)) + 1)))) := by
  show mj_run yX_atMost w f 0 [.inl x0] [] = _
  refine ms_iconst (n := 2) (v := 2) (p' := 1) (by decide +kernel) rfl ?_
  refine ms_iload_n (k := 0) (p' := 2) (by decide +kernel) rfl rfl ?_
  refine ms_imul (p' := 3) (by decide +kernel) rfl ?_
  refine ms_iconst (n := 1) (v := 1) (p' := 4) (by decide +kernel) rfl ?_
  refine ms_iadd (p' := 5) (by decide +kernel) rfl ?_
  exact ms_iret (by decide +kernel)
theorem c_X_upperOf {sw : Bool} {w : mj_W} (hw : wk sw w) (f : mj_F) (x0 : Int) (x1 : Int)  : mj_call yX_upperOf w f [.inl x0, .inl x1] = if ¬ x0 = 0 then if x0 = 1 then mj_bi (mj_call yX_atMost w f [.inl x1]) (fun f1 v2 => some (w, f1, some (.inl v2))) else if ¬ x0 = 2 then some (w, f, some (.inl 268435456)) else mj_bi (mj_call yX_atMost w f [.inl x1]) (fun f3 v4 => some (w, f3, some (.inl v4))) else mj_bi (mj_call yX_lessThan w f [.inl x1]) (fun f5 v6 => some (w, f5, some (.inl v6))) := by
  show mj_run yX_upperOf w f 0 [.inl x0, .inl x1] [] = _
  refine ms_iload_n (k := 0) (p' := 1) (by decide +kernel) rfl rfl ?_
  refine ms_if_ne (off := 8) (t := 9) (p' := 4) (by decide +kernel) rfl (fun hc => ?_) (fun hc => ?_)
  · refine ms_iload_n (k := 0) (p' := 10) (by decide +kernel) rfl rfl ?_
    refine ms_iconst (n := 1) (v := 1) (p' := 11) (by decide +kernel) rfl ?_
    refine ms_icmp_eq (off := 8) (t := 19) (p' := 14) (by decide +kernel) rfl (fun hc => ?_) (fun hc => ?_)
    · refine ms_iload_n (k := 1) (p' := 20) (by decide +kernel) rfl rfl ?_
      refine ms_stat_i (idx := 291) (cy := yX_atMost) (n := 1) (as := [.inl x1]) (rest := []) (p' := 23) (by decide +kernel) rfl rfl rfl rfl rfl (fun f1 v2 => ?_)
      refine ms_goto (off := 6) (p' := 29) (by decide +kernel) ?_
      exact ms_iret (by decide +kernel)
    · refine ms_iload_n (k := 0) (p' := 15) (by decide +kernel) rfl rfl ?_
      refine ms_iconst (n := 2) (v := 2) (p' := 16) (by decide +kernel) rfl ?_
      refine ms_icmp_ne (off := 10) (t := 26) (p' := 19) (by decide +kernel) rfl (fun hc => ?_) (fun hc => ?_)
      · refine ms_ldc_w (idx := 437) (v := 268435456) (p' := 29) (by decide +kernel) rfl ?_
        exact ms_iret (by decide +kernel)
      · refine ms_iload_n (k := 1) (p' := 20) (by decide +kernel) rfl rfl ?_
        refine ms_stat_i (idx := 291) (cy := yX_atMost) (n := 1) (as := [.inl x1]) (rest := []) (p' := 23) (by decide +kernel) rfl rfl rfl rfl rfl (fun f3 v4 => ?_)
        refine ms_goto (off := 6) (p' := 29) (by decide +kernel) ?_
        exact ms_iret (by decide +kernel)
  · refine ms_iload_n (k := 1) (p' := 5) (by decide +kernel) rfl rfl ?_
    refine ms_stat_i (idx := 444) (cy := yX_lessThan) (n := 1) (as := [.inl x1]) (rest := []) (p' := 8) (by decide +kernel) rfl rfl rfl rfl rfl (fun f5 v6 => ?_)
    exact ms_iret (by decide +kernel)
theorem c_Z_cell {sw : Bool} {w : mj_W} (hw : wk sw w) (f : mj_F) (z : Nat) (x1 : Int) (x2 : Int) (hz : zn z = true) : mj_call yZ_cell w f [.inr (.inl z), .inl x1, .inl x2] = mj_gd (0 ≤ (mj_w ((mj_w (x1 * 6)) + x2)) ∧ (mj_w ((mj_w (x1 * 6)) + x2)) < ((36 : Nat) : Int)) (some (w, f, some (.inl (f (z + 1) (mj_w ((mj_w (x1 * 6)) + x2)).toNat)))) := by
  show mj_run yZ_cell w f 0 [.inr (.inl z), .inl x1, .inl x2] [] = _
  refine ms_aload_n (k := 0) (p' := 1) (by decide +kernel) rfl rfl ?_
  refine ms_getr (idx := 9) (ci := 7) (k := 0) (q := 359) (p' := 4) (by decide +kernel) rfl (zn_k hz hw) (zn_r hz hw) (nz1 _) ?_
  refine ms_iload_n (k := 1) (p' := 5) (by decide +kernel) rfl rfl ?_
  refine ms_bipush (n := 6) (v := 6) (p' := 7) (by decide +kernel) rfl ?_
  refine ms_imul (p' := 8) (by decide +kernel) rfl ?_
  refine ms_iload_n (k := 2) (p' := 9) (by decide +kernel) rfl rfl ?_
  refine ms_iadd (p' := 10) (by decide +kernel) rfl ?_
  refine ms_iald (p' := 11) (by decide +kernel) rfl (zn_c hz hw) (fun hj1 => ?_)
  exact ms_iret (by decide +kernel)
theorem c_X_sumOf {sw : Bool} {w : mj_W} (hw : wk sw w) (f : mj_F) (x0 : Int) (x1 : Int)  : mj_call yX_sumOf w f [.inl x0, .inl x1] = if 268435456 ≤ x0 then some (w, f, some (.inl 268435456)) else if x1 < 268435456 then some (w, f, some (.inl (mj_w ((mj_w (x0 + x1)) - (mj_and (mj_or x0 x1) 1))))) else some (w, f, some (.inl 268435456)) := by
  show mj_run yX_sumOf w f 0 [.inl x0, .inl x1] [] = _
  refine ms_iload_n (k := 0) (p' := 1) (by decide +kernel) rfl rfl ?_
  refine ms_ldc_w (idx := 437) (v := 268435456) (p' := 4) (by decide +kernel) rfl ?_
  refine ms_icmp_ge (off := 10) (t := 14) (p' := 7) (by decide +kernel) rfl (fun hc => ?_) (fun hc => ?_)
  · refine ms_ldc_w (idx := 437) (v := 268435456) (p' := 17) (by decide +kernel) rfl ?_
    exact ms_iret (by decide +kernel)
  · refine ms_iload_n (k := 1) (p' := 8) (by decide +kernel) rfl rfl ?_
    refine ms_ldc_w (idx := 437) (v := 268435456) (p' := 11) (by decide +kernel) rfl ?_
    refine ms_icmp_lt (off := 7) (t := 18) (p' := 14) (by decide +kernel) rfl (fun hc => ?_) (fun hc => ?_)
    · refine ms_iload_n (k := 0) (p' := 19) (by decide +kernel) rfl rfl ?_
      refine ms_iload_n (k := 1) (p' := 20) (by decide +kernel) rfl rfl ?_
      refine ms_iadd (p' := 21) (by decide +kernel) rfl ?_
      refine ms_iload_n (k := 0) (p' := 22) (by decide +kernel) rfl rfl ?_
      refine ms_iload_n (k := 1) (p' := 23) (by decide +kernel) rfl rfl ?_
      refine ms_ior (p' := 24) (by decide +kernel) rfl ?_
      refine ms_iconst (n := 1) (v := 1) (p' := 25) (by decide +kernel) rfl ?_
      refine ms_iand (p' := 26) (by decide +kernel) rfl ?_
      refine ms_isub (p' := 27) (by decide +kernel) rfl ?_
      exact ms_iret (by decide +kernel)
    · refine ms_ldc_w (idx := 437) (v := 268435456) (p' := 17) (by decide +kernel) rfl ?_
      exact ms_iret (by decide +kernel)
theorem c_Z_put {sw : Bool} {w : mj_W} (hw : wk sw w) (f : mj_F) (z : Nat) (x1 : Int) (x2 : Int) (x3 : Int) (hz : zn z = true) : mj_call yZ_put w f [.inr (.inl z), .inl x1, .inl x2, .inl x3] = mj_gd (0 ≤ (mj_w ((mj_w (x1 * 6)) + x2)) ∧ (mj_w ((mj_w (x1 * 6)) + x2)) < ((36 : Nat) : Int)) (some (w, (mj_u f (z + 1) (mj_w ((mj_w (x1 * 6)) + x2)).toNat x3), none)) := by
  show mj_run yZ_put w f 0 [.inr (.inl z), .inl x1, .inl x2, .inl x3] [] = _
  refine ms_aload_n (k := 0) (p' := 1) (by decide +kernel) rfl rfl ?_
  refine ms_getr (idx := 9) (ci := 7) (k := 0) (q := 359) (p' := 4) (by decide +kernel) rfl (zn_k hz hw) (zn_r hz hw) (nz1 _) ?_
  refine ms_iload_n (k := 1) (p' := 5) (by decide +kernel) rfl rfl ?_
  refine ms_bipush (n := 6) (v := 6) (p' := 7) (by decide +kernel) rfl ?_
  refine ms_imul (p' := 8) (by decide +kernel) rfl ?_
  refine ms_iload_n (k := 2) (p' := 9) (by decide +kernel) rfl rfl ?_
  refine ms_iadd (p' := 10) (by decide +kernel) rfl ?_
  refine ms_iload_n (k := 3) (p' := 11) (by decide +kernel) rfl rfl ?_
  refine ms_iast (p' := 12) (by decide +kernel) rfl (zn_c hz hw) (fun hj1 => ?_)
  exact ms_vret (by decide +kernel)
theorem c_Z_tighten {sw : Bool} {w : mj_W} (hw : wk sw w) (f : mj_F) (z : Nat) (x1 : Int) (x2 : Int) (x3 : Int) (hz : zn z = true) : mj_call yZ_tighten w f [.inr (.inl z), .inl x1, .inl x2, .inl x3] = if ¬ (f z 2) = 0 then some (w, f, none) else mj_bi (mj_call yZ_cell w f [.inr (.inl z), .inl x1, .inl x2]) (fun f1 v2 => if x3 < v2 then mj_bi (mj_call yZ_cell w f1 [.inr (.inl z), .inl x2, .inl x1]) (fun f3 v4 => mj_bi (mj_call yX_sumOf w f3 [.inl x3, .inl v4]) (fun f5 v6 => if 1 ≤ v6 then mj_run yZ_tighten w f5 41 [.inr (.inl z), .inl x1, .inl x2, .inl x3, .inl 0, .inr (.inr (.inr 0)), .inr (.inr (.inr 0))] [] else mj_gd (1 = 0 ∨ 1 = 1) (some (w, (mj_u f5 z 2 1), none)))) else some (w, f1, none)) := by
  show mj_run yZ_tighten w f 0 [.inr (.inl z), .inl x1, .inl x2, .inl x3, .inr (.inr (.inr 0)), .inr (.inr (.inr 0)), .inr (.inr (.inr 0))] [] = _
  refine ms_aload_n (k := 0) (p' := 1) (by decide +kernel) rfl rfl ?_
  refine ms_geti (idx := 19) (ci := 7) (k := 2) (q := 362) (p' := 4) (by decide +kernel) rfl (zn_k hz hw) ?_
  refine ms_if_ne (off := 13) (t := 17) (p' := 7) (by decide +kernel) rfl (fun hc => ?_) (fun hc => ?_)
  · exact ms_vret (by decide +kernel)
  · refine ms_iload_n (k := 3) (p' := 8) (by decide +kernel) rfl rfl ?_
    refine ms_aload_n (k := 0) (p' := 9) (by decide +kernel) rfl rfl ?_
    refine ms_iload_n (k := 1) (p' := 10) (by decide +kernel) rfl rfl ?_
    refine ms_iload_n (k := 2) (p' := 11) (by decide +kernel) rfl rfl ?_
    refine ms_virt_i (idx := 29) (cy := yZ_cell) (n := 2) (a := z) (as := [.inl x1, .inl x2]) (rest := [.inl x3]) (p' := 14) (by decide +kernel) rfl rfl rfl rfl (zn_k hz hw) rfl (fun f1 v2 => ?_)
    refine ms_icmp_lt (off := 4) (t := 18) (p' := 17) (by decide +kernel) rfl (fun hc => ?_) (fun hc => ?_)
    · refine ms_iload_n (k := 3) (p' := 19) (by decide +kernel) rfl rfl ?_
      refine ms_aload_n (k := 0) (p' := 20) (by decide +kernel) rfl rfl ?_
      refine ms_iload_n (k := 2) (p' := 21) (by decide +kernel) rfl rfl ?_
      refine ms_iload_n (k := 1) (p' := 22) (by decide +kernel) rfl rfl ?_
      refine ms_virt_i (idx := 29) (cy := yZ_cell) (n := 2) (a := z) (as := [.inl x2, .inl x1]) (rest := [.inl x3]) (p' := 25) (by decide +kernel) rfl rfl rfl rfl (zn_k hz hw) rfl (fun f3 v4 => ?_)
      refine ms_stat_i (idx := 71) (cy := yX_sumOf) (n := 2) (as := [.inl x3, .inl v4]) (rest := []) (p' := 28) (by decide +kernel) rfl rfl rfl rfl rfl (fun f5 v6 => ?_)
      refine ms_iconst (n := 1) (v := 1) (p' := 29) (by decide +kernel) rfl ?_
      refine ms_icmp_ge (off := 9) (t := 38) (p' := 32) (by decide +kernel) rfl (fun hc => ?_) (fun hc => ?_)
      · refine ms_iconst (n := 0) (v := 0) (p' := 39) (by decide +kernel) rfl ?_
        refine ms_istore (k := 4) (ls' := [.inr (.inl z), .inl x1, .inl x2, .inl x3, .inl 0, .inr (.inr (.inr 0)), .inr (.inr (.inr 0))]) (p' := 41) (by decide +kernel) rfl (Nat.le_of_ble_eq_true rfl) rfl ?_
        rfl
      · refine ms_aload_n (k := 0) (p' := 33) (by decide +kernel) rfl rfl ?_
        refine ms_iconst (n := 1) (v := 1) (p' := 34) (by decide +kernel) rfl ?_
        refine ms_putz (idx := 19) (ci := 7) (k := 2) (q := 362) (p' := 37) (by decide +kernel) rfl (zn_k hz hw) (fun hz_ => ?_)
        exact ms_vret (by decide +kernel)
    · exact ms_vret (by decide +kernel)
theorem l_Z_tighten_41 {sw : Bool} {w : mj_W} (hw : wk sw w) (f : mj_F) (z : Nat) (x1 : Int) (x2 : Int) (x3 : Int) (x4 : Int) (u5 : mj_V) (u6 : mj_V) (hz : zn z = true) : mj_run yZ_tighten w f 41 [.inr (.inl z), .inl x1, .inl x2, .inl x3, .inl x4, u5, u6] [] = if (f z 1) ≤ x4 then some (w, f, none) else mj_bi (mj_call yZ_cell w f [.inr (.inl z), .inl x4, .inl x1]) (fun f7 v8 => mj_bi (mj_call yX_sumOf w f7 [.inl v8, .inl x3]) (fun f9 v10 => mj_run yZ_tighten w f9 66 [.inr (.inl z), .inl x1, .inl x2, .inl x3, .inl x4, .inl v10, .inl 0] [])) := by
  refine ms_iload (k := 4) (p' := 43) (by decide +kernel) rfl rfl ?_
  refine ms_aload_n (k := 0) (p' := 44) (by decide +kernel) rfl rfl ?_
  refine ms_geti (idx := 15) (ci := 7) (k := 1) (q := 360) (p' := 47) (by decide +kernel) rfl (zn_k hz hw) ?_
  refine ms_icmp_ge (off := 78) (t := 125) (p' := 50) (by decide +kernel) rfl (fun hc => ?_) (fun hc => ?_)
  · exact ms_vret (by decide +kernel)
  · refine ms_aload_n (k := 0) (p' := 51) (by decide +kernel) rfl rfl ?_
    refine ms_iload (k := 4) (p' := 53) (by decide +kernel) rfl rfl ?_
    refine ms_iload_n (k := 1) (p' := 54) (by decide +kernel) rfl rfl ?_
    refine ms_virt_i (idx := 29) (cy := yZ_cell) (n := 2) (a := z) (as := [.inl x4, .inl x1]) (rest := []) (p' := 57) (by decide +kernel) rfl rfl rfl rfl (zn_k hz hw) rfl (fun f7 v8 => ?_)
    refine ms_iload_n (k := 3) (p' := 58) (by decide +kernel) rfl rfl ?_
    refine ms_stat_i (idx := 71) (cy := yX_sumOf) (n := 2) (as := [.inl v8, .inl x3]) (rest := []) (p' := 61) (by decide +kernel) rfl rfl rfl rfl rfl (fun f9 v10 => ?_)
    refine ms_istore (k := 5) (ls' := [.inr (.inl z), .inl x1, .inl x2, .inl x3, .inl x4, .inl v10, u6]) (p' := 63) (by decide +kernel) rfl (Nat.le_of_ble_eq_true rfl) rfl ?_
    refine ms_iconst (n := 0) (v := 0) (p' := 64) (by decide +kernel) rfl ?_
    refine ms_istore (k := 6) (ls' := [.inr (.inl z), .inl x1, .inl x2, .inl x3, .inl x4, .inl v10, .inl 0]) (p' := 66) (by decide +kernel) rfl (Nat.le_of_ble_eq_true rfl) rfl ?_
    rfl
theorem l_Z_tighten_66 {sw : Bool} {w : mj_W} (hw : wk sw w) (f : mj_F) (z : Nat) (x1 : Int) (x2 : Int) (x3 : Int) (x4 : Int) (x5 : Int) (x6 : Int) (hz : zn z = true) : mj_run yZ_tighten w f 66 [.inr (.inl z), .inl x1, .inl x2, .inl x3, .inl x4, .inl x5, .inl x6] [] = if (f z 1) ≤ x6 then mj_run yZ_tighten w f 41 [.inr (.inl z), .inl x1, .inl x2, .inl x3, .inl (mj_w (x4 + 1)), .inl x5, .inl x6] [] else if 268435456 ≤ x5 then mj_run yZ_tighten w f 41 [.inr (.inl z), .inl x1, .inl x2, .inl x3, .inl (mj_w (x4 + 1)), .inl x5, .inl x6] [] else mj_bi (mj_call yZ_cell w f [.inr (.inl z), .inl x4, .inl x6]) (fun f11 v12 => mj_bi (mj_call yZ_cell w f11 [.inr (.inl z), .inl x2, .inl x6]) (fun f13 v14 => mj_bi (mj_call yX_sumOf w f13 [.inl x5, .inl v14]) (fun f15 v16 => mj_bu (mj_call yZ_put w f15 [.inr (.inl z), .inl x4, .inl x6, .inl (if v16 < v12 then v16 else v12)]) (fun f17 => mj_run yZ_tighten w f17 66 [.inr (.inl z), .inl x1, .inl x2, .inl x3, .inl x4, .inl x5, .inl (mj_w (x6 + 1))] [])))) := by
  refine ms_iload (k := 6) (p' := 68) (by decide +kernel) rfl rfl ?_
  refine ms_aload_n (k := 0) (p' := 69) (by decide +kernel) rfl rfl ?_
  refine ms_geti (idx := 15) (ci := 7) (k := 1) (q := 360) (p' := 72) (by decide +kernel) rfl (zn_k hz hw) ?_
  refine ms_icmp_ge (off := 47) (t := 119) (p' := 75) (by decide +kernel) rfl (fun hc => ?_) (fun hc => ?_)
  · refine ms_iinc (k := 4) (n := 1) (ls' := [.inr (.inl z), .inl x1, .inl x2, .inl x3, .inl (mj_w (x4 + 1)), .inl x5, .inl x6]) (p' := 122) (by decide +kernel) rfl rfl rfl ?_
    refine ms_goto (off := (-81)) (p' := 41) (by decide +kernel) ?_
    rfl
  · refine ms_iload (k := 5) (p' := 77) (by decide +kernel) rfl rfl ?_
    refine ms_ldc (idx := 74) (v := 268435456) (p' := 79) (by decide +kernel) rfl ?_
    refine ms_icmp_ge (off := 40) (t := 119) (p' := 82) (by decide +kernel) rfl (fun hc => ?_) (fun hc => ?_)
    · refine ms_iinc (k := 4) (n := 1) (ls' := [.inr (.inl z), .inl x1, .inl x2, .inl x3, .inl (mj_w (x4 + 1)), .inl x5, .inl x6]) (p' := 122) (by decide +kernel) rfl rfl rfl ?_
      refine ms_goto (off := (-81)) (p' := 41) (by decide +kernel) ?_
      rfl
    · refine ms_aload_n (k := 0) (p' := 83) (by decide +kernel) rfl rfl ?_
      refine ms_iload (k := 4) (p' := 85) (by decide +kernel) rfl rfl ?_
      refine ms_iload (k := 6) (p' := 87) (by decide +kernel) rfl rfl ?_
      refine ms_aload_n (k := 0) (p' := 88) (by decide +kernel) rfl rfl ?_
      refine ms_iload (k := 4) (p' := 90) (by decide +kernel) rfl rfl ?_
      refine ms_iload (k := 6) (p' := 92) (by decide +kernel) rfl rfl ?_
      refine ms_virt_i (idx := 29) (cy := yZ_cell) (n := 2) (a := z) (as := [.inl x4, .inl x6]) (rest := [.inl x6, .inl x4, .inr (.inl z)]) (p' := 95) (by decide +kernel) rfl rfl rfl rfl (zn_k hz hw) rfl (fun f11 v12 => ?_)
      refine ms_iload (k := 5) (p' := 97) (by decide +kernel) rfl rfl ?_
      refine ms_aload_n (k := 0) (p' := 98) (by decide +kernel) rfl rfl ?_
      refine ms_iload_n (k := 2) (p' := 99) (by decide +kernel) rfl rfl ?_
      refine ms_iload (k := 6) (p' := 101) (by decide +kernel) rfl rfl ?_
      refine ms_virt_i (idx := 29) (cy := yZ_cell) (n := 2) (a := z) (as := [.inl x2, .inl x6]) (rest := [.inl x5, .inl v12, .inl x6, .inl x4, .inr (.inl z)]) (p' := 104) (by decide +kernel) rfl rfl rfl rfl (zn_k hz hw) rfl (fun f13 v14 => ?_)
      refine ms_stat_i (idx := 71) (cy := yX_sumOf) (n := 2) (as := [.inl x5, .inl v14]) (rest := [.inl v12, .inl x6, .inl x4, .inr (.inl z)]) (p' := 107) (by decide +kernel) rfl rfl rfl rfl rfl (fun f15 v16 => ?_)
      refine ms_math2 (idx := 75) (k := 13) (x := 0) (q := 725) (v := (if v16 < v12 then v16 else v12)) (p' := 110) (by decide +kernel) (Or.inr ⟨rfl, rfl⟩) rfl rfl ?_
      refine ms_virt_u (idx := 54) (cy := yZ_put) (n := 3) (a := z) (as := [.inl x4, .inl x6, .inl (if v16 < v12 then v16 else v12)]) (rest := []) (p' := 113) (by decide +kernel) rfl rfl rfl rfl (zn_k hz hw) rfl (fun f17 => ?_)
      refine ms_iinc (k := 6) (n := 1) (ls' := [.inr (.inl z), .inl x1, .inl x2, .inl x3, .inl x4, .inl x5, .inl (mj_w (x6 + 1))]) (p' := 116) (by decide +kernel) rfl rfl rfl ?_
      refine ms_goto (off := (-50)) (p' := 66) (by decide +kernel) ?_
      rfl
theorem c_Z_keepRules {sw : Bool} {w : mj_W} (hw : wk sw w) (f : mj_F) (z : Nat) (p : Nat) (x2 : Int) (hz : zn z = true) (hp : pn p) : mj_call yZ_keepRules w f [.inr (.inl z), .inr (.inl p), .inl x2] = mj_run yZ_keepRules w f 2 [.inr (.inl z), .inr (.inl p), .inl x2, .inl 0, .inr (.inr (.inr 0)), .inr (.inr (.inr 0))] [] := by
  show mj_run yZ_keepRules w f 0 [.inr (.inl z), .inr (.inl p), .inl x2, .inr (.inr (.inr 0)), .inr (.inr (.inr 0)), .inr (.inr (.inr 0))] [] = _
  refine ms_iconst (n := 0) (v := 0) (p' := 1) (by decide +kernel) rfl ?_
  refine ms_istore_n (k := 3) (ls' := [.inr (.inl z), .inr (.inl p), .inl x2, .inl 0, .inr (.inr (.inr 0)), .inr (.inr (.inr 0))]) (p' := 2) (by decide +kernel) rfl (Nat.le_of_ble_eq_true rfl) rfl ?_
  rfl
theorem l_Z_keepRules_2 {sw : Bool} {w : mj_W} (hw : wk sw w) (f : mj_F) (z : Nat) (p : Nat) (x2 : Int) (x3 : Int) (u4 : mj_V) (u5 : mj_V) (hz : zn z = true) (hp : pn p) : mj_run yZ_keepRules w f 2 [.inr (.inl z), .inr (.inl p), .inl x2, .inl x3, u4, u5] [] = mj_gd (0 ≤ x2 ∧ x2 < ((24 : Nat) : Int)) (if (f (p + 4) x2.toNat) ≤ x3 then some (w, f, none) else mj_gd (0 ≤ (mj_w ((mj_w (x2 * 6)) + x3)) ∧ (mj_w ((mj_w (x2 * 6)) + x3)) < ((144 : Nat) : Int)) (mj_gd (0 ≤ (mj_w ((mj_w (x2 * 6)) + x3)) ∧ (mj_w ((mj_w (x2 * 6)) + x3)) < ((144 : Nat) : Int)) (mj_gd (0 ≤ (mj_w ((mj_w (x2 * 6)) + x3)) ∧ (mj_w ((mj_w (x2 * 6)) + x3)) < ((144 : Nat) : Int)) (mj_bi (mj_call yX_upperOf w f [.inl (f (p + 6) (mj_w ((mj_w (x2 * 6)) + x3)).toNat), .inl (f (p + 7) (mj_w ((mj_w (x2 * 6)) + x3)).toNat)]) (fun f5 v6 => mj_bu (mj_call yZ_tighten w f5 [.inr (.inl z), .inl (mj_w ((f (p + 5) (mj_w ((mj_w (x2 * 6)) + x3)).toNat) + 1)), .inl 0, .inl v6]) (fun f7 => mj_gd (0 ≤ (mj_w ((mj_w (x2 * 6)) + x3)) ∧ (mj_w ((mj_w (x2 * 6)) + x3)) < ((144 : Nat) : Int)) (mj_gd (0 ≤ (mj_w ((mj_w (x2 * 6)) + x3)) ∧ (mj_w ((mj_w (x2 * 6)) + x3)) < ((144 : Nat) : Int)) (mj_bi (mj_call yX_lowerOf w f7 [.inl (f7 (p + 6) (mj_w ((mj_w (x2 * 6)) + x3)).toNat), .inl (f7 (p + 7) (mj_w ((mj_w (x2 * 6)) + x3)).toNat)]) (fun f10 v11 => mj_bu (mj_call yZ_tighten w f10 [.inr (.inl z), .inl 0, .inl (mj_w ((f (p + 5) (mj_w ((mj_w (x2 * 6)) + x3)).toNat) + 1)), .inl v11]) (fun f12 => mj_run yZ_keepRules w f12 2 [.inr (.inl z), .inr (.inl p), .inl x2, .inl (mj_w (x3 + 1)), .inl (mj_w ((mj_w (x2 * 6)) + x3)), .inl (mj_w ((f (p + 5) (mj_w ((mj_w (x2 * 6)) + x3)).toNat) + 1))] [])))))))))) := by
  refine ms_iload_n (k := 3) (p' := 3) (by decide +kernel) rfl rfl ?_
  refine ms_aload_n (k := 1) (p' := 4) (by decide +kernel) rfl rfl ?_
  refine ms_getr (idx := 80) (ci := 3) (k := 9) (q := 234) (p' := 7) (by decide +kernel) rfl (pn_k hp hw) (pn_r9 hp hw) (by omega) ?_
  refine ms_iload_n (k := 2) (p' := 8) (by decide +kernel) rfl rfl ?_
  refine ms_iald (p' := 9) (by decide +kernel) rfl (pn_k9 hp hw) (fun hj1 => ?_)
  refine ms_icmp_ge (off := 76) (t := 85) (p' := 12) (by decide +kernel) rfl (fun hc => ?_) (fun hc => ?_)
  · exact ms_vret (by decide +kernel)
  · refine ms_iload_n (k := 2) (p' := 13) (by decide +kernel) rfl rfl ?_
    refine ms_bipush (n := 6) (v := 6) (p' := 15) (by decide +kernel) rfl ?_
    refine ms_imul (p' := 16) (by decide +kernel) rfl ?_
    refine ms_iload_n (k := 3) (p' := 17) (by decide +kernel) rfl rfl ?_
    refine ms_iadd (p' := 18) (by decide +kernel) rfl ?_
    refine ms_istore (k := 4) (ls' := [.inr (.inl z), .inr (.inl p), .inl x2, .inl x3, .inl (mj_w ((mj_w (x2 * 6)) + x3)), u5]) (p' := 20) (by decide +kernel) rfl (Nat.le_of_ble_eq_true rfl) rfl ?_
    refine ms_aload_n (k := 1) (p' := 21) (by decide +kernel) rfl rfl ?_
    refine ms_getr (idx := 85) (ci := 3) (k := 10) (q := 238) (p' := 24) (by decide +kernel) rfl (pn_k hp hw) (pn_r10 hp hw) (by omega) ?_
    refine ms_iload (k := 4) (p' := 26) (by decide +kernel) rfl rfl ?_
    refine ms_iald (p' := 27) (by decide +kernel) rfl (pn_k10 hp hw) (fun hj2 => ?_)
    refine ms_iconst (n := 1) (v := 1) (p' := 28) (by decide +kernel) rfl ?_
    refine ms_iadd (p' := 29) (by decide +kernel) rfl ?_
    refine ms_istore (k := 5) (ls' := [.inr (.inl z), .inr (.inl p), .inl x2, .inl x3, .inl (mj_w ((mj_w (x2 * 6)) + x3)), .inl (mj_w ((f (p + 5) (mj_w ((mj_w (x2 * 6)) + x3)).toNat) + 1))]) (p' := 31) (by decide +kernel) rfl (Nat.le_of_ble_eq_true rfl) rfl ?_
    refine ms_aload_n (k := 0) (p' := 32) (by decide +kernel) rfl rfl ?_
    refine ms_iload (k := 5) (p' := 34) (by decide +kernel) rfl rfl ?_
    refine ms_iconst (n := 0) (v := 0) (p' := 35) (by decide +kernel) rfl ?_
    refine ms_aload_n (k := 1) (p' := 36) (by decide +kernel) rfl rfl ?_
    refine ms_getr (idx := 88) (ci := 3) (k := 11) (q := 242) (p' := 39) (by decide +kernel) rfl (pn_k hp hw) (pn_r11 hp hw) (by omega) ?_
    refine ms_iload (k := 4) (p' := 41) (by decide +kernel) rfl rfl ?_
    refine ms_iald (p' := 42) (by decide +kernel) rfl (pn_k11 hp hw) (fun hj3 => ?_)
    refine ms_aload_n (k := 1) (p' := 43) (by decide +kernel) rfl rfl ?_
    refine ms_getr (idx := 91) (ci := 3) (k := 12) (q := 246) (p' := 46) (by decide +kernel) rfl (pn_k hp hw) (pn_r12 hp hw) (by omega) ?_
    refine ms_iload (k := 4) (p' := 48) (by decide +kernel) rfl rfl ?_
    refine ms_iald (p' := 49) (by decide +kernel) rfl (pn_k12 hp hw) (fun hj4 => ?_)
    refine ms_stat_i (idx := 62) (cy := yX_upperOf) (n := 2) (as := [.inl (f (p + 6) (mj_w ((mj_w (x2 * 6)) + x3)).toNat), .inl (f (p + 7) (mj_w ((mj_w (x2 * 6)) + x3)).toNat)]) (rest := [.inl 0, .inl (mj_w ((f (p + 5) (mj_w ((mj_w (x2 * 6)) + x3)).toNat) + 1)), .inr (.inl z)]) (p' := 52) (by decide +kernel) rfl rfl rfl rfl rfl (fun f5 v6 => ?_)
    refine ms_virt_u (idx := 65) (cy := yZ_tighten) (n := 3) (a := z) (as := [.inl (mj_w ((f (p + 5) (mj_w ((mj_w (x2 * 6)) + x3)).toNat) + 1)), .inl 0, .inl v6]) (rest := []) (p' := 55) (by decide +kernel) rfl rfl rfl rfl (zn_k hz hw) rfl (fun f7 => ?_)
    refine ms_aload_n (k := 0) (p' := 56) (by decide +kernel) rfl rfl ?_
    refine ms_iconst (n := 0) (v := 0) (p' := 57) (by decide +kernel) rfl ?_
    refine ms_iload (k := 5) (p' := 59) (by decide +kernel) rfl rfl ?_
    refine ms_aload_n (k := 1) (p' := 60) (by decide +kernel) rfl rfl ?_
    refine ms_getr (idx := 88) (ci := 3) (k := 11) (q := 242) (p' := 63) (by decide +kernel) rfl (pn_k hp hw) (pn_r11 hp hw) (by omega) ?_
    refine ms_iload (k := 4) (p' := 65) (by decide +kernel) rfl rfl ?_
    refine ms_iald (p' := 66) (by decide +kernel) rfl (pn_k11 hp hw) (fun hj8 => ?_)
    refine ms_aload_n (k := 1) (p' := 67) (by decide +kernel) rfl rfl ?_
    refine ms_getr (idx := 91) (ci := 3) (k := 12) (q := 246) (p' := 70) (by decide +kernel) rfl (pn_k hp hw) (pn_r12 hp hw) (by omega) ?_
    refine ms_iload (k := 4) (p' := 72) (by decide +kernel) rfl rfl ?_
    refine ms_iald (p' := 73) (by decide +kernel) rfl (pn_k12 hp hw) (fun hj9 => ?_)
    refine ms_stat_i (idx := 68) (cy := yX_lowerOf) (n := 2) (as := [.inl (f7 (p + 6) (mj_w ((mj_w (x2 * 6)) + x3)).toNat), .inl (f7 (p + 7) (mj_w ((mj_w (x2 * 6)) + x3)).toNat)]) (rest := [.inl (mj_w ((f (p + 5) (mj_w ((mj_w (x2 * 6)) + x3)).toNat) + 1)), .inl 0, .inr (.inl z)]) (p' := 76) (by decide +kernel) rfl rfl rfl rfl rfl (fun f10 v11 => ?_)
    refine ms_virt_u (idx := 65) (cy := yZ_tighten) (n := 3) (a := z) (as := [.inl 0, .inl (mj_w ((f (p + 5) (mj_w ((mj_w (x2 * 6)) + x3)).toNat) + 1)), .inl v11]) (rest := []) (p' := 79) (by decide +kernel) rfl rfl rfl rfl (zn_k hz hw) rfl (fun f12 => ?_)
    refine ms_iinc (k := 3) (n := 1) (ls' := [.inr (.inl z), .inr (.inl p), .inl x2, .inl (mj_w (x3 + 1)), .inl (mj_w ((mj_w (x2 * 6)) + x3)), .inl (mj_w ((f (p + 5) (mj_w ((mj_w (x2 * 6)) + x3)).toNat) + 1))]) (p' := 82) (by decide +kernel) rfl rfl rfl ?_
    refine ms_goto (off := (-80)) (p' := 2) (by decide +kernel) ?_
    rfl
theorem c_Z_goUp {sw : Bool} {w : mj_W} (hw : wk sw w) (f : mj_F) (z : Nat) (hz : zn z = true) : mj_call yZ_goUp w f [.inr (.inl z)] = mj_run yZ_goUp w f 2 [.inr (.inl z), .inl 1] [] := by
  show mj_run yZ_goUp w f 0 [.inr (.inl z), .inr (.inr (.inr 0))] [] = _
  refine ms_iconst (n := 1) (v := 1) (p' := 1) (by decide +kernel) rfl ?_
  refine ms_istore_n (k := 1) (ls' := [.inr (.inl z), .inl 1]) (p' := 2) (by decide +kernel) rfl (Nat.le_of_ble_eq_true rfl) rfl ?_
  rfl
theorem l_Z_goUp_2 {sw : Bool} {w : mj_W} (hw : wk sw w) (f : mj_F) (z : Nat) (x1 : Int) (hz : zn z = true) : mj_run yZ_goUp w f 2 [.inr (.inl z), .inl x1] [] = if (f z 1) ≤ x1 then some (w, f, none) else mj_bu (mj_call yZ_put w f [.inr (.inl z), .inl x1, .inl 0, .inl 268435456]) (fun f1 => mj_run yZ_goUp w f1 2 [.inr (.inl z), .inl (mj_w (x1 + 1))] []) := by
  refine ms_iload_n (k := 1) (p' := 3) (by decide +kernel) rfl rfl ?_
  refine ms_aload_n (k := 0) (p' := 4) (by decide +kernel) rfl rfl ?_
  refine ms_geti (idx := 15) (ci := 7) (k := 1) (q := 360) (p' := 7) (by decide +kernel) rfl (zn_k hz hw) ?_
  refine ms_icmp_ge (off := 17) (t := 24) (p' := 10) (by decide +kernel) rfl (fun hc => ?_) (fun hc => ?_)
  · exact ms_vret (by decide +kernel)
  · refine ms_aload_n (k := 0) (p' := 11) (by decide +kernel) rfl rfl ?_
    refine ms_iload_n (k := 1) (p' := 12) (by decide +kernel) rfl rfl ?_
    refine ms_iconst (n := 0) (v := 0) (p' := 13) (by decide +kernel) rfl ?_
    refine ms_ldc (idx := 74) (v := 268435456) (p' := 15) (by decide +kernel) rfl ?_
    refine ms_virt_u (idx := 54) (cy := yZ_put) (n := 3) (a := z) (as := [.inl x1, .inl 0, .inl 268435456]) (rest := []) (p' := 18) (by decide +kernel) rfl rfl rfl rfl (zn_k hz hw) rfl (fun f1 => ?_)
    refine ms_iinc (k := 1) (n := 1) (ls' := [.inr (.inl z), .inl (mj_w (x1 + 1))]) (p' := 21) (by decide +kernel) rfl rfl rfl ?_
    refine ms_goto (off := (-19)) (p' := 2) (by decide +kernel) ?_
    rfl
theorem c_Z_waitIn {sw : Bool} {w : mj_W} (hw : wk sw w) (f : mj_F) (z : Nat) (p : Nat) (x2 : Int) (hz : zn z = true) (hp : pn p) : mj_call yZ_waitIn w f [.inr (.inl z), .inr (.inl p), .inl x2] = mj_bi (mj_call yX_stayRules w f [.inl x2]) (fun f1 v2 => mj_bu (mj_call yZ_keepRules w f1 [.inr (.inl z), .inr (.inl p), .inl v2]) (fun f3 => mj_bu (mj_call yZ_goUp w f3 [.inr (.inl z)]) (fun f4 => mj_bi (mj_call yX_stayRules w f4 [.inl x2]) (fun f5 v6 => mj_bu (mj_call yZ_keepRules w f5 [.inr (.inl z), .inr (.inl p), .inl v6]) (fun f7 => some (w, f7, none)))))) := by
  show mj_run yZ_waitIn w f 0 [.inr (.inl z), .inr (.inl p), .inl x2] [] = _
  refine ms_aload_n (k := 0) (p' := 1) (by decide +kernel) rfl rfl ?_
  refine ms_aload_n (k := 1) (p' := 2) (by decide +kernel) rfl rfl ?_
  refine ms_iload_n (k := 2) (p' := 3) (by decide +kernel) rfl rfl ?_
  refine ms_stat_i (idx := 106) (cy := yX_stayRules) (n := 1) (as := [.inl x2]) (rest := [.inr (.inl p), .inr (.inl z)]) (p' := 6) (by decide +kernel) rfl rfl rfl rfl rfl (fun f1 v2 => ?_)
  refine ms_virt_u (idx := 109) (cy := yZ_keepRules) (n := 2) (a := z) (as := [.inr (.inl p), .inl v2]) (rest := []) (p' := 9) (by decide +kernel) rfl rfl rfl rfl (zn_k hz hw) rfl (fun f3 => ?_)
  refine ms_aload_n (k := 0) (p' := 10) (by decide +kernel) rfl rfl ?_
  refine ms_virt_u (idx := 113) (cy := yZ_goUp) (n := 0) (a := z) (as := []) (rest := []) (p' := 13) (by decide +kernel) rfl rfl rfl rfl (zn_k hz hw) rfl (fun f4 => ?_)
  refine ms_aload_n (k := 0) (p' := 14) (by decide +kernel) rfl rfl ?_
  refine ms_aload_n (k := 1) (p' := 15) (by decide +kernel) rfl rfl ?_
  refine ms_iload_n (k := 2) (p' := 16) (by decide +kernel) rfl rfl ?_
  refine ms_stat_i (idx := 106) (cy := yX_stayRules) (n := 1) (as := [.inl x2]) (rest := [.inr (.inl p), .inr (.inl z)]) (p' := 19) (by decide +kernel) rfl rfl rfl rfl rfl (fun f5 v6 => ?_)
  refine ms_virt_u (idx := 109) (cy := yZ_keepRules) (n := 2) (a := z) (as := [.inr (.inl p), .inl v6]) (rest := []) (p' := 22) (by decide +kernel) rfl rfl rfl rfl (zn_k hz hw) rfl (fun f7 => ?_)
  exact ms_vret (by decide +kernel)
theorem c_Z_greatOf {sw : Bool} {w : mj_W} (hw : wk sw w) (f : mj_F) (p : Nat) (x1 : Int) (hp : pn p) : mj_call yZ_greatOf w f [.inr (.inl p), .inl x1] = if ¬ x1 = 0 then mj_gd (0 ≤ (mj_w (x1 - 1)) ∧ (mj_w (x1 - 1)) < ((4 : Nat) : Int)) (some (w, f, some (.inl (f (p + 3) (mj_w (x1 - 1)).toNat)))) else some (w, f, some (.inl 0)) := by
  show mj_run yZ_greatOf w f 0 [.inr (.inl p), .inl x1] [] = _
  refine ms_iload_n (k := 1) (p' := 1) (by decide +kernel) rfl rfl ?_
  refine ms_if_ne (off := 7) (t := 8) (p' := 4) (by decide +kernel) rfl (fun hc => ?_) (fun hc => ?_)
  · refine ms_aload_n (k := 0) (p' := 9) (by decide +kernel) rfl rfl ?_
    refine ms_getr (idx := 143) (ci := 3) (k := 8) (q := 230) (p' := 12) (by decide +kernel) rfl (pn_k hp hw) (pn_r8 hp hw) (by omega) ?_
    refine ms_iload_n (k := 1) (p' := 13) (by decide +kernel) rfl rfl ?_
    refine ms_iconst (n := 1) (v := 1) (p' := 14) (by decide +kernel) rfl ?_
    refine ms_isub (p' := 15) (by decide +kernel) rfl ?_
    refine ms_iald (p' := 16) (by decide +kernel) rfl (pn_k8 hp hw) (fun hj1 => ?_)
    exact ms_iret (by decide +kernel)
  · refine ms_iconst (n := 0) (v := 0) (p' := 5) (by decide +kernel) rfl ?_
    refine ms_goto (off := 11) (p' := 16) (by decide +kernel) ?_
    exact ms_iret (by decide +kernel)
theorem c_X_numberOf {sw : Bool} {w : mj_W} (hw : wk sw w) (f : mj_F) (x0 : Int)  : mj_call yX_numberOf w f [.inl x0] = some (w, f, some (.inl (mj_shr x0 1))) := by
  show mj_run yX_numberOf w f 0 [.inl x0] [] = _
  refine ms_iload_n (k := 0) (p' := 1) (by decide +kernel) rfl rfl ?_
  refine ms_iconst (n := 1) (v := 1) (p' := 2) (by decide +kernel) rfl ?_
  refine ms_ishr (p' := 3) (by decide +kernel) rfl ?_
  exact ms_iret (by decide +kernel)
theorem c_Z_roughBound {sw : Bool} {w : mj_W} (hw : wk sw w) (f : mj_F) (x0 : Int) (x1 : Int) (x2 : Int)  : mj_call yZ_roughBound w f [.inl x0, .inl x1, .inl x2] = if 268435456 ≤ x0 then some (w, f, some (.inl 268435456)) else mj_bi (mj_call yX_numberOf w f [.inl x0]) (fun f1 v2 => if v2 ≤ x1 then mj_bi (mj_call yX_numberOf w f1 [.inl x0]) (fun f3 v4 => if (mj_w (-x2)) ≤ v4 then some (w, f3, some (.inl x0)) else mj_bi (mj_call yX_lessThan w f3 [.inl (mj_w (-x2))]) (fun f5 v6 => some (w, f5, some (.inl v6)))) else some (w, f1, some (.inl 268435456))) := by
  show mj_run yZ_roughBound w f 0 [.inl x0, .inl x1, .inl x2] [] = _
  refine ms_iload_n (k := 0) (p' := 1) (by decide +kernel) rfl rfl ?_
  refine ms_ldc (idx := 74) (v := 268435456) (p' := 3) (by decide +kernel) rfl ?_
  refine ms_icmp_ge (off := 11) (t := 14) (p' := 6) (by decide +kernel) rfl (fun hc => ?_) (fun hc => ?_)
  · refine ms_ldc (idx := 74) (v := 268435456) (p' := 16) (by decide +kernel) rfl ?_
    exact ms_iret (by decide +kernel)
  · refine ms_iload_n (k := 0) (p' := 7) (by decide +kernel) rfl rfl ?_
    refine ms_stat_i (idx := 33) (cy := yX_numberOf) (n := 1) (as := [.inl x0]) (rest := []) (p' := 10) (by decide +kernel) rfl rfl rfl rfl rfl (fun f1 v2 => ?_)
    refine ms_iload_n (k := 1) (p' := 11) (by decide +kernel) rfl rfl ?_
    refine ms_icmp_le (off := 6) (t := 17) (p' := 14) (by decide +kernel) rfl (fun hc => ?_) (fun hc => ?_)
    · refine ms_iload_n (k := 0) (p' := 18) (by decide +kernel) rfl rfl ?_
      refine ms_stat_i (idx := 33) (cy := yX_numberOf) (n := 1) (as := [.inl x0]) (rest := []) (p' := 21) (by decide +kernel) rfl rfl rfl rfl rfl (fun f3 v4 => ?_)
      refine ms_iload_n (k := 2) (p' := 22) (by decide +kernel) rfl rfl ?_
      refine ms_ineg (p' := 23) (by decide +kernel) rfl ?_
      refine ms_icmp_ge (off := 11) (t := 34) (p' := 26) (by decide +kernel) rfl (fun hc => ?_) (fun hc => ?_)
      · refine ms_iload_n (k := 0) (p' := 35) (by decide +kernel) rfl rfl ?_
        exact ms_iret (by decide +kernel)
      · refine ms_iload_n (k := 2) (p' := 27) (by decide +kernel) rfl rfl ?_
        refine ms_ineg (p' := 28) (by decide +kernel) rfl ?_
        refine ms_stat_i (idx := 146) (cy := yX_lessThan) (n := 1) (as := [.inl (mj_w (-x2))]) (rest := []) (p' := 31) (by decide +kernel) rfl rfl rfl rfl rfl (fun f5 v6 => ?_)
        refine ms_goto (off := 4) (p' := 35) (by decide +kernel) ?_
        exact ms_iret (by decide +kernel)
    · refine ms_ldc (idx := 74) (v := 268435456) (p' := 16) (by decide +kernel) rfl ?_
      exact ms_iret (by decide +kernel)
theorem c_X_closeCells {sw : Bool} {w : mj_W} (hw : wk sw w) (f : mj_F) (r0 nr0 : Nat) (x1 : Int) (x2 : Int) (hr0 : w.1 r0 = (100, nr0)) : mj_call yX_closeCells w f [.inr (.inl r0), .inl x1, .inl x2] = mj_run yX_closeCells w f 2 [.inr (.inl r0), .inl x1, .inl x2, .inl 0, .inr (.inr (.inr 0)), .inr (.inr (.inr 0)), .inr (.inr (.inr 0)), .inr (.inr (.inr 0))] [] := by
  show mj_run yX_closeCells w f 0 [.inr (.inl r0), .inl x1, .inl x2, .inr (.inr (.inr 0)), .inr (.inr (.inr 0)), .inr (.inr (.inr 0)), .inr (.inr (.inr 0)), .inr (.inr (.inr 0))] [] = _
  refine ms_iconst (n := 0) (v := 0) (p' := 1) (by decide +kernel) rfl ?_
  refine ms_istore_n (k := 3) (ls' := [.inr (.inl r0), .inl x1, .inl x2, .inl 0, .inr (.inr (.inr 0)), .inr (.inr (.inr 0)), .inr (.inr (.inr 0)), .inr (.inr (.inr 0))]) (p' := 2) (by decide +kernel) rfl (Nat.le_of_ble_eq_true rfl) rfl ?_
  rfl
theorem l_X_closeCells_2 {sw : Bool} {w : mj_W} (hw : wk sw w) (f : mj_F) (r0 nr0 : Nat) (x1 : Int) (x2 : Int) (x3 : Int) (u4 : mj_V) (u5 : mj_V) (u6 : mj_V) (u7 : mj_V) (hr0 : w.1 r0 = (100, nr0)) : mj_run yX_closeCells w f 2 [.inr (.inl r0), .inl x1, .inl x2, .inl x3, u4, u5, u6, u7] [] = if x2 ≤ x3 then mj_gd (1 = 0 ∨ 1 = 1) (some (w, f, some (.inl 1))) else mj_gd (0 ≤ (mj_w ((mj_w (x3 * x1)) + x3)) ∧ (mj_w ((mj_w (x3 * x1)) + x3)) < ((nr0 : Nat) : Int)) (if 1 ≤ (f r0 (mj_w ((mj_w (x3 * x1)) + x3)).toNat) then mj_run yX_closeCells w f 23 [.inr (.inl r0), .inl x1, .inl x2, .inl x3, .inl 0, u5, u6, u7] [] else mj_gd (0 = 0 ∨ 0 = 1) (some (w, f, some (.inl 0)))) := by
  refine ms_iload_n (k := 3) (p' := 3) (by decide +kernel) rfl rfl ?_
  refine ms_iload_n (k := 2) (p' := 4) (by decide +kernel) rfl rfl ?_
  refine ms_icmp_ge (off := 110) (t := 114) (p' := 7) (by decide +kernel) rfl (fun hc => ?_) (fun hc => ?_)
  · refine ms_iconst (n := 1) (v := 1) (p' := 115) (by decide +kernel) rfl ?_
    exact ms_zret (by decide +kernel)
  · refine ms_aload_n (k := 0) (p' := 8) (by decide +kernel) rfl rfl ?_
    refine ms_iload_n (k := 3) (p' := 9) (by decide +kernel) rfl rfl ?_
    refine ms_iload_n (k := 1) (p' := 10) (by decide +kernel) rfl rfl ?_
    refine ms_imul (p' := 11) (by decide +kernel) rfl ?_
    refine ms_iload_n (k := 3) (p' := 12) (by decide +kernel) rfl rfl ?_
    refine ms_iadd (p' := 13) (by decide +kernel) rfl ?_
    refine ms_iald (p' := 14) (by decide +kernel) rfl hr0 (fun hj1 => ?_)
    refine ms_iconst (n := 1) (v := 1) (p' := 15) (by decide +kernel) rfl ?_
    refine ms_icmp_ge (off := 5) (t := 20) (p' := 18) (by decide +kernel) rfl (fun hc => ?_) (fun hc => ?_)
    · refine ms_iconst (n := 0) (v := 0) (p' := 21) (by decide +kernel) rfl ?_
      refine ms_istore (k := 4) (ls' := [.inr (.inl r0), .inl x1, .inl x2, .inl x3, .inl 0, u5, u6, u7]) (p' := 23) (by decide +kernel) rfl (Nat.le_of_ble_eq_true rfl) rfl ?_
      rfl
    · refine ms_iconst (n := 0) (v := 0) (p' := 19) (by decide +kernel) rfl ?_
      exact ms_zret (by decide +kernel)
theorem l_X_closeCells_23 {sw : Bool} {w : mj_W} (hw : wk sw w) (f : mj_F) (r0 nr0 : Nat) (x1 : Int) (x2 : Int) (x3 : Int) (x4 : Int) (u5 : mj_V) (u6 : mj_V) (u7 : mj_V) (hr0 : w.1 r0 = (100, nr0)) : mj_run yX_closeCells w f 23 [.inr (.inl r0), .inl x1, .inl x2, .inl x3, .inl x4, u5, u6, u7] [] = if x2 ≤ x4 then mj_run yX_closeCells w f 2 [.inr (.inl r0), .inl x1, .inl x2, .inl (mj_w (x3 + 1)), .inl x4, u5, u6, u7] [] else mj_gd (0 ≤ (mj_w ((mj_w (x4 * x1)) + x3)) ∧ (mj_w ((mj_w (x4 * x1)) + x3)) < ((nr0 : Nat) : Int)) (mj_run yX_closeCells w f 42 [.inr (.inl r0), .inl x1, .inl x2, .inl x3, .inl x4, .inl (f r0 (mj_w ((mj_w (x4 * x1)) + x3)).toNat), .inl 0, u7] []) := by
  refine ms_iload (k := 4) (p' := 25) (by decide +kernel) rfl rfl ?_
  refine ms_iload_n (k := 2) (p' := 26) (by decide +kernel) rfl rfl ?_
  refine ms_icmp_ge (off := 82) (t := 108) (p' := 29) (by decide +kernel) rfl (fun hc => ?_) (fun hc => ?_)
  · refine ms_iinc (k := 3) (n := 1) (ls' := [.inr (.inl r0), .inl x1, .inl x2, .inl (mj_w (x3 + 1)), .inl x4, u5, u6, u7]) (p' := 111) (by decide +kernel) rfl rfl rfl ?_
    refine ms_goto (off := (-109)) (p' := 2) (by decide +kernel) ?_
    rfl
  · refine ms_aload_n (k := 0) (p' := 30) (by decide +kernel) rfl rfl ?_
    refine ms_iload (k := 4) (p' := 32) (by decide +kernel) rfl rfl ?_
    refine ms_iload_n (k := 1) (p' := 33) (by decide +kernel) rfl rfl ?_
    refine ms_imul (p' := 34) (by decide +kernel) rfl ?_
    refine ms_iload_n (k := 3) (p' := 35) (by decide +kernel) rfl rfl ?_
    refine ms_iadd (p' := 36) (by decide +kernel) rfl ?_
    refine ms_iald (p' := 37) (by decide +kernel) rfl hr0 (fun hj2 => ?_)
    refine ms_istore (k := 5) (ls' := [.inr (.inl r0), .inl x1, .inl x2, .inl x3, .inl x4, .inl (f r0 (mj_w ((mj_w (x4 * x1)) + x3)).toNat), u6, u7]) (p' := 39) (by decide +kernel) rfl (Nat.le_of_ble_eq_true rfl) rfl ?_
    refine ms_iconst (n := 0) (v := 0) (p' := 40) (by decide +kernel) rfl ?_
    refine ms_istore (k := 6) (ls' := [.inr (.inl r0), .inl x1, .inl x2, .inl x3, .inl x4, .inl (f r0 (mj_w ((mj_w (x4 * x1)) + x3)).toNat), .inl 0, u7]) (p' := 42) (by decide +kernel) rfl (Nat.le_of_ble_eq_true rfl) rfl ?_
    rfl
theorem l_X_closeCells_42 {sw : Bool} {w : mj_W} (hw : wk sw w) (f : mj_F) (r0 nr0 : Nat) (x1 : Int) (x2 : Int) (x3 : Int) (x4 : Int) (x5 : Int) (x6 : Int) (u7 : mj_V) (hr0 : w.1 r0 = (100, nr0)) : mj_run yX_closeCells w f 42 [.inr (.inl r0), .inl x1, .inl x2, .inl x3, .inl x4, .inl x5, .inl x6, u7] [] = if x2 ≤ x6 then mj_run yX_closeCells w f 23 [.inr (.inl r0), .inl x1, .inl x2, .inl x3, .inl (mj_w (x4 + 1)), .inl x5, .inl x6, u7] [] else if 268435456 ≤ x5 then mj_run yX_closeCells w f 23 [.inr (.inl r0), .inl x1, .inl x2, .inl x3, .inl (mj_w (x4 + 1)), .inl x5, .inl x6, u7] [] else mj_gd (0 ≤ (mj_w ((mj_w (x3 * x1)) + x6)) ∧ (mj_w ((mj_w (x3 * x1)) + x6)) < ((nr0 : Nat) : Int)) (mj_bi (mj_call yX_sumOf w f [.inl x5, .inl (f r0 (mj_w ((mj_w (x3 * x1)) + x6)).toNat)]) (fun f4 v5 => mj_gd (0 ≤ (mj_w ((mj_w (x4 * x1)) + x6)) ∧ (mj_w ((mj_w (x4 * x1)) + x6)) < ((nr0 : Nat) : Int)) (if (f4 r0 (mj_w ((mj_w (x4 * x1)) + x6)).toNat) ≤ v5 then mj_run yX_closeCells w f4 42 [.inr (.inl r0), .inl x1, .inl x2, .inl x3, .inl x4, .inl x5, .inl (mj_w (x6 + 1)), .inl v5] [] else mj_gd (0 ≤ (mj_w ((mj_w (x4 * x1)) + x6)) ∧ (mj_w ((mj_w (x4 * x1)) + x6)) < ((nr0 : Nat) : Int)) (mj_run yX_closeCells w (mj_u f4 r0 (mj_w ((mj_w (x4 * x1)) + x6)).toNat v5) 42 [.inr (.inl r0), .inl x1, .inl x2, .inl x3, .inl x4, .inl x5, .inl (mj_w (x6 + 1)), .inl v5] [])))) := by
  refine ms_iload (k := 6) (p' := 44) (by decide +kernel) rfl rfl ?_
  refine ms_iload_n (k := 2) (p' := 45) (by decide +kernel) rfl rfl ?_
  refine ms_icmp_ge (off := 57) (t := 102) (p' := 48) (by decide +kernel) rfl (fun hc => ?_) (fun hc => ?_)
  · refine ms_iinc (k := 4) (n := 1) (ls' := [.inr (.inl r0), .inl x1, .inl x2, .inl x3, .inl (mj_w (x4 + 1)), .inl x5, .inl x6, u7]) (p' := 105) (by decide +kernel) rfl rfl rfl ?_
    refine ms_goto (off := (-82)) (p' := 23) (by decide +kernel) ?_
    rfl
  · refine ms_iload (k := 5) (p' := 50) (by decide +kernel) rfl rfl ?_
    refine ms_ldc_w (idx := 437) (v := 268435456) (p' := 53) (by decide +kernel) rfl ?_
    refine ms_icmp_ge (off := 49) (t := 102) (p' := 56) (by decide +kernel) rfl (fun hc => ?_) (fun hc => ?_)
    · refine ms_iinc (k := 4) (n := 1) (ls' := [.inr (.inl r0), .inl x1, .inl x2, .inl x3, .inl (mj_w (x4 + 1)), .inl x5, .inl x6, u7]) (p' := 105) (by decide +kernel) rfl rfl rfl ?_
      refine ms_goto (off := (-82)) (p' := 23) (by decide +kernel) ?_
      rfl
    · refine ms_iload (k := 5) (p' := 58) (by decide +kernel) rfl rfl ?_
      refine ms_aload_n (k := 0) (p' := 59) (by decide +kernel) rfl rfl ?_
      refine ms_iload_n (k := 3) (p' := 60) (by decide +kernel) rfl rfl ?_
      refine ms_iload_n (k := 1) (p' := 61) (by decide +kernel) rfl rfl ?_
      refine ms_imul (p' := 62) (by decide +kernel) rfl ?_
      refine ms_iload (k := 6) (p' := 64) (by decide +kernel) rfl rfl ?_
      refine ms_iadd (p' := 65) (by decide +kernel) rfl ?_
      refine ms_iald (p' := 66) (by decide +kernel) rfl hr0 (fun hj3 => ?_)
      refine ms_stat_i (idx := 312) (cy := yX_sumOf) (n := 2) (as := [.inl x5, .inl (f r0 (mj_w ((mj_w (x3 * x1)) + x6)).toNat)]) (rest := []) (p' := 69) (by decide +kernel) rfl rfl rfl rfl rfl (fun f4 v5 => ?_)
      refine ms_istore (k := 7) (ls' := [.inr (.inl r0), .inl x1, .inl x2, .inl x3, .inl x4, .inl x5, .inl x6, .inl v5]) (p' := 71) (by decide +kernel) rfl (Nat.le_of_ble_eq_true rfl) rfl ?_
      refine ms_iload (k := 7) (p' := 73) (by decide +kernel) rfl rfl ?_
      refine ms_aload_n (k := 0) (p' := 74) (by decide +kernel) rfl rfl ?_
      refine ms_iload (k := 4) (p' := 76) (by decide +kernel) rfl rfl ?_
      refine ms_iload_n (k := 1) (p' := 77) (by decide +kernel) rfl rfl ?_
      refine ms_imul (p' := 78) (by decide +kernel) rfl ?_
      refine ms_iload (k := 6) (p' := 80) (by decide +kernel) rfl rfl ?_
      refine ms_iadd (p' := 81) (by decide +kernel) rfl ?_
      refine ms_iald (p' := 82) (by decide +kernel) rfl hr0 (fun hj6 => ?_)
      refine ms_icmp_ge (off := 14) (t := 96) (p' := 85) (by decide +kernel) rfl (fun hc => ?_) (fun hc => ?_)
      · refine ms_iinc (k := 6) (n := 1) (ls' := [.inr (.inl r0), .inl x1, .inl x2, .inl x3, .inl x4, .inl x5, .inl (mj_w (x6 + 1)), .inl v5]) (p' := 99) (by decide +kernel) rfl rfl rfl ?_
        refine ms_goto (off := (-57)) (p' := 42) (by decide +kernel) ?_
        rfl
      · refine ms_aload_n (k := 0) (p' := 86) (by decide +kernel) rfl rfl ?_
        refine ms_iload (k := 4) (p' := 88) (by decide +kernel) rfl rfl ?_
        refine ms_iload_n (k := 1) (p' := 89) (by decide +kernel) rfl rfl ?_
        refine ms_imul (p' := 90) (by decide +kernel) rfl ?_
        refine ms_iload (k := 6) (p' := 92) (by decide +kernel) rfl rfl ?_
        refine ms_iadd (p' := 93) (by decide +kernel) rfl ?_
        refine ms_iload (k := 7) (p' := 95) (by decide +kernel) rfl rfl ?_
        refine ms_iast (p' := 96) (by decide +kernel) rfl hr0 (fun hj7 => ?_)
        refine ms_iinc (k := 6) (n := 1) (ls' := [.inr (.inl r0), .inl x1, .inl x2, .inl x3, .inl x4, .inl x5, .inl (mj_w (x6 + 1)), .inl v5]) (p' := 99) (by decide +kernel) rfl rfl rfl ?_
        refine ms_goto (off := (-57)) (p' := 42) (by decide +kernel) ?_
        rfl
theorem c_Z_close {sw : Bool} {w : mj_W} (hw : wk sw w) (f : mj_F) (z : Nat) (hz : zn z = true) : mj_call yZ_close w f [.inr (.inl z)] = if ¬ (f z 2) = 0 then mj_gd (1 = 0 ∨ 1 = 1) (some (w, (mj_u f z 2 1), none)) else mj_bi (mj_call yX_closeCells w f [.inr (.inl (z + 1)), .inl 6, .inl (f z 1)]) (fun f1 v2 => if ¬ v2 = 0 then mj_gd (0 = 0 ∨ 0 = 1) (some (w, (mj_u f1 z 2 0), none)) else mj_gd (1 = 0 ∨ 1 = 1) (some (w, (mj_u f1 z 2 1), none))) := by
  show mj_run yZ_close w f 0 [.inr (.inl z)] [] = _
  refine ms_aload_n (k := 0) (p' := 1) (by decide +kernel) rfl rfl ?_
  refine ms_aload_n (k := 0) (p' := 2) (by decide +kernel) rfl rfl ?_
  refine ms_geti (idx := 19) (ci := 7) (k := 2) (q := 362) (p' := 5) (by decide +kernel) rfl (zn_k hz hw) ?_
  refine ms_if_ne (off := 19) (t := 24) (p' := 8) (by decide +kernel) rfl (fun hc => ?_) (fun hc => ?_)
  · refine ms_iconst (n := 1) (v := 1) (p' := 25) (by decide +kernel) rfl ?_
    refine ms_goto (off := 4) (p' := 29) (by decide +kernel) ?_
    refine ms_putz (idx := 19) (ci := 7) (k := 2) (q := 362) (p' := 32) (by decide +kernel) rfl (zn_k hz hw) (fun hz_ => ?_)
    exact ms_vret (by decide +kernel)
  · refine ms_aload_n (k := 0) (p' := 9) (by decide +kernel) rfl rfl ?_
    refine ms_getr (idx := 9) (ci := 7) (k := 0) (q := 359) (p' := 12) (by decide +kernel) rfl (zn_k hz hw) (zn_r hz hw) (nz1 _) ?_
    refine ms_bipush (n := 6) (v := 6) (p' := 14) (by decide +kernel) rfl ?_
    refine ms_aload_n (k := 0) (p' := 15) (by decide +kernel) rfl rfl ?_
    refine ms_geti (idx := 15) (ci := 7) (k := 1) (q := 360) (p' := 18) (by decide +kernel) rfl (zn_k hz hw) ?_
    refine ms_stat_i (idx := 152) (cy := yX_closeCells) (n := 3) (as := [.inr (.inl (z + 1)), .inl 6, .inl (f z 1)]) (rest := [.inr (.inl z)]) (p' := 21) (by decide +kernel) rfl rfl rfl rfl rfl (fun f1 v2 => ?_)
    refine ms_if_ne (off := 7) (t := 28) (p' := 24) (by decide +kernel) rfl (fun hc => ?_) (fun hc => ?_)
    · refine ms_iconst (n := 0) (v := 0) (p' := 29) (by decide +kernel) rfl ?_
      refine ms_putz (idx := 19) (ci := 7) (k := 2) (q := 362) (p' := 32) (by decide +kernel) rfl (zn_k hz hw) (fun hz_ => ?_)
      exact ms_vret (by decide +kernel)
    · refine ms_iconst (n := 1) (v := 1) (p' := 25) (by decide +kernel) rfl ?_
      refine ms_goto (off := 4) (p' := 29) (by decide +kernel) ?_
      refine ms_putz (idx := 19) (ci := 7) (k := 2) (q := 362) (p' := 32) (by decide +kernel) rfl (zn_k hz hw) (fun hz_ => ?_)
      exact ms_vret (by decide +kernel)
theorem c_Z_roughen {sw : Bool} {w : mj_W} (hw : wk sw w) (f : mj_F) (z : Nat) (p : Nat) (hz : zn z = true) (hp : pn p) : mj_call yZ_roughen w f [.inr (.inl z), .inr (.inl p)] = if (f z 2) = 0 then mj_run yZ_roughen w f 10 [.inr (.inl z), .inr (.inl p), .inl 0, .inr (.inr (.inr 0))] [] else some (w, f, none) := by
  show mj_run yZ_roughen w f 0 [.inr (.inl z), .inr (.inl p), .inr (.inr (.inr 0)), .inr (.inr (.inr 0))] [] = _
  refine ms_aload_n (k := 0) (p' := 1) (by decide +kernel) rfl rfl ?_
  refine ms_geti (idx := 19) (ci := 7) (k := 2) (q := 362) (p' := 4) (by decide +kernel) rfl (zn_k hz hw) ?_
  refine ms_if_eq (off := 4) (t := 8) (p' := 7) (by decide +kernel) rfl (fun hc => ?_) (fun hc => ?_)
  · refine ms_iconst (n := 0) (v := 0) (p' := 9) (by decide +kernel) rfl ?_
    refine ms_istore_n (k := 2) (ls' := [.inr (.inl z), .inr (.inl p), .inl 0, .inr (.inr (.inr 0))]) (p' := 10) (by decide +kernel) rfl (Nat.le_of_ble_eq_true rfl) rfl ?_
    rfl
  · exact ms_vret (by decide +kernel)
theorem l_Z_roughen_10 {sw : Bool} {w : mj_W} (hw : wk sw w) (f : mj_F) (z : Nat) (p : Nat) (x2 : Int) (u3 : mj_V) (hz : zn z = true) (hp : pn p) : mj_run yZ_roughen w f 10 [.inr (.inl z), .inr (.inl p), .inl x2, u3] [] = if (f z 1) ≤ x2 then mj_bu (mj_call yZ_close w f [.inr (.inl z)]) (fun f1 => some (w, f1, none)) else mj_run yZ_roughen w f 20 [.inr (.inl z), .inr (.inl p), .inl x2, .inl 0] [] := by
  refine ms_iload_n (k := 2) (p' := 11) (by decide +kernel) rfl rfl ?_
  refine ms_aload_n (k := 0) (p' := 12) (by decide +kernel) rfl rfl ?_
  refine ms_geti (idx := 15) (ci := 7) (k := 1) (q := 360) (p' := 15) (by decide +kernel) rfl (zn_k hz hw) ?_
  refine ms_icmp_ge (off := 55) (t := 70) (p' := 18) (by decide +kernel) rfl (fun hc => ?_) (fun hc => ?_)
  · refine ms_aload_n (k := 0) (p' := 71) (by decide +kernel) rfl rfl ?_
    refine ms_virt_u (idx := 132) (cy := yZ_close) (n := 0) (a := z) (as := []) (rest := []) (p' := 74) (by decide +kernel) rfl rfl rfl rfl (zn_k hz hw) rfl (fun f1 => ?_)
    exact ms_vret (by decide +kernel)
  · refine ms_iconst (n := 0) (v := 0) (p' := 19) (by decide +kernel) rfl ?_
    refine ms_istore_n (k := 3) (ls' := [.inr (.inl z), .inr (.inl p), .inl x2, .inl 0]) (p' := 20) (by decide +kernel) rfl (Nat.le_of_ble_eq_true rfl) rfl ?_
    rfl
theorem l_Z_roughen_20 {sw : Bool} {w : mj_W} (hw : wk sw w) (f : mj_F) (z : Nat) (p : Nat) (x2 : Int) (x3 : Int) (hz : zn z = true) (hp : pn p) : mj_run yZ_roughen w f 20 [.inr (.inl z), .inr (.inl p), .inl x2, .inl x3] [] = if (f z 1) ≤ x3 then mj_run yZ_roughen w f 10 [.inr (.inl z), .inr (.inl p), .inl (mj_w (x2 + 1)), .inl x3] [] else if x2 = x3 then mj_run yZ_roughen w f 20 [.inr (.inl z), .inr (.inl p), .inl x2, .inl (mj_w (x3 + 1))] [] else mj_bi (mj_call yZ_cell w f [.inr (.inl z), .inl x2, .inl x3]) (fun f2 v3 => mj_bi (mj_call yZ_greatOf w f2 [.inr (.inl p), .inl x2]) (fun f4 v5 => mj_bi (mj_call yZ_greatOf w f4 [.inr (.inl p), .inl x3]) (fun f6 v7 => mj_bi (mj_call yZ_roughBound w f6 [.inl v3, .inl v5, .inl v7]) (fun f8 v9 => mj_bu (mj_call yZ_put w f8 [.inr (.inl z), .inl x2, .inl x3, .inl v9]) (fun f10 => mj_run yZ_roughen w f10 20 [.inr (.inl z), .inr (.inl p), .inl x2, .inl (mj_w (x3 + 1))] []))))) := by
  refine ms_iload_n (k := 3) (p' := 21) (by decide +kernel) rfl rfl ?_
  refine ms_aload_n (k := 0) (p' := 22) (by decide +kernel) rfl rfl ?_
  refine ms_geti (idx := 15) (ci := 7) (k := 1) (q := 360) (p' := 25) (by decide +kernel) rfl (zn_k hz hw) ?_
  refine ms_icmp_ge (off := 39) (t := 64) (p' := 28) (by decide +kernel) rfl (fun hc => ?_) (fun hc => ?_)
  · refine ms_iinc (k := 2) (n := 1) (ls' := [.inr (.inl z), .inr (.inl p), .inl (mj_w (x2 + 1)), .inl x3]) (p' := 67) (by decide +kernel) rfl rfl rfl ?_
    refine ms_goto (off := (-57)) (p' := 10) (by decide +kernel) ?_
    rfl
  · refine ms_iload_n (k := 2) (p' := 29) (by decide +kernel) rfl rfl ?_
    refine ms_iload_n (k := 3) (p' := 30) (by decide +kernel) rfl rfl ?_
    refine ms_icmp_eq (off := 28) (t := 58) (p' := 33) (by decide +kernel) rfl (fun hc => ?_) (fun hc => ?_)
    · refine ms_iinc (k := 3) (n := 1) (ls' := [.inr (.inl z), .inr (.inl p), .inl x2, .inl (mj_w (x3 + 1))]) (p' := 61) (by decide +kernel) rfl rfl rfl ?_
      refine ms_goto (off := (-41)) (p' := 20) (by decide +kernel) ?_
      rfl
    · refine ms_aload_n (k := 0) (p' := 34) (by decide +kernel) rfl rfl ?_
      refine ms_iload_n (k := 2) (p' := 35) (by decide +kernel) rfl rfl ?_
      refine ms_iload_n (k := 3) (p' := 36) (by decide +kernel) rfl rfl ?_
      refine ms_aload_n (k := 0) (p' := 37) (by decide +kernel) rfl rfl ?_
      refine ms_iload_n (k := 2) (p' := 38) (by decide +kernel) rfl rfl ?_
      refine ms_iload_n (k := 3) (p' := 39) (by decide +kernel) rfl rfl ?_
      refine ms_virt_i (idx := 29) (cy := yZ_cell) (n := 2) (a := z) (as := [.inl x2, .inl x3]) (rest := [.inl x3, .inl x2, .inr (.inl z)]) (p' := 42) (by decide +kernel) rfl rfl rfl rfl (zn_k hz hw) rfl (fun f2 v3 => ?_)
      refine ms_aload_n (k := 1) (p' := 43) (by decide +kernel) rfl rfl ?_
      refine ms_iload_n (k := 2) (p' := 44) (by decide +kernel) rfl rfl ?_
      refine ms_stat_i (idx := 135) (cy := yZ_greatOf) (n := 2) (as := [.inr (.inl p), .inl x2]) (rest := [.inl v3, .inl x3, .inl x2, .inr (.inl z)]) (p' := 47) (by decide +kernel) rfl rfl rfl rfl rfl (fun f4 v5 => ?_)
      refine ms_aload_n (k := 1) (p' := 48) (by decide +kernel) rfl rfl ?_
      refine ms_iload_n (k := 3) (p' := 49) (by decide +kernel) rfl rfl ?_
      refine ms_stat_i (idx := 135) (cy := yZ_greatOf) (n := 2) (as := [.inr (.inl p), .inl x3]) (rest := [.inl v5, .inl v3, .inl x3, .inl x2, .inr (.inl z)]) (p' := 52) (by decide +kernel) rfl rfl rfl rfl rfl (fun f6 v7 => ?_)
      refine ms_stat_i (idx := 139) (cy := yZ_roughBound) (n := 3) (as := [.inl v3, .inl v5, .inl v7]) (rest := [.inl x3, .inl x2, .inr (.inl z)]) (p' := 55) (by decide +kernel) rfl rfl rfl rfl rfl (fun f8 v9 => ?_)
      refine ms_virt_u (idx := 54) (cy := yZ_put) (n := 3) (a := z) (as := [.inl x2, .inl x3, .inl v9]) (rest := []) (p' := 58) (by decide +kernel) rfl rfl rfl rfl (zn_k hz hw) rfl (fun f10 => ?_)
      refine ms_iinc (k := 3) (n := 1) (ls' := [.inr (.inl z), .inr (.inl p), .inl x2, .inl (mj_w (x3 + 1))]) (p' := 61) (by decide +kernel) rfl rfl rfl ?_
      refine ms_goto (off := (-41)) (p' := 20) (by decide +kernel) ?_
      rfl
theorem c_Z_become {sw : Bool} {w : mj_W} (hw : wk sw w) (f : mj_F) (z : Nat) (z1 : Nat) (hz : zn z = true) (hz1 : zn z1 = true) : mj_call yZ_become w f [.inr (.inl z), .inr (.inl z1)] = mj_gd ((mj_u f z 1 (f z1 1) z1 2) = 0 ∨ (mj_u f z 1 (f z1 1) z1 2) = 1) (mj_gd (0 ≤ ((36 : Nat) : Int) ∧ 0 ≤ 0 ∧ 0 ≤ 0 ∧ 0 + ((36 : Nat) : Int) ≤ ((36 : Nat) : Int) ∧ 0 + ((36 : Nat) : Int) ≤ ((36 : Nat) : Int)) (some (w, (mj_cpy (mj_u (mj_u f z 1 (f z1 1)) z 2 (mj_u f z 1 (f z1 1) z1 2)) (z1 + 1) (0 : Int).toNat (z + 1) (0 : Int).toNat ((36 : Nat) : Int).toNat), none))) := by
  show mj_run yZ_become w f 0 [.inr (.inl z), .inr (.inl z1)] [] = _
  refine ms_aload_n (k := 0) (p' := 1) (by decide +kernel) rfl rfl ?_
  refine ms_aload_n (k := 1) (p' := 2) (by decide +kernel) rfl rfl ?_
  refine ms_geti (idx := 15) (ci := 7) (k := 1) (q := 360) (p' := 5) (by decide +kernel) rfl (zn_k hz1 hw) ?_
  refine ms_puti (idx := 15) (ci := 7) (k := 1) (q := 360) (p' := 8) (by decide +kernel) rfl (zn_k hz hw) ?_
  refine ms_aload_n (k := 0) (p' := 9) (by decide +kernel) rfl rfl ?_
  refine ms_aload_n (k := 1) (p' := 10) (by decide +kernel) rfl rfl ?_
  refine ms_geti (idx := 19) (ci := 7) (k := 2) (q := 362) (p' := 13) (by decide +kernel) rfl (zn_k hz1 hw) ?_
  refine ms_putz (idx := 19) (ci := 7) (k := 2) (q := 362) (p' := 16) (by decide +kernel) rfl (zn_k hz hw) (fun hz_ => ?_)
  refine ms_aload_n (k := 1) (p' := 17) (by decide +kernel) rfl rfl ?_
  refine ms_getr (idx := 9) (ci := 7) (k := 0) (q := 359) (p' := 20) (by decide +kernel) rfl (zn_k hz1 hw) (zn_r hz1 hw) (nz1 _) ?_
  refine ms_iconst (n := 0) (v := 0) (p' := 21) (by decide +kernel) rfl ?_
  refine ms_aload_n (k := 0) (p' := 22) (by decide +kernel) rfl rfl ?_
  refine ms_getr (idx := 9) (ci := 7) (k := 0) (q := 359) (p' := 25) (by decide +kernel) rfl (zn_k hz hw) (zn_r hz hw) (nz1 _) ?_
  refine ms_iconst (n := 0) (v := 0) (p' := 26) (by decide +kernel) rfl ?_
  refine ms_aload_n (k := 0) (p' := 27) (by decide +kernel) rfl rfl ?_
  refine ms_getr (idx := 9) (ci := 7) (k := 0) (q := 359) (p' := 30) (by decide +kernel) rfl (zn_k hz hw) (zn_r hz hw) (nz1 _) ?_
  refine ms_alen (p' := 31) (by decide +kernel) rfl (zn_c hz hw) (by decide) ?_
  refine ms_copy (idx := 44) (x := 0) (q := 767) (p' := 34) (by decide +kernel) rfl rfl (zn_c hz1 hw) (zn_c hz hw) (fun hj1 => ?_)
  exact ms_vret (by decide +kernel)
theorem c_Z_assign {sw : Bool} {w : mj_W} (hw : wk sw w) (f : mj_F) (z : Nat) (x1 : Int) (x2 : Int) (hz : zn z = true) : mj_call yZ_assign w f [.inr (.inl z), .inl x1, .inl x2] = mj_run yZ_assign w f 2 [.inr (.inl z), .inl x1, .inl x2, .inl 0] [] := by
  show mj_run yZ_assign w f 0 [.inr (.inl z), .inl x1, .inl x2, .inr (.inr (.inr 0))] [] = _
  refine ms_iconst (n := 0) (v := 0) (p' := 1) (by decide +kernel) rfl ?_
  refine ms_istore_n (k := 3) (ls' := [.inr (.inl z), .inl x1, .inl x2, .inl 0]) (p' := 2) (by decide +kernel) rfl (Nat.le_of_ble_eq_true rfl) rfl ?_
  rfl
theorem l_Z_assign_2 {sw : Bool} {w : mj_W} (hw : wk sw w) (f : mj_F) (z : Nat) (x1 : Int) (x2 : Int) (x3 : Int) (hz : zn z = true) : mj_run yZ_assign w f 2 [.inr (.inl z), .inl x1, .inl x2, .inl x3] [] = if (f z 1) ≤ x3 then some (w, f, none) else if x3 = x1 then mj_run yZ_assign w f 2 [.inr (.inl z), .inl x1, .inl x2, .inl (mj_w (x3 + 1))] [] else mj_bi (mj_call yX_atMost w f [.inl x2]) (fun f1 v2 => mj_bi (mj_call yZ_cell w f1 [.inr (.inl z), .inl 0, .inl x3]) (fun f3 v4 => mj_bi (mj_call yX_sumOf w f3 [.inl v2, .inl v4]) (fun f5 v6 => mj_bu (mj_call yZ_put w f5 [.inr (.inl z), .inl x1, .inl x3, .inl v6]) (fun f7 => mj_bi (mj_call yZ_cell w f7 [.inr (.inl z), .inl x3, .inl 0]) (fun f8 v9 => mj_bi (mj_call yX_atMost w f8 [.inl (mj_w (-x2))]) (fun f10 v11 => mj_bi (mj_call yX_sumOf w f10 [.inl v9, .inl v11]) (fun f12 v13 => mj_bu (mj_call yZ_put w f12 [.inr (.inl z), .inl x3, .inl x1, .inl v13]) (fun f14 => mj_run yZ_assign w f14 2 [.inr (.inl z), .inl x1, .inl x2, .inl (mj_w (x3 + 1))] [])))))))) := by
  refine ms_iload_n (k := 3) (p' := 3) (by decide +kernel) rfl rfl ?_
  refine ms_aload_n (k := 0) (p' := 4) (by decide +kernel) rfl rfl ?_
  refine ms_geti (idx := 15) (ci := 7) (k := 1) (q := 360) (p' := 7) (by decide +kernel) rfl (zn_k hz hw) ?_
  refine ms_icmp_ge (off := 53) (t := 60) (p' := 10) (by decide +kernel) rfl (fun hc => ?_) (fun hc => ?_)
  · exact ms_vret (by decide +kernel)
  · refine ms_iload_n (k := 3) (p' := 11) (by decide +kernel) rfl rfl ?_
    refine ms_iload_n (k := 1) (p' := 12) (by decide +kernel) rfl rfl ?_
    refine ms_icmp_eq (off := 42) (t := 54) (p' := 15) (by decide +kernel) rfl (fun hc => ?_) (fun hc => ?_)
    · refine ms_iinc (k := 3) (n := 1) (ls' := [.inr (.inl z), .inl x1, .inl x2, .inl (mj_w (x3 + 1))]) (p' := 57) (by decide +kernel) rfl rfl rfl ?_
      refine ms_goto (off := (-55)) (p' := 2) (by decide +kernel) ?_
      rfl
    · refine ms_aload_n (k := 0) (p' := 16) (by decide +kernel) rfl rfl ?_
      refine ms_iload_n (k := 1) (p' := 17) (by decide +kernel) rfl rfl ?_
      refine ms_iload_n (k := 3) (p' := 18) (by decide +kernel) rfl rfl ?_
      refine ms_iload_n (k := 2) (p' := 19) (by decide +kernel) rfl rfl ?_
      refine ms_stat_i (idx := 103) (cy := yX_atMost) (n := 1) (as := [.inl x2]) (rest := [.inl x3, .inl x1, .inr (.inl z)]) (p' := 22) (by decide +kernel) rfl rfl rfl rfl rfl (fun f1 v2 => ?_)
      refine ms_aload_n (k := 0) (p' := 23) (by decide +kernel) rfl rfl ?_
      refine ms_iconst (n := 0) (v := 0) (p' := 24) (by decide +kernel) rfl ?_
      refine ms_iload_n (k := 3) (p' := 25) (by decide +kernel) rfl rfl ?_
      refine ms_virt_i (idx := 29) (cy := yZ_cell) (n := 2) (a := z) (as := [.inl 0, .inl x3]) (rest := [.inl v2, .inl x3, .inl x1, .inr (.inl z)]) (p' := 28) (by decide +kernel) rfl rfl rfl rfl (zn_k hz hw) rfl (fun f3 v4 => ?_)
      refine ms_stat_i (idx := 71) (cy := yX_sumOf) (n := 2) (as := [.inl v2, .inl v4]) (rest := [.inl x3, .inl x1, .inr (.inl z)]) (p' := 31) (by decide +kernel) rfl rfl rfl rfl rfl (fun f5 v6 => ?_)
      refine ms_virt_u (idx := 54) (cy := yZ_put) (n := 3) (a := z) (as := [.inl x1, .inl x3, .inl v6]) (rest := []) (p' := 34) (by decide +kernel) rfl rfl rfl rfl (zn_k hz hw) rfl (fun f7 => ?_)
      refine ms_aload_n (k := 0) (p' := 35) (by decide +kernel) rfl rfl ?_
      refine ms_iload_n (k := 3) (p' := 36) (by decide +kernel) rfl rfl ?_
      refine ms_iload_n (k := 1) (p' := 37) (by decide +kernel) rfl rfl ?_
      refine ms_aload_n (k := 0) (p' := 38) (by decide +kernel) rfl rfl ?_
      refine ms_iload_n (k := 3) (p' := 39) (by decide +kernel) rfl rfl ?_
      refine ms_iconst (n := 0) (v := 0) (p' := 40) (by decide +kernel) rfl ?_
      refine ms_virt_i (idx := 29) (cy := yZ_cell) (n := 2) (a := z) (as := [.inl x3, .inl 0]) (rest := [.inl x1, .inl x3, .inr (.inl z)]) (p' := 43) (by decide +kernel) rfl rfl rfl rfl (zn_k hz hw) rfl (fun f8 v9 => ?_)
      refine ms_iload_n (k := 2) (p' := 44) (by decide +kernel) rfl rfl ?_
      refine ms_ineg (p' := 45) (by decide +kernel) rfl ?_
      refine ms_stat_i (idx := 103) (cy := yX_atMost) (n := 1) (as := [.inl (mj_w (-x2))]) (rest := [.inl v9, .inl x1, .inl x3, .inr (.inl z)]) (p' := 48) (by decide +kernel) rfl rfl rfl rfl rfl (fun f10 v11 => ?_)
      refine ms_stat_i (idx := 71) (cy := yX_sumOf) (n := 2) (as := [.inl v9, .inl v11]) (rest := [.inl x1, .inl x3, .inr (.inl z)]) (p' := 51) (by decide +kernel) rfl rfl rfl rfl rfl (fun f12 v13 => ?_)
      refine ms_virt_u (idx := 54) (cy := yZ_put) (n := 3) (a := z) (as := [.inl x3, .inl x1, .inl v13]) (rest := []) (p' := 54) (by decide +kernel) rfl rfl rfl rfl (zn_k hz hw) rfl (fun f14 => ?_)
      refine ms_iinc (k := 3) (n := 1) (ls' := [.inr (.inl z), .inl x1, .inl x2, .inl (mj_w (x3 + 1))]) (p' := 57) (by decide +kernel) rfl rfl rfl ?_
      refine ms_goto (off := (-55)) (p' := 2) (by decide +kernel) ?_
      rfl
theorem c_Z_applySets {sw : Bool} {w : mj_W} (hw : wk sw w) (f : mj_F) (z : Nat) (p : Nat) (x2 : Int) (hz : zn z = true) (hp : pn p) : mj_call yZ_applySets w f [.inr (.inl z), .inr (.inl p), .inl x2] = mj_run yZ_applySets w f 2 [.inr (.inl z), .inr (.inl p), .inl x2, .inl 0, .inr (.inr (.inr 0))] [] := by
  show mj_run yZ_applySets w f 0 [.inr (.inl z), .inr (.inl p), .inl x2, .inr (.inr (.inr 0)), .inr (.inr (.inr 0))] [] = _
  refine ms_iconst (n := 0) (v := 0) (p' := 1) (by decide +kernel) rfl ?_
  refine ms_istore_n (k := 3) (ls' := [.inr (.inl z), .inr (.inl p), .inl x2, .inl 0, .inr (.inr (.inr 0))]) (p' := 2) (by decide +kernel) rfl (Nat.le_of_ble_eq_true rfl) rfl ?_
  rfl
theorem l_Z_applySets_2 {sw : Bool} {w : mj_W} (hw : wk sw w) (f : mj_F) (z : Nat) (p : Nat) (x2 : Int) (x3 : Int) (u4 : mj_V) (hz : zn z = true) (hp : pn p) : mj_run yZ_applySets w f 2 [.inr (.inl z), .inr (.inl p), .inl x2, .inl x3, u4] [] = mj_gd (0 ≤ x2 ∧ x2 < ((16 : Nat) : Int)) (if (f (p + 10) x2.toNat) ≤ x3 then some (w, f, none) else mj_gd (0 ≤ (mj_w ((mj_w (x2 * 4)) + x3)) ∧ (mj_w ((mj_w (x2 * 4)) + x3)) < ((64 : Nat) : Int)) (mj_gd (0 ≤ (mj_w ((mj_w (x2 * 4)) + x3)) ∧ (mj_w ((mj_w (x2 * 4)) + x3)) < ((64 : Nat) : Int)) (mj_bu (mj_call yZ_assign w f [.inr (.inl z), .inl (mj_w ((f (p + 11) (mj_w ((mj_w (x2 * 4)) + x3)).toNat) + 1)), .inl (f (p + 12) (mj_w ((mj_w (x2 * 4)) + x3)).toNat)]) (fun f4 => mj_run yZ_applySets w f4 2 [.inr (.inl z), .inr (.inl p), .inl x2, .inl (mj_w (x3 + 1)), .inl (mj_w ((mj_w (x2 * 4)) + x3))] [])))) := by
  refine ms_iload_n (k := 3) (p' := 3) (by decide +kernel) rfl rfl ?_
  refine ms_aload_n (k := 1) (p' := 4) (by decide +kernel) rfl rfl ?_
  refine ms_getr (idx := 94) (ci := 3) (k := 15) (q := 264) (p' := 7) (by decide +kernel) rfl (pn_k hp hw) (pn_r15 hp hw) (by omega) ?_
  refine ms_iload_n (k := 2) (p' := 8) (by decide +kernel) rfl rfl ?_
  refine ms_iald (p' := 9) (by decide +kernel) rfl (pn_k15 hp hw) (fun hj1 => ?_)
  refine ms_icmp_ge (off := 36) (t := 45) (p' := 12) (by decide +kernel) rfl (fun hc => ?_) (fun hc => ?_)
  · exact ms_vret (by decide +kernel)
  · refine ms_iload_n (k := 2) (p' := 13) (by decide +kernel) rfl rfl ?_
    refine ms_iconst (n := 4) (v := 4) (p' := 14) (by decide +kernel) rfl ?_
    refine ms_imul (p' := 15) (by decide +kernel) rfl ?_
    refine ms_iload_n (k := 3) (p' := 16) (by decide +kernel) rfl rfl ?_
    refine ms_iadd (p' := 17) (by decide +kernel) rfl ?_
    refine ms_istore (k := 4) (ls' := [.inr (.inl z), .inr (.inl p), .inl x2, .inl x3, .inl (mj_w ((mj_w (x2 * 4)) + x3))]) (p' := 19) (by decide +kernel) rfl (Nat.le_of_ble_eq_true rfl) rfl ?_
    refine ms_aload_n (k := 0) (p' := 20) (by decide +kernel) rfl rfl ?_
    refine ms_aload_n (k := 1) (p' := 21) (by decide +kernel) rfl rfl ?_
    refine ms_getr (idx := 97) (ci := 3) (k := 16) (q := 268) (p' := 24) (by decide +kernel) rfl (pn_k hp hw) (pn_r16 hp hw) (by omega) ?_
    refine ms_iload (k := 4) (p' := 26) (by decide +kernel) rfl rfl ?_
    refine ms_iald (p' := 27) (by decide +kernel) rfl (pn_k16 hp hw) (fun hj2 => ?_)
    refine ms_iconst (n := 1) (v := 1) (p' := 28) (by decide +kernel) rfl ?_
    refine ms_iadd (p' := 29) (by decide +kernel) rfl ?_
    refine ms_aload_n (k := 1) (p' := 30) (by decide +kernel) rfl rfl ?_
    refine ms_getr (idx := 100) (ci := 3) (k := 17) (q := 272) (p' := 33) (by decide +kernel) rfl (pn_k hp hw) (pn_r17 hp hw) (by omega) ?_
    refine ms_iload (k := 4) (p' := 35) (by decide +kernel) rfl rfl ?_
    refine ms_iald (p' := 36) (by decide +kernel) rfl (pn_k17 hp hw) (fun hj3 => ?_)
    refine ms_virt_u (idx := 58) (cy := yZ_assign) (n := 2) (a := z) (as := [.inl (mj_w ((f (p + 11) (mj_w ((mj_w (x2 * 4)) + x3)).toNat) + 1)), .inl (f (p + 12) (mj_w ((mj_w (x2 * 4)) + x3)).toNat)]) (rest := []) (p' := 39) (by decide +kernel) rfl rfl rfl rfl (zn_k hz hw) rfl (fun f4 => ?_)
    refine ms_iinc (k := 3) (n := 1) (ls' := [.inr (.inl z), .inr (.inl p), .inl x2, .inl (mj_w (x3 + 1)), .inl (mj_w ((mj_w (x2 * 4)) + x3))]) (p' := 42) (by decide +kernel) rfl rfl rfl ?_
    refine ms_goto (off := (-40)) (p' := 2) (by decide +kernel) ?_
    rfl
theorem c_Z_stepBy {sw : Bool} {w : mj_W} (hw : wk sw w) (f : mj_F) (z : Nat) (p : Nat) (x2 : Int) (hz : zn z = true) (hp : pn p) : mj_call yZ_stepBy w f [.inr (.inl z), .inr (.inl p), .inl x2] = mj_gd (0 ≤ x2 ∧ x2 < ((16 : Nat) : Int)) (mj_bi (mj_call yX_stayRules w f [.inl (f (p + 9) x2.toNat)]) (fun f2 v3 => mj_bi (mj_call yX_edgeRules w f2 [.inl x2]) (fun f4 v5 => mj_bu (mj_call yZ_keepRules w f4 [.inr (.inl z), .inr (.inl p), .inl v5]) (fun f6 => mj_bu (mj_call yZ_applySets w f6 [.inr (.inl z), .inr (.inl p), .inl x2]) (fun f7 => mj_bu (mj_call yZ_keepRules w f7 [.inr (.inl z), .inr (.inl p), .inl v3]) (fun f8 => mj_bu (mj_call yZ_goUp w f8 [.inr (.inl z)]) (fun f9 => mj_bu (mj_call yZ_keepRules w f9 [.inr (.inl z), .inr (.inl p), .inl v3]) (fun f10 => some (w, f10, none))))))))) := by
  show mj_run yZ_stepBy w f 0 [.inr (.inl z), .inr (.inl p), .inl x2, .inr (.inr (.inr 0))] [] = _
  refine ms_aload_n (k := 1) (p' := 1) (by decide +kernel) rfl rfl ?_
  refine ms_getr (idx := 116) (ci := 3) (k := 14) (q := 260) (p' := 4) (by decide +kernel) rfl (pn_k hp hw) (pn_r14 hp hw) (by omega) ?_
  refine ms_iload_n (k := 2) (p' := 5) (by decide +kernel) rfl rfl ?_
  refine ms_iald (p' := 6) (by decide +kernel) rfl (pn_k14 hp hw) (fun hj1 => ?_)
  refine ms_stat_i (idx := 106) (cy := yX_stayRules) (n := 1) (as := [.inl (f (p + 9) x2.toNat)]) (rest := []) (p' := 9) (by decide +kernel) rfl rfl rfl rfl rfl (fun f2 v3 => ?_)
  refine ms_istore_n (k := 3) (ls' := [.inr (.inl z), .inr (.inl p), .inl x2, .inl v3]) (p' := 10) (by decide +kernel) rfl (Nat.le_of_ble_eq_true rfl) rfl ?_
  refine ms_aload_n (k := 0) (p' := 11) (by decide +kernel) rfl rfl ?_
  refine ms_aload_n (k := 1) (p' := 12) (by decide +kernel) rfl rfl ?_
  refine ms_iload_n (k := 2) (p' := 13) (by decide +kernel) rfl rfl ?_
  refine ms_stat_i (idx := 119) (cy := yX_edgeRules) (n := 1) (as := [.inl x2]) (rest := [.inr (.inl p), .inr (.inl z)]) (p' := 16) (by decide +kernel) rfl rfl rfl rfl rfl (fun f4 v5 => ?_)
  refine ms_virt_u (idx := 109) (cy := yZ_keepRules) (n := 2) (a := z) (as := [.inr (.inl p), .inl v5]) (rest := []) (p' := 19) (by decide +kernel) rfl rfl rfl rfl (zn_k hz hw) rfl (fun f6 => ?_)
  refine ms_aload_n (k := 0) (p' := 20) (by decide +kernel) rfl rfl ?_
  refine ms_aload_n (k := 1) (p' := 21) (by decide +kernel) rfl rfl ?_
  refine ms_iload_n (k := 2) (p' := 22) (by decide +kernel) rfl rfl ?_
  refine ms_virt_u (idx := 122) (cy := yZ_applySets) (n := 2) (a := z) (as := [.inr (.inl p), .inl x2]) (rest := []) (p' := 25) (by decide +kernel) rfl rfl rfl rfl (zn_k hz hw) rfl (fun f7 => ?_)
  refine ms_aload_n (k := 0) (p' := 26) (by decide +kernel) rfl rfl ?_
  refine ms_aload_n (k := 1) (p' := 27) (by decide +kernel) rfl rfl ?_
  refine ms_iload_n (k := 3) (p' := 28) (by decide +kernel) rfl rfl ?_
  refine ms_virt_u (idx := 109) (cy := yZ_keepRules) (n := 2) (a := z) (as := [.inr (.inl p), .inl v3]) (rest := []) (p' := 31) (by decide +kernel) rfl rfl rfl rfl (zn_k hz hw) rfl (fun f8 => ?_)
  refine ms_aload_n (k := 0) (p' := 32) (by decide +kernel) rfl rfl ?_
  refine ms_virt_u (idx := 113) (cy := yZ_goUp) (n := 0) (a := z) (as := []) (rest := []) (p' := 35) (by decide +kernel) rfl rfl rfl rfl (zn_k hz hw) rfl (fun f9 => ?_)
  refine ms_aload_n (k := 0) (p' := 36) (by decide +kernel) rfl rfl ?_
  refine ms_aload_n (k := 1) (p' := 37) (by decide +kernel) rfl rfl ?_
  refine ms_iload_n (k := 3) (p' := 38) (by decide +kernel) rfl rfl ?_
  refine ms_virt_u (idx := 109) (cy := yZ_keepRules) (n := 2) (a := z) (as := [.inr (.inl p), .inl v3]) (rest := []) (p' := 41) (by decide +kernel) rfl rfl rfl rfl (zn_k hz hw) rfl (fun f10 => ?_)
  exact ms_vret (by decide +kernel)
theorem c_Z_covers {sw : Bool} {w : mj_W} (hw : wk sw w) (f : mj_F) (z : Nat) (z1 : Nat) (hz : zn z = true) (hz1 : zn z1 = true) : mj_call yZ_covers w f [.inr (.inl z), .inr (.inl z1)] = if ¬ (f z 2) = 0 then mj_gd ((f z1 2) = 0 ∨ (f z1 2) = 1) (some (w, f, some (.inl (f z1 2)))) else if (f z1 2) = 0 then mj_run yZ_covers w f 21 [.inr (.inl z), .inr (.inl z1), .inl 0, .inr (.inr (.inr 0))] [] else mj_gd ((f z1 2) = 0 ∨ (f z1 2) = 1) (some (w, f, some (.inl (f z1 2)))) := by
  show mj_run yZ_covers w f 0 [.inr (.inl z), .inr (.inl z1), .inr (.inr (.inr 0)), .inr (.inr (.inr 0))] [] = _
  refine ms_aload_n (k := 0) (p' := 1) (by decide +kernel) rfl rfl ?_
  refine ms_geti (idx := 19) (ci := 7) (k := 2) (q := 362) (p' := 4) (by decide +kernel) rfl (zn_k hz hw) ?_
  refine ms_if_ne (off := 10) (t := 14) (p' := 7) (by decide +kernel) rfl (fun hc => ?_) (fun hc => ?_)
  · refine ms_aload_n (k := 1) (p' := 15) (by decide +kernel) rfl rfl ?_
    refine ms_geti (idx := 19) (ci := 7) (k := 2) (q := 362) (p' := 18) (by decide +kernel) rfl (zn_k hz1 hw) ?_
    exact ms_zret (by decide +kernel)
  · refine ms_aload_n (k := 1) (p' := 8) (by decide +kernel) rfl rfl ?_
    refine ms_geti (idx := 19) (ci := 7) (k := 2) (q := 362) (p' := 11) (by decide +kernel) rfl (zn_k hz1 hw) ?_
    refine ms_if_eq (off := 8) (t := 19) (p' := 14) (by decide +kernel) rfl (fun hc => ?_) (fun hc => ?_)
    · refine ms_iconst (n := 0) (v := 0) (p' := 20) (by decide +kernel) rfl ?_
      refine ms_istore_n (k := 2) (ls' := [.inr (.inl z), .inr (.inl z1), .inl 0, .inr (.inr (.inr 0))]) (p' := 21) (by decide +kernel) rfl (Nat.le_of_ble_eq_true rfl) rfl ?_
      rfl
    · refine ms_aload_n (k := 1) (p' := 15) (by decide +kernel) rfl rfl ?_
      refine ms_geti (idx := 19) (ci := 7) (k := 2) (q := 362) (p' := 18) (by decide +kernel) rfl (zn_k hz1 hw) ?_
      exact ms_zret (by decide +kernel)
theorem l_Z_covers_21 {sw : Bool} {w : mj_W} (hw : wk sw w) (f : mj_F) (z : Nat) (z1 : Nat) (x2 : Int) (u3 : mj_V) (hz : zn z = true) (hz1 : zn z1 = true) : mj_run yZ_covers w f 21 [.inr (.inl z), .inr (.inl z1), .inl x2, u3] [] = if (f z 1) ≤ x2 then mj_gd (1 = 0 ∨ 1 = 1) (some (w, f, some (.inl 1))) else mj_run yZ_covers w f 31 [.inr (.inl z), .inr (.inl z1), .inl x2, .inl 0] [] := by
  refine ms_iload_n (k := 2) (p' := 22) (by decide +kernel) rfl rfl ?_
  refine ms_aload_n (k := 0) (p' := 23) (by decide +kernel) rfl rfl ?_
  refine ms_geti (idx := 15) (ci := 7) (k := 1) (q := 360) (p' := 26) (by decide +kernel) rfl (zn_k hz hw) ?_
  refine ms_icmp_ge (off := 42) (t := 68) (p' := 29) (by decide +kernel) rfl (fun hc => ?_) (fun hc => ?_)
  · refine ms_iconst (n := 1) (v := 1) (p' := 69) (by decide +kernel) rfl ?_
    exact ms_zret (by decide +kernel)
  · refine ms_iconst (n := 0) (v := 0) (p' := 30) (by decide +kernel) rfl ?_
    refine ms_istore_n (k := 3) (ls' := [.inr (.inl z), .inr (.inl z1), .inl x2, .inl 0]) (p' := 31) (by decide +kernel) rfl (Nat.le_of_ble_eq_true rfl) rfl ?_
    rfl
theorem l_Z_covers_31 {sw : Bool} {w : mj_W} (hw : wk sw w) (f : mj_F) (z : Nat) (z1 : Nat) (x2 : Int) (x3 : Int) (hz : zn z = true) (hz1 : zn z1 = true) : mj_run yZ_covers w f 31 [.inr (.inl z), .inr (.inl z1), .inl x2, .inl x3] [] = if (f z 1) ≤ x3 then mj_run yZ_covers w f 21 [.inr (.inl z), .inr (.inl z1), .inl (mj_w (x2 + 1)), .inl x3] [] else mj_bi (mj_call yZ_cell w f [.inr (.inl z1), .inl x2, .inl x3]) (fun f1 v2 => mj_bi (mj_call yZ_cell w f1 [.inr (.inl z), .inl x2, .inl x3]) (fun f3 v4 => if v2 ≤ v4 then mj_run yZ_covers w f3 31 [.inr (.inl z), .inr (.inl z1), .inl x2, .inl (mj_w (x3 + 1))] [] else mj_gd (0 = 0 ∨ 0 = 1) (some (w, f3, some (.inl 0))))) := by
  refine ms_iload_n (k := 3) (p' := 32) (by decide +kernel) rfl rfl ?_
  refine ms_aload_n (k := 0) (p' := 33) (by decide +kernel) rfl rfl ?_
  refine ms_geti (idx := 15) (ci := 7) (k := 1) (q := 360) (p' := 36) (by decide +kernel) rfl (zn_k hz hw) ?_
  refine ms_icmp_ge (off := 26) (t := 62) (p' := 39) (by decide +kernel) rfl (fun hc => ?_) (fun hc => ?_)
  · refine ms_iinc (k := 2) (n := 1) (ls' := [.inr (.inl z), .inr (.inl z1), .inl (mj_w (x2 + 1)), .inl x3]) (p' := 65) (by decide +kernel) rfl rfl rfl ?_
    refine ms_goto (off := (-44)) (p' := 21) (by decide +kernel) ?_
    rfl
  · refine ms_aload_n (k := 1) (p' := 40) (by decide +kernel) rfl rfl ?_
    refine ms_iload_n (k := 2) (p' := 41) (by decide +kernel) rfl rfl ?_
    refine ms_iload_n (k := 3) (p' := 42) (by decide +kernel) rfl rfl ?_
    refine ms_virt_i (idx := 29) (cy := yZ_cell) (n := 2) (a := z1) (as := [.inl x2, .inl x3]) (rest := []) (p' := 45) (by decide +kernel) rfl rfl rfl rfl (zn_k hz1 hw) rfl (fun f1 v2 => ?_)
    refine ms_aload_n (k := 0) (p' := 46) (by decide +kernel) rfl rfl ?_
    refine ms_iload_n (k := 2) (p' := 47) (by decide +kernel) rfl rfl ?_
    refine ms_iload_n (k := 3) (p' := 48) (by decide +kernel) rfl rfl ?_
    refine ms_virt_i (idx := 29) (cy := yZ_cell) (n := 2) (a := z) (as := [.inl x2, .inl x3]) (rest := [.inl v2]) (p' := 51) (by decide +kernel) rfl rfl rfl rfl (zn_k hz hw) rfl (fun f3 v4 => ?_)
    refine ms_icmp_le (off := 5) (t := 56) (p' := 54) (by decide +kernel) rfl (fun hc => ?_) (fun hc => ?_)
    · refine ms_iinc (k := 3) (n := 1) (ls' := [.inr (.inl z), .inr (.inl z1), .inl x2, .inl (mj_w (x3 + 1))]) (p' := 59) (by decide +kernel) rfl rfl rfl ?_
      refine ms_goto (off := (-28)) (p' := 31) (by decide +kernel) ?_
      rfl
    · refine ms_iconst (n := 0) (v := 0) (p' := 55) (by decide +kernel) rfl ?_
      exact ms_zret (by decide +kernel)
theorem c_M_tightens {sw : Bool} {w : mj_W} (hw : wk sw w) (f : mj_F) (x1 : Int) (x2 : Int) (x3 : Int)  : mj_call yM_tightens w f [.inr (.inl 223), .inl x1, .inl x2, .inl x3] = mj_bi (mj_call yM_get w f [.inr (.inl 223), .inl x1, .inl x2]) (fun f1 v2 => if v2 ≤ x3 then some (w, f1, none) else mj_bu (mj_call yM_put w f1 [.inr (.inl 223), .inl x1, .inl x2, .inl x3]) (fun f3 => some (w, f3, none))) := by
  show mj_run yM_tightens w f 0 [.inr (.inl 223), .inl x1, .inl x2, .inl x3] [] = _
  refine ms_iload_n (k := 3) (p' := 1) (by decide +kernel) rfl rfl ?_
  refine ms_aload_n (k := 0) (p' := 2) (by decide +kernel) rfl rfl ?_
  refine ms_iload_n (k := 1) (p' := 3) (by decide +kernel) rfl rfl ?_
  refine ms_iload_n (k := 2) (p' := 4) (by decide +kernel) rfl rfl ?_
  refine ms_virt_i (idx := 272) (cy := yM_get) (n := 2) (a := 223) (as := [.inl x1, .inl x2]) (rest := [.inl x3]) (p' := 7) (by decide +kernel) rfl rfl rfl rfl (k_223 hw) rfl (fun f1 v2 => ?_)
  refine ms_icmp_ge (off := 10) (t := 17) (p' := 10) (by decide +kernel) rfl (fun hc => ?_) (fun hc => ?_)
  · exact ms_vret (by decide +kernel)
  · refine ms_aload_n (k := 0) (p' := 11) (by decide +kernel) rfl rfl ?_
    refine ms_iload_n (k := 1) (p' := 12) (by decide +kernel) rfl rfl ?_
    refine ms_iload_n (k := 2) (p' := 13) (by decide +kernel) rfl rfl ?_
    refine ms_iload_n (k := 3) (p' := 14) (by decide +kernel) rfl rfl ?_
    refine ms_virt_u (idx := 276) (cy := yM_put) (n := 3) (a := 223) (as := [.inl x1, .inl x2, .inl x3]) (rest := []) (p' := 17) (by decide +kernel) rfl rfl rfl rfl (k_223 hw) rfl (fun f3 => ?_)
    exact ms_vret (by decide +kernel)
theorem c_M_plus {sw : Bool} {w : mj_W} (hw : wk sw w) (f : mj_F) (x0 : Int) (x1 : Int)  : mj_call yM_plus w f [.inl x0, .inl x1] = if 1000000 ≤ x0 then some (w, f, some (.inl 1000000)) else if x1 < 1000000 then some (w, f, some (.inl (mj_or (mj_w ((mj_and x0 (-2)) + (mj_and x1 (-2)))) (mj_and (mj_and x0 x1) 1)))) else some (w, f, some (.inl 1000000)) := by
  show mj_run yM_plus w f 0 [.inl x0, .inl x1] [] = _
  refine ms_iload_n (k := 0) (p' := 1) (by decide +kernel) rfl rfl ?_
  refine ms_ldc_w (idx := 271) (v := 1000000) (p' := 4) (by decide +kernel) rfl ?_
  refine ms_icmp_ge (off := 10) (t := 14) (p' := 7) (by decide +kernel) rfl (fun hc => ?_) (fun hc => ?_)
  · refine ms_ldc_w (idx := 271) (v := 1000000) (p' := 17) (by decide +kernel) rfl ?_
    refine ms_goto (off := 18) (p' := 35) (by decide +kernel) ?_
    exact ms_iret (by decide +kernel)
  · refine ms_iload_n (k := 1) (p' := 8) (by decide +kernel) rfl rfl ?_
    refine ms_ldc_w (idx := 271) (v := 1000000) (p' := 11) (by decide +kernel) rfl ?_
    refine ms_icmp_lt (off := 9) (t := 20) (p' := 14) (by decide +kernel) rfl (fun hc => ?_) (fun hc => ?_)
    · refine ms_iload_n (k := 0) (p' := 21) (by decide +kernel) rfl rfl ?_
      refine ms_bipush (n := (-2)) (v := (-2)) (p' := 23) (by decide +kernel) rfl ?_
      refine ms_iand (p' := 24) (by decide +kernel) rfl ?_
      refine ms_iload_n (k := 1) (p' := 25) (by decide +kernel) rfl rfl ?_
      refine ms_bipush (n := (-2)) (v := (-2)) (p' := 27) (by decide +kernel) rfl ?_
      refine ms_iand (p' := 28) (by decide +kernel) rfl ?_
      refine ms_iadd (p' := 29) (by decide +kernel) rfl ?_
      refine ms_iload_n (k := 0) (p' := 30) (by decide +kernel) rfl rfl ?_
      refine ms_iload_n (k := 1) (p' := 31) (by decide +kernel) rfl rfl ?_
      refine ms_iand (p' := 32) (by decide +kernel) rfl ?_
      refine ms_iconst (n := 1) (v := 1) (p' := 33) (by decide +kernel) rfl ?_
      refine ms_iand (p' := 34) (by decide +kernel) rfl ?_
      refine ms_ior (p' := 35) (by decide +kernel) rfl ?_
      exact ms_iret (by decide +kernel)
    · refine ms_ldc_w (idx := 271) (v := 1000000) (p' := 17) (by decide +kernel) rfl ?_
      refine ms_goto (off := 18) (p' := 35) (by decide +kernel) ?_
      exact ms_iret (by decide +kernel)
theorem c_M_closes {sw : Bool} {w : mj_W} (hw : wk sw w) (f : mj_F)   : mj_call yM_closes w f [.inr (.inl 223)] = mj_run yM_closes w f 2 [.inr (.inl 223), .inl 0, .inr (.inr (.inr 0)), .inr (.inr (.inr 0))] [] := by
  show mj_run yM_closes w f 0 [.inr (.inl 223), .inr (.inr (.inr 0)), .inr (.inr (.inr 0)), .inr (.inr (.inr 0))] [] = _
  refine ms_iconst (n := 0) (v := 0) (p' := 1) (by decide +kernel) rfl ?_
  refine ms_istore_n (k := 1) (ls' := [.inr (.inl 223), .inl 0, .inr (.inr (.inr 0)), .inr (.inr (.inr 0))]) (p' := 2) (by decide +kernel) rfl (Nat.le_of_ble_eq_true rfl) rfl ?_
  rfl
theorem l_M_closes_2 {sw : Bool} {w : mj_W} (hw : wk sw w) (f : mj_F) (x1 : Int) (u2 : mj_V) (u3 : mj_V)  : mj_run yM_closes w f 2 [.inr (.inl 223), .inl x1, u2, u3] [] = if (f 223 52) ≤ x1 then mj_run yM_closes w f 86 [.inr (.inl 223), .inl 0, u2, u3] [] else mj_run yM_closes w f 12 [.inr (.inl 223), .inl x1, .inl 0, u3] [] := by
  refine ms_iload_n (k := 1) (p' := 3) (by decide +kernel) rfl rfl ?_
  refine ms_aload_n (k := 0) (p' := 4) (by decide +kernel) rfl rfl ?_
  refine ms_geti (idx := 280) (ci := 9) (k := 52) (q := 1443) (p' := 7) (by decide +kernel) rfl (k_223 hw) ?_
  refine ms_icmp_ge (off := 77) (t := 84) (p' := 10) (by decide +kernel) rfl (fun hc => ?_) (fun hc => ?_)
  · refine ms_iconst (n := 0) (v := 0) (p' := 85) (by decide +kernel) rfl ?_
    refine ms_istore_n (k := 1) (ls' := [.inr (.inl 223), .inl 0, u2, u3]) (p' := 86) (by decide +kernel) rfl (Nat.le_of_ble_eq_true rfl) rfl ?_
    rfl
  · refine ms_iconst (n := 0) (v := 0) (p' := 11) (by decide +kernel) rfl ?_
    refine ms_istore_n (k := 2) (ls' := [.inr (.inl 223), .inl x1, .inl 0, u3]) (p' := 12) (by decide +kernel) rfl (Nat.le_of_ble_eq_true rfl) rfl ?_
    rfl
theorem l_M_closes_12 {sw : Bool} {w : mj_W} (hw : wk sw w) (f : mj_F) (x1 : Int) (x2 : Int) (u3 : mj_V)  : mj_run yM_closes w f 12 [.inr (.inl 223), .inl x1, .inl x2, u3] [] = if (f 223 52) ≤ x2 then mj_run yM_closes w f 2 [.inr (.inl 223), .inl (mj_w (x1 + 1)), .inl x2, u3] [] else mj_bi (mj_call yM_get w f [.inr (.inl 223), .inl x2, .inl x1]) (fun f1 v2 => if v2 < 1000000 then mj_run yM_closes w f1 37 [.inr (.inl 223), .inl x1, .inl x2, .inl 0] [] else mj_run yM_closes w f1 12 [.inr (.inl 223), .inl x1, .inl (mj_w (x2 + 1)), u3] []) := by
  refine ms_iload_n (k := 2) (p' := 13) (by decide +kernel) rfl rfl ?_
  refine ms_aload_n (k := 0) (p' := 14) (by decide +kernel) rfl rfl ?_
  refine ms_geti (idx := 280) (ci := 9) (k := 52) (q := 1443) (p' := 17) (by decide +kernel) rfl (k_223 hw) ?_
  refine ms_icmp_ge (off := 61) (t := 78) (p' := 20) (by decide +kernel) rfl (fun hc => ?_) (fun hc => ?_)
  · refine ms_iinc (k := 1) (n := 1) (ls' := [.inr (.inl 223), .inl (mj_w (x1 + 1)), .inl x2, u3]) (p' := 81) (by decide +kernel) rfl rfl rfl ?_
    refine ms_goto (off := (-79)) (p' := 2) (by decide +kernel) ?_
    rfl
  · refine ms_aload_n (k := 0) (p' := 21) (by decide +kernel) rfl rfl ?_
    refine ms_iload_n (k := 2) (p' := 22) (by decide +kernel) rfl rfl ?_
    refine ms_iload_n (k := 1) (p' := 23) (by decide +kernel) rfl rfl ?_
    refine ms_virt_i (idx := 272) (cy := yM_get) (n := 2) (a := 223) (as := [.inl x2, .inl x1]) (rest := []) (p' := 26) (by decide +kernel) rfl rfl rfl rfl (k_223 hw) rfl (fun f1 v2 => ?_)
    refine ms_ldc_w (idx := 271) (v := 1000000) (p' := 29) (by decide +kernel) rfl ?_
    refine ms_icmp_lt (off := 6) (t := 35) (p' := 32) (by decide +kernel) rfl (fun hc => ?_) (fun hc => ?_)
    · refine ms_iconst (n := 0) (v := 0) (p' := 36) (by decide +kernel) rfl ?_
      refine ms_istore_n (k := 3) (ls' := [.inr (.inl 223), .inl x1, .inl x2, .inl 0]) (p' := 37) (by decide +kernel) rfl (Nat.le_of_ble_eq_true rfl) rfl ?_
      rfl
    · refine ms_goto (off := 40) (p' := 72) (by decide +kernel) ?_
      refine ms_iinc (k := 2) (n := 1) (ls' := [.inr (.inl 223), .inl x1, .inl (mj_w (x2 + 1)), u3]) (p' := 75) (by decide +kernel) rfl rfl rfl ?_
      refine ms_goto (off := (-63)) (p' := 12) (by decide +kernel) ?_
      rfl
theorem l_M_closes_37 {sw : Bool} {w : mj_W} (hw : wk sw w) (f : mj_F) (x1 : Int) (x2 : Int) (x3 : Int)  : mj_run yM_closes w f 37 [.inr (.inl 223), .inl x1, .inl x2, .inl x3] [] = if (f 223 52) ≤ x3 then mj_run yM_closes w f 12 [.inr (.inl 223), .inl x1, .inl (mj_w (x2 + 1)), .inl x3] [] else mj_bi (mj_call yM_get w f [.inr (.inl 223), .inl x2, .inl x1]) (fun f3 v4 => mj_bi (mj_call yM_get w f3 [.inr (.inl 223), .inl x1, .inl x3]) (fun f5 v6 => mj_bi (mj_call yM_plus w f5 [.inl v4, .inl v6]) (fun f7 v8 => mj_bu (mj_call yM_tightens w f7 [.inr (.inl 223), .inl x2, .inl x3, .inl v8]) (fun f9 => mj_run yM_closes w f9 37 [.inr (.inl 223), .inl x1, .inl x2, .inl (mj_w (x3 + 1))] [])))) := by
  refine ms_iload_n (k := 3) (p' := 38) (by decide +kernel) rfl rfl ?_
  refine ms_aload_n (k := 0) (p' := 39) (by decide +kernel) rfl rfl ?_
  refine ms_geti (idx := 280) (ci := 9) (k := 52) (q := 1443) (p' := 42) (by decide +kernel) rfl (k_223 hw) ?_
  refine ms_icmp_ge (off := 30) (t := 72) (p' := 45) (by decide +kernel) rfl (fun hc => ?_) (fun hc => ?_)
  · refine ms_iinc (k := 2) (n := 1) (ls' := [.inr (.inl 223), .inl x1, .inl (mj_w (x2 + 1)), .inl x3]) (p' := 75) (by decide +kernel) rfl rfl rfl ?_
    refine ms_goto (off := (-63)) (p' := 12) (by decide +kernel) ?_
    rfl
  · refine ms_aload_n (k := 0) (p' := 46) (by decide +kernel) rfl rfl ?_
    refine ms_iload_n (k := 2) (p' := 47) (by decide +kernel) rfl rfl ?_
    refine ms_iload_n (k := 3) (p' := 48) (by decide +kernel) rfl rfl ?_
    refine ms_aload_n (k := 0) (p' := 49) (by decide +kernel) rfl rfl ?_
    refine ms_iload_n (k := 2) (p' := 50) (by decide +kernel) rfl rfl ?_
    refine ms_iload_n (k := 1) (p' := 51) (by decide +kernel) rfl rfl ?_
    refine ms_virt_i (idx := 272) (cy := yM_get) (n := 2) (a := 223) (as := [.inl x2, .inl x1]) (rest := [.inl x3, .inl x2, .inr (.inl 223)]) (p' := 54) (by decide +kernel) rfl rfl rfl rfl (k_223 hw) rfl (fun f3 v4 => ?_)
    refine ms_aload_n (k := 0) (p' := 55) (by decide +kernel) rfl rfl ?_
    refine ms_iload_n (k := 1) (p' := 56) (by decide +kernel) rfl rfl ?_
    refine ms_iload_n (k := 3) (p' := 57) (by decide +kernel) rfl rfl ?_
    refine ms_virt_i (idx := 272) (cy := yM_get) (n := 2) (a := 223) (as := [.inl x1, .inl x3]) (rest := [.inl v4, .inl x3, .inl x2, .inr (.inl 223)]) (p' := 60) (by decide +kernel) rfl rfl rfl rfl (k_223 hw) rfl (fun f5 v6 => ?_)
    refine ms_stat_i (idx := 283) (cy := yM_plus) (n := 2) (as := [.inl v4, .inl v6]) (rest := [.inl x3, .inl x2, .inr (.inl 223)]) (p' := 63) (by decide +kernel) rfl rfl rfl rfl rfl (fun f7 v8 => ?_)
    refine ms_virt_u (idx := 286) (cy := yM_tightens) (n := 3) (a := 223) (as := [.inl x2, .inl x3, .inl v8]) (rest := []) (p' := 66) (by decide +kernel) rfl rfl rfl rfl (k_223 hw) rfl (fun f9 => ?_)
    refine ms_iinc (k := 3) (n := 1) (ls' := [.inr (.inl 223), .inl x1, .inl x2, .inl (mj_w (x3 + 1))]) (p' := 69) (by decide +kernel) rfl rfl rfl ?_
    refine ms_goto (off := (-32)) (p' := 37) (by decide +kernel) ?_
    rfl
theorem l_M_closes_86 {sw : Bool} {w : mj_W} (hw : wk sw w) (f : mj_F) (x1 : Int) (u2 : mj_V) (u3 : mj_V)  : mj_run yM_closes w f 86 [.inr (.inl 223), .inl x1, u2, u3] [] = if (f 223 52) ≤ x1 then some (w, f, none) else mj_bi (mj_call yM_get w f [.inr (.inl 223), .inl x1, .inl x1]) (fun f10 v11 => if 1 ≤ v11 then mj_gd ((mj_or (f 223 53) 0) = 0 ∨ (mj_or (f 223 53) 0) = 1) (mj_run yM_closes w (mj_u f10 223 53 (mj_or (f 223 53) 0)) 86 [.inr (.inl 223), .inl (mj_w (x1 + 1)), u2, u3] []) else mj_gd ((mj_or (f 223 53) 1) = 0 ∨ (mj_or (f 223 53) 1) = 1) (mj_run yM_closes w (mj_u f10 223 53 (mj_or (f 223 53) 1)) 86 [.inr (.inl 223), .inl (mj_w (x1 + 1)), u2, u3] [])) := by
  refine ms_iload_n (k := 1) (p' := 87) (by decide +kernel) rfl rfl ?_
  refine ms_aload_n (k := 0) (p' := 88) (by decide +kernel) rfl rfl ?_
  refine ms_geti (idx := 280) (ci := 9) (k := 52) (q := 1443) (p' := 91) (by decide +kernel) rfl (k_223 hw) ?_
  refine ms_icmp_ge (off := 33) (t := 124) (p' := 94) (by decide +kernel) rfl (fun hc => ?_) (fun hc => ?_)
  · exact ms_vret (by decide +kernel)
  · refine ms_aload_n (k := 0) (p' := 95) (by decide +kernel) rfl rfl ?_
    refine ms_dup_a (p' := 96) (by decide +kernel) rfl ?_
    refine ms_geti (idx := 289) (ci := 9) (k := 53) (q := 1444) (p' := 99) (by decide +kernel) rfl (k_223 hw) ?_
    refine ms_aload_n (k := 0) (p' := 100) (by decide +kernel) rfl rfl ?_
    refine ms_iload_n (k := 1) (p' := 101) (by decide +kernel) rfl rfl ?_
    refine ms_iload_n (k := 1) (p' := 102) (by decide +kernel) rfl rfl ?_
    refine ms_virt_i (idx := 272) (cy := yM_get) (n := 2) (a := 223) (as := [.inl x1, .inl x1]) (rest := [.inl (f 223 53), .inr (.inl 223)]) (p' := 105) (by decide +kernel) rfl rfl rfl rfl (k_223 hw) rfl (fun f10 v11 => ?_)
    refine ms_iconst (n := 1) (v := 1) (p' := 106) (by decide +kernel) rfl ?_
    refine ms_icmp_ge (off := 7) (t := 113) (p' := 109) (by decide +kernel) rfl (fun hc => ?_) (fun hc => ?_)
    · refine ms_iconst (n := 0) (v := 0) (p' := 114) (by decide +kernel) rfl ?_
      refine ms_ior (p' := 115) (by decide +kernel) rfl ?_
      refine ms_putz (idx := 289) (ci := 9) (k := 53) (q := 1444) (p' := 118) (by decide +kernel) rfl (k_223 hw) (fun hz_ => ?_)
      refine ms_iinc (k := 1) (n := 1) (ls' := [.inr (.inl 223), .inl (mj_w (x1 + 1)), u2, u3]) (p' := 121) (by decide +kernel) rfl rfl rfl ?_
      refine ms_goto (off := (-35)) (p' := 86) (by decide +kernel) ?_
      rfl
    · refine ms_iconst (n := 1) (v := 1) (p' := 110) (by decide +kernel) rfl ?_
      refine ms_goto (off := 4) (p' := 114) (by decide +kernel) ?_
      refine ms_ior (p' := 115) (by decide +kernel) rfl ?_
      refine ms_putz (idx := 289) (ci := 9) (k := 53) (q := 1444) (p' := 118) (by decide +kernel) rfl (k_223 hw) (fun hz_ => ?_)
      refine ms_iinc (k := 1) (n := 1) (ls' := [.inr (.inl 223), .inl (mj_w (x1 + 1)), u2, u3]) (p' := 121) (by decide +kernel) rfl rfl rfl ?_
      refine ms_goto (off := (-35)) (p' := 86) (by decide +kernel) ?_
      rfl
theorem c_X_fault {sw : Bool} {w : mj_W} (hw : wk sw w) (f : mj_F) (x1 : Int)  : mj_call yX_fault w f [.inr (.inl 2), .inl x1] = if x1 = 0 then some (w, f, some (.inl (f 3 8))) else if x1 = 1 then some (w, f, some (.inl (f 3 9))) else some (w, f, some (.inl (-1))) := by
  show mj_run yX_fault w f 0 [.inr (.inl 2), .inl x1] [] = _
  refine ms_iload_n (k := 1) (p' := 1) (by decide +kernel) rfl rfl ?_
  have hd : mj_dec yX_fault 1 = some (.lookupswitch 43 #[(0, 27), (1, 35)]) := by decide +kernel
  by_cases hs0 : x1 = 0
  · rw [if_pos hs0]
    refine ms_look (t := 28) hd (by decide +kernel) (by rw [hs0]; decide +kernel) ?_
    refine ms_aload_n (k := 0) (p' := 29) (by decide +kernel) rfl rfl ?_
    refine ms_getr (idx := 12) (ci := 8) (k := 0) (q := 518) (p' := 32) (by decide +kernel) rfl (k_2 hw) (r_2_0 hw) (by decide) ?_
    refine ms_geti (idx := 101) (ci := 4) (k := 8) (q := 323) (p' := 35) (by decide +kernel) rfl (k_3 hw) ?_
    exact ms_iret (by decide +kernel)
  · rw [if_neg hs0]
    by_cases hs1 : x1 = 1
    · rw [if_pos hs1]
      refine ms_look (t := 36) hd (by decide +kernel) (by rw [hs1]; decide +kernel) ?_
      refine ms_aload_n (k := 0) (p' := 37) (by decide +kernel) rfl rfl ?_
      refine ms_getr (idx := 12) (ci := 8) (k := 0) (q := 518) (p' := 40) (by decide +kernel) rfl (k_2 hw) (r_2_0 hw) (by decide) ?_
      refine ms_geti (idx := 104) (ci := 4) (k := 9) (q := 325) (p' := 43) (by decide +kernel) rfl (k_3 hw) ?_
      exact ms_iret (by decide +kernel)
    · rw [if_neg hs1]
      refine ms_look (t := 44) hd (by decide +kernel) (by rw [show Op.lookupswitch.offset (#[(0, 27), (1, 35)] : Array (Int × Int)).toList 43 x1 = 43 by simp [Op.lookupswitch.offset, hs0, Ne.symm hs0, hs1, Ne.symm hs1]]; decide +kernel) ?_
      refine ms_iconst (n := (-1)) (v := (-1)) (p' := 45) (by decide +kernel) rfl ?_
      exact ms_iret (by decide +kernel)
theorem c_Z_release {sw : Bool} {w : mj_W} (hw : wk sw w) (f : mj_F) (z : Nat) (x1 : Int) (hz : zn z = true) : mj_call yZ_release w f [.inr (.inl z), .inl x1] = mj_run yZ_release w f 2 [.inr (.inl z), .inl x1, .inl 0] [] := by
  show mj_run yZ_release w f 0 [.inr (.inl z), .inl x1, .inr (.inr (.inr 0))] [] = _
  refine ms_iconst (n := 0) (v := 0) (p' := 1) (by decide +kernel) rfl ?_
  refine ms_istore_n (k := 2) (ls' := [.inr (.inl z), .inl x1, .inl 0]) (p' := 2) (by decide +kernel) rfl (Nat.le_of_ble_eq_true rfl) rfl ?_
  rfl
theorem l_Z_release_2 {sw : Bool} {w : mj_W} (hw : wk sw w) (f : mj_F) (z : Nat) (x1 : Int) (x2 : Int) (hz : zn z = true) : mj_run yZ_release w f 2 [.inr (.inl z), .inl x1, .inl x2] [] = if (f z 1) ≤ x2 then some (w, f, none) else if x2 = x1 then mj_run yZ_release w f 2 [.inr (.inl z), .inl x1, .inl (mj_w (x2 + 1))] [] else mj_bu (mj_call yZ_put w f [.inr (.inl z), .inl x1, .inl x2, .inl 268435456]) (fun f1 => mj_bi (mj_call yZ_cell w f1 [.inr (.inl z), .inl x2, .inl 0]) (fun f2 v3 => mj_bu (mj_call yZ_put w f2 [.inr (.inl z), .inl x2, .inl x1, .inl v3]) (fun f4 => mj_run yZ_release w f4 2 [.inr (.inl z), .inl x1, .inl (mj_w (x2 + 1))] []))) := by
  refine ms_iload_n (k := 2) (p' := 3) (by decide +kernel) rfl rfl ?_
  refine ms_aload_n (k := 0) (p' := 4) (by decide +kernel) rfl rfl ?_
  refine ms_geti (idx := 15) (ci := 7) (k := 1) (q := 360) (p' := 7) (by decide +kernel) rfl (zn_k hz hw) ?_
  refine ms_icmp_ge (off := 34) (t := 41) (p' := 10) (by decide +kernel) rfl (fun hc => ?_) (fun hc => ?_)
  · exact ms_vret (by decide +kernel)
  · refine ms_iload_n (k := 2) (p' := 11) (by decide +kernel) rfl rfl ?_
    refine ms_iload_n (k := 1) (p' := 12) (by decide +kernel) rfl rfl ?_
    refine ms_icmp_eq (off := 23) (t := 35) (p' := 15) (by decide +kernel) rfl (fun hc => ?_) (fun hc => ?_)
    · refine ms_iinc (k := 2) (n := 1) (ls' := [.inr (.inl z), .inl x1, .inl (mj_w (x2 + 1))]) (p' := 38) (by decide +kernel) rfl rfl rfl ?_
      refine ms_goto (off := (-36)) (p' := 2) (by decide +kernel) ?_
      rfl
    · refine ms_aload_n (k := 0) (p' := 16) (by decide +kernel) rfl rfl ?_
      refine ms_iload_n (k := 1) (p' := 17) (by decide +kernel) rfl rfl ?_
      refine ms_iload_n (k := 2) (p' := 18) (by decide +kernel) rfl rfl ?_
      refine ms_ldc (idx := 74) (v := 268435456) (p' := 20) (by decide +kernel) rfl ?_
      refine ms_virt_u (idx := 54) (cy := yZ_put) (n := 3) (a := z) (as := [.inl x1, .inl x2, .inl 268435456]) (rest := []) (p' := 23) (by decide +kernel) rfl rfl rfl rfl (zn_k hz hw) rfl (fun f1 => ?_)
      refine ms_aload_n (k := 0) (p' := 24) (by decide +kernel) rfl rfl ?_
      refine ms_iload_n (k := 2) (p' := 25) (by decide +kernel) rfl rfl ?_
      refine ms_iload_n (k := 1) (p' := 26) (by decide +kernel) rfl rfl ?_
      refine ms_aload_n (k := 0) (p' := 27) (by decide +kernel) rfl rfl ?_
      refine ms_iload_n (k := 2) (p' := 28) (by decide +kernel) rfl rfl ?_
      refine ms_iconst (n := 0) (v := 0) (p' := 29) (by decide +kernel) rfl ?_
      refine ms_virt_i (idx := 29) (cy := yZ_cell) (n := 2) (a := z) (as := [.inl x2, .inl 0]) (rest := [.inl x1, .inl x2, .inr (.inl z)]) (p' := 32) (by decide +kernel) rfl rfl rfl rfl (zn_k hz hw) rfl (fun f2 v3 => ?_)
      refine ms_virt_u (idx := 54) (cy := yZ_put) (n := 3) (a := z) (as := [.inl x2, .inl x1, .inl v3]) (rest := []) (p' := 35) (by decide +kernel) rfl rfl rfl rfl (zn_k hz hw) rfl (fun f4 => ?_)
      refine ms_iinc (k := 2) (n := 1) (ls' := [.inr (.inl z), .inl x1, .inl (mj_w (x2 + 1))]) (p' := 38) (by decide +kernel) rfl rfl rfl ?_
      refine ms_goto (off := (-36)) (p' := 2) (by decide +kernel) ?_
      rfl
theorem c_Z_layAll {sw : Bool} {w : mj_W} (hw : wk sw w) (f : mj_F) (z : Nat) (x1 : Int) (hz : zn z = true) : mj_call yZ_layAll w f [.inr (.inl z), .inl x1] = mj_bu (mj_call yZ_layZero w f [.inr (.inl z), .inl x1]) (fun f1 => mj_run yZ_layAll w f1 7 [.inr (.inl z), .inl x1, .inl 1] []) := by
  show mj_run yZ_layAll w f 0 [.inr (.inl z), .inl x1, .inr (.inr (.inr 0))] [] = _
  refine ms_aload_n (k := 0) (p' := 1) (by decide +kernel) rfl rfl ?_
  refine ms_iload_n (k := 1) (p' := 2) (by decide +kernel) rfl rfl ?_
  refine ms_virt_u (idx := 37) (cy := yZ_layZero) (n := 1) (a := z) (as := [.inl x1]) (rest := []) (p' := 5) (by decide +kernel) rfl rfl rfl rfl (zn_k hz hw) rfl (fun f1 => ?_)
  refine ms_iconst (n := 1) (v := 1) (p' := 6) (by decide +kernel) rfl ?_
  refine ms_istore_n (k := 2) (ls' := [.inr (.inl z), .inl x1, .inl 1]) (p' := 7) (by decide +kernel) rfl (Nat.le_of_ble_eq_true rfl) rfl ?_
  rfl
theorem l_Z_layAll_7 {sw : Bool} {w : mj_W} (hw : wk sw w) (f : mj_F) (z : Nat) (x1 : Int) (x2 : Int) (hz : zn z = true) : mj_run yZ_layAll w f 7 [.inr (.inl z), .inl x1, .inl x2] [] = if (f z 1) ≤ x2 then some (w, f, none) else mj_bu (mj_call yZ_release w f [.inr (.inl z), .inl x2]) (fun f2 => mj_run yZ_layAll w f2 7 [.inr (.inl z), .inl x1, .inl (mj_w (x2 + 1))] []) := by
  refine ms_iload_n (k := 2) (p' := 8) (by decide +kernel) rfl rfl ?_
  refine ms_aload_n (k := 0) (p' := 9) (by decide +kernel) rfl rfl ?_
  refine ms_geti (idx := 15) (ci := 7) (k := 1) (q := 360) (p' := 12) (by decide +kernel) rfl (zn_k hz hw) ?_
  refine ms_icmp_ge (off := 14) (t := 26) (p' := 15) (by decide +kernel) rfl (fun hc => ?_) (fun hc => ?_)
  · exact ms_vret (by decide +kernel)
  · refine ms_aload_n (k := 0) (p' := 16) (by decide +kernel) rfl rfl ?_
    refine ms_iload_n (k := 2) (p' := 17) (by decide +kernel) rfl rfl ?_
    refine ms_virt_u (idx := 41) (cy := yZ_release) (n := 1) (a := z) (as := [.inl x2]) (rest := []) (p' := 20) (by decide +kernel) rfl rfl rfl rfl (zn_k hz hw) rfl (fun f2 => ?_)
    refine ms_iinc (k := 2) (n := 1) (ls' := [.inr (.inl z), .inl x1, .inl (mj_w (x2 + 1))]) (p' := 23) (by decide +kernel) rfl rfl rfl ?_
    refine ms_goto (off := (-16)) (p' := 7) (by decide +kernel) ?_
    rfl
theorem c_Z_layNothing {sw : Bool} {w : mj_W} (hw : wk sw w) (f : mj_F) (z : Nat) (x1 : Int) (hz : zn z = true) : mj_call yZ_layNothing w f [.inr (.inl z), .inl x1] = mj_bu (mj_call yZ_layZero w f [.inr (.inl z), .inl x1]) (fun f1 => mj_gd (1 = 0 ∨ 1 = 1) (some (w, (mj_u f1 z 2 1), none))) := by
  show mj_run yZ_layNothing w f 0 [.inr (.inl z), .inl x1] [] = _
  refine ms_aload_n (k := 0) (p' := 1) (by decide +kernel) rfl rfl ?_
  refine ms_iload_n (k := 1) (p' := 2) (by decide +kernel) rfl rfl ?_
  refine ms_virt_u (idx := 37) (cy := yZ_layZero) (n := 1) (a := z) (as := [.inl x1]) (rest := []) (p' := 5) (by decide +kernel) rfl rfl rfl rfl (zn_k hz hw) rfl (fun f1 => ?_)
  refine ms_aload_n (k := 0) (p' := 6) (by decide +kernel) rfl rfl ?_
  refine ms_iconst (n := 1) (v := 1) (p' := 7) (by decide +kernel) rfl ?_
  refine ms_putz (idx := 19) (ci := 7) (k := 2) (q := 362) (p' := 10) (by decide +kernel) rfl (zn_k hz hw) (fun hz_ => ?_)
  exact ms_vret (by decide +kernel)
theorem c_Z_goesBeyond {sw : Bool} {w : mj_W} (hw : wk sw w) (f : mj_F) (z : Nat) (x1 : Int) (hz : zn z = true) : mj_call yZ_goesBeyond w f [.inr (.inl z), .inl x1] = if (f z 2) = 0 then mj_run yZ_goesBeyond w f 11 [.inr (.inl z), .inl x1, .inl 0, .inr (.inr (.inr 0)), .inr (.inr (.inr 0))] [] else mj_gd (0 = 0 ∨ 0 = 1) (some (w, f, some (.inl 0))) := by
  show mj_run yZ_goesBeyond w f 0 [.inr (.inl z), .inl x1, .inr (.inr (.inr 0)), .inr (.inr (.inr 0)), .inr (.inr (.inr 0))] [] = _
  refine ms_aload_n (k := 0) (p' := 1) (by decide +kernel) rfl rfl ?_
  refine ms_geti (idx := 19) (ci := 7) (k := 2) (q := 362) (p' := 4) (by decide +kernel) rfl (zn_k hz hw) ?_
  refine ms_if_eq (off := 5) (t := 9) (p' := 7) (by decide +kernel) rfl (fun hc => ?_) (fun hc => ?_)
  · refine ms_iconst (n := 0) (v := 0) (p' := 10) (by decide +kernel) rfl ?_
    refine ms_istore_n (k := 2) (ls' := [.inr (.inl z), .inl x1, .inl 0, .inr (.inr (.inr 0)), .inr (.inr (.inr 0))]) (p' := 11) (by decide +kernel) rfl (Nat.le_of_ble_eq_true rfl) rfl ?_
    rfl
  · refine ms_iconst (n := 0) (v := 0) (p' := 8) (by decide +kernel) rfl ?_
    exact ms_zret (by decide +kernel)
theorem l_Z_goesBeyond_11 {sw : Bool} {w : mj_W} (hw : wk sw w) (f : mj_F) (z : Nat) (x1 : Int) (x2 : Int) (u3 : mj_V) (u4 : mj_V) (hz : zn z = true) : mj_run yZ_goesBeyond w f 11 [.inr (.inl z), .inl x1, .inl x2, u3, u4] [] = if (f z 1) ≤ x2 then mj_gd (0 = 0 ∨ 0 = 1) (some (w, f, some (.inl 0))) else mj_run yZ_goesBeyond w f 21 [.inr (.inl z), .inl x1, .inl x2, .inl 0, u4] [] := by
  refine ms_iload_n (k := 2) (p' := 12) (by decide +kernel) rfl rfl ?_
  refine ms_aload_n (k := 0) (p' := 13) (by decide +kernel) rfl rfl ?_
  refine ms_geti (idx := 15) (ci := 7) (k := 1) (q := 360) (p' := 16) (by decide +kernel) rfl (zn_k hz hw) ?_
  refine ms_icmp_ge (off := 54) (t := 70) (p' := 19) (by decide +kernel) rfl (fun hc => ?_) (fun hc => ?_)
  · refine ms_iconst (n := 0) (v := 0) (p' := 71) (by decide +kernel) rfl ?_
    exact ms_zret (by decide +kernel)
  · refine ms_iconst (n := 0) (v := 0) (p' := 20) (by decide +kernel) rfl ?_
    refine ms_istore_n (k := 3) (ls' := [.inr (.inl z), .inl x1, .inl x2, .inl 0, u4]) (p' := 21) (by decide +kernel) rfl (Nat.le_of_ble_eq_true rfl) rfl ?_
    rfl
theorem l_Z_goesBeyond_21 {sw : Bool} {w : mj_W} (hw : wk sw w) (f : mj_F) (z : Nat) (x1 : Int) (x2 : Int) (x3 : Int) (u4 : mj_V) (hz : zn z = true) : mj_run yZ_goesBeyond w f 21 [.inr (.inl z), .inl x1, .inl x2, .inl x3, u4] [] = if (f z 1) ≤ x3 then mj_run yZ_goesBeyond w f 11 [.inr (.inl z), .inl x1, .inl (mj_w (x2 + 1)), .inl x3, u4] [] else mj_bi (mj_call yZ_cell w f [.inr (.inl z), .inl x2, .inl x3]) (fun f1 v2 => if 268435456 ≤ v2 then mj_run yZ_goesBeyond w f1 21 [.inr (.inl z), .inl x1, .inl x2, .inl (mj_w (x3 + 1)), .inl v2] [] else mj_bi (mj_call yX_numberOf w f1 [.inl v2]) (fun f3 v4 => if (if 0 ≤ v4 then v4 else mj_w (0 - v4)) ≤ x1 then mj_run yZ_goesBeyond w f3 21 [.inr (.inl z), .inl x1, .inl x2, .inl (mj_w (x3 + 1)), .inl v2] [] else mj_gd (1 = 0 ∨ 1 = 1) (some (w, f3, some (.inl 1))))) := by
  refine ms_iload_n (k := 3) (p' := 22) (by decide +kernel) rfl rfl ?_
  refine ms_aload_n (k := 0) (p' := 23) (by decide +kernel) rfl rfl ?_
  refine ms_geti (idx := 15) (ci := 7) (k := 1) (q := 360) (p' := 26) (by decide +kernel) rfl (zn_k hz hw) ?_
  refine ms_icmp_ge (off := 38) (t := 64) (p' := 29) (by decide +kernel) rfl (fun hc => ?_) (fun hc => ?_)
  · refine ms_iinc (k := 2) (n := 1) (ls' := [.inr (.inl z), .inl x1, .inl (mj_w (x2 + 1)), .inl x3, u4]) (p' := 67) (by decide +kernel) rfl rfl rfl ?_
    refine ms_goto (off := (-56)) (p' := 11) (by decide +kernel) ?_
    rfl
  · refine ms_aload_n (k := 0) (p' := 30) (by decide +kernel) rfl rfl ?_
    refine ms_iload_n (k := 2) (p' := 31) (by decide +kernel) rfl rfl ?_
    refine ms_iload_n (k := 3) (p' := 32) (by decide +kernel) rfl rfl ?_
    refine ms_virt_i (idx := 29) (cy := yZ_cell) (n := 2) (a := z) (as := [.inl x2, .inl x3]) (rest := []) (p' := 35) (by decide +kernel) rfl rfl rfl rfl (zn_k hz hw) rfl (fun f1 v2 => ?_)
    refine ms_istore (k := 4) (ls' := [.inr (.inl z), .inl x1, .inl x2, .inl x3, .inl v2]) (p' := 37) (by decide +kernel) rfl (Nat.le_of_ble_eq_true rfl) rfl ?_
    refine ms_iload (k := 4) (p' := 39) (by decide +kernel) rfl rfl ?_
    refine ms_ldc (idx := 74) (v := 268435456) (p' := 41) (by decide +kernel) rfl ?_
    refine ms_icmp_ge (off := 17) (t := 58) (p' := 44) (by decide +kernel) rfl (fun hc => ?_) (fun hc => ?_)
    · refine ms_iinc (k := 3) (n := 1) (ls' := [.inr (.inl z), .inl x1, .inl x2, .inl (mj_w (x3 + 1)), .inl v2]) (p' := 61) (by decide +kernel) rfl rfl rfl ?_
      refine ms_goto (off := (-40)) (p' := 21) (by decide +kernel) ?_
      rfl
    · refine ms_iload (k := 4) (p' := 46) (by decide +kernel) rfl rfl ?_
      refine ms_stat_i (idx := 33) (cy := yX_numberOf) (n := 1) (as := [.inl v2]) (rest := []) (p' := 49) (by decide +kernel) rfl rfl rfl rfl rfl (fun f3 v4 => ?_)
      refine ms_abs (idx := 156) (x := 0) (q := 849) (p' := 52) (by decide +kernel) rfl rfl ?_
      refine ms_iload_n (k := 1) (p' := 53) (by decide +kernel) rfl rfl ?_
      refine ms_icmp_le (off := 5) (t := 58) (p' := 56) (by decide +kernel) rfl (fun hc => ?_) (fun hc => ?_)
      · refine ms_iinc (k := 3) (n := 1) (ls' := [.inr (.inl z), .inl x1, .inl x2, .inl (mj_w (x3 + 1)), .inl v2]) (p' := 61) (by decide +kernel) rfl rfl rfl ?_
        refine ms_goto (off := (-40)) (p' := 21) (by decide +kernel) ?_
        rfl
      · refine ms_iconst (n := 1) (v := 1) (p' := 57) (by decide +kernel) rfl ?_
        exact ms_zret (by decide +kernel)
theorem c_Z_relate {sw : Bool} {w : mj_W} (hw : wk sw w) (f : mj_F) (z : Nat) (x1 : Int) (x2 : Int) (x3 : Int) (x4 : Int) (hz : zn z = true) : mj_call yZ_relate w f [.inr (.inl z), .inl x1, .inl x2, .inl x3, .inl x4] = mj_bi (mj_call yX_upperOf w f [.inl x3, .inl x4]) (fun f1 v2 => mj_bu (mj_call yZ_tighten w f1 [.inr (.inl z), .inl x1, .inl x2, .inl v2]) (fun f3 => mj_bi (mj_call yX_lowerOf w f3 [.inl x3, .inl x4]) (fun f4 v5 => mj_bu (mj_call yZ_tighten w f4 [.inr (.inl z), .inl x2, .inl x1, .inl v5]) (fun f6 => some (w, f6, none))))) := by
  show mj_run yZ_relate w f 0 [.inr (.inl z), .inl x1, .inl x2, .inl x3, .inl x4] [] = _
  refine ms_aload_n (k := 0) (p' := 1) (by decide +kernel) rfl rfl ?_
  refine ms_iload_n (k := 1) (p' := 2) (by decide +kernel) rfl rfl ?_
  refine ms_iload_n (k := 2) (p' := 3) (by decide +kernel) rfl rfl ?_
  refine ms_iload_n (k := 3) (p' := 4) (by decide +kernel) rfl rfl ?_
  refine ms_iload (k := 4) (p' := 6) (by decide +kernel) rfl rfl ?_
  refine ms_stat_i (idx := 62) (cy := yX_upperOf) (n := 2) (as := [.inl x3, .inl x4]) (rest := [.inl x2, .inl x1, .inr (.inl z)]) (p' := 9) (by decide +kernel) rfl rfl rfl rfl rfl (fun f1 v2 => ?_)
  refine ms_virt_u (idx := 65) (cy := yZ_tighten) (n := 3) (a := z) (as := [.inl x1, .inl x2, .inl v2]) (rest := []) (p' := 12) (by decide +kernel) rfl rfl rfl rfl (zn_k hz hw) rfl (fun f3 => ?_)
  refine ms_aload_n (k := 0) (p' := 13) (by decide +kernel) rfl rfl ?_
  refine ms_iload_n (k := 2) (p' := 14) (by decide +kernel) rfl rfl ?_
  refine ms_iload_n (k := 1) (p' := 15) (by decide +kernel) rfl rfl ?_
  refine ms_iload_n (k := 3) (p' := 16) (by decide +kernel) rfl rfl ?_
  refine ms_iload (k := 4) (p' := 18) (by decide +kernel) rfl rfl ?_
  refine ms_stat_i (idx := 68) (cy := yX_lowerOf) (n := 2) (as := [.inl x3, .inl x4]) (rest := [.inl x1, .inl x2, .inr (.inl z)]) (p' := 21) (by decide +kernel) rfl rfl rfl rfl rfl (fun f4 v5 => ?_)
  refine ms_virt_u (idx := 65) (cy := yZ_tighten) (n := 3) (a := z) (as := [.inl x2, .inl x1, .inl v5]) (rest := []) (p' := 24) (by decide +kernel) rfl rfl rfl rfl (zn_k hz hw) rfl (fun f6 => ?_)
  exact ms_vret (by decide +kernel)
theorem c_Z_goDown {sw : Bool} {w : mj_W} (hw : wk sw w) (f : mj_F) (z : Nat) (hz : zn z = true) : mj_call yZ_goDown w f [.inr (.inl z)] = mj_run yZ_goDown w f 2 [.inr (.inl z), .inl 1, .inr (.inr (.inr 0)), .inr (.inr (.inr 0))] [] := by
  show mj_run yZ_goDown w f 0 [.inr (.inl z), .inr (.inr (.inr 0)), .inr (.inr (.inr 0)), .inr (.inr (.inr 0))] [] = _
  refine ms_iconst (n := 1) (v := 1) (p' := 1) (by decide +kernel) rfl ?_
  refine ms_istore_n (k := 1) (ls' := [.inr (.inl z), .inl 1, .inr (.inr (.inr 0)), .inr (.inr (.inr 0))]) (p' := 2) (by decide +kernel) rfl (Nat.le_of_ble_eq_true rfl) rfl ?_
  rfl
theorem l_Z_goDown_2 {sw : Bool} {w : mj_W} (hw : wk sw w) (f : mj_F) (z : Nat) (x1 : Int) (u2 : mj_V) (u3 : mj_V) (hz : zn z = true) : mj_run yZ_goDown w f 2 [.inr (.inl z), .inl x1, u2, u3] [] = if (f z 1) ≤ x1 then some (w, f, none) else mj_run yZ_goDown w f 14 [.inr (.inl z), .inl x1, .inl 1, .inl 1] [] := by
  refine ms_iload_n (k := 1) (p' := 3) (by decide +kernel) rfl rfl ?_
  refine ms_aload_n (k := 0) (p' := 4) (by decide +kernel) rfl rfl ?_
  refine ms_geti (idx := 15) (ci := 7) (k := 1) (q := 360) (p' := 7) (by decide +kernel) rfl (zn_k hz hw) ?_
  refine ms_icmp_ge (off := 45) (t := 52) (p' := 10) (by decide +kernel) rfl (fun hc => ?_) (fun hc => ?_)
  · exact ms_vret (by decide +kernel)
  · refine ms_iconst (n := 1) (v := 1) (p' := 11) (by decide +kernel) rfl ?_
    refine ms_istore_n (k := 2) (ls' := [.inr (.inl z), .inl x1, .inl 1, u3]) (p' := 12) (by decide +kernel) rfl (Nat.le_of_ble_eq_true rfl) rfl ?_
    refine ms_iconst (n := 1) (v := 1) (p' := 13) (by decide +kernel) rfl ?_
    refine ms_istore_n (k := 3) (ls' := [.inr (.inl z), .inl x1, .inl 1, .inl 1]) (p' := 14) (by decide +kernel) rfl (Nat.le_of_ble_eq_true rfl) rfl ?_
    rfl
theorem l_Z_goDown_14 {sw : Bool} {w : mj_W} (hw : wk sw w) (f : mj_F) (z : Nat) (x1 : Int) (x2 : Int) (x3 : Int) (hz : zn z = true) : mj_run yZ_goDown w f 14 [.inr (.inl z), .inl x1, .inl x2, .inl x3] [] = if (f z 1) ≤ x3 then mj_bu (mj_call yZ_put w f [.inr (.inl z), .inl 0, .inl x1, .inl x2]) (fun f1 => mj_run yZ_goDown w f1 2 [.inr (.inl z), .inl (mj_w (x1 + 1)), .inl x2, .inl x3] []) else mj_bi (mj_call yZ_cell w f [.inr (.inl z), .inl x3, .inl x1]) (fun f2 v3 => mj_run yZ_goDown w f2 14 [.inr (.inl z), .inl x1, .inl (if v3 < x2 then v3 else x2), .inl (mj_w (x3 + 1))] []) := by
  refine ms_iload_n (k := 3) (p' := 15) (by decide +kernel) rfl rfl ?_
  refine ms_aload_n (k := 0) (p' := 16) (by decide +kernel) rfl rfl ?_
  refine ms_geti (idx := 15) (ci := 7) (k := 1) (q := 360) (p' := 19) (by decide +kernel) rfl (zn_k hz hw) ?_
  refine ms_icmp_ge (off := 20) (t := 39) (p' := 22) (by decide +kernel) rfl (fun hc => ?_) (fun hc => ?_)
  · refine ms_aload_n (k := 0) (p' := 40) (by decide +kernel) rfl rfl ?_
    refine ms_iconst (n := 0) (v := 0) (p' := 41) (by decide +kernel) rfl ?_
    refine ms_iload_n (k := 1) (p' := 42) (by decide +kernel) rfl rfl ?_
    refine ms_iload_n (k := 2) (p' := 43) (by decide +kernel) rfl rfl ?_
    refine ms_virt_u (idx := 54) (cy := yZ_put) (n := 3) (a := z) (as := [.inl 0, .inl x1, .inl x2]) (rest := []) (p' := 46) (by decide +kernel) rfl rfl rfl rfl (zn_k hz hw) rfl (fun f1 => ?_)
    refine ms_iinc (k := 1) (n := 1) (ls' := [.inr (.inl z), .inl (mj_w (x1 + 1)), .inl x2, .inl x3]) (p' := 49) (by decide +kernel) rfl rfl rfl ?_
    refine ms_goto (off := (-47)) (p' := 2) (by decide +kernel) ?_
    rfl
  · refine ms_iload_n (k := 2) (p' := 23) (by decide +kernel) rfl rfl ?_
    refine ms_aload_n (k := 0) (p' := 24) (by decide +kernel) rfl rfl ?_
    refine ms_iload_n (k := 3) (p' := 25) (by decide +kernel) rfl rfl ?_
    refine ms_iload_n (k := 1) (p' := 26) (by decide +kernel) rfl rfl ?_
    refine ms_virt_i (idx := 29) (cy := yZ_cell) (n := 2) (a := z) (as := [.inl x3, .inl x1]) (rest := [.inl x2]) (p' := 29) (by decide +kernel) rfl rfl rfl rfl (zn_k hz hw) rfl (fun f2 v3 => ?_)
    refine ms_math2 (idx := 75) (k := 13) (x := 0) (q := 725) (v := (if v3 < x2 then v3 else x2)) (p' := 32) (by decide +kernel) (Or.inr ⟨rfl, rfl⟩) rfl rfl ?_
    refine ms_istore_n (k := 2) (ls' := [.inr (.inl z), .inl x1, .inl (if v3 < x2 then v3 else x2), .inl x3]) (p' := 33) (by decide +kernel) rfl (Nat.le_of_ble_eq_true rfl) rfl ?_
    refine ms_iinc (k := 3) (n := 1) (ls' := [.inr (.inl z), .inl x1, .inl (if v3 < x2 then v3 else x2), .inl (mj_w (x3 + 1))]) (p' := 36) (by decide +kernel) rfl rfl rfl ?_
    refine ms_goto (off := (-22)) (p' := 14) (by decide +kernel) ?_
    rfl
theorem c_Z_widenTo {sw : Bool} {w : mj_W} (hw : wk sw w) (f : mj_F) (z : Nat) (z1 : Nat) (hz : zn z = true) (hz1 : zn z1 = true) : mj_call yZ_widenTo w f [.inr (.inl z), .inr (.inl z1)] = if (f z1 2) = 0 then if (f z 2) = 0 then mj_run yZ_widenTo w f 23 [.inr (.inl z), .inr (.inl z1), .inl 0] [] else mj_bu (mj_call yZ_become w f [.inr (.inl z), .inr (.inl z1)]) (fun f1 => some (w, f1, none)) else some (w, f, none) := by
  show mj_run yZ_widenTo w f 0 [.inr (.inl z), .inr (.inl z1), .inr (.inr (.inr 0))] [] = _
  refine ms_aload_n (k := 1) (p' := 1) (by decide +kernel) rfl rfl ?_
  refine ms_geti (idx := 19) (ci := 7) (k := 2) (q := 362) (p' := 4) (by decide +kernel) rfl (zn_k hz1 hw) ?_
  refine ms_if_eq (off := 4) (t := 8) (p' := 7) (by decide +kernel) rfl (fun hc => ?_) (fun hc => ?_)
  · refine ms_aload_n (k := 0) (p' := 9) (by decide +kernel) rfl rfl ?_
    refine ms_geti (idx := 19) (ci := 7) (k := 2) (q := 362) (p' := 12) (by decide +kernel) rfl (zn_k hz hw) ?_
    refine ms_if_eq (off := 9) (t := 21) (p' := 15) (by decide +kernel) rfl (fun hc => ?_) (fun hc => ?_)
    · refine ms_iconst (n := 0) (v := 0) (p' := 22) (by decide +kernel) rfl ?_
      refine ms_istore_n (k := 2) (ls' := [.inr (.inl z), .inr (.inl z1), .inl 0]) (p' := 23) (by decide +kernel) rfl (Nat.le_of_ble_eq_true rfl) rfl ?_
      rfl
    · refine ms_aload_n (k := 0) (p' := 16) (by decide +kernel) rfl rfl ?_
      refine ms_aload_n (k := 1) (p' := 17) (by decide +kernel) rfl rfl ?_
      refine ms_virt_u (idx := 50) (cy := yZ_become) (n := 1) (a := z) (as := [.inr (.inl z1)]) (rest := []) (p' := 20) (by decide +kernel) rfl rfl rfl rfl (zn_k hz hw) rfl (fun f1 => ?_)
      exact ms_vret (by decide +kernel)
  · exact ms_vret (by decide +kernel)
theorem l_Z_widenTo_23 {sw : Bool} {w : mj_W} (hw : wk sw w) (f : mj_F) (z : Nat) (z1 : Nat) (x2 : Int) (hz : zn z = true) (hz1 : zn z1 = true) : mj_run yZ_widenTo w f 23 [.inr (.inl z), .inr (.inl z1), .inl x2] [] = if ((36 : Nat) : Int) ≤ x2 then some (w, f, none) else mj_gd (0 ≤ x2 ∧ x2 < ((36 : Nat) : Int)) (mj_gd (0 ≤ x2 ∧ x2 < ((36 : Nat) : Int)) (mj_gd (0 ≤ x2 ∧ x2 < ((36 : Nat) : Int)) (mj_run yZ_widenTo w (mj_u f (z + 1) x2.toNat (if (f (z + 1) x2.toNat) < (f (z1 + 1) x2.toNat) then (f (z1 + 1) x2.toNat) else (f (z + 1) x2.toNat))) 23 [.inr (.inl z), .inr (.inl z1), .inl (mj_w (x2 + 1))] []))) := by
  refine ms_iload_n (k := 2) (p' := 24) (by decide +kernel) rfl rfl ?_
  refine ms_aload_n (k := 0) (p' := 25) (by decide +kernel) rfl rfl ?_
  refine ms_getr (idx := 9) (ci := 7) (k := 0) (q := 359) (p' := 28) (by decide +kernel) rfl (zn_k hz hw) (zn_r hz hw) (nz1 _) ?_
  refine ms_alen (p' := 29) (by decide +kernel) rfl (zn_c hz hw) (by decide) ?_
  refine ms_icmp_ge (off := 30) (t := 59) (p' := 32) (by decide +kernel) rfl (fun hc => ?_) (fun hc => ?_)
  · exact ms_vret (by decide +kernel)
  · refine ms_aload_n (k := 0) (p' := 33) (by decide +kernel) rfl rfl ?_
    refine ms_getr (idx := 9) (ci := 7) (k := 0) (q := 359) (p' := 36) (by decide +kernel) rfl (zn_k hz hw) (zn_r hz hw) (nz1 _) ?_
    refine ms_iload_n (k := 2) (p' := 37) (by decide +kernel) rfl rfl ?_
    refine ms_aload_n (k := 0) (p' := 38) (by decide +kernel) rfl rfl ?_
    refine ms_getr (idx := 9) (ci := 7) (k := 0) (q := 359) (p' := 41) (by decide +kernel) rfl (zn_k hz hw) (zn_r hz hw) (nz1 _) ?_
    refine ms_iload_n (k := 2) (p' := 42) (by decide +kernel) rfl rfl ?_
    refine ms_iald (p' := 43) (by decide +kernel) rfl (zn_c hz hw) (fun hj2 => ?_)
    refine ms_aload_n (k := 1) (p' := 44) (by decide +kernel) rfl rfl ?_
    refine ms_getr (idx := 9) (ci := 7) (k := 0) (q := 359) (p' := 47) (by decide +kernel) rfl (zn_k hz1 hw) (zn_r hz1 hw) (nz1 _) ?_
    refine ms_iload_n (k := 2) (p' := 48) (by decide +kernel) rfl rfl ?_
    refine ms_iald (p' := 49) (by decide +kernel) rfl (zn_c hz1 hw) (fun hj3 => ?_)
    refine ms_math2 (idx := 129) (k := 12) (x := 0) (q := 907) (v := (if (f (z + 1) x2.toNat) < (f (z1 + 1) x2.toNat) then (f (z1 + 1) x2.toNat) else (f (z + 1) x2.toNat))) (p' := 52) (by decide +kernel) (Or.inl ⟨rfl, rfl⟩) rfl rfl ?_
    refine ms_iast (p' := 53) (by decide +kernel) rfl (zn_c hz hw) (fun hj4 => ?_)
    refine ms_iinc (k := 2) (n := 1) (ls' := [.inr (.inl z), .inr (.inl z1), .inl (mj_w (x2 + 1))]) (p' := 56) (by decide +kernel) rfl rfl rfl ?_
    refine ms_goto (off := (-33)) (p' := 23) (by decide +kernel) ?_
    rfl
theorem c_Z_narrowTo {sw : Bool} {w : mj_W} (hw : wk sw w) (f : mj_F) (z : Nat) (z1 : Nat) (hz : zn z = true) (hz1 : zn z1 = true) : mj_call yZ_narrowTo w f [.inr (.inl z), .inr (.inl z1)] = if ¬ (f z 2) = 0 then mj_gd (1 = 0 ∨ 1 = 1) (some (w, (mj_u f z 2 1), none)) else if (f z1 2) = 0 then mj_run yZ_narrowTo w f 22 [.inr (.inl z), .inr (.inl z1), .inl 0] [] else mj_gd (1 = 0 ∨ 1 = 1) (some (w, (mj_u f z 2 1), none)) := by
  show mj_run yZ_narrowTo w f 0 [.inr (.inl z), .inr (.inl z1), .inr (.inr (.inr 0))] [] = _
  refine ms_aload_n (k := 0) (p' := 1) (by decide +kernel) rfl rfl ?_
  refine ms_geti (idx := 19) (ci := 7) (k := 2) (q := 362) (p' := 4) (by decide +kernel) rfl (zn_k hz hw) ?_
  refine ms_if_ne (off := 10) (t := 14) (p' := 7) (by decide +kernel) rfl (fun hc => ?_) (fun hc => ?_)
  · refine ms_aload_n (k := 0) (p' := 15) (by decide +kernel) rfl rfl ?_
    refine ms_iconst (n := 1) (v := 1) (p' := 16) (by decide +kernel) rfl ?_
    refine ms_putz (idx := 19) (ci := 7) (k := 2) (q := 362) (p' := 19) (by decide +kernel) rfl (zn_k hz hw) (fun hz_ => ?_)
    exact ms_vret (by decide +kernel)
  · refine ms_aload_n (k := 1) (p' := 8) (by decide +kernel) rfl rfl ?_
    refine ms_geti (idx := 19) (ci := 7) (k := 2) (q := 362) (p' := 11) (by decide +kernel) rfl (zn_k hz1 hw) ?_
    refine ms_if_eq (off := 9) (t := 20) (p' := 14) (by decide +kernel) rfl (fun hc => ?_) (fun hc => ?_)
    · refine ms_iconst (n := 0) (v := 0) (p' := 21) (by decide +kernel) rfl ?_
      refine ms_istore_n (k := 2) (ls' := [.inr (.inl z), .inr (.inl z1), .inl 0]) (p' := 22) (by decide +kernel) rfl (Nat.le_of_ble_eq_true rfl) rfl ?_
      rfl
    · refine ms_aload_n (k := 0) (p' := 15) (by decide +kernel) rfl rfl ?_
      refine ms_iconst (n := 1) (v := 1) (p' := 16) (by decide +kernel) rfl ?_
      refine ms_putz (idx := 19) (ci := 7) (k := 2) (q := 362) (p' := 19) (by decide +kernel) rfl (zn_k hz hw) (fun hz_ => ?_)
      exact ms_vret (by decide +kernel)
theorem l_Z_narrowTo_22 {sw : Bool} {w : mj_W} (hw : wk sw w) (f : mj_F) (z : Nat) (z1 : Nat) (x2 : Int) (hz : zn z = true) (hz1 : zn z1 = true) : mj_run yZ_narrowTo w f 22 [.inr (.inl z), .inr (.inl z1), .inl x2] [] = if ((36 : Nat) : Int) ≤ x2 then mj_bu (mj_call yZ_close w f [.inr (.inl z)]) (fun f1 => some (w, f1, none)) else mj_gd (0 ≤ x2 ∧ x2 < ((36 : Nat) : Int)) (mj_gd (0 ≤ x2 ∧ x2 < ((36 : Nat) : Int)) (mj_gd (0 ≤ x2 ∧ x2 < ((36 : Nat) : Int)) (mj_run yZ_narrowTo w (mj_u f (z + 1) x2.toNat (if (f (z1 + 1) x2.toNat) < (f (z + 1) x2.toNat) then (f (z1 + 1) x2.toNat) else (f (z + 1) x2.toNat))) 22 [.inr (.inl z), .inr (.inl z1), .inl (mj_w (x2 + 1))] []))) := by
  refine ms_iload_n (k := 2) (p' := 23) (by decide +kernel) rfl rfl ?_
  refine ms_aload_n (k := 0) (p' := 24) (by decide +kernel) rfl rfl ?_
  refine ms_getr (idx := 9) (ci := 7) (k := 0) (q := 359) (p' := 27) (by decide +kernel) rfl (zn_k hz hw) (zn_r hz hw) (nz1 _) ?_
  refine ms_alen (p' := 28) (by decide +kernel) rfl (zn_c hz hw) (by decide) ?_
  refine ms_icmp_ge (off := 30) (t := 58) (p' := 31) (by decide +kernel) rfl (fun hc => ?_) (fun hc => ?_)
  · refine ms_aload_n (k := 0) (p' := 59) (by decide +kernel) rfl rfl ?_
    refine ms_virt_u (idx := 132) (cy := yZ_close) (n := 0) (a := z) (as := []) (rest := []) (p' := 62) (by decide +kernel) rfl rfl rfl rfl (zn_k hz hw) rfl (fun f1 => ?_)
    exact ms_vret (by decide +kernel)
  · refine ms_aload_n (k := 0) (p' := 32) (by decide +kernel) rfl rfl ?_
    refine ms_getr (idx := 9) (ci := 7) (k := 0) (q := 359) (p' := 35) (by decide +kernel) rfl (zn_k hz hw) (zn_r hz hw) (nz1 _) ?_
    refine ms_iload_n (k := 2) (p' := 36) (by decide +kernel) rfl rfl ?_
    refine ms_aload_n (k := 0) (p' := 37) (by decide +kernel) rfl rfl ?_
    refine ms_getr (idx := 9) (ci := 7) (k := 0) (q := 359) (p' := 40) (by decide +kernel) rfl (zn_k hz hw) (zn_r hz hw) (nz1 _) ?_
    refine ms_iload_n (k := 2) (p' := 41) (by decide +kernel) rfl rfl ?_
    refine ms_iald (p' := 42) (by decide +kernel) rfl (zn_c hz hw) (fun hj2 => ?_)
    refine ms_aload_n (k := 1) (p' := 43) (by decide +kernel) rfl rfl ?_
    refine ms_getr (idx := 9) (ci := 7) (k := 0) (q := 359) (p' := 46) (by decide +kernel) rfl (zn_k hz1 hw) (zn_r hz1 hw) (nz1 _) ?_
    refine ms_iload_n (k := 2) (p' := 47) (by decide +kernel) rfl rfl ?_
    refine ms_iald (p' := 48) (by decide +kernel) rfl (zn_c hz1 hw) (fun hj3 => ?_)
    refine ms_math2 (idx := 75) (k := 13) (x := 0) (q := 725) (v := (if (f (z1 + 1) x2.toNat) < (f (z + 1) x2.toNat) then (f (z1 + 1) x2.toNat) else (f (z + 1) x2.toNat))) (p' := 51) (by decide +kernel) (Or.inr ⟨rfl, rfl⟩) rfl rfl ?_
    refine ms_iast (p' := 52) (by decide +kernel) rfl (zn_c hz hw) (fun hj4 => ?_)
    refine ms_iinc (k := 2) (n := 1) (ls' := [.inr (.inl z), .inr (.inl z1), .inl (mj_w (x2 + 1))]) (p' := 55) (by decide +kernel) rfl rfl rfl ?_
    refine ms_goto (off := (-33)) (p' := 22) (by decide +kernel) ?_
    rfl
theorem c_Z_holdsHalves {sw : Bool} {w : mj_W} (hw : wk sw w) (f : mj_F) (z : Nat) (r1 nr1 : Nat) (hz : zn z = true) (hr1 : w.1 r1 = (100, nr1)) : mj_call yZ_holdsHalves w f [.inr (.inl z), .inr (.inl r1)] = if (f z 2) = 0 then mj_run yZ_holdsHalves w f 11 [.inr (.inl z), .inr (.inl r1), .inl 0, .inr (.inr (.inr 0))] [] else mj_gd (0 = 0 ∨ 0 = 1) (some (w, f, some (.inl 0))) := by
  show mj_run yZ_holdsHalves w f 0 [.inr (.inl z), .inr (.inl r1), .inr (.inr (.inr 0)), .inr (.inr (.inr 0))] [] = _
  refine ms_aload_n (k := 0) (p' := 1) (by decide +kernel) rfl rfl ?_
  refine ms_geti (idx := 19) (ci := 7) (k := 2) (q := 362) (p' := 4) (by decide +kernel) rfl (zn_k hz hw) ?_
  refine ms_if_eq (off := 5) (t := 9) (p' := 7) (by decide +kernel) rfl (fun hc => ?_) (fun hc => ?_)
  · refine ms_iconst (n := 0) (v := 0) (p' := 10) (by decide +kernel) rfl ?_
    refine ms_istore_n (k := 2) (ls' := [.inr (.inl z), .inr (.inl r1), .inl 0, .inr (.inr (.inr 0))]) (p' := 11) (by decide +kernel) rfl (Nat.le_of_ble_eq_true rfl) rfl ?_
    rfl
  · refine ms_iconst (n := 0) (v := 0) (p' := 8) (by decide +kernel) rfl ?_
    exact ms_zret (by decide +kernel)
theorem l_Z_holdsHalves_11 {sw : Bool} {w : mj_W} (hw : wk sw w) (f : mj_F) (z : Nat) (r1 nr1 : Nat) (x2 : Int) (u3 : mj_V) (hz : zn z = true) (hr1 : w.1 r1 = (100, nr1)) : mj_run yZ_holdsHalves w f 11 [.inr (.inl z), .inr (.inl r1), .inl x2, u3] [] = if (f z 1) ≤ x2 then mj_gd (1 = 0 ∨ 1 = 1) (some (w, f, some (.inl 1))) else mj_run yZ_holdsHalves w f 21 [.inr (.inl z), .inr (.inl r1), .inl x2, .inl 0] [] := by
  refine ms_iload_n (k := 2) (p' := 12) (by decide +kernel) rfl rfl ?_
  refine ms_aload_n (k := 0) (p' := 13) (by decide +kernel) rfl rfl ?_
  refine ms_geti (idx := 15) (ci := 7) (k := 1) (q := 360) (p' := 16) (by decide +kernel) rfl (zn_k hz hw) ?_
  refine ms_icmp_ge (off := 54) (t := 70) (p' := 19) (by decide +kernel) rfl (fun hc => ?_) (fun hc => ?_)
  · refine ms_iconst (n := 1) (v := 1) (p' := 71) (by decide +kernel) rfl ?_
    exact ms_zret (by decide +kernel)
  · refine ms_iconst (n := 0) (v := 0) (p' := 20) (by decide +kernel) rfl ?_
    refine ms_istore_n (k := 3) (ls' := [.inr (.inl z), .inr (.inl r1), .inl x2, .inl 0]) (p' := 21) (by decide +kernel) rfl (Nat.le_of_ble_eq_true rfl) rfl ?_
    rfl
theorem l_Z_holdsHalves_21 {sw : Bool} {w : mj_W} (hw : wk sw w) (f : mj_F) (z : Nat) (r1 nr1 : Nat) (x2 : Int) (x3 : Int) (hz : zn z = true) (hr1 : w.1 r1 = (100, nr1)) : mj_run yZ_holdsHalves w f 21 [.inr (.inl z), .inr (.inl r1), .inl x2, .inl x3] [] = if (f z 1) ≤ x3 then mj_run yZ_holdsHalves w f 11 [.inr (.inl z), .inr (.inl r1), .inl (mj_w (x2 + 1)), .inl x3] [] else mj_bi (mj_call yZ_cell w f [.inr (.inl z), .inl x2, .inl x3]) (fun f1 v2 => if 268435456 ≤ v2 then mj_run yZ_holdsHalves w f1 21 [.inr (.inl z), .inr (.inl r1), .inl x2, .inl (mj_w (x3 + 1))] [] else mj_gd (0 ≤ x2 ∧ x2 < ((nr1 : Nat) : Int)) (mj_gd (0 ≤ x3 ∧ x3 < ((nr1 : Nat) : Int)) (mj_bi (mj_call yZ_cell w f1 [.inr (.inl z), .inl x2, .inl x3]) (fun f5 v6 => if (mj_w ((f1 r1 x2.toNat) - (f1 r1 x3.toNat))) < v6 then mj_run yZ_holdsHalves w f5 21 [.inr (.inl z), .inr (.inl r1), .inl x2, .inl (mj_w (x3 + 1))] [] else mj_gd (0 = 0 ∨ 0 = 1) (some (w, f5, some (.inl 0))))))) := by
  refine ms_iload_n (k := 3) (p' := 22) (by decide +kernel) rfl rfl ?_
  refine ms_aload_n (k := 0) (p' := 23) (by decide +kernel) rfl rfl ?_
  refine ms_geti (idx := 15) (ci := 7) (k := 1) (q := 360) (p' := 26) (by decide +kernel) rfl (zn_k hz hw) ?_
  refine ms_icmp_ge (off := 38) (t := 64) (p' := 29) (by decide +kernel) rfl (fun hc => ?_) (fun hc => ?_)
  · refine ms_iinc (k := 2) (n := 1) (ls' := [.inr (.inl z), .inr (.inl r1), .inl (mj_w (x2 + 1)), .inl x3]) (p' := 67) (by decide +kernel) rfl rfl rfl ?_
    refine ms_goto (off := (-56)) (p' := 11) (by decide +kernel) ?_
    rfl
  · refine ms_aload_n (k := 0) (p' := 30) (by decide +kernel) rfl rfl ?_
    refine ms_iload_n (k := 2) (p' := 31) (by decide +kernel) rfl rfl ?_
    refine ms_iload_n (k := 3) (p' := 32) (by decide +kernel) rfl rfl ?_
    refine ms_virt_i (idx := 29) (cy := yZ_cell) (n := 2) (a := z) (as := [.inl x2, .inl x3]) (rest := []) (p' := 35) (by decide +kernel) rfl rfl rfl rfl (zn_k hz hw) rfl (fun f1 v2 => ?_)
    refine ms_ldc (idx := 74) (v := 268435456) (p' := 37) (by decide +kernel) rfl ?_
    refine ms_icmp_ge (off := 21) (t := 58) (p' := 40) (by decide +kernel) rfl (fun hc => ?_) (fun hc => ?_)
    · refine ms_iinc (k := 3) (n := 1) (ls' := [.inr (.inl z), .inr (.inl r1), .inl x2, .inl (mj_w (x3 + 1))]) (p' := 61) (by decide +kernel) rfl rfl rfl ?_
      refine ms_goto (off := (-40)) (p' := 21) (by decide +kernel) ?_
      rfl
    · refine ms_aload_n (k := 1) (p' := 41) (by decide +kernel) rfl rfl ?_
      refine ms_iload_n (k := 2) (p' := 42) (by decide +kernel) rfl rfl ?_
      refine ms_iald (p' := 43) (by decide +kernel) rfl hr1 (fun hj3 => ?_)
      refine ms_aload_n (k := 1) (p' := 44) (by decide +kernel) rfl rfl ?_
      refine ms_iload_n (k := 3) (p' := 45) (by decide +kernel) rfl rfl ?_
      refine ms_iald (p' := 46) (by decide +kernel) rfl hr1 (fun hj4 => ?_)
      refine ms_isub (p' := 47) (by decide +kernel) rfl ?_
      refine ms_aload_n (k := 0) (p' := 48) (by decide +kernel) rfl rfl ?_
      refine ms_iload_n (k := 2) (p' := 49) (by decide +kernel) rfl rfl ?_
      refine ms_iload_n (k := 3) (p' := 50) (by decide +kernel) rfl rfl ?_
      refine ms_virt_i (idx := 29) (cy := yZ_cell) (n := 2) (a := z) (as := [.inl x2, .inl x3]) (rest := [.inl (mj_w ((f1 r1 x2.toNat) - (f1 r1 x3.toNat)))]) (p' := 53) (by decide +kernel) rfl rfl rfl rfl (zn_k hz hw) rfl (fun f5 v6 => ?_)
      refine ms_icmp_lt (off := 5) (t := 58) (p' := 56) (by decide +kernel) rfl (fun hc => ?_) (fun hc => ?_)
      · refine ms_iinc (k := 3) (n := 1) (ls' := [.inr (.inl z), .inr (.inl r1), .inl x2, .inl (mj_w (x3 + 1))]) (p' := 61) (by decide +kernel) rfl rfl rfl ?_
        refine ms_goto (off := (-40)) (p' := 21) (by decide +kernel) ?_
        rfl
      · refine ms_iconst (n := 0) (v := 0) (p' := 57) (by decide +kernel) rfl ?_
        exact ms_zret (by decide +kernel)
theorem c_Z_followsFromOthers {sw : Bool} {w : mj_W} (hw : wk sw w) (f : mj_F) (z : Nat) (x1 : Int) (x2 : Int) (hz : zn z = true) : mj_call yZ_followsFromOthers w f [.inr (.inl z), .inl x1, .inl x2] = mj_run yZ_followsFromOthers w f 2 [.inr (.inl z), .inl x1, .inl x2, .inl 0] [] := by
  show mj_run yZ_followsFromOthers w f 0 [.inr (.inl z), .inl x1, .inl x2, .inr (.inr (.inr 0))] [] = _
  refine ms_iconst (n := 0) (v := 0) (p' := 1) (by decide +kernel) rfl ?_
  refine ms_istore_n (k := 3) (ls' := [.inr (.inl z), .inl x1, .inl x2, .inl 0]) (p' := 2) (by decide +kernel) rfl (Nat.le_of_ble_eq_true rfl) rfl ?_
  rfl
theorem l_Z_followsFromOthers_2 {sw : Bool} {w : mj_W} (hw : wk sw w) (f : mj_F) (z : Nat) (x1 : Int) (x2 : Int) (x3 : Int) (hz : zn z = true) : mj_run yZ_followsFromOthers w f 2 [.inr (.inl z), .inl x1, .inl x2, .inl x3] [] = if (f z 1) ≤ x3 then mj_gd (0 = 0 ∨ 0 = 1) (some (w, f, some (.inl 0))) else if x3 = x1 then mj_run yZ_followsFromOthers w f 2 [.inr (.inl z), .inl x1, .inl x2, .inl (mj_w (x3 + 1))] [] else if x3 = x2 then mj_run yZ_followsFromOthers w f 2 [.inr (.inl z), .inl x1, .inl x2, .inl (mj_w (x3 + 1))] [] else mj_bi (mj_call yZ_cell w f [.inr (.inl z), .inl x1, .inl x3]) (fun f1 v2 => mj_bi (mj_call yZ_cell w f1 [.inr (.inl z), .inl x3, .inl x2]) (fun f3 v4 => mj_bi (mj_call yX_sumOf w f3 [.inl v2, .inl v4]) (fun f5 v6 => mj_bi (mj_call yZ_cell w f5 [.inr (.inl z), .inl x1, .inl x2]) (fun f7 v8 => if v8 < v6 then mj_run yZ_followsFromOthers w f7 2 [.inr (.inl z), .inl x1, .inl x2, .inl (mj_w (x3 + 1))] [] else mj_gd (1 = 0 ∨ 1 = 1) (some (w, f7, some (.inl 1))))))) := by
  refine ms_iload_n (k := 3) (p' := 3) (by decide +kernel) rfl rfl ?_
  refine ms_aload_n (k := 0) (p' := 4) (by decide +kernel) rfl rfl ?_
  refine ms_geti (idx := 15) (ci := 7) (k := 1) (q := 360) (p' := 7) (by decide +kernel) rfl (zn_k hz hw) ?_
  refine ms_icmp_ge (off := 45) (t := 52) (p' := 10) (by decide +kernel) rfl (fun hc => ?_) (fun hc => ?_)
  · refine ms_iconst (n := 0) (v := 0) (p' := 53) (by decide +kernel) rfl ?_
    exact ms_zret (by decide +kernel)
  · refine ms_iload_n (k := 3) (p' := 11) (by decide +kernel) rfl rfl ?_
    refine ms_iload_n (k := 1) (p' := 12) (by decide +kernel) rfl rfl ?_
    refine ms_icmp_eq (off := 34) (t := 46) (p' := 15) (by decide +kernel) rfl (fun hc => ?_) (fun hc => ?_)
    · refine ms_iinc (k := 3) (n := 1) (ls' := [.inr (.inl z), .inl x1, .inl x2, .inl (mj_w (x3 + 1))]) (p' := 49) (by decide +kernel) rfl rfl rfl ?_
      refine ms_goto (off := (-47)) (p' := 2) (by decide +kernel) ?_
      rfl
    · refine ms_iload_n (k := 3) (p' := 16) (by decide +kernel) rfl rfl ?_
      refine ms_iload_n (k := 2) (p' := 17) (by decide +kernel) rfl rfl ?_
      refine ms_icmp_eq (off := 29) (t := 46) (p' := 20) (by decide +kernel) rfl (fun hc => ?_) (fun hc => ?_)
      · refine ms_iinc (k := 3) (n := 1) (ls' := [.inr (.inl z), .inl x1, .inl x2, .inl (mj_w (x3 + 1))]) (p' := 49) (by decide +kernel) rfl rfl rfl ?_
        refine ms_goto (off := (-47)) (p' := 2) (by decide +kernel) ?_
        rfl
      · refine ms_aload_n (k := 0) (p' := 21) (by decide +kernel) rfl rfl ?_
        refine ms_iload_n (k := 1) (p' := 22) (by decide +kernel) rfl rfl ?_
        refine ms_iload_n (k := 3) (p' := 23) (by decide +kernel) rfl rfl ?_
        refine ms_virt_i (idx := 29) (cy := yZ_cell) (n := 2) (a := z) (as := [.inl x1, .inl x3]) (rest := []) (p' := 26) (by decide +kernel) rfl rfl rfl rfl (zn_k hz hw) rfl (fun f1 v2 => ?_)
        refine ms_aload_n (k := 0) (p' := 27) (by decide +kernel) rfl rfl ?_
        refine ms_iload_n (k := 3) (p' := 28) (by decide +kernel) rfl rfl ?_
        refine ms_iload_n (k := 2) (p' := 29) (by decide +kernel) rfl rfl ?_
        refine ms_virt_i (idx := 29) (cy := yZ_cell) (n := 2) (a := z) (as := [.inl x3, .inl x2]) (rest := [.inl v2]) (p' := 32) (by decide +kernel) rfl rfl rfl rfl (zn_k hz hw) rfl (fun f3 v4 => ?_)
        refine ms_stat_i (idx := 71) (cy := yX_sumOf) (n := 2) (as := [.inl v2, .inl v4]) (rest := []) (p' := 35) (by decide +kernel) rfl rfl rfl rfl rfl (fun f5 v6 => ?_)
        refine ms_aload_n (k := 0) (p' := 36) (by decide +kernel) rfl rfl ?_
        refine ms_iload_n (k := 1) (p' := 37) (by decide +kernel) rfl rfl ?_
        refine ms_iload_n (k := 2) (p' := 38) (by decide +kernel) rfl rfl ?_
        refine ms_virt_i (idx := 29) (cy := yZ_cell) (n := 2) (a := z) (as := [.inl x1, .inl x2]) (rest := [.inl v6]) (p' := 41) (by decide +kernel) rfl rfl rfl rfl (zn_k hz hw) rfl (fun f7 v8 => ?_)
        refine ms_icmp_gt (off := 5) (t := 46) (p' := 44) (by decide +kernel) rfl (fun hc => ?_) (fun hc => ?_)
        · refine ms_iinc (k := 3) (n := 1) (ls' := [.inr (.inl z), .inl x1, .inl x2, .inl (mj_w (x3 + 1))]) (p' := 49) (by decide +kernel) rfl rfl rfl ?_
          refine ms_goto (off := (-47)) (p' := 2) (by decide +kernel) ?_
          rfl
        · refine ms_iconst (n := 1) (v := 1) (p' := 45) (by decide +kernel) rfl ?_
          exact ms_zret (by decide +kernel)
theorem c_Z_countsAsPair {sw : Bool} {w : mj_W} (hw : wk sw w) (f : mj_F) (z : Nat) (x1 : Int) (x2 : Int) (x3 : Int) (hz : zn z = true) : mj_call yZ_countsAsPair w f [.inr (.inl z), .inl x1, .inl x2, .inl x3] = mj_bi (mj_call yZ_cell w f [.inr (.inl z), .inl x1, .inl x2]) (fun f1 v2 => if v2 < 268435456 then if ¬ x3 = 0 then if ¬ x3 = 1 then mj_bi (mj_call yZ_followsFromOthers w f1 [.inr (.inl z), .inl x1, .inl x2]) (fun f3 v4 => if ¬ v4 = 0 then mj_gd (0 = 0 ∨ 0 = 1) (some (w, f3, some (.inl 0))) else mj_gd (1 = 0 ∨ 1 = 1) (some (w, f3, some (.inl 1)))) else mj_bi (mj_call yX_reachedOf w f1 [.inl v2]) (fun f5 v6 => if ¬ v6 = 1 then mj_gd (0 = 0 ∨ 0 = 1) (some (w, f5, some (.inl 0))) else mj_gd (1 = 0 ∨ 1 = 1) (some (w, f5, some (.inl 1)))) else mj_gd (1 = 0 ∨ 1 = 1) (some (w, f1, some (.inl 1))) else mj_gd (0 = 0 ∨ 0 = 1) (some (w, f1, some (.inl 0)))) := by
  show mj_run yZ_countsAsPair w f 0 [.inr (.inl z), .inl x1, .inl x2, .inl x3, .inr (.inr (.inr 0))] [] = _
  refine ms_aload_n (k := 0) (p' := 1) (by decide +kernel) rfl rfl ?_
  refine ms_iload_n (k := 1) (p' := 2) (by decide +kernel) rfl rfl ?_
  refine ms_iload_n (k := 2) (p' := 3) (by decide +kernel) rfl rfl ?_
  refine ms_virt_i (idx := 29) (cy := yZ_cell) (n := 2) (a := z) (as := [.inl x1, .inl x2]) (rest := []) (p' := 6) (by decide +kernel) rfl rfl rfl rfl (zn_k hz hw) rfl (fun f1 v2 => ?_)
  refine ms_istore (k := 4) (ls' := [.inr (.inl z), .inl x1, .inl x2, .inl x3, .inl v2]) (p' := 8) (by decide +kernel) rfl (Nat.le_of_ble_eq_true rfl) rfl ?_
  refine ms_iload (k := 4) (p' := 10) (by decide +kernel) rfl rfl ?_
  refine ms_ldc (idx := 74) (v := 268435456) (p' := 12) (by decide +kernel) rfl ?_
  refine ms_icmp_lt (off := 5) (t := 17) (p' := 15) (by decide +kernel) rfl (fun hc => ?_) (fun hc => ?_)
  · refine ms_iload_n (k := 3) (p' := 18) (by decide +kernel) rfl rfl ?_
    refine ms_if_ne (off := 5) (t := 23) (p' := 21) (by decide +kernel) rfl (fun hc => ?_) (fun hc => ?_)
    · refine ms_iload_n (k := 3) (p' := 24) (by decide +kernel) rfl rfl ?_
      refine ms_iconst (n := 1) (v := 1) (p' := 25) (by decide +kernel) rfl ?_
      refine ms_icmp_ne (off := 20) (t := 45) (p' := 28) (by decide +kernel) rfl (fun hc => ?_) (fun hc => ?_)
      · refine ms_aload_n (k := 0) (p' := 46) (by decide +kernel) rfl rfl ?_
        refine ms_iload_n (k := 1) (p' := 47) (by decide +kernel) rfl rfl ?_
        refine ms_iload_n (k := 2) (p' := 48) (by decide +kernel) rfl rfl ?_
        refine ms_virt_i (idx := 162) (cy := yZ_followsFromOthers) (n := 2) (a := z) (as := [.inl x1, .inl x2]) (rest := []) (p' := 51) (by decide +kernel) rfl rfl rfl rfl (zn_k hz hw) rfl (fun f3 v4 => ?_)
        refine ms_if_ne (off := 7) (t := 58) (p' := 54) (by decide +kernel) rfl (fun hc => ?_) (fun hc => ?_)
        · refine ms_iconst (n := 0) (v := 0) (p' := 59) (by decide +kernel) rfl ?_
          exact ms_zret (by decide +kernel)
        · refine ms_iconst (n := 1) (v := 1) (p' := 55) (by decide +kernel) rfl ?_
          refine ms_goto (off := 4) (p' := 59) (by decide +kernel) ?_
          exact ms_zret (by decide +kernel)
      · refine ms_iload (k := 4) (p' := 30) (by decide +kernel) rfl rfl ?_
        refine ms_stat_i (idx := 159) (cy := yX_reachedOf) (n := 1) (as := [.inl v2]) (rest := []) (p' := 33) (by decide +kernel) rfl rfl rfl rfl rfl (fun f5 v6 => ?_)
        refine ms_iconst (n := 1) (v := 1) (p' := 34) (by decide +kernel) rfl ?_
        refine ms_icmp_ne (off := 7) (t := 41) (p' := 37) (by decide +kernel) rfl (fun hc => ?_) (fun hc => ?_)
        · refine ms_iconst (n := 0) (v := 0) (p' := 42) (by decide +kernel) rfl ?_
          refine ms_goto (off := 17) (p' := 59) (by decide +kernel) ?_
          exact ms_zret (by decide +kernel)
        · refine ms_iconst (n := 1) (v := 1) (p' := 38) (by decide +kernel) rfl ?_
          refine ms_goto (off := 21) (p' := 59) (by decide +kernel) ?_
          exact ms_zret (by decide +kernel)
    · refine ms_iconst (n := 1) (v := 1) (p' := 22) (by decide +kernel) rfl ?_
      exact ms_zret (by decide +kernel)
  · refine ms_iconst (n := 0) (v := 0) (p' := 16) (by decide +kernel) rfl ?_
    exact ms_zret (by decide +kernel)
theorem c_Z_keepWhole {sw : Bool} {w : mj_W} (hw : wk sw w) (f : mj_F) (z : Nat) (hz : zn z = true) : mj_call yZ_keepWhole w f [.inr (.inl z)] = mj_run yZ_keepWhole w f 2 [.inr (.inl z), .inl 0] [] := by
  show mj_run yZ_keepWhole w f 0 [.inr (.inl z), .inr (.inr (.inr 0))] [] = _
  refine ms_iconst (n := 0) (v := 0) (p' := 1) (by decide +kernel) rfl ?_
  refine ms_istore_n (k := 1) (ls' := [.inr (.inl z), .inl 0]) (p' := 2) (by decide +kernel) rfl (Nat.le_of_ble_eq_true rfl) rfl ?_
  rfl
theorem l_Z_keepWhole_2 {sw : Bool} {w : mj_W} (hw : wk sw w) (f : mj_F) (z : Nat) (x1 : Int) (hz : zn z = true) : mj_run yZ_keepWhole w f 2 [.inr (.inl z), .inl x1] [] = if ((36 : Nat) : Int) ≤ x1 then mj_bu (mj_call yZ_close w f [.inr (.inl z)]) (fun f1 => some (w, f1, none)) else mj_gd (0 ≤ x1 ∧ x1 < ((36 : Nat) : Int)) (mj_bi (mj_call yX_wholeBound w f [.inl (f (z + 1) x1.toNat)]) (fun f3 v4 => mj_gd (0 ≤ x1 ∧ x1 < ((36 : Nat) : Int)) (mj_run yZ_keepWhole w (mj_u f3 (z + 1) x1.toNat v4) 2 [.inr (.inl z), .inl (mj_w (x1 + 1))] []))) := by
  refine ms_iload_n (k := 1) (p' := 3) (by decide +kernel) rfl rfl ?_
  refine ms_aload_n (k := 0) (p' := 4) (by decide +kernel) rfl rfl ?_
  refine ms_getr (idx := 9) (ci := 7) (k := 0) (q := 359) (p' := 7) (by decide +kernel) rfl (zn_k hz hw) (zn_r hz hw) (nz1 _) ?_
  refine ms_alen (p' := 8) (by decide +kernel) rfl (zn_c hz hw) (by decide) ?_
  refine ms_icmp_ge (off := 24) (t := 32) (p' := 11) (by decide +kernel) rfl (fun hc => ?_) (fun hc => ?_)
  · refine ms_aload_n (k := 0) (p' := 33) (by decide +kernel) rfl rfl ?_
    refine ms_virt_u (idx := 132) (cy := yZ_close) (n := 0) (a := z) (as := []) (rest := []) (p' := 36) (by decide +kernel) rfl rfl rfl rfl (zn_k hz hw) rfl (fun f1 => ?_)
    exact ms_vret (by decide +kernel)
  · refine ms_aload_n (k := 0) (p' := 12) (by decide +kernel) rfl rfl ?_
    refine ms_getr (idx := 9) (ci := 7) (k := 0) (q := 359) (p' := 15) (by decide +kernel) rfl (zn_k hz hw) (zn_r hz hw) (nz1 _) ?_
    refine ms_iload_n (k := 1) (p' := 16) (by decide +kernel) rfl rfl ?_
    refine ms_aload_n (k := 0) (p' := 17) (by decide +kernel) rfl rfl ?_
    refine ms_getr (idx := 9) (ci := 7) (k := 0) (q := 359) (p' := 20) (by decide +kernel) rfl (zn_k hz hw) (zn_r hz hw) (nz1 _) ?_
    refine ms_iload_n (k := 1) (p' := 21) (by decide +kernel) rfl rfl ?_
    refine ms_iald (p' := 22) (by decide +kernel) rfl (zn_c hz hw) (fun hj2 => ?_)
    refine ms_stat_i (idx := 149) (cy := yX_wholeBound) (n := 1) (as := [.inl (f (z + 1) x1.toNat)]) (rest := [.inl x1, .inr (.inl (z + 1))]) (p' := 25) (by decide +kernel) rfl rfl rfl rfl rfl (fun f3 v4 => ?_)
    refine ms_iast (p' := 26) (by decide +kernel) rfl (zn_c hz hw) (fun hj5 => ?_)
    refine ms_iinc (k := 1) (n := 1) (ls' := [.inr (.inl z), .inl (mj_w (x1 + 1))]) (p' := 29) (by decide +kernel) rfl rfl rfl ?_
    refine ms_goto (off := (-27)) (p' := 2) (by decide +kernel) ?_
    rfl
theorem c_Z_leastOf {sw : Bool} {w : mj_W} (hw : wk sw w) (f : mj_F) (z : Nat) (x1 : Int) (hz : zn z = true) : mj_call yZ_leastOf w f [.inr (.inl z), .inl x1] = mj_bi (mj_call yZ_cell w f [.inr (.inl z), .inl 0, .inl x1]) (fun f1 v2 => mj_bi (mj_call yX_numberOf w f1 [.inl v2]) (fun f3 v4 => some (w, f3, some (.inl (mj_w (-v4)))))) := by
  show mj_run yZ_leastOf w f 0 [.inr (.inl z), .inl x1] [] = _
  refine ms_aload_n (k := 0) (p' := 1) (by decide +kernel) rfl rfl ?_
  refine ms_iconst (n := 0) (v := 0) (p' := 2) (by decide +kernel) rfl ?_
  refine ms_iload_n (k := 1) (p' := 3) (by decide +kernel) rfl rfl ?_
  refine ms_virt_i (idx := 29) (cy := yZ_cell) (n := 2) (a := z) (as := [.inl 0, .inl x1]) (rest := []) (p' := 6) (by decide +kernel) rfl rfl rfl rfl (zn_k hz hw) rfl (fun f1 v2 => ?_)
  refine ms_stat_i (idx := 33) (cy := yX_numberOf) (n := 1) (as := [.inl v2]) (rest := []) (p' := 9) (by decide +kernel) rfl rfl rfl rfl rfl (fun f3 v4 => ?_)
  refine ms_ineg (p' := 10) (by decide +kernel) rfl ?_
  exact ms_iret (by decide +kernel)
theorem c_Z_stepBackBy {sw : Bool} {w : mj_W} (hw : wk sw w) (f : mj_F) (z : Nat) (p : Nat) (x2 : Int) (hz : zn z = true) (hp : pn p) : mj_call yZ_stepBackBy w f [.inr (.inl z), .inr (.inl p), .inl x2] = mj_gd (0 ≤ x2 ∧ x2 < ((16 : Nat) : Int)) (mj_bi (mj_call yX_stayRules w f [.inl (f (p + 9) x2.toNat)]) (fun f2 v3 => mj_bu (mj_call yZ_keepRules w f2 [.inr (.inl z), .inr (.inl p), .inl v3]) (fun f4 => mj_run yZ_stepBackBy w f4 16 [.inr (.inl z), .inr (.inl p), .inl x2, .inl 0, .inr (.inr (.inr 0))] []))) := by
  show mj_run yZ_stepBackBy w f 0 [.inr (.inl z), .inr (.inl p), .inl x2, .inr (.inr (.inr 0)), .inr (.inr (.inr 0))] [] = _
  refine ms_aload_n (k := 0) (p' := 1) (by decide +kernel) rfl rfl ?_
  refine ms_aload_n (k := 1) (p' := 2) (by decide +kernel) rfl rfl ?_
  refine ms_aload_n (k := 1) (p' := 3) (by decide +kernel) rfl rfl ?_
  refine ms_getr (idx := 116) (ci := 3) (k := 14) (q := 260) (p' := 6) (by decide +kernel) rfl (pn_k hp hw) (pn_r14 hp hw) (by omega) ?_
  refine ms_iload_n (k := 2) (p' := 7) (by decide +kernel) rfl rfl ?_
  refine ms_iald (p' := 8) (by decide +kernel) rfl (pn_k14 hp hw) (fun hj1 => ?_)
  refine ms_stat_i (idx := 106) (cy := yX_stayRules) (n := 1) (as := [.inl (f (p + 9) x2.toNat)]) (rest := [.inr (.inl p), .inr (.inl z)]) (p' := 11) (by decide +kernel) rfl rfl rfl rfl rfl (fun f2 v3 => ?_)
  refine ms_virt_u (idx := 109) (cy := yZ_keepRules) (n := 2) (a := z) (as := [.inr (.inl p), .inl v3]) (rest := []) (p' := 14) (by decide +kernel) rfl rfl rfl rfl (zn_k hz hw) rfl (fun f4 => ?_)
  refine ms_iconst (n := 0) (v := 0) (p' := 15) (by decide +kernel) rfl ?_
  refine ms_istore_n (k := 3) (ls' := [.inr (.inl z), .inr (.inl p), .inl x2, .inl 0, .inr (.inr (.inr 0))]) (p' := 16) (by decide +kernel) rfl (Nat.le_of_ble_eq_true rfl) rfl ?_
  rfl
theorem l_Z_stepBackBy_16 {sw : Bool} {w : mj_W} (hw : wk sw w) (f : mj_F) (z : Nat) (p : Nat) (x2 : Int) (x3 : Int) (u4 : mj_V) (hz : zn z = true) (hp : pn p) : mj_run yZ_stepBackBy w f 16 [.inr (.inl z), .inr (.inl p), .inl x2, .inl x3, u4] [] = mj_gd (0 ≤ x2 ∧ x2 < ((16 : Nat) : Int)) (if (f (p + 10) x2.toNat) ≤ x3 then mj_run yZ_stepBackBy w f 63 [.inr (.inl z), .inr (.inl p), .inl x2, .inl 0, u4] [] else mj_gd (0 ≤ (mj_w ((mj_w (x2 * 4)) + x3)) ∧ (mj_w ((mj_w (x2 * 4)) + x3)) < ((64 : Nat) : Int)) (mj_gd (0 ≤ (mj_w ((mj_w (x2 * 4)) + x3)) ∧ (mj_w ((mj_w (x2 * 4)) + x3)) < ((64 : Nat) : Int)) (mj_bu (mj_call yZ_relate w f [.inr (.inl z), .inl (mj_w ((f (p + 11) (mj_w ((mj_w (x2 * 4)) + x3)).toNat) + 1)), .inl 0, .inl 2, .inl (f (p + 12) (mj_w ((mj_w (x2 * 4)) + x3)).toNat)]) (fun f8 => mj_run yZ_stepBackBy w f8 16 [.inr (.inl z), .inr (.inl p), .inl x2, .inl (mj_w (x3 + 1)), .inl (mj_w ((mj_w (x2 * 4)) + x3))] [])))) := by
  refine ms_iload_n (k := 3) (p' := 17) (by decide +kernel) rfl rfl ?_
  refine ms_aload_n (k := 1) (p' := 18) (by decide +kernel) rfl rfl ?_
  refine ms_getr (idx := 94) (ci := 3) (k := 15) (q := 264) (p' := 21) (by decide +kernel) rfl (pn_k hp hw) (pn_r15 hp hw) (by omega) ?_
  refine ms_iload_n (k := 2) (p' := 22) (by decide +kernel) rfl rfl ?_
  refine ms_iald (p' := 23) (by decide +kernel) rfl (pn_k15 hp hw) (fun hj5 => ?_)
  refine ms_icmp_ge (off := 38) (t := 61) (p' := 26) (by decide +kernel) rfl (fun hc => ?_) (fun hc => ?_)
  · refine ms_iconst (n := 0) (v := 0) (p' := 62) (by decide +kernel) rfl ?_
    refine ms_istore_n (k := 3) (ls' := [.inr (.inl z), .inr (.inl p), .inl x2, .inl 0, u4]) (p' := 63) (by decide +kernel) rfl (Nat.le_of_ble_eq_true rfl) rfl ?_
    rfl
  · refine ms_iload_n (k := 2) (p' := 27) (by decide +kernel) rfl rfl ?_
    refine ms_iconst (n := 4) (v := 4) (p' := 28) (by decide +kernel) rfl ?_
    refine ms_imul (p' := 29) (by decide +kernel) rfl ?_
    refine ms_iload_n (k := 3) (p' := 30) (by decide +kernel) rfl rfl ?_
    refine ms_iadd (p' := 31) (by decide +kernel) rfl ?_
    refine ms_istore (k := 4) (ls' := [.inr (.inl z), .inr (.inl p), .inl x2, .inl x3, .inl (mj_w ((mj_w (x2 * 4)) + x3))]) (p' := 33) (by decide +kernel) rfl (Nat.le_of_ble_eq_true rfl) rfl ?_
    refine ms_aload_n (k := 0) (p' := 34) (by decide +kernel) rfl rfl ?_
    refine ms_aload_n (k := 1) (p' := 35) (by decide +kernel) rfl rfl ?_
    refine ms_getr (idx := 97) (ci := 3) (k := 16) (q := 268) (p' := 38) (by decide +kernel) rfl (pn_k hp hw) (pn_r16 hp hw) (by omega) ?_
    refine ms_iload (k := 4) (p' := 40) (by decide +kernel) rfl rfl ?_
    refine ms_iald (p' := 41) (by decide +kernel) rfl (pn_k16 hp hw) (fun hj6 => ?_)
    refine ms_iconst (n := 1) (v := 1) (p' := 42) (by decide +kernel) rfl ?_
    refine ms_iadd (p' := 43) (by decide +kernel) rfl ?_
    refine ms_iconst (n := 0) (v := 0) (p' := 44) (by decide +kernel) rfl ?_
    refine ms_iconst (n := 2) (v := 2) (p' := 45) (by decide +kernel) rfl ?_
    refine ms_aload_n (k := 1) (p' := 46) (by decide +kernel) rfl rfl ?_
    refine ms_getr (idx := 100) (ci := 3) (k := 17) (q := 272) (p' := 49) (by decide +kernel) rfl (pn_k hp hw) (pn_r17 hp hw) (by omega) ?_
    refine ms_iload (k := 4) (p' := 51) (by decide +kernel) rfl rfl ?_
    refine ms_iald (p' := 52) (by decide +kernel) rfl (pn_k17 hp hw) (fun hj7 => ?_)
    refine ms_virt_u (idx := 125) (cy := yZ_relate) (n := 4) (a := z) (as := [.inl (mj_w ((f (p + 11) (mj_w ((mj_w (x2 * 4)) + x3)).toNat) + 1)), .inl 0, .inl 2, .inl (f (p + 12) (mj_w ((mj_w (x2 * 4)) + x3)).toNat)]) (rest := []) (p' := 55) (by decide +kernel) rfl rfl rfl rfl (zn_k hz hw) rfl (fun f8 => ?_)
    refine ms_iinc (k := 3) (n := 1) (ls' := [.inr (.inl z), .inr (.inl p), .inl x2, .inl (mj_w (x3 + 1)), .inl (mj_w ((mj_w (x2 * 4)) + x3))]) (p' := 58) (by decide +kernel) rfl rfl rfl ?_
    refine ms_goto (off := (-42)) (p' := 16) (by decide +kernel) ?_
    rfl
theorem l_Z_stepBackBy_63 {sw : Bool} {w : mj_W} (hw : wk sw w) (f : mj_F) (z : Nat) (p : Nat) (x2 : Int) (x3 : Int) (u4 : mj_V) (hz : zn z = true) (hp : pn p) : mj_run yZ_stepBackBy w f 63 [.inr (.inl z), .inr (.inl p), .inl x2, .inl x3, u4] [] = mj_gd (0 ≤ x2 ∧ x2 < ((16 : Nat) : Int)) (if (f (p + 10) x2.toNat) ≤ x3 then mj_bi (mj_call yX_edgeRules w f [.inl x2]) (fun f10 v11 => mj_bu (mj_call yZ_keepRules w f10 [.inr (.inl z), .inr (.inl p), .inl v11]) (fun f12 => some (w, f12, none))) else mj_gd (0 ≤ (mj_w ((mj_w (x2 * 4)) + x3)) ∧ (mj_w ((mj_w (x2 * 4)) + x3)) < ((64 : Nat) : Int)) (mj_bu (mj_call yZ_release w f [.inr (.inl z), .inl (mj_w ((f (p + 11) (mj_w ((mj_w (x2 * 4)) + x3)).toNat) + 1))]) (fun f14 => mj_run yZ_stepBackBy w f14 63 [.inr (.inl z), .inr (.inl p), .inl x2, .inl (mj_w (x3 + 1)), u4] []))) := by
  refine ms_iload_n (k := 3) (p' := 64) (by decide +kernel) rfl rfl ?_
  refine ms_aload_n (k := 1) (p' := 65) (by decide +kernel) rfl rfl ?_
  refine ms_getr (idx := 94) (ci := 3) (k := 15) (q := 264) (p' := 68) (by decide +kernel) rfl (pn_k hp hw) (pn_r15 hp hw) (by omega) ?_
  refine ms_iload_n (k := 2) (p' := 69) (by decide +kernel) rfl rfl ?_
  refine ms_iald (p' := 70) (by decide +kernel) rfl (pn_k15 hp hw) (fun hj9 => ?_)
  refine ms_icmp_ge (off := 25) (t := 95) (p' := 73) (by decide +kernel) rfl (fun hc => ?_) (fun hc => ?_)
  · refine ms_aload_n (k := 0) (p' := 96) (by decide +kernel) rfl rfl ?_
    refine ms_aload_n (k := 1) (p' := 97) (by decide +kernel) rfl rfl ?_
    refine ms_iload_n (k := 2) (p' := 98) (by decide +kernel) rfl rfl ?_
    refine ms_stat_i (idx := 119) (cy := yX_edgeRules) (n := 1) (as := [.inl x2]) (rest := [.inr (.inl p), .inr (.inl z)]) (p' := 101) (by decide +kernel) rfl rfl rfl rfl rfl (fun f10 v11 => ?_)
    refine ms_virt_u (idx := 109) (cy := yZ_keepRules) (n := 2) (a := z) (as := [.inr (.inl p), .inl v11]) (rest := []) (p' := 104) (by decide +kernel) rfl rfl rfl rfl (zn_k hz hw) rfl (fun f12 => ?_)
    exact ms_vret (by decide +kernel)
  · refine ms_aload_n (k := 0) (p' := 74) (by decide +kernel) rfl rfl ?_
    refine ms_aload_n (k := 1) (p' := 75) (by decide +kernel) rfl rfl ?_
    refine ms_getr (idx := 97) (ci := 3) (k := 16) (q := 268) (p' := 78) (by decide +kernel) rfl (pn_k hp hw) (pn_r16 hp hw) (by omega) ?_
    refine ms_iload_n (k := 2) (p' := 79) (by decide +kernel) rfl rfl ?_
    refine ms_iconst (n := 4) (v := 4) (p' := 80) (by decide +kernel) rfl ?_
    refine ms_imul (p' := 81) (by decide +kernel) rfl ?_
    refine ms_iload_n (k := 3) (p' := 82) (by decide +kernel) rfl rfl ?_
    refine ms_iadd (p' := 83) (by decide +kernel) rfl ?_
    refine ms_iald (p' := 84) (by decide +kernel) rfl (pn_k16 hp hw) (fun hj13 => ?_)
    refine ms_iconst (n := 1) (v := 1) (p' := 85) (by decide +kernel) rfl ?_
    refine ms_iadd (p' := 86) (by decide +kernel) rfl ?_
    refine ms_virt_u (idx := 41) (cy := yZ_release) (n := 1) (a := z) (as := [.inl (mj_w ((f (p + 11) (mj_w ((mj_w (x2 * 4)) + x3)).toNat) + 1))]) (rest := []) (p' := 89) (by decide +kernel) rfl rfl rfl rfl (zn_k hz hw) rfl (fun f14 => ?_)
    refine ms_iinc (k := 3) (n := 1) (ls' := [.inr (.inl z), .inr (.inl p), .inl x2, .inl (mj_w (x3 + 1)), u4]) (p' := 92) (by decide +kernel) rfl rfl rfl ?_
    refine ms_goto (off := (-29)) (p' := 63) (by decide +kernel) ?_
    rfl
theorem c_Z_becomeTimed {sw : Bool} {w : mj_W} (hw : wk sw w) (f : mj_F) (z : Nat) (z1 : Nat) (hz : zn z = true) (hz1 : zn z1 = true) : mj_call yZ_becomeTimed w f [.inr (.inl z), .inr (.inl z1)] = mj_bu (mj_call yZ_become w f [.inr (.inl z), .inr (.inl z1)]) (fun f1 => if (f1 z 1) < 6 then mj_bu (mj_call yZ_put w (mj_u f1 z 1 (mj_w ((f1 z 1) + 1))) [.inr (.inl z), .inl (f1 z 1), .inl (f1 z 1), .inl 1]) (fun f2 => mj_bu (mj_call yZ_assign w f2 [.inr (.inl z), .inl (f1 z 1), .inl 0]) (fun f3 => some (w, f3, none))) else some (w, f1, none)) := by
  show mj_run yZ_becomeTimed w f 0 [.inr (.inl z), .inr (.inl z1), .inr (.inr (.inr 0))] [] = _
  refine ms_aload_n (k := 0) (p' := 1) (by decide +kernel) rfl rfl ?_
  refine ms_aload_n (k := 1) (p' := 2) (by decide +kernel) rfl rfl ?_
  refine ms_virt_u (idx := 50) (cy := yZ_become) (n := 1) (a := z) (as := [.inr (.inl z1)]) (rest := []) (p' := 5) (by decide +kernel) rfl rfl rfl rfl (zn_k hz hw) rfl (fun f1 => ?_)
  refine ms_aload_n (k := 0) (p' := 6) (by decide +kernel) rfl rfl ?_
  refine ms_geti (idx := 15) (ci := 7) (k := 1) (q := 360) (p' := 9) (by decide +kernel) rfl (zn_k hz hw) ?_
  refine ms_bipush (n := 6) (v := 6) (p' := 11) (by decide +kernel) rfl ?_
  refine ms_icmp_lt (off := 4) (t := 15) (p' := 14) (by decide +kernel) rfl (fun hc => ?_) (fun hc => ?_)
  · refine ms_aload_n (k := 0) (p' := 16) (by decide +kernel) rfl rfl ?_
    refine ms_geti (idx := 15) (ci := 7) (k := 1) (q := 360) (p' := 19) (by decide +kernel) rfl (zn_k hz hw) ?_
    refine ms_istore_n (k := 2) (ls' := [.inr (.inl z), .inr (.inl z1), .inl (f1 z 1)]) (p' := 20) (by decide +kernel) rfl (Nat.le_of_ble_eq_true rfl) rfl ?_
    refine ms_aload_n (k := 0) (p' := 21) (by decide +kernel) rfl rfl ?_
    refine ms_dup_a (p' := 22) (by decide +kernel) rfl ?_
    refine ms_geti (idx := 15) (ci := 7) (k := 1) (q := 360) (p' := 25) (by decide +kernel) rfl (zn_k hz hw) ?_
    refine ms_iconst (n := 1) (v := 1) (p' := 26) (by decide +kernel) rfl ?_
    refine ms_iadd (p' := 27) (by decide +kernel) rfl ?_
    refine ms_puti (idx := 15) (ci := 7) (k := 1) (q := 360) (p' := 30) (by decide +kernel) rfl (zn_k hz hw) ?_
    refine ms_aload_n (k := 0) (p' := 31) (by decide +kernel) rfl rfl ?_
    refine ms_iload_n (k := 2) (p' := 32) (by decide +kernel) rfl rfl ?_
    refine ms_iload_n (k := 2) (p' := 33) (by decide +kernel) rfl rfl ?_
    refine ms_iconst (n := 1) (v := 1) (p' := 34) (by decide +kernel) rfl ?_
    refine ms_virt_u (idx := 54) (cy := yZ_put) (n := 3) (a := z) (as := [.inl (f1 z 1), .inl (f1 z 1), .inl 1]) (rest := []) (p' := 37) (by decide +kernel) rfl rfl rfl rfl (zn_k hz hw) rfl (fun f2 => ?_)
    refine ms_aload_n (k := 0) (p' := 38) (by decide +kernel) rfl rfl ?_
    refine ms_iload_n (k := 2) (p' := 39) (by decide +kernel) rfl rfl ?_
    refine ms_iconst (n := 0) (v := 0) (p' := 40) (by decide +kernel) rfl ?_
    refine ms_virt_u (idx := 58) (cy := yZ_assign) (n := 2) (a := z) (as := [.inl (f1 z 1), .inl 0]) (rest := []) (p' := 43) (by decide +kernel) rfl rfl rfl rfl (zn_k hz hw) rfl (fun f3 => ?_)
    exact ms_vret (by decide +kernel)
  · exact ms_vret (by decide +kernel)
theorem c_M_count {sw : Bool} {w : mj_W} (hw : wk sw w) (f : mj_F) (x1 : Int)  : mj_call yM_count w f [.inr (.inl 223), .inl x1] = if x1 = 0 then some (w, (mj_u f 223 0 0), some (.inl (mj_u f 223 0 0 223 1))) else if x1 = 1 then some (w, (mj_u f 223 0 0), some (.inl (mj_u f 223 0 0 223 2))) else if x1 = 2 then some (w, (mj_u f 223 0 0), some (.inl (mj_u f 223 0 0 223 3))) else if x1 = 3 then some (w, (mj_u f 223 0 0), some (.inl (mj_u f 223 0 0 223 4))) else if x1 = 4 then if ¬ (mj_u f 223 0 0 223 3) = 0 then some (w, (mj_u f 223 0 0), some (.inl (mj_u f 223 0 0 223 5))) else some (w, (mj_u f 223 0 0), some (.inl (-1))) else if x1 = 5 then mj_bi (mj_call yM_traced w (mj_u f 223 0 0) [.inr (.inl 223)]) (fun f1 v2 => some (w, f1, some (.inl v2))) else if x1 = 6 then some (w, (mj_u f 223 0 0), some (.inl (mj_u f 223 0 0 223 18))) else if x1 = 7 then some (w, (mj_u f 223 0 0), some (.inl (mj_u f 223 0 0 223 25))) else some (w, (mj_u f 223 0 0), some (.inl (-1))) := by
  show mj_run yM_count w f 0 [.inr (.inl 223), .inl x1] [] = _
  refine ms_aload_n (k := 0) (p' := 1) (by decide +kernel) rfl rfl ?_
  refine ms_iconst (n := 0) (v := 0) (p' := 2) (by decide +kernel) rfl ?_
  refine ms_puti (idx := 1) (ci := 9) (k := 0) (q := 1391) (p' := 5) (by decide +kernel) rfl (k_223 hw) ?_
  refine ms_iload_n (k := 1) (p' := 6) (by decide +kernel) rfl rfl ?_
  have hd : mj_dec yM_count 6 = some (.tableswitch 97 0 7 #[46, 51, 56, 61, 66, 82, 87, 92]) := by decide +kernel
  by_cases hs0 : x1 = 0
  · rw [if_pos hs0]
    refine ms_tabIn (t := 52) hd (by omega) (by rw [hs0]; decide +kernel) ?_
    refine ms_aload_n (k := 0) (p' := 53) (by decide +kernel) rfl rfl ?_
    refine ms_geti (idx := 239) (ci := 9) (k := 1) (q := 1392) (p' := 56) (by decide +kernel) rfl (k_223 hw) ?_
    exact ms_iret (by decide +kernel)
  · rw [if_neg hs0]
    by_cases hs1 : x1 = 1
    · rw [if_pos hs1]
      refine ms_tabIn (t := 57) hd (by omega) (by rw [hs1]; decide +kernel) ?_
      refine ms_aload_n (k := 0) (p' := 58) (by decide +kernel) rfl rfl ?_
      refine ms_geti (idx := 242) (ci := 9) (k := 2) (q := 1393) (p' := 61) (by decide +kernel) rfl (k_223 hw) ?_
      exact ms_iret (by decide +kernel)
    · rw [if_neg hs1]
      by_cases hs2 : x1 = 2
      · rw [if_pos hs2]
        refine ms_tabIn (t := 62) hd (by omega) (by rw [hs2]; decide +kernel) ?_
        refine ms_aload_n (k := 0) (p' := 63) (by decide +kernel) rfl rfl ?_
        refine ms_geti (idx := 245) (ci := 9) (k := 3) (q := 1394) (p' := 66) (by decide +kernel) rfl (k_223 hw) ?_
        exact ms_iret (by decide +kernel)
      · rw [if_neg hs2]
        by_cases hs3 : x1 = 3
        · rw [if_pos hs3]
          refine ms_tabIn (t := 67) hd (by omega) (by rw [hs3]; decide +kernel) ?_
          refine ms_aload_n (k := 0) (p' := 68) (by decide +kernel) rfl rfl ?_
          refine ms_geti (idx := 248) (ci := 9) (k := 4) (q := 1395) (p' := 71) (by decide +kernel) rfl (k_223 hw) ?_
          exact ms_iret (by decide +kernel)
        · rw [if_neg hs3]
          by_cases hs4 : x1 = 4
          · rw [if_pos hs4]
            refine ms_tabIn (t := 72) hd (by omega) (by rw [hs4]; decide +kernel) ?_
            refine ms_aload_n (k := 0) (p' := 73) (by decide +kernel) rfl rfl ?_
            refine ms_geti (idx := 245) (ci := 9) (k := 3) (q := 1394) (p' := 76) (by decide +kernel) rfl (k_223 hw) ?_
            refine ms_if_ne (off := 7) (t := 83) (p' := 79) (by decide +kernel) rfl (fun hc => ?_) (fun hc => ?_)
            · refine ms_aload_n (k := 0) (p' := 84) (by decide +kernel) rfl rfl ?_
              refine ms_geti (idx := 251) (ci := 9) (k := 5) (q := 1396) (p' := 87) (by decide +kernel) rfl (k_223 hw) ?_
              exact ms_iret (by decide +kernel)
            · refine ms_iconst (n := (-1)) (v := (-1)) (p' := 80) (by decide +kernel) rfl ?_
              refine ms_goto (off := 7) (p' := 87) (by decide +kernel) ?_
              exact ms_iret (by decide +kernel)
          · rw [if_neg hs4]
            by_cases hs5 : x1 = 5
            · rw [if_pos hs5]
              refine ms_tabIn (t := 88) hd (by omega) (by rw [hs5]; decide +kernel) ?_
              refine ms_aload_n (k := 0) (p' := 89) (by decide +kernel) rfl rfl ?_
              refine ms_virt_i (idx := 435) (cy := yM_traced) (n := 0) (a := 223) (as := []) (rest := []) (p' := 92) (by decide +kernel) rfl rfl rfl rfl (k_223 hw) rfl (fun f1 v2 => ?_)
              exact ms_iret (by decide +kernel)
            · rw [if_neg hs5]
              by_cases hs6 : x1 = 6
              · rw [if_pos hs6]
                refine ms_tabIn (t := 93) hd (by omega) (by rw [hs6]; decide +kernel) ?_
                refine ms_aload_n (k := 0) (p' := 94) (by decide +kernel) rfl rfl ?_
                refine ms_geti (idx := 261) (ci := 9) (k := 18) (q := 1409) (p' := 97) (by decide +kernel) rfl (k_223 hw) ?_
                exact ms_iret (by decide +kernel)
              · rw [if_neg hs6]
                by_cases hs7 : x1 = 7
                · rw [if_pos hs7]
                  refine ms_tabIn (t := 98) hd (by omega) (by rw [hs7]; decide +kernel) ?_
                  refine ms_aload_n (k := 0) (p' := 99) (by decide +kernel) rfl rfl ?_
                  refine ms_geti (idx := 133) (ci := 9) (k := 25) (q := 1416) (p' := 102) (by decide +kernel) rfl (k_223 hw) ?_
                  exact ms_iret (by decide +kernel)
                · rw [if_neg hs7]
                  refine ms_tabOut (t := 103) hd (by omega) (by decide +kernel) ?_
                  refine ms_iconst (n := (-1)) (v := (-1)) (p' := 104) (by decide +kernel) rfl ?_
                  exact ms_iret (by decide +kernel)
end
