-- ===== PART A: goes FIRST, ahead of the names: the tables' words, and 'selects' of the private methods out of them =====
/-- a private method of a class that the tables say can be made, by its rows of tables_1 -/
def lw_okq (q : MethodName × Nat) : Prop := (q.1.cls ≠ "java/lang/invoke/MethodHandle" ∧ q.1.cls ≠ "java/lang/invoke/VarHandle") ∧ Cond.instantiable q.1.cls q.2 ∈ tables_1 ∧ Cond.privateMethod q.1 ∈ tables_1 ∧ Cond.instanceMethod q.1 ∈ tables_1
theorem lw_p0 : lw_okq (⟨"ValueBench", "refresh", "()V"⟩, 10) := ⟨⟨by decide +kernel, by decide +kernel⟩, List.mem_of_getElem? (i := 17) (by decide +kernel), List.mem_of_getElem? (i := 436) (by decide +kernel), List.mem_of_getElem? (i := 437) (by decide +kernel)⟩
theorem lw_p1 : lw_okq (⟨"ValueBench$Program", "endCounts", "(I)Z"⟩, 10) := ⟨⟨by decide +kernel, by decide +kernel⟩, List.mem_of_getElem? (i := 25) (by decide +kernel), List.mem_of_getElem? (i := 453) (by decide +kernel), List.mem_of_getElem? (i := 454) (by decide +kernel)⟩
theorem lw_p2 : lw_okq (⟨"ValueBench$Graph", "parentOf", "(I)I"⟩, 7) := ⟨⟨by decide +kernel, by decide +kernel⟩, List.mem_of_getElem? (i := 79) (by decide +kernel), List.mem_of_getElem? (i := 470) (by decide +kernel), List.mem_of_getElem? (i := 471) (by decide +kernel)⟩
theorem lw_p3 : lw_okq (⟨"ValueBench$Graph", "frontierOf", "(I)I"⟩, 7) := ⟨⟨by decide +kernel, by decide +kernel⟩, List.mem_of_getElem? (i := 79) (by decide +kernel), List.mem_of_getElem? (i := 474) (by decide +kernel), List.mem_of_getElem? (i := 475) (by decide +kernel)⟩
theorem lw_p4 : lw_okq (⟨"ValueBench$Values", "placeChoices", "(LValueBench$Program;LValueBench$Graph;)V"⟩, 12) := ⟨⟨by decide +kernel, by decide +kernel⟩, List.mem_of_getElem? (i := 120) (by decide +kernel), List.mem_of_getElem? (i := 482) (by decide +kernel), List.mem_of_getElem? (i := 483) (by decide +kernel)⟩
theorem lw_p5 : lw_okq (⟨"ValueBench$Values", "numberAll", "(LValueBench$Program;LValueBench$Graph;)V"⟩, 12) := ⟨⟨by decide +kernel, by decide +kernel⟩, List.mem_of_getElem? (i := 120) (by decide +kernel), List.mem_of_getElem? (i := 491) (by decide +kernel), List.mem_of_getElem? (i := 492) (by decide +kernel)⟩
theorem lw_p6 : lw_okq (⟨"ValueBench$Values", "add", "(IIIII)V"⟩, 12) := ⟨⟨by decide +kernel, by decide +kernel⟩, List.mem_of_getElem? (i := 120) (by decide +kernel), List.mem_of_getElem? (i := 500) (by decide +kernel), List.mem_of_getElem? (i := 501) (by decide +kernel)⟩
theorem lw_p7 : lw_okq (⟨"ValueBench$Values", "numberChoices", "(LValueBench$Graph;I)V"⟩, 12) := ⟨⟨by decide +kernel, by decide +kernel⟩, List.mem_of_getElem? (i := 120) (by decide +kernel), List.mem_of_getElem? (i := 504) (by decide +kernel), List.mem_of_getElem? (i := 505) (by decide +kernel)⟩
theorem lw_p8 : lw_okq (⟨"ValueBench$Values", "numberInstructions", "(LValueBench$Program;I)V"⟩, 12) := ⟨⟨by decide +kernel, by decide +kernel⟩, List.mem_of_getElem? (i := 120) (by decide +kernel), List.mem_of_getElem? (i := 515) (by decide +kernel), List.mem_of_getElem? (i := 516) (by decide +kernel)⟩
theorem lw_p9 : lw_okq (⟨"ValueBench$Values", "beginBlock", "(LValueBench$Graph;I)V"⟩, 12) := ⟨⟨by decide +kernel, by decide +kernel⟩, List.mem_of_getElem? (i := 120) (by decide +kernel), List.mem_of_getElem? (i := 519) (by decide +kernel), List.mem_of_getElem? (i := 520) (by decide +kernel)⟩
theorem lw_p10 : lw_okq (⟨"ValueBench$Values", "followBlock", "(LValueBench$Program;I)V"⟩, 12) := ⟨⟨by decide +kernel, by decide +kernel⟩, List.mem_of_getElem? (i := 120) (by decide +kernel), List.mem_of_getElem? (i := 523) (by decide +kernel), List.mem_of_getElem? (i := 524) (by decide +kernel)⟩
theorem lw_p11 : lw_okq (⟨"ValueBench$Values", "fillChoices", "(LValueBench$Graph;)V"⟩, 12) := ⟨⟨by decide +kernel, by decide +kernel⟩, List.mem_of_getElem? (i := 120) (by decide +kernel), List.mem_of_getElem? (i := 532) (by decide +kernel), List.mem_of_getElem? (i := 533) (by decide +kernel)⟩
theorem lw_p12 : lw_okq (⟨"ValueBench$Values", "fillChoice", "(II)V"⟩, 12) := ⟨⟨by decide +kernel, by decide +kernel⟩, List.mem_of_getElem? (i := 120) (by decide +kernel), List.mem_of_getElem? (i := 536) (by decide +kernel), List.mem_of_getElem? (i := 537) (by decide +kernel)⟩
theorem lw_p13 : lw_okq (⟨"ValueBench$Classes", "leastAlike", "(LValueBench$Values;I)I"⟩, 3) := ⟨⟨by decide +kernel, by decide +kernel⟩, List.mem_of_getElem? (i := 216) (by decide +kernel), List.mem_of_getElem? (i := 544) (by decide +kernel), List.mem_of_getElem? (i := 545) (by decide +kernel)⟩
theorem lw_p14 : lw_okq (⟨"ValueBench$Classes", "partFiner", "(LValueBench$Values;)Z"⟩, 3) := ⟨⟨by decide +kernel, by decide +kernel⟩, List.mem_of_getElem? (i := 216) (by decide +kernel), List.mem_of_getElem? (i := 551) (by decide +kernel), List.mem_of_getElem? (i := 552) (by decide +kernel)⟩
theorem lw_p15 : lw_okq (⟨"ValueBench$Classes", "leastTogether", "(LValueBench$Values;I)I"⟩, 3) := ⟨⟨by decide +kernel, by decide +kernel⟩, List.mem_of_getElem? (i := 216) (by decide +kernel), List.mem_of_getElem? (i := 555) (by decide +kernel), List.mem_of_getElem? (i := 556) (by decide +kernel)⟩
def lw_privs_1 : List (MethodName × Nat) := [(⟨"ValueBench", "refresh", "()V"⟩, 10), (⟨"ValueBench$Program", "endCounts", "(I)Z"⟩, 10), (⟨"ValueBench$Graph", "parentOf", "(I)I"⟩, 7), (⟨"ValueBench$Graph", "frontierOf", "(I)I"⟩, 7), (⟨"ValueBench$Values", "placeChoices", "(LValueBench$Program;LValueBench$Graph;)V"⟩, 12), (⟨"ValueBench$Values", "numberAll", "(LValueBench$Program;LValueBench$Graph;)V"⟩, 12), (⟨"ValueBench$Values", "add", "(IIIII)V"⟩, 12), (⟨"ValueBench$Values", "numberChoices", "(LValueBench$Graph;I)V"⟩, 12), (⟨"ValueBench$Values", "numberInstructions", "(LValueBench$Program;I)V"⟩, 12), (⟨"ValueBench$Values", "beginBlock", "(LValueBench$Graph;I)V"⟩, 12), (⟨"ValueBench$Values", "followBlock", "(LValueBench$Program;I)V"⟩, 12), (⟨"ValueBench$Values", "fillChoices", "(LValueBench$Graph;)V"⟩, 12), (⟨"ValueBench$Values", "fillChoice", "(II)V"⟩, 12), (⟨"ValueBench$Classes", "leastAlike", "(LValueBench$Values;I)I"⟩, 3), (⟨"ValueBench$Classes", "partFiner", "(LValueBench$Values;)Z"⟩, 3), (⟨"ValueBench$Classes", "leastTogether", "(LValueBench$Values;I)I"⟩, 3)]
theorem lw_r1 : ∀ q ∈ lw_privs_1, lw_okq q := List.forall_mem_cons.mpr ⟨lw_p0, List.forall_mem_cons.mpr ⟨lw_p1, List.forall_mem_cons.mpr ⟨lw_p2, List.forall_mem_cons.mpr ⟨lw_p3, List.forall_mem_cons.mpr ⟨lw_p4, List.forall_mem_cons.mpr ⟨lw_p5, List.forall_mem_cons.mpr ⟨lw_p6, List.forall_mem_cons.mpr ⟨lw_p7, List.forall_mem_cons.mpr ⟨lw_p8, List.forall_mem_cons.mpr ⟨lw_p9, List.forall_mem_cons.mpr ⟨lw_p10, List.forall_mem_cons.mpr ⟨lw_p11, List.forall_mem_cons.mpr ⟨lw_p12, List.forall_mem_cons.mpr ⟨lw_p13, List.forall_mem_cons.mpr ⟨lw_p14, List.forall_mem_cons.mpr ⟨lw_p15, fun _ h => absurd h List.not_mem_nil⟩⟩⟩⟩⟩⟩⟩⟩⟩⟩⟩⟩⟩⟩⟩⟩
theorem lw_p16 : lw_okq (⟨"ValueBench$Classes", "operandsAgree", "(LValueBench$Values;II)Z"⟩, 3) := ⟨⟨by decide +kernel, by decide +kernel⟩, List.mem_of_getElem? (i := 216) (by decide +kernel), List.mem_of_getElem? (i := 559) (by decide +kernel), List.mem_of_getElem? (i := 560) (by decide +kernel)⟩
theorem lw_p17 : lw_okq (⟨"ValueBench$Classes", "together", "(LValueBench$Values;II)Z"⟩, 3) := ⟨⟨by decide +kernel, by decide +kernel⟩, List.mem_of_getElem? (i := 216) (by decide +kernel), List.mem_of_getElem? (i := 567) (by decide +kernel), List.mem_of_getElem? (i := 568) (by decide +kernel)⟩
theorem lw_p18 : lw_okq (⟨"ValueBench$Leaders", "leadOperands", "(LValueBench$Graph;LValueBench$Values;LValueBench$Classes;I)V"⟩, 3) := ⟨⟨by decide +kernel, by decide +kernel⟩, List.mem_of_getElem? (i := 235) (by decide +kernel), List.mem_of_getElem? (i := 583) (by decide +kernel), List.mem_of_getElem? (i := 584) (by decide +kernel)⟩
theorem lw_p19 : lw_okq (⟨"ValueBench$Leaders", "leader", "(LValueBench$Graph;LValueBench$Values;LValueBench$Classes;II)I"⟩, 3) := ⟨⟨by decide +kernel, by decide +kernel⟩, List.mem_of_getElem? (i := 235) (by decide +kernel), List.mem_of_getElem? (i := 591) (by decide +kernel), List.mem_of_getElem? (i := 592) (by decide +kernel)⟩
theorem lw_p20 : lw_okq (⟨"ValueBench$Leaders", "leadEmits", "(LValueBench$Program;LValueBench$Graph;LValueBench$Values;LValueBench$Classes;I)V"⟩, 3) := ⟨⟨by decide +kernel, by decide +kernel⟩, List.mem_of_getElem? (i := 235) (by decide +kernel), List.mem_of_getElem? (i := 596) (by decide +kernel), List.mem_of_getElem? (i := 597) (by decide +kernel)⟩
theorem lw_p21 : lw_okq (⟨"ValueBench", "aboutReached", "(II)I"⟩, 10) := ⟨⟨by decide +kernel, by decide +kernel⟩, List.mem_of_getElem? (i := 17) (by decide +kernel), List.mem_of_getElem? (i := 602) (by decide +kernel), List.mem_of_getElem? (i := 603) (by decide +kernel)⟩
theorem lw_p22 : lw_okq (⟨"ValueBench", "readsOf", "(Z)LValueBench$Reads;"⟩, 10) := ⟨⟨by decide +kernel, by decide +kernel⟩, List.mem_of_getElem? (i := 17) (by decide +kernel), List.mem_of_getElem? (i := 652) (by decide +kernel), List.mem_of_getElem? (i := 653) (by decide +kernel)⟩
theorem lw_p23 : lw_okq (⟨"ValueBench$ValueForm", "goes", "(I)Z"⟩, 7) := ⟨⟨by decide +kernel, by decide +kernel⟩, List.mem_of_getElem? (i := 280) (by decide +kernel), List.mem_of_getElem? (i := 691) (by decide +kernel), List.mem_of_getElem? (i := 692) (by decide +kernel)⟩
theorem lw_p24 : lw_okq (⟨"ValueBench$Machine", "followBlock", "(LValueBench$Form;)Z"⟩, 8) := ⟨⟨by decide +kernel, by decide +kernel⟩, List.mem_of_getElem? (i := 306) (by decide +kernel), List.mem_of_getElem? (i := 695) (by decide +kernel), List.mem_of_getElem? (i := 696) (by decide +kernel)⟩
theorem lw_p25 : lw_okq (⟨"ValueBench$Machine", "pay", "()Z"⟩, 8) := ⟨⟨by decide +kernel, by decide +kernel⟩, List.mem_of_getElem? (i := 306) (by decide +kernel), List.mem_of_getElem? (i := 708) (by decide +kernel), List.mem_of_getElem? (i := 709) (by decide +kernel)⟩
theorem lw_p26 : lw_okq (⟨"ValueBench$Machine", "follow", "(LValueBench$Form;I)V"⟩, 8) := ⟨⟨by decide +kernel, by decide +kernel⟩, List.mem_of_getElem? (i := 306) (by decide +kernel), List.mem_of_getElem? (i := 712) (by decide +kernel), List.mem_of_getElem? (i := 713) (by decide +kernel)⟩
theorem lw_p27 : lw_okq (⟨"ValueBench$Machine", "tell", "(I)V"⟩, 8) := ⟨⟨by decide +kernel, by decide +kernel⟩, List.mem_of_getElem? (i := 306) (by decide +kernel), List.mem_of_getElem? (i := 734) (by decide +kernel), List.mem_of_getElem? (i := 735) (by decide +kernel)⟩
theorem lw_p28 : lw_okq (⟨"ValueBenchModel", "isBlock", "(I)Z"⟩, 44) := ⟨⟨by decide +kernel, by decide +kernel⟩, List.mem_of_getElem? (i := 788) (by decide +kernel), List.mem_of_getElem? (i := 935) (by decide +kernel), List.mem_of_getElem? (i := 936) (by decide +kernel)⟩
theorem lw_p29 : lw_okq (⟨"ValueBenchModel", "make", "()V"⟩, 44) := ⟨⟨by decide +kernel, by decide +kernel⟩, List.mem_of_getElem? (i := 788) (by decide +kernel), List.mem_of_getElem? (i := 954) (by decide +kernel), List.mem_of_getElem? (i := 955) (by decide +kernel)⟩
theorem lw_p30 : lw_okq (⟨"ValueBenchModel", "dominance", "()V"⟩, 44) := ⟨⟨by decide +kernel, by decide +kernel⟩, List.mem_of_getElem? (i := 788) (by decide +kernel), List.mem_of_getElem? (i := 958) (by decide +kernel), List.mem_of_getElem? (i := 959) (by decide +kernel)⟩
theorem lw_p31 : lw_okq (⟨"ValueBenchModel", "meet", "(I)V"⟩, 44) := ⟨⟨by decide +kernel, by decide +kernel⟩, List.mem_of_getElem? (i := 788) (by decide +kernel), List.mem_of_getElem? (i := 962) (by decide +kernel), List.mem_of_getElem? (i := 963) (by decide +kernel)⟩
def lw_privs_2 : List (MethodName × Nat) := [(⟨"ValueBench$Classes", "operandsAgree", "(LValueBench$Values;II)Z"⟩, 3), (⟨"ValueBench$Classes", "together", "(LValueBench$Values;II)Z"⟩, 3), (⟨"ValueBench$Leaders", "leadOperands", "(LValueBench$Graph;LValueBench$Values;LValueBench$Classes;I)V"⟩, 3), (⟨"ValueBench$Leaders", "leader", "(LValueBench$Graph;LValueBench$Values;LValueBench$Classes;II)I"⟩, 3), (⟨"ValueBench$Leaders", "leadEmits", "(LValueBench$Program;LValueBench$Graph;LValueBench$Values;LValueBench$Classes;I)V"⟩, 3), (⟨"ValueBench", "aboutReached", "(II)I"⟩, 10), (⟨"ValueBench", "readsOf", "(Z)LValueBench$Reads;"⟩, 10), (⟨"ValueBench$ValueForm", "goes", "(I)Z"⟩, 7), (⟨"ValueBench$Machine", "followBlock", "(LValueBench$Form;)Z"⟩, 8), (⟨"ValueBench$Machine", "pay", "()Z"⟩, 8), (⟨"ValueBench$Machine", "follow", "(LValueBench$Form;I)V"⟩, 8), (⟨"ValueBench$Machine", "tell", "(I)V"⟩, 8), (⟨"ValueBenchModel", "isBlock", "(I)Z"⟩, 44), (⟨"ValueBenchModel", "make", "()V"⟩, 44), (⟨"ValueBenchModel", "dominance", "()V"⟩, 44), (⟨"ValueBenchModel", "meet", "(I)V"⟩, 44)]
theorem lw_r2 : ∀ q ∈ lw_privs_2, lw_okq q := List.forall_mem_cons.mpr ⟨lw_p16, List.forall_mem_cons.mpr ⟨lw_p17, List.forall_mem_cons.mpr ⟨lw_p18, List.forall_mem_cons.mpr ⟨lw_p19, List.forall_mem_cons.mpr ⟨lw_p20, List.forall_mem_cons.mpr ⟨lw_p21, List.forall_mem_cons.mpr ⟨lw_p22, List.forall_mem_cons.mpr ⟨lw_p23, List.forall_mem_cons.mpr ⟨lw_p24, List.forall_mem_cons.mpr ⟨lw_p25, List.forall_mem_cons.mpr ⟨lw_p26, List.forall_mem_cons.mpr ⟨lw_p27, List.forall_mem_cons.mpr ⟨lw_p28, List.forall_mem_cons.mpr ⟨lw_p29, List.forall_mem_cons.mpr ⟨lw_p30, List.forall_mem_cons.mpr ⟨lw_p31, fun _ h => absurd h List.not_mem_nil⟩⟩⟩⟩⟩⟩⟩⟩⟩⟩⟩⟩⟩⟩⟩⟩
theorem lw_p32 : lw_okq (⟨"ValueBenchModel", "leads", "(II)Z"⟩, 44) := ⟨⟨by decide +kernel, by decide +kernel⟩, List.mem_of_getElem? (i := 788) (by decide +kernel), List.mem_of_getElem? (i := 966) (by decide +kernel), List.mem_of_getElem? (i := 967) (by decide +kernel)⟩
theorem lw_p33 : lw_okq (⟨"ValueBenchModel", "howOf", "(I)I"⟩, 44) := ⟨⟨by decide +kernel, by decide +kernel⟩, List.mem_of_getElem? (i := 788) (by decide +kernel), List.mem_of_getElem? (i := 970) (by decide +kernel), List.mem_of_getElem? (i := 971) (by decide +kernel)⟩
theorem lw_p34 : lw_okq (⟨"ValueBenchModel", "dominates1", "(II)Z"⟩, 44) := ⟨⟨by decide +kernel, by decide +kernel⟩, List.mem_of_getElem? (i := 788) (by decide +kernel), List.mem_of_getElem? (i := 974) (by decide +kernel), List.mem_of_getElem? (i := 975) (by decide +kernel)⟩
theorem lw_p35 : lw_okq (⟨"ValueBenchModel", "choices", "()V"⟩, 44) := ⟨⟨by decide +kernel, by decide +kernel⟩, List.mem_of_getElem? (i := 788) (by decide +kernel), List.mem_of_getElem? (i := 978) (by decide +kernel), List.mem_of_getElem? (i := 979) (by decide +kernel)⟩
theorem lw_p36 : lw_okq (⟨"ValueBenchModel", "gives", "(II)Z"⟩, 44) := ⟨⟨by decide +kernel, by decide +kernel⟩, List.mem_of_getElem? (i := 788) (by decide +kernel), List.mem_of_getElem? (i := 982) (by decide +kernel), List.mem_of_getElem? (i := 983) (by decide +kernel)⟩
theorem lw_p37 : lw_okq (⟨"ValueBenchModel", "numbers", "()V"⟩, 44) := ⟨⟨by decide +kernel, by decide +kernel⟩, List.mem_of_getElem? (i := 788) (by decide +kernel), List.mem_of_getElem? (i := 986) (by decide +kernel), List.mem_of_getElem? (i := 987) (by decide +kernel)⟩
theorem lw_p38 : lw_okq (⟨"ValueBenchModel", "comes", "(IIIII)I"⟩, 44) := ⟨⟨by decide +kernel, by decide +kernel⟩, List.mem_of_getElem? (i := 788) (by decide +kernel), List.mem_of_getElem? (i := 990) (by decide +kernel), List.mem_of_getElem? (i := 991) (by decide +kernel)⟩
theorem lw_p39 : lw_okq (⟨"ValueBenchModel", "names", "()V"⟩, 44) := ⟨⟨by decide +kernel, by decide +kernel⟩, List.mem_of_getElem? (i := 788) (by decide +kernel), List.mem_of_getElem? (i := 994) (by decide +kernel), List.mem_of_getElem? (i := 995) (by decide +kernel)⟩
theorem lw_p40 : lw_okq (⟨"ValueBenchModel", "through", "(IIZ)V"⟩, 44) := ⟨⟨by decide +kernel, by decide +kernel⟩, List.mem_of_getElem? (i := 788) (by decide +kernel), List.mem_of_getElem? (i := 998) (by decide +kernel), List.mem_of_getElem? (i := 999) (by decide +kernel)⟩
theorem lw_p41 : lw_okq (⟨"ValueBenchModel", "adds", "(II)V"⟩, 44) := ⟨⟨by decide +kernel, by decide +kernel⟩, List.mem_of_getElem? (i := 788) (by decide +kernel), List.mem_of_getElem? (i := 1002) (by decide +kernel), List.mem_of_getElem? (i := 1003) (by decide +kernel)⟩
theorem lw_p42 : lw_okq (⟨"ValueBenchModel", "classes", "()V"⟩, 44) := ⟨⟨by decide +kernel, by decide +kernel⟩, List.mem_of_getElem? (i := 788) (by decide +kernel), List.mem_of_getElem? (i := 1006) (by decide +kernel), List.mem_of_getElem? (i := 1007) (by decide +kernel)⟩
theorem lw_p43 : lw_okq (⟨"ValueBenchModel", "isOneSort", "(II)Z"⟩, 44) := ⟨⟨by decide +kernel, by decide +kernel⟩, List.mem_of_getElem? (i := 788) (by decide +kernel), List.mem_of_getElem? (i := 1010) (by decide +kernel), List.mem_of_getElem? (i := 1011) (by decide +kernel)⟩
theorem lw_p44 : lw_okq (⟨"ValueBenchModel", "hangTogether", "(II)Z"⟩, 44) := ⟨⟨by decide +kernel, by decide +kernel⟩, List.mem_of_getElem? (i := 788) (by decide +kernel), List.mem_of_getElem? (i := 1014) (by decide +kernel), List.mem_of_getElem? (i := 1015) (by decide +kernel)⟩
theorem lw_p45 : lw_okq (⟨"ValueBenchModel", "redundant", "()V"⟩, 44) := ⟨⟨by decide +kernel, by decide +kernel⟩, List.mem_of_getElem? (i := 788) (by decide +kernel), List.mem_of_getElem? (i := 1021) (by decide +kernel), List.mem_of_getElem? (i := 1022) (by decide +kernel)⟩
theorem lw_p46 : lw_okq (⟨"ValueBenchModel", "isAhead", "(III)Z"⟩, 44) := ⟨⟨by decide +kernel, by decide +kernel⟩, List.mem_of_getElem? (i := 788) (by decide +kernel), List.mem_of_getElem? (i := 1025) (by decide +kernel), List.mem_of_getElem? (i := 1026) (by decide +kernel)⟩
theorem lw_p47 : lw_okq (⟨"ValueBenchModel", "chooses", "(III)V"⟩, 44) := ⟨⟨by decide +kernel, by decide +kernel⟩, List.mem_of_getElem? (i := 788) (by decide +kernel), List.mem_of_getElem? (i := 1029) (by decide +kernel), List.mem_of_getElem? (i := 1030) (by decide +kernel)⟩
def lw_privs_3 : List (MethodName × Nat) := [(⟨"ValueBenchModel", "leads", "(II)Z"⟩, 44), (⟨"ValueBenchModel", "howOf", "(I)I"⟩, 44), (⟨"ValueBenchModel", "dominates1", "(II)Z"⟩, 44), (⟨"ValueBenchModel", "choices", "()V"⟩, 44), (⟨"ValueBenchModel", "gives", "(II)Z"⟩, 44), (⟨"ValueBenchModel", "numbers", "()V"⟩, 44), (⟨"ValueBenchModel", "comes", "(IIIII)I"⟩, 44), (⟨"ValueBenchModel", "names", "()V"⟩, 44), (⟨"ValueBenchModel", "through", "(IIZ)V"⟩, 44), (⟨"ValueBenchModel", "adds", "(II)V"⟩, 44), (⟨"ValueBenchModel", "classes", "()V"⟩, 44), (⟨"ValueBenchModel", "isOneSort", "(II)Z"⟩, 44), (⟨"ValueBenchModel", "hangTogether", "(II)Z"⟩, 44), (⟨"ValueBenchModel", "redundant", "()V"⟩, 44), (⟨"ValueBenchModel", "isAhead", "(III)Z"⟩, 44), (⟨"ValueBenchModel", "chooses", "(III)V"⟩, 44)]
theorem lw_r3 : ∀ q ∈ lw_privs_3, lw_okq q := List.forall_mem_cons.mpr ⟨lw_p32, List.forall_mem_cons.mpr ⟨lw_p33, List.forall_mem_cons.mpr ⟨lw_p34, List.forall_mem_cons.mpr ⟨lw_p35, List.forall_mem_cons.mpr ⟨lw_p36, List.forall_mem_cons.mpr ⟨lw_p37, List.forall_mem_cons.mpr ⟨lw_p38, List.forall_mem_cons.mpr ⟨lw_p39, List.forall_mem_cons.mpr ⟨lw_p40, List.forall_mem_cons.mpr ⟨lw_p41, List.forall_mem_cons.mpr ⟨lw_p42, List.forall_mem_cons.mpr ⟨lw_p43, List.forall_mem_cons.mpr ⟨lw_p44, List.forall_mem_cons.mpr ⟨lw_p45, List.forall_mem_cons.mpr ⟨lw_p46, List.forall_mem_cons.mpr ⟨lw_p47, fun _ h => absurd h List.not_mem_nil⟩⟩⟩⟩⟩⟩⟩⟩⟩⟩⟩⟩⟩⟩⟩⟩
theorem lw_p48 : lw_okq (⟨"ValueBenchModel", "predecessorAt", "(II)I"⟩, 44) := ⟨⟨by decide +kernel, by decide +kernel⟩, List.mem_of_getElem? (i := 788) (by decide +kernel), List.mem_of_getElem? (i := 1033) (by decide +kernel), List.mem_of_getElem? (i := 1034) (by decide +kernel)⟩
theorem lw_p49 : lw_okq (⟨"ValueBenchModel", "ledOperand", "(II)I"⟩, 44) := ⟨⟨by decide +kernel, by decide +kernel⟩, List.mem_of_getElem? (i := 788) (by decide +kernel), List.mem_of_getElem? (i := 1037) (by decide +kernel), List.mem_of_getElem? (i := 1038) (by decide +kernel)⟩
theorem lw_p50 : lw_okq (⟨"ValueBenchModel", "leader", "(III)I"⟩, 44) := ⟨⟨by decide +kernel, by decide +kernel⟩, List.mem_of_getElem? (i := 788) (by decide +kernel), List.mem_of_getElem? (i := 1041) (by decide +kernel), List.mem_of_getElem? (i := 1042) (by decide +kernel)⟩
theorem lw_p51 : lw_okq (⟨"ValueBenchModel", "costs", "(III)Z"⟩, 44) := ⟨⟨by decide +kernel, by decide +kernel⟩, List.mem_of_getElem? (i := 788) (by decide +kernel), List.mem_of_getElem? (i := 1045) (by decide +kernel), List.mem_of_getElem? (i := 1046) (by decide +kernel)⟩
theorem lw_p52 : lw_okq (⟨"ValueBenchModel", "takes", "()Z"⟩, 44) := ⟨⟨by decide +kernel, by decide +kernel⟩, List.mem_of_getElem? (i := 788) (by decide +kernel), List.mem_of_getElem? (i := 1049) (by decide +kernel), List.mem_of_getElem? (i := 1050) (by decide +kernel)⟩
theorem lw_p53 : lw_okq (⟨"ValueBenchModel", "acts", "(III)V"⟩, 44) := ⟨⟨by decide +kernel, by decide +kernel⟩, List.mem_of_getElem? (i := 788) (by decide +kernel), List.mem_of_getElem? (i := 1053) (by decide +kernel), List.mem_of_getElem? (i := 1054) (by decide +kernel)⟩
theorem lw_p54 : lw_okq (⟨"ValueBenchModel", "emit", "(I)V"⟩, 44) := ⟨⟨by decide +kernel, by decide +kernel⟩, List.mem_of_getElem? (i := 788) (by decide +kernel), List.mem_of_getElem? (i := 1057) (by decide +kernel), List.mem_of_getElem? (i := 1058) (by decide +kernel)⟩
theorem lw_p55 : lw_okq (⟨"ValueBenchModel", "readAt", "(III)I"⟩, 44) := ⟨⟨by decide +kernel, by decide +kernel⟩, List.mem_of_getElem? (i := 788) (by decide +kernel), List.mem_of_getElem? (i := 1064) (by decide +kernel), List.mem_of_getElem? (i := 1065) (by decide +kernel)⟩
theorem lw_p56 : lw_okq (⟨"ValueBenchModel", "yOf", "(I)I"⟩, 44) := ⟨⟨by decide +kernel, by decide +kernel⟩, List.mem_of_getElem? (i := 788) (by decide +kernel), List.mem_of_getElem? (i := 1068) (by decide +kernel), List.mem_of_getElem? (i := 1069) (by decide +kernel)⟩
theorem lw_p57 : lw_okq (⟨"ValueBenchModel", "reads", "(IZ)I"⟩, 44) := ⟨⟨by decide +kernel, by decide +kernel⟩, List.mem_of_getElem? (i := 788) (by decide +kernel), List.mem_of_getElem? (i := 1072) (by decide +kernel), List.mem_of_getElem? (i := 1073) (by decide +kernel)⟩
theorem lw_p58 : lw_okq (⟨"ValueBenchModel", "areReached", "(II)Z"⟩, 44) := ⟨⟨by decide +kernel, by decide +kernel⟩, List.mem_of_getElem? (i := 788) (by decide +kernel), List.mem_of_getElem? (i := 1100) (by decide +kernel), List.mem_of_getElem? (i := 1101) (by decide +kernel)⟩
theorem lw_p59 : lw_okq (⟨"ValueBenchModel", "isValue", "(I)Z"⟩, 44) := ⟨⟨by decide +kernel, by decide +kernel⟩, List.mem_of_getElem? (i := 788) (by decide +kernel), List.mem_of_getElem? (i := 1112) (by decide +kernel), List.mem_of_getElem? (i := 1113) (by decide +kernel)⟩
theorem lw_p60 : lw_okq (⟨"ValueBenchModel", "isOperand", "(II)Z"⟩, 44) := ⟨⟨by decide +kernel, by decide +kernel⟩, List.mem_of_getElem? (i := 788) (by decide +kernel), List.mem_of_getElem? (i := 1120) (by decide +kernel), List.mem_of_getElem? (i := 1121) (by decide +kernel)⟩
def lw_privs_4 : List (MethodName × Nat) := [(⟨"ValueBenchModel", "predecessorAt", "(II)I"⟩, 44), (⟨"ValueBenchModel", "ledOperand", "(II)I"⟩, 44), (⟨"ValueBenchModel", "leader", "(III)I"⟩, 44), (⟨"ValueBenchModel", "costs", "(III)Z"⟩, 44), (⟨"ValueBenchModel", "takes", "()Z"⟩, 44), (⟨"ValueBenchModel", "acts", "(III)V"⟩, 44), (⟨"ValueBenchModel", "emit", "(I)V"⟩, 44), (⟨"ValueBenchModel", "readAt", "(III)I"⟩, 44), (⟨"ValueBenchModel", "yOf", "(I)I"⟩, 44), (⟨"ValueBenchModel", "reads", "(IZ)I"⟩, 44), (⟨"ValueBenchModel", "areReached", "(II)Z"⟩, 44), (⟨"ValueBenchModel", "isValue", "(I)Z"⟩, 44), (⟨"ValueBenchModel", "isOperand", "(II)Z"⟩, 44)]
theorem lw_r4 : ∀ q ∈ lw_privs_4, lw_okq q := List.forall_mem_cons.mpr ⟨lw_p48, List.forall_mem_cons.mpr ⟨lw_p49, List.forall_mem_cons.mpr ⟨lw_p50, List.forall_mem_cons.mpr ⟨lw_p51, List.forall_mem_cons.mpr ⟨lw_p52, List.forall_mem_cons.mpr ⟨lw_p53, List.forall_mem_cons.mpr ⟨lw_p54, List.forall_mem_cons.mpr ⟨lw_p55, List.forall_mem_cons.mpr ⟨lw_p56, List.forall_mem_cons.mpr ⟨lw_p57, List.forall_mem_cons.mpr ⟨lw_p58, List.forall_mem_cons.mpr ⟨lw_p59, List.forall_mem_cons.mpr ⟨lw_p60, fun _ h => absurd h List.not_mem_nil⟩⟩⟩⟩⟩⟩⟩⟩⟩⟩⟩⟩⟩
def lw_privs : List (MethodName × Nat) := lw_privs_1 ++ (lw_privs_2 ++ (lw_privs_3 ++ (lw_privs_4)))
def lw_tbl : List Cond := k2_sels lw_privs ++ tables_1
theorem lw_privs_ok : ∀ q ∈ lw_privs, lw_okq q := by
  show ∀ q ∈ lw_privs_1 ++ (lw_privs_2 ++ (lw_privs_3 ++ (lw_privs_4))), lw_okq q
  exact List.forall_mem_append.mpr ⟨lw_r1, List.forall_mem_append.mpr ⟨lw_r2, List.forall_mem_append.mpr ⟨lw_r3, lw_r4⟩⟩⟩

def RX0 : String := "ValueBench$Classes"
def TX0 : u_T := fun k => match k with
  | 0 => ("ValueBench$Classes", "least", "[I", true)
  | 1 => ("ValueBench$Classes", "finer", "[I", true)
  | _ => ("ValueBench$Classes", "size", "I", false)
def tyX0 : Nat → FieldType := fun k => match k with
  | 0 => .array .int
  | 1 => .array .int
  | _ => .int
theorem nmX0 : ∀ a, a < 3 → ∀ b, b < 3 → a ≠ b → (TX0 a).2.1 ≠ (TX0 b).2.1 := by decide +kernel
theorem tyX0_ok : ∀ k, k < 3 → parseFieldDescriptor (TX0 k).2.2.1 = some (tyX0 k) := by decide +kernel
abbrev cX0_init : ByteArray := prog_2_method_1_code
def yX0_init : MethodName := ⟨RX0, "<init>", "()V"⟩
abbrev cX0_part : ByteArray := prog_2_method_2_code
def yX0_part : MethodName := ⟨RX0, "part", "(LValueBench$Values;)V"⟩
abbrev cX0_leastAlike : ByteArray := prog_2_method_3_code
def yX0_leastAlike : MethodName := ⟨RX0, "leastAlike", "(LValueBench$Values;I)I"⟩
abbrev cX0_alike : ByteArray := prog_2_method_4_code
def yX0_alike : MethodName := ⟨RX0, "alike", "(LValueBench$Values;II)Z"⟩
abbrev cX0_partFiner : ByteArray := prog_2_method_5_code
def yX0_partFiner : MethodName := ⟨RX0, "partFiner", "(LValueBench$Values;)Z"⟩
abbrev cX0_leastTogether : ByteArray := prog_2_method_6_code
def yX0_leastTogether : MethodName := ⟨RX0, "leastTogether", "(LValueBench$Values;I)I"⟩
abbrev cX0_operandsAgree : ByteArray := prog_2_method_7_code
def yX0_operandsAgree : MethodName := ⟨RX0, "operandsAgree", "(LValueBench$Values;II)Z"⟩
abbrev cX0_together : ByteArray := prog_2_method_8_code
def yX0_together : MethodName := ⟨RX0, "together", "(LValueBench$Values;II)Z"⟩
abbrev cX0_isEven : ByteArray := prog_2_method_9_code
def yX0_isEven : MethodName := ⟨RX0, "isEven", "(I)Z"⟩
def RX1 : String := "ValueBench$Form"
def TX1 : u_T := fun k => match k with
  | _ => ("", "", "", false)
def tyX1 : Nat → FieldType := fun k => match k with
  | _ => .int
theorem nmX1 : ∀ a, a < 0 → ∀ b, b < 0 → a ≠ b → (TX1 a).2.1 ≠ (TX1 b).2.1 := by decide +kernel
theorem tyX1_ok : ∀ k, k < 0 → parseFieldDescriptor (TX1 k).2.2.1 = some (tyX1 k) := by decide +kernel
abbrev cX1_init : ByteArray := prog_3_method_1_code
def yX1_init : MethodName := ⟨RX1, "<init>", "(I)V"⟩
def RX2 : String := "ValueBench$Graph"
def TX2 : u_T := fun k => match k with
  | 0 => ("ValueBench$Graph", "tells", "[I", true)
  | 1 => ("ValueBench$Graph", "comes", "[I", true)
  | 2 => ("ValueBench$Graph", "dominated", "[I", true)
  | 3 => ("ValueBench$Graph", "dominators", "[I", true)
  | 4 => ("ValueBench$Graph", "parent", "[I", true)
  | 5 => ("ValueBench$Graph", "frontier", "[I", true)
  | _ => ("ValueBench$Graph", "reached", "I", false)
def tyX2 : Nat → FieldType := fun k => match k with
  | 0 => .array .int
  | 1 => .array .int
  | 2 => .array .int
  | 3 => .array .int
  | 4 => .array .int
  | 5 => .array .int
  | _ => .int
theorem nmX2 : ∀ a, a < 7 → ∀ b, b < 7 → a ≠ b → (TX2 a).2.1 ≠ (TX2 b).2.1 := by decide +kernel
theorem tyX2_ok : ∀ k, k < 7 → parseFieldDescriptor (TX2 k).2.2.1 = some (tyX2 k) := by decide +kernel
abbrev cX2_init : ByteArray := prog_4_method_1_code
def yX2_init : MethodName := ⟨RX2, "<init>", "()V"⟩
abbrev cX2_isIn : ByteArray := prog_4_method_2_code
def yX2_isIn : MethodName := ⟨RX2, "isIn", "(II)Z"⟩
abbrev cX2_nthOf : ByteArray := prog_4_method_3_code
def yX2_nthOf : MethodName := ⟨RX2, "nthOf", "(II)I"⟩
abbrev cX2_placeIn : ByteArray := prog_4_method_4_code
def yX2_placeIn : MethodName := ⟨RX2, "placeIn", "(II)I"⟩
abbrev cX2_union : ByteArray := prog_4_method_5_code
def yX2_union : MethodName := ⟨RX2, "union", "(I[I)I"⟩
abbrev cX2_closure : ByteArray := prog_4_method_6_code
def yX2_closure : MethodName := ⟨RX2, "closure", "(I[II)I"⟩
abbrev cX2_turnAround : ByteArray := prog_4_method_7_code
def yX2_turnAround : MethodName := ⟨RX2, "turnAround", "([I[I)V"⟩
abbrev cX2_reaches : ByteArray := prog_4_method_8_code
def yX2_reaches : MethodName := ⟨RX2, "reaches", "(I)Z"⟩
abbrev cX2_draw : ByteArray := prog_4_method_9_code
def yX2_draw : MethodName := ⟨RX2, "draw", "(LValueBench$Program;)V"⟩
abbrev cX2_parentOf : ByteArray := prog_4_method_10_code
def yX2_parentOf : MethodName := ⟨RX2, "parentOf", "(I)I"⟩
abbrev cX2_frontierOf : ByteArray := prog_4_method_11_code
def yX2_frontierOf : MethodName := ⟨RX2, "frontierOf", "(I)I"⟩
def RX3 : String := "ValueBench$Leaders"
def TX3 : u_T := fun k => match k with
  | 0 => ("ValueBench$Leaders", "redundant", "[Z", true)
  | 1 => ("ValueBench$Leaders", "reads", "LValueBench$Reads;", true)
  | _ => ("ValueBench$Leaders", "redundantOnes", "I", false)
def tyX3 : Nat → FieldType := fun k => match k with
  | 0 => .array .boolean
  | 1 => .object "ValueBench$Reads"
  | _ => .int
theorem nmX3 : ∀ a, a < 3 → ∀ b, b < 3 → a ≠ b → (TX3 a).2.1 ≠ (TX3 b).2.1 := by decide +kernel
theorem tyX3_ok : ∀ k, k < 3 → parseFieldDescriptor (TX3 k).2.2.1 = some (tyX3 k) := by decide +kernel
abbrev cX3_init : ByteArray := prog_5_method_1_code
def yX3_init : MethodName := ⟨RX3, "<init>", "()V"⟩
abbrev cX3_lead : ByteArray := prog_5_method_2_code
def yX3_lead : MethodName := ⟨RX3, "lead", "(LValueBench$Program;LValueBench$Graph;LValueBench$Values;LValueBench$Classes;)V"⟩
abbrev cX3_isLed : ByteArray := prog_5_method_3_code
def yX3_isLed : MethodName := ⟨RX3, "isLed", "(LValueBench$Graph;LValueBench$Values;LValueBench$Classes;I)Z"⟩
abbrev cX3_leader : ByteArray := prog_5_method_4_code
def yX3_leader : MethodName := ⟨RX3, "leader", "(LValueBench$Graph;LValueBench$Values;LValueBench$Classes;II)I"⟩
abbrev cX3_leadOperands : ByteArray := prog_5_method_5_code
def yX3_leadOperands : MethodName := ⟨RX3, "leadOperands", "(LValueBench$Graph;LValueBench$Values;LValueBench$Classes;I)V"⟩
abbrev cX3_leadEmits : ByteArray := prog_5_method_6_code
def yX3_leadEmits : MethodName := ⟨RX3, "leadEmits", "(LValueBench$Program;LValueBench$Graph;LValueBench$Values;LValueBench$Classes;I)V"⟩
def RX4 : String := "ValueBench$Machine"
def TX4 : u_T := fun k => match k with
  | 0 => ("ValueBench$Machine", "program", "LValueBench$Program;", true)
  | 1 => ("ValueBench$Machine", "inputs", "[I", true)
  | 2 => ("ValueBench$Machine", "kept", "[I", true)
  | 3 => ("ValueBench$Machine", "limit", "I", false)
  | 4 => ("ValueBench$Machine", "returned", "I", false)
  | 5 => ("ValueBench$Machine", "used", "I", false)
  | 6 => ("ValueBench$Machine", "numbers", "I", false)
  | _ => ("ValueBench$Machine", "at", "I", false)
def tyX4 : Nat → FieldType := fun k => match k with
  | 0 => .object "ValueBench$Program"
  | 1 => .array .int
  | 2 => .array .int
  | 3 => .int
  | 4 => .int
  | 5 => .int
  | 6 => .int
  | _ => .int
theorem nmX4 : ∀ a, a < 8 → ∀ b, b < 8 → a ≠ b → (TX4 a).2.1 ≠ (TX4 b).2.1 := by decide +kernel
theorem tyX4_ok : ∀ k, k < 8 → parseFieldDescriptor (TX4 k).2.2.1 = some (tyX4 k) := by decide +kernel
abbrev cX4_init : ByteArray := prog_6_method_1_code
def yX4_init : MethodName := ⟨RX4, "<init>", "(LValueBench$Program;)V"⟩
abbrev cX4_takeInputs : ByteArray := prog_6_method_2_code
def yX4_takeInputs : MethodName := ⟨RX4, "takeInputs", "(IIII)V"⟩
abbrev cX4_perform : ByteArray := prog_6_method_3_code
def yX4_perform : MethodName := ⟨RX4, "perform", "(LValueBench$Form;)I"⟩
abbrev cX4_pay : ByteArray := prog_6_method_4_code
def yX4_pay : MethodName := ⟨RX4, "pay", "()Z"⟩
abbrev cX4_followBlock : ByteArray := prog_6_method_5_code
def yX4_followBlock : MethodName := ⟨RX4, "followBlock", "(LValueBench$Form;)Z"⟩
abbrev cX4_follow : ByteArray := prog_6_method_6_code
def yX4_follow : MethodName := ⟨RX4, "follow", "(LValueBench$Form;I)V"⟩
abbrev cX4_tell : ByteArray := prog_6_method_7_code
def yX4_tell : MethodName := ⟨RX4, "tell", "(I)V"⟩
abbrev cX4_compute : ByteArray := prog_6_method_8_code
def yX4_compute : MethodName := ⟨RX4, "compute", "(III)I"⟩
abbrev cX4_divide : ByteArray := prog_6_method_9_code
def yX4_divide : MethodName := ⟨RX4, "divide", "(II)I"⟩
def RX5 : String := "ValueBench$Program"
def TX5 : u_T := fun k => match k with
  | 0 => ("ValueBench$Program", "first", "[I", true)
  | 1 => ("ValueBench$Program", "kind", "[I", true)
  | 2 => ("ValueBench$Program", "x", "[I", true)
  | 3 => ("ValueBench$Program", "y", "[I", true)
  | 4 => ("ValueBench$Program", "z", "[I", true)
  | 5 => ("ValueBench$Program", "how", "[I", true)
  | 6 => ("ValueBench$Program", "endY", "[I", true)
  | 7 => ("ValueBench$Program", "endB", "[I", true)
  | 8 => ("ValueBench$Program", "endC", "[I", true)
  | _ => ("ValueBench$Program", "blocks", "I", false)
def tyX5 : Nat → FieldType := fun k => match k with
  | 0 => .array .int
  | 1 => .array .int
  | 2 => .array .int
  | 3 => .array .int
  | 4 => .array .int
  | 5 => .array .int
  | 6 => .array .int
  | 7 => .array .int
  | 8 => .array .int
  | _ => .int
theorem nmX5 : ∀ a, a < 10 → ∀ b, b < 10 → a ≠ b → (TX5 a).2.1 ≠ (TX5 b).2.1 := by decide +kernel
theorem tyX5_ok : ∀ k, k < 10 → parseFieldDescriptor (TX5 k).2.2.1 = some (tyX5 k) := by decide +kernel
abbrev cX5_init : ByteArray := prog_7_method_1_code
def yX5_init : MethodName := ⟨RX5, "<init>", "()V"⟩
abbrev cX5_isVariable : ByteArray := prog_7_method_2_code
def yX5_isVariable : MethodName := ⟨RX5, "isVariable", "(I)Z"⟩
abbrev cX5_isBlockNumber : ByteArray := prog_7_method_3_code
def yX5_isBlockNumber : MethodName := ⟨RX5, "isBlockNumber", "(I)Z"⟩
abbrev cX5_fits : ByteArray := prog_7_method_4_code
def yX5_fits : MethodName := ⟨RX5, "fits", "(IIII)Z"⟩
abbrev cX5_endFits : ByteArray := prog_7_method_5_code
def yX5_endFits : MethodName := ⟨RX5, "endFits", "(IIII)Z"⟩
abbrev cX5_has : ByteArray := prog_7_method_6_code
def yX5_has : MethodName := ⟨RX5, "has", "(I)Z"⟩
abbrev cX5_instructions : ByteArray := prog_7_method_7_code
def yX5_instructions : MethodName := ⟨RX5, "instructions", "()I"⟩
abbrev cX5_insert : ByteArray := prog_7_method_8_code
def yX5_insert : MethodName := ⟨RX5, "insert", "(IIIII)V"⟩
abbrev cX5_insertAt : ByteArray := prog_7_method_9_code
def yX5_insertAt : MethodName := ⟨RX5, "insertAt", "([IIII)V"⟩
abbrev cX5_setEnd : ByteArray := prog_7_method_10_code
def yX5_setEnd : MethodName := ⟨RX5, "setEnd", "(IIIII)V"⟩
abbrev cX5_forget : ByteArray := prog_7_method_11_code
def yX5_forget : MethodName := ⟨RX5, "forget", "()V"⟩
abbrev cX5_endCounts : ByteArray := prog_7_method_12_code
def yX5_endCounts : MethodName := ⟨RX5, "endCounts", "(I)Z"⟩
abbrev cX5_howCounts : ByteArray := prog_7_method_13_code
def yX5_howCounts : MethodName := ⟨RX5, "howCounts", "(I)I"⟩
abbrev cX5_endVariable : ByteArray := prog_7_method_14_code
def yX5_endVariable : MethodName := ⟨RX5, "endVariable", "(I)I"⟩
abbrev cX5_next : ByteArray := prog_7_method_15_code
def yX5_next : MethodName := ⟨RX5, "next", "(IZ)I"⟩
abbrev cX5_toldBlocks : ByteArray := prog_7_method_16_code
def yX5_toldBlocks : MethodName := ⟨RX5, "toldBlocks", "(I)I"⟩
abbrev cX5_nthEmit : ByteArray := prog_7_method_17_code
def yX5_nthEmit : MethodName := ⟨RX5, "nthEmit", "(II)I"⟩
def RX6 : String := "ValueBench$Reads"
def TX6 : u_T := fun k => match k with
  | 0 => ("ValueBench$Reads", "operands", "[I", true)
  | 1 => ("ValueBench$Reads", "emits", "[I", true)
  | _ => ("ValueBench$Reads", "ends", "[I", true)
def tyX6 : Nat → FieldType := fun k => match k with
  | 0 => .array .int
  | 1 => .array .int
  | _ => .array .int
theorem nmX6 : ∀ a, a < 3 → ∀ b, b < 3 → a ≠ b → (TX6 a).2.1 ≠ (TX6 b).2.1 := by decide +kernel
theorem tyX6_ok : ∀ k, k < 3 → parseFieldDescriptor (TX6 k).2.2.1 = some (tyX6 k) := by decide +kernel
abbrev cX6_init : ByteArray := prog_8_method_1_code
def yX6_init : MethodName := ⟨RX6, "<init>", "()V"⟩
def RX7 : String := "ValueBench$ToldForm"
def TX7 : u_T := fun k => match k with
  | 0 => ("ValueBench$Form", "cells", "[I", true)
  | _ => ("ValueBench$ToldForm", "program", "LValueBench$Program;", true)
def tyX7 : Nat → FieldType := fun k => match k with
  | 0 => .array .int
  | _ => .object "ValueBench$Program"
theorem nmX7 : ∀ a, a < 2 → ∀ b, b < 2 → a ≠ b → (TX7 a).2.1 ≠ (TX7 b).2.1 := by decide +kernel
theorem tyX7_ok : ∀ k, k < 2 → parseFieldDescriptor (TX7 k).2.2.1 = some (tyX7 k) := by decide +kernel
abbrev cX7_init : ByteArray := prog_9_method_1_code
def yX7_init : MethodName := ⟨RX7, "<init>", "(LValueBench$Program;)V"⟩
abbrev cX7_begin : ByteArray := prog_9_method_2_code
def yX7_begin : MethodName := ⟨RX7, "begin", "(II)V"⟩
abbrev cX7_keeps : ByteArray := prog_9_method_3_code
def yX7_keeps : MethodName := ⟨RX7, "keeps", "(I)Z"⟩
abbrev cX7_target : ByteArray := prog_9_method_4_code
def yX7_target : MethodName := ⟨RX7, "target", "(I)I"⟩
abbrev cX7_left : ByteArray := prog_9_method_5_code
def yX7_left : MethodName := ⟨RX7, "left", "(I)I"⟩
abbrev cX7_right : ByteArray := prog_9_method_6_code
def yX7_right : MethodName := ⟨RX7, "right", "(I)I"⟩
abbrev cX7_endCell : ByteArray := prog_9_method_7_code
def yX7_endCell : MethodName := ⟨RX7, "endCell", "(I)I"⟩
def RX8 : String := "ValueBench$ValueForm"
def TX8 : u_T := fun k => match k with
  | 0 => ("ValueBench$Form", "cells", "[I", true)
  | 1 => ("ValueBench$ValueForm", "program", "LValueBench$Program;", true)
  | 2 => ("ValueBench$ValueForm", "graph", "LValueBench$Graph;", true)
  | 3 => ("ValueBench$ValueForm", "values", "LValueBench$Values;", true)
  | 4 => ("ValueBench$ValueForm", "leaders", "LValueBench$Leaders;", true)
  | 5 => ("ValueBench$ValueForm", "reads", "LValueBench$Reads;", true)
  | _ => ("ValueBench$ValueForm", "taken", "[I", true)
def tyX8 : Nat → FieldType := fun k => match k with
  | 0 => .array .int
  | 1 => .object "ValueBench$Program"
  | 2 => .object "ValueBench$Graph"
  | 3 => .object "ValueBench$Values"
  | 4 => .object "ValueBench$Leaders"
  | 5 => .object "ValueBench$Reads"
  | _ => .array .int
theorem nmX8 : ∀ a, a < 7 → ∀ b, b < 7 → a ≠ b → (TX8 a).2.1 ≠ (TX8 b).2.1 := by decide +kernel
theorem tyX8_ok : ∀ k, k < 7 → parseFieldDescriptor (TX8 k).2.2.1 = some (tyX8 k) := by decide +kernel
abbrev cX8_init : ByteArray := prog_10_method_1_code
def yX8_init : MethodName := ⟨RX8, "<init>", "(LValueBench$Program;LValueBench$Graph;LValueBench$Values;LValueBench$Leaders;)V"⟩
abbrev cX8_goes : ByteArray := prog_10_method_2_code
def yX8_goes : MethodName := ⟨RX8, "goes", "(I)Z"⟩
abbrev cX8_begin : ByteArray := prog_10_method_3_code
def yX8_begin : MethodName := ⟨RX8, "begin", "(II)V"⟩
abbrev cX8_keeps : ByteArray := prog_10_method_4_code
def yX8_keeps : MethodName := ⟨RX8, "keeps", "(I)Z"⟩
abbrev cX8_target : ByteArray := prog_10_method_5_code
def yX8_target : MethodName := ⟨RX8, "target", "(I)I"⟩
abbrev cX8_left : ByteArray := prog_10_method_6_code
def yX8_left : MethodName := ⟨RX8, "left", "(I)I"⟩
abbrev cX8_right : ByteArray := prog_10_method_7_code
def yX8_right : MethodName := ⟨RX8, "right", "(I)I"⟩
abbrev cX8_endCell : ByteArray := prog_10_method_8_code
def yX8_endCell : MethodName := ⟨RX8, "endCell", "(I)I"⟩
def RX9 : String := "ValueBench$Values"
def TX9 : u_T := fun k => match k with
  | 0 => ("ValueBench$Values", "kind", "[I", true)
  | 1 => ("ValueBench$Values", "block", "[I", true)
  | 2 => ("ValueBench$Values", "variable", "[I", true)
  | 3 => ("ValueBench$Values", "number", "[I", true)
  | 4 => ("ValueBench$Values", "firstOperand", "[I", true)
  | 5 => ("ValueBench$Values", "reads", "LValueBench$Reads;", true)
  | 6 => ("ValueBench$Values", "given", "[I", true)
  | 7 => ("ValueBench$Values", "firstChoice", "[I", true)
  | 8 => ("ValueBench$Values", "choices", "[I", true)
  | 9 => ("ValueBench$Values", "choosing", "[I", true)
  | 10 => ("ValueBench$Values", "atEnd", "[I", true)
  | _ => ("ValueBench$Values", "size", "I", false)
def tyX9 : Nat → FieldType := fun k => match k with
  | 0 => .array .int
  | 1 => .array .int
  | 2 => .array .int
  | 3 => .array .int
  | 4 => .array .int
  | 5 => .object "ValueBench$Reads"
  | 6 => .array .int
  | 7 => .array .int
  | 8 => .array .int
  | 9 => .array .int
  | 10 => .array .int
  | _ => .int
theorem nmX9 : ∀ a, a < 12 → ∀ b, b < 12 → a ≠ b → (TX9 a).2.1 ≠ (TX9 b).2.1 := by decide +kernel
theorem tyX9_ok : ∀ k, k < 12 → parseFieldDescriptor (TX9 k).2.2.1 = some (tyX9 k) := by decide +kernel
abbrev cX9_init : ByteArray := prog_11_method_1_code
def yX9_init : MethodName := ⟨RX9, "<init>", "()V"⟩
abbrev cX9_has : ByteArray := prog_11_method_2_code
def yX9_has : MethodName := ⟨RX9, "has", "(I)Z"⟩
abbrev cX9_operandsOf : ByteArray := prog_11_method_3_code
def yX9_operandsOf : MethodName := ⟨RX9, "operandsOf", "(I)I"⟩
abbrev cX9_hasOperand : ByteArray := prog_11_method_4_code
def yX9_hasOperand : MethodName := ⟨RX9, "hasOperand", "(II)Z"⟩
abbrev cX9_allChoices : ByteArray := prog_11_method_5_code
def yX9_allChoices : MethodName := ⟨RX9, "allChoices", "()I"⟩
abbrev cX9_make : ByteArray := prog_11_method_6_code
def yX9_make : MethodName := ⟨RX9, "make", "(LValueBench$Program;LValueBench$Graph;)V"⟩
abbrev cX9_placeChoices : ByteArray := prog_11_method_7_code
def yX9_placeChoices : MethodName := ⟨RX9, "placeChoices", "(LValueBench$Program;LValueBench$Graph;)V"⟩
abbrev cX9_givingBlocks : ByteArray := prog_11_method_8_code
def yX9_givingBlocks : MethodName := ⟨RX9, "givingBlocks", "(LValueBench$Program;I)I"⟩
abbrev cX9_numberAll : ByteArray := prog_11_method_9_code
def yX9_numberAll : MethodName := ⟨RX9, "numberAll", "(LValueBench$Program;LValueBench$Graph;)V"⟩
abbrev cX9_numberChoices : ByteArray := prog_11_method_10_code
def yX9_numberChoices : MethodName := ⟨RX9, "numberChoices", "(LValueBench$Graph;I)V"⟩
abbrev cX9_numberInstructions : ByteArray := prog_11_method_11_code
def yX9_numberInstructions : MethodName := ⟨RX9, "numberInstructions", "(LValueBench$Program;I)V"⟩
abbrev cX9_add : ByteArray := prog_11_method_12_code
def yX9_add : MethodName := ⟨RX9, "add", "(IIIII)V"⟩
abbrev cX9_beginBlock : ByteArray := prog_11_method_13_code
def yX9_beginBlock : MethodName := ⟨RX9, "beginBlock", "(LValueBench$Graph;I)V"⟩
abbrev cX9_followBlock : ByteArray := prog_11_method_14_code
def yX9_followBlock : MethodName := ⟨RX9, "followBlock", "(LValueBench$Program;I)V"⟩
abbrev cX9_fillChoices : ByteArray := prog_11_method_15_code
def yX9_fillChoices : MethodName := ⟨RX9, "fillChoices", "(LValueBench$Graph;)V"⟩
abbrev cX9_fillChoice : ByteArray := prog_11_method_16_code
def yX9_fillChoice : MethodName := ⟨RX9, "fillChoice", "(II)V"⟩
def RX10 : String := "ValueBench"
def TX10 : u_T := fun k => match k with
  | 0 => ("ValueBench", "program", "LValueBench$Program;", true)
  | 1 => ("ValueBench", "graph", "LValueBench$Graph;", true)
  | 2 => ("ValueBench", "values", "LValueBench$Values;", true)
  | 3 => ("ValueBench", "classes", "LValueBench$Classes;", true)
  | 4 => ("ValueBench", "leaders", "LValueBench$Leaders;", true)
  | 5 => ("ValueBench", "toldForm", "LValueBench$Form;", true)
  | 6 => ("ValueBench", "valuedForm", "LValueBench$Form;", true)
  | 7 => ("ValueBench", "ledForm", "LValueBench$Form;", true)
  | 8 => ("ValueBench", "machine", "LValueBench$Machine;", true)
  | _ => ("ValueBench", "stale", "Z", false)
def tyX10 : Nat → FieldType := fun k => match k with
  | 0 => .object "ValueBench$Program"
  | 1 => .object "ValueBench$Graph"
  | 2 => .object "ValueBench$Values"
  | 3 => .object "ValueBench$Classes"
  | 4 => .object "ValueBench$Leaders"
  | 5 => .object "ValueBench$Form"
  | 6 => .object "ValueBench$Form"
  | 7 => .object "ValueBench$Form"
  | 8 => .object "ValueBench$Machine"
  | _ => .boolean
theorem nmX10 : ∀ a, a < 10 → ∀ b, b < 10 → a ≠ b → (TX10 a).2.1 ≠ (TX10 b).2.1 := by decide +kernel
theorem tyX10_ok : ∀ k, k < 10 → parseFieldDescriptor (TX10 k).2.2.1 = some (tyX10 k) := by decide +kernel
abbrev cX10_init : ByteArray := prog_1_method_1_code
def yX10_init : MethodName := ⟨RX10, "<init>", "()V"⟩
abbrev cX10_block : ByteArray := prog_1_method_2_code
def yX10_block : MethodName := ⟨RX10, "block", "()I"⟩
abbrev cX10_put : ByteArray := prog_1_method_3_code
def yX10_put : MethodName := ⟨RX10, "put", "(IIIII)I"⟩
abbrev cX10_ends : ByteArray := prog_1_method_4_code
def yX10_ends : MethodName := ⟨RX10, "ends", "(IIIII)Z"⟩
abbrev cX10_clear : ByteArray := prog_1_method_5_code
def yX10_clear : MethodName := ⟨RX10, "clear", "()I"⟩
abbrev cX10_about : ByteArray := prog_1_method_6_code
def yX10_about : MethodName := ⟨RX10, "about", "(II)I"⟩
abbrev cX10_aboutReached : ByteArray := prog_1_method_7_code
def yX10_aboutReached : MethodName := ⟨RX10, "aboutReached", "(II)I"⟩
abbrev cX10_predecessor : ByteArray := prog_1_method_8_code
def yX10_predecessor : MethodName := ⟨RX10, "predecessor", "(II)I"⟩
abbrev cX10_dominates : ByteArray := prog_1_method_9_code
def yX10_dominates : MethodName := ⟨RX10, "dominates", "(II)I"⟩
abbrev cX10_meets : ByteArray := prog_1_method_10_code
def yX10_meets : MethodName := ⟨RX10, "meets", "(II)I"⟩
abbrev cX10_value : ByteArray := prog_1_method_11_code
def yX10_value : MethodName := ⟨RX10, "value", "(II)I"⟩
abbrev cX10_operand : ByteArray := prog_1_method_12_code
def yX10_operand : MethodName := ⟨RX10, "operand", "(II)I"⟩
abbrev cX10_led : ByteArray := prog_1_method_13_code
def yX10_led : MethodName := ⟨RX10, "led", "(II)I"⟩
abbrev cX10_classOf : ByteArray := prog_1_method_14_code
def yX10_classOf : MethodName := ⟨RX10, "classOf", "(I)I"⟩
abbrev cX10_read : ByteArray := prog_1_method_15_code
def yX10_read : MethodName := ⟨RX10, "read", "(IZ)I"⟩
abbrev cX10_emits : ByteArray := prog_1_method_16_code
def yX10_emits : MethodName := ⟨RX10, "emits", "(IIZ)I"⟩
abbrev cX10_readsOf : ByteArray := prog_1_method_17_code
def yX10_readsOf : MethodName := ⟨RX10, "readsOf", "(Z)LValueBench$Reads;"⟩
abbrev cX10_run : ByteArray := prog_1_method_18_code
def yX10_run : MethodName := ⟨RX10, "run", "(IIIII)I"⟩
abbrev cX10_fuel : ByteArray := prog_1_method_19_code
def yX10_fuel : MethodName := ⟨RX10, "fuel", "(I)I"⟩
abbrev cX10_ran : ByteArray := prog_1_method_20_code
def yX10_ran : MethodName := ⟨RX10, "ran", "(I)I"⟩
abbrev cX10_emitted : ByteArray := prog_1_method_21_code
def yX10_emitted : MethodName := ⟨RX10, "emitted", "(I)I"⟩
abbrev cX10_count : ByteArray := prog_1_method_22_code
def yX10_count : MethodName := ⟨RX10, "count", "(I)I"⟩
abbrev cX10_refresh : ByteArray := prog_1_method_23_code
def yX10_refresh : MethodName := ⟨RX10, "refresh", "()V"⟩
def RX11 : String := "ValueBenchModel"
def TX11 : u_T := fun k => match k with
  | 0 => ("ValueBenchModel", "blocks", "I", false)
  | 1 => ("ValueBenchModel", "told", "I", false)
  | 2 => ("ValueBenchModel", "kind", "[I", true)
  | 3 => ("ValueBenchModel", "first", "[I", true)
  | 4 => ("ValueBenchModel", "second", "[I", true)
  | 5 => ("ValueBenchModel", "third", "[I", true)
  | 6 => ("ValueBenchModel", "size", "[I", true)
  | 7 => ("ValueBenchModel", "endHow", "[I", true)
  | 8 => ("ValueBenchModel", "endY", "[I", true)
  | 9 => ("ValueBenchModel", "endB", "[I", true)
  | 10 => ("ValueBenchModel", "endC", "[I", true)
  | 11 => ("ValueBenchModel", "isMade", "Z", false)
  | 12 => ("ValueBenchModel", "isReached", "[Z", true)
  | 13 => ("ValueBenchModel", "isMet", "[Z", true)
  | 14 => ("ValueBenchModel", "dom", "[Z", true)
  | 15 => ("ValueBenchModel", "parent", "[I", true)
  | 16 => ("ValueBenchModel", "meets", "[Z", true)
  | 17 => ("ValueBenchModel", "hasChoice", "[Z", true)
  | 18 => ("ValueBenchModel", "values", "I", false)
  | 19 => ("ValueBenchModel", "valueKind", "[I", true)
  | 20 => ("ValueBenchModel", "valueBlock", "[I", true)
  | 21 => ("ValueBenchModel", "valueVariable", "[I", true)
  | 22 => ("ValueBenchModel", "valueNumber", "[I", true)
  | 23 => ("ValueBenchModel", "valuePlace", "[I", true)
  | 24 => ("ValueBenchModel", "operand", "[I", true)
  | 25 => ("ValueBenchModel", "operands", "[I", true)
  | 26 => ("ValueBenchModel", "choiceOf", "[I", true)
  | 27 => ("ValueBenchModel", "valueOf", "[I", true)
  | 28 => ("ValueBenchModel", "atBegin", "[I", true)
  | 29 => ("ValueBenchModel", "atEnd", "[I", true)
  | 30 => ("ValueBenchModel", "now", "[I", true)
  | 31 => ("ValueBenchModel", "klass", "[I", true)
  | 32 => ("ValueBenchModel", "parted", "[I", true)
  | 33 => ("ValueBenchModel", "isRedundant", "[Z", true)
  | 34 => ("ValueBenchModel", "fuel", "I", false)
  | 35 => ("ValueBenchModel", "runReturned", "I", false)
  | 36 => ("ValueBenchModel", "runTook", "I", false)
  | 37 => ("ValueBenchModel", "runEmitted", "I", false)
  | 38 => ("ValueBenchModel", "runBlock", "I", false)
  | 39 => ("ValueBenchModel", "kept", "[I", true)
  | 40 => ("ValueBenchModel", "variable", "[I", true)
  | 41 => ("ValueBenchModel", "is", "[I", true)
  | 42 => ("ValueBenchModel", "next", "[I", true)
  | _ => ("ValueBenchModel", "inputs", "[I", true)
def tyX11 : Nat → FieldType := fun k => match k with
  | 0 => .int
  | 1 => .int
  | 2 => .array .int
  | 3 => .array .int
  | 4 => .array .int
  | 5 => .array .int
  | 6 => .array .int
  | 7 => .array .int
  | 8 => .array .int
  | 9 => .array .int
  | 10 => .array .int
  | 11 => .boolean
  | 12 => .array .boolean
  | 13 => .array .boolean
  | 14 => .array .boolean
  | 15 => .array .int
  | 16 => .array .boolean
  | 17 => .array .boolean
  | 18 => .int
  | 19 => .array .int
  | 20 => .array .int
  | 21 => .array .int
  | 22 => .array .int
  | 23 => .array .int
  | 24 => .array .int
  | 25 => .array .int
  | 26 => .array .int
  | 27 => .array .int
  | 28 => .array .int
  | 29 => .array .int
  | 30 => .array .int
  | 31 => .array .int
  | 32 => .array .int
  | 33 => .array .boolean
  | 34 => .int
  | 35 => .int
  | 36 => .int
  | 37 => .int
  | 38 => .int
  | 39 => .array .int
  | 40 => .array .int
  | 41 => .array .int
  | 42 => .array .int
  | _ => .array .int
theorem nmX11 : ∀ a, a < 44 → ∀ b, b < 44 → a ≠ b → (TX11 a).2.1 ≠ (TX11 b).2.1 := by decide +kernel
theorem tyX11_ok : ∀ k, k < 44 → parseFieldDescriptor (TX11 k).2.2.1 = some (tyX11 k) := by decide +kernel
abbrev cX11_init : ByteArray := prog_13_method_1_code
def yX11_init : MethodName := ⟨RX11, "<init>", "()V"⟩
abbrev cX11_isBlock : ByteArray := prog_13_method_2_code
def yX11_isBlock : MethodName := ⟨RX11, "isBlock", "(I)Z"⟩
abbrev cX11_isVariable : ByteArray := prog_13_method_3_code
def yX11_isVariable : MethodName := ⟨RX11, "isVariable", "(I)Z"⟩
abbrev cX11_block : ByteArray := prog_13_method_4_code
def yX11_block : MethodName := ⟨RX11, "block", "()I"⟩
abbrev cX11_put : ByteArray := prog_13_method_5_code
def yX11_put : MethodName := ⟨RX11, "put", "(IIIII)I"⟩
abbrev cX11_ends : ByteArray := prog_13_method_6_code
def yX11_ends : MethodName := ⟨RX11, "ends", "(IIIII)Z"⟩
abbrev cX11_clear : ByteArray := prog_13_method_7_code
def yX11_clear : MethodName := ⟨RX11, "clear", "()I"⟩
abbrev cX11_howOf : ByteArray := prog_13_method_8_code
def yX11_howOf : MethodName := ⟨RX11, "howOf", "(I)I"⟩
abbrev cX11_yOf : ByteArray := prog_13_method_9_code
def yX11_yOf : MethodName := ⟨RX11, "yOf", "(I)I"⟩
abbrev cX11_leads : ByteArray := prog_13_method_10_code
def yX11_leads : MethodName := ⟨RX11, "leads", "(II)Z"⟩
abbrev cX11_meet : ByteArray := prog_13_method_11_code
def yX11_meet : MethodName := ⟨RX11, "meet", "(I)V"⟩
abbrev cX11_dominates1 : ByteArray := prog_13_method_12_code
def yX11_dominates1 : MethodName := ⟨RX11, "dominates1", "(II)Z"⟩
abbrev cX11_dominance : ByteArray := prog_13_method_13_code
def yX11_dominance : MethodName := ⟨RX11, "dominance", "()V"⟩
abbrev cX11_gives : ByteArray := prog_13_method_14_code
def yX11_gives : MethodName := ⟨RX11, "gives", "(II)Z"⟩
abbrev cX11_choices : ByteArray := prog_13_method_15_code
def yX11_choices : MethodName := ⟨RX11, "choices", "()V"⟩
abbrev cX11_comes : ByteArray := prog_13_method_16_code
def yX11_comes : MethodName := ⟨RX11, "comes", "(IIIII)I"⟩
abbrev cX11_numbers : ByteArray := prog_13_method_17_code
def yX11_numbers : MethodName := ⟨RX11, "numbers", "()V"⟩
abbrev cX11_adds : ByteArray := prog_13_method_18_code
def yX11_adds : MethodName := ⟨RX11, "adds", "(II)V"⟩
abbrev cX11_names : ByteArray := prog_13_method_19_code
def yX11_names : MethodName := ⟨RX11, "names", "()V"⟩
abbrev cX11_through : ByteArray := prog_13_method_20_code
def yX11_through : MethodName := ⟨RX11, "through", "(IIZ)V"⟩
abbrev cX11_readAt : ByteArray := prog_13_method_21_code
def yX11_readAt : MethodName := ⟨RX11, "readAt", "(III)I"⟩
abbrev cX11_isEven : ByteArray := prog_13_method_22_code
def yX11_isEven : MethodName := ⟨RX11, "isEven", "(I)Z"⟩
abbrev cX11_isOneSort : ByteArray := prog_13_method_23_code
def yX11_isOneSort : MethodName := ⟨RX11, "isOneSort", "(II)Z"⟩
abbrev cX11_hangTogether : ByteArray := prog_13_method_24_code
def yX11_hangTogether : MethodName := ⟨RX11, "hangTogether", "(II)Z"⟩
abbrev cX11_classes : ByteArray := prog_13_method_25_code
def yX11_classes : MethodName := ⟨RX11, "classes", "()V"⟩
abbrev cX11_isAhead : ByteArray := prog_13_method_26_code
def yX11_isAhead : MethodName := ⟨RX11, "isAhead", "(III)Z"⟩
abbrev cX11_redundant : ByteArray := prog_13_method_27_code
def yX11_redundant : MethodName := ⟨RX11, "redundant", "()V"⟩
abbrev cX11_leader : ByteArray := prog_13_method_28_code
def yX11_leader : MethodName := ⟨RX11, "leader", "(III)I"⟩
abbrev cX11_make : ByteArray := prog_13_method_29_code
def yX11_make : MethodName := ⟨RX11, "make", "()V"⟩
abbrev cX11_ledOperand : ByteArray := prog_13_method_30_code
def yX11_ledOperand : MethodName := ⟨RX11, "ledOperand", "(II)I"⟩
abbrev cX11_predecessorAt : ByteArray := prog_13_method_31_code
def yX11_predecessorAt : MethodName := ⟨RX11, "predecessorAt", "(II)I"⟩
abbrev cX11_work : ByteArray := prog_13_method_32_code
def yX11_work : MethodName := ⟨RX11, "work", "(III)I"⟩
abbrev cX11_emit : ByteArray := prog_13_method_33_code
def yX11_emit : MethodName := ⟨RX11, "emit", "(I)V"⟩
abbrev cX11_takes : ByteArray := prog_13_method_34_code
def yX11_takes : MethodName := ⟨RX11, "takes", "()Z"⟩
abbrev cX11_run : ByteArray := prog_13_method_35_code
def yX11_run : MethodName := ⟨RX11, "run", "(IIIII)I"⟩
abbrev cX11_costs : ByteArray := prog_13_method_36_code
def yX11_costs : MethodName := ⟨RX11, "costs", "(III)Z"⟩
abbrev cX11_chooses : ByteArray := prog_13_method_37_code
def yX11_chooses : MethodName := ⟨RX11, "chooses", "(III)V"⟩
abbrev cX11_acts : ByteArray := prog_13_method_38_code
def yX11_acts : MethodName := ⟨RX11, "acts", "(III)V"⟩
abbrev cX11_reads : ByteArray := prog_13_method_39_code
def yX11_reads : MethodName := ⟨RX11, "reads", "(IZ)I"⟩
abbrev cX11_fuel : ByteArray := prog_13_method_40_code
def yX11_fuel : MethodName := ⟨RX11, "fuel", "(I)I"⟩
abbrev cX11_ran : ByteArray := prog_13_method_41_code
def yX11_ran : MethodName := ⟨RX11, "ran", "(I)I"⟩
abbrev cX11_emitted : ByteArray := prog_13_method_42_code
def yX11_emitted : MethodName := ⟨RX11, "emitted", "(I)I"⟩
abbrev cX11_about : ByteArray := prog_13_method_43_code
def yX11_about : MethodName := ⟨RX11, "about", "(II)I"⟩
abbrev cX11_predecessor : ByteArray := prog_13_method_44_code
def yX11_predecessor : MethodName := ⟨RX11, "predecessor", "(II)I"⟩
abbrev cX11_areReached : ByteArray := prog_13_method_45_code
def yX11_areReached : MethodName := ⟨RX11, "areReached", "(II)Z"⟩
abbrev cX11_dominates : ByteArray := prog_13_method_46_code
def yX11_dominates : MethodName := ⟨RX11, "dominates", "(II)I"⟩
abbrev cX11_meets : ByteArray := prog_13_method_47_code
def yX11_meets : MethodName := ⟨RX11, "meets", "(II)I"⟩
abbrev cX11_isValue : ByteArray := prog_13_method_48_code
def yX11_isValue : MethodName := ⟨RX11, "isValue", "(I)Z"⟩
abbrev cX11_value : ByteArray := prog_13_method_49_code
def yX11_value : MethodName := ⟨RX11, "value", "(II)I"⟩
abbrev cX11_isOperand : ByteArray := prog_13_method_50_code
def yX11_isOperand : MethodName := ⟨RX11, "isOperand", "(II)Z"⟩
abbrev cX11_operand : ByteArray := prog_13_method_51_code
def yX11_operand : MethodName := ⟨RX11, "operand", "(II)I"⟩
abbrev cX11_led : ByteArray := prog_13_method_52_code
def yX11_led : MethodName := ⟨RX11, "led", "(II)I"⟩
abbrev cX11_classOf : ByteArray := prog_13_method_53_code
def yX11_classOf : MethodName := ⟨RX11, "classOf", "(I)I"⟩
abbrev cX11_read : ByteArray := prog_13_method_54_code
def yX11_read : MethodName := ⟨RX11, "read", "(IZ)I"⟩
abbrev cX11_emits : ByteArray := prog_13_method_55_code
def yX11_emits : MethodName := ⟨RX11, "emits", "(IIZ)I"⟩
abbrev cX11_count : ByteArray := prog_13_method_56_code
def yX11_count : MethodName := ⟨RX11, "count", "(I)I"⟩
def RJ6 : String := "java/lang/Integer"
def TJ6 : u_T := fun k => match k with
  | _ => ("", "", "", false)
def tyJ6 : Nat → FieldType := fun k => match k with
  | _ => .int
abbrev cJ6_bitCount_0f7a4 : ByteArray := prog_14_method_49_code
def yJ6_bitCount_0f7a4 : MethodName := ⟨RJ6, "bitCount", "(I)I"⟩
def RJ10 : String := "java/lang/System"
def TJ10 : u_T := fun k => match k with
  | _ => ("", "", "", false)
def tyJ10 : Nat → FieldType := fun k => match k with
  | _ => .int
def RJ7 : String := "java/util/Arrays"
def TJ7 : u_T := fun k => match k with
  | _ => ("", "", "", false)
def tyJ7 : Nat → FieldType := fun k => match k with
  | _ => .int
abbrev cJ7_fill_53178 : ByteArray := prog_16_method_103_code
def yJ7_fill_53178 : MethodName := ⟨RJ7, "fill", "([II)V"⟩
