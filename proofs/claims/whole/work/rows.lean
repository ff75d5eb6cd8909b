section
-- ===== PART A: goes FIRST, ahead of the names: the tables' words, and 'selects' of the private methods out of them =====
/-- a private method of a class that the tables say can be made, by its rows of tables_1 -/
def lw_okq (q : MethodName × Nat) : Prop := (q.1.cls ≠ "java/lang/invoke/MethodHandle" ∧ q.1.cls ≠ "java/lang/invoke/VarHandle") ∧ Cond.instantiable q.1.cls q.2 ∈ tables_1 ∧ Cond.privateMethod q.1 ∈ tables_1 ∧ Cond.instanceMethod q.1 ∈ tables_1
theorem lw_p0 : lw_okq (⟨"ValueBench", "refresh", "()V"⟩, 10) := ⟨⟨by decide +kernel, by decide +kernel⟩, List.mem_of_getElem? (i := 17) (by decide +kernel), List.mem_of_getElem? (i := 436) (by decide +kernel), List.mem_of_getElem? (i := 437) (by decide +kernel)⟩
theorem lw_p1 : lw_okq (⟨"ValueBench$Program", "endCounts", "(I)Z"⟩, 10) := ⟨⟨by decide +kernel, by decide +kernel⟩, List.mem_of_getElem? (i := 25) (by decide +kernel), List.mem_of_getElem? (i := 453) (by decide +kernel), List.mem_of_getElem? (i := 454) (by decide +kernel)⟩
theorem lw_p2 : lw_okq (⟨"ValueBench$Graph", "parentOf", "(I)I"⟩, 7) := ⟨⟨by decide +kernel, by decide +kernel⟩, List.mem_of_getElem? (i := 79) (by decide +kernel), List.mem_of_getElem? (i := 470) (by decide +kernel), List.mem_of_getElem? (i := 471) (by decide +kernel)⟩
theorem lw_p3 : lw_okq (⟨"ValueBench$Graph", "frontierOf", "(I)I"⟩, 7) := ⟨⟨by decide +kernel, by decide +kernel⟩, List.mem_of_getElem? (i := 79) (by decide +kernel), List.mem_of_getElem? (i := 474) (by decide +kernel), List.mem_of_getElem? (i := 475) (by decide +kernel)⟩
theorem lw_p4 : lw_okq (⟨"ValueBench$Values", "placeChoices", "(LValueBench$Program;LValueBench$Graph;)V"⟩, 12) := ⟨⟨by decide +kernel, by decide +kernel⟩, List.mem_of_getElem? (i := 120) (by decide +kernel), List.mem_of_getElem? (i := 482) (by decide +kernel), List.mem_of_getElem? (i := 483) (by decide +kernel)⟩
theorem lw_p5 : lw_okq (⟨"ValueBench$Values", "numberAll", "(LValueBench$Program;LValueBench$Graph;)V"⟩, 12) := ⟨⟨by decide +kernel, by decide +kernel⟩, List.mem_of_getElem? (i := 120) (by decide +kernel), List.mem_of_getElem? (i := 491) (by decide +kernel), List.mem_of_getElem? (i := 492) (by decide +kernel)⟩
theorem lw_p6 : lw_okq (⟨"ValueBench$Values", "add", "(IIIII)V"⟩, 12) := ⟨⟨by decide +kernel, by decide +kernel⟩, List.mem_of_getElem? (i := 120) (by decide +kernel), List.mem_of_getElem? (i := 500) (by decide +kernel), List.mem_of_getElem? (i := 501) (by decide +kernel)⟩
theorem lw_p7 : lw_okq (⟨"ValueBench$Values", "numberChoices", "(LValueBench$Graph;I)V"⟩, 12) := ⟨⟨by decide +kernel, by decide +kernel⟩, List.mem_of_getElem? (i := 120) (by decide +kernel), List.mem_of_getElem? (i := 504) (by decide +kernel), List.mem_of_getElem? (i := 505) (by decide +kernel)⟩
theorem lw_p8 : lw_okq (⟨"ValueBench$Values", "numberInstructions", "(LValueBench$Program;I)V"⟩, 12) := ⟨⟨by decide +kernel, by decide +kernel⟩, List.mem_of_getElem? (i := 120) (by decide +kernel), List.mem_of_getElem? (i := 515) (by decide +kernel), List.mem_of_getElem? (i := 516) (by decide +kernel)⟩
theorem lw_p9 : lw_okq (⟨"ValueBench$Values", "beginBlock", "(LValueBench$Graph;I)V"⟩, 12) := ⟨⟨by decide +kernel, by decide +kernel⟩, List.mem_of_getElem? (i := 120) (by decide +kernel), List.mem_of_getElem? (i := 519) (by decide +kernel), List.mem_of_getElem? (i := 520) (by decide +kernel)⟩
theorem lw_p10 : lw_okq (⟨"ValueBench$Values", "followBlock", "(LValueBench$Program;I)V"⟩, 12) := ⟨⟨by decide +kernel, by decide +kernel⟩, List.mem_of_getElem? (i := 120) (by decide +kernel), List.mem_of_getElem? (i := 523) (by decide +kernel), List.mem_of_getElem? (i := 524) (by decide +kernel)⟩
theorem lw_p11 : lw_okq (⟨"ValueBench$Values", "fillChoices", "(LValueBench$Graph;)V"⟩, 12) := ⟨⟨by decide +kernel, by decide +kernel⟩, List.mem_of_getElem? (i := 120) (by decide +kernel), List.mem_of_getElem? (i := 532) (by decide +kernel), List.mem_of_getElem? (i := 533) (by decide +kernel)⟩
theorem lw_p12 : lw_okq (⟨"ValueBench$Values", "fillChoice", "(II)V"⟩, 12) := ⟨⟨by decide +kernel, by decide +kernel⟩, List.mem_of_getElem? (i := 120) (by decide +kernel), List.mem_of_getElem? (i := 536) (by decide +kernel), List.mem_of_getElem? (i := 537) (by decide +kernel)⟩
theorem lw_p13 : lw_okq (⟨"ValueBench$Classes", "leastAlike", "(LValueBench$Values;I)I"⟩, 3) := ⟨⟨by decide +kernel, by decide +kernel⟩, List.mem_of_getElem? (i := 216) (by decide +kernel), List.mem_of_getElem? (i := 544) (by decide +kernel), List.mem_of_getElem? (i := 545) (by decide +kernel)⟩
theorem lw_p14 : lw_okq (⟨"ValueBench$Classes", "partFiner", "(LValueBench$Values;)Z"⟩, 3) := ⟨⟨by decide +kernel, by decide +kernel⟩, List.mem_of_getElem? (i := 216) (by decide +kernel), List.mem_of_getElem? (i := 551) (by decide +kernel), List.mem_of_getElem? (i := 552) (by decide +kernel)⟩
theorem lw_p15 : lw_okq (⟨"ValueBench$Classes", "leastTogether", "(LValueBench$Values;I)I"⟩, 3) := ⟨⟨by decide +kernel, by decide +kernel⟩, List.mem_of_getElem? (i := 216) (by decide +kernel), List.mem_of_getElem? (i := 555) (by decide +kernel), List.mem_of_getElem? (i := 556) (by decide +kernel)⟩
def lw_privs_1 : List (MethodName × Nat) := [(⟨"ValueBench", "refresh", "()V"⟩, 10), (⟨"ValueBench$Program", "endCounts", "(I)Z"⟩, 10), (⟨"ValueBench$Graph", "parentOf", "(I)I"⟩, 7), (⟨"ValueBench$Graph", "frontierOf", "(I)I"⟩, 7), (⟨"ValueBench$Values", "placeChoices", "(LValueBench$Program;LValueBench$Graph;)V"⟩, 12), (⟨"ValueBench$Values", "numberAll", "(LValueBench$Program;LValueBench$Graph;)V"⟩, 12), (⟨"ValueBench$Values", "add", "(IIIII)V"⟩, 12), (⟨"ValueBench$Values", "numberChoices", "(LValueBench$Graph;I)V"⟩, 12), (⟨"ValueBench$Values", "numberInstructions", "(LValueBench$Program;I)V"⟩, 12), (⟨"ValueBench$Values", "beginBlock", "(LValueBench$Graph;I)V"⟩, 12), (⟨"ValueBench$Values", "followBlock", "(LValueBench$Program;I)V"⟩, 12), (⟨"ValueBench$Values", "fillChoices", "(LValueBench$Graph;)V"⟩, 12), (⟨"ValueBench$Values", "fillChoice", "(II)V"⟩, 12), (⟨"ValueBench$Classes", "leastAlike", "(LValueBench$Values;I)I"⟩, 3), (⟨"ValueBench$Classes", "partFiner", "(LValueBench$Values;)Z"⟩, 3), (⟨"ValueBench$Classes", "leastTogether", "(LValueBench$Values;I)I"⟩, 3)]
theorem lw_r1 : ∀ q ∈ lw_privs_1, lw_okq q := List.forall_mem_cons.mpr ⟨lw_p0, List.forall_mem_cons.mpr ⟨lw_p1, List.forall_mem_cons.mpr ⟨lw_p2, List.forall_mem_cons.mpr ⟨lw_p3, List.forall_mem_cons.mpr ⟨lw_p4, List.forall_mem_cons.mpr ⟨lw_p5, List.forall_mem_cons.mpr ⟨lw_p6, List.forall_mem_cons.mpr ⟨lw_p7, List.forall_mem_cons.mpr ⟨lw_p8, List.forall_mem_cons.mpr ⟨lw_p9, List.forall_mem_cons.mpr ⟨lw_p10, List.forall_mem_cons.mpr ⟨lw_p11, List.forall_mem_cons.mpr ⟨lw_p12, List.forall_mem_cons.mpr ⟨lw_p13, List.forall_mem_cons.mpr ⟨lw_p14, List.forall_mem_cons.mpr ⟨lw_p15, fun _ h => absurd h List.not_mem_nil⟩⟩⟩⟩⟩⟩⟩⟩⟩⟩⟩⟩⟩⟩⟩⟩
theorem lw_p16 : lw_okq (⟨"ValueBench$Classes", "operandsAgree", "(LValueBench$Values;II)Z"⟩, 3) := ⟨⟨by decide +kernel, by decide +kernel⟩, List.mem_of_getElem? (i := 216) (by decide +kernel), List.mem_of_getElem? (i := 559) (by decide +kernel), List.mem_of_getElem? (i := 560) (by decide +kernel)⟩
theorem lw_p17 : lw_okq (⟨"ValueBench$Classes", "together", "(LValueBench$Values;II)Z"⟩, 3) := ⟨⟨by decide +kernel, by decide +kernel⟩, List.mem_of_getElem? (i := 216) (by decide +kernel), List.mem_of_getElem? (i := 567) (by decide +kernel), List.mem_of_getElem? (i := 568) (by decide +kernel)⟩
theorem lw_p18 : lw_okq (⟨"ValueBench$Leaders", "leadOperands", "(LValueBench$Graph;LValueBench$Values;LValueBench$Classes;I)V"⟩, 3) := ⟨⟨by decide +kernel, by decide +kernel⟩, List.mem_of_getElem? (i := 235) (by decide +kernel), List.mem_of_getElem? (i := 583) (by decide +kernel), List.mem_of_getElem? (i := 584) (by decide +kernel)⟩
theorem lw_p19 : lw_okq (⟨"ValueBench$Leaders", "leader", "(LValueBench$Graph;LValueBench$Values;LValueBench$Classes;II)I"⟩, 3) := ⟨⟨by decide +kernel, by decide +kernel⟩, List.mem_of_getElem? (i := 235) (by decide +kernel), List.mem_of_getElem? (i := 591) (by decide +kernel), List.mem_of_getElem? (i := 592) (by decide +kernel)⟩
theorem lw_p20 : lw_okq (⟨"ValueBench$Leaders", "leadEmits", "(LValueBench$Program;LValueBench$Graph;LValueBench$Values;LValueBench$Classes;I)V"⟩, 3) := ⟨⟨by decide +kernel, by decide +kernel⟩, List.mem_of_getElem? (i := 235) (by decide +kernel), List.mem_of_getElem? (i := 596) (by decide +kernel), List.mem_of_getElem? (i := 597) (by decide +kernel)⟩
theorem lw_p21 : lw_okq (⟨"ValueBench", "aboutReached", "(II)I"⟩, 10) := ⟨⟨by decide +kernel, by decide +kernel⟩, List.mem_of_getElem? (i := 17) (by decide +kernel), List.mem_of_getElem? (i := 602) (by decide +kernel), List.mem_of_getElem? (i := 603) (by decide +kernel)⟩
theorem lw_p22 : lw_okq (⟨"ValueBench", "readsOf", "(Z)LValueBench$Reads;"⟩, 10) := ⟨⟨by decide +kernel, by decide +kernel⟩, List.mem_of_getElem? (i := 17) (by decide +kernel), List.mem_of_getElem? (i := 652) (by decide +kernel), List.mem_of_getElem? (i := 653) (by decide +kernel)⟩
theorem lw_p23 : lw_okq (⟨"ValueBench$ValueForm", "goes", "(I)Z"⟩, 7) := ⟨⟨by decide +kernel, by decide +kernel⟩, List.mem_of_getElem? (i := 280) (by decide +kernel), List.mem_of_getElem? (i := 691) (by decide +kernel), List.mem_of_getElem? (i := 692) (by decide +kernel)⟩
theorem lw_p24 : lw_okq (⟨"ValueBench$Machine", "followBlock", "(LValueBench$Form;)Z"⟩, 8) := ⟨⟨by decide +kernel, by decide +kernel⟩, List.mem_of_getElem? (i := 306) (by decide +kernel), List.mem_of_getElem? (i := 695) (by decide +kernel), List.mem_of_getElem? (i := 696) (by decide +kernel)⟩
theorem lw_p25 : lw_okq (⟨"ValueBench$Machine", "pay", "()Z"⟩, 8) := ⟨⟨by decide +kernel, by decide +kernel⟩, List.mem_of_getElem? (i := 306) (by decide +kernel), List.mem_of_getElem? (i := 708) (by decide +kernel), List.mem_of_getElem? (i := 709) (by decide +kernel)⟩
theorem lw_p26 : lw_okq (⟨"ValueBench$Machine", "follow", "(LValueBench$Form;I)V"⟩, 8) := ⟨⟨by decide +kernel, by decide +kernel⟩, List.mem_of_getElem? (i := 306) (by decide +kernel), List.mem_of_getElem? (i := 712) (by decide +kernel), List.mem_of_getElem? (i := 713) (by decide +kernel)⟩
theorem lw_p27 : lw_okq (⟨"ValueBench$Machine", "tell", "(I)V"⟩, 8) := ⟨⟨by decide +kernel, by decide +kernel⟩, List.mem_of_getElem? (i := 306) (by decide +kernel), List.mem_of_getElem? (i := 734) (by decide +kernel), List.mem_of_getElem? (i := 735) (by decide +kernel)⟩
theorem lw_p28 : lw_okq (⟨"ValueBenchModel", "isBlock", "(I)Z"⟩, 44) := ⟨⟨by decide +kernel, by decide +kernel⟩, List.mem_of_getElem? (i := 788) (by decide +kernel), List.mem_of_getElem? (i := 935) (by decide +kernel), List.mem_of_getElem? (i := 936) (by decide +kernel)⟩
theorem lw_p29 : lw_okq (⟨"ValueBenchModel", "make", "()V"⟩, 44) := ⟨⟨by decide +kernel, by decide +kernel⟩, List.mem_of_getElem? (i := 788) (by decide +kernel), List.mem_of_getElem? (i := 954) (by decide +kernel), List.mem_of_getElem? (i := 955) (by decide +kernel)⟩
theorem lw_p30 : lw_okq (⟨"ValueBenchModel", "dominance", "()V"⟩, 44) := ⟨⟨by decide +kernel, by decide +kernel⟩, List.mem_of_getElem? (i := 788) (by decide +kernel), List.mem_of_getElem? (i := 958) (by decide +kernel), List.mem_of_getElem? (i := 959) (by decide +kernel)⟩
theorem lw_p31 : lw_okq (⟨"ValueBenchModel", "meet", "(I)V"⟩, 44) := ⟨⟨by decide +kernel, by decide +kernel⟩, List.mem_of_getElem? (i := 788) (by decide +kernel), List.mem_of_getElem? (i := 962) (by decide +kernel), List.mem_of_getElem? (i := 963) (by decide +kernel)⟩
def lw_privs_2 : List (MethodName × Nat) := [(⟨"ValueBench$Classes", "operandsAgree", "(LValueBench$Values;II)Z"⟩, 3), (⟨"ValueBench$Classes", "together", "(LValueBench$Values;II)Z"⟩, 3), (⟨"ValueBench$Leaders", "leadOperands", "(LValueBench$Graph;LValueBench$Values;LValueBench$Classes;I)V"⟩, 3), (⟨"ValueBench$Leaders", "leader", "(LValueBench$Graph;LValueBench$Values;LValueBench$Classes;II)I"⟩, 3), (⟨"ValueBench$Leaders", "leadEmits", "(LValueBench$Program;LValueBench$Graph;LValueBench$Values;LValueBench$Classes;I)V"⟩, 3), (⟨"ValueBench", "aboutReached", "(II)I"⟩, 10), (⟨"ValueBench", "readsOf", "(Z)LValueBench$Reads;"⟩, 10), (⟨"ValueBench$ValueForm", "goes", "(I)Z"⟩, 7), (⟨"ValueBench$Machine", "followBlock", "(LValueBench$Form;)Z"⟩, 8), (⟨"ValueBench$Machine", "pay", "()Z"⟩, 8), (⟨"ValueBench$Machine", "follow", "(LValueBench$Form;I)V"⟩, 8), (⟨"ValueBench$Machine", "tell", "(I)V"⟩, 8), (⟨"ValueBenchModel", "isBlock", "(I)Z"⟩, 44), (⟨"ValueBenchModel", "make", "()V"⟩, 44), (⟨"ValueBenchModel", "dominance", "()V"⟩, 44), (⟨"ValueBenchModel", "meet", "(I)V"⟩, 44)]
theorem lw_r2 : ∀ q ∈ lw_privs_2, lw_okq q := List.forall_mem_cons.mpr ⟨lw_p16, List.forall_mem_cons.mpr ⟨lw_p17, List.forall_mem_cons.mpr ⟨lw_p18, List.forall_mem_cons.mpr ⟨lw_p19, List.forall_mem_cons.mpr ⟨lw_p20, List.forall_mem_cons.mpr ⟨lw_p21, List.forall_mem_cons.mpr ⟨lw_p22, List.forall_mem_cons.mpr ⟨lw_p23, List.forall_mem_cons.mpr ⟨lw_p24, List.forall_mem_cons.mpr ⟨lw_p25, List.forall_mem_cons.mpr ⟨lw_p26, List.forall_mem_cons.mpr ⟨lw_p27, List.forall_mem_cons.mpr ⟨lw_p28, List.forall_mem_cons.mpr ⟨lw_p29, List.forall_mem_cons.mpr ⟨lw_p30, List.forall_mem_cons.mpr ⟨lw_p31, fun _ h => absurd h List.not_mem_nil⟩⟩⟩⟩⟩⟩⟩⟩⟩⟩⟩⟩⟩⟩⟩⟩
theorem lw_p32 : lw_okq (⟨"ValueBenchModel", "leads", "(II)Z"⟩, 44) := ⟨⟨by decide +kernel, by decide +kernel⟩, List.mem_of_getElem? (i := 788) (by decide +kernel), List.mem_of_getElem? (i := 966) (by decide +kernel), List.mem_of_getElem? (i := 967) (by decide +kernel)⟩
theorem lw_p33 : lw_okq (⟨"ValueBenchModel", "howOf", "(I)I"⟩, 44) := ⟨⟨by decide +kernel, by decide +kernel⟩, List.mem_of_getElem? (i := 788) (by decide +kernel), List.mem_of_getElem? (i := 970) (by decide +kernel), List.mem_of_getElem? (i := 971) (by decide +kernel)⟩
theorem lw_p34 : lw_okq (⟨"ValueBenchModel", "dominates1", "(II)Z"⟩, 44) := ⟨⟨by decide +kernel, by decide +kernel⟩, List.mem_of_getElem? (i := 788) (by decide +kernel), List.mem_of_getElem? (i := 974) (by decide +kernel), List.mem_of_getElem? (i := 975) (by decide +kernel)⟩
theorem lw_p35 : lw_okq (⟨"ValueBenchModel", "choices", "()V"⟩, 44) := ⟨⟨by decide +kernel, by decide +kernel⟩, List.mem_of_getElem? (i := 788) (by decide +kernel), List.mem_of_getElem? (i := 978) (by decide +kernel), List.mem_of_getElem? (i := 979) (by decide +kernel)⟩
theorem lw_p36 : lw_okq (⟨"ValueBenchModel", "gives", "(II)Z"⟩, 44) := ⟨⟨by decide +kernel, by decide +kernel⟩, List.mem_of_getElem? (i := 788) (by decide +kernel), List.mem_of_getElem? (i := 982) (by decide +kernel), List.mem_of_getElem? (i := 983) (by decide +kernel)⟩
theorem lw_p37 : lw_okq (⟨"ValueBenchModel", "numbers", "()V"⟩, 44) := ⟨⟨by decide +kernel, by decide +kernel⟩, List.mem_of_getElem? (i := 788) (by decide +kernel), List.mem_of_getElem? (i := 986) (by decide +kernel), List.mem_of_getElem? (i := 987) (by decide +kernel)⟩
theorem lw_p38 : lw_okq (⟨"ValueBenchModel", "comes", "(IIIII)I"⟩, 44) := ⟨⟨by decide +kernel, by decide +kernel⟩, List.mem_of_getElem? (i := 788) (by decide +kernel), List.mem_of_getElem? (i := 990) (by decide +kernel), List.mem_of_getElem? (i := 991) (by decide +kernel)⟩
theorem lw_p39 : lw_okq (⟨"ValueBenchModel", "names", "()V"⟩, 44) := ⟨⟨by decide +kernel, by decide +kernel⟩, List.mem_of_getElem? (i := 788) (by decide +kernel), List.mem_of_getElem? (i := 994) (by decide +kernel), List.mem_of_getElem? (i := 995) (by decide +kernel)⟩
theorem lw_p40 : lw_okq (⟨"ValueBenchModel", "through", "(IIZ)V"⟩, 44) := ⟨⟨by decide +kernel, by decide +kernel⟩, List.mem_of_getElem? (i := 788) (by decide +kernel), List.mem_of_getElem? (i := 998) (by decide +kernel), List.mem_of_getElem? (i := 999) (by decide +kernel)⟩
theorem lw_p41 : lw_okq (⟨"ValueBenchModel", "adds", "(II)V"⟩, 44) := ⟨⟨by decide +kernel, by decide +kernel⟩, List.mem_of_getElem? (i := 788) (by decide +kernel), List.mem_of_getElem? (i := 1002) (by decide +kernel), List.mem_of_getElem? (i := 1003) (by decide +kernel)⟩
theorem lw_p42 : lw_okq (⟨"ValueBenchModel", "classes", "()V"⟩, 44) := ⟨⟨by decide +kernel, by decide +kernel⟩, List.mem_of_getElem? (i := 788) (by decide +kernel), List.mem_of_getElem? (i := 1006) (by decide +kernel), List.mem_of_getElem? (i := 1007) (by decide +kernel)⟩
theorem lw_p43 : lw_okq (⟨"ValueBenchModel", "isOneSort", "(II)Z"⟩, 44) := ⟨⟨by decide +kernel, by decide +kernel⟩, List.mem_of_getElem? (i := 788) (by decide +kernel), List.mem_of_getElem? (i := 1010) (by decide +kernel), List.mem_of_getElem? (i := 1011) (by decide +kernel)⟩
theorem lw_p44 : lw_okq (⟨"ValueBenchModel", "hangTogether", "(II)Z"⟩, 44) := ⟨⟨by decide +kernel, by decide +kernel⟩, List.mem_of_getElem? (i := 788) (by decide +kernel), List.mem_of_getElem? (i := 1014) (by decide +kernel), List.mem_of_getElem? (i := 1015) (by decide +kernel)⟩
theorem lw_p45 : lw_okq (⟨"ValueBenchModel", "redundant", "()V"⟩, 44) := ⟨⟨by decide +kernel, by decide +kernel⟩, List.mem_of_getElem? (i := 788) (by decide +kernel), List.mem_of_getElem? (i := 1021) (by decide +kernel), List.mem_of_getElem? (i := 1022) (by decide +kernel)⟩
theorem lw_p46 : lw_okq (⟨"ValueBenchModel", "isAhead", "(III)Z"⟩, 44) := ⟨⟨by decide +kernel, by decide +kernel⟩, List.mem_of_getElem? (i := 788) (by decide +kernel), List.mem_of_getElem? (i := 1025) (by decide +kernel), List.mem_of_getElem? (i := 1026) (by decide +kernel)⟩
theorem lw_p47 : lw_okq (⟨"ValueBenchModel", "chooses", "(III)V"⟩, 44) := ⟨⟨by decide +kernel, by decide +kernel⟩, List.mem_of_getElem? (i := 788) (by decide +kernel), List.mem_of_getElem? (i := 1029) (by decide +kernel), List.mem_of_getElem? (i := 1030) (by decide +kernel)⟩
def lw_privs_3 : List (MethodName × Nat) := [(⟨"ValueBenchModel", "leads", "(II)Z"⟩, 44), (⟨"ValueBenchModel", "howOf", "(I)I"⟩, 44), (⟨"ValueBenchModel", "dominates1", "(II)Z"⟩, 44), (⟨"ValueBenchModel", "choices", "()V"⟩, 44), (⟨"ValueBenchModel", "gives", "(II)Z"⟩, 44), (⟨"ValueBenchModel", "numbers", "()V"⟩, 44), (⟨"ValueBenchModel", "comes", "(IIIII)I"⟩, 44), (⟨"ValueBenchModel", "names", "()V"⟩, 44), (⟨"ValueBenchModel", "through", "(IIZ)V"⟩, 44), (⟨"ValueBenchModel", "adds", "(II)V"⟩, 44), (⟨"ValueBenchModel", "classes", "()V"⟩, 44), (⟨"ValueBenchModel", "isOneSort", "(II)Z"⟩, 44), (⟨"ValueBenchModel", "hangTogether", "(II)Z"⟩, 44), (⟨"ValueBenchModel", "redundant", "()V"⟩, 44), (⟨"ValueBenchModel", "isAhead", "(III)Z"⟩, 44), (⟨"ValueBenchModel", "chooses", "(III)V"⟩, 44)]
theorem lw_r3 : ∀ q ∈ lw_privs_3, lw_okq q := List.forall_mem_cons.mpr ⟨lw_p32, List.forall_mem_cons.mpr ⟨lw_p33, List.forall_mem_cons.mpr ⟨lw_p34, List.forall_mem_cons.mpr ⟨lw_p35, List.forall_mem_cons.mpr ⟨lw_p36, List.forall_mem_cons.mpr ⟨lw_p37, List.forall_mem_cons.mpr ⟨lw_p38, List.forall_mem_cons.mpr ⟨lw_p39, List.forall_mem_cons.mpr ⟨lw_p40, List.forall_mem_cons.mpr ⟨lw_p41, List.forall_mem_cons.mpr ⟨lw_p42, List.forall_mem_cons.mpr ⟨lw_p43, List.forall_mem_cons.mpr ⟨lw_p44, List.forall_mem_cons.mpr ⟨lw_p45, List.forall_mem_cons.mpr ⟨lw_p46, List.forall_mem_cons.mpr ⟨lw_p47, fun _ h => absurd h List.not_mem_nil⟩⟩⟩⟩⟩⟩⟩⟩⟩⟩⟩⟩⟩⟩⟩⟩
theorem lw_p48 : lw_okq (⟨"ValueBenchModel", "predecessorAt", "(II)I"⟩, 44) := ⟨⟨by decide +kernel, by decide +kernel⟩, List.mem_of_getElem? (i := 788) (by decide +kernel), List.mem_of_getElem? (i := 1033) (by decide +kernel), List.mem_of_getElem? (i := 1034) (by decide +kernel)⟩
theorem lw_p49 : lw_okq (⟨"ValueBenchModel", "ledOperand", "(II)I"⟩, 44) := ⟨⟨by decide +kernel, by decide +kernel⟩, List.mem_of_getElem? (i := 788) (by decide +kernel), List.mem_of_getElem? (i := 1037) (by decide +kernel), List.mem_of_getElem? (i := 1038) (by decide +kernel)⟩
theorem lw_p50 : lw_okq (⟨"ValueBenchModel", "leader", "(III)I"⟩, 44) := ⟨⟨by decide +kernel, by decide +kernel⟩, List.mem_of_getElem? (i := 788) (by decide +kernel), List.mem_of_getElem? (i := 1041) (by decide +kernel), List.mem_of_getElem? (i := 1042) (by decide +kernel)⟩
theorem lw_p51 : lw_okq (⟨"ValueBenchModel", "costs", "(III)Z"⟩, 44) := ⟨⟨by decide +kernel, by decide +kernel⟩, List.mem_of_getElem? (i := 788) (by decide +kernel), List.mem_of_getElem? (i := 1045) (by decide +kernel), List.mem_of_getElem? (i := 1046) (by decide +kernel)⟩
theorem lw_p52 : lw_okq (⟨"ValueBenchModel", "takes", "()Z"⟩, 44) := ⟨⟨by decide +kernel, by decide +kernel⟩, List.mem_of_getElem? (i := 788) (by decide +kernel), List.mem_of_getElem? (i := 1049) (by decide +kernel), List.mem_of_getElem? (i := 1050) (by decide +kernel)⟩
theorem lw_p53 : lw_okq (⟨"ValueBenchModel", "acts", "(III)V"⟩, 44) := ⟨⟨by decide +kernel, by decide +kernel⟩, List.mem_of_getElem? (i := 788) (by decide +kernel), List.mem_of_getElem? (i := 1053) (by decide +kernel), List.mem_of_getElem? (i := 1054) (by decide +kernel)⟩
theorem lw_p54 : lw_okq (⟨"ValueBenchModel", "emit", "(I)V"⟩, 44) := ⟨⟨by decide +kernel, by decide +kernel⟩, List.mem_of_getElem? (i := 788) (by decide +kernel), List.mem_of_getElem? (i := 1057) (by decide +kernel), List.mem_of_getElem? (i := 1058) (by decide +kernel)⟩
theorem lw_p55 : lw_okq (⟨"ValueBenchModel", "readAt", "(III)I"⟩, 44) := ⟨⟨by decide +kernel, by decide +kernel⟩, List.mem_of_getElem? (i := 788) (by decide +kernel), List.mem_of_getElem? (i := 1064) (by decide +kernel), List.mem_of_getElem? (i := 1065) (by decide +kernel)⟩
theorem lw_p56 : lw_okq (⟨"ValueBenchModel", "yOf", "(I)I"⟩, 44) := ⟨⟨by decide +kernel, by decide +kernel⟩, List.mem_of_getElem? (i := 788) (by decide +kernel), List.mem_of_getElem? (i := 1068) (by decide +kernel), List.mem_of_getElem? (i := 1069) (by decide +kernel)⟩
theorem lw_p57 : lw_okq (⟨"ValueBenchModel", "reads", "(IZ)I"⟩, 44) := ⟨⟨by decide +kernel, by decide +kernel⟩, List.mem_of_getElem? (i := 788) (by decide +kernel), List.mem_of_getElem? (i := 1072) (by decide +kernel), List.mem_of_getElem? (i := 1073) (by decide +kernel)⟩
theorem lw_p58 : lw_okq (⟨"ValueBenchModel", "areReached", "(II)Z"⟩, 44) := ⟨⟨by decide +kernel, by decide +kernel⟩, List.mem_of_getElem? (i := 788) (by decide +kernel), List.mem_of_getElem? (i := 1100) (by decide +kernel), List.mem_of_getElem? (i := 1101) (by decide +kernel)⟩
theorem lw_p59 : lw_okq (⟨"ValueBenchModel", "isValue", "(I)Z"⟩, 44) := ⟨⟨by decide +kernel, by decide +kernel⟩, List.mem_of_getElem? (i := 788) (by decide +kernel), List.mem_of_getElem? (i := 1112) (by decide +kernel), List.mem_of_getElem? (i := 1113) (by decide +kernel)⟩
theorem lw_p60 : lw_okq (⟨"ValueBenchModel", "isOperand", "(II)Z"⟩, 44) := ⟨⟨by decide +kernel, by decide +kernel⟩, List.mem_of_getElem? (i := 788) (by decide +kernel), List.mem_of_getElem? (i := 1120) (by decide +kernel), List.mem_of_getElem? (i := 1121) (by decide +kernel)⟩
def lw_privs_4 : List (MethodName × Nat) := [(⟨"ValueBenchModel", "predecessorAt", "(II)I"⟩, 44), (⟨"ValueBenchModel", "ledOperand", "(II)I"⟩, 44), (⟨"ValueBenchModel", "leader", "(III)I"⟩, 44), (⟨"ValueBenchModel", "costs", "(III)Z"⟩, 44), (⟨"ValueBenchModel", "takes", "()Z"⟩, 44), (⟨"ValueBenchModel", "acts", "(III)V"⟩, 44), (⟨"ValueBenchModel", "emit", "(I)V"⟩, 44), (⟨"ValueBenchModel", "readAt", "(III)I"⟩, 44), (⟨"ValueBenchModel", "yOf", "(I)I"⟩, 44), (⟨"ValueBenchModel", "reads", "(IZ)I"⟩, 44), (⟨"ValueBenchModel", "areReached", "(II)Z"⟩, 44), (⟨"ValueBenchModel", "isValue", "(I)Z"⟩, 44), (⟨"ValueBenchModel", "isOperand", "(II)Z"⟩, 44)]
theorem lw_r4 : ∀ q ∈ lw_privs_4, lw_okq q := List.forall_mem_cons.mpr ⟨lw_p48, List.forall_mem_cons.mpr ⟨lw_p49, List.forall_mem_cons.mpr ⟨lw_p50, List.forall_mem_cons.mpr ⟨lw_p51, List.forall_mem_cons.mpr ⟨lw_p52, List.forall_mem_cons.mpr ⟨lw_p53, List.forall_mem_cons.mpr ⟨lw_p54, List.forall_mem_cons.mpr ⟨lw_p55, List.forall_mem_cons.mpr ⟨lw_p56, List.forall_mem_cons.mpr ⟨lw_p57, List.forall_mem_cons.mpr ⟨lw_p58, List.forall_mem_cons.mpr ⟨lw_p59, List.forall_mem_cons.mpr ⟨lw_p60, fun _ h => absurd h List.not_mem_nil⟩⟩⟩⟩⟩⟩⟩⟩⟩⟩⟩⟩⟩
def lw_privs : List (MethodName × Nat) := lw_privs_1 ++ (lw_privs_2 ++ (lw_privs_3 ++ (lw_privs_4)))
def lw_tbl : List Cond := k2_sels lw_privs ++ tables_1
theorem lw_privs_ok : ∀ q ∈ lw_privs, lw_okq q := by
  show ∀ q ∈ lw_privs_1 ++ (lw_privs_2 ++ (lw_privs_3 ++ (lw_privs_4))), lw_okq q
  exact List.forall_mem_append.mpr ⟨lw_r1, List.forall_mem_append.mpr ⟨lw_r2, List.forall_mem_append.mpr ⟨lw_r3, lw_r4⟩⟩⟩

def RX0 : String := "ValueBench$Classes"
def TX0 : u_T := fun k => match k with
  | 0 => ("ValueBench$Classes", "least", "[I", true)
  | 1 => ("ValueBench$Classes", "finer", "[I", true)
  | _ => ("ValueBench$Classes", "size", "I", false)
def tyX0 : Nat → FieldType := fun k => match k with
  | 0 => .array .int
  | 1 => .array .int
  | _ => .int
theorem nmX0 : ∀ a, a < 3 → ∀ b, b < 3 → a ≠ b → (TX0 a).2.1 ≠ (TX0 b).2.1 := by decide +kernel
theorem tyX0_ok : ∀ k, k < 3 → parseFieldDescriptor (TX0 k).2.2.1 = some (tyX0 k) := by decide +kernel
abbrev cX0_init : ByteArray := prog_2_method_1_code
def yX0_init : MethodName := ⟨RX0, "<init>", "()V"⟩
abbrev cX0_part : ByteArray := prog_2_method_2_code
def yX0_part : MethodName := ⟨RX0, "part", "(LValueBench$Values;)V"⟩
abbrev cX0_leastAlike : ByteArray := prog_2_method_3_code
def yX0_leastAlike : MethodName := ⟨RX0, "leastAlike", "(LValueBench$Values;I)I"⟩
abbrev cX0_alike : ByteArray := prog_2_method_4_code
def yX0_alike : MethodName := ⟨RX0, "alike", "(LValueBench$Values;II)Z"⟩
abbrev cX0_partFiner : ByteArray := prog_2_method_5_code
def yX0_partFiner : MethodName := ⟨RX0, "partFiner", "(LValueBench$Values;)Z"⟩
abbrev cX0_leastTogether : ByteArray := prog_2_method_6_code
def yX0_leastTogether : MethodName := ⟨RX0, "leastTogether", "(LValueBench$Values;I)I"⟩
abbrev cX0_operandsAgree : ByteArray := prog_2_method_7_code
def yX0_operandsAgree : MethodName := ⟨RX0, "operandsAgree", "(LValueBench$Values;II)Z"⟩
abbrev cX0_together : ByteArray := prog_2_method_8_code
def yX0_together : MethodName := ⟨RX0, "together", "(LValueBench$Values;II)Z"⟩
abbrev cX0_isEven : ByteArray := prog_2_method_9_code
def yX0_isEven : MethodName := ⟨RX0, "isEven", "(I)Z"⟩
def RX1 : String := "ValueBench$Form"
def TX1 : u_T := fun k => match k with
  | _ => ("", "", "", false)
def tyX1 : Nat → FieldType := fun k => match k with
  | _ => .int
theorem nmX1 : ∀ a, a < 0 → ∀ b, b < 0 → a ≠ b → (TX1 a).2.1 ≠ (TX1 b).2.1 := by decide +kernel
theorem tyX1_ok : ∀ k, k < 0 → parseFieldDescriptor (TX1 k).2.2.1 = some (tyX1 k) := by decide +kernel
abbrev cX1_init : ByteArray := prog_3_method_1_code
def yX1_init : MethodName := ⟨RX1, "<init>", "(I)V"⟩
def RX2 : String := "ValueBench$Graph"
def TX2 : u_T := fun k => match k with
  | 0 => ("ValueBench$Graph", "tells", "[I", true)
  | 1 => ("ValueBench$Graph", "comes", "[I", true)
  | 2 => ("ValueBench$Graph", "dominated", "[I", true)
  | 3 => ("ValueBench$Graph", "dominators", "[I", true)
  | 4 => ("ValueBench$Graph", "parent", "[I", true)
  | 5 => ("ValueBench$Graph", "frontier", "[I", true)
  | _ => ("ValueBench$Graph", "reached", "I", false)
def tyX2 : Nat → FieldType := fun k => match k with
  | 0 => .array .int
  | 1 => .array .int
  | 2 => .array .int
  | 3 => .array .int
  | 4 => .array .int
  | 5 => .array .int
  | _ => .int
theorem nmX2 : ∀ a, a < 7 → ∀ b, b < 7 → a ≠ b → (TX2 a).2.1 ≠ (TX2 b).2.1 := by decide +kernel
theorem tyX2_ok : ∀ k, k < 7 → parseFieldDescriptor (TX2 k).2.2.1 = some (tyX2 k) := by decide +kernel
abbrev cX2_init : ByteArray := prog_4_method_1_code
def yX2_init : MethodName := ⟨RX2, "<init>", "()V"⟩
abbrev cX2_isIn : ByteArray := prog_4_method_2_code
def yX2_isIn : MethodName := ⟨RX2, "isIn", "(II)Z"⟩
abbrev cX2_nthOf : ByteArray := prog_4_method_3_code
def yX2_nthOf : MethodName := ⟨RX2, "nthOf", "(II)I"⟩
abbrev cX2_placeIn : ByteArray := prog_4_method_4_code
def yX2_placeIn : MethodName := ⟨RX2, "placeIn", "(II)I"⟩
abbrev cX2_union : ByteArray := prog_4_method_5_code
def yX2_union : MethodName := ⟨RX2, "union", "(I[I)I"⟩
abbrev cX2_closure : ByteArray := prog_4_method_6_code
def yX2_closure : MethodName := ⟨RX2, "closure", "(I[II)I"⟩
abbrev cX2_turnAround : ByteArray := prog_4_method_7_code
def yX2_turnAround : MethodName := ⟨RX2, "turnAround", "([I[I)V"⟩
abbrev cX2_reaches : ByteArray := prog_4_method_8_code
def yX2_reaches : MethodName := ⟨RX2, "reaches", "(I)Z"⟩
abbrev cX2_draw : ByteArray := prog_4_method_9_code
def yX2_draw : MethodName := ⟨RX2, "draw", "(LValueBench$Program;)V"⟩
abbrev cX2_parentOf : ByteArray := prog_4_method_10_code
def yX2_parentOf : MethodName := ⟨RX2, "parentOf", "(I)I"⟩
abbrev cX2_frontierOf : ByteArray := prog_4_method_11_code
def yX2_frontierOf : MethodName := ⟨RX2, "frontierOf", "(I)I"⟩
def RX3 : String := "ValueBench$Leaders"
def TX3 : u_T := fun k => match k with
  | 0 => ("ValueBench$Leaders", "redundant", "[Z", true)
  | 1 => ("ValueBench$Leaders", "reads", "LValueBench$Reads;", true)
  | _ => ("ValueBench$Leaders", "redundantOnes", "I", false)
def tyX3 : Nat → FieldType := fun k => match k with
  | 0 => .array .boolean
  | 1 => .object "ValueBench$Reads"
  | _ => .int
theorem nmX3 : ∀ a, a < 3 → ∀ b, b < 3 → a ≠ b → (TX3 a).2.1 ≠ (TX3 b).2.1 := by decide +kernel
theorem tyX3_ok : ∀ k, k < 3 → parseFieldDescriptor (TX3 k).2.2.1 = some (tyX3 k) := by decide +kernel
abbrev cX3_init : ByteArray := prog_5_method_1_code
def yX3_init : MethodName := ⟨RX3, "<init>", "()V"⟩
abbrev cX3_lead : ByteArray := prog_5_method_2_code
def yX3_lead : MethodName := ⟨RX3, "lead", "(LValueBench$Program;LValueBench$Graph;LValueBench$Values;LValueBench$Classes;)V"⟩
abbrev cX3_isLed : ByteArray := prog_5_method_3_code
def yX3_isLed : MethodName := ⟨RX3, "isLed", "(LValueBench$Graph;LValueBench$Values;LValueBench$Classes;I)Z"⟩
abbrev cX3_leader : ByteArray := prog_5_method_4_code
def yX3_leader : MethodName := ⟨RX3, "leader", "(LValueBench$Graph;LValueBench$Values;LValueBench$Classes;II)I"⟩
abbrev cX3_leadOperands : ByteArray := prog_5_method_5_code
def yX3_leadOperands : MethodName := ⟨RX3, "leadOperands", "(LValueBench$Graph;LValueBench$Values;LValueBench$Classes;I)V"⟩
abbrev cX3_leadEmits : ByteArray := prog_5_method_6_code
def yX3_leadEmits : MethodName := ⟨RX3, "leadEmits", "(LValueBench$Program;LValueBench$Graph;LValueBench$Values;LValueBench$Classes;I)V"⟩
def RX4 : String := "ValueBench$Machine"
def TX4 : u_T := fun k => match k with
  | 0 => ("ValueBench$Machine", "program", "LValueBench$Program;", true)
  | 1 => ("ValueBench$Machine", "inputs", "[I", true)
  | 2 => ("ValueBench$Machine", "kept", "[I", true)
  | 3 => ("ValueBench$Machine", "limit", "I", false)
  | 4 => ("ValueBench$Machine", "returned", "I", false)
  | 5 => ("ValueBench$Machine", "used", "I", false)
  | 6 => ("ValueBench$Machine", "numbers", "I", false)
  | _ => ("ValueBench$Machine", "at", "I", false)
def tyX4 : Nat → FieldType := fun k => match k with
  | 0 => .object "ValueBench$Program"
  | 1 => .array .int
  | 2 => .array .int
  | 3 => .int
  | 4 => .int
  | 5 => .int
  | 6 => .int
  | _ => .int
theorem nmX4 : ∀ a, a < 8 → ∀ b, b < 8 → a ≠ b → (TX4 a).2.1 ≠ (TX4 b).2.1 := by decide +kernel
theorem tyX4_ok : ∀ k, k < 8 → parseFieldDescriptor (TX4 k).2.2.1 = some (tyX4 k) := by decide +kernel
abbrev cX4_init : ByteArray := prog_6_method_1_code
def yX4_init : MethodName := ⟨RX4, "<init>", "(LValueBench$Program;)V"⟩
abbrev cX4_takeInputs : ByteArray := prog_6_method_2_code
def yX4_takeInputs : MethodName := ⟨RX4, "takeInputs", "(IIII)V"⟩
abbrev cX4_perform : ByteArray := prog_6_method_3_code
def yX4_perform : MethodName := ⟨RX4, "perform", "(LValueBench$Form;)I"⟩
abbrev cX4_pay : ByteArray := prog_6_method_4_code
def yX4_pay : MethodName := ⟨RX4, "pay", "()Z"⟩
abbrev cX4_followBlock : ByteArray := prog_6_method_5_code
def yX4_followBlock : MethodName := ⟨RX4, "followBlock", "(LValueBench$Form;)Z"⟩
abbrev cX4_follow : ByteArray := prog_6_method_6_code
def yX4_follow : MethodName := ⟨RX4, "follow", "(LValueBench$Form;I)V"⟩
abbrev cX4_tell : ByteArray := prog_6_method_7_code
def yX4_tell : MethodName := ⟨RX4, "tell", "(I)V"⟩
abbrev cX4_compute : ByteArray := prog_6_method_8_code
def yX4_compute : MethodName := ⟨RX4, "compute", "(III)I"⟩
abbrev cX4_divide : ByteArray := prog_6_method_9_code
def yX4_divide : MethodName := ⟨RX4, "divide", "(II)I"⟩
def RX5 : String := "ValueBench$Program"
def TX5 : u_T := fun k => match k with
  | 0 => ("ValueBench$Program", "first", "[I", true)
  | 1 => ("ValueBench$Program", "kind", "[I", true)
  | 2 => ("ValueBench$Program", "x", "[I", true)
  | 3 => ("ValueBench$Program", "y", "[I", true)
  | 4 => ("ValueBench$Program", "z", "[I", true)
  | 5 => ("ValueBench$Program", "how", "[I", true)
  | 6 => ("ValueBench$Program", "endY", "[I", true)
  | 7 => ("ValueBench$Program", "endB", "[I", true)
  | 8 => ("ValueBench$Program", "endC", "[I", true)
  | _ => ("ValueBench$Program", "blocks", "I", false)
def tyX5 : Nat → FieldType := fun k => match k with
  | 0 => .array .int
  | 1 => .array .int
  | 2 => .array .int
  | 3 => .array .int
  | 4 => .array .int
  | 5 => .array .int
  | 6 => .array .int
  | 7 => .array .int
  | 8 => .array .int
  | _ => .int
theorem nmX5 : ∀ a, a < 10 → ∀ b, b < 10 → a ≠ b → (TX5 a).2.1 ≠ (TX5 b).2.1 := by decide +kernel
theorem tyX5_ok : ∀ k, k < 10 → parseFieldDescriptor (TX5 k).2.2.1 = some (tyX5 k) := by decide +kernel
abbrev cX5_init : ByteArray := prog_7_method_1_code
def yX5_init : MethodName := ⟨RX5, "<init>", "()V"⟩
abbrev cX5_isVariable : ByteArray := prog_7_method_2_code
def yX5_isVariable : MethodName := ⟨RX5, "isVariable", "(I)Z"⟩
abbrev cX5_isBlockNumber : ByteArray := prog_7_method_3_code
def yX5_isBlockNumber : MethodName := ⟨RX5, "isBlockNumber", "(I)Z"⟩
abbrev cX5_fits : ByteArray := prog_7_method_4_code
def yX5_fits : MethodName := ⟨RX5, "fits", "(IIII)Z"⟩
abbrev cX5_endFits : ByteArray := prog_7_method_5_code
def yX5_endFits : MethodName := ⟨RX5, "endFits", "(IIII)Z"⟩
abbrev cX5_has : ByteArray := prog_7_method_6_code
def yX5_has : MethodName := ⟨RX5, "has", "(I)Z"⟩
abbrev cX5_instructions : ByteArray := prog_7_method_7_code
def yX5_instructions : MethodName := ⟨RX5, "instructions", "()I"⟩
abbrev cX5_insert : ByteArray := prog_7_method_8_code
def yX5_insert : MethodName := ⟨RX5, "insert", "(IIIII)V"⟩
abbrev cX5_insertAt : ByteArray := prog_7_method_9_code
def yX5_insertAt : MethodName := ⟨RX5, "insertAt", "([IIII)V"⟩
abbrev cX5_setEnd : ByteArray := prog_7_method_10_code
def yX5_setEnd : MethodName := ⟨RX5, "setEnd", "(IIIII)V"⟩
abbrev cX5_forget : ByteArray := prog_7_method_11_code
def yX5_forget : MethodName := ⟨RX5, "forget", "()V"⟩
abbrev cX5_endCounts : ByteArray := prog_7_method_12_code
def yX5_endCounts : MethodName := ⟨RX5, "endCounts", "(I)Z"⟩
abbrev cX5_howCounts : ByteArray := prog_7_method_13_code
def yX5_howCounts : MethodName := ⟨RX5, "howCounts", "(I)I"⟩
abbrev cX5_endVariable : ByteArray := prog_7_method_14_code
def yX5_endVariable : MethodName := ⟨RX5, "endVariable", "(I)I"⟩
abbrev cX5_next : ByteArray := prog_7_method_15_code
def yX5_next : MethodName := ⟨RX5, "next", "(IZ)I"⟩
abbrev cX5_toldBlocks : ByteArray := prog_7_method_16_code
def yX5_toldBlocks : MethodName := ⟨RX5, "toldBlocks", "(I)I"⟩
abbrev cX5_nthEmit : ByteArray := prog_7_method_17_code
def yX5_nthEmit : MethodName := ⟨RX5, "nthEmit", "(II)I"⟩
def RX6 : String := "ValueBench$Reads"
def TX6 : u_T := fun k => match k with
  | 0 => ("ValueBench$Reads", "operands", "[I", true)
  | 1 => ("ValueBench$Reads", "emits", "[I", true)
  | _ => ("ValueBench$Reads", "ends", "[I", true)
def tyX6 : Nat → FieldType := fun k => match k with
  | 0 => .array .int
  | 1 => .array .int
  | _ => .array .int
theorem nmX6 : ∀ a, a < 3 → ∀ b, b < 3 → a ≠ b → (TX6 a).2.1 ≠ (TX6 b).2.1 := by decide +kernel
theorem tyX6_ok : ∀ k, k < 3 → parseFieldDescriptor (TX6 k).2.2.1 = some (tyX6 k) := by decide +kernel
abbrev cX6_init : ByteArray := prog_8_method_1_code
def yX6_init : MethodName := ⟨RX6, "<init>", "()V"⟩
def RX7 : String := "ValueBench$ToldForm"
def TX7 : u_T := fun k => match k with
  | 0 => ("ValueBench$Form", "cells", "[I", true)
  | _ => ("ValueBench$ToldForm", "program", "LValueBench$Program;", true)
def tyX7 : Nat → FieldType := fun k => match k with
  | 0 => .array .int
  | _ => .object "ValueBench$Program"
theorem nmX7 : ∀ a, a < 2 → ∀ b, b < 2 → a ≠ b → (TX7 a).2.1 ≠ (TX7 b).2.1 := by decide +kernel
theorem tyX7_ok : ∀ k, k < 2 → parseFieldDescriptor (TX7 k).2.2.1 = some (tyX7 k) := by decide +kernel
abbrev cX7_init : ByteArray := prog_9_method_1_code
def yX7_init : MethodName := ⟨RX7, "<init>", "(LValueBench$Program;)V"⟩
abbrev cX7_begin : ByteArray := prog_9_method_2_code
def yX7_begin : MethodName := ⟨RX7, "begin", "(II)V"⟩
abbrev cX7_keeps : ByteArray := prog_9_method_3_code
def yX7_keeps : MethodName := ⟨RX7, "keeps", "(I)Z"⟩
abbrev cX7_target : ByteArray := prog_9_method_4_code
def yX7_target : MethodName := ⟨RX7, "target", "(I)I"⟩
abbrev cX7_left : ByteArray := prog_9_method_5_code
def yX7_left : MethodName := ⟨RX7, "left", "(I)I"⟩
abbrev cX7_right : ByteArray := prog_9_method_6_code
def yX7_right : MethodName := ⟨RX7, "right", "(I)I"⟩
abbrev cX7_endCell : ByteArray := prog_9_method_7_code
def yX7_endCell : MethodName := ⟨RX7, "endCell", "(I)I"⟩
def RX8 : String := "ValueBench$ValueForm"
def TX8 : u_T := fun k => match k with
  | 0 => ("ValueBench$Form", "cells", "[I", true)
  | 1 => ("ValueBench$ValueForm", "program", "LValueBench$Program;", true)
  | 2 => ("ValueBench$ValueForm", "graph", "LValueBench$Graph;", true)
  | 3 => ("ValueBench$ValueForm", "values", "LValueBench$Values;", true)
  | 4 => ("ValueBench$ValueForm", "leaders", "LValueBench$Leaders;", true)
  | 5 => ("ValueBench$ValueForm", "reads", "LValueBench$Reads;", true)
  | _ => ("ValueBench$ValueForm", "taken", "[I", true)
def tyX8 : Nat → FieldType := fun k => match k with
  | 0 => .array .int
  | 1 => .object "ValueBench$Program"
  | 2 => .object "ValueBench$Graph"
  | 3 => .object "ValueBench$Values"
  | 4 => .object "ValueBench$Leaders"
  | 5 => .object "ValueBench$Reads"
  | _ => .array .int
theorem nmX8 : ∀ a, a < 7 → ∀ b, b < 7 → a ≠ b → (TX8 a).2.1 ≠ (TX8 b).2.1 := by decide +kernel
theorem tyX8_ok : ∀ k, k < 7 → parseFieldDescriptor (TX8 k).2.2.1 = some (tyX8 k) := by decide +kernel
abbrev cX8_init : ByteArray := prog_10_method_1_code
def yX8_init : MethodName := ⟨RX8, "<init>", "(LValueBench$Program;LValueBench$Graph;LValueBench$Values;LValueBench$Leaders;)V"⟩
abbrev cX8_goes : ByteArray := prog_10_method_2_code
def yX8_goes : MethodName := ⟨RX8, "goes", "(I)Z"⟩
abbrev cX8_begin : ByteArray := prog_10_method_3_code
def yX8_begin : MethodName := ⟨RX8, "begin", "(II)V"⟩
abbrev cX8_keeps : ByteArray := prog_10_method_4_code
def yX8_keeps : MethodName := ⟨RX8, "keeps", "(I)Z"⟩
abbrev cX8_target : ByteArray := prog_10_method_5_code
def yX8_target : MethodName := ⟨RX8, "target", "(I)I"⟩
abbrev cX8_left : ByteArray := prog_10_method_6_code
def yX8_left : MethodName := ⟨RX8, "left", "(I)I"⟩
abbrev cX8_right : ByteArray := prog_10_method_7_code
def yX8_right : MethodName := ⟨RX8, "right", "(I)I"⟩
abbrev cX8_endCell : ByteArray := prog_10_method_8_code
def yX8_endCell : MethodName := ⟨RX8, "endCell", "(I)I"⟩
def RX9 : String := "ValueBench$Values"
def TX9 : u_T := fun k => match k with
  | 0 => ("ValueBench$Values", "kind", "[I", true)
  | 1 => ("ValueBench$Values", "block", "[I", true)
  | 2 => ("ValueBench$Values", "variable", "[I", true)
  | 3 => ("ValueBench$Values", "number", "[I", true)
  | 4 => ("ValueBench$Values", "firstOperand", "[I", true)
  | 5 => ("ValueBench$Values", "reads", "LValueBench$Reads;", true)
  | 6 => ("ValueBench$Values", "given", "[I", true)
  | 7 => ("ValueBench$Values", "firstChoice", "[I", true)
  | 8 => ("ValueBench$Values", "choices", "[I", true)
  | 9 => ("ValueBench$Values", "choosing", "[I", true)
  | 10 => ("ValueBench$Values", "atEnd", "[I", true)
  | _ => ("ValueBench$Values", "size", "I", false)
def tyX9 : Nat → FieldType := fun k => match k with
  | 0 => .array .int
  | 1 => .array .int
  | 2 => .array .int
  | 3 => .array .int
  | 4 => .array .int
  | 5 => .object "ValueBench$Reads"
  | 6 => .array .int
  | 7 => .array .int
  | 8 => .array .int
  | 9 => .array .int
  | 10 => .array .int
  | _ => .int
theorem nmX9 : ∀ a, a < 12 → ∀ b, b < 12 → a ≠ b → (TX9 a).2.1 ≠ (TX9 b).2.1 := by decide +kernel
theorem tyX9_ok : ∀ k, k < 12 → parseFieldDescriptor (TX9 k).2.2.1 = some (tyX9 k) := by decide +kernel
abbrev cX9_init : ByteArray := prog_11_method_1_code
def yX9_init : MethodName := ⟨RX9, "<init>", "()V"⟩
abbrev cX9_has : ByteArray := prog_11_method_2_code
def yX9_has : MethodName := ⟨RX9, "has", "(I)Z"⟩
abbrev cX9_operandsOf : ByteArray := prog_11_method_3_code
def yX9_operandsOf : MethodName := ⟨RX9, "operandsOf", "(I)I"⟩
abbrev cX9_hasOperand : ByteArray := prog_11_method_4_code
def yX9_hasOperand : MethodName := ⟨RX9, "hasOperand", "(II)Z"⟩
abbrev cX9_allChoices : ByteArray := prog_11_method_5_code
def yX9_allChoices : MethodName := ⟨RX9, "allChoices", "()I"⟩
abbrev cX9_make : ByteArray := prog_11_method_6_code
def yX9_make : MethodName := ⟨RX9, "make", "(LValueBench$Program;LValueBench$Graph;)V"⟩
abbrev cX9_placeChoices : ByteArray := prog_11_method_7_code
def yX9_placeChoices : MethodName := ⟨RX9, "placeChoices", "(LValueBench$Program;LValueBench$Graph;)V"⟩
abbrev cX9_givingBlocks : ByteArray := prog_11_method_8_code
def yX9_givingBlocks : MethodName := ⟨RX9, "givingBlocks", "(LValueBench$Program;I)I"⟩
abbrev cX9_numberAll : ByteArray := prog_11_method_9_code
def yX9_numberAll : MethodName := ⟨RX9, "numberAll", "(LValueBench$Program;LValueBench$Graph;)V"⟩
abbrev cX9_numberChoices : ByteArray := prog_11_method_10_code
def yX9_numberChoices : MethodName := ⟨RX9, "numberChoices", "(LValueBench$Graph;I)V"⟩
abbrev cX9_numberInstructions : ByteArray := prog_11_method_11_code
def yX9_numberInstructions : MethodName := ⟨RX9, "numberInstructions", "(LValueBench$Program;I)V"⟩
abbrev cX9_add : ByteArray := prog_11_method_12_code
def yX9_add : MethodName := ⟨RX9, "add", "(IIIII)V"⟩
abbrev cX9_beginBlock : ByteArray := prog_11_method_13_code
def yX9_beginBlock : MethodName := ⟨RX9, "beginBlock", "(LValueBench$Graph;I)V"⟩
abbrev cX9_followBlock : ByteArray := prog_11_method_14_code
def yX9_followBlock : MethodName := ⟨RX9, "followBlock", "(LValueBench$Program;I)V"⟩
abbrev cX9_fillChoices : ByteArray := prog_11_method_15_code
def yX9_fillChoices : MethodName := ⟨RX9, "fillChoices", "(LValueBench$Graph;)V"⟩
abbrev cX9_fillChoice : ByteArray := prog_11_method_16_code
def yX9_fillChoice : MethodName := ⟨RX9, "fillChoice", "(II)V"⟩
def RX10 : String := "ValueBench"
def TX10 : u_T := fun k => match k with
  | 0 => ("ValueBench", "program", "LValueBench$Program;", true)
  | 1 => ("ValueBench", "graph", "LValueBench$Graph;", true)
  | 2 => ("ValueBench", "values", "LValueBench$Values;", true)
  | 3 => ("ValueBench", "classes", "LValueBench$Classes;", true)
  | 4 => ("ValueBench", "leaders", "LValueBench$Leaders;", true)
  | 5 => ("ValueBench", "toldForm", "LValueBench$Form;", true)
  | 6 => ("ValueBench", "valuedForm", "LValueBench$Form;", true)
  | 7 => ("ValueBench", "ledForm", "LValueBench$Form;", true)
  | 8 => ("ValueBench", "machine", "LValueBench$Machine;", true)
  | _ => ("ValueBench", "stale", "Z", false)
def tyX10 : Nat → FieldType := fun k => match k with
  | 0 => .object "ValueBench$Program"
  | 1 => .object "ValueBench$Graph"
  | 2 => .object "ValueBench$Values"
  | 3 => .object "ValueBench$Classes"
  | 4 => .object "ValueBench$Leaders"
  | 5 => .object "ValueBench$Form"
  | 6 => .object "ValueBench$Form"
  | 7 => .object "ValueBench$Form"
  | 8 => .object "ValueBench$Machine"
  | _ => .boolean
theorem nmX10 : ∀ a, a < 10 → ∀ b, b < 10 → a ≠ b → (TX10 a).2.1 ≠ (TX10 b).2.1 := by decide +kernel
theorem tyX10_ok : ∀ k, k < 10 → parseFieldDescriptor (TX10 k).2.2.1 = some (tyX10 k) := by decide +kernel
abbrev cX10_init : ByteArray := prog_1_method_1_code
def yX10_init : MethodName := ⟨RX10, "<init>", "()V"⟩
abbrev cX10_block : ByteArray := prog_1_method_2_code
def yX10_block : MethodName := ⟨RX10, "block", "()I"⟩
abbrev cX10_put : ByteArray := prog_1_method_3_code
def yX10_put : MethodName := ⟨RX10, "put", "(IIIII)I"⟩
abbrev cX10_ends : ByteArray := prog_1_method_4_code
def yX10_ends : MethodName := ⟨RX10, "ends", "(IIIII)Z"⟩
abbrev cX10_clear : ByteArray := prog_1_method_5_code
def yX10_clear : MethodName := ⟨RX10, "clear", "()I"⟩
abbrev cX10_about : ByteArray := prog_1_method_6_code
def yX10_about : MethodName := ⟨RX10, "about", "(II)I"⟩
abbrev cX10_aboutReached : ByteArray := prog_1_method_7_code
def yX10_aboutReached : MethodName := ⟨RX10, "aboutReached", "(II)I"⟩
abbrev cX10_predecessor : ByteArray := prog_1_method_8_code
def yX10_predecessor : MethodName := ⟨RX10, "predecessor", "(II)I"⟩
abbrev cX10_dominates : ByteArray := prog_1_method_9_code
def yX10_dominates : MethodName := ⟨RX10, "dominates", "(II)I"⟩
abbrev cX10_meets : ByteArray := prog_1_method_10_code
def yX10_meets : MethodName := ⟨RX10, "meets", "(II)I"⟩
abbrev cX10_value : ByteArray := prog_1_method_11_code
def yX10_value : MethodName := ⟨RX10, "value", "(II)I"⟩
abbrev cX10_operand : ByteArray := prog_1_method_12_code
def yX10_operand : MethodName := ⟨RX10, "operand", "(II)I"⟩
abbrev cX10_led : ByteArray := prog_1_method_13_code
def yX10_led : MethodName := ⟨RX10, "led", "(II)I"⟩
abbrev cX10_classOf : ByteArray := prog_1_method_14_code
def yX10_classOf : MethodName := ⟨RX10, "classOf", "(I)I"⟩
abbrev cX10_read : ByteArray := prog_1_method_15_code
def yX10_read : MethodName := ⟨RX10, "read", "(IZ)I"⟩
abbrev cX10_emits : ByteArray := prog_1_method_16_code
def yX10_emits : MethodName := ⟨RX10, "emits", "(IIZ)I"⟩
abbrev cX10_readsOf : ByteArray := prog_1_method_17_code
def yX10_readsOf : MethodName := ⟨RX10, "readsOf", "(Z)LValueBench$Reads;"⟩
abbrev cX10_run : ByteArray := prog_1_method_18_code
def yX10_run : MethodName := ⟨RX10, "run", "(IIIII)I"⟩
abbrev cX10_fuel : ByteArray := prog_1_method_19_code
def yX10_fuel : MethodName := ⟨RX10, "fuel", "(I)I"⟩
abbrev cX10_ran : ByteArray := prog_1_method_20_code
def yX10_ran : MethodName := ⟨RX10, "ran", "(I)I"⟩
abbrev cX10_emitted : ByteArray := prog_1_method_21_code
def yX10_emitted : MethodName := ⟨RX10, "emitted", "(I)I"⟩
abbrev cX10_count : ByteArray := prog_1_method_22_code
def yX10_count : MethodName := ⟨RX10, "count", "(I)I"⟩
abbrev cX10_refresh : ByteArray := prog_1_method_23_code
def yX10_refresh : MethodName := ⟨RX10, "refresh", "()V"⟩
def RX11 : String := "ValueBenchModel"
def TX11 : u_T := fun k => match k with
  | 0 => ("ValueBenchModel", "blocks", "I", false)
  | 1 => ("ValueBenchModel", "told", "I", false)
  | 2 => ("ValueBenchModel", "kind", "[I", true)
  | 3 => ("ValueBenchModel", "first", "[I", true)
  | 4 => ("ValueBenchModel", "second", "[I", true)
  | 5 => ("ValueBenchModel", "third", "[I", true)
  | 6 => ("ValueBenchModel", "size", "[I", true)
  | 7 => ("ValueBenchModel", "endHow", "[I", true)
  | 8 => ("ValueBenchModel", "endY", "[I", true)
  | 9 => ("ValueBenchModel", "endB", "[I", true)
  | 10 => ("ValueBenchModel", "endC", "[I", true)
  | 11 => ("ValueBenchModel", "isMade", "Z", false)
  | 12 => ("ValueBenchModel", "isReached", "[Z", true)
  | 13 => ("ValueBenchModel", "isMet", "[Z", true)
  | 14 => ("ValueBenchModel", "dom", "[Z", true)
  | 15 => ("ValueBenchModel", "parent", "[I", true)
  | 16 => ("ValueBenchModel", "meets", "[Z", true)
  | 17 => ("ValueBenchModel", "hasChoice", "[Z", true)
  | 18 => ("ValueBenchModel", "values", "I", false)
  | 19 => ("ValueBenchModel", "valueKind", "[I", true)
  | 20 => ("ValueBenchModel", "valueBlock", "[I", true)
  | 21 => ("ValueBenchModel", "valueVariable", "[I", true)
  | 22 => ("ValueBenchModel", "valueNumber", "[I", true)
  | 23 => ("ValueBenchModel", "valuePlace", "[I", true)
  | 24 => ("ValueBenchModel", "operand", "[I", true)
  | 25 => ("ValueBenchModel", "operands", "[I", true)
  | 26 => ("ValueBenchModel", "choiceOf", "[I", true)
  | 27 => ("ValueBenchModel", "valueOf", "[I", true)
  | 28 => ("ValueBenchModel", "atBegin", "[I", true)
  | 29 => ("ValueBenchModel", "atEnd", "[I", true)
  | 30 => ("ValueBenchModel", "now", "[I", true)
  | 31 => ("ValueBenchModel", "klass", "[I", true)
  | 32 => ("ValueBenchModel", "parted", "[I", true)
  | 33 => ("ValueBenchModel", "isRedundant", "[Z", true)
  | 34 => ("ValueBenchModel", "fuel", "I", false)
  | 35 => ("ValueBenchModel", "runReturned", "I", false)
  | 36 => ("ValueBenchModel", "runTook", "I", false)
  | 37 => ("ValueBenchModel", "runEmitted", "I", false)
  | 38 => ("ValueBenchModel", "runBlock", "I", false)
  | 39 => ("ValueBenchModel", "kept", "[I", true)
  | 40 => ("ValueBenchModel", "variable", "[I", true)
  | 41 => ("ValueBenchModel", "is", "[I", true)
  | 42 => ("ValueBenchModel", "next", "[I", true)
  | _ => ("ValueBenchModel", "inputs", "[I", true)
def tyX11 : Nat → FieldType := fun k => match k with
  | 0 => .int
  | 1 => .int
  | 2 => .array .int
  | 3 => .array .int
  | 4 => .array .int
  | 5 => .array .int
  | 6 => .array .int
  | 7 => .array .int
  | 8 => .array .int
  | 9 => .array .int
  | 10 => .array .int
  | 11 => .boolean
  | 12 => .array .boolean
  | 13 => .array .boolean
  | 14 => .array .boolean
  | 15 => .array .int
  | 16 => .array .boolean
  | 17 => .array .boolean
  | 18 => .int
  | 19 => .array .int
  | 20 => .array .int
  | 21 => .array .int
  | 22 => .array .int
  | 23 => .array .int
  | 24 => .array .int
  | 25 => .array .int
  | 26 => .array .int
  | 27 => .array .int
  | 28 => .array .int
  | 29 => .array .int
  | 30 => .array .int
  | 31 => .array .int
  | 32 => .array .int
  | 33 => .array .boolean
  | 34 => .int
  | 35 => .int
  | 36 => .int
  | 37 => .int
  | 38 => .int
  | 39 => .array .int
  | 40 => .array .int
  | 41 => .array .int
  | 42 => .array .int
  | _ => .array .int
theorem nmX11 : ∀ a, a < 44 → ∀ b, b < 44 → a ≠ b → (TX11 a).2.1 ≠ (TX11 b).2.1 := by decide +kernel
theorem tyX11_ok : ∀ k, k < 44 → parseFieldDescriptor (TX11 k).2.2.1 = some (tyX11 k) := by decide +kernel
abbrev cX11_init : ByteArray := prog_13_method_1_code
def yX11_init : MethodName := ⟨RX11, "<init>", "()V"⟩
abbrev cX11_isBlock : ByteArray := prog_13_method_2_code
def yX11_isBlock : MethodName := ⟨RX11, "isBlock", "(I)Z"⟩
abbrev cX11_isVariable : ByteArray := prog_13_method_3_code
def yX11_isVariable : MethodName := ⟨RX11, "isVariable", "(I)Z"⟩
abbrev cX11_block : ByteArray := prog_13_method_4_code
def yX11_block : MethodName := ⟨RX11, "block", "()I"⟩
abbrev cX11_put : ByteArray := prog_13_method_5_code
def yX11_put : MethodName := ⟨RX11, "put", "(IIIII)I"⟩
abbrev cX11_ends : ByteArray := prog_13_method_6_code
def yX11_ends : MethodName := ⟨RX11, "ends", "(IIIII)Z"⟩
abbrev cX11_clear : ByteArray := prog_13_method_7_code
def yX11_clear : MethodName := ⟨RX11, "clear", "()I"⟩
abbrev cX11_howOf : ByteArray := prog_13_method_8_code
def yX11_howOf : MethodName := ⟨RX11, "howOf", "(I)I"⟩
abbrev cX11_yOf : ByteArray := prog_13_method_9_code
def yX11_yOf : MethodName := ⟨RX11, "yOf", "(I)I"⟩
abbrev cX11_leads : ByteArray := prog_13_method_10_code
def yX11_leads : MethodName := ⟨RX11, "leads", "(II)Z"⟩
abbrev cX11_meet : ByteArray := prog_13_method_11_code
def yX11_meet : MethodName := ⟨RX11, "meet", "(I)V"⟩
abbrev cX11_dominates1 : ByteArray := prog_13_method_12_code
def yX11_dominates1 : MethodName := ⟨RX11, "dominates1", "(II)Z"⟩
abbrev cX11_dominance : ByteArray := prog_13_method_13_code
def yX11_dominance : MethodName := ⟨RX11, "dominance", "()V"⟩
abbrev cX11_gives : ByteArray := prog_13_method_14_code
def yX11_gives : MethodName := ⟨RX11, "gives", "(II)Z"⟩
abbrev cX11_choices : ByteArray := prog_13_method_15_code
def yX11_choices : MethodName := ⟨RX11, "choices", "()V"⟩
abbrev cX11_comes : ByteArray := prog_13_method_16_code
def yX11_comes : MethodName := ⟨RX11, "comes", "(IIIII)I"⟩
abbrev cX11_numbers : ByteArray := prog_13_method_17_code
def yX11_numbers : MethodName := ⟨RX11, "numbers", "()V"⟩
abbrev cX11_adds : ByteArray := prog_13_method_18_code
def yX11_adds : MethodName := ⟨RX11, "adds", "(II)V"⟩
abbrev cX11_names : ByteArray := prog_13_method_19_code
def yX11_names : MethodName := ⟨RX11, "names", "()V"⟩
abbrev cX11_through : ByteArray := prog_13_method_20_code
def yX11_through : MethodName := ⟨RX11, "through", "(IIZ)V"⟩
abbrev cX11_readAt : ByteArray := prog_13_method_21_code
def yX11_readAt : MethodName := ⟨RX11, "readAt", "(III)I"⟩
abbrev cX11_isEven : ByteArray := prog_13_method_22_code
def yX11_isEven : MethodName := ⟨RX11, "isEven", "(I)Z"⟩
abbrev cX11_isOneSort : ByteArray := prog_13_method_23_code
def yX11_isOneSort : MethodName := ⟨RX11, "isOneSort", "(II)Z"⟩
abbrev cX11_hangTogether : ByteArray := prog_13_method_24_code
def yX11_hangTogether : MethodName := ⟨RX11, "hangTogether", "(II)Z"⟩
abbrev cX11_classes : ByteArray := prog_13_method_25_code
def yX11_classes : MethodName := ⟨RX11, "classes", "()V"⟩
abbrev cX11_isAhead : ByteArray := prog_13_method_26_code
def yX11_isAhead : MethodName := ⟨RX11, "isAhead", "(III)Z"⟩
abbrev cX11_redundant : ByteArray := prog_13_method_27_code
def yX11_redundant : MethodName := ⟨RX11, "redundant", "()V"⟩
abbrev cX11_leader : ByteArray := prog_13_method_28_code
def yX11_leader : MethodName := ⟨RX11, "leader", "(III)I"⟩
abbrev cX11_make : ByteArray := prog_13_method_29_code
def yX11_make : MethodName := ⟨RX11, "make", "()V"⟩
abbrev cX11_ledOperand : ByteArray := prog_13_method_30_code
def yX11_ledOperand : MethodName := ⟨RX11, "ledOperand", "(II)I"⟩
abbrev cX11_predecessorAt : ByteArray := prog_13_method_31_code
def yX11_predecessorAt : MethodName := ⟨RX11, "predecessorAt", "(II)I"⟩
abbrev cX11_work : ByteArray := prog_13_method_32_code
def yX11_work : MethodName := ⟨RX11, "work", "(III)I"⟩
abbrev cX11_emit : ByteArray := prog_13_method_33_code
def yX11_emit : MethodName := ⟨RX11, "emit", "(I)V"⟩
abbrev cX11_takes : ByteArray := prog_13_method_34_code
def yX11_takes : MethodName := ⟨RX11, "takes", "()Z"⟩
abbrev cX11_run : ByteArray := prog_13_method_35_code
def yX11_run : MethodName := ⟨RX11, "run", "(IIIII)I"⟩
abbrev cX11_costs : ByteArray := prog_13_method_36_code
def yX11_costs : MethodName := ⟨RX11, "costs", "(III)Z"⟩
abbrev cX11_chooses : ByteArray := prog_13_method_37_code
def yX11_chooses : MethodName := ⟨RX11, "chooses", "(III)V"⟩
abbrev cX11_acts : ByteArray := prog_13_method_38_code
def yX11_acts : MethodName := ⟨RX11, "acts", "(III)V"⟩
abbrev cX11_reads : ByteArray := prog_13_method_39_code
def yX11_reads : MethodName := ⟨RX11, "reads", "(IZ)I"⟩
abbrev cX11_fuel : ByteArray := prog_13_method_40_code
def yX11_fuel : MethodName := ⟨RX11, "fuel", "(I)I"⟩
abbrev cX11_ran : ByteArray := prog_13_method_41_code
def yX11_ran : MethodName := ⟨RX11, "ran", "(I)I"⟩
abbrev cX11_emitted : ByteArray := prog_13_method_42_code
def yX11_emitted : MethodName := ⟨RX11, "emitted", "(I)I"⟩
abbrev cX11_about : ByteArray := prog_13_method_43_code
def yX11_about : MethodName := ⟨RX11, "about", "(II)I"⟩
abbrev cX11_predecessor : ByteArray := prog_13_method_44_code
def yX11_predecessor : MethodName := ⟨RX11, "predecessor", "(II)I"⟩
abbrev cX11_areReached : ByteArray := prog_13_method_45_code
def yX11_areReached : MethodName := ⟨RX11, "areReached", "(II)Z"⟩
abbrev cX11_dominates : ByteArray := prog_13_method_46_code
def yX11_dominates : MethodName := ⟨RX11, "dominates", "(II)I"⟩
abbrev cX11_meets : ByteArray := prog_13_method_47_code
def yX11_meets : MethodName := ⟨RX11, "meets", "(II)I"⟩
abbrev cX11_isValue : ByteArray := prog_13_method_48_code
def yX11_isValue : MethodName := ⟨RX11, "isValue", "(I)Z"⟩
abbrev cX11_value : ByteArray := prog_13_method_49_code
def yX11_value : MethodName := ⟨RX11, "value", "(II)I"⟩
abbrev cX11_isOperand : ByteArray := prog_13_method_50_code
def yX11_isOperand : MethodName := ⟨RX11, "isOperand", "(II)Z"⟩
abbrev cX11_operand : ByteArray := prog_13_method_51_code
def yX11_operand : MethodName := ⟨RX11, "operand", "(II)I"⟩
abbrev cX11_led : ByteArray := prog_13_method_52_code
def yX11_led : MethodName := ⟨RX11, "led", "(II)I"⟩
abbrev cX11_classOf : ByteArray := prog_13_method_53_code
def yX11_classOf : MethodName := ⟨RX11, "classOf", "(I)I"⟩
abbrev cX11_read : ByteArray := prog_13_method_54_code
def yX11_read : MethodName := ⟨RX11, "read", "(IZ)I"⟩
abbrev cX11_emits : ByteArray := prog_13_method_55_code
def yX11_emits : MethodName := ⟨RX11, "emits", "(IIZ)I"⟩
abbrev cX11_count : ByteArray := prog_13_method_56_code
def yX11_count : MethodName := ⟨RX11, "count", "(I)I"⟩
def RJ6 : String := "java/lang/Integer"
def TJ6 : u_T := fun k => match k with
  | _ => ("", "", "", false)
def tyJ6 : Nat → FieldType := fun k => match k with
  | _ => .int
abbrev cJ6_bitCount_0f7a4 : ByteArray := prog_14_method_49_code
def yJ6_bitCount_0f7a4 : MethodName := ⟨RJ6, "bitCount", "(I)I"⟩
def RJ10 : String := "java/lang/System"
def TJ10 : u_T := fun k => match k with
  | _ => ("", "", "", false)
def tyJ10 : Nat → FieldType := fun k => match k with
  | _ => .int
def RJ7 : String := "java/util/Arrays"
def TJ7 : u_T := fun k => match k with
  | _ => ("", "", "", false)
def tyJ7 : Nat → FieldType := fun k => match k with
  | _ => .int
abbrev cJ7_fill_53178 : ByteArray := prog_16_method_103_code
def yJ7_fill_53178 : MethodName := ⟨RJ7, "fill", "([II)V"⟩
end
section
/-! a side's world: cells 0 .. N-1 at the addresses ad k, each with its numbers σ k; zW: the machine's W with heap, locals and frame put away -/
abbrev zx_S : Type := Nat → Nat → Int32
/-- contents of a cell by (array classes, addresses, cell, numbers); how many cells; classes; words; words that are carried -/
abbrev zx_D : Type := (ClassId × ClassId → (Nat → Nat) → Nat → (Nat → Int32) → va_E) × Nat × List vw_C × List Cond × List Cond
abbrev zx_Z : Type := Program × Launch × Env × Room × State × MethodId × Array Value × List Frame × Method × Code × (State → Prop) × va_G × (ClassId × ClassId) × (Nat → Nat) × Heap
abbrev zz_p (Z : zx_Z) : Program := Z.1
abbrev zz_l (Z : zx_Z) : Launch := Z.2.1
abbrev zz_e (Z : zx_Z) : Env := Z.2.2.1
abbrev zz_R (Z : zx_Z) : Room := Z.2.2.2.1
abbrev zz_s (Z : zx_Z) : State := Z.2.2.2.2.1
abbrev zz_m (Z : zx_Z) : MethodId := Z.2.2.2.2.2.1
abbrev zz_a (Z : zx_Z) : Array Value := Z.2.2.2.2.2.2.1
abbrev zz_b (Z : zx_Z) : List Frame := Z.2.2.2.2.2.2.2.1
abbrev zz_t (Z : zx_Z) : Method := Z.2.2.2.2.2.2.2.2.1
abbrev zz_c (Z : zx_Z) : Code := Z.2.2.2.2.2.2.2.2.2.1
abbrev zz_Q (Z : zx_Z) : State → Prop := Z.2.2.2.2.2.2.2.2.2.2.1
abbrev zz_D (Z : zx_Z) : va_G := Z.2.2.2.2.2.2.2.2.2.2.2.1
abbrev zz_z (Z : zx_Z) : ClassId × ClassId := Z.2.2.2.2.2.2.2.2.2.2.2.2.1
abbrev zz_d (Z : zx_Z) : Nat → Nat := Z.2.2.2.2.2.2.2.2.2.2.2.2.2.1
abbrev zz_H (Z : zx_Z) : Heap := Z.2.2.2.2.2.2.2.2.2.2.2.2.2.2
abbrev zd_L (S : zx_D) : ClassId × ClassId → (Nat → Nat) → Nat → (Nat → Int32) → va_E := S.1
abbrev zd_N (S : zx_D) : Nat := S.2.1
abbrev zd_C (S : zx_D) : List vw_C := S.2.2.1
abbrev zd_W (S : zx_D) : List Cond := S.2.2.2.1
abbrev zd_X (S : zx_D) : List Cond := S.2.2.2.2
def zx_w (S : zx_D) (cz : ClassId × ClassId) (ad : Nat → Nat) (σ : zx_S) : va_W := (List.range (zd_N S)).map (fun k => (ad k, zd_L S cz ad k (σ k)))
def zx_A (S : zx_D) (ad : Nat → Nat) : Nat → Prop := fun q => ∃ k, k < zd_N S ∧ q = ad k
abbrev zx_I (S : zx_D) (ad : Nat → Nat) : Prop := ∀ i j, i < zd_N S → j < zd_N S → ad i = ad j → i = j
def zx_uc (σ : zx_S) (k : Nat) (g : Nat → Int32) : zx_S := fun c => if c = k then g else σ c
def zx_su (σ : zx_S) (k i : Nat) (x : Int32) : zx_S := zx_uc σ k (upd (σ k) i x)
theorem zx_w_at {S : zx_D} {cz : ClassId × ClassId} {ad : Nat → Nat} {σ : zx_S} {k : Nat} (h : k < zd_N S) : (zx_w S cz ad σ)[k]? = some (ad k, zd_L S cz ad k (σ k)) := by
  simp [zx_w, List.getElem?_map, List.getElem?_range h]
theorem zx_w_inv {S : zx_D} {cz : ClassId × ClassId} {ad : Nat → Nat} {σ : zx_S} {k : Nat} {q : Nat × va_E} (h : (zx_w S cz ad σ)[k]? = some q) : k < zd_N S ∧ q = (ad k, zd_L S cz ad k (σ k)) := by
  by_cases hk : k < zd_N S
  · exact ⟨hk, (Option.some.inj ((zx_w_at hk).symm.trans h)).symm⟩
  · rw [List.getElem?_eq_none (by simp [zx_w]; omega)] at h
    cases h
theorem zx_w_set {S : zx_D} {cz : ClassId × ClassId} {ad : Nat → Nat} {σ : zx_S} {k : Nat} (h : k < zd_N S) (g : Nat → Int32) : (zx_w S cz ad σ).set k (ad k, zd_L S cz ad k g) = zx_w S cz ad (zx_uc σ k g) := by
  apply List.ext_getElem?
  intro j
  by_cases hj : j = k
  · subst hj
    rw [zx_w_at h, List.getElem?_set_self (by simp [zx_w]; exact h)]
    simp [zx_uc]
  · rw [List.getElem?_set_ne (fun e => hj e.symm)]
    by_cases hn : j < zd_N S
    · rw [zx_w_at hn, zx_w_at hn]
      simp [zx_uc, hj]
    · rw [List.getElem?_eq_none (by simp [zx_w]; omega), List.getElem?_eq_none (by simp [zx_w]; omega)]
theorem zx_w_D {S : zx_D} {cz : ClassId × ClassId} {ad : Nat → Nat} {σ : zx_S} (hi : zx_I S ad) : va_D (zx_A S ad) (zx_w S cz ad σ) := by
  refine ⟨fun i j p q hp hq e => ?_, fun k q hk => ?_⟩
  · obtain ⟨h1, rfl⟩ := zx_w_inv hp
    obtain ⟨h2, rfl⟩ := zx_w_inv hq
    exact hi i j h1 h2 e
  · obtain ⟨h1, rfl⟩ := zx_w_inv hk
    exact ⟨k, h1, rfl⟩
abbrev zx_ty (cz : ClassId × ClassId) : List (ClassId × FieldType) := [(cz.1, .int), (cz.2, .boolean)]
/-- what a side's words must be -/
def zx_So (S : zx_D) : Prop := (∀ w ∈ zd_W S, goodWord w = true) ∧ ∀ w ∈ zd_X S, w.onTables = true ∧ ∀ (s U : State), s.WarmedH U.vm → va_Nw w s → va_Nw w U
theorem zx_good {S : zx_D} (h : zx_So S) {ws : List Cond} (hw : ∀ w ∈ ws, w ∈ zd_W S) : GoodIn (zd_W S) ws := fun w q => ⟨hw w q, good_of_word (h.1 w (hw w q))⟩
def zx_B (S : zx_D) (D : va_G) (cz : ClassId × ClassId) (ad : Nat → Nat) (σ : zx_S) (U : State) : Prop := va_P D (zd_C S) (zx_w S cz ad σ) U.heap ∧ va_K D (zd_C S) (zx_ty cz) U ∧ ∀ w ∈ zd_X S, va_Nw w U
def zx_X (S : zx_D) (Z : zx_Z) (σ : zx_S) (H : Heap) (locs : List Loc) : Prop := va_P (zz_D Z) (zd_C S) (zx_w S (zz_z Z) (zz_d Z) σ) H ∧ va_S (zx_A S (zz_d Z)) (zz_H Z) H locs
abbrev zx_ok (S : zx_D) (Z : zx_Z) (cc : ByteArray) (nL : Nat) (own : String) (fr lo : Nat) : Prop :=
  CallFix (zz_p Z) (zz_m Z) (zz_c Z) cc nL (zz_s Z) (zz_a Z) (zd_W S) own ∧ va_K (zz_D Z) (zd_C S) (zx_ty (zz_z Z)) (zz_s Z) ∧ (∀ w ∈ zd_X S, va_Nw w (zz_s Z)) ∧ zx_I S (zz_d Z) ∧ zx_So S ∧ fr ≤ (zz_R Z).frames ∧ lo ≤ (zz_R Z).locals
def zW (S : zx_D) (Z : zx_Z) (nL pc : Nat) (lv : List (Nat × Value)) (st : List Value) (σ : zx_S) : Prop :=
  ∀ (H : Heap) (locs : List Loc) (ls : Array Slot), zx_X S Z σ H locs → lv_has ls nL lv → W (zz_p Z) (zz_l Z) (zz_e Z) (zz_R Z) (zz_s Z) (zz_m Z) (zz_a Z) (zz_b Z) (zz_t Z) (zz_c Z) H locs 0 0 (zz_Q Z) (F0 (zz_m Z) pc ls st)
/-! the pure side's words -/
def zx_lt {α : Type} (x : Int32) (f : Int32 → Option α) : Option α := f x
def zx_ls {α : Type} (x : zx_S) (f : zx_S → Option α) : Option α := f x
def zx_ck {α : Type} (i : Int32) (n : Nat) (k : Option α) : Option α := if i < 0 ∨ n ≤ i.toNatClampNeg then none else k
def zx_ne {α : Type} (e : Int32) (k : Option α) : Option α := if e = 0 then none else k
def zx_zr {α : Type} (e : Int32) (k : Option α) : Option α := if e = 0 ∨ e = 1 then k else none
def zx_cp {α : Type} (s : zx_S) (c0 : Nat) (i0 : Int32) (n0 c1 : Nat) (i1 : Int32) (n1 : Nat) (n : Int32) (f : zx_S → Option α) : Option α :=
  if i0 < 0 ∨ i1 < 0 ∨ n < 0 ∨ n0 < i0.toNatClampNeg + n.toNatClampNeg ∨ n1 < i1.toNatClampNeg + n.toNatClampNeg then none else f (zx_uc s c1 (va_cpy (s c0) (s c1) i0.toNatClampNeg i1.toNatClampNeg n.toNatClampNeg))
def zx_b2 {α : Type} (o : Option (Int32 × zx_S)) (f : Int32 → zx_S → Option α) : Option α := match o with
  | none => none
  | some q => f q.1 q.2
def zx_b1 {α β : Type} (o : Option α) (f : α → Option β) : Option β := match o with
  | none => none
  | some q => f q
theorem zx_b1_so {α β : Type} {o : Option α} {f : α → Option β} {r : β} (h : zx_b1 o f = some r) : ∃ q, o = some q ∧ f q = some r := by
  cases o with
  | none => cases h
  | some q => exact ⟨q, rfl, h⟩
theorem zx_b2_so {α : Type} {o : Option (Int32 × zx_S)} {f : Int32 → zx_S → Option α} {r : α} (h : zx_b2 o f = some r) : ∃ x s, o = some (x, s) ∧ f x s = some r := by
  cases o with
  | none => cases h
  | some q => exact ⟨q.1, q.2, rfl, h⟩
theorem zx_ck_so {α : Type} {i : Int32} {n : Nat} {k : Option α} {r : α} (h : zx_ck i n k = some r) : vp_in i n ∧ k = some r := by
  unfold zx_ck at h
  split at h
  · cases h
  · rename_i q
    exact ⟨q, h⟩
theorem zx_ne_so {α : Type} {e : Int32} {k : Option α} {r : α} (h : zx_ne e k = some r) : ¬ e = 0 ∧ k = some r := by
  unfold zx_ne at h
  split at h
  · cases h
  · rename_i q
    exact ⟨q, h⟩
theorem zx_zr_so {α : Type} {e : Int32} {k : Option α} {r : α} (h : zx_zr e k = some r) : (e = 0 ∨ e = 1) ∧ k = some r := by
  unfold zx_zr at h
  split at h
  · rename_i q
    exact ⟨q, h⟩
  · cases h
theorem zx_nb {e : Int32} (h : e = 0 ∨ e = 1) : narrow .boolean (.int e) = .int e := by
  rcases h with rfl | rfl <;> decide
/-! cells -/
def zx_ai (S : zx_D) (k n : Nat) : Prop := k < zd_N S ∧ ∀ (cz : ClassId × ClassId) (ad : Nat → Nat) (f : Nat → Int32), zd_L S cz ad k f = .inl (cz.1, n, .inl f)
def zx_az (S : zx_D) (k n : Nat) : Prop := k < zd_N S ∧ ∀ (cz : ClassId × ClassId) (ad : Nat → Nat) (f : Nat → Int32), zd_L S cz ad k f = .inl (cz.2, n, .inl f)
/-- a field of a cell under a name that a method's class spells -/
def zx_fl (S : zx_D) (own : String) (idx k sl : Nat) (V : (Nat → Nat) → (Nat → Int32) → Value) : Prop := k < zd_N S ∧ ∃ (ci : Nat) (C : String) (T : u_T) (N : Nat) (ref : String), (zd_C S)[ci]? = some (C, T, N) ∧ sl < N ∧ (∀ w ∈ u_ws C T N, w ∈ zd_W S) ∧ Cond.fieldLink own idx ref (T sl).2.1 (T sl).2.2.1 ∈ zd_W S ∧ (ref = (T sl).1 ∨ Cond.sameField ref (T sl).1 (T sl).2.1 (T sl).2.2.1 ∈ zd_W S) ∧ ∀ (cz : ClassId × ClassId) (ad : Nat → Nat) (f : Nat → Int32), ∃ fs, zd_L S cz ad k f = .inr (ci, fs) ∧ fs[sl]? = some (V ad f)
/-- ... and it may be written: an int or a boolean -/
def zx_fp (S : zx_D) (own : String) (idx k sl : Nat) (ty : FieldType) : Prop := k < zd_N S ∧ ∃ (ci : Nat) (C : String) (T : u_T) (N : Nat) (t : Nat → FieldType), (zd_C S)[ci]? = some (C, T, N) ∧ sl < N ∧ (∀ w ∈ u_ws C T N, w ∈ zd_W S) ∧ (∀ k, k < N → parseFieldDescriptor (T k).2.2.1 = some (t k)) ∧ (∀ a, a < N → ∀ b, b < N → a ≠ b → (T a).2.1 ≠ (T b).2.1) ∧ Cond.fieldLink own idx (T sl).1 (T sl).2.1 (T sl).2.2.1 ∈ zd_W S ∧ (T sl).2.2.2 = false ∧ parseFieldDescriptor (T sl).2.2.1 = some ty ∧ (∀ x : Int32, fits ty (.int x) = true ∨ narrow ty (.int x) ≠ .int x) ∧ ∀ (cz : ClassId × ClassId) (ad : Nat → Nat) (f : Nat → Int32), ∃ fs, zd_L S cz ad k f = .inr (ci, fs) ∧ sl < fs.length ∧ ∀ x : Int32, zd_L S cz ad k (upd f sl x) = .inr (ci, fs.set sl (.int x))
/-- an object's class -/
def zx_oc (S : zx_D) (k : Nat) (C : String) : Prop := k < zd_N S ∧ ∃ (ci : Nat) (T : u_T) (N : Nat), (zd_C S)[ci]? = some (C, T, N) ∧ ∀ (cz : ClassId × ClassId) (ad : Nat → Nat) (f : Nat → Int32), ∃ fs, zd_L S cz ad k f = .inr (ci, fs)
section ZR
variable {S : zx_D} {Z : zx_Z} {cc : ByteArray} {nL pc q : Nat} {own : String} {fr lo : Nat} {lv lv' : List (Nat × Value)} {rest st : List Value} {σ : zx_S} {α : Type} {r : α}
theorem zr_sub (ks : List Nat) (hl : lv_pick lv ks = lv') (h : zW S Z nL pc lv' st σ) : zW S Z nL pc lv st σ := fun H locs ls hX hv => h H locs ls hX (lv_sub hv ks hl)
theorem zr_top {x : Int32} {f : Int32 → Option α} (h : zx_lt x f = some r) (k : ∀ y : Int32, f y = some r → zW S Z nL pc lv (.int y :: rest) σ) : zW S Z nL pc lv (.int x :: rest) σ := k x h
theorem zr_ls {x : zx_S} {f : zx_S → Option α} (h : zx_ls x f = some r) (k : ∀ y : zx_S, f y = some r → zW S Z nL pc lv st y) : zW S Z nL pc lv st x := k x h
theorem zr_iconst (C : zx_ok S Z cc nL own fr lo) {n : Int} {v : Int32} (d : decode cc pc = .ok (.iconst n, 1)) (hv : Int32.ofInt n = v) (hq : pc + 1 = q) (k : zW S Z nL q lv (.int v :: st) σ) : zW S Z nL pc lv st σ := by
  subst hq
  exact fun H locs ls hX hl => lv_iconst C.1.1 C.1.2.1 d hv (k H locs ls hX hl)
theorem zr_bipush (C : zx_ok S Z cc nL own fr lo) {n : Int} {v : Int32} (d : decode cc pc = .ok (.bipush n, 2)) (hv : (Int8.ofInt n).toInt32 = v) (hq : pc + 2 = q) (k : zW S Z nL q lv (.int v :: st) σ) : zW S Z nL pc lv st σ := by
  subst hq
  exact fun H locs ls hX hl => lv_bipush C.1.1 C.1.2.1 d hv (k H locs ls hX hl)
theorem zr_sipush (C : zx_ok S Z cc nL own fr lo) {n : Int} {v : Int32} (d : decode cc pc = .ok (.sipush n, 3)) (hv : (Int16.ofInt n).toInt32 = v) (hq : pc + 3 = q) (k : zW S Z nL q lv (.int v :: st) σ) : zW S Z nL pc lv st σ := by
  subst hq
  exact fun H locs ls hX hl => lv_sipush C.1.1 C.1.2.1 d hv (k H locs ls hX hl)
theorem zr_ldcw (C : zx_ok S Z cc nL own fr lo) {n : Nat} {v : Int32} (d : decode cc pc = .ok (.ldc_w n, 3)) (hw : Cond.constant own n v ∈ zd_W S) (hq : pc + 3 = q) (k : zW S Z nL q lv (.int v :: st) σ) : zW S Z nL pc lv st σ := by
  subst hq
  exact fun H locs ls hX hl => lv_ldcw C.1.1 C.1.2.1 C.1.2.2.2.1 (C.1.2.2.2.2 _ hw) d (k H locs ls hX hl)
theorem zr_iload_n (C : zx_ok S Z cc nL own fr lo) {n : Fin 4} {i : Nat} {x : Int32} (d : decode cc pc = .ok (.iload_n n, 1)) (hi : (n : Nat) = i) (j : Nat) (hj : lv[j]? = some (i, .int x)) (hq : pc + 1 = q) (k : zW S Z nL q lv (.int x :: st) σ) : zW S Z nL pc lv st σ := by
  subst hq
  exact fun H locs ls hX hl => lv_iload_n C.1.1 C.1.2.1 d hi (lv_at hl j hj) (k H locs ls hX hl)
theorem zr_iload (C : zx_ok S Z cc nL own fr lo) {i : Nat} {x : Int32} (d : decode cc pc = .ok (.iload i, 2)) (j : Nat) (hj : lv[j]? = some (i, .int x)) (hq : pc + 2 = q) (k : zW S Z nL q lv (.int x :: st) σ) : zW S Z nL pc lv st σ := by
  subst hq
  exact fun H locs ls hX hl => lv_iload C.1.1 C.1.2.1 d (lv_at hl j hj) (k H locs ls hX hl)
theorem zr_aload_n (C : zx_ok S Z cc nL own fr lo) {n : Fin 4} {i : Nat} {x : Nat} (d : decode cc pc = .ok (.aload_n n, 1)) (hi : (n : Nat) = i) (j : Nat) (hj : lv[j]? = some (i, .ref x)) (hq : pc + 1 = q) (k : zW S Z nL q lv (.ref x :: st) σ) : zW S Z nL pc lv st σ := by
  subst hq
  exact fun H locs ls hX hl => lv_aload_n C.1.1 C.1.2.1 d hi (lv_at hl j hj) (k H locs ls hX hl)
theorem zr_aload (C : zx_ok S Z cc nL own fr lo) {i : Nat} {x : Nat} (d : decode cc pc = .ok (.aload i, 2)) (j : Nat) (hj : lv[j]? = some (i, .ref x)) (hq : pc + 2 = q) (k : zW S Z nL q lv (.ref x :: st) σ) : zW S Z nL pc lv st σ := by
  subst hq
  exact fun H locs ls hX hl => lv_aload C.1.1 C.1.2.1 d (lv_at hl j hj) (k H locs ls hX hl)
abbrev zr_f (i : Nat) : Nat × Value → Bool := fun q => !(q.1 == i) && !(q.1 + 1 == i && q.2.category == 2)
theorem zr_istore_n (C : zx_ok S Z cc nL own fr lo) {n : Fin 4} {i : Nat} {x : Int32} (d : decode cc pc = .ok (.istore_n n, 1)) (hi : (n : Nat) = i) (hn : i < nL) (hl' : (i, Value.int x) :: lv.filter (zr_f i) = lv') (hq : pc + 1 = q) (k : zW S Z nL q lv' st σ) : zW S Z nL pc lv (.int x :: st) σ := by
  subst hq
  exact fun H locs ls hX hl => lv_istore_n C.1.1 C.1.2.1 d hi hl hn hl' (fun ls' h' => k H locs ls' hX h')
theorem zr_istore (C : zx_ok S Z cc nL own fr lo) {i : Nat} {x : Int32} (d : decode cc pc = .ok (.istore i, 2)) (hn : i < nL) (hl' : (i, Value.int x) :: lv.filter (zr_f i) = lv') (hq : pc + 2 = q) (k : zW S Z nL q lv' st σ) : zW S Z nL pc lv (.int x :: st) σ := by
  subst hq
  exact fun H locs ls hX hl => lv_istore C.1.1 C.1.2.1 d hl hn hl' (fun ls' h' => k H locs ls' hX h')
theorem zr_astore_n (C : zx_ok S Z cc nL own fr lo) {n : Fin 4} {i : Nat} {x : Nat} (d : decode cc pc = .ok (.astore_n n, 1)) (hi : (n : Nat) = i) (hn : i < nL) (hl' : (i, Value.ref x) :: lv.filter (zr_f i) = lv') (hq : pc + 1 = q) (k : zW S Z nL q lv' st σ) : zW S Z nL pc lv (.ref x :: st) σ := by
  subst hq
  exact fun H locs ls hX hl => lv_astore_n C.1.1 C.1.2.1 d hi hl hn hl' (fun ls' h' => k H locs ls' hX h')
theorem zr_astore (C : zx_ok S Z cc nL own fr lo) {i : Nat} {x : Nat} (d : decode cc pc = .ok (.astore i, 2)) (hn : i < nL) (hl' : (i, Value.ref x) :: lv.filter (zr_f i) = lv') (hq : pc + 2 = q) (k : zW S Z nL q lv' st σ) : zW S Z nL pc lv (.ref x :: st) σ := by
  subst hq
  exact fun H locs ls hX hl => lv_astore C.1.1 C.1.2.1 d hl hn hl' (fun ls' h' => k H locs ls' hX h')
theorem zr_iinc (C : zx_ok S Z cc nL own fr lo) {i : Nat} {n : Int} {x y : Int32} {f : Int32 → Option α} (d : decode cc pc = .ok (.iinc i n, 3)) (h : zx_lt (x + y) f = some r) (hy : Int32.ofInt n = y) (j : Nat) (hj : lv[j]? = some (i, .int x)) (hn : i < nL) {lw : Int32 → List (Nat × Value)} (hl' : ∀ v, (i, Value.int v) :: lv.filter (zr_f i) = lw v) (hq : pc + 3 = q) (k : ∀ v, f v = some r → zW S Z nL q (lw v) st σ) : zW S Z nL pc lv st σ := by
  subst hq
  subst hy
  exact fun H locs ls hX hl => lv_iinc C.1.1 C.1.2.1 d hl hj rfl hn (hl' _) (fun ls' h' => k _ h H locs ls' hX h')

theorem zr_iadd (C : zx_ok S Z cc nL own fr lo) {x y : Int32} (d : decode cc pc = .ok (.iadd, 1)) (hq : pc + 1 = q) (k : zW S Z nL q lv (.int (x + y) :: st) σ) : zW S Z nL pc lv (.int y :: .int x :: st) σ := by
  subst hq
  exact fun H locs ls hX hl => lv_iadd C.1.1 C.1.2.1 d (k H locs ls hX hl)
theorem zr_isub (C : zx_ok S Z cc nL own fr lo) {x y : Int32} (d : decode cc pc = .ok (.isub, 1)) (hq : pc + 1 = q) (k : zW S Z nL q lv (.int (x - y) :: st) σ) : zW S Z nL pc lv (.int y :: .int x :: st) σ := by
  subst hq
  exact fun H locs ls hX hl => lv_isub C.1.1 C.1.2.1 d (k H locs ls hX hl)
theorem zr_imul (C : zx_ok S Z cc nL own fr lo) {x y : Int32} (d : decode cc pc = .ok (.imul, 1)) (hq : pc + 1 = q) (k : zW S Z nL q lv (.int (x * y) :: st) σ) : zW S Z nL pc lv (.int y :: .int x :: st) σ := by
  subst hq
  exact fun H locs ls hX hl => lv_imul C.1.1 C.1.2.1 d (k H locs ls hX hl)
theorem zr_iand (C : zx_ok S Z cc nL own fr lo) {x y : Int32} (d : decode cc pc = .ok (.iand, 1)) (hq : pc + 1 = q) (k : zW S Z nL q lv (.int (x &&& y) :: st) σ) : zW S Z nL pc lv (.int y :: .int x :: st) σ := by
  subst hq
  exact fun H locs ls hX hl => lv_iand C.1.1 C.1.2.1 d (k H locs ls hX hl)
theorem zr_ior (C : zx_ok S Z cc nL own fr lo) {x y : Int32} (d : decode cc pc = .ok (.ior, 1)) (hq : pc + 1 = q) (k : zW S Z nL q lv (.int (x ||| y) :: st) σ) : zW S Z nL pc lv (.int y :: .int x :: st) σ := by
  subst hq
  exact fun H locs ls hX hl => lv_ior C.1.1 C.1.2.1 d (k H locs ls hX hl)
theorem zr_ixor (C : zx_ok S Z cc nL own fr lo) {x y : Int32} (d : decode cc pc = .ok (.ixor, 1)) (hq : pc + 1 = q) (k : zW S Z nL q lv (.int (x ^^^ y) :: st) σ) : zW S Z nL pc lv (.int y :: .int x :: st) σ := by
  subst hq
  exact fun H locs ls hX hl => lv_ixor C.1.1 C.1.2.1 d (k H locs ls hX hl)
theorem zr_ishl (C : zx_ok S Z cc nL own fr lo) {x y : Int32} (d : decode cc pc = .ok (.ishl, 1)) (hq : pc + 1 = q) (k : zW S Z nL q lv (.int (x <<< (y &&& 31)) :: st) σ) : zW S Z nL pc lv (.int y :: .int x :: st) σ := by
  subst hq
  exact fun H locs ls hX hl => lv_ishl C.1.1 C.1.2.1 d (k H locs ls hX hl)
theorem zr_ishr (C : zx_ok S Z cc nL own fr lo) {x y : Int32} (d : decode cc pc = .ok (.ishr, 1)) (hq : pc + 1 = q) (k : zW S Z nL q lv (.int (x >>> (y &&& 31)) :: st) σ) : zW S Z nL pc lv (.int y :: .int x :: st) σ := by
  subst hq
  exact fun H locs ls hX hl => lv_ishr C.1.1 C.1.2.1 d (k H locs ls hX hl)
theorem zr_idiv (C : zx_ok S Z cc nL own fr lo) {x y : Int32} (d : decode cc pc = .ok (.idiv, 1)) (hn : ¬ y = 0) (hq : pc + 1 = q) (k : zW S Z nL q lv (.int (x / y) :: st) σ) : zW S Z nL pc lv (.int y :: .int x :: st) σ := by
  subst hq
  exact fun H locs ls hX hl => lv_idiv C.1.1 C.1.2.1 d hn (k H locs ls hX hl)
theorem zr_irem (C : zx_ok S Z cc nL own fr lo) {x y : Int32} (d : decode cc pc = .ok (.irem, 1)) (hn : ¬ y = 0) (hq : pc + 1 = q) (k : zW S Z nL q lv (.int (x - x / y * y) :: st) σ) : zW S Z nL pc lv (.int y :: .int x :: st) σ := by
  subst hq
  exact fun H locs ls hX hl => lv_irem C.1.1 C.1.2.1 d hn (k H locs ls hX hl)
theorem zr_iushr (C : zx_ok S Z cc nL own fr lo) {x y : Int32} (d : decode cc pc = .ok (.iushr, 1)) (hq : pc + 1 = q) (k : zW S Z nL q lv (.int ((x.toUInt32 >>> (y.toUInt32 &&& Int32.toUInt32 31)).toInt32) :: st) σ) : zW S Z nL pc lv (.int y :: .int x :: st) σ := by
  subst hq
  exact fun H locs ls hX hl => lv_iushr C.1.1 C.1.2.1 d rfl (k H locs ls hX hl)
theorem zr_ineg (C : zx_ok S Z cc nL own fr lo) {x : Int32} (d : decode cc pc = .ok (.ineg, 1)) (hq : pc + 1 = q) (k : zW S Z nL q lv (.int (-x) :: st) σ) : zW S Z nL pc lv (.int x :: st) σ := by
  subst hq
  exact fun H locs ls hX hl => lv_ineg C.1.1 C.1.2.1 d (k H locs ls hX hl)
theorem zr_dup (C : zx_ok S Z cc nL own fr lo) {va : Value} (d : decode cc pc = .ok (.dup, 1)) (ha : va.category = 1) (hq : pc + 1 = q) (k : zW S Z nL q lv (va :: va :: st) σ) : zW S Z nL pc lv (va :: st) σ := by
  subst hq
  exact fun H locs ls hX hl => lv_dup C.1.1 C.1.2.1 d ha (k H locs ls hX hl)
theorem zr_pop (C : zx_ok S Z cc nL own fr lo) {va : Value} (d : decode cc pc = .ok (.pop, 1)) (ha : va.category = 1) (hq : pc + 1 = q) (k : zW S Z nL q lv st σ) : zW S Z nL pc lv (va :: st) σ := by
  subst hq
  exact fun H locs ls hX hl => lv_pop C.1.1 C.1.2.1 d ha (k H locs ls hX hl)
theorem zr_dup_x1 (C : zx_ok S Z cc nL own fr lo) {va vb : Value} (d : decode cc pc = .ok (.dup_x1, 1)) (ha : va.category = 1) (hb : vb.category = 1) (hq : pc + 1 = q) (k : zW S Z nL q lv (va :: vb :: va :: st) σ) : zW S Z nL pc lv (va :: vb :: st) σ := by
  subst hq
  exact fun H locs ls hX hl => lv_dup_x1 C.1.1 C.1.2.1 d ha hb (k H locs ls hX hl)
theorem zr_dup2 (C : zx_ok S Z cc nL own fr lo) {va vb : Value} (d : decode cc pc = .ok (.dup2, 1)) (ha : va.category = 1) (hb : vb.category = 1) (hq : pc + 1 = q) (k : zW S Z nL q lv (va :: vb :: va :: vb :: st) σ) : zW S Z nL pc lv (va :: vb :: st) σ := by
  subst hq
  exact fun H locs ls hX hl => lv_dup2_11 C.1.1 C.1.2.1 d ha hb (k H locs ls hX hl)
theorem zr_goto (C : zx_ok S Z cc nL own fr lo) {off : Int} (d : decode cc pc = .ok (.goto off, 3)) (hq : (pc : Int) + off = (q : Int)) (k : zW S Z nL q lv st σ) : zW S Z nL pc lv st σ :=
  fun H locs ls hX hl => lv_goto C.1.1 C.1.2.1 d hq (k H locs ls hX hl)
theorem zr_ifnonnull (C : zx_ok S Z cc nL own fr lo) {x : Nat} {off : Int} (d : decode cc pc = .ok (.ifnonnull off, 3)) (hq : (pc : Int) + off = (q : Int)) (k : zW S Z nL q lv st σ) : zW S Z nL pc lv (.ref x :: st) σ :=
  fun H locs ls hX hl => lv_ifnonnull C.1.1 C.1.2.1 d hq (k H locs ls hX hl)
theorem zr_ifnull (C : zx_ok S Z cc nL own fr lo) {x : Nat} {off : Int} (d : decode cc pc = .ok (.ifnull off, 3)) (hq : pc + 3 = q) (k : zW S Z nL q lv st σ) : zW S Z nL pc lv (.ref x :: st) σ := by
  subst hq
  exact fun H locs ls hX hl => lv_ifnull C.1.1 C.1.2.1 d (k H locs ls hX hl)
theorem zr_if_eq (C : zx_ok S Z cc nL own fr lo) {x : Int32} {off : Int} {tgt : Nat} {dc : Decidable (x = 0)} {A B : Option α} (d : decode cc pc = .ok (.ifCond .eq off, 3)) (h : @ite _ (x = 0) dc A B = some r) (ht : (pc : Int) + off = (tgt : Int)) (hq : pc + 3 = q) (kt : A = some r → zW S Z nL tgt lv st σ) (kf : B = some r → zW S Z nL q lv st σ) : zW S Z nL pc lv (.int x :: st) σ := by
  subst hq
  intro H locs ls hX hl
  refine lv_if_eq C.1.1 C.1.2.1 d ht (fun c => kt ?_ H locs ls hX hl) (fun c => kf ?_ H locs ls hX hl)
  · rw [if_pos c] at h; exact h
  · rw [if_neg c] at h; exact h
theorem zr_icmp_eq (C : zx_ok S Z cc nL own fr lo) {x y : Int32} {off : Int} {tgt : Nat} {dc : Decidable (x = y)} {A B : Option α} (d : decode cc pc = .ok (.if_icmp .eq off, 3)) (h : @ite _ (x = y) dc A B = some r) (ht : (pc : Int) + off = (tgt : Int)) (hq : pc + 3 = q) (kt : A = some r → zW S Z nL tgt lv st σ) (kf : B = some r → zW S Z nL q lv st σ) : zW S Z nL pc lv (.int y :: .int x :: st) σ := by
  subst hq
  intro H locs ls hX hl
  refine lv_icmp_eq C.1.1 C.1.2.1 d ht (fun c => kt ?_ H locs ls hX hl) (fun c => kf ?_ H locs ls hX hl)
  · rw [if_pos c] at h; exact h
  · rw [if_neg c] at h; exact h
theorem zr_if_ne (C : zx_ok S Z cc nL own fr lo) {x : Int32} {off : Int} {tgt : Nat} {dc : Decidable (x = 0)} {A B : Option α} (d : decode cc pc = .ok (.ifCond .ne off, 3)) (h : @ite _ (x = 0) dc A B = some r) (ht : (pc : Int) + off = (tgt : Int)) (hq : pc + 3 = q) (kt : B = some r → zW S Z nL tgt lv st σ) (kf : A = some r → zW S Z nL q lv st σ) : zW S Z nL pc lv (.int x :: st) σ := by
  subst hq
  intro H locs ls hX hl
  refine lv_if_ne C.1.1 C.1.2.1 d ht (fun c => kt ?_ H locs ls hX hl) (fun c => kf ?_ H locs ls hX hl)
  · rw [if_neg c] at h; exact h
  · rw [if_pos c] at h; exact h
theorem zr_icmp_ne (C : zx_ok S Z cc nL own fr lo) {x y : Int32} {off : Int} {tgt : Nat} {dc : Decidable (x = y)} {A B : Option α} (d : decode cc pc = .ok (.if_icmp .ne off, 3)) (h : @ite _ (x = y) dc A B = some r) (ht : (pc : Int) + off = (tgt : Int)) (hq : pc + 3 = q) (kt : B = some r → zW S Z nL tgt lv st σ) (kf : A = some r → zW S Z nL q lv st σ) : zW S Z nL pc lv (.int y :: .int x :: st) σ := by
  subst hq
  intro H locs ls hX hl
  refine lv_icmp_ne C.1.1 C.1.2.1 d ht (fun c => kt ?_ H locs ls hX hl) (fun c => kf ?_ H locs ls hX hl)
  · rw [if_neg c] at h; exact h
  · rw [if_pos c] at h; exact h
theorem zr_if_lt (C : zx_ok S Z cc nL own fr lo) {x : Int32} {off : Int} {tgt : Nat} {dc : Decidable (x < 0)} {A B : Option α} (d : decode cc pc = .ok (.ifCond .lt off, 3)) (h : @ite _ (x < 0) dc A B = some r) (ht : (pc : Int) + off = (tgt : Int)) (hq : pc + 3 = q) (kt : A = some r → zW S Z nL tgt lv st σ) (kf : B = some r → zW S Z nL q lv st σ) : zW S Z nL pc lv (.int x :: st) σ := by
  subst hq
  intro H locs ls hX hl
  refine lv_if_lt C.1.1 C.1.2.1 d ht (fun c => kt ?_ H locs ls hX hl) (fun c => kf ?_ H locs ls hX hl)
  · rw [if_pos c] at h; exact h
  · rw [if_neg c] at h; exact h
theorem zr_icmp_lt (C : zx_ok S Z cc nL own fr lo) {x y : Int32} {off : Int} {tgt : Nat} {dc : Decidable (x < y)} {A B : Option α} (d : decode cc pc = .ok (.if_icmp .lt off, 3)) (h : @ite _ (x < y) dc A B = some r) (ht : (pc : Int) + off = (tgt : Int)) (hq : pc + 3 = q) (kt : A = some r → zW S Z nL tgt lv st σ) (kf : B = some r → zW S Z nL q lv st σ) : zW S Z nL pc lv (.int y :: .int x :: st) σ := by
  subst hq
  intro H locs ls hX hl
  refine lv_icmp_lt C.1.1 C.1.2.1 d ht (fun c => kt ?_ H locs ls hX hl) (fun c => kf ?_ H locs ls hX hl)
  · rw [if_pos c] at h; exact h
  · rw [if_neg c] at h; exact h
theorem zr_if_ge (C : zx_ok S Z cc nL own fr lo) {x : Int32} {off : Int} {tgt : Nat} {dc : Decidable (0 ≤ x)} {A B : Option α} (d : decode cc pc = .ok (.ifCond .ge off, 3)) (h : @ite _ (0 ≤ x) dc A B = some r) (ht : (pc : Int) + off = (tgt : Int)) (hq : pc + 3 = q) (kt : A = some r → zW S Z nL tgt lv st σ) (kf : B = some r → zW S Z nL q lv st σ) : zW S Z nL pc lv (.int x :: st) σ := by
  subst hq
  intro H locs ls hX hl
  refine lv_if_ge C.1.1 C.1.2.1 d ht (fun c => kt ?_ H locs ls hX hl) (fun c => kf ?_ H locs ls hX hl)
  · rw [if_pos c] at h; exact h
  · rw [if_neg c] at h; exact h
theorem zr_icmp_ge (C : zx_ok S Z cc nL own fr lo) {x y : Int32} {off : Int} {tgt : Nat} {dc : Decidable (y ≤ x)} {A B : Option α} (d : decode cc pc = .ok (.if_icmp .ge off, 3)) (h : @ite _ (y ≤ x) dc A B = some r) (ht : (pc : Int) + off = (tgt : Int)) (hq : pc + 3 = q) (kt : A = some r → zW S Z nL tgt lv st σ) (kf : B = some r → zW S Z nL q lv st σ) : zW S Z nL pc lv (.int y :: .int x :: st) σ := by
  subst hq
  intro H locs ls hX hl
  refine lv_icmp_ge C.1.1 C.1.2.1 d ht (fun c => kt ?_ H locs ls hX hl) (fun c => kf ?_ H locs ls hX hl)
  · rw [if_pos c] at h; exact h
  · rw [if_neg c] at h; exact h
theorem zr_if_gt (C : zx_ok S Z cc nL own fr lo) {x : Int32} {off : Int} {tgt : Nat} {dc : Decidable (0 < x)} {A B : Option α} (d : decode cc pc = .ok (.ifCond .gt off, 3)) (h : @ite _ (0 < x) dc A B = some r) (ht : (pc : Int) + off = (tgt : Int)) (hq : pc + 3 = q) (kt : A = some r → zW S Z nL tgt lv st σ) (kf : B = some r → zW S Z nL q lv st σ) : zW S Z nL pc lv (.int x :: st) σ := by
  subst hq
  intro H locs ls hX hl
  refine lv_if_gt C.1.1 C.1.2.1 d ht (fun c => kt ?_ H locs ls hX hl) (fun c => kf ?_ H locs ls hX hl)
  · rw [if_pos c] at h; exact h
  · rw [if_neg c] at h; exact h
theorem zr_icmp_gt (C : zx_ok S Z cc nL own fr lo) {x y : Int32} {off : Int} {tgt : Nat} {dc : Decidable (y < x)} {A B : Option α} (d : decode cc pc = .ok (.if_icmp .gt off, 3)) (h : @ite _ (y < x) dc A B = some r) (ht : (pc : Int) + off = (tgt : Int)) (hq : pc + 3 = q) (kt : A = some r → zW S Z nL tgt lv st σ) (kf : B = some r → zW S Z nL q lv st σ) : zW S Z nL pc lv (.int y :: .int x :: st) σ := by
  subst hq
  intro H locs ls hX hl
  refine lv_icmp_gt C.1.1 C.1.2.1 d ht (fun c => kt ?_ H locs ls hX hl) (fun c => kf ?_ H locs ls hX hl)
  · rw [if_pos c] at h; exact h
  · rw [if_neg c] at h; exact h
theorem zr_if_le (C : zx_ok S Z cc nL own fr lo) {x : Int32} {off : Int} {tgt : Nat} {dc : Decidable (x ≤ 0)} {A B : Option α} (d : decode cc pc = .ok (.ifCond .le off, 3)) (h : @ite _ (x ≤ 0) dc A B = some r) (ht : (pc : Int) + off = (tgt : Int)) (hq : pc + 3 = q) (kt : A = some r → zW S Z nL tgt lv st σ) (kf : B = some r → zW S Z nL q lv st σ) : zW S Z nL pc lv (.int x :: st) σ := by
  subst hq
  intro H locs ls hX hl
  refine lv_if_le C.1.1 C.1.2.1 d ht (fun c => kt ?_ H locs ls hX hl) (fun c => kf ?_ H locs ls hX hl)
  · rw [if_pos c] at h; exact h
  · rw [if_neg c] at h; exact h
theorem zr_icmp_le (C : zx_ok S Z cc nL own fr lo) {x y : Int32} {off : Int} {tgt : Nat} {dc : Decidable (x ≤ y)} {A B : Option α} (d : decode cc pc = .ok (.if_icmp .le off, 3)) (h : @ite _ (x ≤ y) dc A B = some r) (ht : (pc : Int) + off = (tgt : Int)) (hq : pc + 3 = q) (kt : A = some r → zW S Z nL tgt lv st σ) (kf : B = some r → zW S Z nL q lv st σ) : zW S Z nL pc lv (.int y :: .int x :: st) σ := by
  subst hq
  intro H locs ls hX hl
  refine lv_icmp_le C.1.1 C.1.2.1 d ht (fun c => kt ?_ H locs ls hX hl) (fun c => kf ?_ H locs ls hX hl)
  · rw [if_pos c] at h; exact h
  · rw [if_neg c] at h; exact h
theorem zr_lookup (C : zx_ok S Z cc nL own fr lo) {dflt : Int} {ps : Array (Int × Int)} {len : Nat} {x : Int32} {off : Int} {tgt : Nat} (d : decode cc pc = .ok (.lookupswitch dflt ps, len)) (hp : (ps.toList.zip (ps.toList.drop 1)).all (fun (a, next) => a.1 < next.1) = true) (ho : Op.lookupswitch.offset ps.toList dflt x.toInt = off) (ht : (pc : Int) + off = (tgt : Int)) (k : zW S Z nL tgt lv st σ) : zW S Z nL pc lv (.int x :: st) σ :=
  fun H locs ls hX hl => lv_lookup C.1.1 C.1.2.1 d hp ho ht (k H locs ls hX hl)
theorem zr_tableOut (C : zx_ok S Z cc nL own fr lo) {dflt lw hi : Int} {offs : Array Int} {len : Nat} {x : Int32} {tgt : Nat} (d : decode cc pc = .ok (.tableswitch dflt lw hi offs, len)) (h : x.toInt < lw ∨ hi < x.toInt) (ht : (pc : Int) + dflt = (tgt : Int)) (k : zW S Z nL tgt lv st σ) : zW S Z nL pc lv (.int x :: st) σ :=
  fun H locs ls hX hl => lv_tableOut C.1.1 C.1.2.1 d h ht (k H locs ls hX hl)
theorem zr_tableIn (C : zx_ok S Z cc nL own fr lo) {dflt lw hi : Int} {offs : Array Int} {len : Nat} {x : Int32} {off : Int} {tgt : Nat} (d : decode cc pc = .ok (.tableswitch dflt lw hi offs, len)) (h1 : ¬ x.toInt < lw) (h2 : ¬ hi < x.toInt) (ho : offs[(x.toInt - lw).toNat]? = some off) (ht : (pc : Int) + off = (tgt : Int)) (k : zW S Z nL tgt lv st σ) : zW S Z nL pc lv (.int x :: st) σ :=
  fun H locs ls hX hl => lv_tableIn C.1.1 C.1.2.1 d h1 h2 ho ht (k H locs ls hX hl)
/-! the world -/
theorem zr_iald (C : zx_ok S Z cc nL own fr lo) {k n : Nat} {i : Int32} (d : decode cc pc = .ok (.iaload, 1)) (ha : zx_ai S k n) (hin : vp_in i n) (hq : pc + 1 = q) (kk : zW S Z nL q lv (.int (σ k i.toNatClampNeg) :: st) σ) : zW S Z nL pc lv (.int i :: .ref (zz_d Z k) :: st) σ := by
  subst hq
  exact fun H locs ls hX hl => va_iald C.1.1 C.1.2.1 C.2.1 hX.1 k 0 (by rw [zx_w_at ha.1, ha.2]) rfl hin d (kk H locs ls hX hl)
theorem zr_zald (C : zx_ok S Z cc nL own fr lo) {k n : Nat} {i : Int32} (d : decode cc pc = .ok (.baload, 1)) (ha : zx_az S k n) (hin : vp_in i n) (hq : pc + 1 = q) (kk : zW S Z nL q lv (.int (σ k i.toNatClampNeg) :: st) σ) : zW S Z nL pc lv (.int i :: .ref (zz_d Z k) :: st) σ := by
  subst hq
  exact fun H locs ls hX hl => va_zald C.1.1 C.1.2.1 C.2.1 hX.1 k 1 (by rw [zx_w_at ha.1, ha.2]) rfl hin d (kk H locs ls hX hl)
theorem zr_iast (C : zx_ok S Z cc nL own fr lo) {k n : Nat} {i x : Int32} (d : decode cc pc = .ok (.iastore, 1)) (ha : zx_ai S k n) (hin : vp_in i n) (hq : pc + 1 = q) (kk : zW S Z nL q lv st (zx_su σ k i.toNatClampNeg x)) : zW S Z nL pc lv (.int x :: .int i :: .ref (zz_d Z k) :: st) σ := by
  subst hq
  intro H locs ls hX hl
  refine va_iast C.1.1 C.1.2.1 C.2.1 hX.1 (zx_w_D C.2.2.2.1) hX.2 k 0 (by rw [zx_w_at ha.1, ha.2]) rfl hin d (fun H1 locs1 hP _ hS => kk H1 locs1 ls ⟨?_, hS⟩ hl)
  have e := zx_w_set (cz := zz_z Z) (ad := zz_d Z) (σ := σ) ha.1 (upd (σ k) i.toNatClampNeg x)
  rw [ha.2] at e
  unfold zx_su
  rw [← e]
  exact hP
theorem zr_zast (C : zx_ok S Z cc nL own fr lo) {k n : Nat} {i x : Int32} (d : decode cc pc = .ok (.bastore, 1)) (ha : zx_az S k n) (hin : vp_in i n) (hq : pc + 1 = q) (kk : zW S Z nL q lv st (zx_su σ k i.toNatClampNeg (vp_nar .boolean x))) : zW S Z nL pc lv (.int x :: .int i :: .ref (zz_d Z k) :: st) σ := by
  subst hq
  intro H locs ls hX hl
  refine va_zast C.1.1 C.1.2.1 C.2.1 hX.1 (zx_w_D C.2.2.2.1) hX.2 k 1 (by rw [zx_w_at ha.1, ha.2]) rfl hin d (fun H1 locs1 hP _ hS => kk H1 locs1 ls ⟨?_, hS⟩ hl)
  have e := zx_w_set (cz := zz_z Z) (ad := zz_d Z) (σ := σ) ha.1 (upd (σ k) i.toNatClampNeg (vp_nar .boolean x))
  rw [ha.2] at e
  unfold zx_su
  rw [← e]
  exact hP
theorem zr_alen (C : zx_ok S Z cc nL own fr lo) {k n : Nat} {x : Int32} (d : decode cc pc = .ok (.arraylength, 1)) (ha : zx_ai S k n) (hx : Int32.ofNat n = x) (hq : pc + 1 = q) (kk : zW S Z nL q lv (.int x :: st) σ) : zW S Z nL pc lv (.ref (zz_d Z k) :: st) σ := by
  subst hq
  exact fun H locs ls hX hl => va_alen C.1.1 C.1.2.1 C.2.1 hX.1 k 0 (by rw [zx_w_at ha.1, ha.2]) rfl hx d (kk H locs ls hX hl)
theorem zr_get (C : zx_ok S Z cc nL own fr lo) {idx k sl : Nat} {V : (Nat → Nat) → (Nat → Int32) → Value} (d : decode cc pc = .ok (.getfield idx, 3)) (hf : zx_fl S own idx k sl V) (hq : pc + 3 = q) (kk : zW S Z nL q lv (V (zz_d Z) (σ k) :: st) σ) : zW S Z nL pc lv (.ref (zz_d Z k) :: st) σ := by
  subst hq
  obtain ⟨hk, ci, K, T, N, ref, hc, hsl, hu, hlk, hsm, hL⟩ := hf
  obtain ⟨fs, h1, h2⟩ := hL (zz_z Z) (zz_d Z) (σ k)
  refine fun H locs ls hX hl => va_get C.1.1 C.1.2.1 C.1.2.2.2.2 hu C.1.2.2.2.1 C.2.1 hX.1 k (by rw [zx_w_at hk, h1]) hc sl hsl (C.1.2.2.2.2 _ hlk) ?_ h2 d (kk H locs ls hX hl)
  intro y hy
  rcases hsm with h | h
  · rw [h]; exact hy
  · exact u_same (C.1.2.2.2.2 _ h) y hy
theorem zr_put (C : zx_ok S Z cc nL own fr lo) {idx k sl : Nat} {ty : FieldType} {x : Int32} (d : decode cc pc = .ok (.putfield idx, 3)) (hf : zx_fp S own idx k sl ty) (hn : narrow ty (.int x) = .int x) (hq : pc + 3 = q) (kk : zW S Z nL q lv st (zx_su σ k sl x)) : zW S Z nL pc lv (.int x :: .ref (zz_d Z k) :: st) σ := by
  subst hq
  obtain ⟨hk, ci, K, T, N, t, hc, hsl, hu, ht, hnm, hlk, hfin, hty, hfit, hL⟩ := hf
  obtain ⟨fs, h1, h2, h3⟩ := hL (zz_z Z) (zz_d Z) (σ k)
  intro H locs ls hX hl
  refine va_put C.1.1 C.1.2.1 C.1.2.2.2.2 hu t ht hnm C.1.2.2.2.1 C.2.1 hX.1 (zx_w_D C.2.2.2.1) hX.2 k (by rw [zx_w_at hk, h1]) hc sl hsl (C.1.2.2.2.2 _ hlk) (fun _ h => h) hfin hty hn ((hfit x).resolve_right (fun h => h hn)) h2 d (fun H1 locs1 hP _ hS => kk H1 locs1 ls ⟨?_, hS⟩ hl)
  have e := zx_w_set (cz := zz_z Z) (ad := zz_d Z) (σ := σ) hk (upd (σ k) sl x)
  rw [h3] at e
  unfold zx_su
  rw [← e]
  exact hP
theorem zr_copy (C : zx_ok S Z cc nL own fr lo) {idx k0 k1 n0 n1 : Nat} {i0 i1 n : Int32} {f : zx_S → Option α} (d : decode cc pc = .ok (.invokestatic idx, 3)) (h : zx_cp σ k0 i0 n0 k1 i1 n1 n f = some r) (h0 : zx_ai S k0 n0) (h1 : zx_ai S k1 n1) (hlk : Cond.methodLink own idx arraycopyName ∈ zd_W S) (hnat : Cond.native arraycopyName ∈ zd_W S) (hstat : Cond.static arraycopyName ∈ zd_W S) (hini : Cond.initialized "java/lang/System" ∈ zd_W S) (hfr : 1 ≤ fr) (hlo : (st.map fun v => v.category).sum + (nativeFrameWords "java/lang/System" "arraycopy" 5 + 11) ≤ lo) (hq : pc + 3 = q) (kk : ∀ y : zx_S, f y = some r → zW S Z nL q lv st y) : zW S Z nL pc lv (.int n :: .int i1 :: .ref (zz_d Z k1) :: .int i0 :: .ref (zz_d Z k0) :: st) σ := by
  subst hq
  unfold zx_cp at h
  split at h
  · cases h
  · rename_i hno
    have a1 : ¬ i0 < 0 := fun z => hno (Or.inl z)
    have a2 : ¬ i1 < 0 := fun z => hno (Or.inr (Or.inl z))
    have a3 : ¬ n < 0 := fun z => hno (Or.inr (Or.inr (Or.inl z)))
    have a4 : i0.toNatClampNeg + n.toNatClampNeg ≤ n0 := Nat.not_lt.mp (fun z => hno (Or.inr (Or.inr (Or.inr (Or.inl z)))))
    have a5 : i1.toNatClampNeg + n.toNatClampNeg ≤ n1 := Nat.not_lt.mp (fun z => hno (Or.inr (Or.inr (Or.inr (Or.inr z)))))
    intro H locs ls hX hl
    refine va_copyi C.1.1 C.1.2.1 (C.1.2.2.1.trans hl.1.symm) C.1.2.2.2.1 (C.1.2.2.2.2 _ hlk) (C.1.2.2.2.2 _ hnat) (C.1.2.2.2.2 _ hstat) (C.1.2.2.2.2 _ hini) C.2.1 hX.1 (zx_w_D C.2.2.2.1) hX.2 k0 k1 0 0 (by rw [zx_w_at h0.1, h0.2]) (by rw [zx_w_at h1.1, h1.2]) rfl rfl rfl a1 a2 a3 a4 a5 (fun _ _ => rfl) (Nat.le_trans hfr C.2.2.2.2.2.1) (Nat.le_trans hlo C.2.2.2.2.2.2) d (fun H1 locs1 hP _ hS => kk _ h H1 locs1 ls ⟨?_, hS⟩ hl)
    have e := zx_w_set (cz := zz_z Z) (ad := zz_d Z) (σ := σ) h1.1 (va_cpy (σ k0) (σ k1) i0.toNatClampNeg i1.toNatClampNeg n.toNatClampNeg)
    rw [h1.2] at e
    rw [← e]
    exact hP
end ZR
end
section
/-! contracts over a side's world, and calls -/
def zx_rI (S : zx_D) (Z : zx_Z) (cc : ByteArray) (nL : Nat) (ty : FieldType) (v : Int32) (σ : zx_S) : Prop := ∀ (pc : Nat) (lv : List (Nat × Value)), decode cc pc = .ok (.ireturn, 1) → narrow ty (.int v) = .int v → zW S Z nL pc lv [.int v] σ
def zx_rV (S : zx_D) (Z : zx_Z) (cc : ByteArray) (nL : Nat) (σ : zx_S) : Prop := ∀ (pc : Nat) (lv : List (Nat × Value)), decode cc pc = .ok (.return_, 1) → zW S Z nL pc lv [] σ
def zx_rA (S : zx_D) (Z : zx_Z) (cc : ByteArray) (nL : Nat) (k : Nat) (σ : zx_S) : Prop := ∀ (pc : Nat) (lv : List (Nat × Value)), decode cc pc = .ok (.areturn, 1) → zW S Z nL pc lv [.ref (zz_d Z k)] σ
def zx_MI (S : zx_D) (l : Launch) (D : va_G) (cz : ClassId × ClassId) (ad : Nat → Nat) (y : MethodName) (cc : ByteArray) (nL : Nat) (ty : FieldType) (fr lo : Nat) (av : List Value) (s0 : zx_S) (r : Int32) (s1 : zx_S) : Prop := Met l y (Cond.code y cc nL (some ty) :: zd_W S) { frames := fr, cells := 0, slots := 0, locals := lo } (va_Pc av (zx_B S D cz ad s0)) (va_Qi (fun (r' : Int32) (s' : zx_S) => r' = r ∧ s' = s1) (fun s' t => zx_B S D cz ad s' t) (zx_A S ad)) 0 0 (zx_A S ad)
def zx_MV (S : zx_D) (l : Launch) (D : va_G) (cz : ClassId × ClassId) (ad : Nat → Nat) (y : MethodName) (cc : ByteArray) (nL : Nat) (fr lo : Nat) (av : List Value) (s0 s1 : zx_S) : Prop := Met l y (Cond.code y cc nL none :: zd_W S) { frames := fr, cells := 0, slots := 0, locals := lo } (va_Pc av (zx_B S D cz ad s0)) (va_Qv (fun (s' : zx_S) => s' = s1) (fun s' t => zx_B S D cz ad s' t) (zx_A S ad)) 0 0 (zx_A S ad)
def zx_MA (S : zx_D) (l : Launch) (D : va_G) (cz : ClassId × ClassId) (ad : Nat → Nat) (y : MethodName) (cc : ByteArray) (nL : Nat) (ty : FieldType) (fr lo : Nat) (av : List Value) (s0 : zx_S) (k : Nat) (s1 : zx_S) : Prop := Met l y (Cond.code y cc nL (some ty) :: zd_W S) { frames := fr, cells := 0, slots := 0, locals := lo } (va_Pc av (zx_B S D cz ad s0)) (va_Qr (fun (s' : zx_S) => s' = s1) (fun s' a t => a = ad k ∧ zx_B S D cz ad s' t) (zx_A S ad)) 0 0 (zx_A S ad)
theorem zx_blind {S : zx_D} (hS : zx_So S) {D : va_G} {cz : ClassId × ClassId} {ad : Nat → Nat} {av : List Value} {σ : zx_S} : FrameBlind (va_Pc av (zx_B S D cz ad σ)) := by
  intro a U g mk q
  obtain ⟨q0, qP, qK, qN⟩ := q
  exact ⟨q0, qP, va_K.moved (u := U) (U := U.calling g mk a) (Vm.Alike.refl U.vm) qK, fun w hw => va_Nw.same (hS.2 w hw).1 (u := U) rfl (qN w hw)⟩
theorem zx_start {S : zx_D} {Z : zx_Z} {cc : ByteArray} {nL : Nat} {own : String} {fr lo : Nat} (C : zx_ok S Z cc nL own fr lo) {σ : zx_S} {H : Heap} {locs : List Loc} (hX : zx_X S Z σ H locs) (av : List Value) : ∀ U : State, U.heap = H → (zz_s Z).WarmedH U.vm → va_Pc av (zx_B S (zz_D Z) (zz_z Z) (zz_d Z) σ) av.toArray U :=
  fun U hU hW => ⟨rfl, by rw [hU]; exact hX.1, va_K.moved hW.alike C.2.1, fun w hw => (C.2.2.2.2.1.2 w hw).2 _ _ hW (C.2.2.1 w hw)⟩
section ZM
variable {S : zx_D} {l : Launch} {D : va_G} {cz : ClassId × ClassId} {ad : Nat → Nat} {y : MethodName} {cc : ByteArray} {nL : Nat} {own : String} {fr lo : Nat} {av : List Value} {s0 s1 : zx_S}
theorem zx_metI {ty : FieldType} {v : Int32} (hS : zx_So S) (hi : zx_I S ad) (hy : plainName y.cls = true) (ho : y.cls = own) (ha : (lg_sl av).length ≤ nL) (wk : ∀ Z : zx_Z, zz_l Z = l → zz_D Z = D → zz_z Z = cz → zz_d Z = ad → zx_ok S Z cc nL own fr lo → zx_rI S Z cc nL ty v s1 → zW S Z nL 0 (lv_args 0 av) [] s0) : zx_MI S l D cz ad y cc nL ty fr lo av s0 v s1 := by
  refine Met.ofW (cc := cc) (maxL := nL) (ret := (some ty)) hy rfl ?_
  intro p e s m args below meth c s₁ B hml hv
  obtain ⟨rfl, hP, hK, hN⟩ := hv
  have hts := atoms_spec (ws := Cond.code y cc nL (some ty) :: zd_W S) B.pre
  have hown : s.vm.findClass own = some m.cls := by rw [← ho]; exact findClass_of_methodNamed B.named
  have hl := lv_entry av (n := nL) ha
  rw [lg_entry_eq]
  exact wk (p, l, e, _, s, m, av.toArray, below, meth, c, _, D, cz, ad, s.heap) rfl rfl rfl rfl ⟨⟨B.exec, B.bytes, hml, hown, fun w h => hts w (List.mem_cons_of_mem _ h)⟩, hK, hN, hi, hS, Nat.le_refl _, Nat.le_refl _⟩ (fun pc lv d hn H locs ls hX hl => W.zret B.exec B.bytes B.returns hn (fun t ht hW => ⟨⟨v, s1, rfl, ⟨rfl, rfl⟩, by rw [ht]; exact hX.1, va_K.moved hW.alike hK, fun w hw => (hS.2 w hw).2 _ _ hW (hN w hw)⟩, hX.2.F ht⟩) hX.2.2.2 d) s.heap [] _ ⟨hP, va_S.rf⟩ hl
theorem zx_metV  (hS : zx_So S) (hi : zx_I S ad) (hy : plainName y.cls = true) (ho : y.cls = own) (ha : (lg_sl av).length ≤ nL) (wk : ∀ Z : zx_Z, zz_l Z = l → zz_D Z = D → zz_z Z = cz → zz_d Z = ad → zx_ok S Z cc nL own fr lo → zx_rV S Z cc nL s1 → zW S Z nL 0 (lv_args 0 av) [] s0) : zx_MV S l D cz ad y cc nL fr lo av s0 s1 := by
  refine Met.ofW (cc := cc) (maxL := nL) (ret := none) hy rfl ?_
  intro p e s m args below meth c s₁ B hml hv
  obtain ⟨rfl, hP, hK, hN⟩ := hv
  have hts := atoms_spec (ws := Cond.code y cc nL none :: zd_W S) B.pre
  have hown : s.vm.findClass own = some m.cls := by rw [← ho]; exact findClass_of_methodNamed B.named
  have hl := lv_entry av (n := nL) ha
  rw [lg_entry_eq]
  exact wk (p, l, e, _, s, m, av.toArray, below, meth, c, _, D, cz, ad, s.heap) rfl rfl rfl rfl ⟨⟨B.exec, B.bytes, hml, hown, fun w h => hts w (List.mem_cons_of_mem _ h)⟩, hK, hN, hi, hS, Nat.le_refl _, Nat.le_refl _⟩ (fun pc lv d H locs ls hX hl => W.vret B.exec B.bytes B.returns (fun t ht hW => ⟨⟨s1, rfl, rfl, by rw [ht]; exact hX.1, va_K.moved hW.alike hK, fun w hw => (hS.2 w hw).2 _ _ hW (hN w hw)⟩, hX.2.F ht⟩) hX.2.2.2 d) s.heap [] _ ⟨hP, va_S.rf⟩ hl
theorem zx_metA {ty : FieldType} {k : Nat} (hS : zx_So S) (hi : zx_I S ad) (hy : plainName y.cls = true) (ho : y.cls = own) (ha : (lg_sl av).length ≤ nL) (hty : (∃ n, ty = .object n) ∨ ∃ t, ty = .array t) (wk : ∀ Z : zx_Z, zz_l Z = l → zz_D Z = D → zz_z Z = cz → zz_d Z = ad → zx_ok S Z cc nL own fr lo → zx_rA S Z cc nL k s1 → zW S Z nL 0 (lv_args 0 av) [] s0) : zx_MA S l D cz ad y cc nL ty fr lo av s0 k s1 := by
  refine Met.ofW (cc := cc) (maxL := nL) (ret := (some ty)) hy rfl ?_
  intro p e s m args below meth c s₁ B hml hv
  obtain ⟨rfl, hP, hK, hN⟩ := hv
  have hts := atoms_spec (ws := Cond.code y cc nL (some ty) :: zd_W S) B.pre
  have hown : s.vm.findClass own = some m.cls := by rw [← ho]; exact findClass_of_methodNamed B.named
  have hl := lv_entry av (n := nL) ha
  rw [lg_entry_eq]
  exact wk (p, l, e, _, s, m, av.toArray, below, meth, c, _, D, cz, ad, s.heap) rfl rfl rfl rfl ⟨⟨B.exec, B.bytes, hml, hown, fun w h => hts w (List.mem_cons_of_mem _ h)⟩, hK, hN, hi, hS, Nat.le_refl _, Nat.le_refl _⟩ (fun pc lv d H locs ls hX hl => W.aret B.exec B.bytes B.returns hty (Or.inr ⟨_, rfl⟩) (fun t ht hW => ⟨⟨s1, ad k, rfl, rfl, rfl, by rw [ht]; exact hX.1, va_K.moved hW.alike hK, fun w hw => (hS.2 w hw).2 _ _ hW (hN w hw)⟩, hX.2.F ht⟩) hX.2.2.2 d) s.heap [] _ ⟨hP, va_S.rf⟩ hl
end ZM
def zx_vw (S : zx_D) (own : String) (idx : Nat) (y : MethodName) (cy : ByteArray) (ny : Nat) (ret : Option FieldType) (n : Nat) : Prop := Cond.methodLink own idx y ∈ zd_W S ∧ Cond.instanceMethod y ∈ zd_W S ∧ Cond.selects y.cls y y ∈ zd_W S ∧ Cond.initialized y.cls ∈ zd_W S ∧ Cond.code y cy ny ret ∈ zd_W S ∧ (y.cls ≠ "java/lang/invoke/MethodHandle" ∧ y.cls ≠ "java/lang/invoke/VarHandle" ∧ (parseMethodDescriptor y.desc).map (fun d => d.parameters.length) = some n)
def zx_sw (S : zx_D) (own : String) (idx : Nat) (y : MethodName) (cy : ByteArray) (ny : Nat) (ret : Option FieldType) (n : Nat) : Prop := Cond.methodLink own idx y ∈ zd_W S ∧ Cond.static y ∈ zd_W S ∧ Cond.initialized y.cls ∈ zd_W S ∧ Cond.code y cy ny ret ∈ zd_W S ∧ (y.cls ≠ "java/lang/invoke/MethodHandle" ∧ y.cls ≠ "java/lang/invoke/VarHandle" ∧ (parseMethodDescriptor y.desc).map (fun d => d.parameters.length) = some n)
def zx_aw (S : zx_D) (own : String) (idx : Nat) (K owner : String) (x y : MethodName) (cy : ByteArray) (ny : Nat) (ret : Option FieldType) (n : Nat) : Prop := Cond.methodLink own idx x ∈ zd_W S ∧ Cond.sameMethod x.cls owner x.name x.desc ∈ zd_W S ∧ Cond.selects K x y ∈ zd_W S ∧ Cond.instanceMethod y ∈ zd_W S ∧ Cond.initialized y.cls ∈ zd_W S ∧ Cond.code y cy ny ret ∈ zd_W S ∧ Cond.declares ⟨owner, x.name, x.desc⟩ ∈ zd_X S ∧ (owner ≠ "java/lang/invoke/MethodHandle" ∧ owner ≠ "java/lang/invoke/VarHandle" ∧ (parseMethodDescriptor x.desc).map (fun d => d.parameters.length) = some n)
section ZC
variable {S : zx_D} {Z : zx_Z} {cc : ByteArray} {nL pc q : Nat} {own : String} {fr lo : Nat} {lv : List (Nat × Value)} {rest st : List Value} {σ σ1 : zx_S} {y : MethodName} {cy : ByteArray} {ny f2 l2 idx n : Nat}
abbrev zx_rm (fr lo : Nat) : Room := { frames := fr, cells := 0, slots := 0, locals := lo }
theorem zx_gc (hS : zx_So S) {c : Cond} (h : c ∈ zd_W S) : GoodIn (zd_W S) (c :: zd_W S) := zx_good hS (fun w hw => (List.mem_cons.mp hw).elim (fun e => by rw [e]; exact h) id)
theorem zx_recv (C : zx_ok S Z cc nL own fr lo) {k : Nat} {K : String} (hk : zx_oc S k K) {H : Heap} {locs : List Loc} (hX : zx_X S Z σ H locs) : ∃ cell : Cell, H[zz_d Z k]? = some cell ∧ cell.vm.isStatics = false ∧ (zz_s Z).vm.findClass K = some cell.cls := by
  obtain ⟨h1, ci, T, N, h2, h3⟩ := hk
  obtain ⟨fs, h4⟩ := h3 (zz_z Z) (zz_d Z) (σ k)
  exact va_recv C.2.1 hX.1 h2 (by rw [zx_w_at h1, h4])
theorem zx_cvw (C : zx_ok S Z cc nL own fr lo) {ret : Option FieldType} (hw : zx_vw S own idx y cy ny ret n) (hf : f2 + 1 ≤ fr ∧ 8 + (ny + 11) + l2 ≤ lo) : CallW (zz_R Z) (zz_s Z) (zz_a Z) own y.cls idx y cy ny ret (Cond.code y cy ny ret :: zd_W S) (zx_rm f2 l2) 0 0 n := by
  obtain ⟨h1, h2, h3, h4, h5, h6⟩ := hw
  have hts := C.1.2.2.2.2
  exact ⟨callB_of n hts (zx_gc C.2.2.2.2.1 h5) rfl rfl rfl (hts _ h4) (hts _ h1) h6 ⟨Nat.le_trans hf.1 C.2.2.2.2.2.1, Nat.le_trans hf.2 C.2.2.2.2.2.2⟩, hts _ h2, hts _ h3⟩
theorem zx_csw (C : zx_ok S Z cc nL own fr lo) {ret : Option FieldType} (hw : zx_sw S own idx y cy ny ret n) (hf : f2 + 1 ≤ fr ∧ 8 + (ny + 11) + l2 ≤ lo) : CallB (zz_R Z) (zz_s Z) (zz_a Z) own idx y cy ny ret (Cond.code y cy ny ret :: zd_W S) (zx_rm f2 l2) 0 0 n ∧ (Cond.static y).before (zz_a Z) (zz_s Z) = true := by
  obtain ⟨h1, h2, h4, h5, h6⟩ := hw
  have hts := C.1.2.2.2.2
  exact ⟨callB_of n hts (zx_gc C.2.2.2.2.1 h5) rfl rfl rfl (hts _ h4) (hts _ h1) h6 ⟨Nat.le_trans hf.1 C.2.2.2.2.2.1, Nat.le_trans hf.2 C.2.2.2.2.2.2⟩, hts _ h2⟩
theorem zx_caw (C : zx_ok S Z cc nL own fr lo) {K owner : String} {x : MethodName} {ret : Option FieldType} (hw : zx_aw S own idx K owner x y cy ny ret n) (hf : f2 + 1 ≤ fr ∧ 8 + (ny + 11) + l2 ≤ lo) : va_CU (zz_R Z) (zz_s Z) (zz_a Z) own K owner idx x y cy ny ret (Cond.code y cy ny ret :: zd_W S) (zx_rm f2 l2) 0 0 n := by
  obtain ⟨h1, h2, h3, h4, h5, h6, h7, h8⟩ := hw
  refine va_cwA n C.1.2.2.2.2 (zx_good C.2.2.2.2.1 (fun w hw => ?_)) rfl rfl rfl (C.2.2.1 _ h7) h8 ⟨Nat.le_trans hf.1 C.2.2.2.2.2.1, Nat.le_trans hf.2 C.2.2.2.2.2.2⟩
  rcases List.mem_append.mp hw with h | h
  · simp only [List.mem_cons, List.not_mem_nil, or_false] at h
    rcases h with rfl | rfl | rfl | rfl | rfl
    all_goals first | exact h1 | exact h2 | exact h3 | exact h4 | exact h5
  · rcases List.mem_cons.mp h with rfl | h
    · exact h6
    · exact h
theorem zr_cvI (C : zx_ok S Z cc nL own fr lo) {As : List Value} {k : Nat} {ty : FieldType} {v : Int32} (d : decode cc pc = .ok (.invokevirtual idx, 3)) (hM : zx_MI S (zz_l Z) (zz_D Z) (zz_z Z) (zz_d Z) y cy ny ty f2 l2 (.ref (zz_d Z k) :: As) σ v σ1) (hw : zx_vw S own idx y cy ny (some ty) n) (hk : zx_oc S k y.cls) (hf : f2 + 1 ≤ fr ∧ 8 + (ny + 11) + l2 ≤ lo) (hn : As.length = n) (hr : (rest.map fun v => v.category).sum ≤ 8) (hst : st = As.reverse ++ .ref (zz_d Z k) :: rest) (hq : pc + 3 = q) (kk : zW S Z nL q lv (.int v :: rest) σ1) : zW S Z nL pc lv st σ := by
  subst hq
  intro H locs ls hX hl
  refine va_calli (va_runV (As := As) (rest := rest) C.1 hM (zx_cvw C hw hf) ⟨zx_blind C.2.2.2.2.1, zx_recv C hk hX, zx_start C hX _⟩ rfl hn hl.1 hst (lv_room hr) d ⟨Nat.zero_le _, Nat.zero_le _⟩) hX.2 (fun _ _ h => h) (fun _ h => h) (fun r u t H1 locs1 ht hvm hw hB hz hk hS => ?_)
  obtain ⟨rfl, rfl⟩ := hw
  exact kk H1 locs1 ls ⟨by rw [← ht]; exact hB.1, hS⟩ hl
theorem zr_csI (C : zx_ok S Z cc nL own fr lo) {As : List Value} {ty : FieldType} {v : Int32} (d : decode cc pc = .ok (.invokestatic idx, 3)) (hM : zx_MI S (zz_l Z) (zz_D Z) (zz_z Z) (zz_d Z) y cy ny ty f2 l2 As σ v σ1) (hw : zx_sw S own idx y cy ny (some ty) n) (hf : f2 + 1 ≤ fr ∧ 8 + (ny + 11) + l2 ≤ lo) (hn : As.length = n) (hr : (rest.map fun v => v.category).sum ≤ 8) (hst : st = As.reverse ++ rest) (hq : pc + 3 = q) (kk : zW S Z nL q lv (.int v :: rest) σ1) : zW S Z nL pc lv st σ := by
  subst hq
  intro H locs ls hX hl
  refine va_calli (va_runS (As := As) (rest := rest) C.1 hM (zx_csw C hw hf) ⟨zx_blind C.2.2.2.2.1, zx_start C hX _⟩ rfl hn hl.1 hst (lv_room hr) d ⟨Nat.zero_le _, Nat.zero_le _⟩) hX.2 (fun _ _ h => h) (fun _ h => h) (fun r u t H1 locs1 ht hvm hw hB hz hk hS => ?_)
  obtain ⟨rfl, rfl⟩ := hw
  exact kk H1 locs1 ls ⟨by rw [← ht]; exact hB.1, hS⟩ hl
theorem zr_caI (C : zx_ok S Z cc nL own fr lo) {As : List Value} {k : Nat} {K owner : String} {x : MethodName} {ty : FieldType} {v : Int32} (d : decode cc pc = .ok (.invokevirtual idx, 3)) (hM : zx_MI S (zz_l Z) (zz_D Z) (zz_z Z) (zz_d Z) y cy ny ty f2 l2 (.ref (zz_d Z k) :: As) σ v σ1) (hw : zx_aw S own idx K owner x y cy ny (some ty) n) (hk : zx_oc S k K) (hf : f2 + 1 ≤ fr ∧ 8 + (ny + 11) + l2 ≤ lo) (hn : As.length = n) (hr : (rest.map fun v => v.category).sum ≤ 8) (hst : st = As.reverse ++ .ref (zz_d Z k) :: rest) (hq : pc + 3 = q) (kk : zW S Z nL q lv (.int v :: rest) σ1) : zW S Z nL pc lv st σ := by
  subst hq
  intro H locs ls hX hl
  refine va_calli (va_runU (As := As) (rest := rest) C.1 hM (zx_caw C hw hf) ⟨zx_blind C.2.2.2.2.1, zx_recv C hk hX, zx_start C hX _⟩ rfl hn hl.1 hst (lv_room hr) d ⟨Nat.zero_le _, Nat.zero_le _⟩) hX.2 (fun _ _ h => h) (fun _ h => h) (fun r u t H1 locs1 ht hvm hw hB hz hk hS => ?_)
  obtain ⟨rfl, rfl⟩ := hw
  exact kk H1 locs1 ls ⟨by rw [← ht]; exact hB.1, hS⟩ hl
theorem zr_cvV (C : zx_ok S Z cc nL own fr lo) {As : List Value} {k : Nat}  (d : decode cc pc = .ok (.invokevirtual idx, 3)) (hM : zx_MV S (zz_l Z) (zz_D Z) (zz_z Z) (zz_d Z) y cy ny f2 l2 (.ref (zz_d Z k) :: As) σ σ1) (hw : zx_vw S own idx y cy ny (none) n) (hk : zx_oc S k y.cls) (hf : f2 + 1 ≤ fr ∧ 8 + (ny + 11) + l2 ≤ lo) (hn : As.length = n) (hr : (rest.map fun v => v.category).sum ≤ 8) (hst : st = As.reverse ++ .ref (zz_d Z k) :: rest) (hq : pc + 3 = q) (kk : zW S Z nL q lv rest σ1) : zW S Z nL pc lv st σ := by
  subst hq
  intro H locs ls hX hl
  refine va_callv (va_runV (As := As) (rest := rest) C.1 hM (zx_cvw C hw hf) ⟨zx_blind C.2.2.2.2.1, zx_recv C hk hX, zx_start C hX _⟩ rfl hn hl.1 hst (lv_room hr) d ⟨Nat.zero_le _, Nat.zero_le _⟩) hX.2 (fun _ _ h => h) (fun _ h => h) (fun u t H1 locs1 ht hvm hw hB hz hk hS => ?_)
  subst hw
  exact kk H1 locs1 ls ⟨by rw [← ht]; exact hB.1, hS⟩ hl
theorem zr_csV (C : zx_ok S Z cc nL own fr lo) {As : List Value}  (d : decode cc pc = .ok (.invokestatic idx, 3)) (hM : zx_MV S (zz_l Z) (zz_D Z) (zz_z Z) (zz_d Z) y cy ny f2 l2 As σ σ1) (hw : zx_sw S own idx y cy ny (none) n) (hf : f2 + 1 ≤ fr ∧ 8 + (ny + 11) + l2 ≤ lo) (hn : As.length = n) (hr : (rest.map fun v => v.category).sum ≤ 8) (hst : st = As.reverse ++ rest) (hq : pc + 3 = q) (kk : zW S Z nL q lv rest σ1) : zW S Z nL pc lv st σ := by
  subst hq
  intro H locs ls hX hl
  refine va_callv (va_runS (As := As) (rest := rest) C.1 hM (zx_csw C hw hf) ⟨zx_blind C.2.2.2.2.1, zx_start C hX _⟩ rfl hn hl.1 hst (lv_room hr) d ⟨Nat.zero_le _, Nat.zero_le _⟩) hX.2 (fun _ _ h => h) (fun _ h => h) (fun u t H1 locs1 ht hvm hw hB hz hk hS => ?_)
  subst hw
  exact kk H1 locs1 ls ⟨by rw [← ht]; exact hB.1, hS⟩ hl
theorem zr_caV (C : zx_ok S Z cc nL own fr lo) {As : List Value} {k : Nat} {K owner : String} {x : MethodName}  (d : decode cc pc = .ok (.invokevirtual idx, 3)) (hM : zx_MV S (zz_l Z) (zz_D Z) (zz_z Z) (zz_d Z) y cy ny f2 l2 (.ref (zz_d Z k) :: As) σ σ1) (hw : zx_aw S own idx K owner x y cy ny (none) n) (hk : zx_oc S k K) (hf : f2 + 1 ≤ fr ∧ 8 + (ny + 11) + l2 ≤ lo) (hn : As.length = n) (hr : (rest.map fun v => v.category).sum ≤ 8) (hst : st = As.reverse ++ .ref (zz_d Z k) :: rest) (hq : pc + 3 = q) (kk : zW S Z nL q lv rest σ1) : zW S Z nL pc lv st σ := by
  subst hq
  intro H locs ls hX hl
  refine va_callv (va_runU (As := As) (rest := rest) C.1 hM (zx_caw C hw hf) ⟨zx_blind C.2.2.2.2.1, zx_recv C hk hX, zx_start C hX _⟩ rfl hn hl.1 hst (lv_room hr) d ⟨Nat.zero_le _, Nat.zero_le _⟩) hX.2 (fun _ _ h => h) (fun _ h => h) (fun u t H1 locs1 ht hvm hw hB hz hk hS => ?_)
  subst hw
  exact kk H1 locs1 ls ⟨by rw [← ht]; exact hB.1, hS⟩ hl
theorem zr_cvA (C : zx_ok S Z cc nL own fr lo) {As : List Value} {k : Nat} {ty : FieldType} {v : Nat} (d : decode cc pc = .ok (.invokevirtual idx, 3)) (hM : zx_MA S (zz_l Z) (zz_D Z) (zz_z Z) (zz_d Z) y cy ny ty f2 l2 (.ref (zz_d Z k) :: As) σ v σ1) (hw : zx_vw S own idx y cy ny (some ty) n) (hk : zx_oc S k y.cls) (hf : f2 + 1 ≤ fr ∧ 8 + (ny + 11) + l2 ≤ lo) (hn : As.length = n) (hr : (rest.map fun v => v.category).sum ≤ 8) (hst : st = As.reverse ++ .ref (zz_d Z k) :: rest) (hq : pc + 3 = q) (kk : zW S Z nL q lv (.ref (zz_d Z v) :: rest) σ1) : zW S Z nL pc lv st σ := by
  subst hq
  intro H locs ls hX hl
  refine va_callr (va_runV (As := As) (rest := rest) C.1 hM (zx_cvw C hw hf) ⟨zx_blind C.2.2.2.2.1, zx_recv C hk hX, zx_start C hX _⟩ rfl hn hl.1 hst (lv_room hr) d ⟨Nat.zero_le _, Nat.zero_le _⟩) hX.2 (fun _ _ h => h) (fun _ h => h) (fun u ra t H1 locs1 ht hvm hw hB hz hk hS => ?_)
  subst hw
  obtain ⟨rfl, hB⟩ := hB
  exact kk H1 locs1 ls ⟨by rw [← ht]; exact hB.1, hS⟩ hl
theorem zr_csA (C : zx_ok S Z cc nL own fr lo) {As : List Value} {ty : FieldType} {v : Nat} (d : decode cc pc = .ok (.invokestatic idx, 3)) (hM : zx_MA S (zz_l Z) (zz_D Z) (zz_z Z) (zz_d Z) y cy ny ty f2 l2 As σ v σ1) (hw : zx_sw S own idx y cy ny (some ty) n) (hf : f2 + 1 ≤ fr ∧ 8 + (ny + 11) + l2 ≤ lo) (hn : As.length = n) (hr : (rest.map fun v => v.category).sum ≤ 8) (hst : st = As.reverse ++ rest) (hq : pc + 3 = q) (kk : zW S Z nL q lv (.ref (zz_d Z v) :: rest) σ1) : zW S Z nL pc lv st σ := by
  subst hq
  intro H locs ls hX hl
  refine va_callr (va_runS (As := As) (rest := rest) C.1 hM (zx_csw C hw hf) ⟨zx_blind C.2.2.2.2.1, zx_start C hX _⟩ rfl hn hl.1 hst (lv_room hr) d ⟨Nat.zero_le _, Nat.zero_le _⟩) hX.2 (fun _ _ h => h) (fun _ h => h) (fun u ra t H1 locs1 ht hvm hw hB hz hk hS => ?_)
  subst hw
  obtain ⟨rfl, hB⟩ := hB
  exact kk H1 locs1 ls ⟨by rw [← ht]; exact hB.1, hS⟩ hl
theorem zr_retI {r : Int32 × zx_S} {e : Int32} (d : decode cc pc = .ok (.ireturn, 1)) (h : some (e, σ) = some r) (hr : zx_rI S Z cc nL .int r.1 r.2) : zW S Z nL pc lv [.int e] σ := by
  cases h
  exact hr pc lv d rfl
theorem zr_retR {r e : Int32} (d : decode cc pc = .ok (.ireturn, 1)) (h : some e = some r) (hr : zx_rI S Z cc nL .int r σ) : zW S Z nL pc lv [.int e] σ := by
  cases h
  exact hr pc lv d rfl
theorem zr_retZI {r : Int32 × zx_S} {e : Int32} (d : decode cc pc = .ok (.ireturn, 1)) (hb : e = 0 ∨ e = 1) (h : some (e, σ) = some r) (hr : zx_rI S Z cc nL .boolean r.1 r.2) : zW S Z nL pc lv [.int e] σ := by
  cases h
  exact hr pc lv d (zx_nb hb)
theorem zr_retZR {r e : Int32} (d : decode cc pc = .ok (.ireturn, 1)) (hb : e = 0 ∨ e = 1) (h : some e = some r) (hr : zx_rI S Z cc nL .boolean r σ) : zW S Z nL pc lv [.int e] σ := by
  cases h
  exact hr pc lv d (zx_nb hb)
theorem zr_retV {r : zx_S} (d : decode cc pc = .ok (.return_, 1)) (h : some σ = some r) (hr : zx_rV S Z cc nL r) : zW S Z nL pc lv [] σ := by
  cases h
  exact hr pc lv d
end ZC
end
