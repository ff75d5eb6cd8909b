section
-- ===== PART A: goes FIRST, ahead of the names: the tables' words, and 'selects' of the private methods out of them =====
/-- a private method of a class that the tables say can be made, by its rows of tables_1 -/
def lw_okq (q : MethodName × Nat) : Prop := (q.1.cls ≠ "java/lang/invoke/MethodHandle" ∧ q.1.cls ≠ "java/lang/invoke/VarHandle") ∧ Cond.instantiable q.1.cls q.2 ∈ tables_1 ∧ Cond.privateMethod q.1 ∈ tables_1 ∧ Cond.instanceMethod q.1 ∈ tables_1
theorem lw_p0 : lw_okq (⟨"ValueBench", "refresh", "()V"⟩, 10) := ⟨⟨by decide +kernel, by decide +kernel⟩, List.mem_of_getElem? (i := 17) (by decide +kernel), List.mem_of_getElem? (i := 436) (by decide +kernel), List.mem_of_getElem? (i := 437) (by decide +kernel)⟩
theorem lw_p1 : lw_okq (⟨"ValueBench$Program", "endCounts", "(I)Z"⟩, 10) := ⟨⟨by decide +kernel, by decide +kernel⟩, List.mem_of_getElem? (i := 25) (by decide +kernel), List.mem_of_getElem? (i := 453) (by decide +kernel), List.mem_of_getElem? (i := 454) (by decide +kernel)⟩
theorem lw_p2 : lw_okq (⟨"ValueBench$Graph", "parentOf", "(I)I"⟩, 7) := ⟨⟨by decide +kernel, by decide +kernel⟩, List.mem_of_getElem? (i := 79) (by decide +kernel), List.mem_of_getElem? (i := 470) (by decide +kernel), List.mem_of_getElem? (i := 471) (by decide +kernel)⟩
theorem lw_p3 : lw_okq (⟨"ValueBench$Graph", "frontierOf", "(I)I"⟩, 7) := ⟨⟨by decide +kernel, by decide +kernel⟩, List.mem_of_getElem? (i := 79) (by decide +kernel), List.mem_of_getElem? (i := 474) (by decide +kernel), List.mem_of_getElem? (i := 475) (by decide +kernel)⟩
theorem lw_p4 : lw_okq (⟨"ValueBench$Values", "placeChoices", "(LValueBench$Program;LValueBench$Graph;)V"⟩, 12) := ⟨⟨by decide +kernel, by decide +kernel⟩, List.mem_of_getElem? (i := 120) (by decide +kernel), List.mem_of_getElem? (i := 482) (by decide +kernel), List.mem_of_getElem? (i := 483) (by decide +kernel)⟩
theorem lw_p5 : lw_okq (⟨"ValueBench$Values", "numberAll", "(LValueBench$Program;LValueBench$Graph;)V"⟩, 12) := ⟨⟨by decide +kernel, by decide +kernel⟩, List.mem_of_getElem? (i := 120) (by decide +kernel), List.mem_of_getElem? (i := 491) (by decide +kernel), List.mem_of_getElem? (i := 492) (by decide +kernel)⟩
theorem lw_p6 : lw_okq (⟨"ValueBench$Values", "add", "(IIIII)V"⟩, 12) := ⟨⟨by decide +kernel, by decide +kernel⟩, List.mem_of_getElem? (i := 120) (by decide +kernel), List.mem_of_getElem? (i := 500) (by decide +kernel), List.mem_of_getElem? (i := 501) (by decide +kernel)⟩
theorem lw_p7 : lw_okq (⟨"ValueBench$Values", "numberChoices", "(LValueBench$Graph;I)V"⟩, 12) := ⟨⟨by decide +kernel, by decide +kernel⟩, List.mem_of_getElem? (i := 120) (by decide +kernel), List.mem_of_getElem? (i := 504) (by decide +kernel), List.mem_of_getElem? (i := 505) (by decide +kernel)⟩
theorem lw_p8 : lw_okq (⟨"ValueBench$Values", "numberInstructions", "(LValueBench$Program;I)V"⟩, 12) := ⟨⟨by decide +kernel, by decide +kernel⟩, List.mem_of_getElem? (i := 120) (by decide +kernel), List.mem_of_getElem? (i := 515) (by decide +kernel), List.mem_of_getElem? (i := 516) (by decide +kernel)⟩
theorem lw_p9 : lw_okq (⟨"ValueBench$Values", "beginBlock", "(LValueBench$Graph;I)V"⟩, 12) := ⟨⟨by decide +kernel, by decide +kernel⟩, List.mem_of_getElem? (i := 120) (by decide +kernel), List.mem_of_getElem? (i := 519) (by decide +kernel), List.mem_of_getElem? (i := 520) (by decide +kernel)⟩
theorem lw_p10 : lw_okq (⟨"ValueBench$Values", "followBlock", "(LValueBench$Program;I)V"⟩, 12) := ⟨⟨by decide +kernel, by decide +kernel⟩, List.mem_of_getElem? (i := 120) (by decide +kernel), List.mem_of_getElem? (i := 523) (by decide +kernel), List.mem_of_getElem? (i := 524) (by decide +kernel)⟩
theorem lw_p11 : lw_okq (⟨"ValueBench$Values", "fillChoices", "(LValueBench$Graph;)V"⟩, 12) := ⟨⟨by decide +kernel, by decide +kernel⟩, List.mem_of_getElem? (i := 120) (by decide +kernel), List.mem_of_getElem? (i := 532) (by decide +kernel), List.mem_of_getElem? (i := 533) (by decide +kernel)⟩
theorem lw_p12 : lw_okq (⟨"ValueBench$Values", "fillChoice", "(II)V"⟩, 12) := ⟨⟨by decide +kernel, by decide +kernel⟩, List.mem_of_getElem? (i := 120) (by decide +kernel), List.mem_of_getElem? (i := 536) (by decide +kernel), List.mem_of_getElem? (i := 537) (by decide +kernel)⟩
theorem lw_p13 : lw_okq (⟨"ValueBench$Classes", "leastAlike", "(LValueBench$Values;I)I"⟩, 3) := ⟨⟨by decide +kernel, by decide +kernel⟩, List.mem_of_getElem? (i := 216) (by decide +kernel), List.mem_of_getElem? (i := 544) (by decide +kernel), List.mem_of_getElem? (i := 545) (by decide +kernel)⟩
theorem lw_p14 : lw_okq (⟨"ValueBench$Classes", "partFiner", "(LValueBench$Values;)Z"⟩, 3) := ⟨⟨by decide +kernel, by decide +kernel⟩, List.mem_of_getElem? (i := 216) (by decide +kernel), List.mem_of_getElem? (i := 551) (by decide +kernel), List.mem_of_getElem? (i := 552) (by decide +kernel)⟩
theorem lw_p15 : lw_okq (⟨"ValueBench$Classes", "leastTogether", "(LValueBench$Values;I)I"⟩, 3) := ⟨⟨by decide +kernel, by decide +kernel⟩, List.mem_of_getElem? (i := 216) (by decide +kernel), List.mem_of_getElem? (i := 555) (by decide +kernel), List.mem_of_getElem? (i := 556) (by decide +kernel)⟩
def lw_privs_1 : List (MethodName × Nat) := [(⟨"ValueBench", "refresh", "()V"⟩, 10), (⟨"ValueBench$Program", "endCounts", "(I)Z"⟩, 10), (⟨"ValueBench$Graph", "parentOf", "(I)I"⟩, 7), (⟨"ValueBench$Graph", "frontierOf", "(I)I"⟩, 7), (⟨"ValueBench$Values", "placeChoices", "(LValueBench$Program;LValueBench$Graph;)V"⟩, 12), (⟨"ValueBench$Values", "numberAll", "(LValueBench$Program;LValueBench$Graph;)V"⟩, 12), (⟨"ValueBench$Values", "add", "(IIIII)V"⟩, 12), (⟨"ValueBench$Values", "numberChoices", "(LValueBench$Graph;I)V"⟩, 12), (⟨"ValueBench$Values", "numberInstructions", "(LValueBench$Program;I)V"⟩, 12), (⟨"ValueBench$Values", "beginBlock", "(LValueBench$Graph;I)V"⟩, 12), (⟨"ValueBench$Values", "followBlock", "(LValueBench$Program;I)V"⟩, 12), (⟨"ValueBench$Values", "fillChoices", "(LValueBench$Graph;)V"⟩, 12), (⟨"ValueBench$Values", "fillChoice", "(II)V"⟩, 12), (⟨"ValueBench$Classes", "leastAlike", "(LValueBench$Values;I)I"⟩, 3), (⟨"ValueBench$Classes", "partFiner", "(LValueBench$Values;)Z"⟩, 3), (⟨"ValueBench$Classes", "leastTogether", "(LValueBench$Values;I)I"⟩, 3)]
theorem lw_r1 : ∀ q ∈ lw_privs_1, lw_okq q := List.forall_mem_cons.mpr ⟨lw_p0, List.forall_mem_cons.mpr ⟨lw_p1, List.forall_mem_cons.mpr ⟨lw_p2, List.forall_mem_cons.mpr ⟨lw_p3, List.forall_mem_cons.mpr ⟨lw_p4, List.forall_mem_cons.mpr ⟨lw_p5, List.forall_mem_cons.mpr ⟨lw_p6, List.forall_mem_cons.mpr ⟨lw_p7, List.forall_mem_cons.mpr ⟨lw_p8, List.forall_mem_cons.mpr ⟨lw_p9, List.forall_mem_cons.mpr ⟨lw_p10, List.forall_mem_cons.mpr ⟨lw_p11, List.forall_mem_cons.mpr ⟨lw_p12, List.forall_mem_cons.mpr ⟨lw_p13, List.forall_mem_cons.mpr ⟨lw_p14, List.forall_mem_cons.mpr ⟨lw_p15, fun _ h => absurd h List.not_mem_nil⟩⟩⟩⟩⟩⟩⟩⟩⟩⟩⟩⟩⟩⟩⟩⟩
theorem lw_p16 : lw_okq (⟨"ValueBench$Classes", "operandsAgree", "(LValueBench$Values;II)Z"⟩, 3) := ⟨⟨by decide +kernel, by decide +kernel⟩, List.mem_of_getElem? (i := 216) (by decide +kernel), List.mem_of_getElem? (i := 559) (by decide +kernel), List.mem_of_getElem? (i := 560) (by decide +kernel)⟩
theorem lw_p17 : lw_okq (⟨"ValueBench$Classes", "together", "(LValueBench$Values;II)Z"⟩, 3) := ⟨⟨by decide +kernel, by decide +kernel⟩, List.mem_of_getElem? (i := 216) (by decide +kernel), List.mem_of_getElem? (i := 567) (by decide +kernel), List.mem_of_getElem? (i := 568) (by decide +kernel)⟩
theorem lw_p18 : lw_okq (⟨"ValueBench$Leaders", "leadOperands", "(LValueBench$Graph;LValueBench$Values;LValueBench$Classes;I)V"⟩, 3) := ⟨⟨by decide +kernel, by decide +kernel⟩, List.mem_of_getElem? (i := 235) (by decide +kernel), List.mem_of_getElem? (i := 583) (by decide +kernel), List.mem_of_getElem? (i := 584) (by decide +kernel)⟩
theorem lw_p19 : lw_okq (⟨"ValueBench$Leaders", "leader", "(LValueBench$Graph;LValueBench$Values;LValueBench$Classes;II)I"⟩, 3) := ⟨⟨by decide +kernel, by decide +kernel⟩, List.mem_of_getElem? (i := 235) (by decide +kernel), List.mem_of_getElem? (i := 591) (by decide +kernel), List.mem_of_getElem? (i := 592) (by decide +kernel)⟩
theorem lw_p20 : lw_okq (⟨"ValueBench$Leaders", "leadEmits", "(LValueBench$Program;LValueBench$Graph;LValueBench$Values;LValueBench$Classes;I)V"⟩, 3) := ⟨⟨by decide +kernel, by decide +kernel⟩, List.mem_of_getElem? (i := 235) (by decide +kernel), List.mem_of_getElem? (i := 596) (by decide +kernel), List.mem_of_getElem? (i := 597) (by decide +kernel)⟩
theorem lw_p21 : lw_okq (⟨"ValueBench", "aboutReached", "(II)I"⟩, 10) := ⟨⟨by decide +kernel, by decide +kernel⟩, List.mem_of_getElem? (i := 17) (by decide +kernel), List.mem_of_getElem? (i := 602) (by decide +kernel), List.mem_of_getElem? (i := 603) (by decide +kernel)⟩
theorem lw_p22 : lw_okq (⟨"ValueBench", "readsOf", "(Z)LValueBench$Reads;"⟩, 10) := ⟨⟨by decide +kernel, by decide +kernel⟩, List.mem_of_getElem? (i := 17) (by decide +kernel), List.mem_of_getElem? (i := 652) (by decide +kernel), List.mem_of_getElem? (i := 653) (by decide +kernel)⟩
theorem lw_p23 : lw_okq (⟨"ValueBench$ValueForm", "goes", "(I)Z"⟩, 7) := ⟨⟨by decide +kernel, by decide +kernel⟩, List.mem_of_getElem? (i := 280) (by decide +kernel), List.mem_of_getElem? (i := 691) (by decide +kernel), List.mem_of_getElem? (i := 692) (by decide +kernel)⟩
theorem lw_p24 : lw_okq (⟨"ValueBench$Machine", "followBlock", "(LValueBench$Form;)Z"⟩, 8) := ⟨⟨by decide +kernel, by decide +kernel⟩, List.mem_of_getElem? (i := 306) (by decide +kernel), List.mem_of_getElem? (i := 695) (by decide +kernel), List.mem_of_getElem? (i := 696) (by decide +kernel)⟩
theorem lw_p25 : lw_okq (⟨"ValueBench$Machine", "pay", "()Z"⟩, 8) := ⟨⟨by decide +kernel, by decide +kernel⟩, List.mem_of_getElem? (i := 306) (by decide +kernel), List.mem_of_getElem? (i := 708) (by decide +kernel), List.mem_of_getElem? (i := 709) (by decide +kernel)⟩
theorem lw_p26 : lw_okq (⟨"ValueBench$Machine", "follow", "(LValueBench$Form;I)V"⟩, 8) := ⟨⟨by decide +kernel, by decide +kernel⟩, List.mem_of_getElem? (i := 306) (by decide +kernel), List.mem_of_getElem? (i := 712) (by decide +kernel), List.mem_of_getElem? (i := 713) (by decide +kernel)⟩
theorem lw_p27 : lw_okq (⟨"ValueBench$Machine", "tell", "(I)V"⟩, 8) := ⟨⟨by decide +kernel, by decide +kernel⟩, List.mem_of_getElem? (i := 306) (by decide +kernel), List.mem_of_getElem? (i := 734) (by decide +kernel), List.mem_of_getElem? (i := 735) (by decide +kernel)⟩
theorem lw_p28 : lw_okq (⟨"ValueBenchModel", "isBlock", "(I)Z"⟩, 44) := ⟨⟨by decide +kernel, by decide +kernel⟩, List.mem_of_getElem? (i := 788) (by decide +kernel), List.mem_of_getElem? (i := 935) (by decide +kernel), List.mem_of_getElem? (i := 936) (by decide +kernel)⟩
theorem lw_p29 : lw_okq (⟨"ValueBenchModel", "make", "()V"⟩, 44) := ⟨⟨by decide +kernel, by decide +kernel⟩, List.mem_of_getElem? (i := 788) (by decide +kernel), List.mem_of_getElem? (i := 954) (by decide +kernel), List.mem_of_getElem? (i := 955) (by decide +kernel)⟩
theorem lw_p30 : lw_okq (⟨"ValueBenchModel", "dominance", "()V"⟩, 44) := ⟨⟨by decide +kernel, by decide +kernel⟩, List.mem_of_getElem? (i := 788) (by decide +kernel), List.mem_of_getElem? (i := 958) (by decide +kernel), List.mem_of_getElem? (i := 959) (by decide +kernel)⟩
theorem lw_p31 : lw_okq (⟨"ValueBenchModel", "meet", "(I)V"⟩, 44) := ⟨⟨by decide +kernel, by decide +kernel⟩, List.mem_of_getElem? (i := 788) (by decide +kernel), List.mem_of_getElem? (i := 962) (by decide +kernel), List.mem_of_getElem? (i := 963) (by decide +kernel)⟩
def lw_privs_2 : List (MethodName × Nat) := [(⟨"ValueBench$Classes", "operandsAgree", "(LValueBench$Values;II)Z"⟩, 3), (⟨"ValueBench$Classes", "together", "(LValueBench$Values;II)Z"⟩, 3), (⟨"ValueBench$Leaders", "leadOperands", "(LValueBench$Graph;LValueBench$Values;LValueBench$Classes;I)V"⟩, 3), (⟨"ValueBench$Leaders", "leader", "(LValueBench$Graph;LValueBench$Values;LValueBench$Classes;II)I"⟩, 3), (⟨"ValueBench$Leaders", "leadEmits", "(LValueBench$Program;LValueBench$Graph;LValueBench$Values;LValueBench$Classes;I)V"⟩, 3), (⟨"ValueBench", "aboutReached", "(II)I"⟩, 10), (⟨"ValueBench", "readsOf", "(Z)LValueBench$Reads;"⟩, 10), (⟨"ValueBench$ValueForm", "goes", "(I)Z"⟩, 7), (⟨"ValueBench$Machine", "followBlock", "(LValueBench$Form;)Z"⟩, 8), (⟨"ValueBench$Machine", "pay", "()Z"⟩, 8), (⟨"ValueBench$Machine", "follow", "(LValueBench$Form;I)V"⟩, 8), (⟨"ValueBench$Machine", "tell", "(I)V"⟩, 8), (⟨"ValueBenchModel", "isBlock", "(I)Z"⟩, 44), (⟨"ValueBenchModel", "make", "()V"⟩, 44), (⟨"ValueBenchModel", "dominance", "()V"⟩, 44), (⟨"ValueBenchModel", "meet", "(I)V"⟩, 44)]
theorem lw_r2 : ∀ q ∈ lw_privs_2, lw_okq q := List.forall_mem_cons.mpr ⟨lw_p16, List.forall_mem_cons.mpr ⟨lw_p17, List.forall_mem_cons.mpr ⟨lw_p18, List.forall_mem_cons.mpr ⟨lw_p19, List.forall_mem_cons.mpr ⟨lw_p20, List.forall_mem_cons.mpr ⟨lw_p21, List.forall_mem_cons.mpr ⟨lw_p22, List.forall_mem_cons.mpr ⟨lw_p23, List.forall_mem_cons.mpr ⟨lw_p24, List.forall_mem_cons.mpr ⟨lw_p25, List.forall_mem_cons.mpr ⟨lw_p26, List.forall_mem_cons.mpr ⟨lw_p27, List.forall_mem_cons.mpr ⟨lw_p28, List.forall_mem_cons.mpr ⟨lw_p29, List.forall_mem_cons.mpr ⟨lw_p30, List.forall_mem_cons.mpr ⟨lw_p31, fun _ h => absurd h List.not_mem_nil⟩⟩⟩⟩⟩⟩⟩⟩⟩⟩⟩⟩⟩⟩⟩⟩
theorem lw_p32 : lw_okq (⟨"ValueBenchModel", "leads", "(II)Z"⟩, 44) := ⟨⟨by decide +kernel, by decide +kernel⟩, List.mem_of_getElem? (i := 788) (by decide +kernel), List.mem_of_getElem? (i := 966) (by decide +kernel), List.mem_of_getElem? (i := 967) (by decide +kernel)⟩
theorem lw_p33 : lw_okq (⟨"ValueBenchModel", "howOf", "(I)I"⟩, 44) := ⟨⟨by decide +kernel, by decide +kernel⟩, List.mem_of_getElem? (i := 788) (by decide +kernel), List.mem_of_getElem? (i := 970) (by decide +kernel), List.mem_of_getElem? (i := 971) (by decide +kernel)⟩
theorem lw_p34 : lw_okq (⟨"ValueBenchModel", "dominates1", "(II)Z"⟩, 44) := ⟨⟨by decide +kernel, by decide +kernel⟩, List.mem_of_getElem? (i := 788) (by decide +kernel), List.mem_of_getElem? (i := 974) (by decide +kernel), List.mem_of_getElem? (i := 975) (by decide +kernel)⟩
theorem lw_p35 : lw_okq (⟨"ValueBenchModel", "choices", "()V"⟩, 44) := ⟨⟨by decide +kernel, by decide +kernel⟩, List.mem_of_getElem? (i := 788) (by decide +kernel), List.mem_of_getElem? (i := 978) (by decide +kernel), List.mem_of_getElem? (i := 979) (by decide +kernel)⟩
theorem lw_p36 : lw_okq (⟨"ValueBenchModel", "gives", "(II)Z"⟩, 44) := ⟨⟨by decide +kernel, by decide +kernel⟩, List.mem_of_getElem? (i := 788) (by decide +kernel), List.mem_of_getElem? (i := 982) (by decide +kernel), List.mem_of_getElem? (i := 983) (by decide +kernel)⟩
theorem lw_p37 : lw_okq (⟨"ValueBenchModel", "numbers", "()V"⟩, 44) := ⟨⟨by decide +kernel, by decide +kernel⟩, List.mem_of_getElem? (i := 788) (by decide +kernel), List.mem_of_getElem? (i := 986) (by decide +kernel), List.mem_of_getElem? (i := 987) (by decide +kernel)⟩
theorem lw_p38 : lw_okq (⟨"ValueBenchModel", "comes", "(IIIII)I"⟩, 44) := ⟨⟨by decide +kernel, by decide +kernel⟩, List.mem_of_getElem? (i := 788) (by decide +kernel), List.mem_of_getElem? (i := 990) (by decide +kernel), List.mem_of_getElem? (i := 991) (by decide +kernel)⟩
theorem lw_p39 : lw_okq (⟨"ValueBenchModel", "names", "()V"⟩, 44) := ⟨⟨by decide +kernel, by decide +kernel⟩, List.mem_of_getElem? (i := 788) (by decide +kernel), List.mem_of_getElem? (i := 994) (by decide +kernel), List.mem_of_getElem? (i := 995) (by decide +kernel)⟩
theorem lw_p40 : lw_okq (⟨"ValueBenchModel", "through", "(IIZ)V"⟩, 44) := ⟨⟨by decide +kernel, by decide +kernel⟩, List.mem_of_getElem? (i := 788) (by decide +kernel), List.mem_of_getElem? (i := 998) (by decide +kernel), List.mem_of_getElem? (i := 999) (by decide +kernel)⟩
theorem lw_p41 : lw_okq (⟨"ValueBenchModel", "adds", "(II)V"⟩, 44) := ⟨⟨by decide +kernel, by decide +kernel⟩, List.mem_of_getElem? (i := 788) (by decide +kernel), List.mem_of_getElem? (i := 1002) (by decide +kernel), List.mem_of_getElem? (i := 1003) (by decide +kernel)⟩
theorem lw_p42 : lw_okq (⟨"ValueBenchModel", "classes", "()V"⟩, 44) := ⟨⟨by decide +kernel, by decide +kernel⟩, List.mem_of_getElem? (i := 788) (by decide +kernel), List.mem_of_getElem? (i := 1006) (by decide +kernel), List.mem_of_getElem? (i := 1007) (by decide +kernel)⟩
theorem lw_p43 : lw_okq (⟨"ValueBenchModel", "isOneSort", "(II)Z"⟩, 44) := ⟨⟨by decide +kernel, by decide +kernel⟩, List.mem_of_getElem? (i := 788) (by decide +kernel), List.mem_of_getElem? (i := 1010) (by decide +kernel), List.mem_of_getElem? (i := 1011) (by decide +kernel)⟩
theorem lw_p44 : lw_okq (⟨"ValueBenchModel", "hangTogether", "(II)Z"⟩, 44) := ⟨⟨by decide +kernel, by decide +kernel⟩, List.mem_of_getElem? (i := 788) (by decide +kernel), List.mem_of_getElem? (i := 1014) (by decide +kernel), List.mem_of_getElem? (i := 1015) (by decide +kernel)⟩
theorem lw_p45 : lw_okq (⟨"ValueBenchModel", "redundant", "()V"⟩, 44) := ⟨⟨by decide +kernel, by decide +kernel⟩, List.mem_of_getElem? (i := 788) (by decide +kernel), List.mem_of_getElem? (i := 1021) (by decide +kernel), List.mem_of_getElem? (i := 1022) (by decide +kernel)⟩
theorem lw_p46 : lw_okq (⟨"ValueBenchModel", "isAhead", "(III)Z"⟩, 44) := ⟨⟨by decide +kernel, by decide +kernel⟩, List.mem_of_getElem? (i := 788) (by decide +kernel), List.mem_of_getElem? (i := 1025) (by decide +kernel), List.mem_of_getElem? (i := 1026) (by decide +kernel)⟩
theorem lw_p47 : lw_okq (⟨"ValueBenchModel", "chooses", "(III)V"⟩, 44) := ⟨⟨by decide +kernel, by decide +kernel⟩, List.mem_of_getElem? (i := 788) (by decide +kernel), List.mem_of_getElem? (i := 1029) (by decide +kernel), List.mem_of_getElem? (i := 1030) (by decide +kernel)⟩
def lw_privs_3 : List (MethodName × Nat) := [(⟨"ValueBenchModel", "leads", "(II)Z"⟩, 44), (⟨"ValueBenchModel", "howOf", "(I)I"⟩, 44), (⟨"ValueBenchModel", "dominates1", "(II)Z"⟩, 44), (⟨"ValueBenchModel", "choices", "()V"⟩, 44), (⟨"ValueBenchModel", "gives", "(II)Z"⟩, 44), (⟨"ValueBenchModel", "numbers", "()V"⟩, 44), (⟨"ValueBenchModel", "comes", "(IIIII)I"⟩, 44), (⟨"ValueBenchModel", "names", "()V"⟩, 44), (⟨"ValueBenchModel", "through", "(IIZ)V"⟩, 44), (⟨"ValueBenchModel", "adds", "(II)V"⟩, 44), (⟨"ValueBenchModel", "classes", "()V"⟩, 44), (⟨"ValueBenchModel", "isOneSort", "(II)Z"⟩, 44), (⟨"ValueBenchModel", "hangTogether", "(II)Z"⟩, 44), (⟨"ValueBenchModel", "redundant", "()V"⟩, 44), (⟨"ValueBenchModel", "isAhead", "(III)Z"⟩, 44), (⟨"ValueBenchModel", "chooses", "(III)V"⟩, 44)]
theorem lw_r3 : ∀ q ∈ lw_privs_3, lw_okq q := List.forall_mem_cons.mpr ⟨lw_p32, List.forall_mem_cons.mpr ⟨lw_p33, List.forall_mem_cons.mpr ⟨lw_p34, List.forall_mem_cons.mpr ⟨lw_p35, List.forall_mem_cons.mpr ⟨lw_p36, List.forall_mem_cons.mpr ⟨lw_p37, List.forall_mem_cons.mpr ⟨lw_p38, List.forall_mem_cons.mpr ⟨lw_p39, List.forall_mem_cons.mpr ⟨lw_p40, List.forall_mem_cons.mpr ⟨lw_p41, List.forall_mem_cons.mpr ⟨lw_p42, List.forall_mem_cons.mpr ⟨lw_p43, List.forall_mem_cons.mpr ⟨lw_p44, List.forall_mem_cons.mpr ⟨lw_p45, List.forall_mem_cons.mpr ⟨lw_p46, List.forall_mem_cons.mpr ⟨lw_p47, fun _ h => absurd h List.not_mem_nil⟩⟩⟩⟩⟩⟩⟩⟩⟩⟩⟩⟩⟩⟩⟩⟩
theorem lw_p48 : lw_okq (⟨"ValueBenchModel", "predecessorAt", "(II)I"⟩, 44) := ⟨⟨by decide +kernel, by decide +kernel⟩, List.mem_of_getElem? (i := 788) (by decide +kernel), List.mem_of_getElem? (i := 1033) (by decide +kernel), List.mem_of_getElem? (i := 1034) (by decide +kernel)⟩
theorem lw_p49 : lw_okq (⟨"ValueBenchModel", "ledOperand", "(II)I"⟩, 44) := ⟨⟨by decide +kernel, by decide +kernel⟩, List.mem_of_getElem? (i := 788) (by decide +kernel), List.mem_of_getElem? (i := 1037) (by decide +kernel), List.mem_of_getElem? (i := 1038) (by decide +kernel)⟩
theorem lw_p50 : lw_okq (⟨"ValueBenchModel", "leader", "(III)I"⟩, 44) := ⟨⟨by decide +kernel, by decide +kernel⟩, List.mem_of_getElem? (i := 788) (by decide +kernel), List.mem_of_getElem? (i := 1041) (by decide +kernel), List.mem_of_getElem? (i := 1042) (by decide +kernel)⟩
theorem lw_p51 : lw_okq (⟨"ValueBenchModel", "costs", "(III)Z"⟩, 44) := ⟨⟨by decide +kernel, by decide +kernel⟩, List.mem_of_getElem? (i := 788) (by decide +kernel), List.mem_of_getElem? (i := 1045) (by decide +kernel), List.mem_of_getElem? (i := 1046) (by decide +kernel)⟩
theorem lw_p52 : lw_okq (⟨"ValueBenchModel", "takes", "()Z"⟩, 44) := ⟨⟨by decide +kernel, by decide +kernel⟩, List.mem_of_getElem? (i := 788) (by decide +kernel), List.mem_of_getElem? (i := 1049) (by decide +kernel), List.mem_of_getElem? (i := 1050) (by decide +kernel)⟩
theorem lw_p53 : lw_okq (⟨"ValueBenchModel", "acts", "(III)V"⟩, 44) := ⟨⟨by decide +kernel, by decide +kernel⟩, List.mem_of_getElem? (i := 788) (by decide +kernel), List.mem_of_getElem? (i := 1053) (by decide +kernel), List.mem_of_getElem? (i := 1054) (by decide +kernel)⟩
theorem lw_p54 : lw_okq (⟨"ValueBenchModel", "emit", "(I)V"⟩, 44) := ⟨⟨by decide +kernel, by decide +kernel⟩, List.mem_of_getElem? (i := 788) (by decide +kernel), List.mem_of_getElem? (i := 1057) (by decide +kernel), List.mem_of_getElem? (i := 1058) (by decide +kernel)⟩
theorem lw_p55 : lw_okq (⟨"ValueBenchModel", "readAt", "(III)I"⟩, 44) := ⟨⟨by decide +kernel, by decide +kernel⟩, List.mem_of_getElem? (i := 788) (by decide +kernel), List.mem_of_getElem? (i := 1064) (by decide +kernel), List.mem_of_getElem? (i := 1065) (by decide +kernel)⟩
theorem lw_p56 : lw_okq (⟨"ValueBenchModel", "yOf", "(I)I"⟩, 44) := ⟨⟨by decide +kernel, by decide +kernel⟩, List.mem_of_getElem? (i := 788) (by decide +kernel), List.mem_of_getElem? (i := 1068) (by decide +kernel), List.mem_of_getElem? (i := 1069) (by decide +kernel)⟩
theorem lw_p57 : lw_okq (⟨"ValueBenchModel", "reads", "(IZ)I"⟩, 44) := ⟨⟨by decide +kernel, by decide +kernel⟩, List.mem_of_getElem? (i := 788) (by decide +kernel), List.mem_of_getElem? (i := 1072) (by decide +kernel), List.mem_of_getElem? (i := 1073) (by decide +kernel)⟩
theorem lw_p58 : lw_okq (⟨"ValueBenchModel", "areReached", "(II)Z"⟩, 44) := ⟨⟨by decide +kernel, by decide +kernel⟩, List.mem_of_getElem? (i := 788) (by decide +kernel), List.mem_of_getElem? (i := 1100) (by decide +kernel), List.mem_of_getElem? (i := 1101) (by decide +kernel)⟩
theorem lw_p59 : lw_okq (⟨"ValueBenchModel", "isValue", "(I)Z"⟩, 44) := ⟨⟨by decide +kernel, by decide +kernel⟩, List.mem_of_getElem? (i := 788) (by decide +kernel), List.mem_of_getElem? (i := 1112) (by decide +kernel), List.mem_of_getElem? (i := 1113) (by decide +kernel)⟩
theorem lw_p60 : lw_okq (⟨"ValueBenchModel", "isOperand", "(II)Z"⟩, 44) := ⟨⟨by decide +kernel, by decide +kernel⟩, List.mem_of_getElem? (i := 788) (by decide +kernel), List.mem_of_getElem? (i := 1120) (by decide +kernel), List.mem_of_getElem? (i := 1121) (by decide +kernel)⟩
def lw_privs_4 : List (MethodName × Nat) := [(⟨"ValueBenchModel", "predecessorAt", "(II)I"⟩, 44), (⟨"ValueBenchModel", "ledOperand", "(II)I"⟩, 44), (⟨"ValueBenchModel", "leader", "(III)I"⟩, 44), (⟨"ValueBenchModel", "costs", "(III)Z"⟩, 44), (⟨"ValueBenchModel", "takes", "()Z"⟩, 44), (⟨"ValueBenchModel", "acts", "(III)V"⟩, 44), (⟨"ValueBenchModel", "emit", "(I)V"⟩, 44), (⟨"ValueBenchModel", "readAt", "(III)I"⟩, 44), (⟨"ValueBenchModel", "yOf", "(I)I"⟩, 44), (⟨"ValueBenchModel", "reads", "(IZ)I"⟩, 44), (⟨"ValueBenchModel", "areReached", "(II)Z"⟩, 44), (⟨"ValueBenchModel", "isValue", "(I)Z"⟩, 44), (⟨"ValueBenchModel", "isOperand", "(II)Z"⟩, 44)]
theorem lw_r4 : ∀ q ∈ lw_privs_4, lw_okq q := List.forall_mem_cons.mpr ⟨lw_p48, List.forall_mem_cons.mpr ⟨lw_p49, List.forall_mem_cons.mpr ⟨lw_p50, List.forall_mem_cons.mpr ⟨lw_p51, List.forall_mem_cons.mpr ⟨lw_p52, List.forall_mem_cons.mpr ⟨lw_p53, List.forall_mem_cons.mpr ⟨lw_p54, List.forall_mem_cons.mpr ⟨lw_p55, List.forall_mem_cons.mpr ⟨lw_p56, List.forall_mem_cons.mpr ⟨lw_p57, List.forall_mem_cons.mpr ⟨lw_p58, List.forall_mem_cons.mpr ⟨lw_p59, List.forall_mem_cons.mpr ⟨lw_p60, fun _ h => absurd h List.not_mem_nil⟩⟩⟩⟩⟩⟩⟩⟩⟩⟩⟩⟩⟩
def lw_privs : List (MethodName × Nat) := lw_privs_1 ++ (lw_privs_2 ++ (lw_privs_3 ++ (lw_privs_4)))
def lw_tbl : List Cond := k2_sels lw_privs ++ tables_1
theorem lw_privs_ok : ∀ q ∈ lw_privs, lw_okq q := by
  show ∀ q ∈ lw_privs_1 ++ (lw_privs_2 ++ (lw_privs_3 ++ (lw_privs_4))), lw_okq q
  exact List.forall_mem_append.mpr ⟨lw_r1, List.forall_mem_append.mpr ⟨lw_r2, List.forall_mem_append.mpr ⟨lw_r3, lw_r4⟩⟩⟩

def RX0 : String := "ValueBench$Classes"
def TX0 : u_T := fun k => match k with
  | 0 => ("ValueBench$Classes", "least", "[I", true)
  | 1 => ("ValueBench$Classes", "finer", "[I", true)
  | _ => ("ValueBench$Classes", "size", "I", false)
def tyX0 : Nat → FieldType := fun k => match k with
  | 0 => .array .int
  | 1 => .array .int
  | _ => .int
theorem nmX0 : ∀ a, a < 3 → ∀ b, b < 3 → a ≠ b → (TX0 a).2.1 ≠ (TX0 b).2.1 := by decide +kernel
theorem tyX0_ok : ∀ k, k < 3 → parseFieldDescriptor (TX0 k).2.2.1 = some (tyX0 k) := by decide +kernel
abbrev cX0_init : ByteArray := prog_2_method_1_code
def yX0_init : MethodName := ⟨RX0, "<init>", "()V"⟩
abbrev cX0_part : ByteArray := prog_2_method_2_code
def yX0_part : MethodName := ⟨RX0, "part", "(LValueBench$Values;)V"⟩
abbrev cX0_leastAlike : ByteArray := prog_2_method_3_code
def yX0_leastAlike : MethodName := ⟨RX0, "leastAlike", "(LValueBench$Values;I)I"⟩
abbrev cX0_alike : ByteArray := prog_2_method_4_code
def yX0_alike : MethodName := ⟨RX0, "alike", "(LValueBench$Values;II)Z"⟩
abbrev cX0_partFiner : ByteArray := prog_2_method_5_code
def yX0_partFiner : MethodName := ⟨RX0, "partFiner", "(LValueBench$Values;)Z"⟩
abbrev cX0_leastTogether : ByteArray := prog_2_method_6_code
def yX0_leastTogether : MethodName := ⟨RX0, "leastTogether", "(LValueBench$Values;I)I"⟩
abbrev cX0_operandsAgree : ByteArray := prog_2_method_7_code
def yX0_operandsAgree : MethodName := ⟨RX0, "operandsAgree", "(LValueBench$Values;II)Z"⟩
abbrev cX0_together : ByteArray := prog_2_method_8_code
def yX0_together : MethodName := ⟨RX0, "together", "(LValueBench$Values;II)Z"⟩
abbrev cX0_isEven : ByteArray := prog_2_method_9_code
def yX0_isEven : MethodName := ⟨RX0, "isEven", "(I)Z"⟩
def RX1 : String := "ValueBench$Form"
def TX1 : u_T := fun k => match k with
  | _ => ("", "", "", false)
def tyX1 : Nat → FieldType := fun k => match k with
  | _ => .int
theorem nmX1 : ∀ a, a < 0 → ∀ b, b < 0 → a ≠ b → (TX1 a).2.1 ≠ (TX1 b).2.1 := by decide +kernel
theorem tyX1_ok : ∀ k, k < 0 → parseFieldDescriptor (TX1 k).2.2.1 = some (tyX1 k) := by decide +kernel
abbrev cX1_init : ByteArray := prog_3_method_1_code
def yX1_init : MethodName := ⟨RX1, "<init>", "(I)V"⟩
def RX2 : String := "ValueBench$Graph"
def TX2 : u_T := fun k => match k with
  | 0 => ("ValueBench$Graph", "tells", "[I", true)
  | 1 => ("ValueBench$Graph", "comes", "[I", true)
  | 2 => ("ValueBench$Graph", "dominated", "[I", true)
  | 3 => ("ValueBench$Graph", "dominators", "[I", true)
  | 4 => ("ValueBench$Graph", "parent", "[I", true)
  | 5 => ("ValueBench$Graph", "frontier", "[I", true)
  | _ => ("ValueBench$Graph", "reached", "I", false)
def tyX2 : Nat → FieldType := fun k => match k with
  | 0 => .array .int
  | 1 => .array .int
  | 2 => .array .int
  | 3 => .array .int
  | 4 => .array .int
  | 5 => .array .int
  | _ => .int
theorem nmX2 : ∀ a, a < 7 → ∀ b, b < 7 → a ≠ b → (TX2 a).2.1 ≠ (TX2 b).2.1 := by decide +kernel
theorem tyX2_ok : ∀ k, k < 7 → parseFieldDescriptor (TX2 k).2.2.1 = some (tyX2 k) := by decide +kernel
abbrev cX2_init : ByteArray := prog_4_method_1_code
def yX2_init : MethodName := ⟨RX2, "<init>", "()V"⟩
abbrev cX2_isIn : ByteArray := prog_4_method_2_code
def yX2_isIn : MethodName := ⟨RX2, "isIn", "(II)Z"⟩
abbrev cX2_nthOf : ByteArray := prog_4_method_3_code
def yX2_nthOf : MethodName := ⟨RX2, "nthOf", "(II)I"⟩
abbrev cX2_placeIn : ByteArray := prog_4_method_4_code
def yX2_placeIn : MethodName := ⟨RX2, "placeIn", "(II)I"⟩
abbrev cX2_union : ByteArray := prog_4_method_5_code
def yX2_union : MethodName := ⟨RX2, "union", "(I[I)I"⟩
abbrev cX2_closure : ByteArray := prog_4_method_6_code
def yX2_closure : MethodName := ⟨RX2, "closure", "(I[II)I"⟩
abbrev cX2_turnAround : ByteArray := prog_4_method_7_code
def yX2_turnAround : MethodName := ⟨RX2, "turnAround", "([I[I)V"⟩
abbrev cX2_reaches : ByteArray := prog_4_method_8_code
def yX2_reaches : MethodName := ⟨RX2, "reaches", "(I)Z"⟩
abbrev cX2_draw : ByteArray := prog_4_method_9_code
def yX2_draw : MethodName := ⟨RX2, "draw", "(LValueBench$Program;)V"⟩
abbrev cX2_parentOf : ByteArray := prog_4_method_10_code
def yX2_parentOf : MethodName := ⟨RX2, "parentOf", "(I)I"⟩
abbrev cX2_frontierOf : ByteArray := prog_4_method_11_code
def yX2_frontierOf : MethodName := ⟨RX2, "frontierOf", "(I)I"⟩
def RX3 : String := "ValueBench$Leaders"
def TX3 : u_T := fun k => match k with
  | 0 => ("ValueBench$Leaders", "redundant", "[Z", true)
  | 1 => ("ValueBench$Leaders", "reads", "LValueBench$Reads;", true)
  | _ => ("ValueBench$Leaders", "redundantOnes", "I", false)
def tyX3 : Nat → FieldType := fun k => match k with
  | 0 => .array .boolean
  | 1 => .object "ValueBench$Reads"
  | _ => .int
theorem nmX3 : ∀ a, a < 3 → ∀ b, b < 3 → a ≠ b → (TX3 a).2.1 ≠ (TX3 b).2.1 := by decide +kernel
theorem tyX3_ok : ∀ k, k < 3 → parseFieldDescriptor (TX3 k).2.2.1 = some (tyX3 k) := by decide +kernel
abbrev cX3_init : ByteArray := prog_5_method_1_code
def yX3_init : MethodName := ⟨RX3, "<init>", "()V"⟩
abbrev cX3_lead : ByteArray := prog_5_method_2_code
def yX3_lead : MethodName := ⟨RX3, "lead", "(LValueBench$Program;LValueBench$Graph;LValueBench$Values;LValueBench$Classes;)V"⟩
abbrev cX3_isLed : ByteArray := prog_5_method_3_code
def yX3_isLed : MethodName := ⟨RX3, "isLed", "(LValueBench$Graph;LValueBench$Values;LValueBench$Classes;I)Z"⟩
abbrev cX3_leader : ByteArray := prog_5_method_4_code
def yX3_leader : MethodName := ⟨RX3, "leader", "(LValueBench$Graph;LValueBench$Values;LValueBench$Classes;II)I"⟩
abbrev cX3_leadOperands : ByteArray := prog_5_method_5_code
def yX3_leadOperands : MethodName := ⟨RX3, "leadOperands", "(LValueBench$Graph;LValueBench$Values;LValueBench$Classes;I)V"⟩
abbrev cX3_leadEmits : ByteArray := prog_5_method_6_code
def yX3_leadEmits : MethodName := ⟨RX3, "leadEmits", "(LValueBench$Program;LValueBench$Graph;LValueBench$Values;LValueBench$Classes;I)V"⟩
def RX4 : String := "ValueBench$Machine"
def TX4 : u_T := fun k => match k with
  | 0 => ("ValueBench$Machine", "program", "LValueBench$Program;", true)
  | 1 => ("ValueBench$Machine", "inputs", "[I", true)
  | 2 => ("ValueBench$Machine", "kept", "[I", true)
  | 3 => ("ValueBench$Machine", "limit", "I", false)
  | 4 => ("ValueBench$Machine", "returned", "I", false)
  | 5 => ("ValueBench$Machine", "used", "I", false)
  | 6 => ("ValueBench$Machine", "numbers", "I", false)
  | _ => ("ValueBench$Machine", "at", "I", false)
def tyX4 : Nat → FieldType := fun k => match k with
  | 0 => .object "ValueBench$Program"
  | 1 => .array .int
  | 2 => .array .int
  | 3 => .int
  | 4 => .int
  | 5 => .int
  | 6 => .int
  | _ => .int
theorem nmX4 : ∀ a, a < 8 → ∀ b, b < 8 → a ≠ b → (TX4 a).2.1 ≠ (TX4 b).2.1 := by decide +kernel
theorem tyX4_ok : ∀ k, k < 8 → parseFieldDescriptor (TX4 k).2.2.1 = some (tyX4 k) := by decide +kernel
abbrev cX4_init : ByteArray := prog_6_method_1_code
def yX4_init : MethodName := ⟨RX4, "<init>", "(LValueBench$Program;)V"⟩
abbrev cX4_takeInputs : ByteArray := prog_6_method_2_code
def yX4_takeInputs : MethodName := ⟨RX4, "takeInputs", "(IIII)V"⟩
abbrev cX4_perform : ByteArray := prog_6_method_3_code
def yX4_perform : MethodName := ⟨RX4, "perform", "(LValueBench$Form;)I"⟩
abbrev cX4_pay : ByteArray := prog_6_method_4_code
def yX4_pay : MethodName := ⟨RX4, "pay", "()Z"⟩
abbrev cX4_followBlock : ByteArray := prog_6_method_5_code
def yX4_followBlock : MethodName := ⟨RX4, "followBlock", "(LValueBench$Form;)Z"⟩
abbrev cX4_follow : ByteArray := prog_6_method_6_code
def yX4_follow : MethodName := ⟨RX4, "follow", "(LValueBench$Form;I)V"⟩
abbrev cX4_tell : ByteArray := prog_6_method_7_code
def yX4_tell : MethodName := ⟨RX4, "tell", "(I)V"⟩
abbrev cX4_compute : ByteArray := prog_6_method_8_code
def yX4_compute : MethodName := ⟨RX4, "compute", "(III)I"⟩
abbrev cX4_divide : ByteArray := prog_6_method_9_code
def yX4_divide : MethodName := ⟨RX4, "divide", "(II)I"⟩
def RX5 : String := "ValueBench$Program"
def TX5 : u_T := fun k => match k with
  | 0 => ("ValueBench$Program", "first", "[I", true)
  | 1 => ("ValueBench$Program", "kind", "[I", true)
  | 2 => ("ValueBench$Program", "x", "[I", true)
  | 3 => ("ValueBench$Program", "y", "[I", true)
  | 4 => ("ValueBench$Program", "z", "[I", true)
  | 5 => ("ValueBench$Program", "how", "[I", true)
  | 6 => ("ValueBench$Program", "endY", "[I", true)
  | 7 => ("ValueBench$Program", "endB", "[I", true)
  | 8 => ("ValueBench$Program", "endC", "[I", true)
  | _ => ("ValueBench$Program", "blocks", "I", false)
def tyX5 : Nat → FieldType := fun k => match k with
  | 0 => .array .int
  | 1 => .array .int
  | 2 => .array .int
  | 3 => .array .int
  | 4 => .array .int
  | 5 => .array .int
  | 6 => .array .int
  | 7 => .array .int
  | 8 => .array .int
  | _ => .int
theorem nmX5 : ∀ a, a < 10 → ∀ b, b < 10 → a ≠ b → (TX5 a).2.1 ≠ (TX5 b).2.1 := by decide +kernel
theorem tyX5_ok : ∀ k, k < 10 → parseFieldDescriptor (TX5 k).2.2.1 = some (tyX5 k) := by decide +kernel
abbrev cX5_init : ByteArray := prog_7_method_1_code
def yX5_init : MethodName := ⟨RX5, "<init>", "()V"⟩
abbrev cX5_isVariable : ByteArray := prog_7_method_2_code
def yX5_isVariable : MethodName := ⟨RX5, "isVariable", "(I)Z"⟩
abbrev cX5_isBlockNumber : ByteArray := prog_7_method_3_code
def yX5_isBlockNumber : MethodName := ⟨RX5, "isBlockNumber", "(I)Z"⟩
abbrev cX5_fits : ByteArray := prog_7_method_4_code
def yX5_fits : MethodName := ⟨RX5, "fits", "(IIII)Z"⟩
abbrev cX5_endFits : ByteArray := prog_7_method_5_code
def yX5_endFits : MethodName := ⟨RX5, "endFits", "(IIII)Z"⟩
abbrev cX5_has : ByteArray := prog_7_method_6_code
def yX5_has : MethodName := ⟨RX5, "has", "(I)Z"⟩
abbrev cX5_instructions : ByteArray := prog_7_method_7_code
def yX5_instructions : MethodName := ⟨RX5, "instructions", "()I"⟩
abbrev cX5_insert : ByteArray := prog_7_method_8_code
def yX5_insert : MethodName := ⟨RX5, "insert", "(IIIII)V"⟩
abbrev cX5_insertAt : ByteArray := prog_7_method_9_code
def yX5_insertAt : MethodName := ⟨RX5, "insertAt", "([IIII)V"⟩
abbrev cX5_setEnd : ByteArray := prog_7_method_10_code
def yX5_setEnd : MethodName := ⟨RX5, "setEnd", "(IIIII)V"⟩
abbrev cX5_forget : ByteArray := prog_7_method_11_code
def yX5_forget : MethodName := ⟨RX5, "forget", "()V"⟩
abbrev cX5_endCounts : ByteArray := prog_7_method_12_code
def yX5_endCounts : MethodName := ⟨RX5, "endCounts", "(I)Z"⟩
abbrev cX5_howCounts : ByteArray := prog_7_method_13_code
def yX5_howCounts : MethodName := ⟨RX5, "howCounts", "(I)I"⟩
abbrev cX5_endVariable : ByteArray := prog_7_method_14_code
def yX5_endVariable : MethodName := ⟨RX5, "endVariable", "(I)I"⟩
abbrev cX5_next : ByteArray := prog_7_method_15_code
def yX5_next : MethodName := ⟨RX5, "next", "(IZ)I"⟩
abbrev cX5_toldBlocks : ByteArray := prog_7_method_16_code
def yX5_toldBlocks : MethodName := ⟨RX5, "toldBlocks", "(I)I"⟩
abbrev cX5_nthEmit : ByteArray := prog_7_method_17_code
def yX5_nthEmit : MethodName := ⟨RX5, "nthEmit", "(II)I"⟩
def RX6 : String := "ValueBench$Reads"
def TX6 : u_T := fun k => match k with
  | 0 => ("ValueBench$Reads", "operands", "[I", true)
  | 1 => ("ValueBench$Reads", "emits", "[I", true)
  | _ => ("ValueBench$Reads", "ends", "[I", true)
def tyX6 : Nat → FieldType := fun k => match k with
  | 0 => .array .int
  | 1 => .array .int
  | _ => .array .int
theorem nmX6 : ∀ a, a < 3 → ∀ b, b < 3 → a ≠ b → (TX6 a).2.1 ≠ (TX6 b).2.1 := by decide +kernel
theorem tyX6_ok : ∀ k, k < 3 → parseFieldDescriptor (TX6 k).2.2.1 = some (tyX6 k) := by decide +kernel
abbrev cX6_init : ByteArray := prog_8_method_1_code
def yX6_init : MethodName := ⟨RX6, "<init>", "()V"⟩
def RX7 : String := "ValueBench$ToldForm"
def TX7 : u_T := fun k => match k with
  | 0 => ("ValueBench$Form", "cells", "[I", true)
  | _ => ("ValueBench$ToldForm", "program", "LValueBench$Program;", true)
def tyX7 : Nat → FieldType := fun k => match k with
  | 0 => .array .int
  | _ => .object "ValueBench$Program"
theorem nmX7 : ∀ a, a < 2 → ∀ b, b < 2 → a ≠ b → (TX7 a).2.1 ≠ (TX7 b).2.1 := by decide +kernel
theorem tyX7_ok : ∀ k, k < 2 → parseFieldDescriptor (TX7 k).2.2.1 = some (tyX7 k) := by decide +kernel
abbrev cX7_init : ByteArray := prog_9_method_1_code
def yX7_init : MethodName := ⟨RX7, "<init>", "(LValueBench$Program;)V"⟩
abbrev cX7_begin : ByteArray := prog_9_method_2_code
def yX7_begin : MethodName := ⟨RX7, "begin", "(II)V"⟩
abbrev cX7_keeps : ByteArray := prog_9_method_3_code
def yX7_keeps : MethodName := ⟨RX7, "keeps", "(I)Z"⟩
abbrev cX7_target : ByteArray := prog_9_method_4_code
def yX7_target : MethodName := ⟨RX7, "target", "(I)I"⟩
abbrev cX7_left : ByteArray := prog_9_method_5_code
def yX7_left : MethodName := ⟨RX7, "left", "(I)I"⟩
abbrev cX7_right : ByteArray := prog_9_method_6_code
def yX7_right : MethodName := ⟨RX7, "right", "(I)I"⟩
abbrev cX7_endCell : ByteArray := prog_9_method_7_code
def yX7_endCell : MethodName := ⟨RX7, "endCell", "(I)I"⟩
def RX8 : String := "ValueBench$ValueForm"
def TX8 : u_T := fun k => match k with
  | 0 => ("ValueBench$Form", "cells", "[I", true)
  | 1 => ("ValueBench$ValueForm", "program", "LValueBench$Program;", true)
  | 2 => ("ValueBench$ValueForm", "graph", "LValueBench$Graph;", true)
  | 3 => ("ValueBench$ValueForm", "values", "LValueBench$Values;", true)
  | 4 => ("ValueBench$ValueForm", "leaders", "LValueBench$Leaders;", true)
  | 5 => ("ValueBench$ValueForm", "reads", "LValueBench$Reads;", true)
  | _ => ("ValueBench$ValueForm", "taken", "[I", true)
def tyX8 : Nat → FieldType := fun k => match k with
  | 0 => .array .int
  | 1 => .object "ValueBench$Program"
  | 2 => .object "ValueBench$Graph"
  | 3 => .object "ValueBench$Values"
  | 4 => .object "ValueBench$Leaders"
  | 5 => .object "ValueBench$Reads"
  | _ => .array .int
theorem nmX8 : ∀ a, a < 7 → ∀ b, b < 7 → a ≠ b → (TX8 a).2.1 ≠ (TX8 b).2.1 := by decide +kernel
theorem tyX8_ok : ∀ k, k < 7 → parseFieldDescriptor (TX8 k).2.2.1 = some (tyX8 k) := by decide +kernel
abbrev cX8_init : ByteArray := prog_10_method_1_code
def yX8_init : MethodName := ⟨RX8, "<init>", "(LValueBench$Program;LValueBench$Graph;LValueBench$Values;LValueBench$Leaders;)V"⟩
abbrev cX8_goes : ByteArray := prog_10_method_2_code
def yX8_goes : MethodName := ⟨RX8, "goes", "(I)Z"⟩
abbrev cX8_begin : ByteArray := prog_10_method_3_code
def yX8_begin : MethodName := ⟨RX8, "begin", "(II)V"⟩
abbrev cX8_keeps : ByteArray := prog_10_method_4_code
def yX8_keeps : MethodName := ⟨RX8, "keeps", "(I)Z"⟩
abbrev cX8_target : ByteArray := prog_10_method_5_code
def yX8_target : MethodName := ⟨RX8, "target", "(I)I"⟩
abbrev cX8_left : ByteArray := prog_10_method_6_code
def yX8_left : MethodName := ⟨RX8, "left", "(I)I"⟩
abbrev cX8_right : ByteArray := prog_10_method_7_code
def yX8_right : MethodName := ⟨RX8, "right", "(I)I"⟩
abbrev cX8_endCell : ByteArray := prog_10_method_8_code
def yX8_endCell : MethodName := ⟨RX8, "endCell", "(I)I"⟩
def RX9 : String := "ValueBench$Values"
def TX9 : u_T := fun k => match k with
  | 0 => ("ValueBench$Values", "kind", "[I", true)
  | 1 => ("ValueBench$Values", "block", "[I", true)
  | 2 => ("ValueBench$Values", "variable", "[I", true)
  | 3 => ("ValueBench$Values", "number", "[I", true)
  | 4 => ("ValueBench$Values", "firstOperand", "[I", true)
  | 5 => ("ValueBench$Values", "reads", "LValueBench$Reads;", true)
  | 6 => ("ValueBench$Values", "given", "[I", true)
  | 7 => ("ValueBench$Values", "firstChoice", "[I", true)
  | 8 => ("ValueBench$Values", "choices", "[I", true)
  | 9 => ("ValueBench$Values", "choosing", "[I", true)
  | 10 => ("ValueBench$Values", "atEnd", "[I", true)
  | _ => ("ValueBench$Values", "size", "I", false)
def tyX9 : Nat → FieldType := fun k => match k with
  | 0 => .array .int
  | 1 => .array .int
  | 2 => .array .int
  | 3 => .array .int
  | 4 => .array .int
  | 5 => .object "ValueBench$Reads"
  | 6 => .array .int
  | 7 => .array .int
  | 8 => .array .int
  | 9 => .array .int
  | 10 => .array .int
  | _ => .int
theorem nmX9 : ∀ a, a < 12 → ∀ b, b < 12 → a ≠ b → (TX9 a).2.1 ≠ (TX9 b).2.1 := by decide +kernel
theorem tyX9_ok : ∀ k, k < 12 → parseFieldDescriptor (TX9 k).2.2.1 = some (tyX9 k) := by decide +kernel
abbrev cX9_init : ByteArray := prog_11_method_1_code
def yX9_init : MethodName := ⟨RX9, "<init>", "()V"⟩
abbrev cX9_has : ByteArray := prog_11_method_2_code
def yX9_has : MethodName := ⟨RX9, "has", "(I)Z"⟩
abbrev cX9_operandsOf : ByteArray := prog_11_method_3_code
def yX9_operandsOf : MethodName := ⟨RX9, "operandsOf", "(I)I"⟩
abbrev cX9_hasOperand : ByteArray := prog_11_method_4_code
def yX9_hasOperand : MethodName := ⟨RX9, "hasOperand", "(II)Z"⟩
abbrev cX9_allChoices : ByteArray := prog_11_method_5_code
def yX9_allChoices : MethodName := ⟨RX9, "allChoices", "()I"⟩
abbrev cX9_make : ByteArray := prog_11_method_6_code
def yX9_make : MethodName := ⟨RX9, "make", "(LValueBench$Program;LValueBench$Graph;)V"⟩
abbrev cX9_placeChoices : ByteArray := prog_11_method_7_code
def yX9_placeChoices : MethodName := ⟨RX9, "placeChoices", "(LValueBench$Program;LValueBench$Graph;)V"⟩
abbrev cX9_givingBlocks : ByteArray := prog_11_method_8_code
def yX9_givingBlocks : MethodName := ⟨RX9, "givingBlocks", "(LValueBench$Program;I)I"⟩
abbrev cX9_numberAll : ByteArray := prog_11_method_9_code
def yX9_numberAll : MethodName := ⟨RX9, "numberAll", "(LValueBench$Program;LValueBench$Graph;)V"⟩
abbrev cX9_numberChoices : ByteArray := prog_11_method_10_code
def yX9_numberChoices : MethodName := ⟨RX9, "numberChoices", "(LValueBench$Graph;I)V"⟩
abbrev cX9_numberInstructions : ByteArray := prog_11_method_11_code
def yX9_numberInstructions : MethodName := ⟨RX9, "numberInstructions", "(LValueBench$Program;I)V"⟩
abbrev cX9_add : ByteArray := prog_11_method_12_code
def yX9_add : MethodName := ⟨RX9, "add", "(IIIII)V"⟩
abbrev cX9_beginBlock : ByteArray := prog_11_method_13_code
def yX9_beginBlock : MethodName := ⟨RX9, "beginBlock", "(LValueBench$Graph;I)V"⟩
abbrev cX9_followBlock : ByteArray := prog_11_method_14_code
def yX9_followBlock : MethodName := ⟨RX9, "followBlock", "(LValueBench$Program;I)V"⟩
abbrev cX9_fillChoices : ByteArray := prog_11_method_15_code
def yX9_fillChoices : MethodName := ⟨RX9, "fillChoices", "(LValueBench$Graph;)V"⟩
abbrev cX9_fillChoice : ByteArray := prog_11_method_16_code
def yX9_fillChoice : MethodName := ⟨RX9, "fillChoice", "(II)V"⟩
def RX10 : String := "ValueBench"
def TX10 : u_T := fun k => match k with
  | 0 => ("ValueBench", "program", "LValueBench$Program;", true)
  | 1 => ("ValueBench", "graph", "LValueBench$Graph;", true)
  | 2 => ("ValueBench", "values", "LValueBench$Values;", true)
  | 3 => ("ValueBench", "classes", "LValueBench$Classes;", true)
  | 4 => ("ValueBench", "leaders", "LValueBench$Leaders;", true)
  | 5 => ("ValueBench", "toldForm", "LValueBench$Form;", true)
  | 6 => ("ValueBench", "valuedForm", "LValueBench$Form;", true)
  | 7 => ("ValueBench", "ledForm", "LValueBench$Form;", true)
  | 8 => ("ValueBench", "machine", "LValueBench$Machine;", true)
  | _ => ("ValueBench", "stale", "Z", false)
def tyX10 : Nat → FieldType := fun k => match k with
  | 0 => .object "ValueBench$Program"
  | 1 => .object "ValueBench$Graph"
  | 2 => .object "ValueBench$Values"
  | 3 => .object "ValueBench$Classes"
  | 4 => .object "ValueBench$Leaders"
  | 5 => .object "ValueBench$Form"
  | 6 => .object "ValueBench$Form"
  | 7 => .object "ValueBench$Form"
  | 8 => .object "ValueBench$Machine"
  | _ => .boolean
theorem nmX10 : ∀ a, a < 10 → ∀ b, b < 10 → a ≠ b → (TX10 a).2.1 ≠ (TX10 b).2.1 := by decide +kernel
theorem tyX10_ok : ∀ k, k < 10 → parseFieldDescriptor (TX10 k).2.2.1 = some (tyX10 k) := by decide +kernel
abbrev cX10_init : ByteArray := prog_1_method_1_code
def yX10_init : MethodName := ⟨RX10, "<init>", "()V"⟩
abbrev cX10_block : ByteArray := prog_1_method_2_code
def yX10_block : MethodName := ⟨RX10, "block", "()I"⟩
abbrev cX10_put : ByteArray := prog_1_method_3_code
def yX10_put : MethodName := ⟨RX10, "put", "(IIIII)I"⟩
abbrev cX10_ends : ByteArray := prog_1_method_4_code
def yX10_ends : MethodName := ⟨RX10, "ends", "(IIIII)Z"⟩
abbrev cX10_clear : ByteArray := prog_1_method_5_code
def yX10_clear : MethodName := ⟨RX10, "clear", "()I"⟩
abbrev cX10_about : ByteArray := prog_1_method_6_code
def yX10_about : MethodName := ⟨RX10, "about", "(II)I"⟩
abbrev cX10_aboutReached : ByteArray := prog_1_method_7_code
def yX10_aboutReached : MethodName := ⟨RX10, "aboutReached", "(II)I"⟩
abbrev cX10_predecessor : ByteArray := prog_1_method_8_code
def yX10_predecessor : MethodName := ⟨RX10, "predecessor", "(II)I"⟩
abbrev cX10_dominates : ByteArray := prog_1_method_9_code
def yX10_dominates : MethodName := ⟨RX10, "dominates", "(II)I"⟩
abbrev cX10_meets : ByteArray := prog_1_method_10_code
def yX10_meets : MethodName := ⟨RX10, "meets", "(II)I"⟩
abbrev cX10_value : ByteArray := prog_1_method_11_code
def yX10_value : MethodName := ⟨RX10, "value", "(II)I"⟩
abbrev cX10_operand : ByteArray := prog_1_method_12_code
def yX10_operand : MethodName := ⟨RX10, "operand", "(II)I"⟩
abbrev cX10_led : ByteArray := prog_1_method_13_code
def yX10_led : MethodName := ⟨RX10, "led", "(II)I"⟩
abbrev cX10_classOf : ByteArray := prog_1_method_14_code
def yX10_classOf : MethodName := ⟨RX10, "classOf", "(I)I"⟩
abbrev cX10_read : ByteArray := prog_1_method_15_code
def yX10_read : MethodName := ⟨RX10, "read", "(IZ)I"⟩
abbrev cX10_emits : ByteArray := prog_1_method_16_code
def yX10_emits : MethodName := ⟨RX10, "emits", "(IIZ)I"⟩
abbrev cX10_readsOf : ByteArray := prog_1_method_17_code
def yX10_readsOf : MethodName := ⟨RX10, "readsOf", "(Z)LValueBench$Reads;"⟩
abbrev cX10_run : ByteArray := prog_1_method_18_code
def yX10_run : MethodName := ⟨RX10, "run", "(IIIII)I"⟩
abbrev cX10_fuel : ByteArray := prog_1_method_19_code
def yX10_fuel : MethodName := ⟨RX10, "fuel", "(I)I"⟩
abbrev cX10_ran : ByteArray := prog_1_method_20_code
def yX10_ran : MethodName := ⟨RX10, "ran", "(I)I"⟩
abbrev cX10_emitted : ByteArray := prog_1_method_21_code
def yX10_emitted : MethodName := ⟨RX10, "emitted", "(I)I"⟩
abbrev cX10_count : ByteArray := prog_1_method_22_code
def yX10_count : MethodName := ⟨RX10, "count", "(I)I"⟩
abbrev cX10_refresh : ByteArray := prog_1_method_23_code
def yX10_refresh : MethodName := ⟨RX10, "refresh", "()V"⟩
def RX11 : String := "ValueBenchModel"
def TX11 : u_T := fun k => match k with
  | 0 => ("ValueBenchModel", "blocks", "I", false)
  | 1 => ("ValueBenchModel", "told", "I", false)
  | 2 => ("ValueBenchModel", "kind", "[I", true)
  | 3 => ("ValueBenchModel", "first", "[I", true)
  | 4 => ("ValueBenchModel", "second", "[I", true)
  | 5 => ("ValueBenchModel", "third", "[I", true)
  | 6 => ("ValueBenchModel", "size", "[I", true)
  | 7 => ("ValueBenchModel", "endHow", "[I", true)
  | 8 => ("ValueBenchModel", "endY", "[I", true)
  | 9 => ("ValueBenchModel", "endB", "[I", true)
  | 10 => ("ValueBenchModel", "endC", "[I", true)
  | 11 => ("ValueBenchModel", "isMade", "Z", false)
  | 12 => ("ValueBenchModel", "isReached", "[Z", true)
  | 13 => ("ValueBenchModel", "isMet", "[Z", true)
  | 14 => ("ValueBenchModel", "dom", "[Z", true)
  | 15 => ("ValueBenchModel", "parent", "[I", true)
  | 16 => ("ValueBenchModel", "meets", "[Z", true)
  | 17 => ("ValueBenchModel", "hasChoice", "[Z", true)
  | 18 => ("ValueBenchModel", "values", "I", false)
  | 19 => ("ValueBenchModel", "valueKind", "[I", true)
  | 20 => ("ValueBenchModel", "valueBlock", "[I", true)
  | 21 => ("ValueBenchModel", "valueVariable", "[I", true)
  | 22 => ("ValueBenchModel", "valueNumber", "[I", true)
  | 23 => ("ValueBenchModel", "valuePlace", "[I", true)
  | 24 => ("ValueBenchModel", "operand", "[I", true)
  | 25 => ("ValueBenchModel", "operands", "[I", true)
  | 26 => ("ValueBenchModel", "choiceOf", "[I", true)
  | 27 => ("ValueBenchModel", "valueOf", "[I", true)
  | 28 => ("ValueBenchModel", "atBegin", "[I", true)
  | 29 => ("ValueBenchModel", "atEnd", "[I", true)
  | 30 => ("ValueBenchModel", "now", "[I", true)
  | 31 => ("ValueBenchModel", "klass", "[I", true)
  | 32 => ("ValueBenchModel", "parted", "[I", true)
  | 33 => ("ValueBenchModel", "isRedundant", "[Z", true)
  | 34 => ("ValueBenchModel", "fuel", "I", false)
  | 35 => ("ValueBenchModel", "runReturned", "I", false)
  | 36 => ("ValueBenchModel", "runTook", "I", false)
  | 37 => ("ValueBenchModel", "runEmitted", "I", false)
  | 38 => ("ValueBenchModel", "runBlock", "I", false)
  | 39 => ("ValueBenchModel", "kept", "[I", true)
  | 40 => ("ValueBenchModel", "variable", "[I", true)
  | 41 => ("ValueBenchModel", "is", "[I", true)
  | 42 => ("ValueBenchModel", "next", "[I", true)
  | _ => ("ValueBenchModel", "inputs", "[I", true)
def tyX11 : Nat → FieldType := fun k => match k with
  | 0 => .int
  | 1 => .int
  | 2 => .array .int
  | 3 => .array .int
  | 4 => .array .int
  | 5 => .array .int
  | 6 => .array .int
  | 7 => .array .int
  | 8 => .array .int
  | 9 => .array .int
  | 10 => .array .int
  | 11 => .boolean
  | 12 => .array .boolean
  | 13 => .array .boolean
  | 14 => .array .boolean
  | 15 => .array .int
  | 16 => .array .boolean
  | 17 => .array .boolean
  | 18 => .int
  | 19 => .array .int
  | 20 => .array .int
  | 21 => .array .int
  | 22 => .array .int
  | 23 => .array .int
  | 24 => .array .int
  | 25 => .array .int
  | 26 => .array .int
  | 27 => .array .int
  | 28 => .array .int
  | 29 => .array .int
  | 30 => .array .int
  | 31 => .array .int
  | 32 => .array .int
  | 33 => .array .boolean
  | 34 => .int
  | 35 => .int
  | 36 => .int
  | 37 => .int
  | 38 => .int
  | 39 => .array .int
  | 40 => .array .int
  | 41 => .array .int
  | 42 => .array .int
  | _ => .array .int
theorem nmX11 : ∀ a, a < 44 → ∀ b, b < 44 → a ≠ b → (TX11 a).2.1 ≠ (TX11 b).2.1 := by decide +kernel
theorem tyX11_ok : ∀ k, k < 44 → parseFieldDescriptor (TX11 k).2.2.1 = some (tyX11 k) := by decide +kernel
abbrev cX11_init : ByteArray := prog_13_method_1_code
def yX11_init : MethodName := ⟨RX11, "<init>", "()V"⟩
abbrev cX11_isBlock : ByteArray := prog_13_method_2_code
def yX11_isBlock : MethodName := ⟨RX11, "isBlock", "(I)Z"⟩
abbrev cX11_isVariable : ByteArray := prog_13_method_3_code
def yX11_isVariable : MethodName := ⟨RX11, "isVariable", "(I)Z"⟩
abbrev cX11_block : ByteArray := prog_13_method_4_code
def yX11_block : MethodName := ⟨RX11, "block", "()I"⟩
abbrev cX11_put : ByteArray := prog_13_method_5_code
def yX11_put : MethodName := ⟨RX11, "put", "(IIIII)I"⟩
abbrev cX11_ends : ByteArray := prog_13_method_6_code
def yX11_ends : MethodName := ⟨RX11, "ends", "(IIIII)Z"⟩
abbrev cX11_clear : ByteArray := prog_13_method_7_code
def yX11_clear : MethodName := ⟨RX11, "clear", "()I"⟩
abbrev cX11_howOf : ByteArray := prog_13_method_8_code
def yX11_howOf : MethodName := ⟨RX11, "howOf", "(I)I"⟩
abbrev cX11_yOf : ByteArray := prog_13_method_9_code
def yX11_yOf : MethodName := ⟨RX11, "yOf", "(I)I"⟩
abbrev cX11_leads : ByteArray := prog_13_method_10_code
def yX11_leads : MethodName := ⟨RX11, "leads", "(II)Z"⟩
abbrev cX11_meet : ByteArray := prog_13_method_11_code
def yX11_meet : MethodName := ⟨RX11, "meet", "(I)V"⟩
abbrev cX11_dominates1 : ByteArray := prog_13_method_12_code
def yX11_dominates1 : MethodName := ⟨RX11, "dominates1", "(II)Z"⟩
abbrev cX11_dominance : ByteArray := prog_13_method_13_code
def yX11_dominance : MethodName := ⟨RX11, "dominance", "()V"⟩
abbrev cX11_gives : ByteArray := prog_13_method_14_code
def yX11_gives : MethodName := ⟨RX11, "gives", "(II)Z"⟩
abbrev cX11_choices : ByteArray := prog_13_method_15_code
def yX11_choices : MethodName := ⟨RX11, "choices", "()V"⟩
abbrev cX11_comes : ByteArray := prog_13_method_16_code
def yX11_comes : MethodName := ⟨RX11, "comes", "(IIIII)I"⟩
abbrev cX11_numbers : ByteArray := prog_13_method_17_code
def yX11_numbers : MethodName := ⟨RX11, "numbers", "()V"⟩
abbrev cX11_adds : ByteArray := prog_13_method_18_code
def yX11_adds : MethodName := ⟨RX11, "adds", "(II)V"⟩
abbrev cX11_names : ByteArray := prog_13_method_19_code
def yX11_names : MethodName := ⟨RX11, "names", "()V"⟩
abbrev cX11_through : ByteArray := prog_13_method_20_code
def yX11_through : MethodName := ⟨RX11, "through", "(IIZ)V"⟩
abbrev cX11_readAt : ByteArray := prog_13_method_21_code
def yX11_readAt : MethodName := ⟨RX11, "readAt", "(III)I"⟩
abbrev cX11_isEven : ByteArray := prog_13_method_22_code
def yX11_isEven : MethodName := ⟨RX11, "isEven", "(I)Z"⟩
abbrev cX11_isOneSort : ByteArray := prog_13_method_23_code
def yX11_isOneSort : MethodName := ⟨RX11, "isOneSort", "(II)Z"⟩
abbrev cX11_hangTogether : ByteArray := prog_13_method_24_code
def yX11_hangTogether : MethodName := ⟨RX11, "hangTogether", "(II)Z"⟩
abbrev cX11_classes : ByteArray := prog_13_method_25_code
def yX11_classes : MethodName := ⟨RX11, "classes", "()V"⟩
abbrev cX11_isAhead : ByteArray := prog_13_method_26_code
def yX11_isAhead : MethodName := ⟨RX11, "isAhead", "(III)Z"⟩
abbrev cX11_redundant : ByteArray := prog_13_method_27_code
def yX11_redundant : MethodName := ⟨RX11, "redundant", "()V"⟩
abbrev cX11_leader : ByteArray := prog_13_method_28_code
def yX11_leader : MethodName := ⟨RX11, "leader", "(III)I"⟩
abbrev cX11_make : ByteArray := prog_13_method_29_code
def yX11_make : MethodName := ⟨RX11, "make", "()V"⟩
abbrev cX11_ledOperand : ByteArray := prog_13_method_30_code
def yX11_ledOperand : MethodName := ⟨RX11, "ledOperand", "(II)I"⟩
abbrev cX11_predecessorAt : ByteArray := prog_13_method_31_code
def yX11_predecessorAt : MethodName := ⟨RX11, "predecessorAt", "(II)I"⟩
abbrev cX11_work : ByteArray := prog_13_method_32_code
def yX11_work : MethodName := ⟨RX11, "work", "(III)I"⟩
abbrev cX11_emit : ByteArray := prog_13_method_33_code
def yX11_emit : MethodName := ⟨RX11, "emit", "(I)V"⟩
abbrev cX11_takes : ByteArray := prog_13_method_34_code
def yX11_takes : MethodName := ⟨RX11, "takes", "()Z"⟩
abbrev cX11_run : ByteArray := prog_13_method_35_code
def yX11_run : MethodName := ⟨RX11, "run", "(IIIII)I"⟩
abbrev cX11_costs : ByteArray := prog_13_method_36_code
def yX11_costs : MethodName := ⟨RX11, "costs", "(III)Z"⟩
abbrev cX11_chooses : ByteArray := prog_13_method_37_code
def yX11_chooses : MethodName := ⟨RX11, "chooses", "(III)V"⟩
abbrev cX11_acts : ByteArray := prog_13_method_38_code
def yX11_acts : MethodName := ⟨RX11, "acts", "(III)V"⟩
abbrev cX11_reads : ByteArray := prog_13_method_39_code
def yX11_reads : MethodName := ⟨RX11, "reads", "(IZ)I"⟩
abbrev cX11_fuel : ByteArray := prog_13_method_40_code
def yX11_fuel : MethodName := ⟨RX11, "fuel", "(I)I"⟩
abbrev cX11_ran : ByteArray := prog_13_method_41_code
def yX11_ran : MethodName := ⟨RX11, "ran", "(I)I"⟩
abbrev cX11_emitted : ByteArray := prog_13_method_42_code
def yX11_emitted : MethodName := ⟨RX11, "emitted", "(I)I"⟩
abbrev cX11_about : ByteArray := prog_13_method_43_code
def yX11_about : MethodName := ⟨RX11, "about", "(II)I"⟩
abbrev cX11_predecessor : ByteArray := prog_13_method_44_code
def yX11_predecessor : MethodName := ⟨RX11, "predecessor", "(II)I"⟩
abbrev cX11_areReached : ByteArray := prog_13_method_45_code
def yX11_areReached : MethodName := ⟨RX11, "areReached", "(II)Z"⟩
abbrev cX11_dominates : ByteArray := prog_13_method_46_code
def yX11_dominates : MethodName := ⟨RX11, "dominates", "(II)I"⟩
abbrev cX11_meets : ByteArray := prog_13_method_47_code
def yX11_meets : MethodName := ⟨RX11, "meets", "(II)I"⟩
abbrev cX11_isValue : ByteArray := prog_13_method_48_code
def yX11_isValue : MethodName := ⟨RX11, "isValue", "(I)Z"⟩
abbrev cX11_value : ByteArray := prog_13_method_49_code
def yX11_value : MethodName := ⟨RX11, "value", "(II)I"⟩
abbrev cX11_isOperand : ByteArray := prog_13_method_50_code
def yX11_isOperand : MethodName := ⟨RX11, "isOperand", "(II)Z"⟩
abbrev cX11_operand : ByteArray := prog_13_method_51_code
def yX11_operand : MethodName := ⟨RX11, "operand", "(II)I"⟩
abbrev cX11_led : ByteArray := prog_13_method_52_code
def yX11_led : MethodName := ⟨RX11, "led", "(II)I"⟩
abbrev cX11_classOf : ByteArray := prog_13_method_53_code
def yX11_classOf : MethodName := ⟨RX11, "classOf", "(I)I"⟩
abbrev cX11_read : ByteArray := prog_13_method_54_code
def yX11_read : MethodName := ⟨RX11, "read", "(IZ)I"⟩
abbrev cX11_emits : ByteArray := prog_13_method_55_code
def yX11_emits : MethodName := ⟨RX11, "emits", "(IIZ)I"⟩
abbrev cX11_count : ByteArray := prog_13_method_56_code
def yX11_count : MethodName := ⟨RX11, "count", "(I)I"⟩
def RJ6 : String := "java/lang/Integer"
def TJ6 : u_T := fun k => match k with
  | _ => ("", "", "", false)
def tyJ6 : Nat → FieldType := fun k => match k with
  | _ => .int
abbrev cJ6_bitCount_0f7a4 : ByteArray := prog_14_method_49_code
def yJ6_bitCount_0f7a4 : MethodName := ⟨RJ6, "bitCount", "(I)I"⟩
def RJ10 : String := "java/lang/System"
def TJ10 : u_T := fun k => match k with
  | _ => ("", "", "", false)
def tyJ10 : Nat → FieldType := fun k => match k with
  | _ => .int
def RJ7 : String := "java/util/Arrays"
def TJ7 : u_T := fun k => match k with
  | _ => ("", "", "", false)
def tyJ7 : Nat → FieldType := fun k => match k with
  | _ => .int
abbrev cJ7_fill_53178 : ByteArray := prog_16_method_103_code
def yJ7_fill_53178 : MethodName := ⟨RJ7, "fill", "([II)V"⟩
end
section
theorem dX0_init_0 : decode cX0_init 0 = .ok (.aload_n 0, 1) := by decide +kernel
theorem dX0_init_1 : decode cX0_init 1 = .ok (.invokespecial 3, 3) := by decide +kernel
theorem dX0_init_4 : decode cX0_init 4 = .ok (.aload_n 0, 1) := by decide +kernel
theorem dX0_init_5 : decode cX0_init 5 = .ok (.sipush 261, 3) := by decide +kernel
theorem dX0_init_8 : decode cX0_init 8 = .ok (.newarray .int, 2) := by decide +kernel
theorem dX0_init_10 : decode cX0_init 10 = .ok (.putfield 9, 3) := by decide +kernel
theorem dX0_init_13 : decode cX0_init 13 = .ok (.aload_n 0, 1) := by decide +kernel
theorem dX0_init_14 : decode cX0_init 14 = .ok (.sipush 261, 3) := by decide +kernel
theorem dX0_init_17 : decode cX0_init 17 = .ok (.newarray .int, 2) := by decide +kernel
theorem dX0_init_19 : decode cX0_init 19 = .ok (.putfield 15, 3) := by decide +kernel
theorem dX0_init_22 : decode cX0_init 22 = .ok (.return_, 1) := by decide +kernel
theorem dX0_part_0 : decode cX0_part 0 = .ok (.iconst 0, 1) := by decide +kernel
theorem dX0_part_1 : decode cX0_part 1 = .ok (.istore_n 2, 1) := by decide +kernel
theorem dX0_part_2 : decode cX0_part 2 = .ok (.iload_n 2, 1) := by decide +kernel
theorem dX0_part_3 : decode cX0_part 3 = .ok (.aload_n 1, 1) := by decide +kernel
theorem dX0_part_4 : decode cX0_part 4 = .ok (.getfield 18, 3) := by decide +kernel
theorem dX0_part_7 : decode cX0_part 7 = .ok (.if_icmp .ge 21, 3) := by decide +kernel
theorem dX0_part_10 : decode cX0_part 10 = .ok (.aload_n 0, 1) := by decide +kernel
theorem dX0_part_11 : decode cX0_part 11 = .ok (.getfield 9, 3) := by decide +kernel
theorem dX0_part_14 : decode cX0_part 14 = .ok (.iload_n 2, 1) := by decide +kernel
theorem dX0_part_15 : decode cX0_part 15 = .ok (.aload_n 0, 1) := by decide +kernel
theorem dX0_part_16 : decode cX0_part 16 = .ok (.aload_n 1, 1) := by decide +kernel
theorem dX0_part_17 : decode cX0_part 17 = .ok (.iload_n 2, 1) := by decide +kernel
theorem dX0_part_18 : decode cX0_part 18 = .ok (.invokevirtual 24, 3) := by decide +kernel
theorem dX0_part_21 : decode cX0_part 21 = .ok (.iastore, 1) := by decide +kernel
theorem dX0_part_22 : decode cX0_part 22 = .ok (.iinc 2 1, 3) := by decide +kernel
theorem dX0_part_25 : decode cX0_part 25 = .ok (.goto (-23), 3) := by decide +kernel
theorem dX0_part_28 : decode cX0_part 28 = .ok (.iconst 1, 1) := by decide +kernel
theorem dX0_part_29 : decode cX0_part 29 = .ok (.istore_n 2, 1) := by decide +kernel
theorem dX0_part_30 : decode cX0_part 30 = .ok (.iconst 0, 1) := by decide +kernel
theorem dX0_part_31 : decode cX0_part 31 = .ok (.istore_n 3, 1) := by decide +kernel
theorem dX0_part_32 : decode cX0_part 32 = .ok (.iload_n 3, 1) := by decide +kernel
theorem dX0_part_33 : decode cX0_part 33 = .ok (.sipush 261, 3) := by decide +kernel
theorem dX0_part_36 : decode cX0_part 36 = .ok (.if_icmp .gt 19, 3) := by decide +kernel
theorem dX0_part_39 : decode cX0_part 39 = .ok (.iload_n 2, 1) := by decide +kernel
theorem dX0_part_40 : decode cX0_part 40 = .ok (.ifCond .eq 15, 3) := by decide +kernel
theorem dX0_part_43 : decode cX0_part 43 = .ok (.aload_n 0, 1) := by decide +kernel
theorem dX0_part_44 : decode cX0_part 44 = .ok (.aload_n 1, 1) := by decide +kernel
theorem dX0_part_45 : decode cX0_part 45 = .ok (.invokevirtual 28, 3) := by decide +kernel
theorem dX0_part_48 : decode cX0_part 48 = .ok (.istore_n 2, 1) := by decide +kernel
theorem dX0_part_49 : decode cX0_part 49 = .ok (.iinc 3 1, 3) := by decide +kernel
theorem dX0_part_52 : decode cX0_part 52 = .ok (.goto (-20), 3) := by decide +kernel
theorem dX0_part_55 : decode cX0_part 55 = .ok (.aload_n 0, 1) := by decide +kernel
theorem dX0_part_56 : decode cX0_part 56 = .ok (.iconst 0, 1) := by decide +kernel
theorem dX0_part_57 : decode cX0_part 57 = .ok (.putfield 32, 3) := by decide +kernel
theorem dX0_part_60 : decode cX0_part 60 = .ok (.iconst 0, 1) := by decide +kernel
theorem dX0_part_61 : decode cX0_part 61 = .ok (.istore_n 3, 1) := by decide +kernel
theorem dX0_part_62 : decode cX0_part 62 = .ok (.iload_n 3, 1) := by decide +kernel
theorem dX0_part_63 : decode cX0_part 63 = .ok (.aload_n 1, 1) := by decide +kernel
theorem dX0_part_64 : decode cX0_part 64 = .ok (.getfield 18, 3) := by decide +kernel
theorem dX0_part_67 : decode cX0_part 67 = .ok (.if_icmp .ge 33, 3) := by decide +kernel
theorem dX0_part_70 : decode cX0_part 70 = .ok (.aload_n 0, 1) := by decide +kernel
theorem dX0_part_71 : decode cX0_part 71 = .ok (.dup, 1) := by decide +kernel
theorem dX0_part_72 : decode cX0_part 72 = .ok (.getfield 32, 3) := by decide +kernel
theorem dX0_part_75 : decode cX0_part 75 = .ok (.aload_n 0, 1) := by decide +kernel
theorem dX0_part_76 : decode cX0_part 76 = .ok (.getfield 9, 3) := by decide +kernel
theorem dX0_part_79 : decode cX0_part 79 = .ok (.iload_n 3, 1) := by decide +kernel
theorem dX0_part_80 : decode cX0_part 80 = .ok (.iaload, 1) := by decide +kernel
theorem dX0_part_81 : decode cX0_part 81 = .ok (.iload_n 3, 1) := by decide +kernel
theorem dX0_part_82 : decode cX0_part 82 = .ok (.if_icmp .ne 7, 3) := by decide +kernel
theorem dX0_part_85 : decode cX0_part 85 = .ok (.iconst 1, 1) := by decide +kernel
theorem dX0_part_86 : decode cX0_part 86 = .ok (.goto 4, 3) := by decide +kernel
theorem dX0_part_89 : decode cX0_part 89 = .ok (.iconst 0, 1) := by decide +kernel
theorem dX0_part_90 : decode cX0_part 90 = .ok (.iadd, 1) := by decide +kernel
theorem dX0_part_91 : decode cX0_part 91 = .ok (.putfield 32, 3) := by decide +kernel
theorem dX0_part_94 : decode cX0_part 94 = .ok (.iinc 3 1, 3) := by decide +kernel
theorem dX0_part_97 : decode cX0_part 97 = .ok (.goto (-35), 3) := by decide +kernel
theorem dX0_part_100 : decode cX0_part 100 = .ok (.return_, 1) := by decide +kernel
theorem dX0_leastAlike_0 : decode cX0_leastAlike 0 = .ok (.iconst 0, 1) := by decide +kernel
theorem dX0_leastAlike_1 : decode cX0_leastAlike 1 = .ok (.istore_n 3, 1) := by decide +kernel
theorem dX0_leastAlike_2 : decode cX0_leastAlike 2 = .ok (.iload_n 3, 1) := by decide +kernel
theorem dX0_leastAlike_3 : decode cX0_leastAlike 3 = .ok (.iload_n 2, 1) := by decide +kernel
theorem dX0_leastAlike_4 : decode cX0_leastAlike 4 = .ok (.if_icmp .ge 30, 3) := by decide +kernel
theorem dX0_leastAlike_7 : decode cX0_leastAlike 7 = .ok (.aload_n 0, 1) := by decide +kernel
theorem dX0_leastAlike_8 : decode cX0_leastAlike 8 = .ok (.getfield 9, 3) := by decide +kernel
theorem dX0_leastAlike_11 : decode cX0_leastAlike 11 = .ok (.iload_n 3, 1) := by decide +kernel
theorem dX0_leastAlike_12 : decode cX0_leastAlike 12 = .ok (.iaload, 1) := by decide +kernel
theorem dX0_leastAlike_13 : decode cX0_leastAlike 13 = .ok (.iload_n 3, 1) := by decide +kernel
theorem dX0_leastAlike_14 : decode cX0_leastAlike 14 = .ok (.if_icmp .ne 14, 3) := by decide +kernel
theorem dX0_leastAlike_17 : decode cX0_leastAlike 17 = .ok (.aload_n 1, 1) := by decide +kernel
theorem dX0_leastAlike_18 : decode cX0_leastAlike 18 = .ok (.iload_n 3, 1) := by decide +kernel
theorem dX0_leastAlike_19 : decode cX0_leastAlike 19 = .ok (.iload_n 2, 1) := by decide +kernel
theorem dX0_leastAlike_20 : decode cX0_leastAlike 20 = .ok (.invokestatic 33, 3) := by decide +kernel
theorem dX0_leastAlike_23 : decode cX0_leastAlike 23 = .ok (.ifCond .eq 5, 3) := by decide +kernel
theorem dX0_leastAlike_26 : decode cX0_leastAlike 26 = .ok (.iload_n 3, 1) := by decide +kernel
theorem dX0_leastAlike_27 : decode cX0_leastAlike 27 = .ok (.ireturn, 1) := by decide +kernel
theorem dX0_leastAlike_28 : decode cX0_leastAlike 28 = .ok (.iinc 3 1, 3) := by decide +kernel
theorem dX0_leastAlike_31 : decode cX0_leastAlike 31 = .ok (.goto (-29), 3) := by decide +kernel
theorem dX0_leastAlike_34 : decode cX0_leastAlike 34 = .ok (.iload_n 2, 1) := by decide +kernel
theorem dX0_leastAlike_35 : decode cX0_leastAlike 35 = .ok (.ireturn, 1) := by decide +kernel
theorem dX0_alike_0 : decode cX0_alike 0 = .ok (.aload_n 0, 1) := by decide +kernel
theorem dX0_alike_1 : decode cX0_alike 1 = .ok (.getfield 37, 3) := by decide +kernel
theorem dX0_alike_4 : decode cX0_alike 4 = .ok (.iload_n 1, 1) := by decide +kernel
theorem dX0_alike_5 : decode cX0_alike 5 = .ok (.iaload, 1) := by decide +kernel
theorem dX0_alike_6 : decode cX0_alike 6 = .ok (.aload_n 0, 1) := by decide +kernel
theorem dX0_alike_7 : decode cX0_alike 7 = .ok (.getfield 37, 3) := by decide +kernel
theorem dX0_alike_10 : decode cX0_alike 10 = .ok (.iload_n 2, 1) := by decide +kernel
theorem dX0_alike_11 : decode cX0_alike 11 = .ok (.iaload, 1) := by decide +kernel
theorem dX0_alike_12 : decode cX0_alike 12 = .ok (.if_icmp .ne 48, 3) := by decide +kernel
theorem dX0_alike_15 : decode cX0_alike 15 = .ok (.aload_n 0, 1) := by decide +kernel
theorem dX0_alike_16 : decode cX0_alike 16 = .ok (.getfield 40, 3) := by decide +kernel
theorem dX0_alike_19 : decode cX0_alike 19 = .ok (.iload_n 1, 1) := by decide +kernel
theorem dX0_alike_20 : decode cX0_alike 20 = .ok (.iaload, 1) := by decide +kernel
theorem dX0_alike_21 : decode cX0_alike 21 = .ok (.aload_n 0, 1) := by decide +kernel
theorem dX0_alike_22 : decode cX0_alike 22 = .ok (.getfield 40, 3) := by decide +kernel
theorem dX0_alike_25 : decode cX0_alike 25 = .ok (.iload_n 2, 1) := by decide +kernel
theorem dX0_alike_26 : decode cX0_alike 26 = .ok (.iaload, 1) := by decide +kernel
theorem dX0_alike_27 : decode cX0_alike 27 = .ok (.if_icmp .ne 33, 3) := by decide +kernel
theorem dX0_alike_30 : decode cX0_alike 30 = .ok (.aload_n 0, 1) := by decide +kernel
theorem dX0_alike_31 : decode cX0_alike 31 = .ok (.getfield 37, 3) := by decide +kernel
theorem dX0_alike_34 : decode cX0_alike 34 = .ok (.iload_n 1, 1) := by decide +kernel
theorem dX0_alike_35 : decode cX0_alike 35 = .ok (.iaload, 1) := by decide +kernel
theorem dX0_alike_36 : decode cX0_alike 36 = .ok (.bipush 15, 2) := by decide +kernel
theorem dX0_alike_38 : decode cX0_alike 38 = .ok (.if_icmp .ne 18, 3) := by decide +kernel
theorem dX0_alike_41 : decode cX0_alike 41 = .ok (.aload_n 0, 1) := by decide +kernel
theorem dX0_alike_42 : decode cX0_alike 42 = .ok (.getfield 43, 3) := by decide +kernel
theorem dX0_alike_45 : decode cX0_alike 45 = .ok (.iload_n 1, 1) := by decide +kernel
theorem dX0_alike_46 : decode cX0_alike 46 = .ok (.iaload, 1) := by decide +kernel
theorem dX0_alike_47 : decode cX0_alike 47 = .ok (.aload_n 0, 1) := by decide +kernel
theorem dX0_alike_48 : decode cX0_alike 48 = .ok (.getfield 43, 3) := by decide +kernel
theorem dX0_alike_51 : decode cX0_alike 51 = .ok (.iload_n 2, 1) := by decide +kernel
theorem dX0_alike_52 : decode cX0_alike 52 = .ok (.iaload, 1) := by decide +kernel
theorem dX0_alike_53 : decode cX0_alike 53 = .ok (.if_icmp .ne 7, 3) := by decide +kernel
theorem dX0_alike_56 : decode cX0_alike 56 = .ok (.iconst 1, 1) := by decide +kernel
theorem dX0_alike_57 : decode cX0_alike 57 = .ok (.goto 4, 3) := by decide +kernel
theorem dX0_alike_60 : decode cX0_alike 60 = .ok (.iconst 0, 1) := by decide +kernel
theorem dX0_alike_61 : decode cX0_alike 61 = .ok (.ireturn, 1) := by decide +kernel
theorem dX0_partFiner_0 : decode cX0_partFiner 0 = .ok (.iconst 0, 1) := by decide +kernel
theorem dX0_partFiner_1 : decode cX0_partFiner 1 = .ok (.istore_n 2, 1) := by decide +kernel
theorem dX0_partFiner_2 : decode cX0_partFiner 2 = .ok (.iconst 0, 1) := by decide +kernel
theorem dX0_partFiner_3 : decode cX0_partFiner 3 = .ok (.istore_n 3, 1) := by decide +kernel
theorem dX0_partFiner_4 : decode cX0_partFiner 4 = .ok (.iload_n 3, 1) := by decide +kernel
theorem dX0_partFiner_5 : decode cX0_partFiner 5 = .ok (.aload_n 1, 1) := by decide +kernel
theorem dX0_partFiner_6 : decode cX0_partFiner 6 = .ok (.getfield 18, 3) := by decide +kernel
theorem dX0_partFiner_9 : decode cX0_partFiner 9 = .ok (.if_icmp .ge 46, 3) := by decide +kernel
theorem dX0_partFiner_12 : decode cX0_partFiner 12 = .ok (.aload_n 0, 1) := by decide +kernel
theorem dX0_partFiner_13 : decode cX0_partFiner 13 = .ok (.getfield 15, 3) := by decide +kernel
theorem dX0_partFiner_16 : decode cX0_partFiner 16 = .ok (.iload_n 3, 1) := by decide +kernel
theorem dX0_partFiner_17 : decode cX0_partFiner 17 = .ok (.aload_n 0, 1) := by decide +kernel
theorem dX0_partFiner_18 : decode cX0_partFiner 18 = .ok (.aload_n 1, 1) := by decide +kernel
theorem dX0_partFiner_19 : decode cX0_partFiner 19 = .ok (.iload_n 3, 1) := by decide +kernel
theorem dX0_partFiner_20 : decode cX0_partFiner 20 = .ok (.invokevirtual 46, 3) := by decide +kernel
theorem dX0_partFiner_23 : decode cX0_partFiner 23 = .ok (.iastore, 1) := by decide +kernel
theorem dX0_partFiner_24 : decode cX0_partFiner 24 = .ok (.iload_n 2, 1) := by decide +kernel
theorem dX0_partFiner_25 : decode cX0_partFiner 25 = .ok (.ifCond .ne 18, 3) := by decide +kernel
theorem dX0_partFiner_28 : decode cX0_partFiner 28 = .ok (.aload_n 0, 1) := by decide +kernel
theorem dX0_partFiner_29 : decode cX0_partFiner 29 = .ok (.getfield 15, 3) := by decide +kernel
theorem dX0_partFiner_32 : decode cX0_partFiner 32 = .ok (.iload_n 3, 1) := by decide +kernel
theorem dX0_partFiner_33 : decode cX0_partFiner 33 = .ok (.iaload, 1) := by decide +kernel
theorem dX0_partFiner_34 : decode cX0_partFiner 34 = .ok (.aload_n 0, 1) := by decide +kernel
theorem dX0_partFiner_35 : decode cX0_partFiner 35 = .ok (.getfield 9, 3) := by decide +kernel
theorem dX0_partFiner_38 : decode cX0_partFiner 38 = .ok (.iload_n 3, 1) := by decide +kernel
theorem dX0_partFiner_39 : decode cX0_partFiner 39 = .ok (.iaload, 1) := by decide +kernel
theorem dX0_partFiner_40 : decode cX0_partFiner 40 = .ok (.if_icmp .eq 7, 3) := by decide +kernel
theorem dX0_partFiner_43 : decode cX0_partFiner 43 = .ok (.iconst 1, 1) := by decide +kernel
theorem dX0_partFiner_44 : decode cX0_partFiner 44 = .ok (.goto 4, 3) := by decide +kernel
theorem dX0_partFiner_47 : decode cX0_partFiner 47 = .ok (.iconst 0, 1) := by decide +kernel
theorem dX0_partFiner_48 : decode cX0_partFiner 48 = .ok (.istore_n 2, 1) := by decide +kernel
theorem dX0_partFiner_49 : decode cX0_partFiner 49 = .ok (.iinc 3 1, 3) := by decide +kernel
theorem dX0_partFiner_52 : decode cX0_partFiner 52 = .ok (.goto (-48), 3) := by decide +kernel
theorem dX0_partFiner_55 : decode cX0_partFiner 55 = .ok (.aload_n 0, 1) := by decide +kernel
theorem dX0_partFiner_56 : decode cX0_partFiner 56 = .ok (.getfield 15, 3) := by decide +kernel
theorem dX0_partFiner_59 : decode cX0_partFiner 59 = .ok (.iconst 0, 1) := by decide +kernel
theorem dX0_partFiner_60 : decode cX0_partFiner 60 = .ok (.aload_n 0, 1) := by decide +kernel
theorem dX0_partFiner_61 : decode cX0_partFiner 61 = .ok (.getfield 9, 3) := by decide +kernel
theorem dX0_partFiner_64 : decode cX0_partFiner 64 = .ok (.iconst 0, 1) := by decide +kernel
theorem dX0_partFiner_65 : decode cX0_partFiner 65 = .ok (.aload_n 1, 1) := by decide +kernel
theorem dX0_partFiner_66 : decode cX0_partFiner 66 = .ok (.getfield 18, 3) := by decide +kernel
theorem dX0_partFiner_69 : decode cX0_partFiner 69 = .ok (.invokestatic 49, 3) := by decide +kernel
theorem dX0_partFiner_72 : decode cX0_partFiner 72 = .ok (.iload_n 2, 1) := by decide +kernel
theorem dX0_partFiner_73 : decode cX0_partFiner 73 = .ok (.ireturn, 1) := by decide +kernel
theorem dX0_leastTogether_0 : decode cX0_leastTogether 0 = .ok (.aload_n 0, 1) := by decide +kernel
theorem dX0_leastTogether_1 : decode cX0_leastTogether 1 = .ok (.getfield 9, 3) := by decide +kernel
theorem dX0_leastTogether_4 : decode cX0_leastTogether 4 = .ok (.iload_n 2, 1) := by decide +kernel
theorem dX0_leastTogether_5 : decode cX0_leastTogether 5 = .ok (.iaload, 1) := by decide +kernel
theorem dX0_leastTogether_6 : decode cX0_leastTogether 6 = .ok (.istore_n 3, 1) := by decide +kernel
theorem dX0_leastTogether_7 : decode cX0_leastTogether 7 = .ok (.iload_n 3, 1) := by decide +kernel
theorem dX0_leastTogether_8 : decode cX0_leastTogether 8 = .ok (.iload_n 2, 1) := by decide +kernel
theorem dX0_leastTogether_9 : decode cX0_leastTogether 9 = .ok (.if_icmp .ge 46, 3) := by decide +kernel
theorem dX0_leastTogether_12 : decode cX0_leastTogether 12 = .ok (.aload_n 0, 1) := by decide +kernel
theorem dX0_leastTogether_13 : decode cX0_leastTogether 13 = .ok (.getfield 15, 3) := by decide +kernel
theorem dX0_leastTogether_16 : decode cX0_leastTogether 16 = .ok (.iload_n 3, 1) := by decide +kernel
theorem dX0_leastTogether_17 : decode cX0_leastTogether 17 = .ok (.iaload, 1) := by decide +kernel
theorem dX0_leastTogether_18 : decode cX0_leastTogether 18 = .ok (.iload_n 3, 1) := by decide +kernel
theorem dX0_leastTogether_19 : decode cX0_leastTogether 19 = .ok (.if_icmp .ne 30, 3) := by decide +kernel
theorem dX0_leastTogether_22 : decode cX0_leastTogether 22 = .ok (.aload_n 0, 1) := by decide +kernel
theorem dX0_leastTogether_23 : decode cX0_leastTogether 23 = .ok (.getfield 9, 3) := by decide +kernel
theorem dX0_leastTogether_26 : decode cX0_leastTogether 26 = .ok (.iload_n 3, 1) := by decide +kernel
theorem dX0_leastTogether_27 : decode cX0_leastTogether 27 = .ok (.iaload, 1) := by decide +kernel
theorem dX0_leastTogether_28 : decode cX0_leastTogether 28 = .ok (.aload_n 0, 1) := by decide +kernel
theorem dX0_leastTogether_29 : decode cX0_leastTogether 29 = .ok (.getfield 9, 3) := by decide +kernel
theorem dX0_leastTogether_32 : decode cX0_leastTogether 32 = .ok (.iload_n 2, 1) := by decide +kernel
theorem dX0_leastTogether_33 : decode cX0_leastTogether 33 = .ok (.iaload, 1) := by decide +kernel
theorem dX0_leastTogether_34 : decode cX0_leastTogether 34 = .ok (.if_icmp .ne 15, 3) := by decide +kernel
theorem dX0_leastTogether_37 : decode cX0_leastTogether 37 = .ok (.aload_n 0, 1) := by decide +kernel
theorem dX0_leastTogether_38 : decode cX0_leastTogether 38 = .ok (.aload_n 1, 1) := by decide +kernel
theorem dX0_leastTogether_39 : decode cX0_leastTogether 39 = .ok (.iload_n 3, 1) := by decide +kernel
theorem dX0_leastTogether_40 : decode cX0_leastTogether 40 = .ok (.iload_n 2, 1) := by decide +kernel
theorem dX0_leastTogether_41 : decode cX0_leastTogether 41 = .ok (.invokevirtual 55, 3) := by decide +kernel
theorem dX0_leastTogether_44 : decode cX0_leastTogether 44 = .ok (.ifCond .eq 5, 3) := by decide +kernel
theorem dX0_leastTogether_47 : decode cX0_leastTogether 47 = .ok (.iload_n 3, 1) := by decide +kernel
theorem dX0_leastTogether_48 : decode cX0_leastTogether 48 = .ok (.ireturn, 1) := by decide +kernel
theorem dX0_leastTogether_49 : decode cX0_leastTogether 49 = .ok (.iinc 3 1, 3) := by decide +kernel
theorem dX0_leastTogether_52 : decode cX0_leastTogether 52 = .ok (.goto (-45), 3) := by decide +kernel
theorem dX0_leastTogether_55 : decode cX0_leastTogether 55 = .ok (.iload_n 2, 1) := by decide +kernel
theorem dX0_leastTogether_56 : decode cX0_leastTogether 56 = .ok (.ireturn, 1) := by decide +kernel
theorem dX0_operandsAgree_0 : decode cX0_operandsAgree 0 = .ok (.aload_n 1, 1) := by decide +kernel
theorem dX0_operandsAgree_1 : decode cX0_operandsAgree 1 = .ok (.getfield 58, 3) := by decide +kernel
theorem dX0_operandsAgree_4 : decode cX0_operandsAgree 4 = .ok (.iload_n 2, 1) := by decide +kernel
theorem dX0_operandsAgree_5 : decode cX0_operandsAgree 5 = .ok (.iaload, 1) := by decide +kernel
theorem dX0_operandsAgree_6 : decode cX0_operandsAgree 6 = .ok (.istore 4, 2) := by decide +kernel
theorem dX0_operandsAgree_8 : decode cX0_operandsAgree 8 = .ok (.aload_n 1, 1) := by decide +kernel
theorem dX0_operandsAgree_9 : decode cX0_operandsAgree 9 = .ok (.getfield 58, 3) := by decide +kernel
theorem dX0_operandsAgree_12 : decode cX0_operandsAgree 12 = .ok (.iload_n 3, 1) := by decide +kernel
theorem dX0_operandsAgree_13 : decode cX0_operandsAgree 13 = .ok (.iaload, 1) := by decide +kernel
theorem dX0_operandsAgree_14 : decode cX0_operandsAgree 14 = .ok (.istore 5, 2) := by decide +kernel
theorem dX0_operandsAgree_16 : decode cX0_operandsAgree 16 = .ok (.aload_n 1, 1) := by decide +kernel
theorem dX0_operandsAgree_17 : decode cX0_operandsAgree 17 = .ok (.iload_n 2, 1) := by decide +kernel
theorem dX0_operandsAgree_18 : decode cX0_operandsAgree 18 = .ok (.invokevirtual 61, 3) := by decide +kernel
theorem dX0_operandsAgree_21 : decode cX0_operandsAgree 21 = .ok (.istore 6, 2) := by decide +kernel
theorem dX0_operandsAgree_23 : decode cX0_operandsAgree 23 = .ok (.iconst 1, 1) := by decide +kernel
theorem dX0_operandsAgree_24 : decode cX0_operandsAgree 24 = .ok (.istore 7, 2) := by decide +kernel
theorem dX0_operandsAgree_26 : decode cX0_operandsAgree 26 = .ok (.iconst 0, 1) := by decide +kernel
theorem dX0_operandsAgree_27 : decode cX0_operandsAgree 27 = .ok (.istore 8, 2) := by decide +kernel
theorem dX0_operandsAgree_29 : decode cX0_operandsAgree 29 = .ok (.iload 8, 2) := by decide +kernel
theorem dX0_operandsAgree_31 : decode cX0_operandsAgree 31 = .ok (.iload 6, 2) := by decide +kernel
theorem dX0_operandsAgree_33 : decode cX0_operandsAgree 33 = .ok (.if_icmp .ge 31, 3) := by decide +kernel
theorem dX0_operandsAgree_36 : decode cX0_operandsAgree 36 = .ok (.iload 7, 2) := by decide +kernel
theorem dX0_operandsAgree_38 : decode cX0_operandsAgree 38 = .ok (.ifCond .eq 26, 3) := by decide +kernel
theorem dX0_operandsAgree_41 : decode cX0_operandsAgree 41 = .ok (.aload_n 0, 1) := by decide +kernel
theorem dX0_operandsAgree_42 : decode cX0_operandsAgree 42 = .ok (.aload_n 1, 1) := by decide +kernel
theorem dX0_operandsAgree_43 : decode cX0_operandsAgree 43 = .ok (.iload 4, 2) := by decide +kernel
theorem dX0_operandsAgree_45 : decode cX0_operandsAgree 45 = .ok (.iload 8, 2) := by decide +kernel
theorem dX0_operandsAgree_47 : decode cX0_operandsAgree 47 = .ok (.iadd, 1) := by decide +kernel
theorem dX0_operandsAgree_48 : decode cX0_operandsAgree 48 = .ok (.iload 5, 2) := by decide +kernel
theorem dX0_operandsAgree_50 : decode cX0_operandsAgree 50 = .ok (.iload 8, 2) := by decide +kernel
theorem dX0_operandsAgree_52 : decode cX0_operandsAgree 52 = .ok (.iadd, 1) := by decide +kernel
theorem dX0_operandsAgree_53 : decode cX0_operandsAgree 53 = .ok (.invokevirtual 65, 3) := by decide +kernel
theorem dX0_operandsAgree_56 : decode cX0_operandsAgree 56 = .ok (.istore 7, 2) := by decide +kernel
theorem dX0_operandsAgree_58 : decode cX0_operandsAgree 58 = .ok (.iinc 8 1, 3) := by decide +kernel
theorem dX0_operandsAgree_61 : decode cX0_operandsAgree 61 = .ok (.goto (-32), 3) := by decide +kernel
theorem dX0_operandsAgree_64 : decode cX0_operandsAgree 64 = .ok (.iload 7, 2) := by decide +kernel
theorem dX0_operandsAgree_66 : decode cX0_operandsAgree 66 = .ok (.ifCond .ne 43, 3) := by decide +kernel
theorem dX0_operandsAgree_69 : decode cX0_operandsAgree 69 = .ok (.aload_n 1, 1) := by decide +kernel
theorem dX0_operandsAgree_70 : decode cX0_operandsAgree 70 = .ok (.getfield 37, 3) := by decide +kernel
theorem dX0_operandsAgree_73 : decode cX0_operandsAgree 73 = .ok (.iload_n 2, 1) := by decide +kernel
theorem dX0_operandsAgree_74 : decode cX0_operandsAgree 74 = .ok (.iaload, 1) := by decide +kernel
theorem dX0_operandsAgree_75 : decode cX0_operandsAgree 75 = .ok (.invokestatic 68, 3) := by decide +kernel
theorem dX0_operandsAgree_78 : decode cX0_operandsAgree 78 = .ok (.ifCond .eq 35, 3) := by decide +kernel
theorem dX0_operandsAgree_81 : decode cX0_operandsAgree 81 = .ok (.aload_n 0, 1) := by decide +kernel
theorem dX0_operandsAgree_82 : decode cX0_operandsAgree 82 = .ok (.aload_n 1, 1) := by decide +kernel
theorem dX0_operandsAgree_83 : decode cX0_operandsAgree 83 = .ok (.iload 4, 2) := by decide +kernel
theorem dX0_operandsAgree_85 : decode cX0_operandsAgree 85 = .ok (.iload 5, 2) := by decide +kernel
theorem dX0_operandsAgree_87 : decode cX0_operandsAgree 87 = .ok (.iconst 1, 1) := by decide +kernel
theorem dX0_operandsAgree_88 : decode cX0_operandsAgree 88 = .ok (.iadd, 1) := by decide +kernel
theorem dX0_operandsAgree_89 : decode cX0_operandsAgree 89 = .ok (.invokevirtual 65, 3) := by decide +kernel
theorem dX0_operandsAgree_92 : decode cX0_operandsAgree 92 = .ok (.ifCond .eq 21, 3) := by decide +kernel
theorem dX0_operandsAgree_95 : decode cX0_operandsAgree 95 = .ok (.aload_n 0, 1) := by decide +kernel
theorem dX0_operandsAgree_96 : decode cX0_operandsAgree 96 = .ok (.aload_n 1, 1) := by decide +kernel
theorem dX0_operandsAgree_97 : decode cX0_operandsAgree 97 = .ok (.iload 4, 2) := by decide +kernel
theorem dX0_operandsAgree_99 : decode cX0_operandsAgree 99 = .ok (.iconst 1, 1) := by decide +kernel
theorem dX0_operandsAgree_100 : decode cX0_operandsAgree 100 = .ok (.iadd, 1) := by decide +kernel
theorem dX0_operandsAgree_101 : decode cX0_operandsAgree 101 = .ok (.iload 5, 2) := by decide +kernel
theorem dX0_operandsAgree_103 : decode cX0_operandsAgree 103 = .ok (.invokevirtual 65, 3) := by decide +kernel
theorem dX0_operandsAgree_106 : decode cX0_operandsAgree 106 = .ok (.ifCond .eq 7, 3) := by decide +kernel
theorem dX0_operandsAgree_109 : decode cX0_operandsAgree 109 = .ok (.iconst 1, 1) := by decide +kernel
theorem dX0_operandsAgree_110 : decode cX0_operandsAgree 110 = .ok (.goto 4, 3) := by decide +kernel
theorem dX0_operandsAgree_113 : decode cX0_operandsAgree 113 = .ok (.iconst 0, 1) := by decide +kernel
theorem dX0_operandsAgree_114 : decode cX0_operandsAgree 114 = .ok (.ireturn, 1) := by decide +kernel
theorem dX0_together_0 : decode cX0_together 0 = .ok (.aload_n 0, 1) := by decide +kernel
theorem dX0_together_1 : decode cX0_together 1 = .ok (.getfield 9, 3) := by decide +kernel
theorem dX0_together_4 : decode cX0_together 4 = .ok (.aload_n 1, 1) := by decide +kernel
theorem dX0_together_5 : decode cX0_together 5 = .ok (.getfield 72, 3) := by decide +kernel
theorem dX0_together_8 : decode cX0_together 8 = .ok (.getfield 76, 3) := by decide +kernel
theorem dX0_together_11 : decode cX0_together 11 = .ok (.iload_n 2, 1) := by decide +kernel
theorem dX0_together_12 : decode cX0_together 12 = .ok (.iaload, 1) := by decide +kernel
theorem dX0_together_13 : decode cX0_together 13 = .ok (.iaload, 1) := by decide +kernel
theorem dX0_together_14 : decode cX0_together 14 = .ok (.aload_n 0, 1) := by decide +kernel
theorem dX0_together_15 : decode cX0_together 15 = .ok (.getfield 9, 3) := by decide +kernel
theorem dX0_together_18 : decode cX0_together 18 = .ok (.aload_n 1, 1) := by decide +kernel
theorem dX0_together_19 : decode cX0_together 19 = .ok (.getfield 72, 3) := by decide +kernel
theorem dX0_together_22 : decode cX0_together 22 = .ok (.getfield 76, 3) := by decide +kernel
theorem dX0_together_25 : decode cX0_together 25 = .ok (.iload_n 3, 1) := by decide +kernel
theorem dX0_together_26 : decode cX0_together 26 = .ok (.iaload, 1) := by decide +kernel
theorem dX0_together_27 : decode cX0_together 27 = .ok (.iaload, 1) := by decide +kernel
theorem dX0_together_28 : decode cX0_together 28 = .ok (.if_icmp .ne 7, 3) := by decide +kernel
theorem dX0_together_31 : decode cX0_together 31 = .ok (.iconst 1, 1) := by decide +kernel
theorem dX0_together_32 : decode cX0_together 32 = .ok (.goto 4, 3) := by decide +kernel
theorem dX0_together_35 : decode cX0_together 35 = .ok (.iconst 0, 1) := by decide +kernel
theorem dX0_together_36 : decode cX0_together 36 = .ok (.ireturn, 1) := by decide +kernel
theorem dX0_isEven_0 : decode cX0_isEven 0 = .ok (.iload_n 0, 1) := by decide +kernel
theorem dX0_isEven_1 : decode cX0_isEven 1 = .ok (.iconst 3, 1) := by decide +kernel
theorem dX0_isEven_2 : decode cX0_isEven 2 = .ok (.if_icmp .eq 32, 3) := by decide +kernel
theorem dX0_isEven_5 : decode cX0_isEven 5 = .ok (.iload_n 0, 1) := by decide +kernel
theorem dX0_isEven_6 : decode cX0_isEven 6 = .ok (.iconst 5, 1) := by decide +kernel
theorem dX0_isEven_7 : decode cX0_isEven 7 = .ok (.if_icmp .eq 27, 3) := by decide +kernel
theorem dX0_isEven_10 : decode cX0_isEven 10 = .ok (.iload_n 0, 1) := by decide +kernel
theorem dX0_isEven_11 : decode cX0_isEven 11 = .ok (.bipush 6, 2) := by decide +kernel
theorem dX0_isEven_13 : decode cX0_isEven 13 = .ok (.if_icmp .eq 21, 3) := by decide +kernel
theorem dX0_isEven_16 : decode cX0_isEven 16 = .ok (.iload_n 0, 1) := by decide +kernel
theorem dX0_isEven_17 : decode cX0_isEven 17 = .ok (.bipush 7, 2) := by decide +kernel
theorem dX0_isEven_19 : decode cX0_isEven 19 = .ok (.if_icmp .eq 15, 3) := by decide +kernel
theorem dX0_isEven_22 : decode cX0_isEven 22 = .ok (.iload_n 0, 1) := by decide +kernel
theorem dX0_isEven_23 : decode cX0_isEven 23 = .ok (.bipush 8, 2) := by decide +kernel
theorem dX0_isEven_25 : decode cX0_isEven 25 = .ok (.if_icmp .eq 9, 3) := by decide +kernel
theorem dX0_isEven_28 : decode cX0_isEven 28 = .ok (.iload_n 0, 1) := by decide +kernel
theorem dX0_isEven_29 : decode cX0_isEven 29 = .ok (.bipush 9, 2) := by decide +kernel
theorem dX0_isEven_31 : decode cX0_isEven 31 = .ok (.if_icmp .ne 7, 3) := by decide +kernel
theorem dX0_isEven_34 : decode cX0_isEven 34 = .ok (.iconst 1, 1) := by decide +kernel
theorem dX0_isEven_35 : decode cX0_isEven 35 = .ok (.goto 4, 3) := by decide +kernel
theorem dX0_isEven_38 : decode cX0_isEven 38 = .ok (.iconst 0, 1) := by decide +kernel
theorem dX0_isEven_39 : decode cX0_isEven 39 = .ok (.ireturn, 1) := by decide +kernel
theorem dX1_init_0 : decode cX1_init 0 = .ok (.aload_n 0, 1) := by decide +kernel
theorem dX1_init_1 : decode cX1_init 1 = .ok (.invokespecial 1, 3) := by decide +kernel
theorem dX1_init_4 : decode cX1_init 4 = .ok (.aload_n 0, 1) := by decide +kernel
theorem dX1_init_5 : decode cX1_init 5 = .ok (.iload_n 1, 1) := by decide +kernel
theorem dX1_init_6 : decode cX1_init 6 = .ok (.newarray .int, 2) := by decide +kernel
theorem dX1_init_8 : decode cX1_init 8 = .ok (.putfield 7, 3) := by decide +kernel
theorem dX1_init_11 : decode cX1_init 11 = .ok (.return_, 1) := by decide +kernel
theorem dX2_init_0 : decode cX2_init 0 = .ok (.aload_n 0, 1) := by decide +kernel
theorem dX2_init_1 : decode cX2_init 1 = .ok (.invokespecial 3, 3) := by decide +kernel
theorem dX2_init_4 : decode cX2_init 4 = .ok (.aload_n 0, 1) := by decide +kernel
theorem dX2_init_5 : decode cX2_init 5 = .ok (.bipush 16, 2) := by decide +kernel
theorem dX2_init_7 : decode cX2_init 7 = .ok (.newarray .int, 2) := by decide +kernel
theorem dX2_init_9 : decode cX2_init 9 = .ok (.putfield 9, 3) := by decide +kernel
theorem dX2_init_12 : decode cX2_init 12 = .ok (.aload_n 0, 1) := by decide +kernel
theorem dX2_init_13 : decode cX2_init 13 = .ok (.bipush 16, 2) := by decide +kernel
theorem dX2_init_15 : decode cX2_init 15 = .ok (.newarray .int, 2) := by decide +kernel
theorem dX2_init_17 : decode cX2_init 17 = .ok (.putfield 15, 3) := by decide +kernel
theorem dX2_init_20 : decode cX2_init 20 = .ok (.aload_n 0, 1) := by decide +kernel
theorem dX2_init_21 : decode cX2_init 21 = .ok (.bipush 16, 2) := by decide +kernel
theorem dX2_init_23 : decode cX2_init 23 = .ok (.newarray .int, 2) := by decide +kernel
theorem dX2_init_25 : decode cX2_init 25 = .ok (.putfield 18, 3) := by decide +kernel
theorem dX2_init_28 : decode cX2_init 28 = .ok (.aload_n 0, 1) := by decide +kernel
theorem dX2_init_29 : decode cX2_init 29 = .ok (.bipush 16, 2) := by decide +kernel
theorem dX2_init_31 : decode cX2_init 31 = .ok (.newarray .int, 2) := by decide +kernel
theorem dX2_init_33 : decode cX2_init 33 = .ok (.putfield 21, 3) := by decide +kernel
theorem dX2_init_36 : decode cX2_init 36 = .ok (.aload_n 0, 1) := by decide +kernel
theorem dX2_init_37 : decode cX2_init 37 = .ok (.bipush 16, 2) := by decide +kernel
theorem dX2_init_39 : decode cX2_init 39 = .ok (.newarray .int, 2) := by decide +kernel
theorem dX2_init_41 : decode cX2_init 41 = .ok (.putfield 24, 3) := by decide +kernel
theorem dX2_init_44 : decode cX2_init 44 = .ok (.aload_n 0, 1) := by decide +kernel
theorem dX2_init_45 : decode cX2_init 45 = .ok (.bipush 16, 2) := by decide +kernel
theorem dX2_init_47 : decode cX2_init 47 = .ok (.newarray .int, 2) := by decide +kernel
theorem dX2_init_49 : decode cX2_init 49 = .ok (.putfield 27, 3) := by decide +kernel
theorem dX2_init_52 : decode cX2_init 52 = .ok (.return_, 1) := by decide +kernel
theorem dX2_isIn_0 : decode cX2_isIn 0 = .ok (.iload_n 0, 1) := by decide +kernel
theorem dX2_isIn_1 : decode cX2_isIn 1 = .ok (.iload_n 1, 1) := by decide +kernel
theorem dX2_isIn_2 : decode cX2_isIn 2 = .ok (.ishr, 1) := by decide +kernel
theorem dX2_isIn_3 : decode cX2_isIn 3 = .ok (.iconst 1, 1) := by decide +kernel
theorem dX2_isIn_4 : decode cX2_isIn 4 = .ok (.iand, 1) := by decide +kernel
theorem dX2_isIn_5 : decode cX2_isIn 5 = .ok (.ifCond .eq 7, 3) := by decide +kernel
theorem dX2_isIn_8 : decode cX2_isIn 8 = .ok (.iconst 1, 1) := by decide +kernel
theorem dX2_isIn_9 : decode cX2_isIn 9 = .ok (.goto 4, 3) := by decide +kernel
theorem dX2_isIn_12 : decode cX2_isIn 12 = .ok (.iconst 0, 1) := by decide +kernel
theorem dX2_isIn_13 : decode cX2_isIn 13 = .ok (.ireturn, 1) := by decide +kernel
theorem dX2_nthOf_0 : decode cX2_nthOf 0 = .ok (.iconst 0, 1) := by decide +kernel
theorem dX2_nthOf_1 : decode cX2_nthOf 1 = .ok (.istore_n 2, 1) := by decide +kernel
theorem dX2_nthOf_2 : decode cX2_nthOf 2 = .ok (.iconst 0, 1) := by decide +kernel
theorem dX2_nthOf_3 : decode cX2_nthOf 3 = .ok (.istore_n 3, 1) := by decide +kernel
theorem dX2_nthOf_4 : decode cX2_nthOf 4 = .ok (.iload_n 3, 1) := by decide +kernel
theorem dX2_nthOf_5 : decode cX2_nthOf 5 = .ok (.bipush 16, 2) := by decide +kernel
theorem dX2_nthOf_7 : decode cX2_nthOf 7 = .ok (.if_icmp .ge 27, 3) := by decide +kernel
theorem dX2_nthOf_10 : decode cX2_nthOf 10 = .ok (.iload_n 0, 1) := by decide +kernel
theorem dX2_nthOf_11 : decode cX2_nthOf 11 = .ok (.iload_n 3, 1) := by decide +kernel
theorem dX2_nthOf_12 : decode cX2_nthOf 12 = .ok (.invokestatic 30, 3) := by decide +kernel
theorem dX2_nthOf_15 : decode cX2_nthOf 15 = .ok (.ifCond .eq 13, 3) := by decide +kernel
theorem dX2_nthOf_18 : decode cX2_nthOf 18 = .ok (.iload_n 2, 1) := by decide +kernel
theorem dX2_nthOf_19 : decode cX2_nthOf 19 = .ok (.iload_n 1, 1) := by decide +kernel
theorem dX2_nthOf_20 : decode cX2_nthOf 20 = .ok (.if_icmp .ne 5, 3) := by decide +kernel
theorem dX2_nthOf_23 : decode cX2_nthOf 23 = .ok (.iload_n 3, 1) := by decide +kernel
theorem dX2_nthOf_24 : decode cX2_nthOf 24 = .ok (.ireturn, 1) := by decide +kernel
theorem dX2_nthOf_25 : decode cX2_nthOf 25 = .ok (.iinc 2 1, 3) := by decide +kernel
theorem dX2_nthOf_28 : decode cX2_nthOf 28 = .ok (.iinc 3 1, 3) := by decide +kernel
theorem dX2_nthOf_31 : decode cX2_nthOf 31 = .ok (.goto (-27), 3) := by decide +kernel
theorem dX2_nthOf_34 : decode cX2_nthOf 34 = .ok (.iconst (-1), 1) := by decide +kernel
theorem dX2_nthOf_35 : decode cX2_nthOf 35 = .ok (.ireturn, 1) := by decide +kernel
theorem dX2_placeIn_0 : decode cX2_placeIn 0 = .ok (.iload_n 0, 1) := by decide +kernel
theorem dX2_placeIn_1 : decode cX2_placeIn 1 = .ok (.iconst 1, 1) := by decide +kernel
theorem dX2_placeIn_2 : decode cX2_placeIn 2 = .ok (.iload_n 1, 1) := by decide +kernel
theorem dX2_placeIn_3 : decode cX2_placeIn 3 = .ok (.ishl, 1) := by decide +kernel
theorem dX2_placeIn_4 : decode cX2_placeIn 4 = .ok (.iconst 1, 1) := by decide +kernel
theorem dX2_placeIn_5 : decode cX2_placeIn 5 = .ok (.isub, 1) := by decide +kernel
theorem dX2_placeIn_6 : decode cX2_placeIn 6 = .ok (.iand, 1) := by decide +kernel
theorem dX2_placeIn_7 : decode cX2_placeIn 7 = .ok (.invokestatic 34, 3) := by decide +kernel
theorem dX2_placeIn_10 : decode cX2_placeIn 10 = .ok (.ireturn, 1) := by decide +kernel
theorem dX2_union_0 : decode cX2_union 0 = .ok (.iconst 0, 1) := by decide +kernel
theorem dX2_union_1 : decode cX2_union 1 = .ok (.istore_n 2, 1) := by decide +kernel
theorem dX2_union_2 : decode cX2_union 2 = .ok (.iconst 0, 1) := by decide +kernel
theorem dX2_union_3 : decode cX2_union 3 = .ok (.istore_n 3, 1) := by decide +kernel
theorem dX2_union_4 : decode cX2_union 4 = .ok (.iload_n 3, 1) := by decide +kernel
theorem dX2_union_5 : decode cX2_union 5 = .ok (.bipush 16, 2) := by decide +kernel
theorem dX2_union_7 : decode cX2_union 7 = .ok (.if_icmp .ge 23, 3) := by decide +kernel
theorem dX2_union_10 : decode cX2_union 10 = .ok (.iload_n 0, 1) := by decide +kernel
theorem dX2_union_11 : decode cX2_union 11 = .ok (.iload_n 3, 1) := by decide +kernel
theorem dX2_union_12 : decode cX2_union 12 = .ok (.invokestatic 30, 3) := by decide +kernel
theorem dX2_union_15 : decode cX2_union 15 = .ok (.ifCond .eq 9, 3) := by decide +kernel
theorem dX2_union_18 : decode cX2_union 18 = .ok (.iload_n 2, 1) := by decide +kernel
theorem dX2_union_19 : decode cX2_union 19 = .ok (.aload_n 1, 1) := by decide +kernel
theorem dX2_union_20 : decode cX2_union 20 = .ok (.iload_n 3, 1) := by decide +kernel
theorem dX2_union_21 : decode cX2_union 21 = .ok (.iaload, 1) := by decide +kernel
theorem dX2_union_22 : decode cX2_union 22 = .ok (.ior, 1) := by decide +kernel
theorem dX2_union_23 : decode cX2_union 23 = .ok (.istore_n 2, 1) := by decide +kernel
theorem dX2_union_24 : decode cX2_union 24 = .ok (.iinc 3 1, 3) := by decide +kernel
theorem dX2_union_27 : decode cX2_union 27 = .ok (.goto (-23), 3) := by decide +kernel
theorem dX2_union_30 : decode cX2_union 30 = .ok (.iload_n 2, 1) := by decide +kernel
theorem dX2_union_31 : decode cX2_union 31 = .ok (.ireturn, 1) := by decide +kernel
theorem dX2_closure_0 : decode cX2_closure 0 = .ok (.iload_n 0, 1) := by decide +kernel
theorem dX2_closure_1 : decode cX2_closure 1 = .ok (.iload_n 2, 1) := by decide +kernel
theorem dX2_closure_2 : decode cX2_closure 2 = .ok (.iconst (-1), 1) := by decide +kernel
theorem dX2_closure_3 : decode cX2_closure 3 = .ok (.ixor, 1) := by decide +kernel
theorem dX2_closure_4 : decode cX2_closure 4 = .ok (.iand, 1) := by decide +kernel
theorem dX2_closure_5 : decode cX2_closure 5 = .ok (.istore_n 3, 1) := by decide +kernel
theorem dX2_closure_6 : decode cX2_closure 6 = .ok (.iconst 0, 1) := by decide +kernel
theorem dX2_closure_7 : decode cX2_closure 7 = .ok (.istore 4, 2) := by decide +kernel
theorem dX2_closure_9 : decode cX2_closure 9 = .ok (.iconst 0, 1) := by decide +kernel
theorem dX2_closure_10 : decode cX2_closure 10 = .ok (.istore 5, 2) := by decide +kernel
theorem dX2_closure_12 : decode cX2_closure 12 = .ok (.iload 5, 2) := by decide +kernel
theorem dX2_closure_14 : decode cX2_closure 14 = .ok (.bipush 16, 2) := by decide +kernel
theorem dX2_closure_16 : decode cX2_closure 16 = .ok (.if_icmp .ge 30, 3) := by decide +kernel
theorem dX2_closure_19 : decode cX2_closure 19 = .ok (.iload_n 3, 1) := by decide +kernel
theorem dX2_closure_20 : decode cX2_closure 20 = .ok (.iload 4, 2) := by decide +kernel
theorem dX2_closure_22 : decode cX2_closure 22 = .ok (.if_icmp .eq 24, 3) := by decide +kernel
theorem dX2_closure_25 : decode cX2_closure 25 = .ok (.iload_n 3, 1) := by decide +kernel
theorem dX2_closure_26 : decode cX2_closure 26 = .ok (.istore 4, 2) := by decide +kernel
theorem dX2_closure_28 : decode cX2_closure 28 = .ok (.iload_n 3, 1) := by decide +kernel
theorem dX2_closure_29 : decode cX2_closure 29 = .ok (.iload_n 3, 1) := by decide +kernel
theorem dX2_closure_30 : decode cX2_closure 30 = .ok (.aload_n 1, 1) := by decide +kernel
theorem dX2_closure_31 : decode cX2_closure 31 = .ok (.invokestatic 40, 3) := by decide +kernel
theorem dX2_closure_34 : decode cX2_closure 34 = .ok (.iload_n 2, 1) := by decide +kernel
theorem dX2_closure_35 : decode cX2_closure 35 = .ok (.iconst (-1), 1) := by decide +kernel
theorem dX2_closure_36 : decode cX2_closure 36 = .ok (.ixor, 1) := by decide +kernel
theorem dX2_closure_37 : decode cX2_closure 37 = .ok (.iand, 1) := by decide +kernel
theorem dX2_closure_38 : decode cX2_closure 38 = .ok (.ior, 1) := by decide +kernel
theorem dX2_closure_39 : decode cX2_closure 39 = .ok (.istore_n 3, 1) := by decide +kernel
theorem dX2_closure_40 : decode cX2_closure 40 = .ok (.iinc 5 1, 3) := by decide +kernel
theorem dX2_closure_43 : decode cX2_closure 43 = .ok (.goto (-31), 3) := by decide +kernel
theorem dX2_closure_46 : decode cX2_closure 46 = .ok (.iload_n 3, 1) := by decide +kernel
theorem dX2_closure_47 : decode cX2_closure 47 = .ok (.ireturn, 1) := by decide +kernel
theorem dX2_turnAround_0 : decode cX2_turnAround 0 = .ok (.iconst 0, 1) := by decide +kernel
theorem dX2_turnAround_1 : decode cX2_turnAround 1 = .ok (.istore_n 2, 1) := by decide +kernel
theorem dX2_turnAround_2 : decode cX2_turnAround 2 = .ok (.iload_n 2, 1) := by decide +kernel
theorem dX2_turnAround_3 : decode cX2_turnAround 3 = .ok (.bipush 16, 2) := by decide +kernel
theorem dX2_turnAround_5 : decode cX2_turnAround 5 = .ok (.if_icmp .ge 46, 3) := by decide +kernel
theorem dX2_turnAround_8 : decode cX2_turnAround 8 = .ok (.aload_n 1, 1) := by decide +kernel
theorem dX2_turnAround_9 : decode cX2_turnAround 9 = .ok (.iload_n 2, 1) := by decide +kernel
theorem dX2_turnAround_10 : decode cX2_turnAround 10 = .ok (.iconst 0, 1) := by decide +kernel
theorem dX2_turnAround_11 : decode cX2_turnAround 11 = .ok (.iastore, 1) := by decide +kernel
theorem dX2_turnAround_12 : decode cX2_turnAround 12 = .ok (.iconst 0, 1) := by decide +kernel
theorem dX2_turnAround_13 : decode cX2_turnAround 13 = .ok (.istore_n 3, 1) := by decide +kernel
theorem dX2_turnAround_14 : decode cX2_turnAround 14 = .ok (.iload_n 3, 1) := by decide +kernel
theorem dX2_turnAround_15 : decode cX2_turnAround 15 = .ok (.bipush 16, 2) := by decide +kernel
theorem dX2_turnAround_17 : decode cX2_turnAround 17 = .ok (.if_icmp .ge 28, 3) := by decide +kernel
theorem dX2_turnAround_20 : decode cX2_turnAround 20 = .ok (.aload_n 0, 1) := by decide +kernel
theorem dX2_turnAround_21 : decode cX2_turnAround 21 = .ok (.iload_n 3, 1) := by decide +kernel
theorem dX2_turnAround_22 : decode cX2_turnAround 22 = .ok (.iaload, 1) := by decide +kernel
theorem dX2_turnAround_23 : decode cX2_turnAround 23 = .ok (.iload_n 2, 1) := by decide +kernel
theorem dX2_turnAround_24 : decode cX2_turnAround 24 = .ok (.invokestatic 30, 3) := by decide +kernel
theorem dX2_turnAround_27 : decode cX2_turnAround 27 = .ok (.ifCond .eq 12, 3) := by decide +kernel
theorem dX2_turnAround_30 : decode cX2_turnAround 30 = .ok (.aload_n 1, 1) := by decide +kernel
theorem dX2_turnAround_31 : decode cX2_turnAround 31 = .ok (.iload_n 2, 1) := by decide +kernel
theorem dX2_turnAround_32 : decode cX2_turnAround 32 = .ok (.dup2, 1) := by decide +kernel
theorem dX2_turnAround_33 : decode cX2_turnAround 33 = .ok (.iaload, 1) := by decide +kernel
theorem dX2_turnAround_34 : decode cX2_turnAround 34 = .ok (.iconst 1, 1) := by decide +kernel
theorem dX2_turnAround_35 : decode cX2_turnAround 35 = .ok (.iload_n 3, 1) := by decide +kernel
theorem dX2_turnAround_36 : decode cX2_turnAround 36 = .ok (.ishl, 1) := by decide +kernel
theorem dX2_turnAround_37 : decode cX2_turnAround 37 = .ok (.ior, 1) := by decide +kernel
theorem dX2_turnAround_38 : decode cX2_turnAround 38 = .ok (.iastore, 1) := by decide +kernel
theorem dX2_turnAround_39 : decode cX2_turnAround 39 = .ok (.iinc 3 1, 3) := by decide +kernel
theorem dX2_turnAround_42 : decode cX2_turnAround 42 = .ok (.goto (-28), 3) := by decide +kernel
theorem dX2_turnAround_45 : decode cX2_turnAround 45 = .ok (.iinc 2 1, 3) := by decide +kernel
theorem dX2_turnAround_48 : decode cX2_turnAround 48 = .ok (.goto (-46), 3) := by decide +kernel
theorem dX2_turnAround_51 : decode cX2_turnAround 51 = .ok (.return_, 1) := by decide +kernel
theorem dX2_reaches_0 : decode cX2_reaches 0 = .ok (.iload_n 1, 1) := by decide +kernel
theorem dX2_reaches_1 : decode cX2_reaches 1 = .ok (.ifCond .lt 24, 3) := by decide +kernel
theorem dX2_reaches_4 : decode cX2_reaches 4 = .ok (.iload_n 1, 1) := by decide +kernel
theorem dX2_reaches_5 : decode cX2_reaches 5 = .ok (.bipush 16, 2) := by decide +kernel
theorem dX2_reaches_7 : decode cX2_reaches 7 = .ok (.if_icmp .ge 18, 3) := by decide +kernel
theorem dX2_reaches_10 : decode cX2_reaches 10 = .ok (.aload_n 0, 1) := by decide +kernel
theorem dX2_reaches_11 : decode cX2_reaches 11 = .ok (.getfield 44, 3) := by decide +kernel
theorem dX2_reaches_14 : decode cX2_reaches 14 = .ok (.iload_n 1, 1) := by decide +kernel
theorem dX2_reaches_15 : decode cX2_reaches 15 = .ok (.invokestatic 30, 3) := by decide +kernel
theorem dX2_reaches_18 : decode cX2_reaches 18 = .ok (.ifCond .eq 7, 3) := by decide +kernel
theorem dX2_reaches_21 : decode cX2_reaches 21 = .ok (.iconst 1, 1) := by decide +kernel
theorem dX2_reaches_22 : decode cX2_reaches 22 = .ok (.goto 4, 3) := by decide +kernel
theorem dX2_reaches_25 : decode cX2_reaches 25 = .ok (.iconst 0, 1) := by decide +kernel
theorem dX2_reaches_26 : decode cX2_reaches 26 = .ok (.ireturn, 1) := by decide +kernel
theorem dX2_draw_0 : decode cX2_draw 0 = .ok (.iconst 0, 1) := by decide +kernel
theorem dX2_draw_1 : decode cX2_draw 1 = .ok (.istore_n 2, 1) := by decide +kernel
theorem dX2_draw_2 : decode cX2_draw 2 = .ok (.iload_n 2, 1) := by decide +kernel
theorem dX2_draw_3 : decode cX2_draw 3 = .ok (.bipush 16, 2) := by decide +kernel
theorem dX2_draw_5 : decode cX2_draw 5 = .ok (.if_icmp .ge 32, 3) := by decide +kernel
theorem dX2_draw_8 : decode cX2_draw 8 = .ok (.aload_n 0, 1) := by decide +kernel
theorem dX2_draw_9 : decode cX2_draw 9 = .ok (.getfield 9, 3) := by decide +kernel
theorem dX2_draw_12 : decode cX2_draw 12 = .ok (.iload_n 2, 1) := by decide +kernel
theorem dX2_draw_13 : decode cX2_draw 13 = .ok (.aload_n 1, 1) := by decide +kernel
theorem dX2_draw_14 : decode cX2_draw 14 = .ok (.iload_n 2, 1) := by decide +kernel
theorem dX2_draw_15 : decode cX2_draw 15 = .ok (.invokevirtual 48, 3) := by decide +kernel
theorem dX2_draw_18 : decode cX2_draw 18 = .ok (.ifCond .eq 11, 3) := by decide +kernel
theorem dX2_draw_21 : decode cX2_draw 21 = .ok (.aload_n 1, 1) := by decide +kernel
theorem dX2_draw_22 : decode cX2_draw 22 = .ok (.iload_n 2, 1) := by decide +kernel
theorem dX2_draw_23 : decode cX2_draw 23 = .ok (.invokevirtual 54, 3) := by decide +kernel
theorem dX2_draw_26 : decode cX2_draw 26 = .ok (.goto 4, 3) := by decide +kernel
theorem dX2_draw_29 : decode cX2_draw 29 = .ok (.iconst 0, 1) := by decide +kernel
theorem dX2_draw_30 : decode cX2_draw 30 = .ok (.iastore, 1) := by decide +kernel
theorem dX2_draw_31 : decode cX2_draw 31 = .ok (.iinc 2 1, 3) := by decide +kernel
theorem dX2_draw_34 : decode cX2_draw 34 = .ok (.goto (-32), 3) := by decide +kernel
theorem dX2_draw_37 : decode cX2_draw 37 = .ok (.aload_n 0, 1) := by decide +kernel
theorem dX2_draw_38 : decode cX2_draw 38 = .ok (.aload_n 1, 1) := by decide +kernel
theorem dX2_draw_39 : decode cX2_draw 39 = .ok (.iconst 0, 1) := by decide +kernel
theorem dX2_draw_40 : decode cX2_draw 40 = .ok (.invokevirtual 48, 3) := by decide +kernel
theorem dX2_draw_43 : decode cX2_draw 43 = .ok (.ifCond .eq 15, 3) := by decide +kernel
theorem dX2_draw_46 : decode cX2_draw 46 = .ok (.iconst 1, 1) := by decide +kernel
theorem dX2_draw_47 : decode cX2_draw 47 = .ok (.aload_n 0, 1) := by decide +kernel
theorem dX2_draw_48 : decode cX2_draw 48 = .ok (.getfield 9, 3) := by decide +kernel
theorem dX2_draw_51 : decode cX2_draw 51 = .ok (.iconst 0, 1) := by decide +kernel
theorem dX2_draw_52 : decode cX2_draw 52 = .ok (.invokestatic 57, 3) := by decide +kernel
theorem dX2_draw_55 : decode cX2_draw 55 = .ok (.goto 4, 3) := by decide +kernel
theorem dX2_draw_58 : decode cX2_draw 58 = .ok (.iconst 0, 1) := by decide +kernel
theorem dX2_draw_59 : decode cX2_draw 59 = .ok (.putfield 44, 3) := by decide +kernel
theorem dX2_draw_62 : decode cX2_draw 62 = .ok (.iconst 0, 1) := by decide +kernel
theorem dX2_draw_63 : decode cX2_draw 63 = .ok (.istore_n 2, 1) := by decide +kernel
theorem dX2_draw_64 : decode cX2_draw 64 = .ok (.iload_n 2, 1) := by decide +kernel
theorem dX2_draw_65 : decode cX2_draw 65 = .ok (.bipush 16, 2) := by decide +kernel
theorem dX2_draw_67 : decode cX2_draw 67 = .ok (.if_icmp .ge 27, 3) := by decide +kernel
theorem dX2_draw_70 : decode cX2_draw 70 = .ok (.aload_n 0, 1) := by decide +kernel
theorem dX2_draw_71 : decode cX2_draw 71 = .ok (.getfield 44, 3) := by decide +kernel
theorem dX2_draw_74 : decode cX2_draw 74 = .ok (.iload_n 2, 1) := by decide +kernel
theorem dX2_draw_75 : decode cX2_draw 75 = .ok (.invokestatic 30, 3) := by decide +kernel
theorem dX2_draw_78 : decode cX2_draw 78 = .ok (.ifCond .ne 10, 3) := by decide +kernel
theorem dX2_draw_81 : decode cX2_draw 81 = .ok (.aload_n 0, 1) := by decide +kernel
theorem dX2_draw_82 : decode cX2_draw 82 = .ok (.getfield 9, 3) := by decide +kernel
theorem dX2_draw_85 : decode cX2_draw 85 = .ok (.iload_n 2, 1) := by decide +kernel
theorem dX2_draw_86 : decode cX2_draw 86 = .ok (.iconst 0, 1) := by decide +kernel
theorem dX2_draw_87 : decode cX2_draw 87 = .ok (.iastore, 1) := by decide +kernel
theorem dX2_draw_88 : decode cX2_draw 88 = .ok (.iinc 2 1, 3) := by decide +kernel
theorem dX2_draw_91 : decode cX2_draw 91 = .ok (.goto (-27), 3) := by decide +kernel
theorem dX2_draw_94 : decode cX2_draw 94 = .ok (.aload_n 0, 1) := by decide +kernel
theorem dX2_draw_95 : decode cX2_draw 95 = .ok (.getfield 9, 3) := by decide +kernel
theorem dX2_draw_98 : decode cX2_draw 98 = .ok (.aload_n 0, 1) := by decide +kernel
theorem dX2_draw_99 : decode cX2_draw 99 = .ok (.getfield 15, 3) := by decide +kernel
theorem dX2_draw_102 : decode cX2_draw 102 = .ok (.invokestatic 61, 3) := by decide +kernel
theorem dX2_draw_105 : decode cX2_draw 105 = .ok (.iconst 0, 1) := by decide +kernel
theorem dX2_draw_106 : decode cX2_draw 106 = .ok (.istore_n 2, 1) := by decide +kernel
theorem dX2_draw_107 : decode cX2_draw 107 = .ok (.iload_n 2, 1) := by decide +kernel
theorem dX2_draw_108 : decode cX2_draw 108 = .ok (.bipush 16, 2) := by decide +kernel
theorem dX2_draw_110 : decode cX2_draw 110 = .ok (.if_icmp .ge 38, 3) := by decide +kernel
theorem dX2_draw_113 : decode cX2_draw 113 = .ok (.aload_n 0, 1) := by decide +kernel
theorem dX2_draw_114 : decode cX2_draw 114 = .ok (.getfield 18, 3) := by decide +kernel
theorem dX2_draw_117 : decode cX2_draw 117 = .ok (.iload_n 2, 1) := by decide +kernel
theorem dX2_draw_118 : decode cX2_draw 118 = .ok (.aload_n 0, 1) := by decide +kernel
theorem dX2_draw_119 : decode cX2_draw 119 = .ok (.getfield 44, 3) := by decide +kernel
theorem dX2_draw_122 : decode cX2_draw 122 = .ok (.aload_n 0, 1) := by decide +kernel
theorem dX2_draw_123 : decode cX2_draw 123 = .ok (.getfield 44, 3) := by decide +kernel
theorem dX2_draw_126 : decode cX2_draw 126 = .ok (.iconst 1, 1) := by decide +kernel
theorem dX2_draw_127 : decode cX2_draw 127 = .ok (.iand, 1) := by decide +kernel
theorem dX2_draw_128 : decode cX2_draw 128 = .ok (.aload_n 0, 1) := by decide +kernel
theorem dX2_draw_129 : decode cX2_draw 129 = .ok (.getfield 9, 3) := by decide +kernel
theorem dX2_draw_132 : decode cX2_draw 132 = .ok (.iconst 1, 1) := by decide +kernel
theorem dX2_draw_133 : decode cX2_draw 133 = .ok (.iload_n 2, 1) := by decide +kernel
theorem dX2_draw_134 : decode cX2_draw 134 = .ok (.ishl, 1) := by decide +kernel
theorem dX2_draw_135 : decode cX2_draw 135 = .ok (.invokestatic 57, 3) := by decide +kernel
theorem dX2_draw_138 : decode cX2_draw 138 = .ok (.iconst (-1), 1) := by decide +kernel
theorem dX2_draw_139 : decode cX2_draw 139 = .ok (.ixor, 1) := by decide +kernel
theorem dX2_draw_140 : decode cX2_draw 140 = .ok (.iand, 1) := by decide +kernel
theorem dX2_draw_141 : decode cX2_draw 141 = .ok (.iastore, 1) := by decide +kernel
theorem dX2_draw_142 : decode cX2_draw 142 = .ok (.iinc 2 1, 3) := by decide +kernel
theorem dX2_draw_145 : decode cX2_draw 145 = .ok (.goto (-38), 3) := by decide +kernel
theorem dX2_draw_148 : decode cX2_draw 148 = .ok (.aload_n 0, 1) := by decide +kernel
theorem dX2_draw_149 : decode cX2_draw 149 = .ok (.getfield 18, 3) := by decide +kernel
theorem dX2_draw_152 : decode cX2_draw 152 = .ok (.aload_n 0, 1) := by decide +kernel
theorem dX2_draw_153 : decode cX2_draw 153 = .ok (.getfield 21, 3) := by decide +kernel
theorem dX2_draw_156 : decode cX2_draw 156 = .ok (.invokestatic 61, 3) := by decide +kernel
theorem dX2_draw_159 : decode cX2_draw 159 = .ok (.iconst 0, 1) := by decide +kernel
theorem dX2_draw_160 : decode cX2_draw 160 = .ok (.istore_n 2, 1) := by decide +kernel
theorem dX2_draw_161 : decode cX2_draw 161 = .ok (.iload_n 2, 1) := by decide +kernel
theorem dX2_draw_162 : decode cX2_draw 162 = .ok (.bipush 16, 2) := by decide +kernel
theorem dX2_draw_164 : decode cX2_draw 164 = .ok (.if_icmp .ge 31, 3) := by decide +kernel
theorem dX2_draw_167 : decode cX2_draw 167 = .ok (.aload_n 0, 1) := by decide +kernel
theorem dX2_draw_168 : decode cX2_draw 168 = .ok (.getfield 24, 3) := by decide +kernel
theorem dX2_draw_171 : decode cX2_draw 171 = .ok (.iload_n 2, 1) := by decide +kernel
theorem dX2_draw_172 : decode cX2_draw 172 = .ok (.aload_n 0, 1) := by decide +kernel
theorem dX2_draw_173 : decode cX2_draw 173 = .ok (.iload_n 2, 1) := by decide +kernel
theorem dX2_draw_174 : decode cX2_draw 174 = .ok (.invokevirtual 65, 3) := by decide +kernel
theorem dX2_draw_177 : decode cX2_draw 177 = .ok (.iastore, 1) := by decide +kernel
theorem dX2_draw_178 : decode cX2_draw 178 = .ok (.aload_n 0, 1) := by decide +kernel
theorem dX2_draw_179 : decode cX2_draw 179 = .ok (.getfield 27, 3) := by decide +kernel
theorem dX2_draw_182 : decode cX2_draw 182 = .ok (.iload_n 2, 1) := by decide +kernel
theorem dX2_draw_183 : decode cX2_draw 183 = .ok (.aload_n 0, 1) := by decide +kernel
theorem dX2_draw_184 : decode cX2_draw 184 = .ok (.iload_n 2, 1) := by decide +kernel
theorem dX2_draw_185 : decode cX2_draw 185 = .ok (.invokevirtual 68, 3) := by decide +kernel
theorem dX2_draw_188 : decode cX2_draw 188 = .ok (.iastore, 1) := by decide +kernel
theorem dX2_draw_189 : decode cX2_draw 189 = .ok (.iinc 2 1, 3) := by decide +kernel
theorem dX2_draw_192 : decode cX2_draw 192 = .ok (.goto (-31), 3) := by decide +kernel
theorem dX2_draw_195 : decode cX2_draw 195 = .ok (.return_, 1) := by decide +kernel
theorem dX2_parentOf_0 : decode cX2_parentOf 0 = .ok (.aload_n 0, 1) := by decide +kernel
theorem dX2_parentOf_1 : decode cX2_parentOf 1 = .ok (.getfield 21, 3) := by decide +kernel
theorem dX2_parentOf_4 : decode cX2_parentOf 4 = .ok (.iload_n 1, 1) := by decide +kernel
theorem dX2_parentOf_5 : decode cX2_parentOf 5 = .ok (.iaload, 1) := by decide +kernel
theorem dX2_parentOf_6 : decode cX2_parentOf 6 = .ok (.iconst 1, 1) := by decide +kernel
theorem dX2_parentOf_7 : decode cX2_parentOf 7 = .ok (.iload_n 1, 1) := by decide +kernel
theorem dX2_parentOf_8 : decode cX2_parentOf 8 = .ok (.ishl, 1) := by decide +kernel
theorem dX2_parentOf_9 : decode cX2_parentOf 9 = .ok (.iconst (-1), 1) := by decide +kernel
theorem dX2_parentOf_10 : decode cX2_parentOf 10 = .ok (.ixor, 1) := by decide +kernel
theorem dX2_parentOf_11 : decode cX2_parentOf 11 = .ok (.iand, 1) := by decide +kernel
theorem dX2_parentOf_12 : decode cX2_parentOf 12 = .ok (.istore_n 2, 1) := by decide +kernel
theorem dX2_parentOf_13 : decode cX2_parentOf 13 = .ok (.iconst 0, 1) := by decide +kernel
theorem dX2_parentOf_14 : decode cX2_parentOf 14 = .ok (.istore_n 3, 1) := by decide +kernel
theorem dX2_parentOf_15 : decode cX2_parentOf 15 = .ok (.iload_n 3, 1) := by decide +kernel
theorem dX2_parentOf_16 : decode cX2_parentOf 16 = .ok (.bipush 16, 2) := by decide +kernel
theorem dX2_parentOf_18 : decode cX2_parentOf 18 = .ok (.if_icmp .ge 29, 3) := by decide +kernel
theorem dX2_parentOf_21 : decode cX2_parentOf 21 = .ok (.iload_n 2, 1) := by decide +kernel
theorem dX2_parentOf_22 : decode cX2_parentOf 22 = .ok (.iload_n 3, 1) := by decide +kernel
theorem dX2_parentOf_23 : decode cX2_parentOf 23 = .ok (.invokestatic 30, 3) := by decide +kernel
theorem dX2_parentOf_26 : decode cX2_parentOf 26 = .ok (.ifCond .eq 15, 3) := by decide +kernel
theorem dX2_parentOf_29 : decode cX2_parentOf 29 = .ok (.aload_n 0, 1) := by decide +kernel
theorem dX2_parentOf_30 : decode cX2_parentOf 30 = .ok (.getfield 21, 3) := by decide +kernel
theorem dX2_parentOf_33 : decode cX2_parentOf 33 = .ok (.iload_n 3, 1) := by decide +kernel
theorem dX2_parentOf_34 : decode cX2_parentOf 34 = .ok (.iaload, 1) := by decide +kernel
theorem dX2_parentOf_35 : decode cX2_parentOf 35 = .ok (.iload_n 2, 1) := by decide +kernel
theorem dX2_parentOf_36 : decode cX2_parentOf 36 = .ok (.if_icmp .ne 5, 3) := by decide +kernel
theorem dX2_parentOf_39 : decode cX2_parentOf 39 = .ok (.iload_n 3, 1) := by decide +kernel
theorem dX2_parentOf_40 : decode cX2_parentOf 40 = .ok (.ireturn, 1) := by decide +kernel
theorem dX2_parentOf_41 : decode cX2_parentOf 41 = .ok (.iinc 3 1, 3) := by decide +kernel
theorem dX2_parentOf_44 : decode cX2_parentOf 44 = .ok (.goto (-29), 3) := by decide +kernel
theorem dX2_parentOf_47 : decode cX2_parentOf 47 = .ok (.iconst (-1), 1) := by decide +kernel
theorem dX2_parentOf_48 : decode cX2_parentOf 48 = .ok (.ireturn, 1) := by decide +kernel
theorem dX2_frontierOf_0 : decode cX2_frontierOf 0 = .ok (.iconst 0, 1) := by decide +kernel
theorem dX2_frontierOf_1 : decode cX2_frontierOf 1 = .ok (.istore_n 2, 1) := by decide +kernel
theorem dX2_frontierOf_2 : decode cX2_frontierOf 2 = .ok (.iconst 0, 1) := by decide +kernel
theorem dX2_frontierOf_3 : decode cX2_frontierOf 3 = .ok (.istore_n 3, 1) := by decide +kernel
theorem dX2_frontierOf_4 : decode cX2_frontierOf 4 = .ok (.iload_n 3, 1) := by decide +kernel
theorem dX2_frontierOf_5 : decode cX2_frontierOf 5 = .ok (.bipush 16, 2) := by decide +kernel
theorem dX2_frontierOf_7 : decode cX2_frontierOf 7 = .ok (.if_icmp .ge 61, 3) := by decide +kernel
theorem dX2_frontierOf_10 : decode cX2_frontierOf 10 = .ok (.iload_n 1, 1) := by decide +kernel
theorem dX2_frontierOf_11 : decode cX2_frontierOf 11 = .ok (.iload_n 3, 1) := by decide +kernel
theorem dX2_frontierOf_12 : decode cX2_frontierOf 12 = .ok (.if_icmp .eq 20, 3) := by decide +kernel
theorem dX2_frontierOf_15 : decode cX2_frontierOf 15 = .ok (.aload_n 0, 1) := by decide +kernel
theorem dX2_frontierOf_16 : decode cX2_frontierOf 16 = .ok (.getfield 18, 3) := by decide +kernel
theorem dX2_frontierOf_19 : decode cX2_frontierOf 19 = .ok (.iload_n 1, 1) := by decide +kernel
theorem dX2_frontierOf_20 : decode cX2_frontierOf 20 = .ok (.iaload, 1) := by decide +kernel
theorem dX2_frontierOf_21 : decode cX2_frontierOf 21 = .ok (.iload_n 3, 1) := by decide +kernel
theorem dX2_frontierOf_22 : decode cX2_frontierOf 22 = .ok (.invokestatic 30, 3) := by decide +kernel
theorem dX2_frontierOf_25 : decode cX2_frontierOf 25 = .ok (.ifCond .eq 7, 3) := by decide +kernel
theorem dX2_frontierOf_28 : decode cX2_frontierOf 28 = .ok (.iconst 1, 1) := by decide +kernel
theorem dX2_frontierOf_29 : decode cX2_frontierOf 29 = .ok (.goto 4, 3) := by decide +kernel
theorem dX2_frontierOf_32 : decode cX2_frontierOf 32 = .ok (.iconst 0, 1) := by decide +kernel
theorem dX2_frontierOf_33 : decode cX2_frontierOf 33 = .ok (.istore 4, 2) := by decide +kernel
theorem dX2_frontierOf_35 : decode cX2_frontierOf 35 = .ok (.aload_n 0, 1) := by decide +kernel
theorem dX2_frontierOf_36 : decode cX2_frontierOf 36 = .ok (.getfield 18, 3) := by decide +kernel
theorem dX2_frontierOf_39 : decode cX2_frontierOf 39 = .ok (.iload_n 1, 1) := by decide +kernel
theorem dX2_frontierOf_40 : decode cX2_frontierOf 40 = .ok (.iaload, 1) := by decide +kernel
theorem dX2_frontierOf_41 : decode cX2_frontierOf 41 = .ok (.aload_n 0, 1) := by decide +kernel
theorem dX2_frontierOf_42 : decode cX2_frontierOf 42 = .ok (.getfield 15, 3) := by decide +kernel
theorem dX2_frontierOf_45 : decode cX2_frontierOf 45 = .ok (.iload_n 3, 1) := by decide +kernel
theorem dX2_frontierOf_46 : decode cX2_frontierOf 46 = .ok (.iaload, 1) := by decide +kernel
theorem dX2_frontierOf_47 : decode cX2_frontierOf 47 = .ok (.iand, 1) := by decide +kernel
theorem dX2_frontierOf_48 : decode cX2_frontierOf 48 = .ok (.ifCond .eq 14, 3) := by decide +kernel
theorem dX2_frontierOf_51 : decode cX2_frontierOf 51 = .ok (.iload 4, 2) := by decide +kernel
theorem dX2_frontierOf_53 : decode cX2_frontierOf 53 = .ok (.ifCond .ne 9, 3) := by decide +kernel
theorem dX2_frontierOf_56 : decode cX2_frontierOf 56 = .ok (.iload_n 2, 1) := by decide +kernel
theorem dX2_frontierOf_57 : decode cX2_frontierOf 57 = .ok (.iconst 1, 1) := by decide +kernel
theorem dX2_frontierOf_58 : decode cX2_frontierOf 58 = .ok (.iload_n 3, 1) := by decide +kernel
theorem dX2_frontierOf_59 : decode cX2_frontierOf 59 = .ok (.ishl, 1) := by decide +kernel
theorem dX2_frontierOf_60 : decode cX2_frontierOf 60 = .ok (.ior, 1) := by decide +kernel
theorem dX2_frontierOf_61 : decode cX2_frontierOf 61 = .ok (.istore_n 2, 1) := by decide +kernel
theorem dX2_frontierOf_62 : decode cX2_frontierOf 62 = .ok (.iinc 3 1, 3) := by decide +kernel
theorem dX2_frontierOf_65 : decode cX2_frontierOf 65 = .ok (.goto (-61), 3) := by decide +kernel
theorem dX2_frontierOf_68 : decode cX2_frontierOf 68 = .ok (.iload_n 2, 1) := by decide +kernel
theorem dX2_frontierOf_69 : decode cX2_frontierOf 69 = .ok (.ireturn, 1) := by decide +kernel
theorem dX3_init_0 : decode cX3_init 0 = .ok (.aload_n 0, 1) := by decide +kernel
theorem dX3_init_1 : decode cX3_init 1 = .ok (.invokespecial 3, 3) := by decide +kernel
theorem dX3_init_4 : decode cX3_init 4 = .ok (.aload_n 0, 1) := by decide +kernel
theorem dX3_init_5 : decode cX3_init 5 = .ok (.sipush 261, 3) := by decide +kernel
theorem dX3_init_8 : decode cX3_init 8 = .ok (.newarray .boolean, 2) := by decide +kernel
theorem dX3_init_10 : decode cX3_init 10 = .ok (.putfield 9, 3) := by decide +kernel
theorem dX3_init_13 : decode cX3_init 13 = .ok (.aload_n 0, 1) := by decide +kernel
theorem dX3_init_14 : decode cX3_init 14 = .ok (.new 15, 3) := by decide +kernel
theorem dX3_init_17 : decode cX3_init 17 = .ok (.dup, 1) := by decide +kernel
theorem dX3_init_18 : decode cX3_init 18 = .ok (.invokespecial 17, 3) := by decide +kernel
theorem dX3_init_21 : decode cX3_init 21 = .ok (.putfield 18, 3) := by decide +kernel
theorem dX3_init_24 : decode cX3_init 24 = .ok (.return_, 1) := by decide +kernel
theorem dX3_lead_0 : decode cX3_lead 0 = .ok (.aload_n 0, 1) := by decide +kernel
theorem dX3_lead_1 : decode cX3_lead 1 = .ok (.iconst 0, 1) := by decide +kernel
theorem dX3_lead_2 : decode cX3_lead 2 = .ok (.putfield 22, 3) := by decide +kernel
theorem dX3_lead_5 : decode cX3_lead 5 = .ok (.iconst 0, 1) := by decide +kernel
theorem dX3_lead_6 : decode cX3_lead 6 = .ok (.istore 5, 2) := by decide +kernel
theorem dX3_lead_8 : decode cX3_lead 8 = .ok (.iload 5, 2) := by decide +kernel
theorem dX3_lead_10 : decode cX3_lead 10 = .ok (.aload_n 3, 1) := by decide +kernel
theorem dX3_lead_11 : decode cX3_lead 11 = .ok (.getfield 26, 3) := by decide +kernel
theorem dX3_lead_14 : decode cX3_lead 14 = .ok (.if_icmp .ge 49, 3) := by decide +kernel
theorem dX3_lead_17 : decode cX3_lead 17 = .ok (.aload_n 0, 1) := by decide +kernel
theorem dX3_lead_18 : decode cX3_lead 18 = .ok (.getfield 9, 3) := by decide +kernel
theorem dX3_lead_21 : decode cX3_lead 21 = .ok (.iload 5, 2) := by decide +kernel
theorem dX3_lead_23 : decode cX3_lead 23 = .ok (.aload_n 2, 1) := by decide +kernel
theorem dX3_lead_24 : decode cX3_lead 24 = .ok (.aload_n 3, 1) := by decide +kernel
theorem dX3_lead_25 : decode cX3_lead 25 = .ok (.aload 4, 2) := by decide +kernel
theorem dX3_lead_27 : decode cX3_lead 27 = .ok (.iload 5, 2) := by decide +kernel
theorem dX3_lead_29 : decode cX3_lead 29 = .ok (.invokestatic 31, 3) := by decide +kernel
theorem dX3_lead_32 : decode cX3_lead 32 = .ok (.bastore, 1) := by decide +kernel
theorem dX3_lead_33 : decode cX3_lead 33 = .ok (.aload_n 0, 1) := by decide +kernel
theorem dX3_lead_34 : decode cX3_lead 34 = .ok (.dup, 1) := by decide +kernel
theorem dX3_lead_35 : decode cX3_lead 35 = .ok (.getfield 22, 3) := by decide +kernel
theorem dX3_lead_38 : decode cX3_lead 38 = .ok (.aload_n 0, 1) := by decide +kernel
theorem dX3_lead_39 : decode cX3_lead 39 = .ok (.getfield 9, 3) := by decide +kernel
theorem dX3_lead_42 : decode cX3_lead 42 = .ok (.iload 5, 2) := by decide +kernel
theorem dX3_lead_44 : decode cX3_lead 44 = .ok (.baload, 1) := by decide +kernel
theorem dX3_lead_45 : decode cX3_lead 45 = .ok (.ifCond .eq 7, 3) := by decide +kernel
theorem dX3_lead_48 : decode cX3_lead 48 = .ok (.iconst 1, 1) := by decide +kernel
theorem dX3_lead_49 : decode cX3_lead 49 = .ok (.goto 4, 3) := by decide +kernel
theorem dX3_lead_52 : decode cX3_lead 52 = .ok (.iconst 0, 1) := by decide +kernel
theorem dX3_lead_53 : decode cX3_lead 53 = .ok (.iadd, 1) := by decide +kernel
theorem dX3_lead_54 : decode cX3_lead 54 = .ok (.putfield 22, 3) := by decide +kernel
theorem dX3_lead_57 : decode cX3_lead 57 = .ok (.iinc 5 1, 3) := by decide +kernel
theorem dX3_lead_60 : decode cX3_lead 60 = .ok (.goto (-52), 3) := by decide +kernel
theorem dX3_lead_63 : decode cX3_lead 63 = .ok (.iconst 0, 1) := by decide +kernel
theorem dX3_lead_64 : decode cX3_lead 64 = .ok (.istore 5, 2) := by decide +kernel
theorem dX3_lead_66 : decode cX3_lead 66 = .ok (.iload 5, 2) := by decide +kernel
theorem dX3_lead_68 : decode cX3_lead 68 = .ok (.aload_n 3, 1) := by decide +kernel
theorem dX3_lead_69 : decode cX3_lead 69 = .ok (.getfield 26, 3) := by decide +kernel
theorem dX3_lead_72 : decode cX3_lead 72 = .ok (.if_icmp .ge 29, 3) := by decide +kernel
theorem dX3_lead_75 : decode cX3_lead 75 = .ok (.aload_n 0, 1) := by decide +kernel
theorem dX3_lead_76 : decode cX3_lead 76 = .ok (.getfield 9, 3) := by decide +kernel
theorem dX3_lead_79 : decode cX3_lead 79 = .ok (.iload 5, 2) := by decide +kernel
theorem dX3_lead_81 : decode cX3_lead 81 = .ok (.baload, 1) := by decide +kernel
theorem dX3_lead_82 : decode cX3_lead 82 = .ok (.ifCond .ne 13, 3) := by decide +kernel
theorem dX3_lead_85 : decode cX3_lead 85 = .ok (.aload_n 0, 1) := by decide +kernel
theorem dX3_lead_86 : decode cX3_lead 86 = .ok (.aload_n 2, 1) := by decide +kernel
theorem dX3_lead_87 : decode cX3_lead 87 = .ok (.aload_n 3, 1) := by decide +kernel
theorem dX3_lead_88 : decode cX3_lead 88 = .ok (.aload 4, 2) := by decide +kernel
theorem dX3_lead_90 : decode cX3_lead 90 = .ok (.iload 5, 2) := by decide +kernel
theorem dX3_lead_92 : decode cX3_lead 92 = .ok (.invokevirtual 35, 3) := by decide +kernel
theorem dX3_lead_95 : decode cX3_lead 95 = .ok (.iinc 5 1, 3) := by decide +kernel
theorem dX3_lead_98 : decode cX3_lead 98 = .ok (.goto (-32), 3) := by decide +kernel
theorem dX3_lead_101 : decode cX3_lead 101 = .ok (.iconst 0, 1) := by decide +kernel
theorem dX3_lead_102 : decode cX3_lead 102 = .ok (.istore 5, 2) := by decide +kernel
theorem dX3_lead_104 : decode cX3_lead 104 = .ok (.iload 5, 2) := by decide +kernel
theorem dX3_lead_106 : decode cX3_lead 106 = .ok (.bipush 16, 2) := by decide +kernel
theorem dX3_lead_108 : decode cX3_lead 108 = .ok (.if_icmp .ge 73, 3) := by decide +kernel
theorem dX3_lead_111 : decode cX3_lead 111 = .ok (.aload_n 2, 1) := by decide +kernel
theorem dX3_lead_112 : decode cX3_lead 112 = .ok (.iload 5, 2) := by decide +kernel
theorem dX3_lead_114 : decode cX3_lead 114 = .ok (.invokevirtual 39, 3) := by decide +kernel
theorem dX3_lead_117 : decode cX3_lead 117 = .ok (.ifCond .eq 58, 3) := by decide +kernel
theorem dX3_lead_120 : decode cX3_lead 120 = .ok (.aload_n 0, 1) := by decide +kernel
theorem dX3_lead_121 : decode cX3_lead 121 = .ok (.aload_n 1, 1) := by decide +kernel
theorem dX3_lead_122 : decode cX3_lead 122 = .ok (.aload_n 2, 1) := by decide +kernel
theorem dX3_lead_123 : decode cX3_lead 123 = .ok (.aload_n 3, 1) := by decide +kernel
theorem dX3_lead_124 : decode cX3_lead 124 = .ok (.aload 4, 2) := by decide +kernel
theorem dX3_lead_126 : decode cX3_lead 126 = .ok (.iload 5, 2) := by decide +kernel
theorem dX3_lead_128 : decode cX3_lead 128 = .ok (.invokevirtual 45, 3) := by decide +kernel
theorem dX3_lead_131 : decode cX3_lead 131 = .ok (.aload_n 3, 1) := by decide +kernel
theorem dX3_lead_132 : decode cX3_lead 132 = .ok (.getfield 49, 3) := by decide +kernel
theorem dX3_lead_135 : decode cX3_lead 135 = .ok (.getfield 50, 3) := by decide +kernel
theorem dX3_lead_138 : decode cX3_lead 138 = .ok (.iload 5, 2) := by decide +kernel
theorem dX3_lead_140 : decode cX3_lead 140 = .ok (.iaload, 1) := by decide +kernel
theorem dX3_lead_141 : decode cX3_lead 141 = .ok (.istore 6, 2) := by decide +kernel
theorem dX3_lead_143 : decode cX3_lead 143 = .ok (.aload_n 0, 1) := by decide +kernel
theorem dX3_lead_144 : decode cX3_lead 144 = .ok (.getfield 18, 3) := by decide +kernel
theorem dX3_lead_147 : decode cX3_lead 147 = .ok (.getfield 50, 3) := by decide +kernel
theorem dX3_lead_150 : decode cX3_lead 150 = .ok (.iload 5, 2) := by decide +kernel
theorem dX3_lead_152 : decode cX3_lead 152 = .ok (.iload 6, 2) := by decide +kernel
theorem dX3_lead_154 : decode cX3_lead 154 = .ok (.iconst (-1), 1) := by decide +kernel
theorem dX3_lead_155 : decode cX3_lead 155 = .ok (.if_icmp .ne 7, 3) := by decide +kernel
theorem dX3_lead_158 : decode cX3_lead 158 = .ok (.iconst (-1), 1) := by decide +kernel
theorem dX3_lead_159 : decode cX3_lead 159 = .ok (.goto 15, 3) := by decide +kernel
theorem dX3_lead_162 : decode cX3_lead 162 = .ok (.aload_n 0, 1) := by decide +kernel
theorem dX3_lead_163 : decode cX3_lead 163 = .ok (.aload_n 2, 1) := by decide +kernel
theorem dX3_lead_164 : decode cX3_lead 164 = .ok (.aload_n 3, 1) := by decide +kernel
theorem dX3_lead_165 : decode cX3_lead 165 = .ok (.aload 4, 2) := by decide +kernel
theorem dX3_lead_167 : decode cX3_lead 167 = .ok (.iload 6, 2) := by decide +kernel
theorem dX3_lead_169 : decode cX3_lead 169 = .ok (.iload 5, 2) := by decide +kernel
theorem dX3_lead_171 : decode cX3_lead 171 = .ok (.invokevirtual 54, 3) := by decide +kernel
theorem dX3_lead_174 : decode cX3_lead 174 = .ok (.iastore, 1) := by decide +kernel
theorem dX3_lead_175 : decode cX3_lead 175 = .ok (.iinc 5 1, 3) := by decide +kernel
theorem dX3_lead_178 : decode cX3_lead 178 = .ok (.goto (-74), 3) := by decide +kernel
theorem dX3_lead_181 : decode cX3_lead 181 = .ok (.return_, 1) := by decide +kernel
theorem dX3_isLed_0 : decode cX3_isLed 0 = .ok (.aload_n 2, 1) := by decide +kernel
theorem dX3_isLed_1 : decode cX3_isLed 1 = .ok (.getfield 58, 3) := by decide +kernel
theorem dX3_isLed_4 : decode cX3_isLed 4 = .ok (.iload_n 3, 1) := by decide +kernel
theorem dX3_isLed_5 : decode cX3_isLed 5 = .ok (.iaload, 1) := by decide +kernel
theorem dX3_isLed_6 : decode cX3_isLed 6 = .ok (.istore 4, 2) := by decide +kernel
theorem dX3_isLed_8 : decode cX3_isLed 8 = .ok (.aload_n 1, 1) := by decide +kernel
theorem dX3_isLed_9 : decode cX3_isLed 9 = .ok (.getfield 63, 3) := by decide +kernel
theorem dX3_isLed_12 : decode cX3_isLed 12 = .ok (.iload_n 3, 1) := by decide +kernel
theorem dX3_isLed_13 : decode cX3_isLed 13 = .ok (.iaload, 1) := by decide +kernel
theorem dX3_isLed_14 : decode cX3_isLed 14 = .ok (.istore 5, 2) := by decide +kernel
theorem dX3_isLed_16 : decode cX3_isLed 16 = .ok (.iload 4, 2) := by decide +kernel
theorem dX3_isLed_18 : decode cX3_isLed 18 = .ok (.istore 6, 2) := by decide +kernel
theorem dX3_isLed_20 : decode cX3_isLed 20 = .ok (.iload 6, 2) := by decide +kernel
theorem dX3_isLed_22 : decode cX3_isLed 22 = .ok (.aload_n 1, 1) := by decide +kernel
theorem dX3_isLed_23 : decode cX3_isLed 23 = .ok (.getfield 26, 3) := by decide +kernel
theorem dX3_isLed_26 : decode cX3_isLed 26 = .ok (.if_icmp .ge 64, 3) := by decide +kernel
theorem dX3_isLed_29 : decode cX3_isLed 29 = .ok (.aload_n 2, 1) := by decide +kernel
theorem dX3_isLed_30 : decode cX3_isLed 30 = .ok (.getfield 58, 3) := by decide +kernel
theorem dX3_isLed_33 : decode cX3_isLed 33 = .ok (.iload 6, 2) := by decide +kernel
theorem dX3_isLed_35 : decode cX3_isLed 35 = .ok (.iaload, 1) := by decide +kernel
theorem dX3_isLed_36 : decode cX3_isLed 36 = .ok (.iload 4, 2) := by decide +kernel
theorem dX3_isLed_38 : decode cX3_isLed 38 = .ok (.if_icmp .ne 46, 3) := by decide +kernel
theorem dX3_isLed_41 : decode cX3_isLed 41 = .ok (.aload_n 1, 1) := by decide +kernel
theorem dX3_isLed_42 : decode cX3_isLed 42 = .ok (.getfield 63, 3) := by decide +kernel
theorem dX3_isLed_45 : decode cX3_isLed 45 = .ok (.iload 6, 2) := by decide +kernel
theorem dX3_isLed_47 : decode cX3_isLed 47 = .ok (.iaload, 1) := by decide +kernel
theorem dX3_isLed_48 : decode cX3_isLed 48 = .ok (.iload 5, 2) := by decide +kernel
theorem dX3_isLed_50 : decode cX3_isLed 50 = .ok (.if_icmp .ne 12, 3) := by decide +kernel
theorem dX3_isLed_53 : decode cX3_isLed 53 = .ok (.iload 6, 2) := by decide +kernel
theorem dX3_isLed_55 : decode cX3_isLed 55 = .ok (.iload_n 3, 1) := by decide +kernel
theorem dX3_isLed_56 : decode cX3_isLed 56 = .ok (.if_icmp .ge 28, 3) := by decide +kernel
theorem dX3_isLed_59 : decode cX3_isLed 59 = .ok (.goto 23, 3) := by decide +kernel
theorem dX3_isLed_62 : decode cX3_isLed 62 = .ok (.aload_n 0, 1) := by decide +kernel
theorem dX3_isLed_63 : decode cX3_isLed 63 = .ok (.getfield 66, 3) := by decide +kernel
theorem dX3_isLed_66 : decode cX3_isLed 66 = .ok (.aload_n 1, 1) := by decide +kernel
theorem dX3_isLed_67 : decode cX3_isLed 67 = .ok (.getfield 63, 3) := by decide +kernel
theorem dX3_isLed_70 : decode cX3_isLed 70 = .ok (.iload 6, 2) := by decide +kernel
theorem dX3_isLed_72 : decode cX3_isLed 72 = .ok (.iaload, 1) := by decide +kernel
theorem dX3_isLed_73 : decode cX3_isLed 73 = .ok (.iaload, 1) := by decide +kernel
theorem dX3_isLed_74 : decode cX3_isLed 74 = .ok (.iload 5, 2) := by decide +kernel
theorem dX3_isLed_76 : decode cX3_isLed 76 = .ok (.invokestatic 69, 3) := by decide +kernel
theorem dX3_isLed_79 : decode cX3_isLed 79 = .ok (.ifCond .eq 5, 3) := by decide +kernel
theorem dX3_isLed_82 : decode cX3_isLed 82 = .ok (.iconst 1, 1) := by decide +kernel
theorem dX3_isLed_83 : decode cX3_isLed 83 = .ok (.ireturn, 1) := by decide +kernel
theorem dX3_isLed_84 : decode cX3_isLed 84 = .ok (.iinc 6 1, 3) := by decide +kernel
theorem dX3_isLed_87 : decode cX3_isLed 87 = .ok (.goto (-67), 3) := by decide +kernel
theorem dX3_isLed_90 : decode cX3_isLed 90 = .ok (.iconst 0, 1) := by decide +kernel
theorem dX3_isLed_91 : decode cX3_isLed 91 = .ok (.ireturn, 1) := by decide +kernel
theorem dX3_leader_0 : decode cX3_leader 0 = .ok (.aload_n 3, 1) := by decide +kernel
theorem dX3_leader_1 : decode cX3_leader 1 = .ok (.getfield 58, 3) := by decide +kernel
theorem dX3_leader_4 : decode cX3_leader 4 = .ok (.iload 4, 2) := by decide +kernel
theorem dX3_leader_6 : decode cX3_leader 6 = .ok (.iaload, 1) := by decide +kernel
theorem dX3_leader_7 : decode cX3_leader 7 = .ok (.istore 6, 2) := by decide +kernel
theorem dX3_leader_9 : decode cX3_leader 9 = .ok (.iload 6, 2) := by decide +kernel
theorem dX3_leader_11 : decode cX3_leader 11 = .ok (.istore 7, 2) := by decide +kernel
theorem dX3_leader_13 : decode cX3_leader 13 = .ok (.iload 7, 2) := by decide +kernel
theorem dX3_leader_15 : decode cX3_leader 15 = .ok (.aload_n 2, 1) := by decide +kernel
theorem dX3_leader_16 : decode cX3_leader 16 = .ok (.getfield 26, 3) := by decide +kernel
theorem dX3_leader_19 : decode cX3_leader 19 = .ok (.if_icmp .ge 54, 3) := by decide +kernel
theorem dX3_leader_22 : decode cX3_leader 22 = .ok (.aload_n 3, 1) := by decide +kernel
theorem dX3_leader_23 : decode cX3_leader 23 = .ok (.getfield 58, 3) := by decide +kernel
theorem dX3_leader_26 : decode cX3_leader 26 = .ok (.iload 7, 2) := by decide +kernel
theorem dX3_leader_28 : decode cX3_leader 28 = .ok (.iaload, 1) := by decide +kernel
theorem dX3_leader_29 : decode cX3_leader 29 = .ok (.iload 6, 2) := by decide +kernel
theorem dX3_leader_31 : decode cX3_leader 31 = .ok (.if_icmp .ne 36, 3) := by decide +kernel
theorem dX3_leader_34 : decode cX3_leader 34 = .ok (.aload_n 0, 1) := by decide +kernel
theorem dX3_leader_35 : decode cX3_leader 35 = .ok (.getfield 9, 3) := by decide +kernel
theorem dX3_leader_38 : decode cX3_leader 38 = .ok (.iload 7, 2) := by decide +kernel
theorem dX3_leader_40 : decode cX3_leader 40 = .ok (.baload, 1) := by decide +kernel
theorem dX3_leader_41 : decode cX3_leader 41 = .ok (.ifCond .ne 26, 3) := by decide +kernel
theorem dX3_leader_44 : decode cX3_leader 44 = .ok (.aload_n 1, 1) := by decide +kernel
theorem dX3_leader_45 : decode cX3_leader 45 = .ok (.getfield 66, 3) := by decide +kernel
theorem dX3_leader_48 : decode cX3_leader 48 = .ok (.aload_n 2, 1) := by decide +kernel
theorem dX3_leader_49 : decode cX3_leader 49 = .ok (.getfield 63, 3) := by decide +kernel
theorem dX3_leader_52 : decode cX3_leader 52 = .ok (.iload 7, 2) := by decide +kernel
theorem dX3_leader_54 : decode cX3_leader 54 = .ok (.iaload, 1) := by decide +kernel
theorem dX3_leader_55 : decode cX3_leader 55 = .ok (.iaload, 1) := by decide +kernel
theorem dX3_leader_56 : decode cX3_leader 56 = .ok (.iload 5, 2) := by decide +kernel
theorem dX3_leader_58 : decode cX3_leader 58 = .ok (.invokestatic 69, 3) := by decide +kernel
theorem dX3_leader_61 : decode cX3_leader 61 = .ok (.ifCond .eq 6, 3) := by decide +kernel
theorem dX3_leader_64 : decode cX3_leader 64 = .ok (.iload 7, 2) := by decide +kernel
theorem dX3_leader_66 : decode cX3_leader 66 = .ok (.ireturn, 1) := by decide +kernel
theorem dX3_leader_67 : decode cX3_leader 67 = .ok (.iinc 7 1, 3) := by decide +kernel
theorem dX3_leader_70 : decode cX3_leader 70 = .ok (.goto (-57), 3) := by decide +kernel
theorem dX3_leader_73 : decode cX3_leader 73 = .ok (.iload 4, 2) := by decide +kernel
theorem dX3_leader_75 : decode cX3_leader 75 = .ok (.ireturn, 1) := by decide +kernel
theorem dX3_leadOperands_0 : decode cX3_leadOperands 0 = .ok (.aload_n 2, 1) := by decide +kernel
theorem dX3_leadOperands_1 : decode cX3_leadOperands 1 = .ok (.getfield 63, 3) := by decide +kernel
theorem dX3_leadOperands_4 : decode cX3_leadOperands 4 = .ok (.iload 4, 2) := by decide +kernel
theorem dX3_leadOperands_6 : decode cX3_leadOperands 6 = .ok (.iaload, 1) := by decide +kernel
theorem dX3_leadOperands_7 : decode cX3_leadOperands 7 = .ok (.istore 5, 2) := by decide +kernel
theorem dX3_leadOperands_9 : decode cX3_leadOperands 9 = .ok (.aload_n 2, 1) := by decide +kernel
theorem dX3_leadOperands_10 : decode cX3_leadOperands 10 = .ok (.getfield 73, 3) := by decide +kernel
theorem dX3_leadOperands_13 : decode cX3_leadOperands 13 = .ok (.iload 4, 2) := by decide +kernel
theorem dX3_leadOperands_15 : decode cX3_leadOperands 15 = .ok (.iaload, 1) := by decide +kernel
theorem dX3_leadOperands_16 : decode cX3_leadOperands 16 = .ok (.istore 6, 2) := by decide +kernel
theorem dX3_leadOperands_18 : decode cX3_leadOperands 18 = .ok (.iconst 0, 1) := by decide +kernel
theorem dX3_leadOperands_19 : decode cX3_leadOperands 19 = .ok (.istore 7, 2) := by decide +kernel
theorem dX3_leadOperands_21 : decode cX3_leadOperands 21 = .ok (.iload 7, 2) := by decide +kernel
theorem dX3_leadOperands_23 : decode cX3_leadOperands 23 = .ok (.aload_n 2, 1) := by decide +kernel
theorem dX3_leadOperands_24 : decode cX3_leadOperands 24 = .ok (.iload 4, 2) := by decide +kernel
theorem dX3_leadOperands_26 : decode cX3_leadOperands 26 = .ok (.invokevirtual 76, 3) := by decide +kernel
theorem dX3_leadOperands_29 : decode cX3_leadOperands 29 = .ok (.if_icmp .ge 92, 3) := by decide +kernel
theorem dX3_leadOperands_32 : decode cX3_leadOperands 32 = .ok (.iload 5, 2) := by decide +kernel
theorem dX3_leadOperands_34 : decode cX3_leadOperands 34 = .ok (.istore 8, 2) := by decide +kernel
theorem dX3_leadOperands_36 : decode cX3_leadOperands 36 = .ok (.aload_n 2, 1) := by decide +kernel
theorem dX3_leadOperands_37 : decode cX3_leadOperands 37 = .ok (.getfield 80, 3) := by decide +kernel
theorem dX3_leadOperands_40 : decode cX3_leadOperands 40 = .ok (.iload 4, 2) := by decide +kernel
theorem dX3_leadOperands_42 : decode cX3_leadOperands 42 = .ok (.iaload, 1) := by decide +kernel
theorem dX3_leadOperands_43 : decode cX3_leadOperands 43 = .ok (.bipush 15, 2) := by decide +kernel
theorem dX3_leadOperands_45 : decode cX3_leadOperands 45 = .ok (.if_icmp .ne 31, 3) := by decide +kernel
theorem dX3_leadOperands_48 : decode cX3_leadOperands 48 = .ok (.aload_n 1, 1) := by decide +kernel
theorem dX3_leadOperands_49 : decode cX3_leadOperands 49 = .ok (.getfield 83, 3) := by decide +kernel
theorem dX3_leadOperands_52 : decode cX3_leadOperands 52 = .ok (.iload 5, 2) := by decide +kernel
theorem dX3_leadOperands_54 : decode cX3_leadOperands 54 = .ok (.iaload, 1) := by decide +kernel
theorem dX3_leadOperands_55 : decode cX3_leadOperands 55 = .ok (.iload 7, 2) := by decide +kernel
theorem dX3_leadOperands_57 : decode cX3_leadOperands 57 = .ok (.invokestatic 86, 3) := by decide +kernel
theorem dX3_leadOperands_60 : decode cX3_leadOperands 60 = .ok (.istore 9, 2) := by decide +kernel
theorem dX3_leadOperands_62 : decode cX3_leadOperands 62 = .ok (.iload 9, 2) := by decide +kernel
theorem dX3_leadOperands_64 : decode cX3_leadOperands 64 = .ok (.iconst (-1), 1) := by decide +kernel
theorem dX3_leadOperands_65 : decode cX3_leadOperands 65 = .ok (.if_icmp .ne 7, 3) := by decide +kernel
theorem dX3_leadOperands_68 : decode cX3_leadOperands 68 = .ok (.iconst 0, 1) := by decide +kernel
theorem dX3_leadOperands_69 : decode cX3_leadOperands 69 = .ok (.goto 5, 3) := by decide +kernel
theorem dX3_leadOperands_72 : decode cX3_leadOperands 72 = .ok (.iload 9, 2) := by decide +kernel
theorem dX3_leadOperands_74 : decode cX3_leadOperands 74 = .ok (.istore 8, 2) := by decide +kernel
theorem dX3_leadOperands_76 : decode cX3_leadOperands 76 = .ok (.aload_n 2, 1) := by decide +kernel
theorem dX3_leadOperands_77 : decode cX3_leadOperands 77 = .ok (.getfield 49, 3) := by decide +kernel
theorem dX3_leadOperands_80 : decode cX3_leadOperands 80 = .ok (.getfield 90, 3) := by decide +kernel
theorem dX3_leadOperands_83 : decode cX3_leadOperands 83 = .ok (.iload 6, 2) := by decide +kernel
theorem dX3_leadOperands_85 : decode cX3_leadOperands 85 = .ok (.iload 7, 2) := by decide +kernel
theorem dX3_leadOperands_87 : decode cX3_leadOperands 87 = .ok (.iadd, 1) := by decide +kernel
theorem dX3_leadOperands_88 : decode cX3_leadOperands 88 = .ok (.iaload, 1) := by decide +kernel
theorem dX3_leadOperands_89 : decode cX3_leadOperands 89 = .ok (.istore 9, 2) := by decide +kernel
theorem dX3_leadOperands_91 : decode cX3_leadOperands 91 = .ok (.aload_n 0, 1) := by decide +kernel
theorem dX3_leadOperands_92 : decode cX3_leadOperands 92 = .ok (.getfield 18, 3) := by decide +kernel
theorem dX3_leadOperands_95 : decode cX3_leadOperands 95 = .ok (.getfield 90, 3) := by decide +kernel
theorem dX3_leadOperands_98 : decode cX3_leadOperands 98 = .ok (.iload 6, 2) := by decide +kernel
theorem dX3_leadOperands_100 : decode cX3_leadOperands 100 = .ok (.iload 7, 2) := by decide +kernel
theorem dX3_leadOperands_102 : decode cX3_leadOperands 102 = .ok (.iadd, 1) := by decide +kernel
theorem dX3_leadOperands_103 : decode cX3_leadOperands 103 = .ok (.aload_n 0, 1) := by decide +kernel
theorem dX3_leadOperands_104 : decode cX3_leadOperands 104 = .ok (.aload_n 1, 1) := by decide +kernel
theorem dX3_leadOperands_105 : decode cX3_leadOperands 105 = .ok (.aload_n 2, 1) := by decide +kernel
theorem dX3_leadOperands_106 : decode cX3_leadOperands 106 = .ok (.aload_n 3, 1) := by decide +kernel
theorem dX3_leadOperands_107 : decode cX3_leadOperands 107 = .ok (.iload 9, 2) := by decide +kernel
theorem dX3_leadOperands_109 : decode cX3_leadOperands 109 = .ok (.iload 8, 2) := by decide +kernel
theorem dX3_leadOperands_111 : decode cX3_leadOperands 111 = .ok (.invokevirtual 54, 3) := by decide +kernel
theorem dX3_leadOperands_114 : decode cX3_leadOperands 114 = .ok (.iastore, 1) := by decide +kernel
theorem dX3_leadOperands_115 : decode cX3_leadOperands 115 = .ok (.iinc 7 1, 3) := by decide +kernel
theorem dX3_leadOperands_118 : decode cX3_leadOperands 118 = .ok (.goto (-97), 3) := by decide +kernel
theorem dX3_leadOperands_121 : decode cX3_leadOperands 121 = .ok (.return_, 1) := by decide +kernel
theorem dX3_leadEmits_0 : decode cX3_leadEmits 0 = .ok (.aload_n 1, 1) := by decide +kernel
theorem dX3_leadEmits_1 : decode cX3_leadEmits 1 = .ok (.getfield 93, 3) := by decide +kernel
theorem dX3_leadEmits_4 : decode cX3_leadEmits 4 = .ok (.iload 5, 2) := by decide +kernel
theorem dX3_leadEmits_6 : decode cX3_leadEmits 6 = .ok (.iaload, 1) := by decide +kernel
theorem dX3_leadEmits_7 : decode cX3_leadEmits 7 = .ok (.istore 6, 2) := by decide +kernel
theorem dX3_leadEmits_9 : decode cX3_leadEmits 9 = .ok (.iload 6, 2) := by decide +kernel
theorem dX3_leadEmits_11 : decode cX3_leadEmits 11 = .ok (.aload_n 1, 1) := by decide +kernel
theorem dX3_leadEmits_12 : decode cX3_leadEmits 12 = .ok (.getfield 93, 3) := by decide +kernel
theorem dX3_leadEmits_15 : decode cX3_leadEmits 15 = .ok (.iload 5, 2) := by decide +kernel
theorem dX3_leadEmits_17 : decode cX3_leadEmits 17 = .ok (.iconst 1, 1) := by decide +kernel
theorem dX3_leadEmits_18 : decode cX3_leadEmits 18 = .ok (.iadd, 1) := by decide +kernel
theorem dX3_leadEmits_19 : decode cX3_leadEmits 19 = .ok (.iaload, 1) := by decide +kernel
theorem dX3_leadEmits_20 : decode cX3_leadEmits 20 = .ok (.if_icmp .ge 51, 3) := by decide +kernel
theorem dX3_leadEmits_23 : decode cX3_leadEmits 23 = .ok (.aload_n 1, 1) := by decide +kernel
theorem dX3_leadEmits_24 : decode cX3_leadEmits 24 = .ok (.getfield 98, 3) := by decide +kernel
theorem dX3_leadEmits_27 : decode cX3_leadEmits 27 = .ok (.iload 6, 2) := by decide +kernel
theorem dX3_leadEmits_29 : decode cX3_leadEmits 29 = .ok (.iaload, 1) := by decide +kernel
theorem dX3_leadEmits_30 : decode cX3_leadEmits 30 = .ok (.bipush 14, 2) := by decide +kernel
theorem dX3_leadEmits_32 : decode cX3_leadEmits 32 = .ok (.if_icmp .ne 33, 3) := by decide +kernel
theorem dX3_leadEmits_35 : decode cX3_leadEmits 35 = .ok (.aload_n 0, 1) := by decide +kernel
theorem dX3_leadEmits_36 : decode cX3_leadEmits 36 = .ok (.getfield 18, 3) := by decide +kernel
theorem dX3_leadEmits_39 : decode cX3_leadEmits 39 = .ok (.getfield 99, 3) := by decide +kernel
theorem dX3_leadEmits_42 : decode cX3_leadEmits 42 = .ok (.iload 6, 2) := by decide +kernel
theorem dX3_leadEmits_44 : decode cX3_leadEmits 44 = .ok (.aload_n 0, 1) := by decide +kernel
theorem dX3_leadEmits_45 : decode cX3_leadEmits 45 = .ok (.aload_n 2, 1) := by decide +kernel
theorem dX3_leadEmits_46 : decode cX3_leadEmits 46 = .ok (.aload_n 3, 1) := by decide +kernel
theorem dX3_leadEmits_47 : decode cX3_leadEmits 47 = .ok (.aload 4, 2) := by decide +kernel
theorem dX3_leadEmits_49 : decode cX3_leadEmits 49 = .ok (.aload_n 3, 1) := by decide +kernel
theorem dX3_leadEmits_50 : decode cX3_leadEmits 50 = .ok (.getfield 49, 3) := by decide +kernel
theorem dX3_leadEmits_53 : decode cX3_leadEmits 53 = .ok (.getfield 99, 3) := by decide +kernel
theorem dX3_leadEmits_56 : decode cX3_leadEmits 56 = .ok (.iload 6, 2) := by decide +kernel
theorem dX3_leadEmits_58 : decode cX3_leadEmits 58 = .ok (.iaload, 1) := by decide +kernel
theorem dX3_leadEmits_59 : decode cX3_leadEmits 59 = .ok (.iload 5, 2) := by decide +kernel
theorem dX3_leadEmits_61 : decode cX3_leadEmits 61 = .ok (.invokevirtual 54, 3) := by decide +kernel
theorem dX3_leadEmits_64 : decode cX3_leadEmits 64 = .ok (.iastore, 1) := by decide +kernel
theorem dX3_leadEmits_65 : decode cX3_leadEmits 65 = .ok (.iinc 6 1, 3) := by decide +kernel
theorem dX3_leadEmits_68 : decode cX3_leadEmits 68 = .ok (.goto (-59), 3) := by decide +kernel
theorem dX3_leadEmits_71 : decode cX3_leadEmits 71 = .ok (.return_, 1) := by decide +kernel
theorem dX4_init_0 : decode cX4_init 0 = .ok (.aload_n 0, 1) := by decide +kernel
theorem dX4_init_1 : decode cX4_init 1 = .ok (.invokespecial 3, 3) := by decide +kernel
theorem dX4_init_4 : decode cX4_init 4 = .ok (.aload_n 0, 1) := by decide +kernel
theorem dX4_init_5 : decode cX4_init 5 = .ok (.iconst 4, 1) := by decide +kernel
theorem dX4_init_6 : decode cX4_init 6 = .ok (.newarray .int, 2) := by decide +kernel
theorem dX4_init_8 : decode cX4_init 8 = .ok (.putfield 9, 3) := by decide +kernel
theorem dX4_init_11 : decode cX4_init 11 = .ok (.aload_n 0, 1) := by decide +kernel
theorem dX4_init_12 : decode cX4_init 12 = .ok (.bipush 60, 2) := by decide +kernel
theorem dX4_init_14 : decode cX4_init 14 = .ok (.newarray .int, 2) := by decide +kernel
theorem dX4_init_16 : decode cX4_init 16 = .ok (.putfield 15, 3) := by decide +kernel
theorem dX4_init_19 : decode cX4_init 19 = .ok (.aload_n 0, 1) := by decide +kernel
theorem dX4_init_20 : decode cX4_init 20 = .ok (.sipush 1000, 3) := by decide +kernel
theorem dX4_init_23 : decode cX4_init 23 = .ok (.putfield 18, 3) := by decide +kernel
theorem dX4_init_26 : decode cX4_init 26 = .ok (.aload_n 0, 1) := by decide +kernel
theorem dX4_init_27 : decode cX4_init 27 = .ok (.aload_n 1, 1) := by decide +kernel
theorem dX4_init_28 : decode cX4_init 28 = .ok (.putfield 22, 3) := by decide +kernel
theorem dX4_init_31 : decode cX4_init 31 = .ok (.return_, 1) := by decide +kernel
theorem dX4_takeInputs_0 : decode cX4_takeInputs 0 = .ok (.aload_n 0, 1) := by decide +kernel
theorem dX4_takeInputs_1 : decode cX4_takeInputs 1 = .ok (.getfield 9, 3) := by decide +kernel
theorem dX4_takeInputs_4 : decode cX4_takeInputs 4 = .ok (.iconst 0, 1) := by decide +kernel
theorem dX4_takeInputs_5 : decode cX4_takeInputs 5 = .ok (.iload_n 1, 1) := by decide +kernel
theorem dX4_takeInputs_6 : decode cX4_takeInputs 6 = .ok (.iastore, 1) := by decide +kernel
theorem dX4_takeInputs_7 : decode cX4_takeInputs 7 = .ok (.aload_n 0, 1) := by decide +kernel
theorem dX4_takeInputs_8 : decode cX4_takeInputs 8 = .ok (.getfield 9, 3) := by decide +kernel
theorem dX4_takeInputs_11 : decode cX4_takeInputs 11 = .ok (.iconst 1, 1) := by decide +kernel
theorem dX4_takeInputs_12 : decode cX4_takeInputs 12 = .ok (.iload_n 2, 1) := by decide +kernel
theorem dX4_takeInputs_13 : decode cX4_takeInputs 13 = .ok (.iastore, 1) := by decide +kernel
theorem dX4_takeInputs_14 : decode cX4_takeInputs 14 = .ok (.aload_n 0, 1) := by decide +kernel
theorem dX4_takeInputs_15 : decode cX4_takeInputs 15 = .ok (.getfield 9, 3) := by decide +kernel
theorem dX4_takeInputs_18 : decode cX4_takeInputs 18 = .ok (.iconst 2, 1) := by decide +kernel
theorem dX4_takeInputs_19 : decode cX4_takeInputs 19 = .ok (.iload_n 3, 1) := by decide +kernel
theorem dX4_takeInputs_20 : decode cX4_takeInputs 20 = .ok (.iastore, 1) := by decide +kernel
theorem dX4_takeInputs_21 : decode cX4_takeInputs 21 = .ok (.aload_n 0, 1) := by decide +kernel
theorem dX4_takeInputs_22 : decode cX4_takeInputs 22 = .ok (.getfield 9, 3) := by decide +kernel
theorem dX4_takeInputs_25 : decode cX4_takeInputs 25 = .ok (.iconst 3, 1) := by decide +kernel
theorem dX4_takeInputs_26 : decode cX4_takeInputs 26 = .ok (.iload 4, 2) := by decide +kernel
theorem dX4_takeInputs_28 : decode cX4_takeInputs 28 = .ok (.iastore, 1) := by decide +kernel
theorem dX4_takeInputs_29 : decode cX4_takeInputs 29 = .ok (.return_, 1) := by decide +kernel
theorem dX4_perform_0 : decode cX4_perform 0 = .ok (.aload_n 0, 1) := by decide +kernel
theorem dX4_perform_1 : decode cX4_perform 1 = .ok (.iconst 0, 1) := by decide +kernel
theorem dX4_perform_2 : decode cX4_perform 2 = .ok (.putfield 26, 3) := by decide +kernel
theorem dX4_perform_5 : decode cX4_perform 5 = .ok (.aload_n 0, 1) := by decide +kernel
theorem dX4_perform_6 : decode cX4_perform 6 = .ok (.iconst 0, 1) := by decide +kernel
theorem dX4_perform_7 : decode cX4_perform 7 = .ok (.putfield 29, 3) := by decide +kernel
theorem dX4_perform_10 : decode cX4_perform 10 = .ok (.aload_n 0, 1) := by decide +kernel
theorem dX4_perform_11 : decode cX4_perform 11 = .ok (.iconst 0, 1) := by decide +kernel
theorem dX4_perform_12 : decode cX4_perform 12 = .ok (.putfield 32, 3) := by decide +kernel
theorem dX4_perform_15 : decode cX4_perform 15 = .ok (.aload_n 0, 1) := by decide +kernel
theorem dX4_perform_16 : decode cX4_perform 16 = .ok (.iconst 0, 1) := by decide +kernel
theorem dX4_perform_17 : decode cX4_perform 17 = .ok (.putfield 35, 3) := by decide +kernel
theorem dX4_perform_20 : decode cX4_perform 20 = .ok (.iconst (-1), 1) := by decide +kernel
theorem dX4_perform_21 : decode cX4_perform 21 = .ok (.istore_n 2, 1) := by decide +kernel
theorem dX4_perform_22 : decode cX4_perform 22 = .ok (.iconst 0, 1) := by decide +kernel
theorem dX4_perform_23 : decode cX4_perform 23 = .ok (.istore_n 3, 1) := by decide +kernel
theorem dX4_perform_24 : decode cX4_perform 24 = .ok (.iload_n 3, 1) := by decide +kernel
theorem dX4_perform_25 : decode cX4_perform 25 = .ok (.aload_n 0, 1) := by decide +kernel
theorem dX4_perform_26 : decode cX4_perform 26 = .ok (.getfield 18, 3) := by decide +kernel
theorem dX4_perform_29 : decode cX4_perform 29 = .ok (.if_icmp .gt 116, 3) := by decide +kernel
theorem dX4_perform_32 : decode cX4_perform 32 = .ok (.aload_n 1, 1) := by decide +kernel
theorem dX4_perform_33 : decode cX4_perform 33 = .ok (.iload_n 2, 1) := by decide +kernel
theorem dX4_perform_34 : decode cX4_perform 34 = .ok (.aload_n 0, 1) := by decide +kernel
theorem dX4_perform_35 : decode cX4_perform 35 = .ok (.getfield 35, 3) := by decide +kernel
theorem dX4_perform_38 : decode cX4_perform 38 = .ok (.invokevirtual 38, 3) := by decide +kernel
theorem dX4_perform_41 : decode cX4_perform 41 = .ok (.aload_n 0, 1) := by decide +kernel
theorem dX4_perform_42 : decode cX4_perform 42 = .ok (.aload_n 1, 1) := by decide +kernel
theorem dX4_perform_43 : decode cX4_perform 43 = .ok (.invokevirtual 44, 3) := by decide +kernel
theorem dX4_perform_46 : decode cX4_perform 46 = .ok (.ifCond .eq 10, 3) := by decide +kernel
theorem dX4_perform_49 : decode cX4_perform 49 = .ok (.aload_n 0, 1) := by decide +kernel
theorem dX4_perform_50 : decode cX4_perform 50 = .ok (.invokevirtual 48, 3) := by decide +kernel
theorem dX4_perform_53 : decode cX4_perform 53 = .ok (.ifCond .ne 5, 3) := by decide +kernel
theorem dX4_perform_56 : decode cX4_perform 56 = .ok (.iconst 1, 1) := by decide +kernel
theorem dX4_perform_57 : decode cX4_perform 57 = .ok (.ireturn, 1) := by decide +kernel
theorem dX4_perform_58 : decode cX4_perform 58 = .ok (.aload_n 0, 1) := by decide +kernel
theorem dX4_perform_59 : decode cX4_perform 59 = .ok (.getfield 22, 3) := by decide +kernel
theorem dX4_perform_62 : decode cX4_perform 62 = .ok (.aload_n 0, 1) := by decide +kernel
theorem dX4_perform_63 : decode cX4_perform 63 = .ok (.getfield 35, 3) := by decide +kernel
theorem dX4_perform_66 : decode cX4_perform 66 = .ok (.invokevirtual 52, 3) := by decide +kernel
theorem dX4_perform_69 : decode cX4_perform 69 = .ok (.istore 4, 2) := by decide +kernel
theorem dX4_perform_71 : decode cX4_perform 71 = .ok (.iload 4, 2) := by decide +kernel
theorem dX4_perform_73 : decode cX4_perform 73 = .ok (.iconst 1, 1) := by decide +kernel
theorem dX4_perform_74 : decode cX4_perform 74 = .ok (.if_icmp .ne 7, 3) := by decide +kernel
theorem dX4_perform_77 : decode cX4_perform 77 = .ok (.iconst 0, 1) := by decide +kernel
theorem dX4_perform_78 : decode cX4_perform 78 = .ok (.goto 16, 3) := by decide +kernel
theorem dX4_perform_81 : decode cX4_perform 81 = .ok (.aload_n 1, 1) := by decide +kernel
theorem dX4_perform_82 : decode cX4_perform 82 = .ok (.getfield 58, 3) := by decide +kernel
theorem dX4_perform_85 : decode cX4_perform 85 = .ok (.aload_n 1, 1) := by decide +kernel
theorem dX4_perform_86 : decode cX4_perform 86 = .ok (.aload_n 0, 1) := by decide +kernel
theorem dX4_perform_87 : decode cX4_perform 87 = .ok (.getfield 35, 3) := by decide +kernel
theorem dX4_perform_90 : decode cX4_perform 90 = .ok (.invokevirtual 61, 3) := by decide +kernel
theorem dX4_perform_93 : decode cX4_perform 93 = .ok (.iaload, 1) := by decide +kernel
theorem dX4_perform_94 : decode cX4_perform 94 = .ok (.istore 5, 2) := by decide +kernel
theorem dX4_perform_96 : decode cX4_perform 96 = .ok (.iload 4, 2) := by decide +kernel
theorem dX4_perform_98 : decode cX4_perform 98 = .ok (.ifCond .ne 11, 3) := by decide +kernel
theorem dX4_perform_101 : decode cX4_perform 101 = .ok (.aload_n 0, 1) := by decide +kernel
theorem dX4_perform_102 : decode cX4_perform 102 = .ok (.iload 5, 2) := by decide +kernel
theorem dX4_perform_104 : decode cX4_perform 104 = .ok (.putfield 26, 3) := by decide +kernel
theorem dX4_perform_107 : decode cX4_perform 107 = .ok (.iconst 0, 1) := by decide +kernel
theorem dX4_perform_108 : decode cX4_perform 108 = .ok (.ireturn, 1) := by decide +kernel
theorem dX4_perform_109 : decode cX4_perform 109 = .ok (.aload_n 0, 1) := by decide +kernel
theorem dX4_perform_110 : decode cX4_perform 110 = .ok (.getfield 35, 3) := by decide +kernel
theorem dX4_perform_113 : decode cX4_perform 113 = .ok (.istore_n 2, 1) := by decide +kernel
theorem dX4_perform_114 : decode cX4_perform 114 = .ok (.aload_n 0, 1) := by decide +kernel
theorem dX4_perform_115 : decode cX4_perform 115 = .ok (.aload_n 0, 1) := by decide +kernel
theorem dX4_perform_116 : decode cX4_perform 116 = .ok (.getfield 22, 3) := by decide +kernel
theorem dX4_perform_119 : decode cX4_perform 119 = .ok (.aload_n 0, 1) := by decide +kernel
theorem dX4_perform_120 : decode cX4_perform 120 = .ok (.getfield 35, 3) := by decide +kernel
theorem dX4_perform_123 : decode cX4_perform 123 = .ok (.iload 5, 2) := by decide +kernel
theorem dX4_perform_125 : decode cX4_perform 125 = .ok (.ifCond .eq 7, 3) := by decide +kernel
theorem dX4_perform_128 : decode cX4_perform 128 = .ok (.iconst 1, 1) := by decide +kernel
theorem dX4_perform_129 : decode cX4_perform 129 = .ok (.goto 4, 3) := by decide +kernel
theorem dX4_perform_132 : decode cX4_perform 132 = .ok (.iconst 0, 1) := by decide +kernel
theorem dX4_perform_133 : decode cX4_perform 133 = .ok (.invokevirtual 64, 3) := by decide +kernel
theorem dX4_perform_136 : decode cX4_perform 136 = .ok (.putfield 35, 3) := by decide +kernel
theorem dX4_perform_139 : decode cX4_perform 139 = .ok (.iinc 3 1, 3) := by decide +kernel
theorem dX4_perform_142 : decode cX4_perform 142 = .ok (.goto (-118), 3) := by decide +kernel
theorem dX4_perform_145 : decode cX4_perform 145 = .ok (.iconst 1, 1) := by decide +kernel
theorem dX4_perform_146 : decode cX4_perform 146 = .ok (.ireturn, 1) := by decide +kernel
theorem dX4_pay_0 : decode cX4_pay 0 = .ok (.aload_n 0, 1) := by decide +kernel
theorem dX4_pay_1 : decode cX4_pay 1 = .ok (.getfield 29, 3) := by decide +kernel
theorem dX4_pay_4 : decode cX4_pay 4 = .ok (.aload_n 0, 1) := by decide +kernel
theorem dX4_pay_5 : decode cX4_pay 5 = .ok (.getfield 18, 3) := by decide +kernel
theorem dX4_pay_8 : decode cX4_pay 8 = .ok (.if_icmp .lt 5, 3) := by decide +kernel
theorem dX4_pay_11 : decode cX4_pay 11 = .ok (.iconst 0, 1) := by decide +kernel
theorem dX4_pay_12 : decode cX4_pay 12 = .ok (.ireturn, 1) := by decide +kernel
theorem dX4_pay_13 : decode cX4_pay 13 = .ok (.aload_n 0, 1) := by decide +kernel
theorem dX4_pay_14 : decode cX4_pay 14 = .ok (.dup, 1) := by decide +kernel
theorem dX4_pay_15 : decode cX4_pay 15 = .ok (.getfield 29, 3) := by decide +kernel
theorem dX4_pay_18 : decode cX4_pay 18 = .ok (.iconst 1, 1) := by decide +kernel
theorem dX4_pay_19 : decode cX4_pay 19 = .ok (.iadd, 1) := by decide +kernel
theorem dX4_pay_20 : decode cX4_pay 20 = .ok (.putfield 29, 3) := by decide +kernel
theorem dX4_pay_23 : decode cX4_pay 23 = .ok (.iconst 1, 1) := by decide +kernel
theorem dX4_pay_24 : decode cX4_pay 24 = .ok (.ireturn, 1) := by decide +kernel
theorem dX4_followBlock_0 : decode cX4_followBlock 0 = .ok (.aload_n 0, 1) := by decide +kernel
theorem dX4_followBlock_1 : decode cX4_followBlock 1 = .ok (.getfield 22, 3) := by decide +kernel
theorem dX4_followBlock_4 : decode cX4_followBlock 4 = .ok (.getfield 68, 3) := by decide +kernel
theorem dX4_followBlock_7 : decode cX4_followBlock 7 = .ok (.aload_n 0, 1) := by decide +kernel
theorem dX4_followBlock_8 : decode cX4_followBlock 8 = .ok (.getfield 35, 3) := by decide +kernel
theorem dX4_followBlock_11 : decode cX4_followBlock 11 = .ok (.iaload, 1) := by decide +kernel
theorem dX4_followBlock_12 : decode cX4_followBlock 12 = .ok (.istore_n 2, 1) := by decide +kernel
theorem dX4_followBlock_13 : decode cX4_followBlock 13 = .ok (.iload_n 2, 1) := by decide +kernel
theorem dX4_followBlock_14 : decode cX4_followBlock 14 = .ok (.aload_n 0, 1) := by decide +kernel
theorem dX4_followBlock_15 : decode cX4_followBlock 15 = .ok (.getfield 22, 3) := by decide +kernel
theorem dX4_followBlock_18 : decode cX4_followBlock 18 = .ok (.getfield 68, 3) := by decide +kernel
theorem dX4_followBlock_21 : decode cX4_followBlock 21 = .ok (.aload_n 0, 1) := by decide +kernel
theorem dX4_followBlock_22 : decode cX4_followBlock 22 = .ok (.getfield 35, 3) := by decide +kernel
theorem dX4_followBlock_25 : decode cX4_followBlock 25 = .ok (.iconst 1, 1) := by decide +kernel
theorem dX4_followBlock_26 : decode cX4_followBlock 26 = .ok (.iadd, 1) := by decide +kernel
theorem dX4_followBlock_27 : decode cX4_followBlock 27 = .ok (.iaload, 1) := by decide +kernel
theorem dX4_followBlock_28 : decode cX4_followBlock 28 = .ok (.if_icmp .ge 32, 3) := by decide +kernel
theorem dX4_followBlock_31 : decode cX4_followBlock 31 = .ok (.aload_n 1, 1) := by decide +kernel
theorem dX4_followBlock_32 : decode cX4_followBlock 32 = .ok (.iload_n 2, 1) := by decide +kernel
theorem dX4_followBlock_33 : decode cX4_followBlock 33 = .ok (.invokevirtual 71, 3) := by decide +kernel
theorem dX4_followBlock_36 : decode cX4_followBlock 36 = .ok (.ifCond .eq 18, 3) := by decide +kernel
theorem dX4_followBlock_39 : decode cX4_followBlock 39 = .ok (.aload_n 0, 1) := by decide +kernel
theorem dX4_followBlock_40 : decode cX4_followBlock 40 = .ok (.invokevirtual 48, 3) := by decide +kernel
theorem dX4_followBlock_43 : decode cX4_followBlock 43 = .ok (.ifCond .ne 5, 3) := by decide +kernel
theorem dX4_followBlock_46 : decode cX4_followBlock 46 = .ok (.iconst 0, 1) := by decide +kernel
theorem dX4_followBlock_47 : decode cX4_followBlock 47 = .ok (.ireturn, 1) := by decide +kernel
theorem dX4_followBlock_48 : decode cX4_followBlock 48 = .ok (.aload_n 0, 1) := by decide +kernel
theorem dX4_followBlock_49 : decode cX4_followBlock 49 = .ok (.aload_n 1, 1) := by decide +kernel
theorem dX4_followBlock_50 : decode cX4_followBlock 50 = .ok (.iload_n 2, 1) := by decide +kernel
theorem dX4_followBlock_51 : decode cX4_followBlock 51 = .ok (.invokevirtual 75, 3) := by decide +kernel
theorem dX4_followBlock_54 : decode cX4_followBlock 54 = .ok (.iinc 2 1, 3) := by decide +kernel
theorem dX4_followBlock_57 : decode cX4_followBlock 57 = .ok (.goto (-44), 3) := by decide +kernel
theorem dX4_followBlock_60 : decode cX4_followBlock 60 = .ok (.iconst 1, 1) := by decide +kernel
theorem dX4_followBlock_61 : decode cX4_followBlock 61 = .ok (.ireturn, 1) := by decide +kernel
theorem dX4_follow_0 : decode cX4_follow 0 = .ok (.aload_n 1, 1) := by decide +kernel
theorem dX4_follow_1 : decode cX4_follow 1 = .ok (.getfield 58, 3) := by decide +kernel
theorem dX4_follow_4 : decode cX4_follow 4 = .ok (.astore_n 3, 1) := by decide +kernel
theorem dX4_follow_5 : decode cX4_follow 5 = .ok (.aload_n 0, 1) := by decide +kernel
theorem dX4_follow_6 : decode cX4_follow 6 = .ok (.getfield 22, 3) := by decide +kernel
theorem dX4_follow_9 : decode cX4_follow 9 = .ok (.getfield 79, 3) := by decide +kernel
theorem dX4_follow_12 : decode cX4_follow 12 = .ok (.iload_n 2, 1) := by decide +kernel
theorem dX4_follow_13 : decode cX4_follow 13 = .ok (.iaload, 1) := by decide +kernel
theorem dX4_follow_14 : decode cX4_follow 14 = .ok (.istore 4, 2) := by decide +kernel
theorem dX4_follow_16 : decode cX4_follow 16 = .ok (.iload 4, 2) := by decide +kernel
theorem dX4_follow_18 : decode cX4_follow 18 = .ok (.lookupswitch 116 #[(0, 42), (1, 61), (2, 85), (14, 102)], 42) := by decide +kernel
theorem dX4_follow_60 : decode cX4_follow 60 = .ok (.aload_n 3, 1) := by decide +kernel
theorem dX4_follow_61 : decode cX4_follow 61 = .ok (.aload_n 1, 1) := by decide +kernel
theorem dX4_follow_62 : decode cX4_follow 62 = .ok (.iload_n 2, 1) := by decide +kernel
theorem dX4_follow_63 : decode cX4_follow 63 = .ok (.invokevirtual 82, 3) := by decide +kernel
theorem dX4_follow_66 : decode cX4_follow 66 = .ok (.aload_n 0, 1) := by decide +kernel
theorem dX4_follow_67 : decode cX4_follow 67 = .ok (.getfield 22, 3) := by decide +kernel
theorem dX4_follow_70 : decode cX4_follow 70 = .ok (.getfield 85, 3) := by decide +kernel
theorem dX4_follow_73 : decode cX4_follow 73 = .ok (.iload_n 2, 1) := by decide +kernel
theorem dX4_follow_74 : decode cX4_follow 74 = .ok (.iaload, 1) := by decide +kernel
theorem dX4_follow_75 : decode cX4_follow 75 = .ok (.iastore, 1) := by decide +kernel
theorem dX4_follow_76 : decode cX4_follow 76 = .ok (.goto 84, 3) := by decide +kernel
theorem dX4_follow_79 : decode cX4_follow 79 = .ok (.aload_n 3, 1) := by decide +kernel
theorem dX4_follow_80 : decode cX4_follow 80 = .ok (.aload_n 1, 1) := by decide +kernel
theorem dX4_follow_81 : decode cX4_follow 81 = .ok (.iload_n 2, 1) := by decide +kernel
theorem dX4_follow_82 : decode cX4_follow 82 = .ok (.invokevirtual 82, 3) := by decide +kernel
theorem dX4_follow_85 : decode cX4_follow 85 = .ok (.aload_n 0, 1) := by decide +kernel
theorem dX4_follow_86 : decode cX4_follow 86 = .ok (.getfield 9, 3) := by decide +kernel
theorem dX4_follow_89 : decode cX4_follow 89 = .ok (.aload_n 0, 1) := by decide +kernel
theorem dX4_follow_90 : decode cX4_follow 90 = .ok (.getfield 22, 3) := by decide +kernel
theorem dX4_follow_93 : decode cX4_follow 93 = .ok (.getfield 85, 3) := by decide +kernel
theorem dX4_follow_96 : decode cX4_follow 96 = .ok (.iload_n 2, 1) := by decide +kernel
theorem dX4_follow_97 : decode cX4_follow 97 = .ok (.iaload, 1) := by decide +kernel
theorem dX4_follow_98 : decode cX4_follow 98 = .ok (.iaload, 1) := by decide +kernel
theorem dX4_follow_99 : decode cX4_follow 99 = .ok (.iastore, 1) := by decide +kernel
theorem dX4_follow_100 : decode cX4_follow 100 = .ok (.goto 60, 3) := by decide +kernel
theorem dX4_follow_103 : decode cX4_follow 103 = .ok (.aload_n 3, 1) := by decide +kernel
theorem dX4_follow_104 : decode cX4_follow 104 = .ok (.aload_n 1, 1) := by decide +kernel
theorem dX4_follow_105 : decode cX4_follow 105 = .ok (.iload_n 2, 1) := by decide +kernel
theorem dX4_follow_106 : decode cX4_follow 106 = .ok (.invokevirtual 82, 3) := by decide +kernel
theorem dX4_follow_109 : decode cX4_follow 109 = .ok (.aload_n 3, 1) := by decide +kernel
theorem dX4_follow_110 : decode cX4_follow 110 = .ok (.aload_n 1, 1) := by decide +kernel
theorem dX4_follow_111 : decode cX4_follow 111 = .ok (.iload_n 2, 1) := by decide +kernel
theorem dX4_follow_112 : decode cX4_follow 112 = .ok (.invokevirtual 88, 3) := by decide +kernel
theorem dX4_follow_115 : decode cX4_follow 115 = .ok (.iaload, 1) := by decide +kernel
theorem dX4_follow_116 : decode cX4_follow 116 = .ok (.iastore, 1) := by decide +kernel
theorem dX4_follow_117 : decode cX4_follow 117 = .ok (.goto 43, 3) := by decide +kernel
theorem dX4_follow_120 : decode cX4_follow 120 = .ok (.aload_n 0, 1) := by decide +kernel
theorem dX4_follow_121 : decode cX4_follow 121 = .ok (.aload_n 3, 1) := by decide +kernel
theorem dX4_follow_122 : decode cX4_follow 122 = .ok (.aload_n 1, 1) := by decide +kernel
theorem dX4_follow_123 : decode cX4_follow 123 = .ok (.iload_n 2, 1) := by decide +kernel
theorem dX4_follow_124 : decode cX4_follow 124 = .ok (.invokevirtual 88, 3) := by decide +kernel
theorem dX4_follow_127 : decode cX4_follow 127 = .ok (.iaload, 1) := by decide +kernel
theorem dX4_follow_128 : decode cX4_follow 128 = .ok (.invokevirtual 91, 3) := by decide +kernel
theorem dX4_follow_131 : decode cX4_follow 131 = .ok (.goto 29, 3) := by decide +kernel
theorem dX4_follow_134 : decode cX4_follow 134 = .ok (.aload_n 3, 1) := by decide +kernel
theorem dX4_follow_135 : decode cX4_follow 135 = .ok (.aload_n 1, 1) := by decide +kernel
theorem dX4_follow_136 : decode cX4_follow 136 = .ok (.iload_n 2, 1) := by decide +kernel
theorem dX4_follow_137 : decode cX4_follow 137 = .ok (.invokevirtual 82, 3) := by decide +kernel
theorem dX4_follow_140 : decode cX4_follow 140 = .ok (.iload 4, 2) := by decide +kernel
theorem dX4_follow_142 : decode cX4_follow 142 = .ok (.aload_n 3, 1) := by decide +kernel
theorem dX4_follow_143 : decode cX4_follow 143 = .ok (.aload_n 1, 1) := by decide +kernel
theorem dX4_follow_144 : decode cX4_follow 144 = .ok (.iload_n 2, 1) := by decide +kernel
theorem dX4_follow_145 : decode cX4_follow 145 = .ok (.invokevirtual 88, 3) := by decide +kernel
theorem dX4_follow_148 : decode cX4_follow 148 = .ok (.iaload, 1) := by decide +kernel
theorem dX4_follow_149 : decode cX4_follow 149 = .ok (.aload_n 3, 1) := by decide +kernel
theorem dX4_follow_150 : decode cX4_follow 150 = .ok (.aload_n 1, 1) := by decide +kernel
theorem dX4_follow_151 : decode cX4_follow 151 = .ok (.iload_n 2, 1) := by decide +kernel
theorem dX4_follow_152 : decode cX4_follow 152 = .ok (.invokevirtual 95, 3) := by decide +kernel
theorem dX4_follow_155 : decode cX4_follow 155 = .ok (.iaload, 1) := by decide +kernel
theorem dX4_follow_156 : decode cX4_follow 156 = .ok (.invokestatic 98, 3) := by decide +kernel
theorem dX4_follow_159 : decode cX4_follow 159 = .ok (.iastore, 1) := by decide +kernel
theorem dX4_follow_160 : decode cX4_follow 160 = .ok (.return_, 1) := by decide +kernel
theorem dX4_tell_0 : decode cX4_tell 0 = .ok (.aload_n 0, 1) := by decide +kernel
theorem dX4_tell_1 : decode cX4_tell 1 = .ok (.getfield 32, 3) := by decide +kernel
theorem dX4_tell_4 : decode cX4_tell 4 = .ok (.bipush 60, 2) := by decide +kernel
theorem dX4_tell_6 : decode cX4_tell 6 = .ok (.if_icmp .ge 13, 3) := by decide +kernel
theorem dX4_tell_9 : decode cX4_tell 9 = .ok (.aload_n 0, 1) := by decide +kernel
theorem dX4_tell_10 : decode cX4_tell 10 = .ok (.getfield 15, 3) := by decide +kernel
theorem dX4_tell_13 : decode cX4_tell 13 = .ok (.aload_n 0, 1) := by decide +kernel
theorem dX4_tell_14 : decode cX4_tell 14 = .ok (.getfield 32, 3) := by decide +kernel
theorem dX4_tell_17 : decode cX4_tell 17 = .ok (.iload_n 1, 1) := by decide +kernel
theorem dX4_tell_18 : decode cX4_tell 18 = .ok (.iastore, 1) := by decide +kernel
theorem dX4_tell_19 : decode cX4_tell 19 = .ok (.aload_n 0, 1) := by decide +kernel
theorem dX4_tell_20 : decode cX4_tell 20 = .ok (.dup, 1) := by decide +kernel
theorem dX4_tell_21 : decode cX4_tell 21 = .ok (.getfield 32, 3) := by decide +kernel
theorem dX4_tell_24 : decode cX4_tell 24 = .ok (.iconst 1, 1) := by decide +kernel
theorem dX4_tell_25 : decode cX4_tell 25 = .ok (.iadd, 1) := by decide +kernel
theorem dX4_tell_26 : decode cX4_tell 26 = .ok (.putfield 32, 3) := by decide +kernel
theorem dX4_tell_29 : decode cX4_tell 29 = .ok (.return_, 1) := by decide +kernel
theorem dX4_compute_0 : decode cX4_compute 0 = .ok (.iload_n 0, 1) := by decide +kernel
theorem dX4_compute_1 : decode cX4_compute 1 = .ok (.tableswitch 125 3 13 #[59, 63, 67, 71, 75, 79, 83, 94, 105, 112, 119], 59) := by decide +kernel
theorem dX4_compute_60 : decode cX4_compute 60 = .ok (.iload_n 1, 1) := by decide +kernel
theorem dX4_compute_61 : decode cX4_compute 61 = .ok (.iload_n 2, 1) := by decide +kernel
theorem dX4_compute_62 : decode cX4_compute 62 = .ok (.iadd, 1) := by decide +kernel
theorem dX4_compute_63 : decode cX4_compute 63 = .ok (.ireturn, 1) := by decide +kernel
theorem dX4_compute_64 : decode cX4_compute 64 = .ok (.iload_n 1, 1) := by decide +kernel
theorem dX4_compute_65 : decode cX4_compute 65 = .ok (.iload_n 2, 1) := by decide +kernel
theorem dX4_compute_66 : decode cX4_compute 66 = .ok (.isub, 1) := by decide +kernel
theorem dX4_compute_67 : decode cX4_compute 67 = .ok (.ireturn, 1) := by decide +kernel
theorem dX4_compute_68 : decode cX4_compute 68 = .ok (.iload_n 1, 1) := by decide +kernel
theorem dX4_compute_69 : decode cX4_compute 69 = .ok (.iload_n 2, 1) := by decide +kernel
theorem dX4_compute_70 : decode cX4_compute 70 = .ok (.imul, 1) := by decide +kernel
theorem dX4_compute_71 : decode cX4_compute 71 = .ok (.ireturn, 1) := by decide +kernel
theorem dX4_compute_72 : decode cX4_compute 72 = .ok (.iload_n 1, 1) := by decide +kernel
theorem dX4_compute_73 : decode cX4_compute 73 = .ok (.iload_n 2, 1) := by decide +kernel
theorem dX4_compute_74 : decode cX4_compute 74 = .ok (.iand, 1) := by decide +kernel
theorem dX4_compute_75 : decode cX4_compute 75 = .ok (.ireturn, 1) := by decide +kernel
theorem dX4_compute_76 : decode cX4_compute 76 = .ok (.iload_n 1, 1) := by decide +kernel
theorem dX4_compute_77 : decode cX4_compute 77 = .ok (.iload_n 2, 1) := by decide +kernel
theorem dX4_compute_78 : decode cX4_compute 78 = .ok (.ior, 1) := by decide +kernel
theorem dX4_compute_79 : decode cX4_compute 79 = .ok (.ireturn, 1) := by decide +kernel
theorem dX4_compute_80 : decode cX4_compute 80 = .ok (.iload_n 1, 1) := by decide +kernel
theorem dX4_compute_81 : decode cX4_compute 81 = .ok (.iload_n 2, 1) := by decide +kernel
theorem dX4_compute_82 : decode cX4_compute 82 = .ok (.ixor, 1) := by decide +kernel
theorem dX4_compute_83 : decode cX4_compute 83 = .ok (.ireturn, 1) := by decide +kernel
theorem dX4_compute_84 : decode cX4_compute 84 = .ok (.iload_n 1, 1) := by decide +kernel
theorem dX4_compute_85 : decode cX4_compute 85 = .ok (.iload_n 2, 1) := by decide +kernel
theorem dX4_compute_86 : decode cX4_compute 86 = .ok (.if_icmp .ne 7, 3) := by decide +kernel
theorem dX4_compute_89 : decode cX4_compute 89 = .ok (.iconst 1, 1) := by decide +kernel
theorem dX4_compute_90 : decode cX4_compute 90 = .ok (.goto 4, 3) := by decide +kernel
theorem dX4_compute_93 : decode cX4_compute 93 = .ok (.iconst 0, 1) := by decide +kernel
theorem dX4_compute_94 : decode cX4_compute 94 = .ok (.ireturn, 1) := by decide +kernel
theorem dX4_compute_95 : decode cX4_compute 95 = .ok (.iload_n 1, 1) := by decide +kernel
theorem dX4_compute_96 : decode cX4_compute 96 = .ok (.iload_n 2, 1) := by decide +kernel
theorem dX4_compute_97 : decode cX4_compute 97 = .ok (.if_icmp .ge 7, 3) := by decide +kernel
theorem dX4_compute_100 : decode cX4_compute 100 = .ok (.iconst 1, 1) := by decide +kernel
theorem dX4_compute_101 : decode cX4_compute 101 = .ok (.goto 4, 3) := by decide +kernel
theorem dX4_compute_104 : decode cX4_compute 104 = .ok (.iconst 0, 1) := by decide +kernel
theorem dX4_compute_105 : decode cX4_compute 105 = .ok (.ireturn, 1) := by decide +kernel
theorem dX4_compute_106 : decode cX4_compute 106 = .ok (.iload_n 1, 1) := by decide +kernel
theorem dX4_compute_107 : decode cX4_compute 107 = .ok (.iload_n 2, 1) := by decide +kernel
theorem dX4_compute_108 : decode cX4_compute 108 = .ok (.bipush 31, 2) := by decide +kernel
theorem dX4_compute_110 : decode cX4_compute 110 = .ok (.iand, 1) := by decide +kernel
theorem dX4_compute_111 : decode cX4_compute 111 = .ok (.ishl, 1) := by decide +kernel
theorem dX4_compute_112 : decode cX4_compute 112 = .ok (.ireturn, 1) := by decide +kernel
theorem dX4_compute_113 : decode cX4_compute 113 = .ok (.iload_n 1, 1) := by decide +kernel
theorem dX4_compute_114 : decode cX4_compute 114 = .ok (.iload_n 2, 1) := by decide +kernel
theorem dX4_compute_115 : decode cX4_compute 115 = .ok (.bipush 31, 2) := by decide +kernel
theorem dX4_compute_117 : decode cX4_compute 117 = .ok (.iand, 1) := by decide +kernel
theorem dX4_compute_118 : decode cX4_compute 118 = .ok (.ishr, 1) := by decide +kernel
theorem dX4_compute_119 : decode cX4_compute 119 = .ok (.ireturn, 1) := by decide +kernel
theorem dX4_compute_120 : decode cX4_compute 120 = .ok (.iload_n 1, 1) := by decide +kernel
theorem dX4_compute_121 : decode cX4_compute 121 = .ok (.iload_n 2, 1) := by decide +kernel
theorem dX4_compute_122 : decode cX4_compute 122 = .ok (.invokestatic 102, 3) := by decide +kernel
theorem dX4_compute_125 : decode cX4_compute 125 = .ok (.ireturn, 1) := by decide +kernel
theorem dX4_compute_126 : decode cX4_compute 126 = .ok (.iconst 0, 1) := by decide +kernel
theorem dX4_compute_127 : decode cX4_compute 127 = .ok (.ireturn, 1) := by decide +kernel
theorem dX4_divide_0 : decode cX4_divide 0 = .ok (.iload_n 1, 1) := by decide +kernel
theorem dX4_divide_1 : decode cX4_divide 1 = .ok (.ifCond .ne 5, 3) := by decide +kernel
theorem dX4_divide_4 : decode cX4_divide 4 = .ok (.iconst 0, 1) := by decide +kernel
theorem dX4_divide_5 : decode cX4_divide 5 = .ok (.ireturn, 1) := by decide +kernel
theorem dX4_divide_6 : decode cX4_divide 6 = .ok (.iload_n 1, 1) := by decide +kernel
theorem dX4_divide_7 : decode cX4_divide 7 = .ok (.iconst (-1), 1) := by decide +kernel
theorem dX4_divide_8 : decode cX4_divide 8 = .ok (.if_icmp .ne 8, 3) := by decide +kernel
theorem dX4_divide_11 : decode cX4_divide 11 = .ok (.iload_n 0, 1) := by decide +kernel
theorem dX4_divide_12 : decode cX4_divide 12 = .ok (.ineg, 1) := by decide +kernel
theorem dX4_divide_13 : decode cX4_divide 13 = .ok (.goto 6, 3) := by decide +kernel
theorem dX4_divide_16 : decode cX4_divide 16 = .ok (.iload_n 0, 1) := by decide +kernel
theorem dX4_divide_17 : decode cX4_divide 17 = .ok (.iload_n 1, 1) := by decide +kernel
theorem dX4_divide_18 : decode cX4_divide 18 = .ok (.idiv, 1) := by decide +kernel
theorem dX4_divide_19 : decode cX4_divide 19 = .ok (.ireturn, 1) := by decide +kernel
theorem dX5_init_0 : decode cX5_init 0 = .ok (.aload_n 0, 1) := by decide +kernel
theorem dX5_init_1 : decode cX5_init 1 = .ok (.invokespecial 3, 3) := by decide +kernel
theorem dX5_init_4 : decode cX5_init 4 = .ok (.aload_n 0, 1) := by decide +kernel
theorem dX5_init_5 : decode cX5_init 5 = .ok (.bipush 17, 2) := by decide +kernel
theorem dX5_init_7 : decode cX5_init 7 = .ok (.newarray .int, 2) := by decide +kernel
theorem dX5_init_9 : decode cX5_init 9 = .ok (.putfield 9, 3) := by decide +kernel
theorem dX5_init_12 : decode cX5_init 12 = .ok (.aload_n 0, 1) := by decide +kernel
theorem dX5_init_13 : decode cX5_init 13 = .ok (.bipush 100, 2) := by decide +kernel
theorem dX5_init_15 : decode cX5_init 15 = .ok (.newarray .int, 2) := by decide +kernel
theorem dX5_init_17 : decode cX5_init 17 = .ok (.putfield 15, 3) := by decide +kernel
theorem dX5_init_20 : decode cX5_init 20 = .ok (.aload_n 0, 1) := by decide +kernel
theorem dX5_init_21 : decode cX5_init 21 = .ok (.bipush 100, 2) := by decide +kernel
theorem dX5_init_23 : decode cX5_init 23 = .ok (.newarray .int, 2) := by decide +kernel
theorem dX5_init_25 : decode cX5_init 25 = .ok (.putfield 18, 3) := by decide +kernel
theorem dX5_init_28 : decode cX5_init 28 = .ok (.aload_n 0, 1) := by decide +kernel
theorem dX5_init_29 : decode cX5_init 29 = .ok (.bipush 100, 2) := by decide +kernel
theorem dX5_init_31 : decode cX5_init 31 = .ok (.newarray .int, 2) := by decide +kernel
theorem dX5_init_33 : decode cX5_init 33 = .ok (.putfield 21, 3) := by decide +kernel
theorem dX5_init_36 : decode cX5_init 36 = .ok (.aload_n 0, 1) := by decide +kernel
theorem dX5_init_37 : decode cX5_init 37 = .ok (.bipush 100, 2) := by decide +kernel
theorem dX5_init_39 : decode cX5_init 39 = .ok (.newarray .int, 2) := by decide +kernel
theorem dX5_init_41 : decode cX5_init 41 = .ok (.putfield 24, 3) := by decide +kernel
theorem dX5_init_44 : decode cX5_init 44 = .ok (.aload_n 0, 1) := by decide +kernel
theorem dX5_init_45 : decode cX5_init 45 = .ok (.bipush 16, 2) := by decide +kernel
theorem dX5_init_47 : decode cX5_init 47 = .ok (.newarray .int, 2) := by decide +kernel
theorem dX5_init_49 : decode cX5_init 49 = .ok (.putfield 27, 3) := by decide +kernel
theorem dX5_init_52 : decode cX5_init 52 = .ok (.aload_n 0, 1) := by decide +kernel
theorem dX5_init_53 : decode cX5_init 53 = .ok (.bipush 16, 2) := by decide +kernel
theorem dX5_init_55 : decode cX5_init 55 = .ok (.newarray .int, 2) := by decide +kernel
theorem dX5_init_57 : decode cX5_init 57 = .ok (.putfield 30, 3) := by decide +kernel
theorem dX5_init_60 : decode cX5_init 60 = .ok (.aload_n 0, 1) := by decide +kernel
theorem dX5_init_61 : decode cX5_init 61 = .ok (.bipush 16, 2) := by decide +kernel
theorem dX5_init_63 : decode cX5_init 63 = .ok (.newarray .int, 2) := by decide +kernel
theorem dX5_init_65 : decode cX5_init 65 = .ok (.putfield 33, 3) := by decide +kernel
theorem dX5_init_68 : decode cX5_init 68 = .ok (.aload_n 0, 1) := by decide +kernel
theorem dX5_init_69 : decode cX5_init 69 = .ok (.bipush 16, 2) := by decide +kernel
theorem dX5_init_71 : decode cX5_init 71 = .ok (.newarray .int, 2) := by decide +kernel
theorem dX5_init_73 : decode cX5_init 73 = .ok (.putfield 36, 3) := by decide +kernel
theorem dX5_init_76 : decode cX5_init 76 = .ok (.return_, 1) := by decide +kernel
theorem dX5_isVariable_0 : decode cX5_isVariable 0 = .ok (.iload_n 0, 1) := by decide +kernel
theorem dX5_isVariable_1 : decode cX5_isVariable 1 = .ok (.ifCond .lt 13, 3) := by decide +kernel
theorem dX5_isVariable_4 : decode cX5_isVariable 4 = .ok (.iload_n 0, 1) := by decide +kernel
theorem dX5_isVariable_5 : decode cX5_isVariable 5 = .ok (.bipush 10, 2) := by decide +kernel
theorem dX5_isVariable_7 : decode cX5_isVariable 7 = .ok (.if_icmp .ge 7, 3) := by decide +kernel
theorem dX5_isVariable_10 : decode cX5_isVariable 10 = .ok (.iconst 1, 1) := by decide +kernel
theorem dX5_isVariable_11 : decode cX5_isVariable 11 = .ok (.goto 4, 3) := by decide +kernel
theorem dX5_isVariable_14 : decode cX5_isVariable 14 = .ok (.iconst 0, 1) := by decide +kernel
theorem dX5_isVariable_15 : decode cX5_isVariable 15 = .ok (.ireturn, 1) := by decide +kernel
theorem dX5_isBlockNumber_0 : decode cX5_isBlockNumber 0 = .ok (.iload_n 0, 1) := by decide +kernel
theorem dX5_isBlockNumber_1 : decode cX5_isBlockNumber 1 = .ok (.ifCond .lt 13, 3) := by decide +kernel
theorem dX5_isBlockNumber_4 : decode cX5_isBlockNumber 4 = .ok (.iload_n 0, 1) := by decide +kernel
theorem dX5_isBlockNumber_5 : decode cX5_isBlockNumber 5 = .ok (.bipush 16, 2) := by decide +kernel
theorem dX5_isBlockNumber_7 : decode cX5_isBlockNumber 7 = .ok (.if_icmp .ge 7, 3) := by decide +kernel
theorem dX5_isBlockNumber_10 : decode cX5_isBlockNumber 10 = .ok (.iconst 1, 1) := by decide +kernel
theorem dX5_isBlockNumber_11 : decode cX5_isBlockNumber 11 = .ok (.goto 4, 3) := by decide +kernel
theorem dX5_isBlockNumber_14 : decode cX5_isBlockNumber 14 = .ok (.iconst 0, 1) := by decide +kernel
theorem dX5_isBlockNumber_15 : decode cX5_isBlockNumber 15 = .ok (.ireturn, 1) := by decide +kernel
theorem dX5_fits_0 : decode cX5_fits 0 = .ok (.iload_n 0, 1) := by decide +kernel
theorem dX5_fits_1 : decode cX5_fits 1 = .ok (.ifCond .lt 16, 3) := by decide +kernel
theorem dX5_fits_4 : decode cX5_fits 4 = .ok (.iload_n 0, 1) := by decide +kernel
theorem dX5_fits_5 : decode cX5_fits 5 = .ok (.bipush 14, 2) := by decide +kernel
theorem dX5_fits_7 : decode cX5_fits 7 = .ok (.if_icmp .gt 10, 3) := by decide +kernel
theorem dX5_fits_10 : decode cX5_fits 10 = .ok (.iload_n 1, 1) := by decide +kernel
theorem dX5_fits_11 : decode cX5_fits 11 = .ok (.invokestatic 39, 3) := by decide +kernel
theorem dX5_fits_14 : decode cX5_fits 14 = .ok (.ifCond .ne 5, 3) := by decide +kernel
theorem dX5_fits_17 : decode cX5_fits 17 = .ok (.iconst 0, 1) := by decide +kernel
theorem dX5_fits_18 : decode cX5_fits 18 = .ok (.ireturn, 1) := by decide +kernel
theorem dX5_fits_19 : decode cX5_fits 19 = .ok (.iload_n 0, 1) := by decide +kernel
theorem dX5_fits_20 : decode cX5_fits 20 = .ok (.lookupswitch 66 #[(0, 44), (1, 46), (2, 61), (14, 44)], 44) := by decide +kernel
theorem dX5_fits_64 : decode cX5_fits 64 = .ok (.iconst 1, 1) := by decide +kernel
theorem dX5_fits_65 : decode cX5_fits 65 = .ok (.ireturn, 1) := by decide +kernel
theorem dX5_fits_66 : decode cX5_fits 66 = .ok (.iload_n 2, 1) := by decide +kernel
theorem dX5_fits_67 : decode cX5_fits 67 = .ok (.ifCond .lt 12, 3) := by decide +kernel
theorem dX5_fits_70 : decode cX5_fits 70 = .ok (.iload_n 2, 1) := by decide +kernel
theorem dX5_fits_71 : decode cX5_fits 71 = .ok (.iconst 4, 1) := by decide +kernel
theorem dX5_fits_72 : decode cX5_fits 72 = .ok (.if_icmp .ge 7, 3) := by decide +kernel
theorem dX5_fits_75 : decode cX5_fits 75 = .ok (.iconst 1, 1) := by decide +kernel
theorem dX5_fits_76 : decode cX5_fits 76 = .ok (.goto 4, 3) := by decide +kernel
theorem dX5_fits_79 : decode cX5_fits 79 = .ok (.iconst 0, 1) := by decide +kernel
theorem dX5_fits_80 : decode cX5_fits 80 = .ok (.ireturn, 1) := by decide +kernel
theorem dX5_fits_81 : decode cX5_fits 81 = .ok (.iload_n 2, 1) := by decide +kernel
theorem dX5_fits_82 : decode cX5_fits 82 = .ok (.invokestatic 39, 3) := by decide +kernel
theorem dX5_fits_85 : decode cX5_fits 85 = .ok (.ireturn, 1) := by decide +kernel
theorem dX5_fits_86 : decode cX5_fits 86 = .ok (.iload_n 2, 1) := by decide +kernel
theorem dX5_fits_87 : decode cX5_fits 87 = .ok (.invokestatic 39, 3) := by decide +kernel
theorem dX5_fits_90 : decode cX5_fits 90 = .ok (.ifCond .eq 14, 3) := by decide +kernel
theorem dX5_fits_93 : decode cX5_fits 93 = .ok (.iload_n 3, 1) := by decide +kernel
theorem dX5_fits_94 : decode cX5_fits 94 = .ok (.invokestatic 39, 3) := by decide +kernel
theorem dX5_fits_97 : decode cX5_fits 97 = .ok (.ifCond .eq 7, 3) := by decide +kernel
theorem dX5_fits_100 : decode cX5_fits 100 = .ok (.iconst 1, 1) := by decide +kernel
theorem dX5_fits_101 : decode cX5_fits 101 = .ok (.goto 4, 3) := by decide +kernel
theorem dX5_fits_104 : decode cX5_fits 104 = .ok (.iconst 0, 1) := by decide +kernel
theorem dX5_fits_105 : decode cX5_fits 105 = .ok (.ireturn, 1) := by decide +kernel
theorem dX5_endFits_0 : decode cX5_endFits 0 = .ok (.iload_n 0, 1) := by decide +kernel
theorem dX5_endFits_1 : decode cX5_endFits 1 = .ok (.tableswitch 64 0 2 #[27, 32, 37], 27) := by decide +kernel
theorem dX5_endFits_28 : decode cX5_endFits 28 = .ok (.iload_n 1, 1) := by decide +kernel
theorem dX5_endFits_29 : decode cX5_endFits 29 = .ok (.invokestatic 39, 3) := by decide +kernel
theorem dX5_endFits_32 : decode cX5_endFits 32 = .ok (.ireturn, 1) := by decide +kernel
theorem dX5_endFits_33 : decode cX5_endFits 33 = .ok (.iload_n 2, 1) := by decide +kernel
theorem dX5_endFits_34 : decode cX5_endFits 34 = .ok (.invokestatic 43, 3) := by decide +kernel
theorem dX5_endFits_37 : decode cX5_endFits 37 = .ok (.ireturn, 1) := by decide +kernel
theorem dX5_endFits_38 : decode cX5_endFits 38 = .ok (.iload_n 1, 1) := by decide +kernel
theorem dX5_endFits_39 : decode cX5_endFits 39 = .ok (.invokestatic 39, 3) := by decide +kernel
theorem dX5_endFits_42 : decode cX5_endFits 42 = .ok (.ifCond .eq 21, 3) := by decide +kernel
theorem dX5_endFits_45 : decode cX5_endFits 45 = .ok (.iload_n 2, 1) := by decide +kernel
theorem dX5_endFits_46 : decode cX5_endFits 46 = .ok (.invokestatic 43, 3) := by decide +kernel
theorem dX5_endFits_49 : decode cX5_endFits 49 = .ok (.ifCond .eq 14, 3) := by decide +kernel
theorem dX5_endFits_52 : decode cX5_endFits 52 = .ok (.iload_n 3, 1) := by decide +kernel
theorem dX5_endFits_53 : decode cX5_endFits 53 = .ok (.invokestatic 43, 3) := by decide +kernel
theorem dX5_endFits_56 : decode cX5_endFits 56 = .ok (.ifCond .eq 7, 3) := by decide +kernel
theorem dX5_endFits_59 : decode cX5_endFits 59 = .ok (.iconst 1, 1) := by decide +kernel
theorem dX5_endFits_60 : decode cX5_endFits 60 = .ok (.goto 4, 3) := by decide +kernel
theorem dX5_endFits_63 : decode cX5_endFits 63 = .ok (.iconst 0, 1) := by decide +kernel
theorem dX5_endFits_64 : decode cX5_endFits 64 = .ok (.ireturn, 1) := by decide +kernel
theorem dX5_endFits_65 : decode cX5_endFits 65 = .ok (.iconst 0, 1) := by decide +kernel
theorem dX5_endFits_66 : decode cX5_endFits 66 = .ok (.ireturn, 1) := by decide +kernel
theorem dX5_has_0 : decode cX5_has 0 = .ok (.iload_n 1, 1) := by decide +kernel
theorem dX5_has_1 : decode cX5_has 1 = .ok (.ifCond .lt 15, 3) := by decide +kernel
theorem dX5_has_4 : decode cX5_has 4 = .ok (.iload_n 1, 1) := by decide +kernel
theorem dX5_has_5 : decode cX5_has 5 = .ok (.aload_n 0, 1) := by decide +kernel
theorem dX5_has_6 : decode cX5_has 6 = .ok (.getfield 46, 3) := by decide +kernel
theorem dX5_has_9 : decode cX5_has 9 = .ok (.if_icmp .ge 7, 3) := by decide +kernel
theorem dX5_has_12 : decode cX5_has 12 = .ok (.iconst 1, 1) := by decide +kernel
theorem dX5_has_13 : decode cX5_has 13 = .ok (.goto 4, 3) := by decide +kernel
theorem dX5_has_16 : decode cX5_has 16 = .ok (.iconst 0, 1) := by decide +kernel
theorem dX5_has_17 : decode cX5_has 17 = .ok (.ireturn, 1) := by decide +kernel
theorem dX5_instructions_0 : decode cX5_instructions 0 = .ok (.aload_n 0, 1) := by decide +kernel
theorem dX5_instructions_1 : decode cX5_instructions 1 = .ok (.getfield 9, 3) := by decide +kernel
theorem dX5_instructions_4 : decode cX5_instructions 4 = .ok (.bipush 16, 2) := by decide +kernel
theorem dX5_instructions_6 : decode cX5_instructions 6 = .ok (.iaload, 1) := by decide +kernel
theorem dX5_instructions_7 : decode cX5_instructions 7 = .ok (.ireturn, 1) := by decide +kernel
theorem dX5_insert_0 : decode cX5_insert 0 = .ok (.aload_n 0, 1) := by decide +kernel
theorem dX5_insert_1 : decode cX5_insert 1 = .ok (.getfield 9, 3) := by decide +kernel
theorem dX5_insert_4 : decode cX5_insert 4 = .ok (.iload_n 1, 1) := by decide +kernel
theorem dX5_insert_5 : decode cX5_insert 5 = .ok (.iconst 1, 1) := by decide +kernel
theorem dX5_insert_6 : decode cX5_insert 6 = .ok (.iadd, 1) := by decide +kernel
theorem dX5_insert_7 : decode cX5_insert 7 = .ok (.iaload, 1) := by decide +kernel
theorem dX5_insert_8 : decode cX5_insert 8 = .ok (.istore 6, 2) := by decide +kernel
theorem dX5_insert_10 : decode cX5_insert 10 = .ok (.aload_n 0, 1) := by decide +kernel
theorem dX5_insert_11 : decode cX5_insert 11 = .ok (.invokevirtual 50, 3) := by decide +kernel
theorem dX5_insert_14 : decode cX5_insert 14 = .ok (.iload 6, 2) := by decide +kernel
theorem dX5_insert_16 : decode cX5_insert 16 = .ok (.isub, 1) := by decide +kernel
theorem dX5_insert_17 : decode cX5_insert 17 = .ok (.istore 7, 2) := by decide +kernel
theorem dX5_insert_19 : decode cX5_insert 19 = .ok (.aload_n 0, 1) := by decide +kernel
theorem dX5_insert_20 : decode cX5_insert 20 = .ok (.getfield 15, 3) := by decide +kernel
theorem dX5_insert_23 : decode cX5_insert 23 = .ok (.iload 6, 2) := by decide +kernel
theorem dX5_insert_25 : decode cX5_insert 25 = .ok (.iload 7, 2) := by decide +kernel
theorem dX5_insert_27 : decode cX5_insert 27 = .ok (.iload_n 2, 1) := by decide +kernel
theorem dX5_insert_28 : decode cX5_insert 28 = .ok (.invokestatic 54, 3) := by decide +kernel
theorem dX5_insert_31 : decode cX5_insert 31 = .ok (.aload_n 0, 1) := by decide +kernel
theorem dX5_insert_32 : decode cX5_insert 32 = .ok (.getfield 18, 3) := by decide +kernel
theorem dX5_insert_35 : decode cX5_insert 35 = .ok (.iload 6, 2) := by decide +kernel
theorem dX5_insert_37 : decode cX5_insert 37 = .ok (.iload 7, 2) := by decide +kernel
theorem dX5_insert_39 : decode cX5_insert 39 = .ok (.iload_n 3, 1) := by decide +kernel
theorem dX5_insert_40 : decode cX5_insert 40 = .ok (.invokestatic 54, 3) := by decide +kernel
theorem dX5_insert_43 : decode cX5_insert 43 = .ok (.aload_n 0, 1) := by decide +kernel
theorem dX5_insert_44 : decode cX5_insert 44 = .ok (.getfield 21, 3) := by decide +kernel
theorem dX5_insert_47 : decode cX5_insert 47 = .ok (.iload 6, 2) := by decide +kernel
theorem dX5_insert_49 : decode cX5_insert 49 = .ok (.iload 7, 2) := by decide +kernel
theorem dX5_insert_51 : decode cX5_insert 51 = .ok (.iload 4, 2) := by decide +kernel
theorem dX5_insert_53 : decode cX5_insert 53 = .ok (.invokestatic 54, 3) := by decide +kernel
theorem dX5_insert_56 : decode cX5_insert 56 = .ok (.aload_n 0, 1) := by decide +kernel
theorem dX5_insert_57 : decode cX5_insert 57 = .ok (.getfield 24, 3) := by decide +kernel
theorem dX5_insert_60 : decode cX5_insert 60 = .ok (.iload 6, 2) := by decide +kernel
theorem dX5_insert_62 : decode cX5_insert 62 = .ok (.iload 7, 2) := by decide +kernel
theorem dX5_insert_64 : decode cX5_insert 64 = .ok (.iload 5, 2) := by decide +kernel
theorem dX5_insert_66 : decode cX5_insert 66 = .ok (.invokestatic 54, 3) := by decide +kernel
theorem dX5_insert_69 : decode cX5_insert 69 = .ok (.iload_n 1, 1) := by decide +kernel
theorem dX5_insert_70 : decode cX5_insert 70 = .ok (.iconst 1, 1) := by decide +kernel
theorem dX5_insert_71 : decode cX5_insert 71 = .ok (.iadd, 1) := by decide +kernel
theorem dX5_insert_72 : decode cX5_insert 72 = .ok (.istore 8, 2) := by decide +kernel
theorem dX5_insert_74 : decode cX5_insert 74 = .ok (.iload 8, 2) := by decide +kernel
theorem dX5_insert_76 : decode cX5_insert 76 = .ok (.bipush 16, 2) := by decide +kernel
theorem dX5_insert_78 : decode cX5_insert 78 = .ok (.if_icmp .gt 20, 3) := by decide +kernel
theorem dX5_insert_81 : decode cX5_insert 81 = .ok (.aload_n 0, 1) := by decide +kernel
theorem dX5_insert_82 : decode cX5_insert 82 = .ok (.getfield 9, 3) := by decide +kernel
theorem dX5_insert_85 : decode cX5_insert 85 = .ok (.iload 8, 2) := by decide +kernel
theorem dX5_insert_87 : decode cX5_insert 87 = .ok (.dup2, 1) := by decide +kernel
theorem dX5_insert_88 : decode cX5_insert 88 = .ok (.iaload, 1) := by decide +kernel
theorem dX5_insert_89 : decode cX5_insert 89 = .ok (.iconst 1, 1) := by decide +kernel
theorem dX5_insert_90 : decode cX5_insert 90 = .ok (.iadd, 1) := by decide +kernel
theorem dX5_insert_91 : decode cX5_insert 91 = .ok (.iastore, 1) := by decide +kernel
theorem dX5_insert_92 : decode cX5_insert 92 = .ok (.iinc 8 1, 3) := by decide +kernel
theorem dX5_insert_95 : decode cX5_insert 95 = .ok (.goto (-21), 3) := by decide +kernel
theorem dX5_insert_98 : decode cX5_insert 98 = .ok (.return_, 1) := by decide +kernel
theorem dX5_insertAt_0 : decode cX5_insertAt 0 = .ok (.aload_n 0, 1) := by decide +kernel
theorem dX5_insertAt_1 : decode cX5_insertAt 1 = .ok (.iload_n 1, 1) := by decide +kernel
theorem dX5_insertAt_2 : decode cX5_insertAt 2 = .ok (.aload_n 0, 1) := by decide +kernel
theorem dX5_insertAt_3 : decode cX5_insertAt 3 = .ok (.iload_n 1, 1) := by decide +kernel
theorem dX5_insertAt_4 : decode cX5_insertAt 4 = .ok (.iconst 1, 1) := by decide +kernel
theorem dX5_insertAt_5 : decode cX5_insertAt 5 = .ok (.iadd, 1) := by decide +kernel
theorem dX5_insertAt_6 : decode cX5_insertAt 6 = .ok (.iload_n 2, 1) := by decide +kernel
theorem dX5_insertAt_7 : decode cX5_insertAt 7 = .ok (.invokestatic 58, 3) := by decide +kernel
theorem dX5_insertAt_10 : decode cX5_insertAt 10 = .ok (.aload_n 0, 1) := by decide +kernel
theorem dX5_insertAt_11 : decode cX5_insertAt 11 = .ok (.iload_n 1, 1) := by decide +kernel
theorem dX5_insertAt_12 : decode cX5_insertAt 12 = .ok (.iload_n 3, 1) := by decide +kernel
theorem dX5_insertAt_13 : decode cX5_insertAt 13 = .ok (.iastore, 1) := by decide +kernel
theorem dX5_insertAt_14 : decode cX5_insertAt 14 = .ok (.return_, 1) := by decide +kernel
theorem dX5_setEnd_0 : decode cX5_setEnd 0 = .ok (.aload_n 0, 1) := by decide +kernel
theorem dX5_setEnd_1 : decode cX5_setEnd 1 = .ok (.getfield 27, 3) := by decide +kernel
theorem dX5_setEnd_4 : decode cX5_setEnd 4 = .ok (.iload_n 1, 1) := by decide +kernel
theorem dX5_setEnd_5 : decode cX5_setEnd 5 = .ok (.iload_n 2, 1) := by decide +kernel
theorem dX5_setEnd_6 : decode cX5_setEnd 6 = .ok (.iastore, 1) := by decide +kernel
theorem dX5_setEnd_7 : decode cX5_setEnd 7 = .ok (.aload_n 0, 1) := by decide +kernel
theorem dX5_setEnd_8 : decode cX5_setEnd 8 = .ok (.getfield 30, 3) := by decide +kernel
theorem dX5_setEnd_11 : decode cX5_setEnd 11 = .ok (.iload_n 1, 1) := by decide +kernel
theorem dX5_setEnd_12 : decode cX5_setEnd 12 = .ok (.iload_n 2, 1) := by decide +kernel
theorem dX5_setEnd_13 : decode cX5_setEnd 13 = .ok (.iconst 1, 1) := by decide +kernel
theorem dX5_setEnd_14 : decode cX5_setEnd 14 = .ok (.if_icmp .ne 7, 3) := by decide +kernel
theorem dX5_setEnd_17 : decode cX5_setEnd 17 = .ok (.iconst 0, 1) := by decide +kernel
theorem dX5_setEnd_18 : decode cX5_setEnd 18 = .ok (.goto 4, 3) := by decide +kernel
theorem dX5_setEnd_21 : decode cX5_setEnd 21 = .ok (.iload_n 3, 1) := by decide +kernel
theorem dX5_setEnd_22 : decode cX5_setEnd 22 = .ok (.iastore, 1) := by decide +kernel
theorem dX5_setEnd_23 : decode cX5_setEnd 23 = .ok (.aload_n 0, 1) := by decide +kernel
theorem dX5_setEnd_24 : decode cX5_setEnd 24 = .ok (.getfield 33, 3) := by decide +kernel
theorem dX5_setEnd_27 : decode cX5_setEnd 27 = .ok (.iload_n 1, 1) := by decide +kernel
theorem dX5_setEnd_28 : decode cX5_setEnd 28 = .ok (.iload_n 2, 1) := by decide +kernel
theorem dX5_setEnd_29 : decode cX5_setEnd 29 = .ok (.ifCond .ne 7, 3) := by decide +kernel
theorem dX5_setEnd_32 : decode cX5_setEnd 32 = .ok (.iconst 0, 1) := by decide +kernel
theorem dX5_setEnd_33 : decode cX5_setEnd 33 = .ok (.goto 5, 3) := by decide +kernel
theorem dX5_setEnd_36 : decode cX5_setEnd 36 = .ok (.iload 4, 2) := by decide +kernel
theorem dX5_setEnd_38 : decode cX5_setEnd 38 = .ok (.iastore, 1) := by decide +kernel
theorem dX5_setEnd_39 : decode cX5_setEnd 39 = .ok (.aload_n 0, 1) := by decide +kernel
theorem dX5_setEnd_40 : decode cX5_setEnd 40 = .ok (.getfield 36, 3) := by decide +kernel
theorem dX5_setEnd_43 : decode cX5_setEnd 43 = .ok (.iload_n 1, 1) := by decide +kernel
theorem dX5_setEnd_44 : decode cX5_setEnd 44 = .ok (.iload_n 2, 1) := by decide +kernel
theorem dX5_setEnd_45 : decode cX5_setEnd 45 = .ok (.iconst 2, 1) := by decide +kernel
theorem dX5_setEnd_46 : decode cX5_setEnd 46 = .ok (.if_icmp .ne 8, 3) := by decide +kernel
theorem dX5_setEnd_49 : decode cX5_setEnd 49 = .ok (.iload 5, 2) := by decide +kernel
theorem dX5_setEnd_51 : decode cX5_setEnd 51 = .ok (.goto 9, 3) := by decide +kernel
theorem dX5_setEnd_54 : decode cX5_setEnd 54 = .ok (.aload_n 0, 1) := by decide +kernel
theorem dX5_setEnd_55 : decode cX5_setEnd 55 = .ok (.getfield 33, 3) := by decide +kernel
theorem dX5_setEnd_58 : decode cX5_setEnd 58 = .ok (.iload_n 1, 1) := by decide +kernel
theorem dX5_setEnd_59 : decode cX5_setEnd 59 = .ok (.iaload, 1) := by decide +kernel
theorem dX5_setEnd_60 : decode cX5_setEnd 60 = .ok (.iastore, 1) := by decide +kernel
theorem dX5_setEnd_61 : decode cX5_setEnd 61 = .ok (.return_, 1) := by decide +kernel
theorem dX5_forget_0 : decode cX5_forget 0 = .ok (.aload_n 0, 1) := by decide +kernel
theorem dX5_forget_1 : decode cX5_forget 1 = .ok (.iconst 0, 1) := by decide +kernel
theorem dX5_forget_2 : decode cX5_forget 2 = .ok (.putfield 46, 3) := by decide +kernel
theorem dX5_forget_5 : decode cX5_forget 5 = .ok (.aload_n 0, 1) := by decide +kernel
theorem dX5_forget_6 : decode cX5_forget 6 = .ok (.getfield 9, 3) := by decide +kernel
theorem dX5_forget_9 : decode cX5_forget 9 = .ok (.iconst 0, 1) := by decide +kernel
theorem dX5_forget_10 : decode cX5_forget 10 = .ok (.invokestatic 64, 3) := by decide +kernel
theorem dX5_forget_13 : decode cX5_forget 13 = .ok (.aload_n 0, 1) := by decide +kernel
theorem dX5_forget_14 : decode cX5_forget 14 = .ok (.getfield 27, 3) := by decide +kernel
theorem dX5_forget_17 : decode cX5_forget 17 = .ok (.iconst 0, 1) := by decide +kernel
theorem dX5_forget_18 : decode cX5_forget 18 = .ok (.invokestatic 64, 3) := by decide +kernel
theorem dX5_forget_21 : decode cX5_forget 21 = .ok (.aload_n 0, 1) := by decide +kernel
theorem dX5_forget_22 : decode cX5_forget 22 = .ok (.getfield 30, 3) := by decide +kernel
theorem dX5_forget_25 : decode cX5_forget 25 = .ok (.iconst 0, 1) := by decide +kernel
theorem dX5_forget_26 : decode cX5_forget 26 = .ok (.invokestatic 64, 3) := by decide +kernel
theorem dX5_forget_29 : decode cX5_forget 29 = .ok (.return_, 1) := by decide +kernel
theorem dX5_endCounts_0 : decode cX5_endCounts 0 = .ok (.aload_n 0, 1) := by decide +kernel
theorem dX5_endCounts_1 : decode cX5_endCounts 1 = .ok (.getfield 27, 3) := by decide +kernel
theorem dX5_endCounts_4 : decode cX5_endCounts 4 = .ok (.iload_n 1, 1) := by decide +kernel
theorem dX5_endCounts_5 : decode cX5_endCounts 5 = .ok (.iaload, 1) := by decide +kernel
theorem dX5_endCounts_6 : decode cX5_endCounts 6 = .ok (.ifCond .eq 29, 3) := by decide +kernel
theorem dX5_endCounts_9 : decode cX5_endCounts 9 = .ok (.aload_n 0, 1) := by decide +kernel
theorem dX5_endCounts_10 : decode cX5_endCounts 10 = .ok (.aload_n 0, 1) := by decide +kernel
theorem dX5_endCounts_11 : decode cX5_endCounts 11 = .ok (.getfield 33, 3) := by decide +kernel
theorem dX5_endCounts_14 : decode cX5_endCounts 14 = .ok (.iload_n 1, 1) := by decide +kernel
theorem dX5_endCounts_15 : decode cX5_endCounts 15 = .ok (.iaload, 1) := by decide +kernel
theorem dX5_endCounts_16 : decode cX5_endCounts 16 = .ok (.invokevirtual 70, 3) := by decide +kernel
theorem dX5_endCounts_19 : decode cX5_endCounts 19 = .ok (.ifCond .eq 20, 3) := by decide +kernel
theorem dX5_endCounts_22 : decode cX5_endCounts 22 = .ok (.aload_n 0, 1) := by decide +kernel
theorem dX5_endCounts_23 : decode cX5_endCounts 23 = .ok (.aload_n 0, 1) := by decide +kernel
theorem dX5_endCounts_24 : decode cX5_endCounts 24 = .ok (.getfield 36, 3) := by decide +kernel
theorem dX5_endCounts_27 : decode cX5_endCounts 27 = .ok (.iload_n 1, 1) := by decide +kernel
theorem dX5_endCounts_28 : decode cX5_endCounts 28 = .ok (.iaload, 1) := by decide +kernel
theorem dX5_endCounts_29 : decode cX5_endCounts 29 = .ok (.invokevirtual 70, 3) := by decide +kernel
theorem dX5_endCounts_32 : decode cX5_endCounts 32 = .ok (.ifCond .eq 7, 3) := by decide +kernel
theorem dX5_endCounts_35 : decode cX5_endCounts 35 = .ok (.iconst 1, 1) := by decide +kernel
theorem dX5_endCounts_36 : decode cX5_endCounts 36 = .ok (.goto 4, 3) := by decide +kernel
theorem dX5_endCounts_39 : decode cX5_endCounts 39 = .ok (.iconst 0, 1) := by decide +kernel
theorem dX5_endCounts_40 : decode cX5_endCounts 40 = .ok (.ireturn, 1) := by decide +kernel
theorem dX5_howCounts_0 : decode cX5_howCounts 0 = .ok (.aload_n 0, 1) := by decide +kernel
theorem dX5_howCounts_1 : decode cX5_howCounts 1 = .ok (.iload_n 1, 1) := by decide +kernel
theorem dX5_howCounts_2 : decode cX5_howCounts 2 = .ok (.invokevirtual 73, 3) := by decide +kernel
theorem dX5_howCounts_5 : decode cX5_howCounts 5 = .ok (.ifCond .eq 12, 3) := by decide +kernel
theorem dX5_howCounts_8 : decode cX5_howCounts 8 = .ok (.aload_n 0, 1) := by decide +kernel
theorem dX5_howCounts_9 : decode cX5_howCounts 9 = .ok (.getfield 27, 3) := by decide +kernel
theorem dX5_howCounts_12 : decode cX5_howCounts 12 = .ok (.iload_n 1, 1) := by decide +kernel
theorem dX5_howCounts_13 : decode cX5_howCounts 13 = .ok (.iaload, 1) := by decide +kernel
theorem dX5_howCounts_14 : decode cX5_howCounts 14 = .ok (.goto 4, 3) := by decide +kernel
theorem dX5_howCounts_17 : decode cX5_howCounts 17 = .ok (.iconst 0, 1) := by decide +kernel
theorem dX5_howCounts_18 : decode cX5_howCounts 18 = .ok (.ireturn, 1) := by decide +kernel
theorem dX5_endVariable_0 : decode cX5_endVariable 0 = .ok (.aload_n 0, 1) := by decide +kernel
theorem dX5_endVariable_1 : decode cX5_endVariable 1 = .ok (.iload_n 1, 1) := by decide +kernel
theorem dX5_endVariable_2 : decode cX5_endVariable 2 = .ok (.invokevirtual 73, 3) := by decide +kernel
theorem dX5_endVariable_5 : decode cX5_endVariable 5 = .ok (.ifCond .eq 12, 3) := by decide +kernel
theorem dX5_endVariable_8 : decode cX5_endVariable 8 = .ok (.aload_n 0, 1) := by decide +kernel
theorem dX5_endVariable_9 : decode cX5_endVariable 9 = .ok (.getfield 30, 3) := by decide +kernel
theorem dX5_endVariable_12 : decode cX5_endVariable 12 = .ok (.iload_n 1, 1) := by decide +kernel
theorem dX5_endVariable_13 : decode cX5_endVariable 13 = .ok (.iaload, 1) := by decide +kernel
theorem dX5_endVariable_14 : decode cX5_endVariable 14 = .ok (.goto 4, 3) := by decide +kernel
theorem dX5_endVariable_17 : decode cX5_endVariable 17 = .ok (.iconst 0, 1) := by decide +kernel
theorem dX5_endVariable_18 : decode cX5_endVariable 18 = .ok (.ireturn, 1) := by decide +kernel
theorem dX5_next_0 : decode cX5_next 0 = .ok (.iload_n 2, 1) := by decide +kernel
theorem dX5_next_1 : decode cX5_next 1 = .ok (.ifCond .eq 12, 3) := by decide +kernel
theorem dX5_next_4 : decode cX5_next 4 = .ok (.aload_n 0, 1) := by decide +kernel
theorem dX5_next_5 : decode cX5_next 5 = .ok (.getfield 33, 3) := by decide +kernel
theorem dX5_next_8 : decode cX5_next 8 = .ok (.iload_n 1, 1) := by decide +kernel
theorem dX5_next_9 : decode cX5_next 9 = .ok (.iaload, 1) := by decide +kernel
theorem dX5_next_10 : decode cX5_next 10 = .ok (.goto 9, 3) := by decide +kernel
theorem dX5_next_13 : decode cX5_next 13 = .ok (.aload_n 0, 1) := by decide +kernel
theorem dX5_next_14 : decode cX5_next 14 = .ok (.getfield 36, 3) := by decide +kernel
theorem dX5_next_17 : decode cX5_next 17 = .ok (.iload_n 1, 1) := by decide +kernel
theorem dX5_next_18 : decode cX5_next 18 = .ok (.iaload, 1) := by decide +kernel
theorem dX5_next_19 : decode cX5_next 19 = .ok (.ireturn, 1) := by decide +kernel
theorem dX5_toldBlocks_0 : decode cX5_toldBlocks 0 = .ok (.aload_n 0, 1) := by decide +kernel
theorem dX5_toldBlocks_1 : decode cX5_toldBlocks 1 = .ok (.iload_n 1, 1) := by decide +kernel
theorem dX5_toldBlocks_2 : decode cX5_toldBlocks 2 = .ok (.invokevirtual 76, 3) := by decide +kernel
theorem dX5_toldBlocks_5 : decode cX5_toldBlocks 5 = .ok (.ifCond .ne 7, 3) := by decide +kernel
theorem dX5_toldBlocks_8 : decode cX5_toldBlocks 8 = .ok (.iconst 0, 1) := by decide +kernel
theorem dX5_toldBlocks_9 : decode cX5_toldBlocks 9 = .ok (.goto 20, 3) := by decide +kernel
theorem dX5_toldBlocks_12 : decode cX5_toldBlocks 12 = .ok (.iconst 1, 1) := by decide +kernel
theorem dX5_toldBlocks_13 : decode cX5_toldBlocks 13 = .ok (.aload_n 0, 1) := by decide +kernel
theorem dX5_toldBlocks_14 : decode cX5_toldBlocks 14 = .ok (.getfield 33, 3) := by decide +kernel
theorem dX5_toldBlocks_17 : decode cX5_toldBlocks 17 = .ok (.iload_n 1, 1) := by decide +kernel
theorem dX5_toldBlocks_18 : decode cX5_toldBlocks 18 = .ok (.iaload, 1) := by decide +kernel
theorem dX5_toldBlocks_19 : decode cX5_toldBlocks 19 = .ok (.ishl, 1) := by decide +kernel
theorem dX5_toldBlocks_20 : decode cX5_toldBlocks 20 = .ok (.iconst 1, 1) := by decide +kernel
theorem dX5_toldBlocks_21 : decode cX5_toldBlocks 21 = .ok (.aload_n 0, 1) := by decide +kernel
theorem dX5_toldBlocks_22 : decode cX5_toldBlocks 22 = .ok (.getfield 36, 3) := by decide +kernel
theorem dX5_toldBlocks_25 : decode cX5_toldBlocks 25 = .ok (.iload_n 1, 1) := by decide +kernel
theorem dX5_toldBlocks_26 : decode cX5_toldBlocks 26 = .ok (.iaload, 1) := by decide +kernel
theorem dX5_toldBlocks_27 : decode cX5_toldBlocks 27 = .ok (.ishl, 1) := by decide +kernel
theorem dX5_toldBlocks_28 : decode cX5_toldBlocks 28 = .ok (.ior, 1) := by decide +kernel
theorem dX5_toldBlocks_29 : decode cX5_toldBlocks 29 = .ok (.ireturn, 1) := by decide +kernel
theorem dX5_nthEmit_0 : decode cX5_nthEmit 0 = .ok (.iconst 0, 1) := by decide +kernel
theorem dX5_nthEmit_1 : decode cX5_nthEmit 1 = .ok (.istore_n 3, 1) := by decide +kernel
theorem dX5_nthEmit_2 : decode cX5_nthEmit 2 = .ok (.aload_n 0, 1) := by decide +kernel
theorem dX5_nthEmit_3 : decode cX5_nthEmit 3 = .ok (.getfield 9, 3) := by decide +kernel
theorem dX5_nthEmit_6 : decode cX5_nthEmit 6 = .ok (.iload_n 1, 1) := by decide +kernel
theorem dX5_nthEmit_7 : decode cX5_nthEmit 7 = .ok (.iaload, 1) := by decide +kernel
theorem dX5_nthEmit_8 : decode cX5_nthEmit 8 = .ok (.istore 4, 2) := by decide +kernel
theorem dX5_nthEmit_10 : decode cX5_nthEmit 10 = .ok (.iload 4, 2) := by decide +kernel
theorem dX5_nthEmit_12 : decode cX5_nthEmit 12 = .ok (.aload_n 0, 1) := by decide +kernel
theorem dX5_nthEmit_13 : decode cX5_nthEmit 13 = .ok (.getfield 9, 3) := by decide +kernel
theorem dX5_nthEmit_16 : decode cX5_nthEmit 16 = .ok (.iload_n 1, 1) := by decide +kernel
theorem dX5_nthEmit_17 : decode cX5_nthEmit 17 = .ok (.iconst 1, 1) := by decide +kernel
theorem dX5_nthEmit_18 : decode cX5_nthEmit 18 = .ok (.iadd, 1) := by decide +kernel
theorem dX5_nthEmit_19 : decode cX5_nthEmit 19 = .ok (.iaload, 1) := by decide +kernel
theorem dX5_nthEmit_20 : decode cX5_nthEmit 20 = .ok (.if_icmp .ge 32, 3) := by decide +kernel
theorem dX5_nthEmit_23 : decode cX5_nthEmit 23 = .ok (.aload_n 0, 1) := by decide +kernel
theorem dX5_nthEmit_24 : decode cX5_nthEmit 24 = .ok (.getfield 15, 3) := by decide +kernel
theorem dX5_nthEmit_27 : decode cX5_nthEmit 27 = .ok (.iload 4, 2) := by decide +kernel
theorem dX5_nthEmit_29 : decode cX5_nthEmit 29 = .ok (.iaload, 1) := by decide +kernel
theorem dX5_nthEmit_30 : decode cX5_nthEmit 30 = .ok (.bipush 14, 2) := by decide +kernel
theorem dX5_nthEmit_32 : decode cX5_nthEmit 32 = .ok (.if_icmp .ne 14, 3) := by decide +kernel
theorem dX5_nthEmit_35 : decode cX5_nthEmit 35 = .ok (.iload_n 3, 1) := by decide +kernel
theorem dX5_nthEmit_36 : decode cX5_nthEmit 36 = .ok (.iload_n 2, 1) := by decide +kernel
theorem dX5_nthEmit_37 : decode cX5_nthEmit 37 = .ok (.if_icmp .ne 6, 3) := by decide +kernel
theorem dX5_nthEmit_40 : decode cX5_nthEmit 40 = .ok (.iload 4, 2) := by decide +kernel
theorem dX5_nthEmit_42 : decode cX5_nthEmit 42 = .ok (.ireturn, 1) := by decide +kernel
theorem dX5_nthEmit_43 : decode cX5_nthEmit 43 = .ok (.iinc 3 1, 3) := by decide +kernel
theorem dX5_nthEmit_46 : decode cX5_nthEmit 46 = .ok (.iinc 4 1, 3) := by decide +kernel
theorem dX5_nthEmit_49 : decode cX5_nthEmit 49 = .ok (.goto (-39), 3) := by decide +kernel
theorem dX5_nthEmit_52 : decode cX5_nthEmit 52 = .ok (.iconst (-1), 1) := by decide +kernel
theorem dX5_nthEmit_53 : decode cX5_nthEmit 53 = .ok (.ireturn, 1) := by decide +kernel
theorem dX6_init_0 : decode cX6_init 0 = .ok (.aload_n 0, 1) := by decide +kernel
theorem dX6_init_1 : decode cX6_init 1 = .ok (.invokespecial 3, 3) := by decide +kernel
theorem dX6_init_4 : decode cX6_init 4 = .ok (.aload_n 0, 1) := by decide +kernel
theorem dX6_init_5 : decode cX6_init 5 = .ok (.sipush 530, 3) := by decide +kernel
theorem dX6_init_8 : decode cX6_init 8 = .ok (.newarray .int, 2) := by decide +kernel
theorem dX6_init_10 : decode cX6_init 10 = .ok (.putfield 9, 3) := by decide +kernel
theorem dX6_init_13 : decode cX6_init 13 = .ok (.aload_n 0, 1) := by decide +kernel
theorem dX6_init_14 : decode cX6_init 14 = .ok (.bipush 100, 2) := by decide +kernel
theorem dX6_init_16 : decode cX6_init 16 = .ok (.newarray .int, 2) := by decide +kernel
theorem dX6_init_18 : decode cX6_init 18 = .ok (.putfield 15, 3) := by decide +kernel
theorem dX6_init_21 : decode cX6_init 21 = .ok (.aload_n 0, 1) := by decide +kernel
theorem dX6_init_22 : decode cX6_init 22 = .ok (.bipush 16, 2) := by decide +kernel
theorem dX6_init_24 : decode cX6_init 24 = .ok (.newarray .int, 2) := by decide +kernel
theorem dX6_init_26 : decode cX6_init 26 = .ok (.putfield 18, 3) := by decide +kernel
theorem dX6_init_29 : decode cX6_init 29 = .ok (.return_, 1) := by decide +kernel
theorem dX7_init_0 : decode cX7_init 0 = .ok (.aload_n 0, 1) := by decide +kernel
theorem dX7_init_1 : decode cX7_init 1 = .ok (.bipush 10, 2) := by decide +kernel
theorem dX7_init_3 : decode cX7_init 3 = .ok (.invokespecial 3, 3) := by decide +kernel
theorem dX7_init_6 : decode cX7_init 6 = .ok (.aload_n 0, 1) := by decide +kernel
theorem dX7_init_7 : decode cX7_init 7 = .ok (.aload_n 1, 1) := by decide +kernel
theorem dX7_init_8 : decode cX7_init 8 = .ok (.putfield 9, 3) := by decide +kernel
theorem dX7_init_11 : decode cX7_init 11 = .ok (.return_, 1) := by decide +kernel
theorem dX7_begin_0 : decode cX7_begin 0 = .ok (.iload_n 1, 1) := by decide +kernel
end
section
theorem dX7_begin_1 : decode cX7_begin 1 = .ok (.iconst (-1), 1) := by decide +kernel
theorem dX7_begin_2 : decode cX7_begin 2 = .ok (.if_icmp .ne 11, 3) := by decide +kernel
theorem dX7_begin_5 : decode cX7_begin 5 = .ok (.aload_n 0, 1) := by decide +kernel
theorem dX7_begin_6 : decode cX7_begin 6 = .ok (.getfield 15, 3) := by decide +kernel
theorem dX7_begin_9 : decode cX7_begin 9 = .ok (.iconst 0, 1) := by decide +kernel
theorem dX7_begin_10 : decode cX7_begin 10 = .ok (.invokestatic 19, 3) := by decide +kernel
theorem dX7_begin_13 : decode cX7_begin 13 = .ok (.return_, 1) := by decide +kernel
theorem dX7_keeps_0 : decode cX7_keeps 0 = .ok (.iconst 1, 1) := by decide +kernel
theorem dX7_keeps_1 : decode cX7_keeps 1 = .ok (.ireturn, 1) := by decide +kernel
theorem dX7_target_0 : decode cX7_target 0 = .ok (.aload_n 0, 1) := by decide +kernel
theorem dX7_target_1 : decode cX7_target 1 = .ok (.getfield 9, 3) := by decide +kernel
theorem dX7_target_4 : decode cX7_target 4 = .ok (.getfield 25, 3) := by decide +kernel
theorem dX7_target_7 : decode cX7_target 7 = .ok (.iload_n 1, 1) := by decide +kernel
theorem dX7_target_8 : decode cX7_target 8 = .ok (.iaload, 1) := by decide +kernel
theorem dX7_target_9 : decode cX7_target 9 = .ok (.ireturn, 1) := by decide +kernel
theorem dX7_left_0 : decode cX7_left 0 = .ok (.aload_n 0, 1) := by decide +kernel
theorem dX7_left_1 : decode cX7_left 1 = .ok (.getfield 9, 3) := by decide +kernel
theorem dX7_left_4 : decode cX7_left 4 = .ok (.getfield 30, 3) := by decide +kernel
theorem dX7_left_7 : decode cX7_left 7 = .ok (.iload_n 1, 1) := by decide +kernel
theorem dX7_left_8 : decode cX7_left 8 = .ok (.iaload, 1) := by decide +kernel
theorem dX7_left_9 : decode cX7_left 9 = .ok (.ireturn, 1) := by decide +kernel
theorem dX7_right_0 : decode cX7_right 0 = .ok (.aload_n 0, 1) := by decide +kernel
theorem dX7_right_1 : decode cX7_right 1 = .ok (.getfield 9, 3) := by decide +kernel
theorem dX7_right_4 : decode cX7_right 4 = .ok (.getfield 33, 3) := by decide +kernel
theorem dX7_right_7 : decode cX7_right 7 = .ok (.iload_n 1, 1) := by decide +kernel
theorem dX7_right_8 : decode cX7_right 8 = .ok (.iaload, 1) := by decide +kernel
theorem dX7_right_9 : decode cX7_right 9 = .ok (.ireturn, 1) := by decide +kernel
theorem dX7_endCell_0 : decode cX7_endCell 0 = .ok (.aload_n 0, 1) := by decide +kernel
theorem dX7_endCell_1 : decode cX7_endCell 1 = .ok (.getfield 9, 3) := by decide +kernel
theorem dX7_endCell_4 : decode cX7_endCell 4 = .ok (.iload_n 1, 1) := by decide +kernel
theorem dX7_endCell_5 : decode cX7_endCell 5 = .ok (.invokevirtual 36, 3) := by decide +kernel
theorem dX7_endCell_8 : decode cX7_endCell 8 = .ok (.ireturn, 1) := by decide +kernel
theorem dX8_init_0 : decode cX8_init 0 = .ok (.aload_n 0, 1) := by decide +kernel
theorem dX8_init_1 : decode cX8_init 1 = .ok (.sipush 261, 3) := by decide +kernel
theorem dX8_init_4 : decode cX8_init 4 = .ok (.invokespecial 3, 3) := by decide +kernel
theorem dX8_init_7 : decode cX8_init 7 = .ok (.aload_n 0, 1) := by decide +kernel
theorem dX8_init_8 : decode cX8_init 8 = .ok (.bipush 10, 2) := by decide +kernel
theorem dX8_init_10 : decode cX8_init 10 = .ok (.newarray .int, 2) := by decide +kernel
theorem dX8_init_12 : decode cX8_init 12 = .ok (.putfield 9, 3) := by decide +kernel
theorem dX8_init_15 : decode cX8_init 15 = .ok (.aload_n 0, 1) := by decide +kernel
theorem dX8_init_16 : decode cX8_init 16 = .ok (.aload_n 1, 1) := by decide +kernel
theorem dX8_init_17 : decode cX8_init 17 = .ok (.putfield 15, 3) := by decide +kernel
theorem dX8_init_20 : decode cX8_init 20 = .ok (.aload_n 0, 1) := by decide +kernel
theorem dX8_init_21 : decode cX8_init 21 = .ok (.aload_n 2, 1) := by decide +kernel
theorem dX8_init_22 : decode cX8_init 22 = .ok (.putfield 19, 3) := by decide +kernel
theorem dX8_init_25 : decode cX8_init 25 = .ok (.aload_n 0, 1) := by decide +kernel
theorem dX8_init_26 : decode cX8_init 26 = .ok (.aload_n 3, 1) := by decide +kernel
theorem dX8_init_27 : decode cX8_init 27 = .ok (.putfield 23, 3) := by decide +kernel
theorem dX8_init_30 : decode cX8_init 30 = .ok (.aload_n 0, 1) := by decide +kernel
theorem dX8_init_31 : decode cX8_init 31 = .ok (.aload 4, 2) := by decide +kernel
theorem dX8_init_33 : decode cX8_init 33 = .ok (.putfield 27, 3) := by decide +kernel
theorem dX8_init_36 : decode cX8_init 36 = .ok (.aload_n 0, 1) := by decide +kernel
theorem dX8_init_37 : decode cX8_init 37 = .ok (.aload 4, 2) := by decide +kernel
theorem dX8_init_39 : decode cX8_init 39 = .ok (.ifnonnull 10, 3) := by decide +kernel
theorem dX8_init_42 : decode cX8_init 42 = .ok (.aload_n 3, 1) := by decide +kernel
theorem dX8_init_43 : decode cX8_init 43 = .ok (.getfield 31, 3) := by decide +kernel
theorem dX8_init_46 : decode cX8_init 46 = .ok (.goto 8, 3) := by decide +kernel
theorem dX8_init_49 : decode cX8_init 49 = .ok (.aload 4, 2) := by decide +kernel
theorem dX8_init_51 : decode cX8_init 51 = .ok (.getfield 37, 3) := by decide +kernel
theorem dX8_init_54 : decode cX8_init 54 = .ok (.putfield 40, 3) := by decide +kernel
theorem dX8_init_57 : decode cX8_init 57 = .ok (.return_, 1) := by decide +kernel
theorem dX8_goes_0 : decode cX8_goes 0 = .ok (.aload_n 0, 1) := by decide +kernel
theorem dX8_goes_1 : decode cX8_goes 1 = .ok (.getfield 27, 3) := by decide +kernel
theorem dX8_goes_4 : decode cX8_goes 4 = .ok (.ifnull 19, 3) := by decide +kernel
theorem dX8_goes_7 : decode cX8_goes 7 = .ok (.aload_n 0, 1) := by decide +kernel
theorem dX8_goes_8 : decode cX8_goes 8 = .ok (.getfield 27, 3) := by decide +kernel
theorem dX8_goes_11 : decode cX8_goes 11 = .ok (.getfield 41, 3) := by decide +kernel
theorem dX8_goes_14 : decode cX8_goes 14 = .ok (.iload_n 1, 1) := by decide +kernel
theorem dX8_goes_15 : decode cX8_goes 15 = .ok (.baload, 1) := by decide +kernel
theorem dX8_goes_16 : decode cX8_goes 16 = .ok (.ifCond .eq 7, 3) := by decide +kernel
theorem dX8_goes_19 : decode cX8_goes 19 = .ok (.iconst 1, 1) := by decide +kernel
theorem dX8_goes_20 : decode cX8_goes 20 = .ok (.goto 4, 3) := by decide +kernel
theorem dX8_goes_23 : decode cX8_goes 23 = .ok (.iconst 0, 1) := by decide +kernel
theorem dX8_goes_24 : decode cX8_goes 24 = .ok (.ireturn, 1) := by decide +kernel
theorem dX8_begin_0 : decode cX8_begin 0 = .ok (.aload_n 0, 1) := by decide +kernel
theorem dX8_begin_1 : decode cX8_begin 1 = .ok (.getfield 23, 3) := by decide +kernel
theorem dX8_begin_4 : decode cX8_begin 4 = .ok (.getfield 45, 3) := by decide +kernel
theorem dX8_begin_7 : decode cX8_begin 7 = .ok (.iload_n 2, 1) := by decide +kernel
theorem dX8_begin_8 : decode cX8_begin 8 = .ok (.iaload, 1) := by decide +kernel
theorem dX8_begin_9 : decode cX8_begin 9 = .ok (.istore_n 3, 1) := by decide +kernel
theorem dX8_begin_10 : decode cX8_begin 10 = .ok (.aload_n 0, 1) := by decide +kernel
theorem dX8_begin_11 : decode cX8_begin 11 = .ok (.getfield 23, 3) := by decide +kernel
theorem dX8_begin_14 : decode cX8_begin 14 = .ok (.getfield 48, 3) := by decide +kernel
theorem dX8_begin_17 : decode cX8_begin 17 = .ok (.iload_n 2, 1) := by decide +kernel
theorem dX8_begin_18 : decode cX8_begin 18 = .ok (.iaload, 1) := by decide +kernel
theorem dX8_begin_19 : decode cX8_begin 19 = .ok (.istore 4, 2) := by decide +kernel
theorem dX8_begin_21 : decode cX8_begin 21 = .ok (.aload_n 0, 1) := by decide +kernel
theorem dX8_begin_22 : decode cX8_begin 22 = .ok (.getfield 19, 3) := by decide +kernel
theorem dX8_begin_25 : decode cX8_begin 25 = .ok (.getfield 51, 3) := by decide +kernel
theorem dX8_begin_28 : decode cX8_begin 28 = .ok (.iload_n 2, 1) := by decide +kernel
theorem dX8_begin_29 : decode cX8_begin 29 = .ok (.iaload, 1) := by decide +kernel
theorem dX8_begin_30 : decode cX8_begin 30 = .ok (.istore 5, 2) := by decide +kernel
theorem dX8_begin_32 : decode cX8_begin 32 = .ok (.iload_n 1, 1) := by decide +kernel
theorem dX8_begin_33 : decode cX8_begin 33 = .ok (.iconst (-1), 1) := by decide +kernel
theorem dX8_begin_34 : decode cX8_begin 34 = .ok (.if_icmp .ne 11, 3) := by decide +kernel
theorem dX8_begin_37 : decode cX8_begin 37 = .ok (.iload 5, 2) := by decide +kernel
theorem dX8_begin_39 : decode cX8_begin 39 = .ok (.invokestatic 56, 3) := by decide +kernel
theorem dX8_begin_42 : decode cX8_begin 42 = .ok (.goto 9, 3) := by decide +kernel
theorem dX8_begin_45 : decode cX8_begin 45 = .ok (.iload 5, 2) := by decide +kernel
theorem dX8_begin_47 : decode cX8_begin 47 = .ok (.iload_n 1, 1) := by decide +kernel
theorem dX8_begin_48 : decode cX8_begin 48 = .ok (.invokestatic 62, 3) := by decide +kernel
theorem dX8_begin_51 : decode cX8_begin 51 = .ok (.istore 6, 2) := by decide +kernel
theorem dX8_begin_53 : decode cX8_begin 53 = .ok (.iconst 0, 1) := by decide +kernel
theorem dX8_begin_54 : decode cX8_begin 54 = .ok (.istore 7, 2) := by decide +kernel
theorem dX8_begin_56 : decode cX8_begin 56 = .ok (.iload 7, 2) := by decide +kernel
theorem dX8_begin_58 : decode cX8_begin 58 = .ok (.iload_n 3, 1) := by decide +kernel
theorem dX8_begin_59 : decode cX8_begin 59 = .ok (.if_icmp .ge 57, 3) := by decide +kernel
theorem dX8_begin_62 : decode cX8_begin 62 = .ok (.aload_n 0, 1) := by decide +kernel
theorem dX8_begin_63 : decode cX8_begin 63 = .ok (.iload 4, 2) := by decide +kernel
theorem dX8_begin_65 : decode cX8_begin 65 = .ok (.iload 7, 2) := by decide +kernel
theorem dX8_begin_67 : decode cX8_begin 67 = .ok (.iadd, 1) := by decide +kernel
theorem dX8_begin_68 : decode cX8_begin 68 = .ok (.invokevirtual 66, 3) := by decide +kernel
theorem dX8_begin_71 : decode cX8_begin 71 = .ok (.ifCond .ne 39, 3) := by decide +kernel
theorem dX8_begin_74 : decode cX8_begin 74 = .ok (.aload_n 0, 1) := by decide +kernel
theorem dX8_begin_75 : decode cX8_begin 75 = .ok (.getfield 9, 3) := by decide +kernel
theorem dX8_begin_78 : decode cX8_begin 78 = .ok (.iload 7, 2) := by decide +kernel
theorem dX8_begin_80 : decode cX8_begin 80 = .ok (.aload_n 0, 1) := by decide +kernel
theorem dX8_begin_81 : decode cX8_begin 81 = .ok (.getfield 70, 3) := by decide +kernel
theorem dX8_begin_84 : decode cX8_begin 84 = .ok (.aload_n 0, 1) := by decide +kernel
theorem dX8_begin_85 : decode cX8_begin 85 = .ok (.getfield 40, 3) := by decide +kernel
theorem dX8_begin_88 : decode cX8_begin 88 = .ok (.getfield 73, 3) := by decide +kernel
theorem dX8_begin_91 : decode cX8_begin 91 = .ok (.aload_n 0, 1) := by decide +kernel
theorem dX8_begin_92 : decode cX8_begin 92 = .ok (.getfield 23, 3) := by decide +kernel
theorem dX8_begin_95 : decode cX8_begin 95 = .ok (.getfield 78, 3) := by decide +kernel
theorem dX8_begin_98 : decode cX8_begin 98 = .ok (.iload 4, 2) := by decide +kernel
theorem dX8_begin_100 : decode cX8_begin 100 = .ok (.iload 7, 2) := by decide +kernel
theorem dX8_begin_102 : decode cX8_begin 102 = .ok (.iadd, 1) := by decide +kernel
theorem dX8_begin_103 : decode cX8_begin 103 = .ok (.iaload, 1) := by decide +kernel
theorem dX8_begin_104 : decode cX8_begin 104 = .ok (.iload 6, 2) := by decide +kernel
theorem dX8_begin_106 : decode cX8_begin 106 = .ok (.iadd, 1) := by decide +kernel
theorem dX8_begin_107 : decode cX8_begin 107 = .ok (.iaload, 1) := by decide +kernel
theorem dX8_begin_108 : decode cX8_begin 108 = .ok (.iaload, 1) := by decide +kernel
theorem dX8_begin_109 : decode cX8_begin 109 = .ok (.iastore, 1) := by decide +kernel
theorem dX8_begin_110 : decode cX8_begin 110 = .ok (.iinc 7 1, 3) := by decide +kernel
theorem dX8_begin_113 : decode cX8_begin 113 = .ok (.goto (-57), 3) := by decide +kernel
theorem dX8_begin_116 : decode cX8_begin 116 = .ok (.iconst 0, 1) := by decide +kernel
theorem dX8_begin_117 : decode cX8_begin 117 = .ok (.istore 7, 2) := by decide +kernel
theorem dX8_begin_119 : decode cX8_begin 119 = .ok (.iload 7, 2) := by decide +kernel
theorem dX8_begin_121 : decode cX8_begin 121 = .ok (.iload_n 3, 1) := by decide +kernel
theorem dX8_begin_122 : decode cX8_begin 122 = .ok (.if_icmp .ge 38, 3) := by decide +kernel
theorem dX8_begin_125 : decode cX8_begin 125 = .ok (.aload_n 0, 1) := by decide +kernel
theorem dX8_begin_126 : decode cX8_begin 126 = .ok (.iload 4, 2) := by decide +kernel
theorem dX8_begin_128 : decode cX8_begin 128 = .ok (.iload 7, 2) := by decide +kernel
theorem dX8_begin_130 : decode cX8_begin 130 = .ok (.iadd, 1) := by decide +kernel
theorem dX8_begin_131 : decode cX8_begin 131 = .ok (.invokevirtual 66, 3) := by decide +kernel
theorem dX8_begin_134 : decode cX8_begin 134 = .ok (.ifCond .ne 20, 3) := by decide +kernel
theorem dX8_begin_137 : decode cX8_begin 137 = .ok (.aload_n 0, 1) := by decide +kernel
theorem dX8_begin_138 : decode cX8_begin 138 = .ok (.getfield 70, 3) := by decide +kernel
theorem dX8_begin_141 : decode cX8_begin 141 = .ok (.iload 4, 2) := by decide +kernel
theorem dX8_begin_143 : decode cX8_begin 143 = .ok (.iload 7, 2) := by decide +kernel
theorem dX8_begin_145 : decode cX8_begin 145 = .ok (.iadd, 1) := by decide +kernel
theorem dX8_begin_146 : decode cX8_begin 146 = .ok (.aload_n 0, 1) := by decide +kernel
theorem dX8_begin_147 : decode cX8_begin 147 = .ok (.getfield 9, 3) := by decide +kernel
theorem dX8_begin_150 : decode cX8_begin 150 = .ok (.iload 7, 2) := by decide +kernel
theorem dX8_begin_152 : decode cX8_begin 152 = .ok (.iaload, 1) := by decide +kernel
theorem dX8_begin_153 : decode cX8_begin 153 = .ok (.iastore, 1) := by decide +kernel
theorem dX8_begin_154 : decode cX8_begin 154 = .ok (.iinc 7 1, 3) := by decide +kernel
theorem dX8_begin_157 : decode cX8_begin 157 = .ok (.goto (-38), 3) := by decide +kernel
theorem dX8_begin_160 : decode cX8_begin 160 = .ok (.return_, 1) := by decide +kernel
theorem dX8_keeps_0 : decode cX8_keeps 0 = .ok (.aload_n 0, 1) := by decide +kernel
theorem dX8_keeps_1 : decode cX8_keeps 1 = .ok (.getfield 23, 3) := by decide +kernel
theorem dX8_keeps_4 : decode cX8_keeps 4 = .ok (.getfield 81, 3) := by decide +kernel
theorem dX8_keeps_7 : decode cX8_keeps 7 = .ok (.iload_n 1, 1) := by decide +kernel
theorem dX8_keeps_8 : decode cX8_keeps 8 = .ok (.iaload, 1) := by decide +kernel
theorem dX8_keeps_9 : decode cX8_keeps 9 = .ok (.istore_n 2, 1) := by decide +kernel
theorem dX8_keeps_10 : decode cX8_keeps 10 = .ok (.iload_n 2, 1) := by decide +kernel
theorem dX8_keeps_11 : decode cX8_keeps 11 = .ok (.iconst (-1), 1) := by decide +kernel
theorem dX8_keeps_12 : decode cX8_keeps 12 = .ok (.if_icmp .ne 25, 3) := by decide +kernel
theorem dX8_keeps_15 : decode cX8_keeps 15 = .ok (.aload_n 0, 1) := by decide +kernel
theorem dX8_keeps_16 : decode cX8_keeps 16 = .ok (.getfield 15, 3) := by decide +kernel
theorem dX8_keeps_19 : decode cX8_keeps 19 = .ok (.getfield 84, 3) := by decide +kernel
theorem dX8_keeps_22 : decode cX8_keeps 22 = .ok (.iload_n 1, 1) := by decide +kernel
theorem dX8_keeps_23 : decode cX8_keeps 23 = .ok (.iaload, 1) := by decide +kernel
theorem dX8_keeps_24 : decode cX8_keeps 24 = .ok (.bipush 14, 2) := by decide +kernel
theorem dX8_keeps_26 : decode cX8_keeps 26 = .ok (.if_icmp .ne 7, 3) := by decide +kernel
theorem dX8_keeps_29 : decode cX8_keeps 29 = .ok (.iconst 1, 1) := by decide +kernel
theorem dX8_keeps_30 : decode cX8_keeps 30 = .ok (.goto 20, 3) := by decide +kernel
theorem dX8_keeps_33 : decode cX8_keeps 33 = .ok (.iconst 0, 1) := by decide +kernel
theorem dX8_keeps_34 : decode cX8_keeps 34 = .ok (.goto 16, 3) := by decide +kernel
theorem dX8_keeps_37 : decode cX8_keeps 37 = .ok (.aload_n 0, 1) := by decide +kernel
theorem dX8_keeps_38 : decode cX8_keeps 38 = .ok (.iload_n 2, 1) := by decide +kernel
theorem dX8_keeps_39 : decode cX8_keeps 39 = .ok (.invokevirtual 66, 3) := by decide +kernel
theorem dX8_keeps_42 : decode cX8_keeps 42 = .ok (.ifCond .ne 7, 3) := by decide +kernel
theorem dX8_keeps_45 : decode cX8_keeps 45 = .ok (.iconst 1, 1) := by decide +kernel
theorem dX8_keeps_46 : decode cX8_keeps 46 = .ok (.goto 4, 3) := by decide +kernel
theorem dX8_keeps_49 : decode cX8_keeps 49 = .ok (.iconst 0, 1) := by decide +kernel
theorem dX8_keeps_50 : decode cX8_keeps 50 = .ok (.ireturn, 1) := by decide +kernel
theorem dX8_target_0 : decode cX8_target 0 = .ok (.aload_n 0, 1) := by decide +kernel
theorem dX8_target_1 : decode cX8_target 1 = .ok (.getfield 23, 3) := by decide +kernel
theorem dX8_target_4 : decode cX8_target 4 = .ok (.getfield 81, 3) := by decide +kernel
theorem dX8_target_7 : decode cX8_target 7 = .ok (.iload_n 1, 1) := by decide +kernel
theorem dX8_target_8 : decode cX8_target 8 = .ok (.iaload, 1) := by decide +kernel
theorem dX8_target_9 : decode cX8_target 9 = .ok (.ireturn, 1) := by decide +kernel
theorem dX8_left_0 : decode cX8_left 0 = .ok (.aload_n 0, 1) := by decide +kernel
theorem dX8_left_1 : decode cX8_left 1 = .ok (.getfield 15, 3) := by decide +kernel
theorem dX8_left_4 : decode cX8_left 4 = .ok (.getfield 84, 3) := by decide +kernel
theorem dX8_left_7 : decode cX8_left 7 = .ok (.iload_n 1, 1) := by decide +kernel
theorem dX8_left_8 : decode cX8_left 8 = .ok (.iaload, 1) := by decide +kernel
theorem dX8_left_9 : decode cX8_left 9 = .ok (.bipush 14, 2) := by decide +kernel
theorem dX8_left_11 : decode cX8_left 11 = .ok (.if_icmp .ne 13, 3) := by decide +kernel
theorem dX8_left_14 : decode cX8_left 14 = .ok (.aload_n 0, 1) := by decide +kernel
theorem dX8_left_15 : decode cX8_left 15 = .ok (.getfield 40, 3) := by decide +kernel
theorem dX8_left_18 : decode cX8_left 18 = .ok (.getfield 89, 3) := by decide +kernel
theorem dX8_left_21 : decode cX8_left 21 = .ok (.iload_n 1, 1) := by decide +kernel
theorem dX8_left_22 : decode cX8_left 22 = .ok (.iaload, 1) := by decide +kernel
theorem dX8_left_23 : decode cX8_left 23 = .ok (.ireturn, 1) := by decide +kernel
theorem dX8_left_24 : decode cX8_left 24 = .ok (.aload_n 0, 1) := by decide +kernel
theorem dX8_left_25 : decode cX8_left 25 = .ok (.getfield 40, 3) := by decide +kernel
theorem dX8_left_28 : decode cX8_left 28 = .ok (.getfield 73, 3) := by decide +kernel
theorem dX8_left_31 : decode cX8_left 31 = .ok (.aload_n 0, 1) := by decide +kernel
theorem dX8_left_32 : decode cX8_left 32 = .ok (.getfield 23, 3) := by decide +kernel
theorem dX8_left_35 : decode cX8_left 35 = .ok (.getfield 78, 3) := by decide +kernel
theorem dX8_left_38 : decode cX8_left 38 = .ok (.aload_n 0, 1) := by decide +kernel
theorem dX8_left_39 : decode cX8_left 39 = .ok (.getfield 23, 3) := by decide +kernel
theorem dX8_left_42 : decode cX8_left 42 = .ok (.getfield 81, 3) := by decide +kernel
theorem dX8_left_45 : decode cX8_left 45 = .ok (.iload_n 1, 1) := by decide +kernel
theorem dX8_left_46 : decode cX8_left 46 = .ok (.iaload, 1) := by decide +kernel
theorem dX8_left_47 : decode cX8_left 47 = .ok (.iaload, 1) := by decide +kernel
theorem dX8_left_48 : decode cX8_left 48 = .ok (.iaload, 1) := by decide +kernel
theorem dX8_left_49 : decode cX8_left 49 = .ok (.ireturn, 1) := by decide +kernel
theorem dX8_right_0 : decode cX8_right 0 = .ok (.aload_n 0, 1) := by decide +kernel
theorem dX8_right_1 : decode cX8_right 1 = .ok (.getfield 40, 3) := by decide +kernel
theorem dX8_right_4 : decode cX8_right 4 = .ok (.getfield 73, 3) := by decide +kernel
theorem dX8_right_7 : decode cX8_right 7 = .ok (.aload_n 0, 1) := by decide +kernel
theorem dX8_right_8 : decode cX8_right 8 = .ok (.getfield 23, 3) := by decide +kernel
theorem dX8_right_11 : decode cX8_right 11 = .ok (.getfield 78, 3) := by decide +kernel
theorem dX8_right_14 : decode cX8_right 14 = .ok (.aload_n 0, 1) := by decide +kernel
theorem dX8_right_15 : decode cX8_right 15 = .ok (.getfield 23, 3) := by decide +kernel
theorem dX8_right_18 : decode cX8_right 18 = .ok (.getfield 81, 3) := by decide +kernel
theorem dX8_right_21 : decode cX8_right 21 = .ok (.iload_n 1, 1) := by decide +kernel
theorem dX8_right_22 : decode cX8_right 22 = .ok (.iaload, 1) := by decide +kernel
theorem dX8_right_23 : decode cX8_right 23 = .ok (.iaload, 1) := by decide +kernel
theorem dX8_right_24 : decode cX8_right 24 = .ok (.iconst 1, 1) := by decide +kernel
theorem dX8_right_25 : decode cX8_right 25 = .ok (.iadd, 1) := by decide +kernel
theorem dX8_right_26 : decode cX8_right 26 = .ok (.iaload, 1) := by decide +kernel
theorem dX8_right_27 : decode cX8_right 27 = .ok (.ireturn, 1) := by decide +kernel
theorem dX8_endCell_0 : decode cX8_endCell 0 = .ok (.aload_n 0, 1) := by decide +kernel
theorem dX8_endCell_1 : decode cX8_endCell 1 = .ok (.getfield 40, 3) := by decide +kernel
theorem dX8_endCell_4 : decode cX8_endCell 4 = .ok (.getfield 92, 3) := by decide +kernel
theorem dX8_endCell_7 : decode cX8_endCell 7 = .ok (.iload_n 1, 1) := by decide +kernel
theorem dX8_endCell_8 : decode cX8_endCell 8 = .ok (.iaload, 1) := by decide +kernel
theorem dX8_endCell_9 : decode cX8_endCell 9 = .ok (.ireturn, 1) := by decide +kernel
theorem dX9_init_0 : decode cX9_init 0 = .ok (.aload_n 0, 1) := by decide +kernel
theorem dX9_init_1 : decode cX9_init 1 = .ok (.invokespecial 3, 3) := by decide +kernel
theorem dX9_init_4 : decode cX9_init 4 = .ok (.aload_n 0, 1) := by decide +kernel
theorem dX9_init_5 : decode cX9_init 5 = .ok (.sipush 261, 3) := by decide +kernel
theorem dX9_init_8 : decode cX9_init 8 = .ok (.newarray .int, 2) := by decide +kernel
theorem dX9_init_10 : decode cX9_init 10 = .ok (.putfield 9, 3) := by decide +kernel
theorem dX9_init_13 : decode cX9_init 13 = .ok (.aload_n 0, 1) := by decide +kernel
theorem dX9_init_14 : decode cX9_init 14 = .ok (.sipush 261, 3) := by decide +kernel
theorem dX9_init_17 : decode cX9_init 17 = .ok (.newarray .int, 2) := by decide +kernel
theorem dX9_init_19 : decode cX9_init 19 = .ok (.putfield 15, 3) := by decide +kernel
theorem dX9_init_22 : decode cX9_init 22 = .ok (.aload_n 0, 1) := by decide +kernel
theorem dX9_init_23 : decode cX9_init 23 = .ok (.sipush 261, 3) := by decide +kernel
theorem dX9_init_26 : decode cX9_init 26 = .ok (.newarray .int, 2) := by decide +kernel
theorem dX9_init_28 : decode cX9_init 28 = .ok (.putfield 18, 3) := by decide +kernel
theorem dX9_init_31 : decode cX9_init 31 = .ok (.aload_n 0, 1) := by decide +kernel
theorem dX9_init_32 : decode cX9_init 32 = .ok (.sipush 261, 3) := by decide +kernel
theorem dX9_init_35 : decode cX9_init 35 = .ok (.newarray .int, 2) := by decide +kernel
theorem dX9_init_37 : decode cX9_init 37 = .ok (.putfield 21, 3) := by decide +kernel
theorem dX9_init_40 : decode cX9_init 40 = .ok (.aload_n 0, 1) := by decide +kernel
theorem dX9_init_41 : decode cX9_init 41 = .ok (.sipush 262, 3) := by decide +kernel
theorem dX9_init_44 : decode cX9_init 44 = .ok (.newarray .int, 2) := by decide +kernel
theorem dX9_init_46 : decode cX9_init 46 = .ok (.putfield 24, 3) := by decide +kernel
theorem dX9_init_49 : decode cX9_init 49 = .ok (.aload_n 0, 1) := by decide +kernel
theorem dX9_init_50 : decode cX9_init 50 = .ok (.new 27, 3) := by decide +kernel
theorem dX9_init_53 : decode cX9_init 53 = .ok (.dup, 1) := by decide +kernel
theorem dX9_init_54 : decode cX9_init 54 = .ok (.invokespecial 29, 3) := by decide +kernel
theorem dX9_init_57 : decode cX9_init 57 = .ok (.putfield 30, 3) := by decide +kernel
theorem dX9_init_60 : decode cX9_init 60 = .ok (.aload_n 0, 1) := by decide +kernel
theorem dX9_init_61 : decode cX9_init 61 = .ok (.bipush 100, 2) := by decide +kernel
theorem dX9_init_63 : decode cX9_init 63 = .ok (.newarray .int, 2) := by decide +kernel
theorem dX9_init_65 : decode cX9_init 65 = .ok (.putfield 34, 3) := by decide +kernel
theorem dX9_init_68 : decode cX9_init 68 = .ok (.aload_n 0, 1) := by decide +kernel
theorem dX9_init_69 : decode cX9_init 69 = .ok (.bipush 16, 2) := by decide +kernel
theorem dX9_init_71 : decode cX9_init 71 = .ok (.newarray .int, 2) := by decide +kernel
theorem dX9_init_73 : decode cX9_init 73 = .ok (.putfield 37, 3) := by decide +kernel
theorem dX9_init_76 : decode cX9_init 76 = .ok (.aload_n 0, 1) := by decide +kernel
theorem dX9_init_77 : decode cX9_init 77 = .ok (.bipush 16, 2) := by decide +kernel
theorem dX9_init_79 : decode cX9_init 79 = .ok (.newarray .int, 2) := by decide +kernel
theorem dX9_init_81 : decode cX9_init 81 = .ok (.putfield 40, 3) := by decide +kernel
theorem dX9_init_84 : decode cX9_init 84 = .ok (.aload_n 0, 1) := by decide +kernel
theorem dX9_init_85 : decode cX9_init 85 = .ok (.bipush 10, 2) := by decide +kernel
theorem dX9_init_87 : decode cX9_init 87 = .ok (.newarray .int, 2) := by decide +kernel
theorem dX9_init_89 : decode cX9_init 89 = .ok (.putfield 43, 3) := by decide +kernel
theorem dX9_init_92 : decode cX9_init 92 = .ok (.aload_n 0, 1) := by decide +kernel
theorem dX9_init_93 : decode cX9_init 93 = .ok (.sipush 160, 3) := by decide +kernel
theorem dX9_init_96 : decode cX9_init 96 = .ok (.newarray .int, 2) := by decide +kernel
theorem dX9_init_98 : decode cX9_init 98 = .ok (.putfield 46, 3) := by decide +kernel
theorem dX9_init_101 : decode cX9_init 101 = .ok (.return_, 1) := by decide +kernel
theorem dX9_has_0 : decode cX9_has 0 = .ok (.iload_n 1, 1) := by decide +kernel
theorem dX9_has_1 : decode cX9_has 1 = .ok (.ifCond .lt 15, 3) := by decide +kernel
theorem dX9_has_4 : decode cX9_has 4 = .ok (.iload_n 1, 1) := by decide +kernel
theorem dX9_has_5 : decode cX9_has 5 = .ok (.aload_n 0, 1) := by decide +kernel
theorem dX9_has_6 : decode cX9_has 6 = .ok (.getfield 49, 3) := by decide +kernel
theorem dX9_has_9 : decode cX9_has 9 = .ok (.if_icmp .ge 7, 3) := by decide +kernel
theorem dX9_has_12 : decode cX9_has 12 = .ok (.iconst 1, 1) := by decide +kernel
theorem dX9_has_13 : decode cX9_has 13 = .ok (.goto 4, 3) := by decide +kernel
theorem dX9_has_16 : decode cX9_has 16 = .ok (.iconst 0, 1) := by decide +kernel
theorem dX9_has_17 : decode cX9_has 17 = .ok (.ireturn, 1) := by decide +kernel
theorem dX9_operandsOf_0 : decode cX9_operandsOf 0 = .ok (.aload_n 0, 1) := by decide +kernel
theorem dX9_operandsOf_1 : decode cX9_operandsOf 1 = .ok (.getfield 24, 3) := by decide +kernel
theorem dX9_operandsOf_4 : decode cX9_operandsOf 4 = .ok (.iload_n 1, 1) := by decide +kernel
theorem dX9_operandsOf_5 : decode cX9_operandsOf 5 = .ok (.iconst 1, 1) := by decide +kernel
theorem dX9_operandsOf_6 : decode cX9_operandsOf 6 = .ok (.iadd, 1) := by decide +kernel
theorem dX9_operandsOf_7 : decode cX9_operandsOf 7 = .ok (.iaload, 1) := by decide +kernel
theorem dX9_operandsOf_8 : decode cX9_operandsOf 8 = .ok (.aload_n 0, 1) := by decide +kernel
theorem dX9_operandsOf_9 : decode cX9_operandsOf 9 = .ok (.getfield 24, 3) := by decide +kernel
theorem dX9_operandsOf_12 : decode cX9_operandsOf 12 = .ok (.iload_n 1, 1) := by decide +kernel
theorem dX9_operandsOf_13 : decode cX9_operandsOf 13 = .ok (.iaload, 1) := by decide +kernel
theorem dX9_operandsOf_14 : decode cX9_operandsOf 14 = .ok (.isub, 1) := by decide +kernel
theorem dX9_operandsOf_15 : decode cX9_operandsOf 15 = .ok (.ireturn, 1) := by decide +kernel
theorem dX9_hasOperand_0 : decode cX9_hasOperand 0 = .ok (.aload_n 0, 1) := by decide +kernel
theorem dX9_hasOperand_1 : decode cX9_hasOperand 1 = .ok (.iload_n 1, 1) := by decide +kernel
theorem dX9_hasOperand_2 : decode cX9_hasOperand 2 = .ok (.invokevirtual 53, 3) := by decide +kernel
theorem dX9_hasOperand_5 : decode cX9_hasOperand 5 = .ok (.ifCond .eq 20, 3) := by decide +kernel
theorem dX9_hasOperand_8 : decode cX9_hasOperand 8 = .ok (.iload_n 2, 1) := by decide +kernel
theorem dX9_hasOperand_9 : decode cX9_hasOperand 9 = .ok (.ifCond .lt 16, 3) := by decide +kernel
theorem dX9_hasOperand_12 : decode cX9_hasOperand 12 = .ok (.iload_n 2, 1) := by decide +kernel
theorem dX9_hasOperand_13 : decode cX9_hasOperand 13 = .ok (.aload_n 0, 1) := by decide +kernel
theorem dX9_hasOperand_14 : decode cX9_hasOperand 14 = .ok (.iload_n 1, 1) := by decide +kernel
theorem dX9_hasOperand_15 : decode cX9_hasOperand 15 = .ok (.invokevirtual 57, 3) := by decide +kernel
theorem dX9_hasOperand_18 : decode cX9_hasOperand 18 = .ok (.if_icmp .ge 7, 3) := by decide +kernel
theorem dX9_hasOperand_21 : decode cX9_hasOperand 21 = .ok (.iconst 1, 1) := by decide +kernel
theorem dX9_hasOperand_22 : decode cX9_hasOperand 22 = .ok (.goto 4, 3) := by decide +kernel
theorem dX9_hasOperand_25 : decode cX9_hasOperand 25 = .ok (.iconst 0, 1) := by decide +kernel
theorem dX9_hasOperand_26 : decode cX9_hasOperand 26 = .ok (.ireturn, 1) := by decide +kernel
theorem dX9_allChoices_0 : decode cX9_allChoices 0 = .ok (.iconst 0, 1) := by decide +kernel
theorem dX9_allChoices_1 : decode cX9_allChoices 1 = .ok (.istore_n 1, 1) := by decide +kernel
theorem dX9_allChoices_2 : decode cX9_allChoices 2 = .ok (.iconst 0, 1) := by decide +kernel
theorem dX9_allChoices_3 : decode cX9_allChoices 3 = .ok (.istore_n 2, 1) := by decide +kernel
theorem dX9_allChoices_4 : decode cX9_allChoices 4 = .ok (.iload_n 2, 1) := by decide +kernel
theorem dX9_allChoices_5 : decode cX9_allChoices 5 = .ok (.bipush 16, 2) := by decide +kernel
theorem dX9_allChoices_7 : decode cX9_allChoices 7 = .ok (.if_icmp .ge 18, 3) := by decide +kernel
theorem dX9_allChoices_10 : decode cX9_allChoices 10 = .ok (.iload_n 1, 1) := by decide +kernel
theorem dX9_allChoices_11 : decode cX9_allChoices 11 = .ok (.aload_n 0, 1) := by decide +kernel
theorem dX9_allChoices_12 : decode cX9_allChoices 12 = .ok (.getfield 40, 3) := by decide +kernel
theorem dX9_allChoices_15 : decode cX9_allChoices 15 = .ok (.iload_n 2, 1) := by decide +kernel
theorem dX9_allChoices_16 : decode cX9_allChoices 16 = .ok (.iaload, 1) := by decide +kernel
theorem dX9_allChoices_17 : decode cX9_allChoices 17 = .ok (.iadd, 1) := by decide +kernel
theorem dX9_allChoices_18 : decode cX9_allChoices 18 = .ok (.istore_n 1, 1) := by decide +kernel
theorem dX9_allChoices_19 : decode cX9_allChoices 19 = .ok (.iinc 2 1, 3) := by decide +kernel
theorem dX9_allChoices_22 : decode cX9_allChoices 22 = .ok (.goto (-18), 3) := by decide +kernel
theorem dX9_allChoices_25 : decode cX9_allChoices 25 = .ok (.iload_n 1, 1) := by decide +kernel
theorem dX9_allChoices_26 : decode cX9_allChoices 26 = .ok (.ireturn, 1) := by decide +kernel
theorem dX9_make_0 : decode cX9_make 0 = .ok (.aload_n 0, 1) := by decide +kernel
theorem dX9_make_1 : decode cX9_make 1 = .ok (.aload_n 1, 1) := by decide +kernel
theorem dX9_make_2 : decode cX9_make 2 = .ok (.aload_n 2, 1) := by decide +kernel
theorem dX9_make_3 : decode cX9_make 3 = .ok (.invokevirtual 61, 3) := by decide +kernel
theorem dX9_make_6 : decode cX9_make 6 = .ok (.aload_n 0, 1) := by decide +kernel
theorem dX9_make_7 : decode cX9_make 7 = .ok (.aload_n 1, 1) := by decide +kernel
theorem dX9_make_8 : decode cX9_make 8 = .ok (.aload_n 2, 1) := by decide +kernel
theorem dX9_make_9 : decode cX9_make 9 = .ok (.invokevirtual 65, 3) := by decide +kernel
theorem dX9_make_12 : decode cX9_make 12 = .ok (.iconst 1, 1) := by decide +kernel
theorem dX9_make_13 : decode cX9_make 13 = .ok (.istore_n 3, 1) := by decide +kernel
theorem dX9_make_14 : decode cX9_make 14 = .ok (.iload_n 3, 1) := by decide +kernel
theorem dX9_make_15 : decode cX9_make 15 = .ok (.bipush 16, 2) := by decide +kernel
theorem dX9_make_17 : decode cX9_make 17 = .ok (.if_icmp .gt 62, 3) := by decide +kernel
theorem dX9_make_20 : decode cX9_make 20 = .ok (.iconst 0, 1) := by decide +kernel
theorem dX9_make_21 : decode cX9_make 21 = .ok (.istore 4, 2) := by decide +kernel
theorem dX9_make_23 : decode cX9_make 23 = .ok (.iload 4, 2) := by decide +kernel
theorem dX9_make_25 : decode cX9_make 25 = .ok (.bipush 16, 2) := by decide +kernel
theorem dX9_make_27 : decode cX9_make 27 = .ok (.if_icmp .ge 46, 3) := by decide +kernel
theorem dX9_make_30 : decode cX9_make 30 = .ok (.aload_n 2, 1) := by decide +kernel
theorem dX9_make_31 : decode cX9_make 31 = .ok (.iload 4, 2) := by decide +kernel
theorem dX9_make_33 : decode cX9_make 33 = .ok (.invokevirtual 68, 3) := by decide +kernel
theorem dX9_make_36 : decode cX9_make 36 = .ok (.ifCond .eq 31, 3) := by decide +kernel
theorem dX9_make_39 : decode cX9_make 39 = .ok (.aload_n 2, 1) := by decide +kernel
theorem dX9_make_40 : decode cX9_make 40 = .ok (.getfield 73, 3) := by decide +kernel
theorem dX9_make_43 : decode cX9_make 43 = .ok (.iload 4, 2) := by decide +kernel
theorem dX9_make_45 : decode cX9_make 45 = .ok (.iaload, 1) := by decide +kernel
theorem dX9_make_46 : decode cX9_make 46 = .ok (.invokestatic 76, 3) := by decide +kernel
theorem dX9_make_49 : decode cX9_make 49 = .ok (.iload_n 3, 1) := by decide +kernel
theorem dX9_make_50 : decode cX9_make 50 = .ok (.if_icmp .ne 17, 3) := by decide +kernel
theorem dX9_make_53 : decode cX9_make 53 = .ok (.aload_n 0, 1) := by decide +kernel
theorem dX9_make_54 : decode cX9_make 54 = .ok (.aload_n 2, 1) := by decide +kernel
theorem dX9_make_55 : decode cX9_make 55 = .ok (.iload 4, 2) := by decide +kernel
theorem dX9_make_57 : decode cX9_make 57 = .ok (.invokevirtual 81, 3) := by decide +kernel
theorem dX9_make_60 : decode cX9_make 60 = .ok (.aload_n 0, 1) := by decide +kernel
theorem dX9_make_61 : decode cX9_make 61 = .ok (.aload_n 1, 1) := by decide +kernel
theorem dX9_make_62 : decode cX9_make 62 = .ok (.iload 4, 2) := by decide +kernel
theorem dX9_make_64 : decode cX9_make 64 = .ok (.invokevirtual 85, 3) := by decide +kernel
theorem dX9_make_67 : decode cX9_make 67 = .ok (.iinc 4 1, 3) := by decide +kernel
theorem dX9_make_70 : decode cX9_make 70 = .ok (.goto (-47), 3) := by decide +kernel
theorem dX9_make_73 : decode cX9_make 73 = .ok (.iinc 3 1, 3) := by decide +kernel
theorem dX9_make_76 : decode cX9_make 76 = .ok (.goto (-62), 3) := by decide +kernel
theorem dX9_make_79 : decode cX9_make 79 = .ok (.aload_n 0, 1) := by decide +kernel
theorem dX9_make_80 : decode cX9_make 80 = .ok (.aload_n 2, 1) := by decide +kernel
theorem dX9_make_81 : decode cX9_make 81 = .ok (.invokevirtual 89, 3) := by decide +kernel
theorem dX9_make_84 : decode cX9_make 84 = .ok (.return_, 1) := by decide +kernel
theorem dX9_placeChoices_0 : decode cX9_placeChoices 0 = .ok (.iconst 0, 1) := by decide +kernel
theorem dX9_placeChoices_1 : decode cX9_placeChoices 1 = .ok (.istore_n 3, 1) := by decide +kernel
theorem dX9_placeChoices_2 : decode cX9_placeChoices 2 = .ok (.iload_n 3, 1) := by decide +kernel
theorem dX9_placeChoices_3 : decode cX9_placeChoices 3 = .ok (.bipush 10, 2) := by decide +kernel
theorem dX9_placeChoices_5 : decode cX9_placeChoices 5 = .ok (.if_icmp .ge 50, 3) := by decide +kernel
theorem dX9_placeChoices_8 : decode cX9_placeChoices 8 = .ok (.iconst 1, 1) := by decide +kernel
theorem dX9_placeChoices_9 : decode cX9_placeChoices 9 = .ok (.aload_n 1, 1) := by decide +kernel
theorem dX9_placeChoices_10 : decode cX9_placeChoices 10 = .ok (.iload_n 3, 1) := by decide +kernel
theorem dX9_placeChoices_11 : decode cX9_placeChoices 11 = .ok (.invokestatic 93, 3) := by decide +kernel
theorem dX9_placeChoices_14 : decode cX9_placeChoices 14 = .ok (.aload_n 2, 1) := by decide +kernel
theorem dX9_placeChoices_15 : decode cX9_placeChoices 15 = .ok (.getfield 97, 3) := by decide +kernel
theorem dX9_placeChoices_18 : decode cX9_placeChoices 18 = .ok (.iand, 1) := by decide +kernel
theorem dX9_placeChoices_19 : decode cX9_placeChoices 19 = .ok (.ior, 1) := by decide +kernel
theorem dX9_placeChoices_20 : decode cX9_placeChoices 20 = .ok (.istore 4, 2) := by decide +kernel
theorem dX9_placeChoices_22 : decode cX9_placeChoices 22 = .ok (.iload 4, 2) := by decide +kernel
theorem dX9_placeChoices_24 : decode cX9_placeChoices 24 = .ok (.aload_n 2, 1) := by decide +kernel
theorem dX9_placeChoices_25 : decode cX9_placeChoices 25 = .ok (.getfield 100, 3) := by decide +kernel
theorem dX9_placeChoices_28 : decode cX9_placeChoices 28 = .ok (.iconst 0, 1) := by decide +kernel
theorem dX9_placeChoices_29 : decode cX9_placeChoices 29 = .ok (.invokestatic 103, 3) := by decide +kernel
theorem dX9_placeChoices_32 : decode cX9_placeChoices 32 = .ok (.istore 5, 2) := by decide +kernel
theorem dX9_placeChoices_34 : decode cX9_placeChoices 34 = .ok (.aload_n 0, 1) := by decide +kernel
theorem dX9_placeChoices_35 : decode cX9_placeChoices 35 = .ok (.getfield 43, 3) := by decide +kernel
theorem dX9_placeChoices_38 : decode cX9_placeChoices 38 = .ok (.iload_n 3, 1) := by decide +kernel
theorem dX9_placeChoices_39 : decode cX9_placeChoices 39 = .ok (.iload 5, 2) := by decide +kernel
theorem dX9_placeChoices_41 : decode cX9_placeChoices 41 = .ok (.aload_n 2, 1) := by decide +kernel
theorem dX9_placeChoices_42 : decode cX9_placeChoices 42 = .ok (.getfield 100, 3) := by decide +kernel
theorem dX9_placeChoices_45 : decode cX9_placeChoices 45 = .ok (.invokestatic 107, 3) := by decide +kernel
theorem dX9_placeChoices_48 : decode cX9_placeChoices 48 = .ok (.iastore, 1) := by decide +kernel
theorem dX9_placeChoices_49 : decode cX9_placeChoices 49 = .ok (.iinc 3 1, 3) := by decide +kernel
theorem dX9_placeChoices_52 : decode cX9_placeChoices 52 = .ok (.goto (-50), 3) := by decide +kernel
theorem dX9_placeChoices_55 : decode cX9_placeChoices 55 = .ok (.return_, 1) := by decide +kernel
theorem dX9_givingBlocks_0 : decode cX9_givingBlocks 0 = .ok (.iconst 0, 1) := by decide +kernel
theorem dX9_givingBlocks_1 : decode cX9_givingBlocks 1 = .ok (.istore_n 2, 1) := by decide +kernel
theorem dX9_givingBlocks_2 : decode cX9_givingBlocks 2 = .ok (.iconst 0, 1) := by decide +kernel
theorem dX9_givingBlocks_3 : decode cX9_givingBlocks 3 = .ok (.istore_n 3, 1) := by decide +kernel
theorem dX9_givingBlocks_4 : decode cX9_givingBlocks 4 = .ok (.iload_n 3, 1) := by decide +kernel
theorem dX9_givingBlocks_5 : decode cX9_givingBlocks 5 = .ok (.bipush 16, 2) := by decide +kernel
theorem dX9_givingBlocks_7 : decode cX9_givingBlocks 7 = .ok (.if_icmp .ge 53, 3) := by decide +kernel
theorem dX9_givingBlocks_10 : decode cX9_givingBlocks 10 = .ok (.aload_n 0, 1) := by decide +kernel
theorem dX9_givingBlocks_11 : decode cX9_givingBlocks 11 = .ok (.getfield 111, 3) := by decide +kernel
theorem dX9_givingBlocks_14 : decode cX9_givingBlocks 14 = .ok (.iload_n 3, 1) := by decide +kernel
theorem dX9_givingBlocks_15 : decode cX9_givingBlocks 15 = .ok (.iaload, 1) := by decide +kernel
theorem dX9_givingBlocks_16 : decode cX9_givingBlocks 16 = .ok (.istore 4, 2) := by decide +kernel
theorem dX9_givingBlocks_18 : decode cX9_givingBlocks 18 = .ok (.iload 4, 2) := by decide +kernel
theorem dX9_givingBlocks_20 : decode cX9_givingBlocks 20 = .ok (.aload_n 0, 1) := by decide +kernel
theorem dX9_givingBlocks_21 : decode cX9_givingBlocks 21 = .ok (.getfield 111, 3) := by decide +kernel
theorem dX9_givingBlocks_24 : decode cX9_givingBlocks 24 = .ok (.iload_n 3, 1) := by decide +kernel
theorem dX9_givingBlocks_25 : decode cX9_givingBlocks 25 = .ok (.iconst 1, 1) := by decide +kernel
theorem dX9_givingBlocks_26 : decode cX9_givingBlocks 26 = .ok (.iadd, 1) := by decide +kernel
theorem dX9_givingBlocks_27 : decode cX9_givingBlocks 27 = .ok (.iaload, 1) := by decide +kernel
theorem dX9_givingBlocks_28 : decode cX9_givingBlocks 28 = .ok (.if_icmp .ge 26, 3) := by decide +kernel
theorem dX9_givingBlocks_31 : decode cX9_givingBlocks 31 = .ok (.aload_n 0, 1) := by decide +kernel
theorem dX9_givingBlocks_32 : decode cX9_givingBlocks 32 = .ok (.getfield 116, 3) := by decide +kernel
theorem dX9_givingBlocks_35 : decode cX9_givingBlocks 35 = .ok (.iload 4, 2) := by decide +kernel
theorem dX9_givingBlocks_37 : decode cX9_givingBlocks 37 = .ok (.iaload, 1) := by decide +kernel
theorem dX9_givingBlocks_38 : decode cX9_givingBlocks 38 = .ok (.iload_n 1, 1) := by decide +kernel
theorem dX9_givingBlocks_39 : decode cX9_givingBlocks 39 = .ok (.if_icmp .ne 9, 3) := by decide +kernel
theorem dX9_givingBlocks_42 : decode cX9_givingBlocks 42 = .ok (.iload_n 2, 1) := by decide +kernel
theorem dX9_givingBlocks_43 : decode cX9_givingBlocks 43 = .ok (.iconst 1, 1) := by decide +kernel
theorem dX9_givingBlocks_44 : decode cX9_givingBlocks 44 = .ok (.iload_n 3, 1) := by decide +kernel
theorem dX9_givingBlocks_45 : decode cX9_givingBlocks 45 = .ok (.ishl, 1) := by decide +kernel
theorem dX9_givingBlocks_46 : decode cX9_givingBlocks 46 = .ok (.ior, 1) := by decide +kernel
theorem dX9_givingBlocks_47 : decode cX9_givingBlocks 47 = .ok (.istore_n 2, 1) := by decide +kernel
theorem dX9_givingBlocks_48 : decode cX9_givingBlocks 48 = .ok (.iinc 4 1, 3) := by decide +kernel
theorem dX9_givingBlocks_51 : decode cX9_givingBlocks 51 = .ok (.goto (-33), 3) := by decide +kernel
theorem dX9_givingBlocks_54 : decode cX9_givingBlocks 54 = .ok (.iinc 3 1, 3) := by decide +kernel
theorem dX9_givingBlocks_57 : decode cX9_givingBlocks 57 = .ok (.goto (-53), 3) := by decide +kernel
theorem dX9_givingBlocks_60 : decode cX9_givingBlocks 60 = .ok (.iload_n 2, 1) := by decide +kernel
theorem dX9_givingBlocks_61 : decode cX9_givingBlocks 61 = .ok (.ireturn, 1) := by decide +kernel
theorem dX9_numberAll_0 : decode cX9_numberAll 0 = .ok (.aload_n 0, 1) := by decide +kernel
theorem dX9_numberAll_1 : decode cX9_numberAll 1 = .ok (.iconst 0, 1) := by decide +kernel
theorem dX9_numberAll_2 : decode cX9_numberAll 2 = .ok (.putfield 49, 3) := by decide +kernel
theorem dX9_numberAll_5 : decode cX9_numberAll 5 = .ok (.aload_n 0, 1) := by decide +kernel
theorem dX9_numberAll_6 : decode cX9_numberAll 6 = .ok (.getfield 40, 3) := by decide +kernel
theorem dX9_numberAll_9 : decode cX9_numberAll 9 = .ok (.iconst 0, 1) := by decide +kernel
theorem dX9_numberAll_10 : decode cX9_numberAll 10 = .ok (.invokestatic 119, 3) := by decide +kernel
theorem dX9_numberAll_13 : decode cX9_numberAll 13 = .ok (.aload_n 0, 1) := by decide +kernel
theorem dX9_numberAll_14 : decode cX9_numberAll 14 = .ok (.getfield 34, 3) := by decide +kernel
theorem dX9_numberAll_17 : decode cX9_numberAll 17 = .ok (.iconst (-1), 1) := by decide +kernel
theorem dX9_numberAll_18 : decode cX9_numberAll 18 = .ok (.invokestatic 119, 3) := by decide +kernel
theorem dX9_numberAll_21 : decode cX9_numberAll 21 = .ok (.aload_n 2, 1) := by decide +kernel
theorem dX9_numberAll_22 : decode cX9_numberAll 22 = .ok (.iconst 0, 1) := by decide +kernel
theorem dX9_numberAll_23 : decode cX9_numberAll 23 = .ok (.invokevirtual 68, 3) := by decide +kernel
theorem dX9_numberAll_26 : decode cX9_numberAll 26 = .ok (.ifCond .eq 12, 3) := by decide +kernel
theorem dX9_numberAll_29 : decode cX9_numberAll 29 = .ok (.aload_n 0, 1) := by decide +kernel
theorem dX9_numberAll_30 : decode cX9_numberAll 30 = .ok (.iconst 0, 1) := by decide +kernel
theorem dX9_numberAll_31 : decode cX9_numberAll 31 = .ok (.iconst 0, 1) := by decide +kernel
theorem dX9_numberAll_32 : decode cX9_numberAll 32 = .ok (.iconst (-1), 1) := by decide +kernel
theorem dX9_numberAll_33 : decode cX9_numberAll 33 = .ok (.iconst 0, 1) := by decide +kernel
theorem dX9_numberAll_34 : decode cX9_numberAll 34 = .ok (.iconst 0, 1) := by decide +kernel
theorem dX9_numberAll_35 : decode cX9_numberAll 35 = .ok (.invokevirtual 125, 3) := by decide +kernel
theorem dX9_numberAll_38 : decode cX9_numberAll 38 = .ok (.iconst 0, 1) := by decide +kernel
theorem dX9_numberAll_39 : decode cX9_numberAll 39 = .ok (.istore_n 3, 1) := by decide +kernel
theorem dX9_numberAll_40 : decode cX9_numberAll 40 = .ok (.iload_n 3, 1) := by decide +kernel
theorem dX9_numberAll_41 : decode cX9_numberAll 41 = .ok (.bipush 16, 2) := by decide +kernel
theorem dX9_numberAll_43 : decode cX9_numberAll 43 = .ok (.if_icmp .ge 29, 3) := by decide +kernel
theorem dX9_numberAll_46 : decode cX9_numberAll 46 = .ok (.aload_n 2, 1) := by decide +kernel
theorem dX9_numberAll_47 : decode cX9_numberAll 47 = .ok (.iload_n 3, 1) := by decide +kernel
theorem dX9_numberAll_48 : decode cX9_numberAll 48 = .ok (.invokevirtual 68, 3) := by decide +kernel
theorem dX9_numberAll_51 : decode cX9_numberAll 51 = .ok (.ifCond .eq 15, 3) := by decide +kernel
theorem dX9_numberAll_54 : decode cX9_numberAll 54 = .ok (.aload_n 0, 1) := by decide +kernel
theorem dX9_numberAll_55 : decode cX9_numberAll 55 = .ok (.aload_n 2, 1) := by decide +kernel
theorem dX9_numberAll_56 : decode cX9_numberAll 56 = .ok (.iload_n 3, 1) := by decide +kernel
theorem dX9_numberAll_57 : decode cX9_numberAll 57 = .ok (.invokevirtual 129, 3) := by decide +kernel
theorem dX9_numberAll_60 : decode cX9_numberAll 60 = .ok (.aload_n 0, 1) := by decide +kernel
theorem dX9_numberAll_61 : decode cX9_numberAll 61 = .ok (.aload_n 1, 1) := by decide +kernel
theorem dX9_numberAll_62 : decode cX9_numberAll 62 = .ok (.iload_n 3, 1) := by decide +kernel
theorem dX9_numberAll_63 : decode cX9_numberAll 63 = .ok (.invokevirtual 132, 3) := by decide +kernel
theorem dX9_numberAll_66 : decode cX9_numberAll 66 = .ok (.iinc 3 1, 3) := by decide +kernel
theorem dX9_numberAll_69 : decode cX9_numberAll 69 = .ok (.goto (-29), 3) := by decide +kernel
theorem dX9_numberAll_72 : decode cX9_numberAll 72 = .ok (.return_, 1) := by decide +kernel
theorem dX9_numberChoices_0 : decode cX9_numberChoices 0 = .ok (.aload_n 1, 1) := by decide +kernel
theorem dX9_numberChoices_1 : decode cX9_numberChoices 1 = .ok (.getfield 135, 3) := by decide +kernel
theorem dX9_numberChoices_4 : decode cX9_numberChoices 4 = .ok (.iload_n 2, 1) := by decide +kernel
theorem dX9_numberChoices_5 : decode cX9_numberChoices 5 = .ok (.iaload, 1) := by decide +kernel
theorem dX9_numberChoices_6 : decode cX9_numberChoices 6 = .ok (.invokestatic 76, 3) := by decide +kernel
theorem dX9_numberChoices_9 : decode cX9_numberChoices 9 = .ok (.iload_n 2, 1) := by decide +kernel
theorem dX9_numberChoices_10 : decode cX9_numberChoices 10 = .ok (.ifCond .ne 7, 3) := by decide +kernel
theorem dX9_numberChoices_13 : decode cX9_numberChoices 13 = .ok (.iconst 1, 1) := by decide +kernel
theorem dX9_numberChoices_14 : decode cX9_numberChoices 14 = .ok (.goto 4, 3) := by decide +kernel
theorem dX9_numberChoices_17 : decode cX9_numberChoices 17 = .ok (.iconst 0, 1) := by decide +kernel
theorem dX9_numberChoices_18 : decode cX9_numberChoices 18 = .ok (.iadd, 1) := by decide +kernel
theorem dX9_numberChoices_19 : decode cX9_numberChoices 19 = .ok (.istore_n 3, 1) := by decide +kernel
theorem dX9_numberChoices_20 : decode cX9_numberChoices 20 = .ok (.aload_n 0, 1) := by decide +kernel
theorem dX9_numberChoices_21 : decode cX9_numberChoices 21 = .ok (.getfield 37, 3) := by decide +kernel
theorem dX9_numberChoices_24 : decode cX9_numberChoices 24 = .ok (.iload_n 2, 1) := by decide +kernel
theorem dX9_numberChoices_25 : decode cX9_numberChoices 25 = .ok (.aload_n 0, 1) := by decide +kernel
theorem dX9_numberChoices_26 : decode cX9_numberChoices 26 = .ok (.getfield 49, 3) := by decide +kernel
theorem dX9_numberChoices_29 : decode cX9_numberChoices 29 = .ok (.iastore, 1) := by decide +kernel
theorem dX9_numberChoices_30 : decode cX9_numberChoices 30 = .ok (.iconst 0, 1) := by decide +kernel
theorem dX9_numberChoices_31 : decode cX9_numberChoices 31 = .ok (.istore 4, 2) := by decide +kernel
theorem dX9_numberChoices_33 : decode cX9_numberChoices 33 = .ok (.iload 4, 2) := by decide +kernel
theorem dX9_numberChoices_35 : decode cX9_numberChoices 35 = .ok (.bipush 10, 2) := by decide +kernel
theorem dX9_numberChoices_37 : decode cX9_numberChoices 37 = .ok (.if_icmp .ge 44, 3) := by decide +kernel
theorem dX9_numberChoices_40 : decode cX9_numberChoices 40 = .ok (.aload_n 0, 1) := by decide +kernel
theorem dX9_numberChoices_41 : decode cX9_numberChoices 41 = .ok (.getfield 43, 3) := by decide +kernel
theorem dX9_numberChoices_44 : decode cX9_numberChoices 44 = .ok (.iload 4, 2) := by decide +kernel
theorem dX9_numberChoices_46 : decode cX9_numberChoices 46 = .ok (.iaload, 1) := by decide +kernel
theorem dX9_numberChoices_47 : decode cX9_numberChoices 47 = .ok (.iload_n 2, 1) := by decide +kernel
theorem dX9_numberChoices_48 : decode cX9_numberChoices 48 = .ok (.invokestatic 138, 3) := by decide +kernel
theorem dX9_numberChoices_51 : decode cX9_numberChoices 51 = .ok (.ifCond .eq 24, 3) := by decide +kernel
theorem dX9_numberChoices_54 : decode cX9_numberChoices 54 = .ok (.aload_n 0, 1) := by decide +kernel
theorem dX9_numberChoices_55 : decode cX9_numberChoices 55 = .ok (.bipush 15, 2) := by decide +kernel
theorem dX9_numberChoices_57 : decode cX9_numberChoices 57 = .ok (.iload_n 2, 1) := by decide +kernel
theorem dX9_numberChoices_58 : decode cX9_numberChoices 58 = .ok (.iload 4, 2) := by decide +kernel
theorem dX9_numberChoices_60 : decode cX9_numberChoices 60 = .ok (.iconst (-1), 1) := by decide +kernel
theorem dX9_numberChoices_61 : decode cX9_numberChoices 61 = .ok (.iload_n 3, 1) := by decide +kernel
theorem dX9_numberChoices_62 : decode cX9_numberChoices 62 = .ok (.invokevirtual 125, 3) := by decide +kernel
theorem dX9_numberChoices_65 : decode cX9_numberChoices 65 = .ok (.aload_n 0, 1) := by decide +kernel
theorem dX9_numberChoices_66 : decode cX9_numberChoices 66 = .ok (.getfield 40, 3) := by decide +kernel
theorem dX9_numberChoices_69 : decode cX9_numberChoices 69 = .ok (.iload_n 2, 1) := by decide +kernel
theorem dX9_numberChoices_70 : decode cX9_numberChoices 70 = .ok (.dup2, 1) := by decide +kernel
theorem dX9_numberChoices_71 : decode cX9_numberChoices 71 = .ok (.iaload, 1) := by decide +kernel
theorem dX9_numberChoices_72 : decode cX9_numberChoices 72 = .ok (.iconst 1, 1) := by decide +kernel
theorem dX9_numberChoices_73 : decode cX9_numberChoices 73 = .ok (.iadd, 1) := by decide +kernel
theorem dX9_numberChoices_74 : decode cX9_numberChoices 74 = .ok (.iastore, 1) := by decide +kernel
theorem dX9_numberChoices_75 : decode cX9_numberChoices 75 = .ok (.iinc 4 1, 3) := by decide +kernel
theorem dX9_numberChoices_78 : decode cX9_numberChoices 78 = .ok (.goto (-45), 3) := by decide +kernel
theorem dX9_numberChoices_81 : decode cX9_numberChoices 81 = .ok (.return_, 1) := by decide +kernel
theorem dX9_numberInstructions_0 : decode cX9_numberInstructions 0 = .ok (.aload_n 1, 1) := by decide +kernel
theorem dX9_numberInstructions_1 : decode cX9_numberInstructions 1 = .ok (.getfield 111, 3) := by decide +kernel
theorem dX9_numberInstructions_4 : decode cX9_numberInstructions 4 = .ok (.iload_n 2, 1) := by decide +kernel
theorem dX9_numberInstructions_5 : decode cX9_numberInstructions 5 = .ok (.iaload, 1) := by decide +kernel
theorem dX9_numberInstructions_6 : decode cX9_numberInstructions 6 = .ok (.istore_n 3, 1) := by decide +kernel
theorem dX9_numberInstructions_7 : decode cX9_numberInstructions 7 = .ok (.iload_n 3, 1) := by decide +kernel
theorem dX9_numberInstructions_8 : decode cX9_numberInstructions 8 = .ok (.aload_n 1, 1) := by decide +kernel
theorem dX9_numberInstructions_9 : decode cX9_numberInstructions 9 = .ok (.getfield 111, 3) := by decide +kernel
theorem dX9_numberInstructions_12 : decode cX9_numberInstructions 12 = .ok (.iload_n 2, 1) := by decide +kernel
theorem dX9_numberInstructions_13 : decode cX9_numberInstructions 13 = .ok (.iconst 1, 1) := by decide +kernel
theorem dX9_numberInstructions_14 : decode cX9_numberInstructions 14 = .ok (.iadd, 1) := by decide +kernel
theorem dX9_numberInstructions_15 : decode cX9_numberInstructions 15 = .ok (.iaload, 1) := by decide +kernel
theorem dX9_numberInstructions_16 : decode cX9_numberInstructions 16 = .ok (.if_icmp .ge 92, 3) := by decide +kernel
theorem dX9_numberInstructions_19 : decode cX9_numberInstructions 19 = .ok (.aload_n 1, 1) := by decide +kernel
theorem dX9_numberInstructions_20 : decode cX9_numberInstructions 20 = .ok (.getfield 142, 3) := by decide +kernel
theorem dX9_numberInstructions_23 : decode cX9_numberInstructions 23 = .ok (.iload_n 3, 1) := by decide +kernel
theorem dX9_numberInstructions_24 : decode cX9_numberInstructions 24 = .ok (.iaload, 1) := by decide +kernel
theorem dX9_numberInstructions_25 : decode cX9_numberInstructions 25 = .ok (.istore 4, 2) := by decide +kernel
theorem dX9_numberInstructions_27 : decode cX9_numberInstructions 27 = .ok (.iload 4, 2) := by decide +kernel
theorem dX9_numberInstructions_29 : decode cX9_numberInstructions 29 = .ok (.iconst 2, 1) := by decide +kernel
theorem dX9_numberInstructions_30 : decode cX9_numberInstructions 30 = .ok (.if_icmp .eq 72, 3) := by decide +kernel
theorem dX9_numberInstructions_33 : decode cX9_numberInstructions 33 = .ok (.iload 4, 2) := by decide +kernel
theorem dX9_numberInstructions_35 : decode cX9_numberInstructions 35 = .ok (.bipush 14, 2) := by decide +kernel
theorem dX9_numberInstructions_37 : decode cX9_numberInstructions 37 = .ok (.if_icmp .ne 6, 3) := by decide +kernel
theorem dX9_numberInstructions_40 : decode cX9_numberInstructions 40 = .ok (.goto 62, 3) := by decide +kernel
theorem dX9_numberInstructions_43 : decode cX9_numberInstructions 43 = .ok (.aload_n 0, 1) := by decide +kernel
theorem dX9_numberInstructions_44 : decode cX9_numberInstructions 44 = .ok (.getfield 34, 3) := by decide +kernel
theorem dX9_numberInstructions_47 : decode cX9_numberInstructions 47 = .ok (.iload_n 3, 1) := by decide +kernel
theorem dX9_numberInstructions_48 : decode cX9_numberInstructions 48 = .ok (.aload_n 0, 1) := by decide +kernel
theorem dX9_numberInstructions_49 : decode cX9_numberInstructions 49 = .ok (.getfield 49, 3) := by decide +kernel
theorem dX9_numberInstructions_52 : decode cX9_numberInstructions 52 = .ok (.iastore, 1) := by decide +kernel
theorem dX9_numberInstructions_53 : decode cX9_numberInstructions 53 = .ok (.iload 4, 2) := by decide +kernel
theorem dX9_numberInstructions_55 : decode cX9_numberInstructions 55 = .ok (.ifCond .eq 9, 3) := by decide +kernel
theorem dX9_numberInstructions_58 : decode cX9_numberInstructions 58 = .ok (.iload 4, 2) := by decide +kernel
theorem dX9_numberInstructions_60 : decode cX9_numberInstructions 60 = .ok (.iconst 1, 1) := by decide +kernel
theorem dX9_numberInstructions_61 : decode cX9_numberInstructions 61 = .ok (.if_icmp .ne 26, 3) := by decide +kernel
theorem dX9_numberInstructions_64 : decode cX9_numberInstructions 64 = .ok (.aload_n 0, 1) := by decide +kernel
theorem dX9_numberInstructions_65 : decode cX9_numberInstructions 65 = .ok (.iload 4, 2) := by decide +kernel
theorem dX9_numberInstructions_67 : decode cX9_numberInstructions 67 = .ok (.iload_n 2, 1) := by decide +kernel
theorem dX9_numberInstructions_68 : decode cX9_numberInstructions 68 = .ok (.aload_n 1, 1) := by decide +kernel
theorem dX9_numberInstructions_69 : decode cX9_numberInstructions 69 = .ok (.getfield 116, 3) := by decide +kernel
theorem dX9_numberInstructions_72 : decode cX9_numberInstructions 72 = .ok (.iload_n 3, 1) := by decide +kernel
theorem dX9_numberInstructions_73 : decode cX9_numberInstructions 73 = .ok (.iaload, 1) := by decide +kernel
theorem dX9_numberInstructions_74 : decode cX9_numberInstructions 74 = .ok (.aload_n 1, 1) := by decide +kernel
theorem dX9_numberInstructions_75 : decode cX9_numberInstructions 75 = .ok (.getfield 143, 3) := by decide +kernel
theorem dX9_numberInstructions_78 : decode cX9_numberInstructions 78 = .ok (.iload_n 3, 1) := by decide +kernel
theorem dX9_numberInstructions_79 : decode cX9_numberInstructions 79 = .ok (.iaload, 1) := by decide +kernel
theorem dX9_numberInstructions_80 : decode cX9_numberInstructions 80 = .ok (.iconst 0, 1) := by decide +kernel
theorem dX9_numberInstructions_81 : decode cX9_numberInstructions 81 = .ok (.invokevirtual 125, 3) := by decide +kernel
theorem dX9_numberInstructions_84 : decode cX9_numberInstructions 84 = .ok (.goto 18, 3) := by decide +kernel
theorem dX9_numberInstructions_87 : decode cX9_numberInstructions 87 = .ok (.aload_n 0, 1) := by decide +kernel
theorem dX9_numberInstructions_88 : decode cX9_numberInstructions 88 = .ok (.iload 4, 2) := by decide +kernel
theorem dX9_numberInstructions_90 : decode cX9_numberInstructions 90 = .ok (.iload_n 2, 1) := by decide +kernel
theorem dX9_numberInstructions_91 : decode cX9_numberInstructions 91 = .ok (.aload_n 1, 1) := by decide +kernel
theorem dX9_numberInstructions_92 : decode cX9_numberInstructions 92 = .ok (.getfield 116, 3) := by decide +kernel
theorem dX9_numberInstructions_95 : decode cX9_numberInstructions 95 = .ok (.iload_n 3, 1) := by decide +kernel
theorem dX9_numberInstructions_96 : decode cX9_numberInstructions 96 = .ok (.iaload, 1) := by decide +kernel
theorem dX9_numberInstructions_97 : decode cX9_numberInstructions 97 = .ok (.iconst (-1), 1) := by decide +kernel
theorem dX9_numberInstructions_98 : decode cX9_numberInstructions 98 = .ok (.iconst 2, 1) := by decide +kernel
theorem dX9_numberInstructions_99 : decode cX9_numberInstructions 99 = .ok (.invokevirtual 125, 3) := by decide +kernel
theorem dX9_numberInstructions_102 : decode cX9_numberInstructions 102 = .ok (.iinc 3 1, 3) := by decide +kernel
theorem dX9_numberInstructions_105 : decode cX9_numberInstructions 105 = .ok (.goto (-98), 3) := by decide +kernel
theorem dX9_numberInstructions_108 : decode cX9_numberInstructions 108 = .ok (.return_, 1) := by decide +kernel
theorem dX9_add_0 : decode cX9_add 0 = .ok (.aload_n 0, 1) := by decide +kernel
theorem dX9_add_1 : decode cX9_add 1 = .ok (.getfield 9, 3) := by decide +kernel
theorem dX9_add_4 : decode cX9_add 4 = .ok (.aload_n 0, 1) := by decide +kernel
theorem dX9_add_5 : decode cX9_add 5 = .ok (.getfield 49, 3) := by decide +kernel
theorem dX9_add_8 : decode cX9_add 8 = .ok (.iload_n 1, 1) := by decide +kernel
theorem dX9_add_9 : decode cX9_add 9 = .ok (.iastore, 1) := by decide +kernel
theorem dX9_add_10 : decode cX9_add 10 = .ok (.aload_n 0, 1) := by decide +kernel
theorem dX9_add_11 : decode cX9_add 11 = .ok (.getfield 15, 3) := by decide +kernel
theorem dX9_add_14 : decode cX9_add 14 = .ok (.aload_n 0, 1) := by decide +kernel
theorem dX9_add_15 : decode cX9_add 15 = .ok (.getfield 49, 3) := by decide +kernel
theorem dX9_add_18 : decode cX9_add 18 = .ok (.iload_n 2, 1) := by decide +kernel
theorem dX9_add_19 : decode cX9_add 19 = .ok (.iastore, 1) := by decide +kernel
theorem dX9_add_20 : decode cX9_add 20 = .ok (.aload_n 0, 1) := by decide +kernel
theorem dX9_add_21 : decode cX9_add 21 = .ok (.getfield 18, 3) := by decide +kernel
theorem dX9_add_24 : decode cX9_add 24 = .ok (.aload_n 0, 1) := by decide +kernel
theorem dX9_add_25 : decode cX9_add 25 = .ok (.getfield 49, 3) := by decide +kernel
theorem dX9_add_28 : decode cX9_add 28 = .ok (.iload_n 3, 1) := by decide +kernel
theorem dX9_add_29 : decode cX9_add 29 = .ok (.iastore, 1) := by decide +kernel
theorem dX9_add_30 : decode cX9_add 30 = .ok (.aload_n 0, 1) := by decide +kernel
theorem dX9_add_31 : decode cX9_add 31 = .ok (.getfield 21, 3) := by decide +kernel
theorem dX9_add_34 : decode cX9_add 34 = .ok (.aload_n 0, 1) := by decide +kernel
theorem dX9_add_35 : decode cX9_add 35 = .ok (.getfield 49, 3) := by decide +kernel
theorem dX9_add_38 : decode cX9_add 38 = .ok (.iload 4, 2) := by decide +kernel
theorem dX9_add_40 : decode cX9_add 40 = .ok (.iastore, 1) := by decide +kernel
theorem dX9_add_41 : decode cX9_add 41 = .ok (.aload_n 0, 1) := by decide +kernel
theorem dX9_add_42 : decode cX9_add 42 = .ok (.getfield 24, 3) := by decide +kernel
theorem dX9_add_45 : decode cX9_add 45 = .ok (.aload_n 0, 1) := by decide +kernel
theorem dX9_add_46 : decode cX9_add 46 = .ok (.getfield 49, 3) := by decide +kernel
theorem dX9_add_49 : decode cX9_add 49 = .ok (.iconst 1, 1) := by decide +kernel
theorem dX9_add_50 : decode cX9_add 50 = .ok (.iadd, 1) := by decide +kernel
theorem dX9_add_51 : decode cX9_add 51 = .ok (.aload_n 0, 1) := by decide +kernel
theorem dX9_add_52 : decode cX9_add 52 = .ok (.getfield 49, 3) := by decide +kernel
theorem dX9_add_55 : decode cX9_add 55 = .ok (.ifCond .ne 7, 3) := by decide +kernel
theorem dX9_add_58 : decode cX9_add 58 = .ok (.iconst 0, 1) := by decide +kernel
theorem dX9_add_59 : decode cX9_add 59 = .ok (.goto 12, 3) := by decide +kernel
theorem dX9_add_62 : decode cX9_add 62 = .ok (.aload_n 0, 1) := by decide +kernel
theorem dX9_add_63 : decode cX9_add 63 = .ok (.getfield 24, 3) := by decide +kernel
theorem dX9_add_66 : decode cX9_add 66 = .ok (.aload_n 0, 1) := by decide +kernel
theorem dX9_add_67 : decode cX9_add 67 = .ok (.getfield 49, 3) := by decide +kernel
theorem dX9_add_70 : decode cX9_add 70 = .ok (.iaload, 1) := by decide +kernel
theorem dX9_add_71 : decode cX9_add 71 = .ok (.iload 5, 2) := by decide +kernel
theorem dX9_add_73 : decode cX9_add 73 = .ok (.iadd, 1) := by decide +kernel
theorem dX9_add_74 : decode cX9_add 74 = .ok (.iastore, 1) := by decide +kernel
theorem dX9_add_75 : decode cX9_add 75 = .ok (.aload_n 0, 1) := by decide +kernel
theorem dX9_add_76 : decode cX9_add 76 = .ok (.dup, 1) := by decide +kernel
theorem dX9_add_77 : decode cX9_add 77 = .ok (.getfield 49, 3) := by decide +kernel
theorem dX9_add_80 : decode cX9_add 80 = .ok (.iconst 1, 1) := by decide +kernel
theorem dX9_add_81 : decode cX9_add 81 = .ok (.iadd, 1) := by decide +kernel
theorem dX9_add_82 : decode cX9_add 82 = .ok (.putfield 49, 3) := by decide +kernel
theorem dX9_add_85 : decode cX9_add 85 = .ok (.return_, 1) := by decide +kernel
theorem dX9_beginBlock_0 : decode cX9_beginBlock 0 = .ok (.iload_n 2, 1) := by decide +kernel
theorem dX9_beginBlock_1 : decode cX9_beginBlock 1 = .ok (.bipush 10, 2) := by decide +kernel
theorem dX9_beginBlock_3 : decode cX9_beginBlock 3 = .ok (.imul, 1) := by decide +kernel
theorem dX9_beginBlock_4 : decode cX9_beginBlock 4 = .ok (.istore_n 3, 1) := by decide +kernel
theorem dX9_beginBlock_5 : decode cX9_beginBlock 5 = .ok (.aload_n 1, 1) := by decide +kernel
theorem dX9_beginBlock_6 : decode cX9_beginBlock 6 = .ok (.getfield 146, 3) := by decide +kernel
theorem dX9_beginBlock_9 : decode cX9_beginBlock 9 = .ok (.iload_n 2, 1) := by decide +kernel
theorem dX9_beginBlock_10 : decode cX9_beginBlock 10 = .ok (.iaload, 1) := by decide +kernel
theorem dX9_beginBlock_11 : decode cX9_beginBlock 11 = .ok (.istore 4, 2) := by decide +kernel
theorem dX9_beginBlock_13 : decode cX9_beginBlock 13 = .ok (.iconst 0, 1) := by decide +kernel
theorem dX9_beginBlock_14 : decode cX9_beginBlock 14 = .ok (.istore 5, 2) := by decide +kernel
theorem dX9_beginBlock_16 : decode cX9_beginBlock 16 = .ok (.iload 5, 2) := by decide +kernel
theorem dX9_beginBlock_18 : decode cX9_beginBlock 18 = .ok (.bipush 10, 2) := by decide +kernel
theorem dX9_beginBlock_20 : decode cX9_beginBlock 20 = .ok (.if_icmp .ge 41, 3) := by decide +kernel
theorem dX9_beginBlock_23 : decode cX9_beginBlock 23 = .ok (.aload_n 0, 1) := by decide +kernel
theorem dX9_beginBlock_24 : decode cX9_beginBlock 24 = .ok (.getfield 46, 3) := by decide +kernel
theorem dX9_beginBlock_27 : decode cX9_beginBlock 27 = .ok (.iload_n 3, 1) := by decide +kernel
theorem dX9_beginBlock_28 : decode cX9_beginBlock 28 = .ok (.iload 5, 2) := by decide +kernel
theorem dX9_beginBlock_30 : decode cX9_beginBlock 30 = .ok (.iadd, 1) := by decide +kernel
theorem dX9_beginBlock_31 : decode cX9_beginBlock 31 = .ok (.iload 4, 2) := by decide +kernel
theorem dX9_beginBlock_33 : decode cX9_beginBlock 33 = .ok (.iconst (-1), 1) := by decide +kernel
theorem dX9_beginBlock_34 : decode cX9_beginBlock 34 = .ok (.if_icmp .ne 7, 3) := by decide +kernel
theorem dX9_beginBlock_37 : decode cX9_beginBlock 37 = .ok (.iconst 0, 1) := by decide +kernel
theorem dX9_beginBlock_38 : decode cX9_beginBlock 38 = .ok (.goto 16, 3) := by decide +kernel
theorem dX9_beginBlock_41 : decode cX9_beginBlock 41 = .ok (.aload_n 0, 1) := by decide +kernel
theorem dX9_beginBlock_42 : decode cX9_beginBlock 42 = .ok (.getfield 46, 3) := by decide +kernel
theorem dX9_beginBlock_45 : decode cX9_beginBlock 45 = .ok (.iload 4, 2) := by decide +kernel
theorem dX9_beginBlock_47 : decode cX9_beginBlock 47 = .ok (.bipush 10, 2) := by decide +kernel
theorem dX9_beginBlock_49 : decode cX9_beginBlock 49 = .ok (.imul, 1) := by decide +kernel
theorem dX9_beginBlock_50 : decode cX9_beginBlock 50 = .ok (.iload 5, 2) := by decide +kernel
theorem dX9_beginBlock_52 : decode cX9_beginBlock 52 = .ok (.iadd, 1) := by decide +kernel
theorem dX9_beginBlock_53 : decode cX9_beginBlock 53 = .ok (.iaload, 1) := by decide +kernel
theorem dX9_beginBlock_54 : decode cX9_beginBlock 54 = .ok (.iastore, 1) := by decide +kernel
theorem dX9_beginBlock_55 : decode cX9_beginBlock 55 = .ok (.iinc 5 1, 3) := by decide +kernel
theorem dX9_beginBlock_58 : decode cX9_beginBlock 58 = .ok (.goto (-42), 3) := by decide +kernel
theorem dX9_beginBlock_61 : decode cX9_beginBlock 61 = .ok (.aload_n 0, 1) := by decide +kernel
theorem dX9_beginBlock_62 : decode cX9_beginBlock 62 = .ok (.getfield 37, 3) := by decide +kernel
theorem dX9_beginBlock_65 : decode cX9_beginBlock 65 = .ok (.iload_n 2, 1) := by decide +kernel
theorem dX9_beginBlock_66 : decode cX9_beginBlock 66 = .ok (.iaload, 1) := by decide +kernel
theorem dX9_beginBlock_67 : decode cX9_beginBlock 67 = .ok (.istore 5, 2) := by decide +kernel
theorem dX9_beginBlock_69 : decode cX9_beginBlock 69 = .ok (.iload 5, 2) := by decide +kernel
theorem dX9_beginBlock_71 : decode cX9_beginBlock 71 = .ok (.aload_n 0, 1) := by decide +kernel
theorem dX9_beginBlock_72 : decode cX9_beginBlock 72 = .ok (.getfield 37, 3) := by decide +kernel
theorem dX9_beginBlock_75 : decode cX9_beginBlock 75 = .ok (.iload_n 2, 1) := by decide +kernel
theorem dX9_beginBlock_76 : decode cX9_beginBlock 76 = .ok (.iaload, 1) := by decide +kernel
theorem dX9_beginBlock_77 : decode cX9_beginBlock 77 = .ok (.aload_n 0, 1) := by decide +kernel
theorem dX9_beginBlock_78 : decode cX9_beginBlock 78 = .ok (.getfield 40, 3) := by decide +kernel
theorem dX9_beginBlock_81 : decode cX9_beginBlock 81 = .ok (.iload_n 2, 1) := by decide +kernel
theorem dX9_beginBlock_82 : decode cX9_beginBlock 82 = .ok (.iaload, 1) := by decide +kernel
theorem dX9_beginBlock_83 : decode cX9_beginBlock 83 = .ok (.iadd, 1) := by decide +kernel
theorem dX9_beginBlock_84 : decode cX9_beginBlock 84 = .ok (.if_icmp .ge 25, 3) := by decide +kernel
theorem dX9_beginBlock_87 : decode cX9_beginBlock 87 = .ok (.aload_n 0, 1) := by decide +kernel
theorem dX9_beginBlock_88 : decode cX9_beginBlock 88 = .ok (.getfield 46, 3) := by decide +kernel
theorem dX9_beginBlock_91 : decode cX9_beginBlock 91 = .ok (.iload_n 3, 1) := by decide +kernel
theorem dX9_beginBlock_92 : decode cX9_beginBlock 92 = .ok (.aload_n 0, 1) := by decide +kernel
theorem dX9_beginBlock_93 : decode cX9_beginBlock 93 = .ok (.getfield 18, 3) := by decide +kernel
theorem dX9_beginBlock_96 : decode cX9_beginBlock 96 = .ok (.iload 5, 2) := by decide +kernel
theorem dX9_beginBlock_98 : decode cX9_beginBlock 98 = .ok (.iaload, 1) := by decide +kernel
theorem dX9_beginBlock_99 : decode cX9_beginBlock 99 = .ok (.iadd, 1) := by decide +kernel
theorem dX9_beginBlock_100 : decode cX9_beginBlock 100 = .ok (.iload 5, 2) := by decide +kernel
theorem dX9_beginBlock_102 : decode cX9_beginBlock 102 = .ok (.iastore, 1) := by decide +kernel
theorem dX9_beginBlock_103 : decode cX9_beginBlock 103 = .ok (.iinc 5 1, 3) := by decide +kernel
theorem dX9_beginBlock_106 : decode cX9_beginBlock 106 = .ok (.goto (-37), 3) := by decide +kernel
theorem dX9_beginBlock_109 : decode cX9_beginBlock 109 = .ok (.return_, 1) := by decide +kernel
theorem dX9_followBlock_0 : decode cX9_followBlock 0 = .ok (.iload_n 2, 1) := by decide +kernel
theorem dX9_followBlock_1 : decode cX9_followBlock 1 = .ok (.bipush 10, 2) := by decide +kernel
theorem dX9_followBlock_3 : decode cX9_followBlock 3 = .ok (.imul, 1) := by decide +kernel
theorem dX9_followBlock_4 : decode cX9_followBlock 4 = .ok (.istore_n 3, 1) := by decide +kernel
theorem dX9_followBlock_5 : decode cX9_followBlock 5 = .ok (.aload_n 1, 1) := by decide +kernel
theorem dX9_followBlock_6 : decode cX9_followBlock 6 = .ok (.getfield 111, 3) := by decide +kernel
theorem dX9_followBlock_9 : decode cX9_followBlock 9 = .ok (.iload_n 2, 1) := by decide +kernel
theorem dX9_followBlock_10 : decode cX9_followBlock 10 = .ok (.iaload, 1) := by decide +kernel
theorem dX9_followBlock_11 : decode cX9_followBlock 11 = .ok (.istore 4, 2) := by decide +kernel
theorem dX9_followBlock_13 : decode cX9_followBlock 13 = .ok (.iload 4, 2) := by decide +kernel
theorem dX9_followBlock_15 : decode cX9_followBlock 15 = .ok (.aload_n 1, 1) := by decide +kernel
theorem dX9_followBlock_16 : decode cX9_followBlock 16 = .ok (.getfield 111, 3) := by decide +kernel
theorem dX9_followBlock_19 : decode cX9_followBlock 19 = .ok (.iload_n 2, 1) := by decide +kernel
theorem dX9_followBlock_20 : decode cX9_followBlock 20 = .ok (.iconst 1, 1) := by decide +kernel
theorem dX9_followBlock_21 : decode cX9_followBlock 21 = .ok (.iadd, 1) := by decide +kernel
theorem dX9_followBlock_22 : decode cX9_followBlock 22 = .ok (.iaload, 1) := by decide +kernel
theorem dX9_followBlock_23 : decode cX9_followBlock 23 = .ok (.if_icmp .ge 185, 3) := by decide +kernel
theorem dX9_followBlock_26 : decode cX9_followBlock 26 = .ok (.aload_n 1, 1) := by decide +kernel
theorem dX9_followBlock_27 : decode cX9_followBlock 27 = .ok (.getfield 142, 3) := by decide +kernel
theorem dX9_followBlock_30 : decode cX9_followBlock 30 = .ok (.iload 4, 2) := by decide +kernel
theorem dX9_followBlock_32 : decode cX9_followBlock 32 = .ok (.iaload, 1) := by decide +kernel
theorem dX9_followBlock_33 : decode cX9_followBlock 33 = .ok (.istore 5, 2) := by decide +kernel
theorem dX9_followBlock_35 : decode cX9_followBlock 35 = .ok (.iload 5, 2) := by decide +kernel
theorem dX9_followBlock_37 : decode cX9_followBlock 37 = .ok (.bipush 14, 2) := by decide +kernel
theorem dX9_followBlock_39 : decode cX9_followBlock 39 = .ok (.if_icmp .ne 30, 3) := by decide +kernel
theorem dX9_followBlock_42 : decode cX9_followBlock 42 = .ok (.aload_n 0, 1) := by decide +kernel
theorem dX9_followBlock_43 : decode cX9_followBlock 43 = .ok (.getfield 30, 3) := by decide +kernel
theorem dX9_followBlock_46 : decode cX9_followBlock 46 = .ok (.getfield 149, 3) := by decide +kernel
theorem dX9_followBlock_49 : decode cX9_followBlock 49 = .ok (.iload 4, 2) := by decide +kernel
theorem dX9_followBlock_51 : decode cX9_followBlock 51 = .ok (.aload_n 0, 1) := by decide +kernel
theorem dX9_followBlock_52 : decode cX9_followBlock 52 = .ok (.getfield 46, 3) := by decide +kernel
theorem dX9_followBlock_55 : decode cX9_followBlock 55 = .ok (.iload_n 3, 1) := by decide +kernel
theorem dX9_followBlock_56 : decode cX9_followBlock 56 = .ok (.aload_n 1, 1) := by decide +kernel
theorem dX9_followBlock_57 : decode cX9_followBlock 57 = .ok (.getfield 143, 3) := by decide +kernel
theorem dX9_followBlock_60 : decode cX9_followBlock 60 = .ok (.iload 4, 2) := by decide +kernel
theorem dX9_followBlock_62 : decode cX9_followBlock 62 = .ok (.iaload, 1) := by decide +kernel
theorem dX9_followBlock_63 : decode cX9_followBlock 63 = .ok (.iadd, 1) := by decide +kernel
theorem dX9_followBlock_64 : decode cX9_followBlock 64 = .ok (.iaload, 1) := by decide +kernel
theorem dX9_followBlock_65 : decode cX9_followBlock 65 = .ok (.iastore, 1) := by decide +kernel
theorem dX9_followBlock_66 : decode cX9_followBlock 66 = .ok (.goto 136, 3) := by decide +kernel
theorem dX9_followBlock_69 : decode cX9_followBlock 69 = .ok (.iload 5, 2) := by decide +kernel
theorem dX9_followBlock_71 : decode cX9_followBlock 71 = .ok (.iconst 2, 1) := by decide +kernel
theorem dX9_followBlock_72 : decode cX9_followBlock 72 = .ok (.if_icmp .ne 34, 3) := by decide +kernel
theorem dX9_followBlock_75 : decode cX9_followBlock 75 = .ok (.aload_n 0, 1) := by decide +kernel
theorem dX9_followBlock_76 : decode cX9_followBlock 76 = .ok (.getfield 46, 3) := by decide +kernel
theorem dX9_followBlock_79 : decode cX9_followBlock 79 = .ok (.iload_n 3, 1) := by decide +kernel
theorem dX9_followBlock_80 : decode cX9_followBlock 80 = .ok (.aload_n 1, 1) := by decide +kernel
theorem dX9_followBlock_81 : decode cX9_followBlock 81 = .ok (.getfield 116, 3) := by decide +kernel
theorem dX9_followBlock_84 : decode cX9_followBlock 84 = .ok (.iload 4, 2) := by decide +kernel
theorem dX9_followBlock_86 : decode cX9_followBlock 86 = .ok (.iaload, 1) := by decide +kernel
theorem dX9_followBlock_87 : decode cX9_followBlock 87 = .ok (.iadd, 1) := by decide +kernel
theorem dX9_followBlock_88 : decode cX9_followBlock 88 = .ok (.aload_n 0, 1) := by decide +kernel
theorem dX9_followBlock_89 : decode cX9_followBlock 89 = .ok (.getfield 46, 3) := by decide +kernel
theorem dX9_followBlock_92 : decode cX9_followBlock 92 = .ok (.iload_n 3, 1) := by decide +kernel
theorem dX9_followBlock_93 : decode cX9_followBlock 93 = .ok (.aload_n 1, 1) := by decide +kernel
theorem dX9_followBlock_94 : decode cX9_followBlock 94 = .ok (.getfield 143, 3) := by decide +kernel
theorem dX9_followBlock_97 : decode cX9_followBlock 97 = .ok (.iload 4, 2) := by decide +kernel
theorem dX9_followBlock_99 : decode cX9_followBlock 99 = .ok (.iaload, 1) := by decide +kernel
theorem dX9_followBlock_100 : decode cX9_followBlock 100 = .ok (.iadd, 1) := by decide +kernel
theorem dX9_followBlock_101 : decode cX9_followBlock 101 = .ok (.iaload, 1) := by decide +kernel
theorem dX9_followBlock_102 : decode cX9_followBlock 102 = .ok (.iastore, 1) := by decide +kernel
theorem dX9_followBlock_103 : decode cX9_followBlock 103 = .ok (.goto 99, 3) := by decide +kernel
theorem dX9_followBlock_106 : decode cX9_followBlock 106 = .ok (.aload_n 0, 1) := by decide +kernel
theorem dX9_followBlock_107 : decode cX9_followBlock 107 = .ok (.getfield 34, 3) := by decide +kernel
theorem dX9_followBlock_110 : decode cX9_followBlock 110 = .ok (.iload 4, 2) := by decide +kernel
theorem dX9_followBlock_112 : decode cX9_followBlock 112 = .ok (.iaload, 1) := by decide +kernel
theorem dX9_followBlock_113 : decode cX9_followBlock 113 = .ok (.istore 6, 2) := by decide +kernel
theorem dX9_followBlock_115 : decode cX9_followBlock 115 = .ok (.iload 5, 2) := by decide +kernel
theorem dX9_followBlock_117 : decode cX9_followBlock 117 = .ok (.ifCond .eq 69, 3) := by decide +kernel
theorem dX9_followBlock_120 : decode cX9_followBlock 120 = .ok (.iload 5, 2) := by decide +kernel
theorem dX9_followBlock_122 : decode cX9_followBlock 122 = .ok (.iconst 1, 1) := by decide +kernel
theorem dX9_followBlock_123 : decode cX9_followBlock 123 = .ok (.if_icmp .eq 63, 3) := by decide +kernel
theorem dX9_followBlock_126 : decode cX9_followBlock 126 = .ok (.aload_n 0, 1) := by decide +kernel
theorem dX9_followBlock_127 : decode cX9_followBlock 127 = .ok (.getfield 30, 3) := by decide +kernel
theorem dX9_followBlock_130 : decode cX9_followBlock 130 = .ok (.getfield 152, 3) := by decide +kernel
theorem dX9_followBlock_133 : decode cX9_followBlock 133 = .ok (.aload_n 0, 1) := by decide +kernel
theorem dX9_followBlock_134 : decode cX9_followBlock 134 = .ok (.getfield 24, 3) := by decide +kernel
theorem dX9_followBlock_137 : decode cX9_followBlock 137 = .ok (.iload 6, 2) := by decide +kernel
theorem dX9_followBlock_139 : decode cX9_followBlock 139 = .ok (.iaload, 1) := by decide +kernel
theorem dX9_followBlock_140 : decode cX9_followBlock 140 = .ok (.aload_n 0, 1) := by decide +kernel
theorem dX9_followBlock_141 : decode cX9_followBlock 141 = .ok (.getfield 46, 3) := by decide +kernel
theorem dX9_followBlock_144 : decode cX9_followBlock 144 = .ok (.iload_n 3, 1) := by decide +kernel
theorem dX9_followBlock_145 : decode cX9_followBlock 145 = .ok (.aload_n 1, 1) := by decide +kernel
theorem dX9_followBlock_146 : decode cX9_followBlock 146 = .ok (.getfield 143, 3) := by decide +kernel
theorem dX9_followBlock_149 : decode cX9_followBlock 149 = .ok (.iload 4, 2) := by decide +kernel
theorem dX9_followBlock_151 : decode cX9_followBlock 151 = .ok (.iaload, 1) := by decide +kernel
theorem dX9_followBlock_152 : decode cX9_followBlock 152 = .ok (.iadd, 1) := by decide +kernel
theorem dX9_followBlock_153 : decode cX9_followBlock 153 = .ok (.iaload, 1) := by decide +kernel
theorem dX9_followBlock_154 : decode cX9_followBlock 154 = .ok (.iastore, 1) := by decide +kernel
theorem dX9_followBlock_155 : decode cX9_followBlock 155 = .ok (.aload_n 0, 1) := by decide +kernel
theorem dX9_followBlock_156 : decode cX9_followBlock 156 = .ok (.getfield 30, 3) := by decide +kernel
theorem dX9_followBlock_159 : decode cX9_followBlock 159 = .ok (.getfield 152, 3) := by decide +kernel
theorem dX9_followBlock_162 : decode cX9_followBlock 162 = .ok (.aload_n 0, 1) := by decide +kernel
theorem dX9_followBlock_163 : decode cX9_followBlock 163 = .ok (.getfield 24, 3) := by decide +kernel
theorem dX9_followBlock_166 : decode cX9_followBlock 166 = .ok (.iload 6, 2) := by decide +kernel
theorem dX9_followBlock_168 : decode cX9_followBlock 168 = .ok (.iaload, 1) := by decide +kernel
theorem dX9_followBlock_169 : decode cX9_followBlock 169 = .ok (.iconst 1, 1) := by decide +kernel
theorem dX9_followBlock_170 : decode cX9_followBlock 170 = .ok (.iadd, 1) := by decide +kernel
theorem dX9_followBlock_171 : decode cX9_followBlock 171 = .ok (.aload_n 0, 1) := by decide +kernel
theorem dX9_followBlock_172 : decode cX9_followBlock 172 = .ok (.getfield 46, 3) := by decide +kernel
theorem dX9_followBlock_175 : decode cX9_followBlock 175 = .ok (.iload_n 3, 1) := by decide +kernel
theorem dX9_followBlock_176 : decode cX9_followBlock 176 = .ok (.aload_n 1, 1) := by decide +kernel
theorem dX9_followBlock_177 : decode cX9_followBlock 177 = .ok (.getfield 155, 3) := by decide +kernel
theorem dX9_followBlock_180 : decode cX9_followBlock 180 = .ok (.iload 4, 2) := by decide +kernel
theorem dX9_followBlock_182 : decode cX9_followBlock 182 = .ok (.iaload, 1) := by decide +kernel
theorem dX9_followBlock_183 : decode cX9_followBlock 183 = .ok (.iadd, 1) := by decide +kernel
theorem dX9_followBlock_184 : decode cX9_followBlock 184 = .ok (.iaload, 1) := by decide +kernel
theorem dX9_followBlock_185 : decode cX9_followBlock 185 = .ok (.iastore, 1) := by decide +kernel
theorem dX9_followBlock_186 : decode cX9_followBlock 186 = .ok (.aload_n 0, 1) := by decide +kernel
theorem dX9_followBlock_187 : decode cX9_followBlock 187 = .ok (.getfield 46, 3) := by decide +kernel
theorem dX9_followBlock_190 : decode cX9_followBlock 190 = .ok (.iload_n 3, 1) := by decide +kernel
theorem dX9_followBlock_191 : decode cX9_followBlock 191 = .ok (.aload_n 1, 1) := by decide +kernel
theorem dX9_followBlock_192 : decode cX9_followBlock 192 = .ok (.getfield 116, 3) := by decide +kernel
theorem dX9_followBlock_195 : decode cX9_followBlock 195 = .ok (.iload 4, 2) := by decide +kernel
theorem dX9_followBlock_197 : decode cX9_followBlock 197 = .ok (.iaload, 1) := by decide +kernel
theorem dX9_followBlock_198 : decode cX9_followBlock 198 = .ok (.iadd, 1) := by decide +kernel
theorem dX9_followBlock_199 : decode cX9_followBlock 199 = .ok (.iload 6, 2) := by decide +kernel
theorem dX9_followBlock_201 : decode cX9_followBlock 201 = .ok (.iastore, 1) := by decide +kernel
theorem dX9_followBlock_202 : decode cX9_followBlock 202 = .ok (.iinc 4 1, 3) := by decide +kernel
theorem dX9_followBlock_205 : decode cX9_followBlock 205 = .ok (.goto (-192), 3) := by decide +kernel
theorem dX9_followBlock_208 : decode cX9_followBlock 208 = .ok (.aload_n 1, 1) := by decide +kernel
theorem dX9_followBlock_209 : decode cX9_followBlock 209 = .ok (.iload_n 2, 1) := by decide +kernel
theorem dX9_followBlock_210 : decode cX9_followBlock 210 = .ok (.invokevirtual 158, 3) := by decide +kernel
theorem dX9_followBlock_213 : decode cX9_followBlock 213 = .ok (.iconst 1, 1) := by decide +kernel
theorem dX9_followBlock_214 : decode cX9_followBlock 214 = .ok (.if_icmp .ne 7, 3) := by decide +kernel
theorem dX9_followBlock_217 : decode cX9_followBlock 217 = .ok (.iconst 1, 1) := by decide +kernel
theorem dX9_followBlock_218 : decode cX9_followBlock 218 = .ok (.goto 4, 3) := by decide +kernel
theorem dX9_followBlock_221 : decode cX9_followBlock 221 = .ok (.iconst 0, 1) := by decide +kernel
theorem dX9_followBlock_222 : decode cX9_followBlock 222 = .ok (.istore 4, 2) := by decide +kernel
theorem dX9_followBlock_224 : decode cX9_followBlock 224 = .ok (.aload_n 0, 1) := by decide +kernel
theorem dX9_followBlock_225 : decode cX9_followBlock 225 = .ok (.getfield 30, 3) := by decide +kernel
theorem dX9_followBlock_228 : decode cX9_followBlock 228 = .ok (.getfield 161, 3) := by decide +kernel
theorem dX9_followBlock_231 : decode cX9_followBlock 231 = .ok (.iload_n 2, 1) := by decide +kernel
theorem dX9_followBlock_232 : decode cX9_followBlock 232 = .ok (.iload 4, 2) := by decide +kernel
theorem dX9_followBlock_234 : decode cX9_followBlock 234 = .ok (.ifCond .eq 7, 3) := by decide +kernel
theorem dX9_followBlock_237 : decode cX9_followBlock 237 = .ok (.iconst (-1), 1) := by decide +kernel
theorem dX9_followBlock_238 : decode cX9_followBlock 238 = .ok (.goto 15, 3) := by decide +kernel
theorem dX9_followBlock_241 : decode cX9_followBlock 241 = .ok (.aload_n 0, 1) := by decide +kernel
theorem dX9_followBlock_242 : decode cX9_followBlock 242 = .ok (.getfield 46, 3) := by decide +kernel
theorem dX9_followBlock_245 : decode cX9_followBlock 245 = .ok (.iload_n 3, 1) := by decide +kernel
theorem dX9_followBlock_246 : decode cX9_followBlock 246 = .ok (.aload_n 1, 1) := by decide +kernel
theorem dX9_followBlock_247 : decode cX9_followBlock 247 = .ok (.iload_n 2, 1) := by decide +kernel
theorem dX9_followBlock_248 : decode cX9_followBlock 248 = .ok (.invokevirtual 164, 3) := by decide +kernel
theorem dX9_followBlock_251 : decode cX9_followBlock 251 = .ok (.iadd, 1) := by decide +kernel
theorem dX9_followBlock_252 : decode cX9_followBlock 252 = .ok (.iaload, 1) := by decide +kernel
theorem dX9_followBlock_253 : decode cX9_followBlock 253 = .ok (.iastore, 1) := by decide +kernel
theorem dX9_followBlock_254 : decode cX9_followBlock 254 = .ok (.return_, 1) := by decide +kernel
theorem dX9_fillChoices_0 : decode cX9_fillChoices 0 = .ok (.iconst 0, 1) := by decide +kernel
theorem dX9_fillChoices_1 : decode cX9_fillChoices 1 = .ok (.istore_n 2, 1) := by decide +kernel
theorem dX9_fillChoices_2 : decode cX9_fillChoices 2 = .ok (.iload_n 2, 1) := by decide +kernel
theorem dX9_fillChoices_3 : decode cX9_fillChoices 3 = .ok (.bipush 16, 2) := by decide +kernel
theorem dX9_fillChoices_5 : decode cX9_fillChoices 5 = .ok (.if_icmp .ge 50, 3) := by decide +kernel
theorem dX9_fillChoices_8 : decode cX9_fillChoices 8 = .ok (.aload_n 0, 1) := by decide +kernel
theorem dX9_fillChoices_9 : decode cX9_fillChoices 9 = .ok (.getfield 37, 3) := by decide +kernel
theorem dX9_fillChoices_12 : decode cX9_fillChoices 12 = .ok (.iload_n 2, 1) := by decide +kernel
theorem dX9_fillChoices_13 : decode cX9_fillChoices 13 = .ok (.iaload, 1) := by decide +kernel
theorem dX9_fillChoices_14 : decode cX9_fillChoices 14 = .ok (.istore_n 3, 1) := by decide +kernel
theorem dX9_fillChoices_15 : decode cX9_fillChoices 15 = .ok (.iload_n 3, 1) := by decide +kernel
theorem dX9_fillChoices_16 : decode cX9_fillChoices 16 = .ok (.aload_n 0, 1) := by decide +kernel
theorem dX9_fillChoices_17 : decode cX9_fillChoices 17 = .ok (.getfield 37, 3) := by decide +kernel
theorem dX9_fillChoices_20 : decode cX9_fillChoices 20 = .ok (.iload_n 2, 1) := by decide +kernel
theorem dX9_fillChoices_21 : decode cX9_fillChoices 21 = .ok (.iaload, 1) := by decide +kernel
theorem dX9_fillChoices_22 : decode cX9_fillChoices 22 = .ok (.aload_n 0, 1) := by decide +kernel
theorem dX9_fillChoices_23 : decode cX9_fillChoices 23 = .ok (.getfield 40, 3) := by decide +kernel
theorem dX9_fillChoices_26 : decode cX9_fillChoices 26 = .ok (.iload_n 2, 1) := by decide +kernel
theorem dX9_fillChoices_27 : decode cX9_fillChoices 27 = .ok (.iaload, 1) := by decide +kernel
theorem dX9_fillChoices_28 : decode cX9_fillChoices 28 = .ok (.iadd, 1) := by decide +kernel
theorem dX9_fillChoices_29 : decode cX9_fillChoices 29 = .ok (.if_icmp .ge 20, 3) := by decide +kernel
theorem dX9_fillChoices_32 : decode cX9_fillChoices 32 = .ok (.aload_n 0, 1) := by decide +kernel
theorem dX9_fillChoices_33 : decode cX9_fillChoices 33 = .ok (.iload_n 3, 1) := by decide +kernel
theorem dX9_fillChoices_34 : decode cX9_fillChoices 34 = .ok (.aload_n 1, 1) := by decide +kernel
theorem dX9_fillChoices_35 : decode cX9_fillChoices 35 = .ok (.getfield 135, 3) := by decide +kernel
theorem dX9_fillChoices_38 : decode cX9_fillChoices 38 = .ok (.iload_n 2, 1) := by decide +kernel
theorem dX9_fillChoices_39 : decode cX9_fillChoices 39 = .ok (.iaload, 1) := by decide +kernel
theorem dX9_fillChoices_40 : decode cX9_fillChoices 40 = .ok (.invokevirtual 167, 3) := by decide +kernel
theorem dX9_fillChoices_43 : decode cX9_fillChoices 43 = .ok (.iinc 3 1, 3) := by decide +kernel
theorem dX9_fillChoices_46 : decode cX9_fillChoices 46 = .ok (.goto (-31), 3) := by decide +kernel
theorem dX9_fillChoices_49 : decode cX9_fillChoices 49 = .ok (.iinc 2 1, 3) := by decide +kernel
theorem dX9_fillChoices_52 : decode cX9_fillChoices 52 = .ok (.goto (-50), 3) := by decide +kernel
theorem dX9_fillChoices_55 : decode cX9_fillChoices 55 = .ok (.return_, 1) := by decide +kernel
theorem dX9_fillChoice_0 : decode cX9_fillChoice 0 = .ok (.aload_n 0, 1) := by decide +kernel
theorem dX9_fillChoice_1 : decode cX9_fillChoice 1 = .ok (.getfield 24, 3) := by decide +kernel
theorem dX9_fillChoice_4 : decode cX9_fillChoice 4 = .ok (.iload_n 1, 1) := by decide +kernel
theorem dX9_fillChoice_5 : decode cX9_fillChoice 5 = .ok (.iaload, 1) := by decide +kernel
theorem dX9_fillChoice_6 : decode cX9_fillChoice 6 = .ok (.istore_n 3, 1) := by decide +kernel
theorem dX9_fillChoice_7 : decode cX9_fillChoice 7 = .ok (.iconst 0, 1) := by decide +kernel
theorem dX9_fillChoice_8 : decode cX9_fillChoice 8 = .ok (.istore 4, 2) := by decide +kernel
theorem dX9_fillChoice_10 : decode cX9_fillChoice 10 = .ok (.iload 4, 2) := by decide +kernel
theorem dX9_fillChoice_12 : decode cX9_fillChoice 12 = .ok (.bipush 16, 2) := by decide +kernel
theorem dX9_fillChoice_14 : decode cX9_fillChoice 14 = .ok (.if_icmp .ge 47, 3) := by decide +kernel
theorem dX9_fillChoice_17 : decode cX9_fillChoice 17 = .ok (.iload_n 2, 1) := by decide +kernel
theorem dX9_fillChoice_18 : decode cX9_fillChoice 18 = .ok (.iload 4, 2) := by decide +kernel
theorem dX9_fillChoice_20 : decode cX9_fillChoice 20 = .ok (.invokestatic 138, 3) := by decide +kernel
theorem dX9_fillChoice_23 : decode cX9_fillChoice 23 = .ok (.ifCond .eq 32, 3) := by decide +kernel
theorem dX9_fillChoice_26 : decode cX9_fillChoice 26 = .ok (.aload_n 0, 1) := by decide +kernel
theorem dX9_fillChoice_27 : decode cX9_fillChoice 27 = .ok (.getfield 30, 3) := by decide +kernel
theorem dX9_fillChoice_30 : decode cX9_fillChoice 30 = .ok (.getfield 152, 3) := by decide +kernel
theorem dX9_fillChoice_33 : decode cX9_fillChoice 33 = .ok (.iload_n 3, 1) := by decide +kernel
theorem dX9_fillChoice_34 : decode cX9_fillChoice 34 = .ok (.aload_n 0, 1) := by decide +kernel
theorem dX9_fillChoice_35 : decode cX9_fillChoice 35 = .ok (.getfield 46, 3) := by decide +kernel
theorem dX9_fillChoice_38 : decode cX9_fillChoice 38 = .ok (.iload 4, 2) := by decide +kernel
theorem dX9_fillChoice_40 : decode cX9_fillChoice 40 = .ok (.bipush 10, 2) := by decide +kernel
theorem dX9_fillChoice_42 : decode cX9_fillChoice 42 = .ok (.imul, 1) := by decide +kernel
theorem dX9_fillChoice_43 : decode cX9_fillChoice 43 = .ok (.aload_n 0, 1) := by decide +kernel
theorem dX9_fillChoice_44 : decode cX9_fillChoice 44 = .ok (.getfield 18, 3) := by decide +kernel
theorem dX9_fillChoice_47 : decode cX9_fillChoice 47 = .ok (.iload_n 1, 1) := by decide +kernel
theorem dX9_fillChoice_48 : decode cX9_fillChoice 48 = .ok (.iaload, 1) := by decide +kernel
theorem dX9_fillChoice_49 : decode cX9_fillChoice 49 = .ok (.iadd, 1) := by decide +kernel
theorem dX9_fillChoice_50 : decode cX9_fillChoice 50 = .ok (.iaload, 1) := by decide +kernel
theorem dX9_fillChoice_51 : decode cX9_fillChoice 51 = .ok (.iastore, 1) := by decide +kernel
theorem dX9_fillChoice_52 : decode cX9_fillChoice 52 = .ok (.iinc 3 1, 3) := by decide +kernel
theorem dX9_fillChoice_55 : decode cX9_fillChoice 55 = .ok (.iinc 4 1, 3) := by decide +kernel
theorem dX9_fillChoice_58 : decode cX9_fillChoice 58 = .ok (.goto (-48), 3) := by decide +kernel
theorem dX9_fillChoice_61 : decode cX9_fillChoice 61 = .ok (.aload_n 0, 1) := by decide +kernel
theorem dX9_fillChoice_62 : decode cX9_fillChoice 62 = .ok (.getfield 15, 3) := by decide +kernel
theorem dX9_fillChoice_65 : decode cX9_fillChoice 65 = .ok (.iload_n 1, 1) := by decide +kernel
theorem dX9_fillChoice_66 : decode cX9_fillChoice 66 = .ok (.iaload, 1) := by decide +kernel
theorem dX9_fillChoice_67 : decode cX9_fillChoice 67 = .ok (.ifCond .ne 13, 3) := by decide +kernel
theorem dX9_fillChoice_70 : decode cX9_fillChoice 70 = .ok (.aload_n 0, 1) := by decide +kernel
theorem dX9_fillChoice_71 : decode cX9_fillChoice 71 = .ok (.getfield 30, 3) := by decide +kernel
theorem dX9_fillChoice_74 : decode cX9_fillChoice 74 = .ok (.getfield 152, 3) := by decide +kernel
theorem dX9_fillChoice_77 : decode cX9_fillChoice 77 = .ok (.iload_n 3, 1) := by decide +kernel
theorem dX9_fillChoice_78 : decode cX9_fillChoice 78 = .ok (.iconst 0, 1) := by decide +kernel
theorem dX9_fillChoice_79 : decode cX9_fillChoice 79 = .ok (.iastore, 1) := by decide +kernel
theorem dX9_fillChoice_80 : decode cX9_fillChoice 80 = .ok (.return_, 1) := by decide +kernel
theorem dX10_init_0 : decode cX10_init 0 = .ok (.aload_n 0, 1) := by decide +kernel
theorem dX10_init_1 : decode cX10_init 1 = .ok (.invokespecial 3, 3) := by decide +kernel
theorem dX10_init_4 : decode cX10_init 4 = .ok (.aload_n 0, 1) := by decide +kernel
theorem dX10_init_5 : decode cX10_init 5 = .ok (.new 9, 3) := by decide +kernel
theorem dX10_init_8 : decode cX10_init 8 = .ok (.dup, 1) := by decide +kernel
theorem dX10_init_9 : decode cX10_init 9 = .ok (.invokespecial 11, 3) := by decide +kernel
theorem dX10_init_12 : decode cX10_init 12 = .ok (.putfield 12, 3) := by decide +kernel
theorem dX10_init_15 : decode cX10_init 15 = .ok (.aload_n 0, 1) := by decide +kernel
theorem dX10_init_16 : decode cX10_init 16 = .ok (.new 16, 3) := by decide +kernel
theorem dX10_init_19 : decode cX10_init 19 = .ok (.dup, 1) := by decide +kernel
theorem dX10_init_20 : decode cX10_init 20 = .ok (.invokespecial 18, 3) := by decide +kernel
theorem dX10_init_23 : decode cX10_init 23 = .ok (.putfield 19, 3) := by decide +kernel
theorem dX10_init_26 : decode cX10_init 26 = .ok (.aload_n 0, 1) := by decide +kernel
theorem dX10_init_27 : decode cX10_init 27 = .ok (.new 23, 3) := by decide +kernel
theorem dX10_init_30 : decode cX10_init 30 = .ok (.dup, 1) := by decide +kernel
theorem dX10_init_31 : decode cX10_init 31 = .ok (.invokespecial 25, 3) := by decide +kernel
theorem dX10_init_34 : decode cX10_init 34 = .ok (.putfield 26, 3) := by decide +kernel
theorem dX10_init_37 : decode cX10_init 37 = .ok (.aload_n 0, 1) := by decide +kernel
theorem dX10_init_38 : decode cX10_init 38 = .ok (.new 30, 3) := by decide +kernel
theorem dX10_init_41 : decode cX10_init 41 = .ok (.dup, 1) := by decide +kernel
theorem dX10_init_42 : decode cX10_init 42 = .ok (.invokespecial 32, 3) := by decide +kernel
theorem dX10_init_45 : decode cX10_init 45 = .ok (.putfield 33, 3) := by decide +kernel
theorem dX10_init_48 : decode cX10_init 48 = .ok (.aload_n 0, 1) := by decide +kernel
theorem dX10_init_49 : decode cX10_init 49 = .ok (.new 37, 3) := by decide +kernel
theorem dX10_init_52 : decode cX10_init 52 = .ok (.dup, 1) := by decide +kernel
theorem dX10_init_53 : decode cX10_init 53 = .ok (.invokespecial 39, 3) := by decide +kernel
theorem dX10_init_56 : decode cX10_init 56 = .ok (.putfield 40, 3) := by decide +kernel
theorem dX10_init_59 : decode cX10_init 59 = .ok (.aload_n 0, 1) := by decide +kernel
theorem dX10_init_60 : decode cX10_init 60 = .ok (.new 44, 3) := by decide +kernel
theorem dX10_init_63 : decode cX10_init 63 = .ok (.dup, 1) := by decide +kernel
theorem dX10_init_64 : decode cX10_init 64 = .ok (.aload_n 0, 1) := by decide +kernel
theorem dX10_init_65 : decode cX10_init 65 = .ok (.getfield 12, 3) := by decide +kernel
theorem dX10_init_68 : decode cX10_init 68 = .ok (.invokespecial 46, 3) := by decide +kernel
theorem dX10_init_71 : decode cX10_init 71 = .ok (.putfield 49, 3) := by decide +kernel
theorem dX10_init_74 : decode cX10_init 74 = .ok (.aload_n 0, 1) := by decide +kernel
theorem dX10_init_75 : decode cX10_init 75 = .ok (.new 53, 3) := by decide +kernel
theorem dX10_init_78 : decode cX10_init 78 = .ok (.dup, 1) := by decide +kernel
theorem dX10_init_79 : decode cX10_init 79 = .ok (.aload_n 0, 1) := by decide +kernel
theorem dX10_init_80 : decode cX10_init 80 = .ok (.getfield 12, 3) := by decide +kernel
theorem dX10_init_83 : decode cX10_init 83 = .ok (.aload_n 0, 1) := by decide +kernel
theorem dX10_init_84 : decode cX10_init 84 = .ok (.getfield 19, 3) := by decide +kernel
theorem dX10_init_87 : decode cX10_init 87 = .ok (.aload_n 0, 1) := by decide +kernel
theorem dX10_init_88 : decode cX10_init 88 = .ok (.getfield 26, 3) := by decide +kernel
theorem dX10_init_91 : decode cX10_init 91 = .ok (.aconst_null, 1) := by decide +kernel
theorem dX10_init_92 : decode cX10_init 92 = .ok (.invokespecial 55, 3) := by decide +kernel
theorem dX10_init_95 : decode cX10_init 95 = .ok (.putfield 58, 3) := by decide +kernel
theorem dX10_init_98 : decode cX10_init 98 = .ok (.aload_n 0, 1) := by decide +kernel
theorem dX10_init_99 : decode cX10_init 99 = .ok (.new 53, 3) := by decide +kernel
theorem dX10_init_102 : decode cX10_init 102 = .ok (.dup, 1) := by decide +kernel
theorem dX10_init_103 : decode cX10_init 103 = .ok (.aload_n 0, 1) := by decide +kernel
theorem dX10_init_104 : decode cX10_init 104 = .ok (.getfield 12, 3) := by decide +kernel
theorem dX10_init_107 : decode cX10_init 107 = .ok (.aload_n 0, 1) := by decide +kernel
theorem dX10_init_108 : decode cX10_init 108 = .ok (.getfield 19, 3) := by decide +kernel
theorem dX10_init_111 : decode cX10_init 111 = .ok (.aload_n 0, 1) := by decide +kernel
theorem dX10_init_112 : decode cX10_init 112 = .ok (.getfield 26, 3) := by decide +kernel
theorem dX10_init_115 : decode cX10_init 115 = .ok (.aload_n 0, 1) := by decide +kernel
theorem dX10_init_116 : decode cX10_init 116 = .ok (.getfield 40, 3) := by decide +kernel
theorem dX10_init_119 : decode cX10_init 119 = .ok (.invokespecial 55, 3) := by decide +kernel
theorem dX10_init_122 : decode cX10_init 122 = .ok (.putfield 61, 3) := by decide +kernel
theorem dX10_init_125 : decode cX10_init 125 = .ok (.aload_n 0, 1) := by decide +kernel
theorem dX10_init_126 : decode cX10_init 126 = .ok (.new 64, 3) := by decide +kernel
theorem dX10_init_129 : decode cX10_init 129 = .ok (.dup, 1) := by decide +kernel
theorem dX10_init_130 : decode cX10_init 130 = .ok (.aload_n 0, 1) := by decide +kernel
theorem dX10_init_131 : decode cX10_init 131 = .ok (.getfield 12, 3) := by decide +kernel
theorem dX10_init_134 : decode cX10_init 134 = .ok (.invokespecial 66, 3) := by decide +kernel
theorem dX10_init_137 : decode cX10_init 137 = .ok (.putfield 67, 3) := by decide +kernel
theorem dX10_init_140 : decode cX10_init 140 = .ok (.aload_n 0, 1) := by decide +kernel
theorem dX10_init_141 : decode cX10_init 141 = .ok (.iconst 1, 1) := by decide +kernel
theorem dX10_init_142 : decode cX10_init 142 = .ok (.putfield 71, 3) := by decide +kernel
theorem dX10_init_145 : decode cX10_init 145 = .ok (.return_, 1) := by decide +kernel
theorem dX10_block_0 : decode cX10_block 0 = .ok (.aload_n 0, 1) := by decide +kernel
theorem dX10_block_1 : decode cX10_block 1 = .ok (.getfield 12, 3) := by decide +kernel
theorem dX10_block_4 : decode cX10_block 4 = .ok (.getfield 75, 3) := by decide +kernel
theorem dX10_block_7 : decode cX10_block 7 = .ok (.bipush 16, 2) := by decide +kernel
theorem dX10_block_9 : decode cX10_block 9 = .ok (.if_icmp .lt 5, 3) := by decide +kernel
theorem dX10_block_12 : decode cX10_block 12 = .ok (.iconst (-1), 1) := by decide +kernel
theorem dX10_block_13 : decode cX10_block 13 = .ok (.ireturn, 1) := by decide +kernel
theorem dX10_block_14 : decode cX10_block 14 = .ok (.aload_n 0, 1) := by decide +kernel
theorem dX10_block_15 : decode cX10_block 15 = .ok (.iconst 1, 1) := by decide +kernel
theorem dX10_block_16 : decode cX10_block 16 = .ok (.putfield 71, 3) := by decide +kernel
theorem dX10_block_19 : decode cX10_block 19 = .ok (.aload_n 0, 1) := by decide +kernel
theorem dX10_block_20 : decode cX10_block 20 = .ok (.getfield 12, 3) := by decide +kernel
theorem dX10_block_23 : decode cX10_block 23 = .ok (.dup, 1) := by decide +kernel
theorem dX10_block_24 : decode cX10_block 24 = .ok (.getfield 75, 3) := by decide +kernel
theorem dX10_block_27 : decode cX10_block 27 = .ok (.iconst 1, 1) := by decide +kernel
theorem dX10_block_28 : decode cX10_block 28 = .ok (.iadd, 1) := by decide +kernel
theorem dX10_block_29 : decode cX10_block 29 = .ok (.putfield 75, 3) := by decide +kernel
theorem dX10_block_32 : decode cX10_block 32 = .ok (.aload_n 0, 1) := by decide +kernel
theorem dX10_block_33 : decode cX10_block 33 = .ok (.getfield 12, 3) := by decide +kernel
theorem dX10_block_36 : decode cX10_block 36 = .ok (.getfield 75, 3) := by decide +kernel
theorem dX10_block_39 : decode cX10_block 39 = .ok (.iconst 1, 1) := by decide +kernel
theorem dX10_block_40 : decode cX10_block 40 = .ok (.isub, 1) := by decide +kernel
theorem dX10_block_41 : decode cX10_block 41 = .ok (.ireturn, 1) := by decide +kernel
theorem dX10_put_0 : decode cX10_put 0 = .ok (.aload_n 0, 1) := by decide +kernel
theorem dX10_put_1 : decode cX10_put 1 = .ok (.getfield 12, 3) := by decide +kernel
theorem dX10_put_4 : decode cX10_put 4 = .ok (.iload_n 1, 1) := by decide +kernel
theorem dX10_put_5 : decode cX10_put 5 = .ok (.invokevirtual 79, 3) := by decide +kernel
theorem dX10_put_8 : decode cX10_put 8 = .ok (.ifCond .eq 27, 3) := by decide +kernel
theorem dX10_put_11 : decode cX10_put 11 = .ok (.aload_n 0, 1) := by decide +kernel
theorem dX10_put_12 : decode cX10_put 12 = .ok (.getfield 12, 3) := by decide +kernel
theorem dX10_put_15 : decode cX10_put 15 = .ok (.invokevirtual 83, 3) := by decide +kernel
theorem dX10_put_18 : decode cX10_put 18 = .ok (.bipush 100, 2) := by decide +kernel
theorem dX10_put_20 : decode cX10_put 20 = .ok (.if_icmp .ge 15, 3) := by decide +kernel
theorem dX10_put_23 : decode cX10_put 23 = .ok (.iload_n 2, 1) := by decide +kernel
theorem dX10_put_24 : decode cX10_put 24 = .ok (.iload_n 3, 1) := by decide +kernel
theorem dX10_put_25 : decode cX10_put 25 = .ok (.iload 4, 2) := by decide +kernel
theorem dX10_put_27 : decode cX10_put 27 = .ok (.iload 5, 2) := by decide +kernel
theorem dX10_put_29 : decode cX10_put 29 = .ok (.invokestatic 87, 3) := by decide +kernel
theorem dX10_put_32 : decode cX10_put 32 = .ok (.ifCond .ne 5, 3) := by decide +kernel
theorem dX10_put_35 : decode cX10_put 35 = .ok (.iconst (-1), 1) := by decide +kernel
theorem dX10_put_36 : decode cX10_put 36 = .ok (.ireturn, 1) := by decide +kernel
theorem dX10_put_37 : decode cX10_put 37 = .ok (.aload_n 0, 1) := by decide +kernel
theorem dX10_put_38 : decode cX10_put 38 = .ok (.iconst 1, 1) := by decide +kernel
theorem dX10_put_39 : decode cX10_put 39 = .ok (.putfield 71, 3) := by decide +kernel
theorem dX10_put_42 : decode cX10_put 42 = .ok (.iload_n 2, 1) := by decide +kernel
theorem dX10_put_43 : decode cX10_put 43 = .ok (.bipush 14, 2) := by decide +kernel
theorem dX10_put_45 : decode cX10_put 45 = .ok (.if_icmp .ne 18, 3) := by decide +kernel
theorem dX10_put_48 : decode cX10_put 48 = .ok (.aload_n 0, 1) := by decide +kernel
theorem dX10_put_49 : decode cX10_put 49 = .ok (.getfield 12, 3) := by decide +kernel
theorem dX10_put_52 : decode cX10_put 52 = .ok (.iload_n 1, 1) := by decide +kernel
theorem dX10_put_53 : decode cX10_put 53 = .ok (.iload_n 2, 1) := by decide +kernel
theorem dX10_put_54 : decode cX10_put 54 = .ok (.iconst (-1), 1) := by decide +kernel
theorem dX10_put_55 : decode cX10_put 55 = .ok (.iload_n 3, 1) := by decide +kernel
theorem dX10_put_56 : decode cX10_put 56 = .ok (.iconst (-1), 1) := by decide +kernel
theorem dX10_put_57 : decode cX10_put 57 = .ok (.invokevirtual 91, 3) := by decide +kernel
theorem dX10_put_60 : decode cX10_put 60 = .ok (.goto 17, 3) := by decide +kernel
theorem dX10_put_63 : decode cX10_put 63 = .ok (.aload_n 0, 1) := by decide +kernel
theorem dX10_put_64 : decode cX10_put 64 = .ok (.getfield 12, 3) := by decide +kernel
theorem dX10_put_67 : decode cX10_put 67 = .ok (.iload_n 1, 1) := by decide +kernel
theorem dX10_put_68 : decode cX10_put 68 = .ok (.iload_n 2, 1) := by decide +kernel
theorem dX10_put_69 : decode cX10_put 69 = .ok (.iload_n 3, 1) := by decide +kernel
theorem dX10_put_70 : decode cX10_put 70 = .ok (.iload 4, 2) := by decide +kernel
theorem dX10_put_72 : decode cX10_put 72 = .ok (.iload 5, 2) := by decide +kernel
theorem dX10_put_74 : decode cX10_put 74 = .ok (.invokevirtual 91, 3) := by decide +kernel
theorem dX10_put_77 : decode cX10_put 77 = .ok (.aload_n 0, 1) := by decide +kernel
theorem dX10_put_78 : decode cX10_put 78 = .ok (.getfield 12, 3) := by decide +kernel
theorem dX10_put_81 : decode cX10_put 81 = .ok (.invokevirtual 83, 3) := by decide +kernel
theorem dX10_put_84 : decode cX10_put 84 = .ok (.ireturn, 1) := by decide +kernel
theorem dX10_ends_0 : decode cX10_ends 0 = .ok (.aload_n 0, 1) := by decide +kernel
theorem dX10_ends_1 : decode cX10_ends 1 = .ok (.getfield 12, 3) := by decide +kernel
theorem dX10_ends_4 : decode cX10_ends 4 = .ok (.iload_n 1, 1) := by decide +kernel
theorem dX10_ends_5 : decode cX10_ends 5 = .ok (.invokevirtual 79, 3) := by decide +kernel
theorem dX10_ends_8 : decode cX10_ends 8 = .ok (.ifCond .eq 15, 3) := by decide +kernel
theorem dX10_ends_11 : decode cX10_ends 11 = .ok (.iload_n 2, 1) := by decide +kernel
theorem dX10_ends_12 : decode cX10_ends 12 = .ok (.iload_n 3, 1) := by decide +kernel
theorem dX10_ends_13 : decode cX10_ends 13 = .ok (.iload 4, 2) := by decide +kernel
theorem dX10_ends_15 : decode cX10_ends 15 = .ok (.iload 5, 2) := by decide +kernel
theorem dX10_ends_17 : decode cX10_ends 17 = .ok (.invokestatic 95, 3) := by decide +kernel
theorem dX10_ends_20 : decode cX10_ends 20 = .ok (.ifCond .ne 5, 3) := by decide +kernel
theorem dX10_ends_23 : decode cX10_ends 23 = .ok (.iconst 0, 1) := by decide +kernel
theorem dX10_ends_24 : decode cX10_ends 24 = .ok (.ireturn, 1) := by decide +kernel
theorem dX10_ends_25 : decode cX10_ends 25 = .ok (.aload_n 0, 1) := by decide +kernel
theorem dX10_ends_26 : decode cX10_ends 26 = .ok (.iconst 1, 1) := by decide +kernel
theorem dX10_ends_27 : decode cX10_ends 27 = .ok (.putfield 71, 3) := by decide +kernel
theorem dX10_ends_30 : decode cX10_ends 30 = .ok (.aload_n 0, 1) := by decide +kernel
theorem dX10_ends_31 : decode cX10_ends 31 = .ok (.getfield 12, 3) := by decide +kernel
theorem dX10_ends_34 : decode cX10_ends 34 = .ok (.iload_n 1, 1) := by decide +kernel
theorem dX10_ends_35 : decode cX10_ends 35 = .ok (.iload_n 2, 1) := by decide +kernel
theorem dX10_ends_36 : decode cX10_ends 36 = .ok (.iload_n 3, 1) := by decide +kernel
theorem dX10_ends_37 : decode cX10_ends 37 = .ok (.iload 4, 2) := by decide +kernel
theorem dX10_ends_39 : decode cX10_ends 39 = .ok (.iload 5, 2) := by decide +kernel
theorem dX10_ends_41 : decode cX10_ends 41 = .ok (.invokevirtual 98, 3) := by decide +kernel
theorem dX10_ends_44 : decode cX10_ends 44 = .ok (.iconst 1, 1) := by decide +kernel
theorem dX10_ends_45 : decode cX10_ends 45 = .ok (.ireturn, 1) := by decide +kernel
theorem dX10_clear_0 : decode cX10_clear 0 = .ok (.aload_n 0, 1) := by decide +kernel
theorem dX10_clear_1 : decode cX10_clear 1 = .ok (.getfield 12, 3) := by decide +kernel
theorem dX10_clear_4 : decode cX10_clear 4 = .ok (.getfield 75, 3) := by decide +kernel
theorem dX10_clear_7 : decode cX10_clear 7 = .ok (.istore_n 1, 1) := by decide +kernel
theorem dX10_clear_8 : decode cX10_clear 8 = .ok (.aload_n 0, 1) := by decide +kernel
theorem dX10_clear_9 : decode cX10_clear 9 = .ok (.iconst 1, 1) := by decide +kernel
theorem dX10_clear_10 : decode cX10_clear 10 = .ok (.putfield 71, 3) := by decide +kernel
theorem dX10_clear_13 : decode cX10_clear 13 = .ok (.aload_n 0, 1) := by decide +kernel
theorem dX10_clear_14 : decode cX10_clear 14 = .ok (.getfield 12, 3) := by decide +kernel
theorem dX10_clear_17 : decode cX10_clear 17 = .ok (.invokevirtual 101, 3) := by decide +kernel
theorem dX10_clear_20 : decode cX10_clear 20 = .ok (.iload_n 1, 1) := by decide +kernel
theorem dX10_clear_21 : decode cX10_clear 21 = .ok (.ireturn, 1) := by decide +kernel
theorem dX10_about_0 : decode cX10_about 0 = .ok (.aload_n 0, 1) := by decide +kernel
theorem dX10_about_1 : decode cX10_about 1 = .ok (.getfield 12, 3) := by decide +kernel
theorem dX10_about_4 : decode cX10_about 4 = .ok (.iload_n 1, 1) := by decide +kernel
theorem dX10_about_5 : decode cX10_about 5 = .ok (.invokevirtual 79, 3) := by decide +kernel
theorem dX10_about_8 : decode cX10_about 8 = .ok (.ifCond .ne 5, 3) := by decide +kernel
theorem dX10_about_11 : decode cX10_about 11 = .ok (.iconst (-1), 1) := by decide +kernel
theorem dX10_about_12 : decode cX10_about 12 = .ok (.ireturn, 1) := by decide +kernel
theorem dX10_about_13 : decode cX10_about 13 = .ok (.aload_n 0, 1) := by decide +kernel
theorem dX10_about_14 : decode cX10_about 14 = .ok (.invokevirtual 104, 3) := by decide +kernel
theorem dX10_about_17 : decode cX10_about 17 = .ok (.iload_n 2, 1) := by decide +kernel
theorem dX10_about_18 : decode cX10_about 18 = .ok (.lookupswitch 82 #[(0, 34), (3, 51), (6, 73)], 34) := by decide +kernel
theorem dX10_about_52 : decode cX10_about 52 = .ok (.aload_n 0, 1) := by decide +kernel
theorem dX10_about_53 : decode cX10_about 53 = .ok (.getfield 19, 3) := by decide +kernel
theorem dX10_about_56 : decode cX10_about 56 = .ok (.iload_n 1, 1) := by decide +kernel
theorem dX10_about_57 : decode cX10_about 57 = .ok (.invokevirtual 107, 3) := by decide +kernel
theorem dX10_about_60 : decode cX10_about 60 = .ok (.ifCond .eq 7, 3) := by decide +kernel
theorem dX10_about_63 : decode cX10_about 63 = .ok (.iconst 1, 1) := by decide +kernel
theorem dX10_about_64 : decode cX10_about 64 = .ok (.goto 4, 3) := by decide +kernel
theorem dX10_about_67 : decode cX10_about 67 = .ok (.iconst 0, 1) := by decide +kernel
theorem dX10_about_68 : decode cX10_about 68 = .ok (.ireturn, 1) := by decide +kernel
theorem dX10_about_69 : decode cX10_about 69 = .ok (.aload_n 0, 1) := by decide +kernel
theorem dX10_about_70 : decode cX10_about 70 = .ok (.getfield 12, 3) := by decide +kernel
theorem dX10_about_73 : decode cX10_about 73 = .ok (.getfield 110, 3) := by decide +kernel
theorem dX10_about_76 : decode cX10_about 76 = .ok (.iload_n 1, 1) := by decide +kernel
theorem dX10_about_77 : decode cX10_about 77 = .ok (.iconst 1, 1) := by decide +kernel
theorem dX10_about_78 : decode cX10_about 78 = .ok (.iadd, 1) := by decide +kernel
theorem dX10_about_79 : decode cX10_about 79 = .ok (.iaload, 1) := by decide +kernel
theorem dX10_about_80 : decode cX10_about 80 = .ok (.aload_n 0, 1) := by decide +kernel
theorem dX10_about_81 : decode cX10_about 81 = .ok (.getfield 12, 3) := by decide +kernel
theorem dX10_about_84 : decode cX10_about 84 = .ok (.getfield 110, 3) := by decide +kernel
theorem dX10_about_87 : decode cX10_about 87 = .ok (.iload_n 1, 1) := by decide +kernel
theorem dX10_about_88 : decode cX10_about 88 = .ok (.iaload, 1) := by decide +kernel
theorem dX10_about_89 : decode cX10_about 89 = .ok (.isub, 1) := by decide +kernel
theorem dX10_about_90 : decode cX10_about 90 = .ok (.ireturn, 1) := by decide +kernel
theorem dX10_about_91 : decode cX10_about 91 = .ok (.aload_n 0, 1) := by decide +kernel
theorem dX10_about_92 : decode cX10_about 92 = .ok (.getfield 12, 3) := by decide +kernel
theorem dX10_about_95 : decode cX10_about 95 = .ok (.iload_n 1, 1) := by decide +kernel
theorem dX10_about_96 : decode cX10_about 96 = .ok (.invokevirtual 114, 3) := by decide +kernel
theorem dX10_about_99 : decode cX10_about 99 = .ok (.ireturn, 1) := by decide +kernel
theorem dX10_about_100 : decode cX10_about 100 = .ok (.aload_n 0, 1) := by decide +kernel
theorem dX10_about_101 : decode cX10_about 101 = .ok (.getfield 19, 3) := by decide +kernel
theorem dX10_about_104 : decode cX10_about 104 = .ok (.iload_n 1, 1) := by decide +kernel
theorem dX10_about_105 : decode cX10_about 105 = .ok (.invokevirtual 107, 3) := by decide +kernel
theorem dX10_about_108 : decode cX10_about 108 = .ok (.ifCond .eq 12, 3) := by decide +kernel
theorem dX10_about_111 : decode cX10_about 111 = .ok (.aload_n 0, 1) := by decide +kernel
theorem dX10_about_112 : decode cX10_about 112 = .ok (.iload_n 1, 1) := by decide +kernel
theorem dX10_about_113 : decode cX10_about 113 = .ok (.iload_n 2, 1) := by decide +kernel
theorem dX10_about_114 : decode cX10_about 114 = .ok (.invokevirtual 118, 3) := by decide +kernel
theorem dX10_about_117 : decode cX10_about 117 = .ok (.goto 4, 3) := by decide +kernel
theorem dX10_about_120 : decode cX10_about 120 = .ok (.iconst (-1), 1) := by decide +kernel
theorem dX10_about_121 : decode cX10_about 121 = .ok (.ireturn, 1) := by decide +kernel
theorem dX10_aboutReached_0 : decode cX10_aboutReached 0 = .ok (.iload_n 2, 1) := by decide +kernel
theorem dX10_aboutReached_1 : decode cX10_aboutReached 1 = .ok (.tableswitch 81 1 5 #[35, 45, 81, 58, 68], 35) := by decide +kernel
theorem dX10_aboutReached_36 : decode cX10_aboutReached 36 = .ok (.aload_n 0, 1) := by decide +kernel
theorem dX10_aboutReached_37 : decode cX10_aboutReached 37 = .ok (.getfield 19, 3) := by decide +kernel
theorem dX10_aboutReached_40 : decode cX10_aboutReached 40 = .ok (.getfield 122, 3) := by decide +kernel
theorem dX10_aboutReached_43 : decode cX10_aboutReached 43 = .ok (.iload_n 1, 1) := by decide +kernel
theorem dX10_aboutReached_44 : decode cX10_aboutReached 44 = .ok (.iaload, 1) := by decide +kernel
theorem dX10_aboutReached_45 : decode cX10_aboutReached 45 = .ok (.ireturn, 1) := by decide +kernel
theorem dX10_aboutReached_46 : decode cX10_aboutReached 46 = .ok (.aload_n 0, 1) := by decide +kernel
theorem dX10_aboutReached_47 : decode cX10_aboutReached 47 = .ok (.getfield 19, 3) := by decide +kernel
theorem dX10_aboutReached_50 : decode cX10_aboutReached 50 = .ok (.getfield 125, 3) := by decide +kernel
theorem dX10_aboutReached_53 : decode cX10_aboutReached 53 = .ok (.iload_n 1, 1) := by decide +kernel
theorem dX10_aboutReached_54 : decode cX10_aboutReached 54 = .ok (.iaload, 1) := by decide +kernel
theorem dX10_aboutReached_55 : decode cX10_aboutReached 55 = .ok (.invokestatic 128, 3) := by decide +kernel
theorem dX10_aboutReached_58 : decode cX10_aboutReached 58 = .ok (.ireturn, 1) := by decide +kernel
theorem dX10_aboutReached_59 : decode cX10_aboutReached 59 = .ok (.aload_n 0, 1) := by decide +kernel
theorem dX10_aboutReached_60 : decode cX10_aboutReached 60 = .ok (.getfield 26, 3) := by decide +kernel
theorem dX10_aboutReached_63 : decode cX10_aboutReached 63 = .ok (.getfield 133, 3) := by decide +kernel
theorem dX10_aboutReached_66 : decode cX10_aboutReached 66 = .ok (.iload_n 1, 1) := by decide +kernel
theorem dX10_aboutReached_67 : decode cX10_aboutReached 67 = .ok (.iaload, 1) := by decide +kernel
theorem dX10_aboutReached_68 : decode cX10_aboutReached 68 = .ok (.ireturn, 1) := by decide +kernel
theorem dX10_aboutReached_69 : decode cX10_aboutReached 69 = .ok (.aload_n 0, 1) := by decide +kernel
theorem dX10_aboutReached_70 : decode cX10_aboutReached 70 = .ok (.getfield 19, 3) := by decide +kernel
theorem dX10_aboutReached_73 : decode cX10_aboutReached 73 = .ok (.getfield 136, 3) := by decide +kernel
theorem dX10_aboutReached_76 : decode cX10_aboutReached 76 = .ok (.iload_n 1, 1) := by decide +kernel
theorem dX10_aboutReached_77 : decode cX10_aboutReached 77 = .ok (.iaload, 1) := by decide +kernel
theorem dX10_aboutReached_78 : decode cX10_aboutReached 78 = .ok (.invokestatic 128, 3) := by decide +kernel
theorem dX10_aboutReached_81 : decode cX10_aboutReached 81 = .ok (.ireturn, 1) := by decide +kernel
theorem dX10_aboutReached_82 : decode cX10_aboutReached 82 = .ok (.iconst (-1), 1) := by decide +kernel
theorem dX10_aboutReached_83 : decode cX10_aboutReached 83 = .ok (.ireturn, 1) := by decide +kernel
theorem dX10_predecessor_0 : decode cX10_predecessor 0 = .ok (.aload_n 0, 1) := by decide +kernel
theorem dX10_predecessor_1 : decode cX10_predecessor 1 = .ok (.invokevirtual 104, 3) := by decide +kernel
theorem dX10_predecessor_4 : decode cX10_predecessor 4 = .ok (.aload_n 0, 1) := by decide +kernel
theorem dX10_predecessor_5 : decode cX10_predecessor 5 = .ok (.getfield 19, 3) := by decide +kernel
theorem dX10_predecessor_8 : decode cX10_predecessor 8 = .ok (.iload_n 1, 1) := by decide +kernel
theorem dX10_predecessor_9 : decode cX10_predecessor 9 = .ok (.invokevirtual 107, 3) := by decide +kernel
theorem dX10_predecessor_12 : decode cX10_predecessor 12 = .ok (.ifCond .eq 19, 3) := by decide +kernel
theorem dX10_predecessor_15 : decode cX10_predecessor 15 = .ok (.aload_n 0, 1) := by decide +kernel
theorem dX10_predecessor_16 : decode cX10_predecessor 16 = .ok (.getfield 19, 3) := by decide +kernel
theorem dX10_predecessor_19 : decode cX10_predecessor 19 = .ok (.getfield 125, 3) := by decide +kernel
theorem dX10_predecessor_22 : decode cX10_predecessor 22 = .ok (.iload_n 1, 1) := by decide +kernel
theorem dX10_predecessor_23 : decode cX10_predecessor 23 = .ok (.iaload, 1) := by decide +kernel
theorem dX10_predecessor_24 : decode cX10_predecessor 24 = .ok (.iload_n 2, 1) := by decide +kernel
theorem dX10_predecessor_25 : decode cX10_predecessor 25 = .ok (.invokestatic 139, 3) := by decide +kernel
theorem dX10_predecessor_28 : decode cX10_predecessor 28 = .ok (.goto 4, 3) := by decide +kernel
theorem dX10_predecessor_31 : decode cX10_predecessor 31 = .ok (.iconst (-1), 1) := by decide +kernel
theorem dX10_predecessor_32 : decode cX10_predecessor 32 = .ok (.ireturn, 1) := by decide +kernel
theorem dX10_dominates_0 : decode cX10_dominates 0 = .ok (.aload_n 0, 1) := by decide +kernel
theorem dX10_dominates_1 : decode cX10_dominates 1 = .ok (.invokevirtual 104, 3) := by decide +kernel
theorem dX10_dominates_4 : decode cX10_dominates 4 = .ok (.aload_n 0, 1) := by decide +kernel
theorem dX10_dominates_5 : decode cX10_dominates 5 = .ok (.getfield 19, 3) := by decide +kernel
theorem dX10_dominates_8 : decode cX10_dominates 8 = .ok (.iload_n 1, 1) := by decide +kernel
theorem dX10_dominates_9 : decode cX10_dominates 9 = .ok (.invokevirtual 107, 3) := by decide +kernel
theorem dX10_dominates_12 : decode cX10_dominates 12 = .ok (.ifCond .eq 14, 3) := by decide +kernel
theorem dX10_dominates_15 : decode cX10_dominates 15 = .ok (.aload_n 0, 1) := by decide +kernel
theorem dX10_dominates_16 : decode cX10_dominates 16 = .ok (.getfield 19, 3) := by decide +kernel
theorem dX10_dominates_19 : decode cX10_dominates 19 = .ok (.iload_n 2, 1) := by decide +kernel
theorem dX10_dominates_20 : decode cX10_dominates 20 = .ok (.invokevirtual 107, 3) := by decide +kernel
theorem dX10_dominates_23 : decode cX10_dominates 23 = .ok (.ifCond .ne 5, 3) := by decide +kernel
theorem dX10_dominates_26 : decode cX10_dominates 26 = .ok (.iconst (-1), 1) := by decide +kernel
theorem dX10_dominates_27 : decode cX10_dominates 27 = .ok (.ireturn, 1) := by decide +kernel
theorem dX10_dominates_28 : decode cX10_dominates 28 = .ok (.aload_n 0, 1) := by decide +kernel
theorem dX10_dominates_29 : decode cX10_dominates 29 = .ok (.getfield 19, 3) := by decide +kernel
theorem dX10_dominates_32 : decode cX10_dominates 32 = .ok (.getfield 142, 3) := by decide +kernel
theorem dX10_dominates_35 : decode cX10_dominates 35 = .ok (.iload_n 1, 1) := by decide +kernel
theorem dX10_dominates_36 : decode cX10_dominates 36 = .ok (.iaload, 1) := by decide +kernel
theorem dX10_dominates_37 : decode cX10_dominates 37 = .ok (.iload_n 2, 1) := by decide +kernel
theorem dX10_dominates_38 : decode cX10_dominates 38 = .ok (.invokestatic 145, 3) := by decide +kernel
theorem dX10_dominates_41 : decode cX10_dominates 41 = .ok (.ifCond .eq 7, 3) := by decide +kernel
theorem dX10_dominates_44 : decode cX10_dominates 44 = .ok (.iconst 1, 1) := by decide +kernel
theorem dX10_dominates_45 : decode cX10_dominates 45 = .ok (.goto 4, 3) := by decide +kernel
theorem dX10_dominates_48 : decode cX10_dominates 48 = .ok (.iconst 0, 1) := by decide +kernel
theorem dX10_dominates_49 : decode cX10_dominates 49 = .ok (.ireturn, 1) := by decide +kernel
theorem dX10_meets_0 : decode cX10_meets 0 = .ok (.aload_n 0, 1) := by decide +kernel
theorem dX10_meets_1 : decode cX10_meets 1 = .ok (.invokevirtual 104, 3) := by decide +kernel
theorem dX10_meets_4 : decode cX10_meets 4 = .ok (.aload_n 0, 1) := by decide +kernel
theorem dX10_meets_5 : decode cX10_meets 5 = .ok (.getfield 19, 3) := by decide +kernel
theorem dX10_meets_8 : decode cX10_meets 8 = .ok (.iload_n 1, 1) := by decide +kernel
theorem dX10_meets_9 : decode cX10_meets 9 = .ok (.invokevirtual 107, 3) := by decide +kernel
theorem dX10_meets_12 : decode cX10_meets 12 = .ok (.ifCond .eq 14, 3) := by decide +kernel
theorem dX10_meets_15 : decode cX10_meets 15 = .ok (.aload_n 0, 1) := by decide +kernel
theorem dX10_meets_16 : decode cX10_meets 16 = .ok (.getfield 19, 3) := by decide +kernel
theorem dX10_meets_19 : decode cX10_meets 19 = .ok (.iload_n 2, 1) := by decide +kernel
theorem dX10_meets_20 : decode cX10_meets 20 = .ok (.invokevirtual 107, 3) := by decide +kernel
theorem dX10_meets_23 : decode cX10_meets 23 = .ok (.ifCond .ne 5, 3) := by decide +kernel
theorem dX10_meets_26 : decode cX10_meets 26 = .ok (.iconst (-1), 1) := by decide +kernel
theorem dX10_meets_27 : decode cX10_meets 27 = .ok (.ireturn, 1) := by decide +kernel
theorem dX10_meets_28 : decode cX10_meets 28 = .ok (.aload_n 0, 1) := by decide +kernel
theorem dX10_meets_29 : decode cX10_meets 29 = .ok (.getfield 19, 3) := by decide +kernel
theorem dX10_meets_32 : decode cX10_meets 32 = .ok (.getfield 136, 3) := by decide +kernel
theorem dX10_meets_35 : decode cX10_meets 35 = .ok (.iload_n 1, 1) := by decide +kernel
theorem dX10_meets_36 : decode cX10_meets 36 = .ok (.iaload, 1) := by decide +kernel
theorem dX10_meets_37 : decode cX10_meets 37 = .ok (.iload_n 2, 1) := by decide +kernel
theorem dX10_meets_38 : decode cX10_meets 38 = .ok (.invokestatic 145, 3) := by decide +kernel
theorem dX10_meets_41 : decode cX10_meets 41 = .ok (.ifCond .eq 7, 3) := by decide +kernel
theorem dX10_meets_44 : decode cX10_meets 44 = .ok (.iconst 1, 1) := by decide +kernel
theorem dX10_meets_45 : decode cX10_meets 45 = .ok (.goto 4, 3) := by decide +kernel
theorem dX10_meets_48 : decode cX10_meets 48 = .ok (.iconst 0, 1) := by decide +kernel
theorem dX10_meets_49 : decode cX10_meets 49 = .ok (.ireturn, 1) := by decide +kernel
theorem dX10_value_0 : decode cX10_value 0 = .ok (.aload_n 0, 1) := by decide +kernel
theorem dX10_value_1 : decode cX10_value 1 = .ok (.invokevirtual 104, 3) := by decide +kernel
theorem dX10_value_4 : decode cX10_value 4 = .ok (.aload_n 0, 1) := by decide +kernel
theorem dX10_value_5 : decode cX10_value 5 = .ok (.getfield 26, 3) := by decide +kernel
theorem dX10_value_8 : decode cX10_value 8 = .ok (.iload_n 1, 1) := by decide +kernel
theorem dX10_value_9 : decode cX10_value 9 = .ok (.invokevirtual 149, 3) := by decide +kernel
theorem dX10_value_12 : decode cX10_value 12 = .ok (.ifCond .ne 5, 3) := by decide +kernel
theorem dX10_value_15 : decode cX10_value 15 = .ok (.iconst (-1), 1) := by decide +kernel
theorem dX10_value_16 : decode cX10_value 16 = .ok (.ireturn, 1) := by decide +kernel
theorem dX10_value_17 : decode cX10_value 17 = .ok (.iload_n 2, 1) := by decide +kernel
theorem dX10_value_18 : decode cX10_value 18 = .ok (.tableswitch 119 0 6 #[42, 52, 62, 72, 82, 100, 109], 42) := by decide +kernel
theorem dX10_value_60 : decode cX10_value 60 = .ok (.aload_n 0, 1) := by decide +kernel
theorem dX10_value_61 : decode cX10_value 61 = .ok (.getfield 26, 3) := by decide +kernel
theorem dX10_value_64 : decode cX10_value 64 = .ok (.getfield 150, 3) := by decide +kernel
theorem dX10_value_67 : decode cX10_value 67 = .ok (.iload_n 1, 1) := by decide +kernel
theorem dX10_value_68 : decode cX10_value 68 = .ok (.iaload, 1) := by decide +kernel
theorem dX10_value_69 : decode cX10_value 69 = .ok (.ireturn, 1) := by decide +kernel
theorem dX10_value_70 : decode cX10_value 70 = .ok (.aload_n 0, 1) := by decide +kernel
theorem dX10_value_71 : decode cX10_value 71 = .ok (.getfield 26, 3) := by decide +kernel
theorem dX10_value_74 : decode cX10_value 74 = .ok (.getfield 153, 3) := by decide +kernel
theorem dX10_value_77 : decode cX10_value 77 = .ok (.iload_n 1, 1) := by decide +kernel
theorem dX10_value_78 : decode cX10_value 78 = .ok (.iaload, 1) := by decide +kernel
theorem dX10_value_79 : decode cX10_value 79 = .ok (.ireturn, 1) := by decide +kernel
theorem dX10_value_80 : decode cX10_value 80 = .ok (.aload_n 0, 1) := by decide +kernel
theorem dX10_value_81 : decode cX10_value 81 = .ok (.getfield 26, 3) := by decide +kernel
theorem dX10_value_84 : decode cX10_value 84 = .ok (.getfield 156, 3) := by decide +kernel
theorem dX10_value_87 : decode cX10_value 87 = .ok (.iload_n 1, 1) := by decide +kernel
theorem dX10_value_88 : decode cX10_value 88 = .ok (.iaload, 1) := by decide +kernel
theorem dX10_value_89 : decode cX10_value 89 = .ok (.ireturn, 1) := by decide +kernel
theorem dX10_value_90 : decode cX10_value 90 = .ok (.aload_n 0, 1) := by decide +kernel
theorem dX10_value_91 : decode cX10_value 91 = .ok (.getfield 33, 3) := by decide +kernel
theorem dX10_value_94 : decode cX10_value 94 = .ok (.getfield 159, 3) := by decide +kernel
theorem dX10_value_97 : decode cX10_value 97 = .ok (.iload_n 1, 1) := by decide +kernel
theorem dX10_value_98 : decode cX10_value 98 = .ok (.iaload, 1) := by decide +kernel
theorem dX10_value_99 : decode cX10_value 99 = .ok (.ireturn, 1) := by decide +kernel
theorem dX10_value_100 : decode cX10_value 100 = .ok (.aload_n 0, 1) := by decide +kernel
theorem dX10_value_101 : decode cX10_value 101 = .ok (.getfield 40, 3) := by decide +kernel
theorem dX10_value_104 : decode cX10_value 104 = .ok (.getfield 162, 3) := by decide +kernel
theorem dX10_value_107 : decode cX10_value 107 = .ok (.iload_n 1, 1) := by decide +kernel
theorem dX10_value_108 : decode cX10_value 108 = .ok (.baload, 1) := by decide +kernel
theorem dX10_value_109 : decode cX10_value 109 = .ok (.ifCond .eq 7, 3) := by decide +kernel
theorem dX10_value_112 : decode cX10_value 112 = .ok (.iconst 1, 1) := by decide +kernel
theorem dX10_value_113 : decode cX10_value 113 = .ok (.goto 4, 3) := by decide +kernel
theorem dX10_value_116 : decode cX10_value 116 = .ok (.iconst 0, 1) := by decide +kernel
theorem dX10_value_117 : decode cX10_value 117 = .ok (.ireturn, 1) := by decide +kernel
theorem dX10_value_118 : decode cX10_value 118 = .ok (.aload_n 0, 1) := by decide +kernel
theorem dX10_value_119 : decode cX10_value 119 = .ok (.getfield 26, 3) := by decide +kernel
theorem dX10_value_122 : decode cX10_value 122 = .ok (.iload_n 1, 1) := by decide +kernel
theorem dX10_value_123 : decode cX10_value 123 = .ok (.invokevirtual 166, 3) := by decide +kernel
theorem dX10_value_126 : decode cX10_value 126 = .ok (.ireturn, 1) := by decide +kernel
theorem dX10_value_127 : decode cX10_value 127 = .ok (.aload_n 0, 1) := by decide +kernel
theorem dX10_value_128 : decode cX10_value 128 = .ok (.getfield 26, 3) := by decide +kernel
theorem dX10_value_131 : decode cX10_value 131 = .ok (.getfield 169, 3) := by decide +kernel
theorem dX10_value_134 : decode cX10_value 134 = .ok (.iload_n 1, 1) := by decide +kernel
theorem dX10_value_135 : decode cX10_value 135 = .ok (.iaload, 1) := by decide +kernel
theorem dX10_value_136 : decode cX10_value 136 = .ok (.ireturn, 1) := by decide +kernel
theorem dX10_value_137 : decode cX10_value 137 = .ok (.iconst (-1), 1) := by decide +kernel
theorem dX10_value_138 : decode cX10_value 138 = .ok (.ireturn, 1) := by decide +kernel
theorem dX10_operand_0 : decode cX10_operand 0 = .ok (.aload_n 0, 1) := by decide +kernel
theorem dX10_operand_1 : decode cX10_operand 1 = .ok (.invokevirtual 104, 3) := by decide +kernel
theorem dX10_operand_4 : decode cX10_operand 4 = .ok (.aload_n 0, 1) := by decide +kernel
theorem dX10_operand_5 : decode cX10_operand 5 = .ok (.getfield 26, 3) := by decide +kernel
theorem dX10_operand_8 : decode cX10_operand 8 = .ok (.iload_n 1, 1) := by decide +kernel
theorem dX10_operand_9 : decode cX10_operand 9 = .ok (.iload_n 2, 1) := by decide +kernel
theorem dX10_operand_10 : decode cX10_operand 10 = .ok (.invokevirtual 172, 3) := by decide +kernel
theorem dX10_operand_13 : decode cX10_operand 13 = .ok (.ifCond .eq 28, 3) := by decide +kernel
theorem dX10_operand_16 : decode cX10_operand 16 = .ok (.aload_n 0, 1) := by decide +kernel
theorem dX10_operand_17 : decode cX10_operand 17 = .ok (.getfield 26, 3) := by decide +kernel
theorem dX10_operand_20 : decode cX10_operand 20 = .ok (.getfield 175, 3) := by decide +kernel
theorem dX10_operand_23 : decode cX10_operand 23 = .ok (.getfield 179, 3) := by decide +kernel
theorem dX10_operand_26 : decode cX10_operand 26 = .ok (.aload_n 0, 1) := by decide +kernel
theorem dX10_operand_27 : decode cX10_operand 27 = .ok (.getfield 26, 3) := by decide +kernel
theorem dX10_operand_30 : decode cX10_operand 30 = .ok (.getfield 184, 3) := by decide +kernel
theorem dX10_operand_33 : decode cX10_operand 33 = .ok (.iload_n 1, 1) := by decide +kernel
theorem dX10_operand_34 : decode cX10_operand 34 = .ok (.iaload, 1) := by decide +kernel
theorem dX10_operand_35 : decode cX10_operand 35 = .ok (.iload_n 2, 1) := by decide +kernel
theorem dX10_operand_36 : decode cX10_operand 36 = .ok (.iadd, 1) := by decide +kernel
theorem dX10_operand_37 : decode cX10_operand 37 = .ok (.iaload, 1) := by decide +kernel
theorem dX10_operand_38 : decode cX10_operand 38 = .ok (.goto 4, 3) := by decide +kernel
theorem dX10_operand_41 : decode cX10_operand 41 = .ok (.iconst (-1), 1) := by decide +kernel
theorem dX10_operand_42 : decode cX10_operand 42 = .ok (.ireturn, 1) := by decide +kernel
theorem dX10_led_0 : decode cX10_led 0 = .ok (.aload_n 0, 1) := by decide +kernel
theorem dX10_led_1 : decode cX10_led 1 = .ok (.invokevirtual 104, 3) := by decide +kernel
theorem dX10_led_4 : decode cX10_led 4 = .ok (.aload_n 0, 1) := by decide +kernel
theorem dX10_led_5 : decode cX10_led 5 = .ok (.getfield 26, 3) := by decide +kernel
theorem dX10_led_8 : decode cX10_led 8 = .ok (.iload_n 1, 1) := by decide +kernel
theorem dX10_led_9 : decode cX10_led 9 = .ok (.iload_n 2, 1) := by decide +kernel
theorem dX10_led_10 : decode cX10_led 10 = .ok (.invokevirtual 172, 3) := by decide +kernel
theorem dX10_led_13 : decode cX10_led 13 = .ok (.ifCond .eq 15, 3) := by decide +kernel
theorem dX10_led_16 : decode cX10_led 16 = .ok (.aload_n 0, 1) := by decide +kernel
theorem dX10_led_17 : decode cX10_led 17 = .ok (.getfield 40, 3) := by decide +kernel
theorem dX10_led_20 : decode cX10_led 20 = .ok (.getfield 162, 3) := by decide +kernel
theorem dX10_led_23 : decode cX10_led 23 = .ok (.iload_n 1, 1) := by decide +kernel
theorem dX10_led_24 : decode cX10_led 24 = .ok (.baload, 1) := by decide +kernel
theorem dX10_led_25 : decode cX10_led 25 = .ok (.ifCond .eq 5, 3) := by decide +kernel
theorem dX10_led_28 : decode cX10_led 28 = .ok (.iconst (-1), 1) := by decide +kernel
theorem dX10_led_29 : decode cX10_led 29 = .ok (.ireturn, 1) := by decide +kernel
theorem dX10_led_30 : decode cX10_led 30 = .ok (.aload_n 0, 1) := by decide +kernel
theorem dX10_led_31 : decode cX10_led 31 = .ok (.getfield 40, 3) := by decide +kernel
theorem dX10_led_34 : decode cX10_led 34 = .ok (.getfield 187, 3) := by decide +kernel
theorem dX10_led_37 : decode cX10_led 37 = .ok (.getfield 179, 3) := by decide +kernel
theorem dX10_led_40 : decode cX10_led 40 = .ok (.aload_n 0, 1) := by decide +kernel
theorem dX10_led_41 : decode cX10_led 41 = .ok (.getfield 26, 3) := by decide +kernel
theorem dX10_led_44 : decode cX10_led 44 = .ok (.getfield 184, 3) := by decide +kernel
theorem dX10_led_47 : decode cX10_led 47 = .ok (.iload_n 1, 1) := by decide +kernel
theorem dX10_led_48 : decode cX10_led 48 = .ok (.iaload, 1) := by decide +kernel
theorem dX10_led_49 : decode cX10_led 49 = .ok (.iload_n 2, 1) := by decide +kernel
theorem dX10_led_50 : decode cX10_led 50 = .ok (.iadd, 1) := by decide +kernel
theorem dX10_led_51 : decode cX10_led 51 = .ok (.iaload, 1) := by decide +kernel
theorem dX10_led_52 : decode cX10_led 52 = .ok (.ireturn, 1) := by decide +kernel
theorem dX10_classOf_0 : decode cX10_classOf 0 = .ok (.aload_n 0, 1) := by decide +kernel
theorem dX10_classOf_1 : decode cX10_classOf 1 = .ok (.invokevirtual 104, 3) := by decide +kernel
theorem dX10_classOf_4 : decode cX10_classOf 4 = .ok (.aload_n 0, 1) := by decide +kernel
theorem dX10_classOf_5 : decode cX10_classOf 5 = .ok (.getfield 26, 3) := by decide +kernel
theorem dX10_classOf_8 : decode cX10_classOf 8 = .ok (.iload_n 1, 1) := by decide +kernel
theorem dX10_classOf_9 : decode cX10_classOf 9 = .ok (.invokevirtual 149, 3) := by decide +kernel
theorem dX10_classOf_12 : decode cX10_classOf 12 = .ok (.ifCond .eq 15, 3) := by decide +kernel
theorem dX10_classOf_15 : decode cX10_classOf 15 = .ok (.aload_n 0, 1) := by decide +kernel
theorem dX10_classOf_16 : decode cX10_classOf 16 = .ok (.getfield 33, 3) := by decide +kernel
theorem dX10_classOf_19 : decode cX10_classOf 19 = .ok (.getfield 159, 3) := by decide +kernel
theorem dX10_classOf_22 : decode cX10_classOf 22 = .ok (.iload_n 1, 1) := by decide +kernel
theorem dX10_classOf_23 : decode cX10_classOf 23 = .ok (.iaload, 1) := by decide +kernel
theorem dX10_classOf_24 : decode cX10_classOf 24 = .ok (.goto 4, 3) := by decide +kernel
theorem dX10_classOf_27 : decode cX10_classOf 27 = .ok (.iconst (-1), 1) := by decide +kernel
theorem dX10_classOf_28 : decode cX10_classOf 28 = .ok (.ireturn, 1) := by decide +kernel
theorem dX10_read_0 : decode cX10_read 0 = .ok (.aload_n 0, 1) := by decide +kernel
theorem dX10_read_1 : decode cX10_read 1 = .ok (.invokevirtual 104, 3) := by decide +kernel
theorem dX10_read_4 : decode cX10_read 4 = .ok (.aload_n 0, 1) := by decide +kernel
theorem dX10_read_5 : decode cX10_read 5 = .ok (.getfield 19, 3) := by decide +kernel
theorem dX10_read_8 : decode cX10_read 8 = .ok (.iload_n 1, 1) := by decide +kernel
theorem dX10_read_9 : decode cX10_read 9 = .ok (.invokevirtual 107, 3) := by decide +kernel
theorem dX10_read_12 : decode cX10_read 12 = .ok (.ifCond .eq 16, 3) := by decide +kernel
theorem dX10_read_15 : decode cX10_read 15 = .ok (.aload_n 0, 1) := by decide +kernel
theorem dX10_read_16 : decode cX10_read 16 = .ok (.iload_n 2, 1) := by decide +kernel
theorem dX10_read_17 : decode cX10_read 17 = .ok (.invokevirtual 188, 3) := by decide +kernel
theorem dX10_read_20 : decode cX10_read 20 = .ok (.getfield 192, 3) := by decide +kernel
theorem dX10_read_23 : decode cX10_read 23 = .ok (.iload_n 1, 1) := by decide +kernel
theorem dX10_read_24 : decode cX10_read 24 = .ok (.iaload, 1) := by decide +kernel
theorem dX10_read_25 : decode cX10_read 25 = .ok (.goto 4, 3) := by decide +kernel
theorem dX10_read_28 : decode cX10_read 28 = .ok (.iconst (-1), 1) := by decide +kernel
theorem dX10_read_29 : decode cX10_read 29 = .ok (.ireturn, 1) := by decide +kernel
theorem dX10_emits_0 : decode cX10_emits 0 = .ok (.aload_n 0, 1) := by decide +kernel
theorem dX10_emits_1 : decode cX10_emits 1 = .ok (.invokevirtual 104, 3) := by decide +kernel
theorem dX10_emits_4 : decode cX10_emits 4 = .ok (.aload_n 0, 1) := by decide +kernel
theorem dX10_emits_5 : decode cX10_emits 5 = .ok (.getfield 19, 3) := by decide +kernel
theorem dX10_emits_8 : decode cX10_emits 8 = .ok (.iload_n 1, 1) := by decide +kernel
theorem dX10_emits_9 : decode cX10_emits 9 = .ok (.invokevirtual 107, 3) := by decide +kernel
theorem dX10_emits_12 : decode cX10_emits 12 = .ok (.ifCond .ne 5, 3) := by decide +kernel
theorem dX10_emits_15 : decode cX10_emits 15 = .ok (.iconst (-1), 1) := by decide +kernel
theorem dX10_emits_16 : decode cX10_emits 16 = .ok (.ireturn, 1) := by decide +kernel
theorem dX10_emits_17 : decode cX10_emits 17 = .ok (.aload_n 0, 1) := by decide +kernel
theorem dX10_emits_18 : decode cX10_emits 18 = .ok (.getfield 12, 3) := by decide +kernel
theorem dX10_emits_21 : decode cX10_emits 21 = .ok (.iload_n 1, 1) := by decide +kernel
theorem dX10_emits_22 : decode cX10_emits 22 = .ok (.iload_n 2, 1) := by decide +kernel
theorem dX10_emits_23 : decode cX10_emits 23 = .ok (.invokevirtual 195, 3) := by decide +kernel
theorem dX10_emits_26 : decode cX10_emits 26 = .ok (.istore 4, 2) := by decide +kernel
theorem dX10_emits_28 : decode cX10_emits 28 = .ok (.iload 4, 2) := by decide +kernel
theorem dX10_emits_30 : decode cX10_emits 30 = .ok (.iconst (-1), 1) := by decide +kernel
theorem dX10_emits_31 : decode cX10_emits 31 = .ok (.if_icmp .ne 7, 3) := by decide +kernel
theorem dX10_emits_34 : decode cX10_emits 34 = .ok (.iconst (-1), 1) := by decide +kernel
theorem dX10_emits_35 : decode cX10_emits 35 = .ok (.goto 14, 3) := by decide +kernel
theorem dX10_emits_38 : decode cX10_emits 38 = .ok (.aload_n 0, 1) := by decide +kernel
theorem dX10_emits_39 : decode cX10_emits 39 = .ok (.iload_n 3, 1) := by decide +kernel
theorem dX10_emits_40 : decode cX10_emits 40 = .ok (.invokevirtual 188, 3) := by decide +kernel
theorem dX10_emits_43 : decode cX10_emits 43 = .ok (.getfield 198, 3) := by decide +kernel
theorem dX10_emits_46 : decode cX10_emits 46 = .ok (.iload 4, 2) := by decide +kernel
theorem dX10_emits_48 : decode cX10_emits 48 = .ok (.iaload, 1) := by decide +kernel
theorem dX10_emits_49 : decode cX10_emits 49 = .ok (.ireturn, 1) := by decide +kernel
theorem dX10_readsOf_0 : decode cX10_readsOf 0 = .ok (.iload_n 1, 1) := by decide +kernel
theorem dX10_readsOf_1 : decode cX10_readsOf 1 = .ok (.ifCond .eq 13, 3) := by decide +kernel
theorem dX10_readsOf_4 : decode cX10_readsOf 4 = .ok (.aload_n 0, 1) := by decide +kernel
theorem dX10_readsOf_5 : decode cX10_readsOf 5 = .ok (.getfield 40, 3) := by decide +kernel
theorem dX10_readsOf_8 : decode cX10_readsOf 8 = .ok (.getfield 187, 3) := by decide +kernel
theorem dX10_readsOf_11 : decode cX10_readsOf 11 = .ok (.goto 10, 3) := by decide +kernel
theorem dX10_readsOf_14 : decode cX10_readsOf 14 = .ok (.aload_n 0, 1) := by decide +kernel
theorem dX10_readsOf_15 : decode cX10_readsOf 15 = .ok (.getfield 26, 3) := by decide +kernel
theorem dX10_readsOf_18 : decode cX10_readsOf 18 = .ok (.getfield 175, 3) := by decide +kernel
theorem dX10_readsOf_21 : decode cX10_readsOf 21 = .ok (.areturn, 1) := by decide +kernel
theorem dX10_run_0 : decode cX10_run 0 = .ok (.aload_n 0, 1) := by decide +kernel
theorem dX10_run_1 : decode cX10_run 1 = .ok (.getfield 12, 3) := by decide +kernel
theorem dX10_run_4 : decode cX10_run 4 = .ok (.getfield 75, 3) := by decide +kernel
theorem dX10_run_7 : decode cX10_run 7 = .ok (.ifCond .eq 12, 3) := by decide +kernel
theorem dX10_run_10 : decode cX10_run 10 = .ok (.iload_n 1, 1) := by decide +kernel
theorem dX10_run_11 : decode cX10_run 11 = .ok (.ifCond .lt 8, 3) := by decide +kernel
theorem dX10_run_14 : decode cX10_run 14 = .ok (.iload_n 1, 1) := by decide +kernel
theorem dX10_run_15 : decode cX10_run 15 = .ok (.iconst 2, 1) := by decide +kernel
theorem dX10_run_16 : decode cX10_run 16 = .ok (.if_icmp .le 5, 3) := by decide +kernel
theorem dX10_run_19 : decode cX10_run 19 = .ok (.iconst (-1), 1) := by decide +kernel
theorem dX10_run_20 : decode cX10_run 20 = .ok (.ireturn, 1) := by decide +kernel
theorem dX10_run_21 : decode cX10_run 21 = .ok (.aload_n 0, 1) := by decide +kernel
theorem dX10_run_22 : decode cX10_run 22 = .ok (.invokevirtual 104, 3) := by decide +kernel
theorem dX10_run_25 : decode cX10_run 25 = .ok (.aload_n 0, 1) := by decide +kernel
theorem dX10_run_26 : decode cX10_run 26 = .ok (.getfield 67, 3) := by decide +kernel
theorem dX10_run_29 : decode cX10_run 29 = .ok (.iload_n 2, 1) := by decide +kernel
theorem dX10_run_30 : decode cX10_run 30 = .ok (.iload_n 3, 1) := by decide +kernel
theorem dX10_run_31 : decode cX10_run 31 = .ok (.iload 4, 2) := by decide +kernel
theorem dX10_run_33 : decode cX10_run 33 = .ok (.iload 5, 2) := by decide +kernel
theorem dX10_run_35 : decode cX10_run 35 = .ok (.invokevirtual 201, 3) := by decide +kernel
theorem dX10_run_38 : decode cX10_run 38 = .ok (.aload_n 0, 1) := by decide +kernel
theorem dX10_run_39 : decode cX10_run 39 = .ok (.getfield 67, 3) := by decide +kernel
theorem dX10_run_42 : decode cX10_run 42 = .ok (.iload_n 1, 1) := by decide +kernel
theorem dX10_run_43 : decode cX10_run 43 = .ok (.ifCond .ne 10, 3) := by decide +kernel
theorem dX10_run_46 : decode cX10_run 46 = .ok (.aload_n 0, 1) := by decide +kernel
theorem dX10_run_47 : decode cX10_run 47 = .ok (.getfield 49, 3) := by decide +kernel
theorem dX10_run_50 : decode cX10_run 50 = .ok (.goto 19, 3) := by decide +kernel
theorem dX10_run_53 : decode cX10_run 53 = .ok (.iload_n 1, 1) := by decide +kernel
theorem dX10_run_54 : decode cX10_run 54 = .ok (.iconst 1, 1) := by decide +kernel
theorem dX10_run_55 : decode cX10_run 55 = .ok (.if_icmp .ne 10, 3) := by decide +kernel
theorem dX10_run_58 : decode cX10_run 58 = .ok (.aload_n 0, 1) := by decide +kernel
theorem dX10_run_59 : decode cX10_run 59 = .ok (.getfield 58, 3) := by decide +kernel
theorem dX10_run_62 : decode cX10_run 62 = .ok (.goto 7, 3) := by decide +kernel
theorem dX10_run_65 : decode cX10_run 65 = .ok (.aload_n 0, 1) := by decide +kernel
theorem dX10_run_66 : decode cX10_run 66 = .ok (.getfield 61, 3) := by decide +kernel
theorem dX10_run_69 : decode cX10_run 69 = .ok (.invokevirtual 205, 3) := by decide +kernel
theorem dX10_run_72 : decode cX10_run 72 = .ok (.ireturn, 1) := by decide +kernel
theorem dX10_fuel_0 : decode cX10_fuel 0 = .ok (.iload_n 1, 1) := by decide +kernel
theorem dX10_fuel_1 : decode cX10_fuel 1 = .ok (.iconst 1, 1) := by decide +kernel
theorem dX10_fuel_2 : decode cX10_fuel 2 = .ok (.if_icmp .lt 10, 3) := by decide +kernel
theorem dX10_fuel_5 : decode cX10_fuel 5 = .ok (.iload_n 1, 1) := by decide +kernel
theorem dX10_fuel_6 : decode cX10_fuel 6 = .ok (.sipush 5000, 3) := by decide +kernel
theorem dX10_fuel_9 : decode cX10_fuel 9 = .ok (.if_icmp .le 5, 3) := by decide +kernel
theorem dX10_fuel_12 : decode cX10_fuel 12 = .ok (.iconst (-1), 1) := by decide +kernel
theorem dX10_fuel_13 : decode cX10_fuel 13 = .ok (.ireturn, 1) := by decide +kernel
theorem dX10_fuel_14 : decode cX10_fuel 14 = .ok (.aload_n 0, 1) := by decide +kernel
theorem dX10_fuel_15 : decode cX10_fuel 15 = .ok (.getfield 67, 3) := by decide +kernel
theorem dX10_fuel_18 : decode cX10_fuel 18 = .ok (.getfield 209, 3) := by decide +kernel
theorem dX10_fuel_21 : decode cX10_fuel 21 = .ok (.istore_n 2, 1) := by decide +kernel
theorem dX10_fuel_22 : decode cX10_fuel 22 = .ok (.aload_n 0, 1) := by decide +kernel
theorem dX10_fuel_23 : decode cX10_fuel 23 = .ok (.getfield 67, 3) := by decide +kernel
theorem dX10_fuel_26 : decode cX10_fuel 26 = .ok (.iload_n 1, 1) := by decide +kernel
theorem dX10_fuel_27 : decode cX10_fuel 27 = .ok (.putfield 209, 3) := by decide +kernel
theorem dX10_fuel_30 : decode cX10_fuel 30 = .ok (.iload_n 2, 1) := by decide +kernel
theorem dX10_fuel_31 : decode cX10_fuel 31 = .ok (.ireturn, 1) := by decide +kernel
theorem dX10_ran_0 : decode cX10_ran 0 = .ok (.iload_n 1, 1) := by decide +kernel
theorem dX10_ran_1 : decode cX10_ran 1 = .ok (.tableswitch 63 0 3 #[31, 39, 47, 55], 31) := by decide +kernel
theorem dX10_ran_32 : decode cX10_ran 32 = .ok (.aload_n 0, 1) := by decide +kernel
theorem dX10_ran_33 : decode cX10_ran 33 = .ok (.getfield 67, 3) := by decide +kernel
theorem dX10_ran_36 : decode cX10_ran 36 = .ok (.getfield 212, 3) := by decide +kernel
theorem dX10_ran_39 : decode cX10_ran 39 = .ok (.ireturn, 1) := by decide +kernel
theorem dX10_ran_40 : decode cX10_ran 40 = .ok (.aload_n 0, 1) := by decide +kernel
theorem dX10_ran_41 : decode cX10_ran 41 = .ok (.getfield 67, 3) := by decide +kernel
theorem dX10_ran_44 : decode cX10_ran 44 = .ok (.getfield 215, 3) := by decide +kernel
theorem dX10_ran_47 : decode cX10_ran 47 = .ok (.ireturn, 1) := by decide +kernel
theorem dX10_ran_48 : decode cX10_ran 48 = .ok (.aload_n 0, 1) := by decide +kernel
theorem dX10_ran_49 : decode cX10_ran 49 = .ok (.getfield 67, 3) := by decide +kernel
theorem dX10_ran_52 : decode cX10_ran 52 = .ok (.getfield 218, 3) := by decide +kernel
theorem dX10_ran_55 : decode cX10_ran 55 = .ok (.ireturn, 1) := by decide +kernel
theorem dX10_ran_56 : decode cX10_ran 56 = .ok (.aload_n 0, 1) := by decide +kernel
theorem dX10_ran_57 : decode cX10_ran 57 = .ok (.getfield 67, 3) := by decide +kernel
theorem dX10_ran_60 : decode cX10_ran 60 = .ok (.getfield 221, 3) := by decide +kernel
theorem dX10_ran_63 : decode cX10_ran 63 = .ok (.ireturn, 1) := by decide +kernel
theorem dX10_ran_64 : decode cX10_ran 64 = .ok (.iconst 0, 1) := by decide +kernel
theorem dX10_ran_65 : decode cX10_ran 65 = .ok (.ireturn, 1) := by decide +kernel
theorem dX10_emitted_0 : decode cX10_emitted 0 = .ok (.iload_n 1, 1) := by decide +kernel
theorem dX10_emitted_1 : decode cX10_emitted 1 = .ok (.ifCond .lt 32, 3) := by decide +kernel
theorem dX10_emitted_4 : decode cX10_emitted 4 = .ok (.iload_n 1, 1) := by decide +kernel
theorem dX10_emitted_5 : decode cX10_emitted 5 = .ok (.bipush 60, 2) := by decide +kernel
theorem dX10_emitted_7 : decode cX10_emitted 7 = .ok (.if_icmp .ge 26, 3) := by decide +kernel
theorem dX10_emitted_10 : decode cX10_emitted 10 = .ok (.iload_n 1, 1) := by decide +kernel
theorem dX10_emitted_11 : decode cX10_emitted 11 = .ok (.aload_n 0, 1) := by decide +kernel
theorem dX10_emitted_12 : decode cX10_emitted 12 = .ok (.getfield 67, 3) := by decide +kernel
theorem dX10_emitted_15 : decode cX10_emitted 15 = .ok (.getfield 218, 3) := by decide +kernel
theorem dX10_emitted_18 : decode cX10_emitted 18 = .ok (.if_icmp .ge 15, 3) := by decide +kernel
theorem dX10_emitted_21 : decode cX10_emitted 21 = .ok (.aload_n 0, 1) := by decide +kernel
theorem dX10_emitted_22 : decode cX10_emitted 22 = .ok (.getfield 67, 3) := by decide +kernel
theorem dX10_emitted_25 : decode cX10_emitted 25 = .ok (.getfield 224, 3) := by decide +kernel
theorem dX10_emitted_28 : decode cX10_emitted 28 = .ok (.iload_n 1, 1) := by decide +kernel
theorem dX10_emitted_29 : decode cX10_emitted 29 = .ok (.iaload, 1) := by decide +kernel
theorem dX10_emitted_30 : decode cX10_emitted 30 = .ok (.goto 4, 3) := by decide +kernel
theorem dX10_emitted_33 : decode cX10_emitted 33 = .ok (.iconst 0, 1) := by decide +kernel
theorem dX10_emitted_34 : decode cX10_emitted 34 = .ok (.ireturn, 1) := by decide +kernel
theorem dX10_count_0 : decode cX10_count 0 = .ok (.aload_n 0, 1) := by decide +kernel
theorem dX10_count_1 : decode cX10_count 1 = .ok (.invokevirtual 104, 3) := by decide +kernel
theorem dX10_count_4 : decode cX10_count 4 = .ok (.iload_n 1, 1) := by decide +kernel
theorem dX10_count_5 : decode cX10_count 5 = .ok (.tableswitch 102 0 6 #[43, 51, 59, 70, 78, 86, 94], 43) := by decide +kernel
theorem dX10_count_48 : decode cX10_count 48 = .ok (.aload_n 0, 1) := by decide +kernel
theorem dX10_count_49 : decode cX10_count 49 = .ok (.getfield 12, 3) := by decide +kernel
theorem dX10_count_52 : decode cX10_count 52 = .ok (.getfield 75, 3) := by decide +kernel
theorem dX10_count_55 : decode cX10_count 55 = .ok (.ireturn, 1) := by decide +kernel
theorem dX10_count_56 : decode cX10_count 56 = .ok (.aload_n 0, 1) := by decide +kernel
theorem dX10_count_57 : decode cX10_count 57 = .ok (.getfield 12, 3) := by decide +kernel
theorem dX10_count_60 : decode cX10_count 60 = .ok (.invokevirtual 83, 3) := by decide +kernel
theorem dX10_count_63 : decode cX10_count 63 = .ok (.ireturn, 1) := by decide +kernel
theorem dX10_count_64 : decode cX10_count 64 = .ok (.aload_n 0, 1) := by decide +kernel
theorem dX10_count_65 : decode cX10_count 65 = .ok (.getfield 19, 3) := by decide +kernel
theorem dX10_count_68 : decode cX10_count 68 = .ok (.getfield 227, 3) := by decide +kernel
theorem dX10_count_71 : decode cX10_count 71 = .ok (.invokestatic 128, 3) := by decide +kernel
theorem dX10_count_74 : decode cX10_count 74 = .ok (.ireturn, 1) := by decide +kernel
theorem dX10_count_75 : decode cX10_count 75 = .ok (.aload_n 0, 1) := by decide +kernel
theorem dX10_count_76 : decode cX10_count 76 = .ok (.getfield 26, 3) := by decide +kernel
theorem dX10_count_79 : decode cX10_count 79 = .ok (.getfield 230, 3) := by decide +kernel
theorem dX10_count_82 : decode cX10_count 82 = .ok (.ireturn, 1) := by decide +kernel
theorem dX10_count_83 : decode cX10_count 83 = .ok (.aload_n 0, 1) := by decide +kernel
theorem dX10_count_84 : decode cX10_count 84 = .ok (.getfield 33, 3) := by decide +kernel
theorem dX10_count_87 : decode cX10_count 87 = .ok (.getfield 233, 3) := by decide +kernel
theorem dX10_count_90 : decode cX10_count 90 = .ok (.ireturn, 1) := by decide +kernel
theorem dX10_count_91 : decode cX10_count 91 = .ok (.aload_n 0, 1) := by decide +kernel
theorem dX10_count_92 : decode cX10_count 92 = .ok (.getfield 40, 3) := by decide +kernel
theorem dX10_count_95 : decode cX10_count 95 = .ok (.getfield 234, 3) := by decide +kernel
theorem dX10_count_98 : decode cX10_count 98 = .ok (.ireturn, 1) := by decide +kernel
theorem dX10_count_99 : decode cX10_count 99 = .ok (.aload_n 0, 1) := by decide +kernel
theorem dX10_count_100 : decode cX10_count 100 = .ok (.getfield 26, 3) := by decide +kernel
theorem dX10_count_103 : decode cX10_count 103 = .ok (.invokevirtual 237, 3) := by decide +kernel
theorem dX10_count_106 : decode cX10_count 106 = .ok (.ireturn, 1) := by decide +kernel
theorem dX10_count_107 : decode cX10_count 107 = .ok (.iconst (-1), 1) := by decide +kernel
theorem dX10_count_108 : decode cX10_count 108 = .ok (.ireturn, 1) := by decide +kernel
theorem dX10_refresh_0 : decode cX10_refresh 0 = .ok (.aload_n 0, 1) := by decide +kernel
theorem dX10_refresh_1 : decode cX10_refresh 1 = .ok (.getfield 71, 3) := by decide +kernel
theorem dX10_refresh_4 : decode cX10_refresh 4 = .ok (.ifCond .ne 4, 3) := by decide +kernel
theorem dX10_refresh_7 : decode cX10_refresh 7 = .ok (.return_, 1) := by decide +kernel
theorem dX10_refresh_8 : decode cX10_refresh 8 = .ok (.aload_n 0, 1) := by decide +kernel
theorem dX10_refresh_9 : decode cX10_refresh 9 = .ok (.getfield 19, 3) := by decide +kernel
theorem dX10_refresh_12 : decode cX10_refresh 12 = .ok (.aload_n 0, 1) := by decide +kernel
theorem dX10_refresh_13 : decode cX10_refresh 13 = .ok (.getfield 12, 3) := by decide +kernel
theorem dX10_refresh_16 : decode cX10_refresh 16 = .ok (.invokevirtual 240, 3) := by decide +kernel
theorem dX10_refresh_19 : decode cX10_refresh 19 = .ok (.aload_n 0, 1) := by decide +kernel
theorem dX10_refresh_20 : decode cX10_refresh 20 = .ok (.getfield 26, 3) := by decide +kernel
theorem dX10_refresh_23 : decode cX10_refresh 23 = .ok (.aload_n 0, 1) := by decide +kernel
theorem dX10_refresh_24 : decode cX10_refresh 24 = .ok (.getfield 12, 3) := by decide +kernel
theorem dX10_refresh_27 : decode cX10_refresh 27 = .ok (.aload_n 0, 1) := by decide +kernel
theorem dX10_refresh_28 : decode cX10_refresh 28 = .ok (.getfield 19, 3) := by decide +kernel
theorem dX10_refresh_31 : decode cX10_refresh 31 = .ok (.invokevirtual 243, 3) := by decide +kernel
theorem dX10_refresh_34 : decode cX10_refresh 34 = .ok (.aload_n 0, 1) := by decide +kernel
theorem dX10_refresh_35 : decode cX10_refresh 35 = .ok (.getfield 33, 3) := by decide +kernel
theorem dX10_refresh_38 : decode cX10_refresh 38 = .ok (.aload_n 0, 1) := by decide +kernel
theorem dX10_refresh_39 : decode cX10_refresh 39 = .ok (.getfield 26, 3) := by decide +kernel
theorem dX10_refresh_42 : decode cX10_refresh 42 = .ok (.invokevirtual 247, 3) := by decide +kernel
theorem dX10_refresh_45 : decode cX10_refresh 45 = .ok (.aload_n 0, 1) := by decide +kernel
theorem dX10_refresh_46 : decode cX10_refresh 46 = .ok (.getfield 40, 3) := by decide +kernel
theorem dX10_refresh_49 : decode cX10_refresh 49 = .ok (.aload_n 0, 1) := by decide +kernel
theorem dX10_refresh_50 : decode cX10_refresh 50 = .ok (.getfield 12, 3) := by decide +kernel
theorem dX10_refresh_53 : decode cX10_refresh 53 = .ok (.aload_n 0, 1) := by decide +kernel
theorem dX10_refresh_54 : decode cX10_refresh 54 = .ok (.getfield 19, 3) := by decide +kernel
theorem dX10_refresh_57 : decode cX10_refresh 57 = .ok (.aload_n 0, 1) := by decide +kernel
theorem dX10_refresh_58 : decode cX10_refresh 58 = .ok (.getfield 26, 3) := by decide +kernel
theorem dX10_refresh_61 : decode cX10_refresh 61 = .ok (.aload_n 0, 1) := by decide +kernel
theorem dX10_refresh_62 : decode cX10_refresh 62 = .ok (.getfield 33, 3) := by decide +kernel
theorem dX10_refresh_65 : decode cX10_refresh 65 = .ok (.invokevirtual 251, 3) := by decide +kernel
theorem dX10_refresh_68 : decode cX10_refresh 68 = .ok (.aload_n 0, 1) := by decide +kernel
theorem dX10_refresh_69 : decode cX10_refresh 69 = .ok (.iconst 0, 1) := by decide +kernel
theorem dX10_refresh_70 : decode cX10_refresh 70 = .ok (.putfield 71, 3) := by decide +kernel
theorem dX10_refresh_73 : decode cX10_refresh 73 = .ok (.return_, 1) := by decide +kernel
theorem dJ6_bitCount_0f7a4_0 : decode cJ6_bitCount_0f7a4 0 = .ok (.iload_n 0, 1) := by decide +kernel
theorem dJ6_bitCount_0f7a4_1 : decode cJ6_bitCount_0f7a4 1 = .ok (.iload_n 0, 1) := by decide +kernel
theorem dJ6_bitCount_0f7a4_2 : decode cJ6_bitCount_0f7a4 2 = .ok (.iconst 1, 1) := by decide +kernel
theorem dJ6_bitCount_0f7a4_3 : decode cJ6_bitCount_0f7a4 3 = .ok (.iushr, 1) := by decide +kernel
theorem dJ6_bitCount_0f7a4_4 : decode cJ6_bitCount_0f7a4 4 = .ok (.ldc_w 265, 3) := by decide +kernel
theorem dJ6_bitCount_0f7a4_7 : decode cJ6_bitCount_0f7a4 7 = .ok (.iand, 1) := by decide +kernel
theorem dJ6_bitCount_0f7a4_8 : decode cJ6_bitCount_0f7a4 8 = .ok (.isub, 1) := by decide +kernel
theorem dJ6_bitCount_0f7a4_9 : decode cJ6_bitCount_0f7a4 9 = .ok (.istore_n 0, 1) := by decide +kernel
theorem dJ6_bitCount_0f7a4_10 : decode cJ6_bitCount_0f7a4 10 = .ok (.iload_n 0, 1) := by decide +kernel
theorem dJ6_bitCount_0f7a4_11 : decode cJ6_bitCount_0f7a4 11 = .ok (.ldc_w 266, 3) := by decide +kernel
theorem dJ6_bitCount_0f7a4_14 : decode cJ6_bitCount_0f7a4 14 = .ok (.iand, 1) := by decide +kernel
theorem dJ6_bitCount_0f7a4_15 : decode cJ6_bitCount_0f7a4 15 = .ok (.iload_n 0, 1) := by decide +kernel
theorem dJ6_bitCount_0f7a4_16 : decode cJ6_bitCount_0f7a4 16 = .ok (.iconst 2, 1) := by decide +kernel
theorem dJ6_bitCount_0f7a4_17 : decode cJ6_bitCount_0f7a4 17 = .ok (.iushr, 1) := by decide +kernel
theorem dJ6_bitCount_0f7a4_18 : decode cJ6_bitCount_0f7a4 18 = .ok (.ldc_w 266, 3) := by decide +kernel
theorem dJ6_bitCount_0f7a4_21 : decode cJ6_bitCount_0f7a4 21 = .ok (.iand, 1) := by decide +kernel
theorem dJ6_bitCount_0f7a4_22 : decode cJ6_bitCount_0f7a4 22 = .ok (.iadd, 1) := by decide +kernel
theorem dJ6_bitCount_0f7a4_23 : decode cJ6_bitCount_0f7a4 23 = .ok (.istore_n 0, 1) := by decide +kernel
theorem dJ6_bitCount_0f7a4_24 : decode cJ6_bitCount_0f7a4 24 = .ok (.iload_n 0, 1) := by decide +kernel
theorem dJ6_bitCount_0f7a4_25 : decode cJ6_bitCount_0f7a4 25 = .ok (.iload_n 0, 1) := by decide +kernel
theorem dJ6_bitCount_0f7a4_26 : decode cJ6_bitCount_0f7a4 26 = .ok (.iconst 4, 1) := by decide +kernel
theorem dJ6_bitCount_0f7a4_27 : decode cJ6_bitCount_0f7a4 27 = .ok (.iushr, 1) := by decide +kernel
theorem dJ6_bitCount_0f7a4_28 : decode cJ6_bitCount_0f7a4 28 = .ok (.iadd, 1) := by decide +kernel
theorem dJ6_bitCount_0f7a4_29 : decode cJ6_bitCount_0f7a4 29 = .ok (.ldc_w 267, 3) := by decide +kernel
theorem dJ6_bitCount_0f7a4_32 : decode cJ6_bitCount_0f7a4 32 = .ok (.iand, 1) := by decide +kernel
theorem dJ6_bitCount_0f7a4_33 : decode cJ6_bitCount_0f7a4 33 = .ok (.istore_n 0, 1) := by decide +kernel
theorem dJ6_bitCount_0f7a4_34 : decode cJ6_bitCount_0f7a4 34 = .ok (.iload_n 0, 1) := by decide +kernel
theorem dJ6_bitCount_0f7a4_35 : decode cJ6_bitCount_0f7a4 35 = .ok (.iload_n 0, 1) := by decide +kernel
theorem dJ6_bitCount_0f7a4_36 : decode cJ6_bitCount_0f7a4 36 = .ok (.bipush 8, 2) := by decide +kernel
theorem dJ6_bitCount_0f7a4_38 : decode cJ6_bitCount_0f7a4 38 = .ok (.iushr, 1) := by decide +kernel
theorem dJ6_bitCount_0f7a4_39 : decode cJ6_bitCount_0f7a4 39 = .ok (.iadd, 1) := by decide +kernel
theorem dJ6_bitCount_0f7a4_40 : decode cJ6_bitCount_0f7a4 40 = .ok (.istore_n 0, 1) := by decide +kernel
theorem dJ6_bitCount_0f7a4_41 : decode cJ6_bitCount_0f7a4 41 = .ok (.iload_n 0, 1) := by decide +kernel
theorem dJ6_bitCount_0f7a4_42 : decode cJ6_bitCount_0f7a4 42 = .ok (.iload_n 0, 1) := by decide +kernel
theorem dJ6_bitCount_0f7a4_43 : decode cJ6_bitCount_0f7a4 43 = .ok (.bipush 16, 2) := by decide +kernel
theorem dJ6_bitCount_0f7a4_45 : decode cJ6_bitCount_0f7a4 45 = .ok (.iushr, 1) := by decide +kernel
theorem dJ6_bitCount_0f7a4_46 : decode cJ6_bitCount_0f7a4 46 = .ok (.iadd, 1) := by decide +kernel
theorem dJ6_bitCount_0f7a4_47 : decode cJ6_bitCount_0f7a4 47 = .ok (.istore_n 0, 1) := by decide +kernel
theorem dJ6_bitCount_0f7a4_48 : decode cJ6_bitCount_0f7a4 48 = .ok (.iload_n 0, 1) := by decide +kernel
theorem dJ6_bitCount_0f7a4_49 : decode cJ6_bitCount_0f7a4 49 = .ok (.bipush 63, 2) := by decide +kernel
theorem dJ6_bitCount_0f7a4_51 : decode cJ6_bitCount_0f7a4 51 = .ok (.iand, 1) := by decide +kernel
theorem dJ6_bitCount_0f7a4_52 : decode cJ6_bitCount_0f7a4 52 = .ok (.ireturn, 1) := by decide +kernel
theorem dJ7_fill_53178_0 : decode cJ7_fill_53178 0 = .ok (.iconst 0, 1) := by decide +kernel
theorem dJ7_fill_53178_1 : decode cJ7_fill_53178 1 = .ok (.istore_n 2, 1) := by decide +kernel
theorem dJ7_fill_53178_2 : decode cJ7_fill_53178 2 = .ok (.aload_n 0, 1) := by decide +kernel
theorem dJ7_fill_53178_3 : decode cJ7_fill_53178 3 = .ok (.arraylength, 1) := by decide +kernel
theorem dJ7_fill_53178_4 : decode cJ7_fill_53178 4 = .ok (.istore_n 3, 1) := by decide +kernel
theorem dJ7_fill_53178_5 : decode cJ7_fill_53178 5 = .ok (.iload_n 2, 1) := by decide +kernel
theorem dJ7_fill_53178_6 : decode cJ7_fill_53178 6 = .ok (.iload_n 3, 1) := by decide +kernel
theorem dJ7_fill_53178_7 : decode cJ7_fill_53178 7 = .ok (.if_icmp .ge 13, 3) := by decide +kernel
theorem dJ7_fill_53178_10 : decode cJ7_fill_53178 10 = .ok (.aload_n 0, 1) := by decide +kernel
theorem dJ7_fill_53178_11 : decode cJ7_fill_53178 11 = .ok (.iload_n 2, 1) := by decide +kernel
theorem dJ7_fill_53178_12 : decode cJ7_fill_53178 12 = .ok (.iload_n 1, 1) := by decide +kernel
theorem dJ7_fill_53178_13 : decode cJ7_fill_53178 13 = .ok (.iastore, 1) := by decide +kernel
theorem dJ7_fill_53178_14 : decode cJ7_fill_53178 14 = .ok (.iinc 2 1, 3) := by decide +kernel
theorem dJ7_fill_53178_17 : decode cJ7_fill_53178 17 = .ok (.goto (-12), 3) := by decide +kernel
theorem dJ7_fill_53178_20 : decode cJ7_fill_53178 20 = .ok (.return_, 1) := by decide +kernel
end
section
/-! the words that hold everywhere, by their places -/
def zx_W : List Cond := lw_tbl.filter goodWord
theorem zx_in {w : Cond} (i : Nat) (h : lw_tbl[i]? = some w) (g : goodWord w = true) : w ∈ zx_W := List.mem_filter.mpr ⟨List.mem_of_getElem? h, g⟩
def zx_N : List Cond := [Cond.declares ⟨"ValueBench$Form", "begin", "(II)V"⟩, Cond.declares ⟨"ValueBench$Form", "keeps", "(I)Z"⟩, Cond.declares ⟨"ValueBench$Form", "target", "(I)I"⟩, Cond.declares ⟨"ValueBench$Form", "left", "(I)I"⟩, Cond.declares ⟨"ValueBench$Form", "right", "(I)I"⟩, Cond.declares ⟨"ValueBench$Form", "endCell", "(I)I"⟩]
theorem zx_N_ok : ∀ w ∈ zx_N, w.onTables = true ∧ ∀ (s U : State), s.WarmedH U.vm → va_Nw w s → va_Nw w U := by
  intro w hw
  have h : ∃ x, w = Cond.declares x := by
    simp only [zx_N, List.mem_cons, List.not_mem_nil, or_false] at hw
    rcases hw with rfl | rfl | rfl | rfl | rfl | rfl <;> exact ⟨_, rfl⟩
  obtain ⟨x, rfl⟩ := h
  exact ⟨rfl, fun s U hW hZ => hZ.warmD hW⟩
abbrev zx_cl : List vw_C := [(RX0, TX0, 3), (RX2, TX2, 7), (RX3, TX3, 3), (RX4, TX4, 8), (RX5, TX5, 10), (RX6, TX6, 3), (RX7, TX7, 2), (RX8, TX8, 7), (RX9, TX9, 12), (RX10, TX10, 10), (RX11, TX11, 44)]
theorem zv_X0 : ∀ w ∈ u_ws RX0 TX0 3, w ∈ lw_tbl := by decide +kernel
theorem zu_X0 : ∀ w ∈ u_ws RX0 TX0 3, w ∈ zx_W := fun w h => List.mem_filter.mpr ⟨zv_X0 w h, by
  obtain ⟨k, -, rfl⟩ := List.mem_map.mp h
  unfold u_lay
  split <;> rfl⟩
theorem zv_X2 : ∀ w ∈ u_ws RX2 TX2 7, w ∈ lw_tbl := by decide +kernel
theorem zu_X2 : ∀ w ∈ u_ws RX2 TX2 7, w ∈ zx_W := fun w h => List.mem_filter.mpr ⟨zv_X2 w h, by
  obtain ⟨k, -, rfl⟩ := List.mem_map.mp h
  unfold u_lay
  split <;> rfl⟩
theorem zv_X3 : ∀ w ∈ u_ws RX3 TX3 3, w ∈ lw_tbl := by decide +kernel
theorem zu_X3 : ∀ w ∈ u_ws RX3 TX3 3, w ∈ zx_W := fun w h => List.mem_filter.mpr ⟨zv_X3 w h, by
  obtain ⟨k, -, rfl⟩ := List.mem_map.mp h
  unfold u_lay
  split <;> rfl⟩
theorem zv_X4 : ∀ w ∈ u_ws RX4 TX4 8, w ∈ lw_tbl := by decide +kernel
theorem zu_X4 : ∀ w ∈ u_ws RX4 TX4 8, w ∈ zx_W := fun w h => List.mem_filter.mpr ⟨zv_X4 w h, by
  obtain ⟨k, -, rfl⟩ := List.mem_map.mp h
  unfold u_lay
  split <;> rfl⟩
theorem zv_X5 : ∀ w ∈ u_ws RX5 TX5 10, w ∈ lw_tbl := by decide +kernel
theorem zu_X5 : ∀ w ∈ u_ws RX5 TX5 10, w ∈ zx_W := fun w h => List.mem_filter.mpr ⟨zv_X5 w h, by
  obtain ⟨k, -, rfl⟩ := List.mem_map.mp h
  unfold u_lay
  split <;> rfl⟩
theorem zv_X6 : ∀ w ∈ u_ws RX6 TX6 3, w ∈ lw_tbl := by decide +kernel
theorem zu_X6 : ∀ w ∈ u_ws RX6 TX6 3, w ∈ zx_W := fun w h => List.mem_filter.mpr ⟨zv_X6 w h, by
  obtain ⟨k, -, rfl⟩ := List.mem_map.mp h
  unfold u_lay
  split <;> rfl⟩
theorem zv_X7 : ∀ w ∈ u_ws RX7 TX7 2, w ∈ lw_tbl := by decide +kernel
theorem zu_X7 : ∀ w ∈ u_ws RX7 TX7 2, w ∈ zx_W := fun w h => List.mem_filter.mpr ⟨zv_X7 w h, by
  obtain ⟨k, -, rfl⟩ := List.mem_map.mp h
  unfold u_lay
  split <;> rfl⟩
theorem zv_X8 : ∀ w ∈ u_ws RX8 TX8 7, w ∈ lw_tbl := by decide +kernel
theorem zu_X8 : ∀ w ∈ u_ws RX8 TX8 7, w ∈ zx_W := fun w h => List.mem_filter.mpr ⟨zv_X8 w h, by
  obtain ⟨k, -, rfl⟩ := List.mem_map.mp h
  unfold u_lay
  split <;> rfl⟩
theorem zv_X9 : ∀ w ∈ u_ws RX9 TX9 12, w ∈ lw_tbl := by decide +kernel
theorem zu_X9 : ∀ w ∈ u_ws RX9 TX9 12, w ∈ zx_W := fun w h => List.mem_filter.mpr ⟨zv_X9 w h, by
  obtain ⟨k, -, rfl⟩ := List.mem_map.mp h
  unfold u_lay
  split <;> rfl⟩
theorem zv_X10 : ∀ w ∈ u_ws RX10 TX10 10, w ∈ lw_tbl := by decide +kernel
theorem zu_X10 : ∀ w ∈ u_ws RX10 TX10 10, w ∈ zx_W := fun w h => List.mem_filter.mpr ⟨zv_X10 w h, by
  obtain ⟨k, -, rfl⟩ := List.mem_map.mp h
  unfold u_lay
  split <;> rfl⟩
theorem zv_X11 : ∀ w ∈ u_ws RX11 TX11 44, w ∈ lw_tbl := by decide +kernel
theorem zu_X11 : ∀ w ∈ u_ws RX11 TX11 44, w ∈ zx_W := fun w h => List.mem_filter.mpr ⟨zv_X11 w h, by
  obtain ⟨k, -, rfl⟩ := List.mem_map.mp h
  unfold u_lay
  split <;> rfl⟩
end
section
theorem zw_0 : Cond.selects "ValueBench" ⟨"ValueBench", "refresh", "()V"⟩ ⟨"ValueBench", "refresh", "()V"⟩ ∈ zx_W := zx_in 0 (by decide +kernel) rfl
theorem zw_1 : Cond.selects "ValueBench$Program" ⟨"ValueBench$Program", "endCounts", "(I)Z"⟩ ⟨"ValueBench$Program", "endCounts", "(I)Z"⟩ ∈ zx_W := zx_in 1 (by decide +kernel) rfl
theorem zw_2 : Cond.selects "ValueBench$Graph" ⟨"ValueBench$Graph", "parentOf", "(I)I"⟩ ⟨"ValueBench$Graph", "parentOf", "(I)I"⟩ ∈ zx_W := zx_in 2 (by decide +kernel) rfl
theorem zw_3 : Cond.selects "ValueBench$Graph" ⟨"ValueBench$Graph", "frontierOf", "(I)I"⟩ ⟨"ValueBench$Graph", "frontierOf", "(I)I"⟩ ∈ zx_W := zx_in 3 (by decide +kernel) rfl
theorem zw_4 : Cond.selects "ValueBench$Values" ⟨"ValueBench$Values", "placeChoices", "(LValueBench$Program;LValueBench$Graph;)V"⟩ ⟨"ValueBench$Values", "placeChoices", "(LValueBench$Program;LValueBench$Graph;)V"⟩ ∈ zx_W := zx_in 4 (by decide +kernel) rfl
theorem zw_5 : Cond.selects "ValueBench$Values" ⟨"ValueBench$Values", "numberAll", "(LValueBench$Program;LValueBench$Graph;)V"⟩ ⟨"ValueBench$Values", "numberAll", "(LValueBench$Program;LValueBench$Graph;)V"⟩ ∈ zx_W := zx_in 5 (by decide +kernel) rfl
theorem zw_6 : Cond.selects "ValueBench$Values" ⟨"ValueBench$Values", "add", "(IIIII)V"⟩ ⟨"ValueBench$Values", "add", "(IIIII)V"⟩ ∈ zx_W := zx_in 6 (by decide +kernel) rfl
theorem zw_7 : Cond.selects "ValueBench$Values" ⟨"ValueBench$Values", "numberChoices", "(LValueBench$Graph;I)V"⟩ ⟨"ValueBench$Values", "numberChoices", "(LValueBench$Graph;I)V"⟩ ∈ zx_W := zx_in 7 (by decide +kernel) rfl
theorem zw_8 : Cond.selects "ValueBench$Values" ⟨"ValueBench$Values", "numberInstructions", "(LValueBench$Program;I)V"⟩ ⟨"ValueBench$Values", "numberInstructions", "(LValueBench$Program;I)V"⟩ ∈ zx_W := zx_in 8 (by decide +kernel) rfl
theorem zw_9 : Cond.selects "ValueBench$Values" ⟨"ValueBench$Values", "beginBlock", "(LValueBench$Graph;I)V"⟩ ⟨"ValueBench$Values", "beginBlock", "(LValueBench$Graph;I)V"⟩ ∈ zx_W := zx_in 9 (by decide +kernel) rfl
theorem zw_10 : Cond.selects "ValueBench$Values" ⟨"ValueBench$Values", "followBlock", "(LValueBench$Program;I)V"⟩ ⟨"ValueBench$Values", "followBlock", "(LValueBench$Program;I)V"⟩ ∈ zx_W := zx_in 10 (by decide +kernel) rfl
theorem zw_11 : Cond.selects "ValueBench$Values" ⟨"ValueBench$Values", "fillChoices", "(LValueBench$Graph;)V"⟩ ⟨"ValueBench$Values", "fillChoices", "(LValueBench$Graph;)V"⟩ ∈ zx_W := zx_in 11 (by decide +kernel) rfl
theorem zw_12 : Cond.selects "ValueBench$Values" ⟨"ValueBench$Values", "fillChoice", "(II)V"⟩ ⟨"ValueBench$Values", "fillChoice", "(II)V"⟩ ∈ zx_W := zx_in 12 (by decide +kernel) rfl
theorem zw_13 : Cond.selects "ValueBench$Classes" ⟨"ValueBench$Classes", "leastAlike", "(LValueBench$Values;I)I"⟩ ⟨"ValueBench$Classes", "leastAlike", "(LValueBench$Values;I)I"⟩ ∈ zx_W := zx_in 13 (by decide +kernel) rfl
theorem zw_14 : Cond.selects "ValueBench$Classes" ⟨"ValueBench$Classes", "partFiner", "(LValueBench$Values;)Z"⟩ ⟨"ValueBench$Classes", "partFiner", "(LValueBench$Values;)Z"⟩ ∈ zx_W := zx_in 14 (by decide +kernel) rfl
theorem zw_15 : Cond.selects "ValueBench$Classes" ⟨"ValueBench$Classes", "leastTogether", "(LValueBench$Values;I)I"⟩ ⟨"ValueBench$Classes", "leastTogether", "(LValueBench$Values;I)I"⟩ ∈ zx_W := zx_in 15 (by decide +kernel) rfl
theorem zw_16 : Cond.selects "ValueBench$Classes" ⟨"ValueBench$Classes", "operandsAgree", "(LValueBench$Values;II)Z"⟩ ⟨"ValueBench$Classes", "operandsAgree", "(LValueBench$Values;II)Z"⟩ ∈ zx_W := zx_in 16 (by decide +kernel) rfl
theorem zw_17 : Cond.selects "ValueBench$Classes" ⟨"ValueBench$Classes", "together", "(LValueBench$Values;II)Z"⟩ ⟨"ValueBench$Classes", "together", "(LValueBench$Values;II)Z"⟩ ∈ zx_W := zx_in 17 (by decide +kernel) rfl
theorem zw_18 : Cond.selects "ValueBench$Leaders" ⟨"ValueBench$Leaders", "leadOperands", "(LValueBench$Graph;LValueBench$Values;LValueBench$Classes;I)V"⟩ ⟨"ValueBench$Leaders", "leadOperands", "(LValueBench$Graph;LValueBench$Values;LValueBench$Classes;I)V"⟩ ∈ zx_W := zx_in 18 (by decide +kernel) rfl
theorem zw_19 : Cond.selects "ValueBench$Leaders" ⟨"ValueBench$Leaders", "leader", "(LValueBench$Graph;LValueBench$Values;LValueBench$Classes;II)I"⟩ ⟨"ValueBench$Leaders", "leader", "(LValueBench$Graph;LValueBench$Values;LValueBench$Classes;II)I"⟩ ∈ zx_W := zx_in 19 (by decide +kernel) rfl
theorem zw_20 : Cond.selects "ValueBench$Leaders" ⟨"ValueBench$Leaders", "leadEmits", "(LValueBench$Program;LValueBench$Graph;LValueBench$Values;LValueBench$Classes;I)V"⟩ ⟨"ValueBench$Leaders", "leadEmits", "(LValueBench$Program;LValueBench$Graph;LValueBench$Values;LValueBench$Classes;I)V"⟩ ∈ zx_W := zx_in 20 (by decide +kernel) rfl
theorem zw_21 : Cond.selects "ValueBench" ⟨"ValueBench", "aboutReached", "(II)I"⟩ ⟨"ValueBench", "aboutReached", "(II)I"⟩ ∈ zx_W := zx_in 21 (by decide +kernel) rfl
theorem zw_22 : Cond.selects "ValueBench" ⟨"ValueBench", "readsOf", "(Z)LValueBench$Reads;"⟩ ⟨"ValueBench", "readsOf", "(Z)LValueBench$Reads;"⟩ ∈ zx_W := zx_in 22 (by decide +kernel) rfl
theorem zw_23 : Cond.selects "ValueBench$ValueForm" ⟨"ValueBench$ValueForm", "goes", "(I)Z"⟩ ⟨"ValueBench$ValueForm", "goes", "(I)Z"⟩ ∈ zx_W := zx_in 23 (by decide +kernel) rfl
theorem zw_24 : Cond.selects "ValueBench$Machine" ⟨"ValueBench$Machine", "followBlock", "(LValueBench$Form;)Z"⟩ ⟨"ValueBench$Machine", "followBlock", "(LValueBench$Form;)Z"⟩ ∈ zx_W := zx_in 24 (by decide +kernel) rfl
theorem zw_25 : Cond.selects "ValueBench$Machine" ⟨"ValueBench$Machine", "pay", "()Z"⟩ ⟨"ValueBench$Machine", "pay", "()Z"⟩ ∈ zx_W := zx_in 25 (by decide +kernel) rfl
theorem zw_26 : Cond.selects "ValueBench$Machine" ⟨"ValueBench$Machine", "follow", "(LValueBench$Form;I)V"⟩ ⟨"ValueBench$Machine", "follow", "(LValueBench$Form;I)V"⟩ ∈ zx_W := zx_in 26 (by decide +kernel) rfl
theorem zw_27 : Cond.selects "ValueBench$Machine" ⟨"ValueBench$Machine", "tell", "(I)V"⟩ ⟨"ValueBench$Machine", "tell", "(I)V"⟩ ∈ zx_W := zx_in 27 (by decide +kernel) rfl
theorem zw_28 : Cond.selects "ValueBenchModel" ⟨"ValueBenchModel", "isBlock", "(I)Z"⟩ ⟨"ValueBenchModel", "isBlock", "(I)Z"⟩ ∈ zx_W := zx_in 28 (by decide +kernel) rfl
theorem zw_29 : Cond.selects "ValueBenchModel" ⟨"ValueBenchModel", "make", "()V"⟩ ⟨"ValueBenchModel", "make", "()V"⟩ ∈ zx_W := zx_in 29 (by decide +kernel) rfl
theorem zw_30 : Cond.selects "ValueBenchModel" ⟨"ValueBenchModel", "dominance", "()V"⟩ ⟨"ValueBenchModel", "dominance", "()V"⟩ ∈ zx_W := zx_in 30 (by decide +kernel) rfl
theorem zw_31 : Cond.selects "ValueBenchModel" ⟨"ValueBenchModel", "meet", "(I)V"⟩ ⟨"ValueBenchModel", "meet", "(I)V"⟩ ∈ zx_W := zx_in 31 (by decide +kernel) rfl
theorem zw_32 : Cond.selects "ValueBenchModel" ⟨"ValueBenchModel", "leads", "(II)Z"⟩ ⟨"ValueBenchModel", "leads", "(II)Z"⟩ ∈ zx_W := zx_in 32 (by decide +kernel) rfl
theorem zw_33 : Cond.selects "ValueBenchModel" ⟨"ValueBenchModel", "howOf", "(I)I"⟩ ⟨"ValueBenchModel", "howOf", "(I)I"⟩ ∈ zx_W := zx_in 33 (by decide +kernel) rfl
theorem zw_34 : Cond.selects "ValueBenchModel" ⟨"ValueBenchModel", "dominates1", "(II)Z"⟩ ⟨"ValueBenchModel", "dominates1", "(II)Z"⟩ ∈ zx_W := zx_in 34 (by decide +kernel) rfl
theorem zw_35 : Cond.selects "ValueBenchModel" ⟨"ValueBenchModel", "choices", "()V"⟩ ⟨"ValueBenchModel", "choices", "()V"⟩ ∈ zx_W := zx_in 35 (by decide +kernel) rfl
theorem zw_36 : Cond.selects "ValueBenchModel" ⟨"ValueBenchModel", "gives", "(II)Z"⟩ ⟨"ValueBenchModel", "gives", "(II)Z"⟩ ∈ zx_W := zx_in 36 (by decide +kernel) rfl
theorem zw_37 : Cond.selects "ValueBenchModel" ⟨"ValueBenchModel", "numbers", "()V"⟩ ⟨"ValueBenchModel", "numbers", "()V"⟩ ∈ zx_W := zx_in 37 (by decide +kernel) rfl
theorem zw_38 : Cond.selects "ValueBenchModel" ⟨"ValueBenchModel", "comes", "(IIIII)I"⟩ ⟨"ValueBenchModel", "comes", "(IIIII)I"⟩ ∈ zx_W := zx_in 38 (by decide +kernel) rfl
theorem zw_39 : Cond.selects "ValueBenchModel" ⟨"ValueBenchModel", "names", "()V"⟩ ⟨"ValueBenchModel", "names", "()V"⟩ ∈ zx_W := zx_in 39 (by decide +kernel) rfl
theorem zw_40 : Cond.selects "ValueBenchModel" ⟨"ValueBenchModel", "through", "(IIZ)V"⟩ ⟨"ValueBenchModel", "through", "(IIZ)V"⟩ ∈ zx_W := zx_in 40 (by decide +kernel) rfl
theorem zw_41 : Cond.selects "ValueBenchModel" ⟨"ValueBenchModel", "adds", "(II)V"⟩ ⟨"ValueBenchModel", "adds", "(II)V"⟩ ∈ zx_W := zx_in 41 (by decide +kernel) rfl
theorem zw_42 : Cond.selects "ValueBenchModel" ⟨"ValueBenchModel", "classes", "()V"⟩ ⟨"ValueBenchModel", "classes", "()V"⟩ ∈ zx_W := zx_in 42 (by decide +kernel) rfl
theorem zw_43 : Cond.selects "ValueBenchModel" ⟨"ValueBenchModel", "isOneSort", "(II)Z"⟩ ⟨"ValueBenchModel", "isOneSort", "(II)Z"⟩ ∈ zx_W := zx_in 43 (by decide +kernel) rfl
theorem zw_44 : Cond.selects "ValueBenchModel" ⟨"ValueBenchModel", "hangTogether", "(II)Z"⟩ ⟨"ValueBenchModel", "hangTogether", "(II)Z"⟩ ∈ zx_W := zx_in 44 (by decide +kernel) rfl
theorem zw_45 : Cond.selects "ValueBenchModel" ⟨"ValueBenchModel", "redundant", "()V"⟩ ⟨"ValueBenchModel", "redundant", "()V"⟩ ∈ zx_W := zx_in 45 (by decide +kernel) rfl
theorem zw_46 : Cond.selects "ValueBenchModel" ⟨"ValueBenchModel", "isAhead", "(III)Z"⟩ ⟨"ValueBenchModel", "isAhead", "(III)Z"⟩ ∈ zx_W := zx_in 46 (by decide +kernel) rfl
theorem zw_47 : Cond.selects "ValueBenchModel" ⟨"ValueBenchModel", "chooses", "(III)V"⟩ ⟨"ValueBenchModel", "chooses", "(III)V"⟩ ∈ zx_W := zx_in 47 (by decide +kernel) rfl
theorem zw_48 : Cond.selects "ValueBenchModel" ⟨"ValueBenchModel", "predecessorAt", "(II)I"⟩ ⟨"ValueBenchModel", "predecessorAt", "(II)I"⟩ ∈ zx_W := zx_in 48 (by decide +kernel) rfl
theorem zw_49 : Cond.selects "ValueBenchModel" ⟨"ValueBenchModel", "ledOperand", "(II)I"⟩ ⟨"ValueBenchModel", "ledOperand", "(II)I"⟩ ∈ zx_W := zx_in 49 (by decide +kernel) rfl
theorem zw_50 : Cond.selects "ValueBenchModel" ⟨"ValueBenchModel", "leader", "(III)I"⟩ ⟨"ValueBenchModel", "leader", "(III)I"⟩ ∈ zx_W := zx_in 50 (by decide +kernel) rfl
theorem zw_51 : Cond.selects "ValueBenchModel" ⟨"ValueBenchModel", "costs", "(III)Z"⟩ ⟨"ValueBenchModel", "costs", "(III)Z"⟩ ∈ zx_W := zx_in 51 (by decide +kernel) rfl
theorem zw_52 : Cond.selects "ValueBenchModel" ⟨"ValueBenchModel", "takes", "()Z"⟩ ⟨"ValueBenchModel", "takes", "()Z"⟩ ∈ zx_W := zx_in 52 (by decide +kernel) rfl
theorem zw_53 : Cond.selects "ValueBenchModel" ⟨"ValueBenchModel", "acts", "(III)V"⟩ ⟨"ValueBenchModel", "acts", "(III)V"⟩ ∈ zx_W := zx_in 53 (by decide +kernel) rfl
theorem zw_54 : Cond.selects "ValueBenchModel" ⟨"ValueBenchModel", "emit", "(I)V"⟩ ⟨"ValueBenchModel", "emit", "(I)V"⟩ ∈ zx_W := zx_in 54 (by decide +kernel) rfl
theorem zw_55 : Cond.selects "ValueBenchModel" ⟨"ValueBenchModel", "readAt", "(III)I"⟩ ⟨"ValueBenchModel", "readAt", "(III)I"⟩ ∈ zx_W := zx_in 55 (by decide +kernel) rfl
theorem zw_56 : Cond.selects "ValueBenchModel" ⟨"ValueBenchModel", "yOf", "(I)I"⟩ ⟨"ValueBenchModel", "yOf", "(I)I"⟩ ∈ zx_W := zx_in 56 (by decide +kernel) rfl
theorem zw_57 : Cond.selects "ValueBenchModel" ⟨"ValueBenchModel", "reads", "(IZ)I"⟩ ⟨"ValueBenchModel", "reads", "(IZ)I"⟩ ∈ zx_W := zx_in 57 (by decide +kernel) rfl
theorem zw_58 : Cond.selects "ValueBenchModel" ⟨"ValueBenchModel", "areReached", "(II)Z"⟩ ⟨"ValueBenchModel", "areReached", "(II)Z"⟩ ∈ zx_W := zx_in 58 (by decide +kernel) rfl
theorem zw_59 : Cond.selects "ValueBenchModel" ⟨"ValueBenchModel", "isValue", "(I)Z"⟩ ⟨"ValueBenchModel", "isValue", "(I)Z"⟩ ∈ zx_W := zx_in 59 (by decide +kernel) rfl
theorem zw_60 : Cond.selects "ValueBenchModel" ⟨"ValueBenchModel", "isOperand", "(II)Z"⟩ ⟨"ValueBenchModel", "isOperand", "(II)Z"⟩ ∈ zx_W := zx_in 60 (by decide +kernel) rfl
theorem zw_62 : Cond.initialized "ValueBench" ∈ zx_W := zx_in 62 (by decide +kernel) rfl
theorem zw_63 : Cond.initialized "ValueBench$Program" ∈ zx_W := zx_in 63 (by decide +kernel) rfl
theorem zw_64 : Cond.initialized "ValueBench$Graph" ∈ zx_W := zx_in 64 (by decide +kernel) rfl
theorem zw_65 : Cond.initialized "ValueBench$Values" ∈ zx_W := zx_in 65 (by decide +kernel) rfl
theorem zw_67 : Cond.initialized "ValueBench$Classes" ∈ zx_W := zx_in 67 (by decide +kernel) rfl
theorem zw_68 : Cond.initialized "ValueBench$Leaders" ∈ zx_W := zx_in 68 (by decide +kernel) rfl
theorem zw_70 : Cond.initialized "ValueBench$ToldForm" ∈ zx_W := zx_in 70 (by decide +kernel) rfl
theorem zw_71 : Cond.initialized "ValueBench$ValueForm" ∈ zx_W := zx_in 71 (by decide +kernel) rfl
theorem zw_72 : Cond.initialized "ValueBench$Machine" ∈ zx_W := zx_in 72 (by decide +kernel) rfl
theorem zw_73 : Cond.initialized "ValueBenchModel" ∈ zx_W := zx_in 73 (by decide +kernel) rfl
theorem zw_74 : Cond.initialized "java/lang/System" ∈ zx_W := zx_in 74 (by decide +kernel) rfl
theorem zw_75 : Cond.initialized "java/util/Arrays" ∈ zx_W := zx_in 75 (by decide +kernel) rfl
theorem zw_76 : Cond.initialized "java/lang/Integer" ∈ zx_W := zx_in 76 (by decide +kernel) rfl
theorem zw_91 : Cond.fieldLink "ValueBench$Program" (9 : Nat) "ValueBench$Program" "first" "[I" ∈ zx_W := zx_in 91 (by decide +kernel) rfl
theorem zw_92 : Cond.fieldLink "ValueBench$Machine" (68 : Nat) "ValueBench$Program" "first" "[I" ∈ zx_W := zx_in 92 (by decide +kernel) rfl
theorem zw_93 : Cond.fieldLink "ValueBench$Leaders" (93 : Nat) "ValueBench$Program" "first" "[I" ∈ zx_W := zx_in 93 (by decide +kernel) rfl
theorem zw_94 : Cond.fieldLink "ValueBench" (110 : Nat) "ValueBench$Program" "first" "[I" ∈ zx_W := zx_in 94 (by decide +kernel) rfl
theorem zw_95 : Cond.fieldLink "ValueBench$Values" (111 : Nat) "ValueBench$Program" "first" "[I" ∈ zx_W := zx_in 95 (by decide +kernel) rfl
theorem zw_96 : Cond.fieldLink "ValueBench$Program" (15 : Nat) "ValueBench$Program" "kind" "[I" ∈ zx_W := zx_in 96 (by decide +kernel) rfl
theorem zw_97 : Cond.fieldLink "ValueBench$ValueForm" (84 : Nat) "ValueBench$Program" "kind" "[I" ∈ zx_W := zx_in 97 (by decide +kernel) rfl
theorem zw_98 : Cond.fieldLink "ValueBench$Machine" (79 : Nat) "ValueBench$Program" "kind" "[I" ∈ zx_W := zx_in 98 (by decide +kernel) rfl
theorem zw_99 : Cond.fieldLink "ValueBench$Leaders" (98 : Nat) "ValueBench$Program" "kind" "[I" ∈ zx_W := zx_in 99 (by decide +kernel) rfl
theorem zw_100 : Cond.fieldLink "ValueBench$Values" (142 : Nat) "ValueBench$Program" "kind" "[I" ∈ zx_W := zx_in 100 (by decide +kernel) rfl
theorem zw_101 : Cond.fieldLink "ValueBench$Program" (18 : Nat) "ValueBench$Program" "x" "[I" ∈ zx_W := zx_in 101 (by decide +kernel) rfl
theorem zw_102 : Cond.fieldLink "ValueBench$ToldForm" (25 : Nat) "ValueBench$Program" "x" "[I" ∈ zx_W := zx_in 102 (by decide +kernel) rfl
theorem zw_103 : Cond.fieldLink "ValueBench$Values" (116 : Nat) "ValueBench$Program" "x" "[I" ∈ zx_W := zx_in 103 (by decide +kernel) rfl
theorem zw_104 : Cond.fieldLink "ValueBench$Program" (21 : Nat) "ValueBench$Program" "y" "[I" ∈ zx_W := zx_in 104 (by decide +kernel) rfl
theorem zw_105 : Cond.fieldLink "ValueBench$ToldForm" (30 : Nat) "ValueBench$Program" "y" "[I" ∈ zx_W := zx_in 105 (by decide +kernel) rfl
theorem zw_106 : Cond.fieldLink "ValueBench$Machine" (85 : Nat) "ValueBench$Program" "y" "[I" ∈ zx_W := zx_in 106 (by decide +kernel) rfl
theorem zw_107 : Cond.fieldLink "ValueBench$Values" (143 : Nat) "ValueBench$Program" "y" "[I" ∈ zx_W := zx_in 107 (by decide +kernel) rfl
theorem zw_108 : Cond.fieldLink "ValueBench$Program" (24 : Nat) "ValueBench$Program" "z" "[I" ∈ zx_W := zx_in 108 (by decide +kernel) rfl
theorem zw_109 : Cond.fieldLink "ValueBench$ToldForm" (33 : Nat) "ValueBench$Program" "z" "[I" ∈ zx_W := zx_in 109 (by decide +kernel) rfl
theorem zw_110 : Cond.fieldLink "ValueBench$Values" (155 : Nat) "ValueBench$Program" "z" "[I" ∈ zx_W := zx_in 110 (by decide +kernel) rfl
theorem zw_111 : Cond.fieldLink "ValueBench$Program" (27 : Nat) "ValueBench$Program" "how" "[I" ∈ zx_W := zx_in 111 (by decide +kernel) rfl
theorem zw_112 : Cond.fieldLink "ValueBench$Program" (30 : Nat) "ValueBench$Program" "endY" "[I" ∈ zx_W := zx_in 112 (by decide +kernel) rfl
theorem zw_113 : Cond.fieldLink "ValueBench$Program" (33 : Nat) "ValueBench$Program" "endB" "[I" ∈ zx_W := zx_in 113 (by decide +kernel) rfl
theorem zw_114 : Cond.fieldLink "ValueBench$Program" (36 : Nat) "ValueBench$Program" "endC" "[I" ∈ zx_W := zx_in 114 (by decide +kernel) rfl
theorem zw_115 : Cond.fieldLink "ValueBench" (75 : Nat) "ValueBench$Program" "blocks" "I" ∈ zx_W := zx_in 115 (by decide +kernel) rfl
theorem zw_116 : Cond.fieldLink "ValueBench$Program" (46 : Nat) "ValueBench$Program" "blocks" "I" ∈ zx_W := zx_in 116 (by decide +kernel) rfl
theorem zw_145 : Cond.fieldLink "ValueBench$Graph" (9 : Nat) "ValueBench$Graph" "tells" "[I" ∈ zx_W := zx_in 145 (by decide +kernel) rfl
theorem zw_146 : Cond.fieldLink "ValueBench$Graph" (15 : Nat) "ValueBench$Graph" "comes" "[I" ∈ zx_W := zx_in 146 (by decide +kernel) rfl
theorem zw_147 : Cond.fieldLink "ValueBench$ValueForm" (51 : Nat) "ValueBench$Graph" "comes" "[I" ∈ zx_W := zx_in 147 (by decide +kernel) rfl
theorem zw_148 : Cond.fieldLink "ValueBench$Leaders" (83 : Nat) "ValueBench$Graph" "comes" "[I" ∈ zx_W := zx_in 148 (by decide +kernel) rfl
theorem zw_149 : Cond.fieldLink "ValueBench" (125 : Nat) "ValueBench$Graph" "comes" "[I" ∈ zx_W := zx_in 149 (by decide +kernel) rfl
theorem zw_150 : Cond.fieldLink "ValueBench$Values" (135 : Nat) "ValueBench$Graph" "comes" "[I" ∈ zx_W := zx_in 150 (by decide +kernel) rfl
theorem zw_151 : Cond.fieldLink "ValueBench$Graph" (18 : Nat) "ValueBench$Graph" "dominated" "[I" ∈ zx_W := zx_in 151 (by decide +kernel) rfl
theorem zw_152 : Cond.fieldLink "ValueBench$Leaders" (66 : Nat) "ValueBench$Graph" "dominated" "[I" ∈ zx_W := zx_in 152 (by decide +kernel) rfl
theorem zw_153 : Cond.fieldLink "ValueBench" (142 : Nat) "ValueBench$Graph" "dominated" "[I" ∈ zx_W := zx_in 153 (by decide +kernel) rfl
theorem zw_154 : Cond.fieldLink "ValueBench$Graph" (21 : Nat) "ValueBench$Graph" "dominators" "[I" ∈ zx_W := zx_in 154 (by decide +kernel) rfl
theorem zw_155 : Cond.fieldLink "ValueBench$Values" (73 : Nat) "ValueBench$Graph" "dominators" "[I" ∈ zx_W := zx_in 155 (by decide +kernel) rfl
theorem zw_156 : Cond.fieldLink "ValueBench$Graph" (24 : Nat) "ValueBench$Graph" "parent" "[I" ∈ zx_W := zx_in 156 (by decide +kernel) rfl
theorem zw_157 : Cond.fieldLink "ValueBench" (122 : Nat) "ValueBench$Graph" "parent" "[I" ∈ zx_W := zx_in 157 (by decide +kernel) rfl
theorem zw_158 : Cond.fieldLink "ValueBench$Values" (146 : Nat) "ValueBench$Graph" "parent" "[I" ∈ zx_W := zx_in 158 (by decide +kernel) rfl
theorem zw_159 : Cond.fieldLink "ValueBench$Graph" (27 : Nat) "ValueBench$Graph" "frontier" "[I" ∈ zx_W := zx_in 159 (by decide +kernel) rfl
theorem zw_160 : Cond.fieldLink "ValueBench$Values" (100 : Nat) "ValueBench$Graph" "frontier" "[I" ∈ zx_W := zx_in 160 (by decide +kernel) rfl
theorem zw_161 : Cond.fieldLink "ValueBench" (136 : Nat) "ValueBench$Graph" "frontier" "[I" ∈ zx_W := zx_in 161 (by decide +kernel) rfl
theorem zw_162 : Cond.fieldLink "ValueBench$Values" (97 : Nat) "ValueBench$Graph" "reached" "I" ∈ zx_W := zx_in 162 (by decide +kernel) rfl
theorem zw_163 : Cond.fieldLink "ValueBench$Graph" (44 : Nat) "ValueBench$Graph" "reached" "I" ∈ zx_W := zx_in 163 (by decide +kernel) rfl
theorem zw_164 : Cond.fieldLink "ValueBench" (227 : Nat) "ValueBench$Graph" "reached" "I" ∈ zx_W := zx_in 164 (by decide +kernel) rfl
theorem zw_193 : Cond.fieldLink "ValueBench$ValueForm" (73 : Nat) "ValueBench$Reads" "operands" "[I" ∈ zx_W := zx_in 193 (by decide +kernel) rfl
theorem zw_194 : Cond.fieldLink "ValueBench$Leaders" (90 : Nat) "ValueBench$Reads" "operands" "[I" ∈ zx_W := zx_in 194 (by decide +kernel) rfl
theorem zw_195 : Cond.fieldLink "ValueBench$Classes" (76 : Nat) "ValueBench$Reads" "operands" "[I" ∈ zx_W := zx_in 195 (by decide +kernel) rfl
theorem zw_196 : Cond.fieldLink "ValueBench" (179 : Nat) "ValueBench$Reads" "operands" "[I" ∈ zx_W := zx_in 196 (by decide +kernel) rfl
theorem zw_197 : Cond.fieldLink "ValueBench$Values" (152 : Nat) "ValueBench$Reads" "operands" "[I" ∈ zx_W := zx_in 197 (by decide +kernel) rfl
theorem zw_199 : Cond.fieldLink "ValueBench$ValueForm" (89 : Nat) "ValueBench$Reads" "emits" "[I" ∈ zx_W := zx_in 199 (by decide +kernel) rfl
theorem zw_200 : Cond.fieldLink "ValueBench$Leaders" (99 : Nat) "ValueBench$Reads" "emits" "[I" ∈ zx_W := zx_in 200 (by decide +kernel) rfl
theorem zw_201 : Cond.fieldLink "ValueBench$Values" (149 : Nat) "ValueBench$Reads" "emits" "[I" ∈ zx_W := zx_in 201 (by decide +kernel) rfl
theorem zw_202 : Cond.fieldLink "ValueBench" (198 : Nat) "ValueBench$Reads" "emits" "[I" ∈ zx_W := zx_in 202 (by decide +kernel) rfl
theorem zw_204 : Cond.fieldLink "ValueBench$Leaders" (50 : Nat) "ValueBench$Reads" "ends" "[I" ∈ zx_W := zx_in 204 (by decide +kernel) rfl
theorem zw_205 : Cond.fieldLink "ValueBench$ValueForm" (92 : Nat) "ValueBench$Reads" "ends" "[I" ∈ zx_W := zx_in 205 (by decide +kernel) rfl
theorem zw_206 : Cond.fieldLink "ValueBench$Values" (161 : Nat) "ValueBench$Reads" "ends" "[I" ∈ zx_W := zx_in 206 (by decide +kernel) rfl
theorem zw_207 : Cond.fieldLink "ValueBench" (192 : Nat) "ValueBench$Reads" "ends" "[I" ∈ zx_W := zx_in 207 (by decide +kernel) rfl
theorem zw_215 : Cond.fieldLink "ValueBench$Values" (9 : Nat) "ValueBench$Values" "kind" "[I" ∈ zx_W := zx_in 215 (by decide +kernel) rfl
theorem zw_216 : Cond.fieldLink "ValueBench$Classes" (37 : Nat) "ValueBench$Values" "kind" "[I" ∈ zx_W := zx_in 216 (by decide +kernel) rfl
theorem zw_217 : Cond.fieldLink "ValueBench$Leaders" (80 : Nat) "ValueBench$Values" "kind" "[I" ∈ zx_W := zx_in 217 (by decide +kernel) rfl
theorem zw_218 : Cond.fieldLink "ValueBench" (150 : Nat) "ValueBench$Values" "kind" "[I" ∈ zx_W := zx_in 218 (by decide +kernel) rfl
theorem zw_219 : Cond.fieldLink "ValueBench$Values" (15 : Nat) "ValueBench$Values" "block" "[I" ∈ zx_W := zx_in 219 (by decide +kernel) rfl
theorem zw_220 : Cond.fieldLink "ValueBench$Leaders" (63 : Nat) "ValueBench$Values" "block" "[I" ∈ zx_W := zx_in 220 (by decide +kernel) rfl
theorem zw_221 : Cond.fieldLink "ValueBench$Classes" (43 : Nat) "ValueBench$Values" "block" "[I" ∈ zx_W := zx_in 221 (by decide +kernel) rfl
theorem zw_222 : Cond.fieldLink "ValueBench" (153 : Nat) "ValueBench$Values" "block" "[I" ∈ zx_W := zx_in 222 (by decide +kernel) rfl
theorem zw_223 : Cond.fieldLink "ValueBench$Values" (18 : Nat) "ValueBench$Values" "variable" "[I" ∈ zx_W := zx_in 223 (by decide +kernel) rfl
theorem zw_224 : Cond.fieldLink "ValueBench" (156 : Nat) "ValueBench$Values" "variable" "[I" ∈ zx_W := zx_in 224 (by decide +kernel) rfl
theorem zw_225 : Cond.fieldLink "ValueBench$Values" (21 : Nat) "ValueBench$Values" "number" "[I" ∈ zx_W := zx_in 225 (by decide +kernel) rfl
theorem zw_226 : Cond.fieldLink "ValueBench$Classes" (40 : Nat) "ValueBench$Values" "number" "[I" ∈ zx_W := zx_in 226 (by decide +kernel) rfl
theorem zw_227 : Cond.fieldLink "ValueBench" (169 : Nat) "ValueBench$Values" "number" "[I" ∈ zx_W := zx_in 227 (by decide +kernel) rfl
theorem zw_228 : Cond.fieldLink "ValueBench$Values" (24 : Nat) "ValueBench$Values" "firstOperand" "[I" ∈ zx_W := zx_in 228 (by decide +kernel) rfl
theorem zw_229 : Cond.fieldLink "ValueBench$ValueForm" (78 : Nat) "ValueBench$Values" "firstOperand" "[I" ∈ zx_W := zx_in 229 (by decide +kernel) rfl
theorem zw_230 : Cond.fieldLink "ValueBench$Leaders" (73 : Nat) "ValueBench$Values" "firstOperand" "[I" ∈ zx_W := zx_in 230 (by decide +kernel) rfl
theorem zw_231 : Cond.fieldLink "ValueBench$Classes" (58 : Nat) "ValueBench$Values" "firstOperand" "[I" ∈ zx_W := zx_in 231 (by decide +kernel) rfl
theorem zw_232 : Cond.fieldLink "ValueBench" (184 : Nat) "ValueBench$Values" "firstOperand" "[I" ∈ zx_W := zx_in 232 (by decide +kernel) rfl
theorem zw_234 : Cond.fieldLink "ValueBench$Values" (30 : Nat) "ValueBench$Values" "reads" "LValueBench$Reads;" ∈ zx_W := zx_in 234 (by decide +kernel) rfl
theorem zw_235 : Cond.fieldLink "ValueBench$Leaders" (49 : Nat) "ValueBench$Values" "reads" "LValueBench$Reads;" ∈ zx_W := zx_in 235 (by decide +kernel) rfl
theorem zw_236 : Cond.fieldLink "ValueBench$Classes" (72 : Nat) "ValueBench$Values" "reads" "LValueBench$Reads;" ∈ zx_W := zx_in 236 (by decide +kernel) rfl
theorem zw_237 : Cond.fieldLink "ValueBench" (175 : Nat) "ValueBench$Values" "reads" "LValueBench$Reads;" ∈ zx_W := zx_in 237 (by decide +kernel) rfl
theorem zw_238 : Cond.fieldLink "ValueBench$Values" (34 : Nat) "ValueBench$Values" "given" "[I" ∈ zx_W := zx_in 238 (by decide +kernel) rfl
theorem zw_239 : Cond.fieldLink "ValueBench$ValueForm" (81 : Nat) "ValueBench$Values" "given" "[I" ∈ zx_W := zx_in 239 (by decide +kernel) rfl
theorem zw_240 : Cond.fieldLink "ValueBench$Values" (37 : Nat) "ValueBench$Values" "firstChoice" "[I" ∈ zx_W := zx_in 240 (by decide +kernel) rfl
theorem zw_241 : Cond.fieldLink "ValueBench$ValueForm" (48 : Nat) "ValueBench$Values" "firstChoice" "[I" ∈ zx_W := zx_in 241 (by decide +kernel) rfl
theorem zw_242 : Cond.fieldLink "ValueBench$Values" (40 : Nat) "ValueBench$Values" "choices" "[I" ∈ zx_W := zx_in 242 (by decide +kernel) rfl
theorem zw_243 : Cond.fieldLink "ValueBench$ValueForm" (45 : Nat) "ValueBench$Values" "choices" "[I" ∈ zx_W := zx_in 243 (by decide +kernel) rfl
theorem zw_244 : Cond.fieldLink "ValueBench" (133 : Nat) "ValueBench$Values" "choices" "[I" ∈ zx_W := zx_in 244 (by decide +kernel) rfl
theorem zw_245 : Cond.fieldLink "ValueBench$Values" (43 : Nat) "ValueBench$Values" "choosing" "[I" ∈ zx_W := zx_in 245 (by decide +kernel) rfl
theorem zw_246 : Cond.fieldLink "ValueBench$Values" (46 : Nat) "ValueBench$Values" "atEnd" "[I" ∈ zx_W := zx_in 246 (by decide +kernel) rfl
theorem zw_247 : Cond.fieldLink "ValueBench$Classes" (18 : Nat) "ValueBench$Values" "size" "I" ∈ zx_W := zx_in 247 (by decide +kernel) rfl
theorem zw_248 : Cond.fieldLink "ValueBench$Values" (49 : Nat) "ValueBench$Values" "size" "I" ∈ zx_W := zx_in 248 (by decide +kernel) rfl
theorem zw_249 : Cond.fieldLink "ValueBench$Leaders" (26 : Nat) "ValueBench$Values" "size" "I" ∈ zx_W := zx_in 249 (by decide +kernel) rfl
theorem zw_250 : Cond.fieldLink "ValueBench" (230 : Nat) "ValueBench$Values" "size" "I" ∈ zx_W := zx_in 250 (by decide +kernel) rfl
theorem zw_282 : Cond.fieldLink "ValueBench$Classes" (9 : Nat) "ValueBench$Classes" "least" "[I" ∈ zx_W := zx_in 282 (by decide +kernel) rfl
theorem zw_283 : Cond.fieldLink "ValueBench$Leaders" (58 : Nat) "ValueBench$Classes" "least" "[I" ∈ zx_W := zx_in 283 (by decide +kernel) rfl
theorem zw_284 : Cond.fieldLink "ValueBench" (159 : Nat) "ValueBench$Classes" "least" "[I" ∈ zx_W := zx_in 284 (by decide +kernel) rfl
theorem zw_285 : Cond.fieldLink "ValueBench$Classes" (15 : Nat) "ValueBench$Classes" "finer" "[I" ∈ zx_W := zx_in 285 (by decide +kernel) rfl
theorem zw_286 : Cond.fieldLink "ValueBench$Classes" (32 : Nat) "ValueBench$Classes" "size" "I" ∈ zx_W := zx_in 286 (by decide +kernel) rfl
theorem zw_287 : Cond.fieldLink "ValueBench" (233 : Nat) "ValueBench$Classes" "size" "I" ∈ zx_W := zx_in 287 (by decide +kernel) rfl
theorem zw_303 : Cond.fieldLink "ValueBench$Leaders" (9 : Nat) "ValueBench$Leaders" "redundant" "[Z" ∈ zx_W := zx_in 303 (by decide +kernel) rfl
theorem zw_304 : Cond.fieldLink "ValueBench$ValueForm" (41 : Nat) "ValueBench$Leaders" "redundant" "[Z" ∈ zx_W := zx_in 304 (by decide +kernel) rfl
theorem zw_305 : Cond.fieldLink "ValueBench" (162 : Nat) "ValueBench$Leaders" "redundant" "[Z" ∈ zx_W := zx_in 305 (by decide +kernel) rfl
theorem zw_306 : Cond.fieldLink "ValueBench$Leaders" (18 : Nat) "ValueBench$Leaders" "reads" "LValueBench$Reads;" ∈ zx_W := zx_in 306 (by decide +kernel) rfl
theorem zw_308 : Cond.fieldLink "ValueBench" (187 : Nat) "ValueBench$Leaders" "reads" "LValueBench$Reads;" ∈ zx_W := zx_in 308 (by decide +kernel) rfl
theorem zw_309 : Cond.fieldLink "ValueBench$Leaders" (22 : Nat) "ValueBench$Leaders" "redundantOnes" "I" ∈ zx_W := zx_in 309 (by decide +kernel) rfl
theorem zw_310 : Cond.fieldLink "ValueBench" (234 : Nat) "ValueBench$Leaders" "redundantOnes" "I" ∈ zx_W := zx_in 310 (by decide +kernel) rfl
theorem zw_328 : Cond.fieldLink "ValueBench$ToldForm" (9 : Nat) "ValueBench$ToldForm" "program" "LValueBench$Program;" ∈ zx_W := zx_in 328 (by decide +kernel) rfl
theorem zw_330 : Cond.fieldLink "ValueBench$ToldForm" (15 : Nat) "ValueBench$ToldForm" "cells" "[I" ∈ zx_W := zx_in 330 (by decide +kernel) rfl
theorem zw_331 : Cond.sameField "ValueBench$ToldForm" "ValueBench$Form" "cells" "[I" ∈ zx_W := zx_in 331 (by decide +kernel) rfl
theorem zw_332 : Cond.fieldLink "ValueBench$ValueForm" (70 : Nat) "ValueBench$ValueForm" "cells" "[I" ∈ zx_W := zx_in 332 (by decide +kernel) rfl
theorem zw_333 : Cond.sameField "ValueBench$ValueForm" "ValueBench$Form" "cells" "[I" ∈ zx_W := zx_in 333 (by decide +kernel) rfl
theorem zw_334 : Cond.fieldLink "ValueBench$Machine" (58 : Nat) "ValueBench$Form" "cells" "[I" ∈ zx_W := zx_in 334 (by decide +kernel) rfl
theorem zw_346 : Cond.fieldLink "ValueBench$ValueForm" (15 : Nat) "ValueBench$ValueForm" "program" "LValueBench$Program;" ∈ zx_W := zx_in 346 (by decide +kernel) rfl
theorem zw_347 : Cond.fieldLink "ValueBench$ValueForm" (19 : Nat) "ValueBench$ValueForm" "graph" "LValueBench$Graph;" ∈ zx_W := zx_in 347 (by decide +kernel) rfl
theorem zw_348 : Cond.fieldLink "ValueBench$ValueForm" (23 : Nat) "ValueBench$ValueForm" "values" "LValueBench$Values;" ∈ zx_W := zx_in 348 (by decide +kernel) rfl
theorem zw_349 : Cond.fieldLink "ValueBench$ValueForm" (27 : Nat) "ValueBench$ValueForm" "leaders" "LValueBench$Leaders;" ∈ zx_W := zx_in 349 (by decide +kernel) rfl
theorem zw_350 : Cond.fieldLink "ValueBench$ValueForm" (40 : Nat) "ValueBench$ValueForm" "reads" "LValueBench$Reads;" ∈ zx_W := zx_in 350 (by decide +kernel) rfl
theorem zw_351 : Cond.fieldLink "ValueBench$ValueForm" (9 : Nat) "ValueBench$ValueForm" "taken" "[I" ∈ zx_W := zx_in 351 (by decide +kernel) rfl
theorem zw_372 : Cond.fieldLink "ValueBench$Machine" (22 : Nat) "ValueBench$Machine" "program" "LValueBench$Program;" ∈ zx_W := zx_in 372 (by decide +kernel) rfl
theorem zw_373 : Cond.fieldLink "ValueBench$Machine" (9 : Nat) "ValueBench$Machine" "inputs" "[I" ∈ zx_W := zx_in 373 (by decide +kernel) rfl
theorem zw_374 : Cond.fieldLink "ValueBench$Machine" (15 : Nat) "ValueBench$Machine" "kept" "[I" ∈ zx_W := zx_in 374 (by decide +kernel) rfl
theorem zw_375 : Cond.fieldLink "ValueBench" (224 : Nat) "ValueBench$Machine" "kept" "[I" ∈ zx_W := zx_in 375 (by decide +kernel) rfl
theorem zw_376 : Cond.fieldLink "ValueBench$Machine" (18 : Nat) "ValueBench$Machine" "limit" "I" ∈ zx_W := zx_in 376 (by decide +kernel) rfl
theorem zw_377 : Cond.fieldLink "ValueBench" (209 : Nat) "ValueBench$Machine" "limit" "I" ∈ zx_W := zx_in 377 (by decide +kernel) rfl
theorem zw_378 : Cond.fieldLink "ValueBench$Machine" (26 : Nat) "ValueBench$Machine" "returned" "I" ∈ zx_W := zx_in 378 (by decide +kernel) rfl
theorem zw_379 : Cond.fieldLink "ValueBench" (212 : Nat) "ValueBench$Machine" "returned" "I" ∈ zx_W := zx_in 379 (by decide +kernel) rfl
theorem zw_380 : Cond.fieldLink "ValueBench$Machine" (29 : Nat) "ValueBench$Machine" "used" "I" ∈ zx_W := zx_in 380 (by decide +kernel) rfl
theorem zw_381 : Cond.fieldLink "ValueBench" (215 : Nat) "ValueBench$Machine" "used" "I" ∈ zx_W := zx_in 381 (by decide +kernel) rfl
theorem zw_382 : Cond.fieldLink "ValueBench$Machine" (32 : Nat) "ValueBench$Machine" "numbers" "I" ∈ zx_W := zx_in 382 (by decide +kernel) rfl
theorem zw_383 : Cond.fieldLink "ValueBench" (218 : Nat) "ValueBench$Machine" "numbers" "I" ∈ zx_W := zx_in 383 (by decide +kernel) rfl
theorem zw_384 : Cond.fieldLink "ValueBench$Machine" (35 : Nat) "ValueBench$Machine" "at" "I" ∈ zx_W := zx_in 384 (by decide +kernel) rfl
theorem zw_385 : Cond.fieldLink "ValueBench" (221 : Nat) "ValueBench$Machine" "at" "I" ∈ zx_W := zx_in 385 (by decide +kernel) rfl
theorem zw_403 : Cond.fieldLink "ValueBench" (12 : Nat) "ValueBench" "program" "LValueBench$Program;" ∈ zx_W := zx_in 403 (by decide +kernel) rfl
theorem zw_404 : Cond.fieldLink "ValueBench" (19 : Nat) "ValueBench" "graph" "LValueBench$Graph;" ∈ zx_W := zx_in 404 (by decide +kernel) rfl
theorem zw_405 : Cond.fieldLink "ValueBench" (26 : Nat) "ValueBench" "values" "LValueBench$Values;" ∈ zx_W := zx_in 405 (by decide +kernel) rfl
theorem zw_406 : Cond.fieldLink "ValueBench" (33 : Nat) "ValueBench" "classes" "LValueBench$Classes;" ∈ zx_W := zx_in 406 (by decide +kernel) rfl
theorem zw_407 : Cond.fieldLink "ValueBench" (40 : Nat) "ValueBench" "leaders" "LValueBench$Leaders;" ∈ zx_W := zx_in 407 (by decide +kernel) rfl
theorem zw_408 : Cond.fieldLink "ValueBench" (49 : Nat) "ValueBench" "toldForm" "LValueBench$Form;" ∈ zx_W := zx_in 408 (by decide +kernel) rfl
theorem zw_409 : Cond.fieldLink "ValueBench" (58 : Nat) "ValueBench" "valuedForm" "LValueBench$Form;" ∈ zx_W := zx_in 409 (by decide +kernel) rfl
theorem zw_410 : Cond.fieldLink "ValueBench" (61 : Nat) "ValueBench" "ledForm" "LValueBench$Form;" ∈ zx_W := zx_in 410 (by decide +kernel) rfl
theorem zw_411 : Cond.fieldLink "ValueBench" (67 : Nat) "ValueBench" "machine" "LValueBench$Machine;" ∈ zx_W := zx_in 411 (by decide +kernel) rfl
theorem zw_412 : Cond.fieldLink "ValueBench" (71 : Nat) "ValueBench" "stale" "Z" ∈ zx_W := zx_in 412 (by decide +kernel) rfl
theorem zw_442 : Cond.methodLink "ValueBench" (79 : Nat) ({ cls := "ValueBench$Program", name := "has", desc := "(I)Z" } : Jvm.MethodName) ∈ zx_W := zx_in 442 (by decide +kernel) rfl
theorem zw_443 : Cond.instanceMethod ({ cls := "ValueBench$Program", name := "has", desc := "(I)Z" } : Jvm.MethodName) ∈ zx_W := zx_in 443 (by decide +kernel) rfl
theorem zw_444 : Cond.selects "ValueBench$Program" ({ cls := "ValueBench$Program", name := "has", desc := "(I)Z" } : Jvm.MethodName) ({ cls := "ValueBench$Program", name := "has", desc := "(I)Z" } : Jvm.MethodName) ∈ zx_W := zx_in 444 (by decide +kernel) rfl
theorem zw_445 : Cond.code ({ cls := "ValueBench$Program", name := "has", desc := "(I)Z" } : Jvm.MethodName) prog_7_method_6_code (2 : Nat) (Option.some Jvm.ClassFile.FieldType.boolean) ∈ zx_W := zx_in 445 (by decide +kernel) rfl
theorem zw_446 : Cond.methodLink "ValueBench" (83 : Nat) ({ cls := "ValueBench$Program", name := "instructions", desc := "()I" } : Jvm.MethodName) ∈ zx_W := zx_in 446 (by decide +kernel) rfl
theorem zw_447 : Cond.instanceMethod ({ cls := "ValueBench$Program", name := "instructions", desc := "()I" } : Jvm.MethodName) ∈ zx_W := zx_in 447 (by decide +kernel) rfl
theorem zw_448 : Cond.selects "ValueBench$Program" ({ cls := "ValueBench$Program", name := "instructions", desc := "()I" } : Jvm.MethodName) ({ cls := "ValueBench$Program", name := "instructions", desc := "()I" } : Jvm.MethodName) ∈ zx_W := zx_in 448 (by decide +kernel) rfl
theorem zw_449 : Cond.code ({ cls := "ValueBench$Program", name := "instructions", desc := "()I" } : Jvm.MethodName) prog_7_method_7_code (1 : Nat) (Option.some Jvm.ClassFile.FieldType.int) ∈ zx_W := zx_in 449 (by decide +kernel) rfl
theorem zw_450 : Cond.methodLink "ValueBench" (87 : Nat) ({ cls := "ValueBench$Program", name := "fits", desc := "(IIII)Z" } : Jvm.MethodName) ∈ zx_W := zx_in 450 (by decide +kernel) rfl
theorem zw_451 : Cond.static ({ cls := "ValueBench$Program", name := "fits", desc := "(IIII)Z" } : Jvm.MethodName) ∈ zx_W := zx_in 451 (by decide +kernel) rfl
theorem zw_452 : Cond.code ({ cls := "ValueBench$Program", name := "fits", desc := "(IIII)Z" } : Jvm.MethodName) prog_7_method_4_code (4 : Nat) (Option.some Jvm.ClassFile.FieldType.boolean) ∈ zx_W := zx_in 452 (by decide +kernel) rfl
theorem zw_453 : Cond.methodLink "ValueBench$Program" (39 : Nat) ({ cls := "ValueBench$Program", name := "isVariable", desc := "(I)Z" } : Jvm.MethodName) ∈ zx_W := zx_in 453 (by decide +kernel) rfl
theorem zw_454 : Cond.static ({ cls := "ValueBench$Program", name := "isVariable", desc := "(I)Z" } : Jvm.MethodName) ∈ zx_W := zx_in 454 (by decide +kernel) rfl
theorem zw_455 : Cond.code ({ cls := "ValueBench$Program", name := "isVariable", desc := "(I)Z" } : Jvm.MethodName) prog_7_method_2_code (1 : Nat) (Option.some Jvm.ClassFile.FieldType.boolean) ∈ zx_W := zx_in 455 (by decide +kernel) rfl
theorem zw_456 : Cond.methodLink "ValueBench" (91 : Nat) ({ cls := "ValueBench$Program", name := "insert", desc := "(IIIII)V" } : Jvm.MethodName) ∈ zx_W := zx_in 456 (by decide +kernel) rfl
theorem zw_457 : Cond.instanceMethod ({ cls := "ValueBench$Program", name := "insert", desc := "(IIIII)V" } : Jvm.MethodName) ∈ zx_W := zx_in 457 (by decide +kernel) rfl
theorem zw_458 : Cond.selects "ValueBench$Program" ({ cls := "ValueBench$Program", name := "insert", desc := "(IIIII)V" } : Jvm.MethodName) ({ cls := "ValueBench$Program", name := "insert", desc := "(IIIII)V" } : Jvm.MethodName) ∈ zx_W := zx_in 458 (by decide +kernel) rfl
theorem zw_459 : Cond.code ({ cls := "ValueBench$Program", name := "insert", desc := "(IIIII)V" } : Jvm.MethodName) prog_7_method_8_code (9 : Nat) (Option.none : Option Jvm.ClassFile.FieldType) ∈ zx_W := zx_in 459 (by decide +kernel) rfl
theorem zw_460 : Cond.methodLink "ValueBench$Program" (50 : Nat) ({ cls := "ValueBench$Program", name := "instructions", desc := "()I" } : Jvm.MethodName) ∈ zx_W := zx_in 460 (by decide +kernel) rfl
theorem zw_461 : Cond.methodLink "ValueBench$Program" (54 : Nat) ({ cls := "ValueBench$Program", name := "insertAt", desc := "([IIII)V" } : Jvm.MethodName) ∈ zx_W := zx_in 461 (by decide +kernel) rfl
theorem zw_462 : Cond.static ({ cls := "ValueBench$Program", name := "insertAt", desc := "([IIII)V" } : Jvm.MethodName) ∈ zx_W := zx_in 462 (by decide +kernel) rfl
theorem zw_463 : Cond.code ({ cls := "ValueBench$Program", name := "insertAt", desc := "([IIII)V" } : Jvm.MethodName) prog_7_method_9_code (4 : Nat) (Option.none : Option Jvm.ClassFile.FieldType) ∈ zx_W := zx_in 463 (by decide +kernel) rfl
theorem zw_464 : Cond.methodLink "ValueBench$Program" (58 : Nat) ({ cls := "java/lang/System", name := "arraycopy", desc := "(Ljava/lang/Object;ILjava/lang/Object;II)V" } : Jvm.MethodName) ∈ zx_W := zx_in 464 (by decide +kernel) rfl
theorem zw_465 : Cond.static ({ cls := "java/lang/System", name := "arraycopy", desc := "(Ljava/lang/Object;ILjava/lang/Object;II)V" } : Jvm.MethodName) ∈ zx_W := zx_in 465 (by decide +kernel) rfl
theorem zw_466 : Cond.native ({ cls := "java/lang/System", name := "arraycopy", desc := "(Ljava/lang/Object;ILjava/lang/Object;II)V" } : Jvm.MethodName) ∈ zx_W := zx_in 466 (by decide +kernel) rfl
theorem zw_471 : Cond.methodLink "ValueBench" (95 : Nat) ({ cls := "ValueBench$Program", name := "endFits", desc := "(IIII)Z" } : Jvm.MethodName) ∈ zx_W := zx_in 471 (by decide +kernel) rfl
theorem zw_472 : Cond.static ({ cls := "ValueBench$Program", name := "endFits", desc := "(IIII)Z" } : Jvm.MethodName) ∈ zx_W := zx_in 472 (by decide +kernel) rfl
theorem zw_473 : Cond.code ({ cls := "ValueBench$Program", name := "endFits", desc := "(IIII)Z" } : Jvm.MethodName) prog_7_method_5_code (4 : Nat) (Option.some Jvm.ClassFile.FieldType.boolean) ∈ zx_W := zx_in 473 (by decide +kernel) rfl
theorem zw_474 : Cond.methodLink "ValueBench$Program" (43 : Nat) ({ cls := "ValueBench$Program", name := "isBlockNumber", desc := "(I)Z" } : Jvm.MethodName) ∈ zx_W := zx_in 474 (by decide +kernel) rfl
theorem zw_475 : Cond.static ({ cls := "ValueBench$Program", name := "isBlockNumber", desc := "(I)Z" } : Jvm.MethodName) ∈ zx_W := zx_in 475 (by decide +kernel) rfl
theorem zw_476 : Cond.code ({ cls := "ValueBench$Program", name := "isBlockNumber", desc := "(I)Z" } : Jvm.MethodName) prog_7_method_3_code (1 : Nat) (Option.some Jvm.ClassFile.FieldType.boolean) ∈ zx_W := zx_in 476 (by decide +kernel) rfl
theorem zw_477 : Cond.methodLink "ValueBench" (98 : Nat) ({ cls := "ValueBench$Program", name := "setEnd", desc := "(IIIII)V" } : Jvm.MethodName) ∈ zx_W := zx_in 477 (by decide +kernel) rfl
theorem zw_478 : Cond.instanceMethod ({ cls := "ValueBench$Program", name := "setEnd", desc := "(IIIII)V" } : Jvm.MethodName) ∈ zx_W := zx_in 478 (by decide +kernel) rfl
theorem zw_479 : Cond.selects "ValueBench$Program" ({ cls := "ValueBench$Program", name := "setEnd", desc := "(IIIII)V" } : Jvm.MethodName) ({ cls := "ValueBench$Program", name := "setEnd", desc := "(IIIII)V" } : Jvm.MethodName) ∈ zx_W := zx_in 479 (by decide +kernel) rfl
theorem zw_480 : Cond.code ({ cls := "ValueBench$Program", name := "setEnd", desc := "(IIIII)V" } : Jvm.MethodName) prog_7_method_10_code (6 : Nat) (Option.none : Option Jvm.ClassFile.FieldType) ∈ zx_W := zx_in 480 (by decide +kernel) rfl
theorem zw_485 : Cond.methodLink "ValueBench" (101 : Nat) ({ cls := "ValueBench$Program", name := "forget", desc := "()V" } : Jvm.MethodName) ∈ zx_W := zx_in 485 (by decide +kernel) rfl
theorem zw_486 : Cond.instanceMethod ({ cls := "ValueBench$Program", name := "forget", desc := "()V" } : Jvm.MethodName) ∈ zx_W := zx_in 486 (by decide +kernel) rfl
theorem zw_487 : Cond.selects "ValueBench$Program" ({ cls := "ValueBench$Program", name := "forget", desc := "()V" } : Jvm.MethodName) ({ cls := "ValueBench$Program", name := "forget", desc := "()V" } : Jvm.MethodName) ∈ zx_W := zx_in 487 (by decide +kernel) rfl
theorem zw_488 : Cond.code ({ cls := "ValueBench$Program", name := "forget", desc := "()V" } : Jvm.MethodName) prog_7_method_11_code (1 : Nat) (Option.none : Option Jvm.ClassFile.FieldType) ∈ zx_W := zx_in 488 (by decide +kernel) rfl
theorem zw_489 : Cond.methodLink "ValueBench$Program" (64 : Nat) ({ cls := "java/util/Arrays", name := "fill", desc := "([II)V" } : Jvm.MethodName) ∈ zx_W := zx_in 489 (by decide +kernel) rfl
theorem zw_490 : Cond.static ({ cls := "java/util/Arrays", name := "fill", desc := "([II)V" } : Jvm.MethodName) ∈ zx_W := zx_in 490 (by decide +kernel) rfl
theorem zw_491 : Cond.code ({ cls := "java/util/Arrays", name := "fill", desc := "([II)V" } : Jvm.MethodName) prog_16_method_103_code (4 : Nat) (Option.none : Option Jvm.ClassFile.FieldType) ∈ zx_W := zx_in 491 (by decide +kernel) rfl
theorem zw_496 : Cond.methodLink "ValueBench" (104 : Nat) ({ cls := "ValueBench", name := "refresh", desc := "()V" } : Jvm.MethodName) ∈ zx_W := zx_in 496 (by decide +kernel) rfl
theorem zw_498 : Cond.instanceMethod ({ cls := "ValueBench", name := "refresh", desc := "()V" } : Jvm.MethodName) ∈ zx_W := zx_in 498 (by decide +kernel) rfl
theorem zw_499 : Cond.code ({ cls := "ValueBench", name := "refresh", desc := "()V" } : Jvm.MethodName) prog_1_method_23_code (1 : Nat) (Option.none : Option Jvm.ClassFile.FieldType) ∈ zx_W := zx_in 499 (by decide +kernel) rfl
theorem zw_500 : Cond.methodLink "ValueBench" (240 : Nat) ({ cls := "ValueBench$Graph", name := "draw", desc := "(LValueBench$Program;)V" } : Jvm.MethodName) ∈ zx_W := zx_in 500 (by decide +kernel) rfl
theorem zw_501 : Cond.instanceMethod ({ cls := "ValueBench$Graph", name := "draw", desc := "(LValueBench$Program;)V" } : Jvm.MethodName) ∈ zx_W := zx_in 501 (by decide +kernel) rfl
theorem zw_502 : Cond.selects "ValueBench$Graph" ({ cls := "ValueBench$Graph", name := "draw", desc := "(LValueBench$Program;)V" } : Jvm.MethodName) ({ cls := "ValueBench$Graph", name := "draw", desc := "(LValueBench$Program;)V" } : Jvm.MethodName) ∈ zx_W := zx_in 502 (by decide +kernel) rfl
theorem zw_503 : Cond.code ({ cls := "ValueBench$Graph", name := "draw", desc := "(LValueBench$Program;)V" } : Jvm.MethodName) prog_4_method_9_code (3 : Nat) (Option.none : Option Jvm.ClassFile.FieldType) ∈ zx_W := zx_in 503 (by decide +kernel) rfl
theorem zw_504 : Cond.methodLink "ValueBench$Graph" (48 : Nat) ({ cls := "ValueBench$Program", name := "has", desc := "(I)Z" } : Jvm.MethodName) ∈ zx_W := zx_in 504 (by decide +kernel) rfl
theorem zw_505 : Cond.methodLink "ValueBench$Graph" (54 : Nat) ({ cls := "ValueBench$Program", name := "toldBlocks", desc := "(I)I" } : Jvm.MethodName) ∈ zx_W := zx_in 505 (by decide +kernel) rfl
theorem zw_506 : Cond.instanceMethod ({ cls := "ValueBench$Program", name := "toldBlocks", desc := "(I)I" } : Jvm.MethodName) ∈ zx_W := zx_in 506 (by decide +kernel) rfl
theorem zw_507 : Cond.selects "ValueBench$Program" ({ cls := "ValueBench$Program", name := "toldBlocks", desc := "(I)I" } : Jvm.MethodName) ({ cls := "ValueBench$Program", name := "toldBlocks", desc := "(I)I" } : Jvm.MethodName) ∈ zx_W := zx_in 507 (by decide +kernel) rfl
theorem zw_508 : Cond.code ({ cls := "ValueBench$Program", name := "toldBlocks", desc := "(I)I" } : Jvm.MethodName) prog_7_method_16_code (2 : Nat) (Option.some Jvm.ClassFile.FieldType.int) ∈ zx_W := zx_in 508 (by decide +kernel) rfl
theorem zw_509 : Cond.methodLink "ValueBench$Program" (76 : Nat) ({ cls := "ValueBench$Program", name := "howCounts", desc := "(I)I" } : Jvm.MethodName) ∈ zx_W := zx_in 509 (by decide +kernel) rfl
theorem zw_510 : Cond.instanceMethod ({ cls := "ValueBench$Program", name := "howCounts", desc := "(I)I" } : Jvm.MethodName) ∈ zx_W := zx_in 510 (by decide +kernel) rfl
theorem zw_511 : Cond.selects "ValueBench$Program" ({ cls := "ValueBench$Program", name := "howCounts", desc := "(I)I" } : Jvm.MethodName) ({ cls := "ValueBench$Program", name := "howCounts", desc := "(I)I" } : Jvm.MethodName) ∈ zx_W := zx_in 511 (by decide +kernel) rfl
theorem zw_512 : Cond.code ({ cls := "ValueBench$Program", name := "howCounts", desc := "(I)I" } : Jvm.MethodName) prog_7_method_13_code (2 : Nat) (Option.some Jvm.ClassFile.FieldType.int) ∈ zx_W := zx_in 512 (by decide +kernel) rfl
theorem zw_513 : Cond.methodLink "ValueBench$Program" (73 : Nat) ({ cls := "ValueBench$Program", name := "endCounts", desc := "(I)Z" } : Jvm.MethodName) ∈ zx_W := zx_in 513 (by decide +kernel) rfl
theorem zw_515 : Cond.instanceMethod ({ cls := "ValueBench$Program", name := "endCounts", desc := "(I)Z" } : Jvm.MethodName) ∈ zx_W := zx_in 515 (by decide +kernel) rfl
theorem zw_516 : Cond.code ({ cls := "ValueBench$Program", name := "endCounts", desc := "(I)Z" } : Jvm.MethodName) prog_7_method_12_code (2 : Nat) (Option.some Jvm.ClassFile.FieldType.boolean) ∈ zx_W := zx_in 516 (by decide +kernel) rfl
theorem zw_517 : Cond.methodLink "ValueBench$Program" (70 : Nat) ({ cls := "ValueBench$Program", name := "has", desc := "(I)Z" } : Jvm.MethodName) ∈ zx_W := zx_in 517 (by decide +kernel) rfl
theorem zw_518 : Cond.methodLink "ValueBench$Graph" (57 : Nat) ({ cls := "ValueBench$Graph", name := "closure", desc := "(I[II)I" } : Jvm.MethodName) ∈ zx_W := zx_in 518 (by decide +kernel) rfl
theorem zw_519 : Cond.static ({ cls := "ValueBench$Graph", name := "closure", desc := "(I[II)I" } : Jvm.MethodName) ∈ zx_W := zx_in 519 (by decide +kernel) rfl
theorem zw_520 : Cond.code ({ cls := "ValueBench$Graph", name := "closure", desc := "(I[II)I" } : Jvm.MethodName) prog_4_method_6_code (6 : Nat) (Option.some Jvm.ClassFile.FieldType.int) ∈ zx_W := zx_in 520 (by decide +kernel) rfl
theorem zw_521 : Cond.methodLink "ValueBench$Graph" (40 : Nat) ({ cls := "ValueBench$Graph", name := "union", desc := "(I[I)I" } : Jvm.MethodName) ∈ zx_W := zx_in 521 (by decide +kernel) rfl
theorem zw_522 : Cond.static ({ cls := "ValueBench$Graph", name := "union", desc := "(I[I)I" } : Jvm.MethodName) ∈ zx_W := zx_in 522 (by decide +kernel) rfl
theorem zw_523 : Cond.code ({ cls := "ValueBench$Graph", name := "union", desc := "(I[I)I" } : Jvm.MethodName) prog_4_method_5_code (4 : Nat) (Option.some Jvm.ClassFile.FieldType.int) ∈ zx_W := zx_in 523 (by decide +kernel) rfl
theorem zw_524 : Cond.methodLink "ValueBench$Graph" (30 : Nat) ({ cls := "ValueBench$Graph", name := "isIn", desc := "(II)Z" } : Jvm.MethodName) ∈ zx_W := zx_in 524 (by decide +kernel) rfl
theorem zw_525 : Cond.static ({ cls := "ValueBench$Graph", name := "isIn", desc := "(II)Z" } : Jvm.MethodName) ∈ zx_W := zx_in 525 (by decide +kernel) rfl
theorem zw_526 : Cond.code ({ cls := "ValueBench$Graph", name := "isIn", desc := "(II)Z" } : Jvm.MethodName) prog_4_method_2_code (2 : Nat) (Option.some Jvm.ClassFile.FieldType.boolean) ∈ zx_W := zx_in 526 (by decide +kernel) rfl
theorem zw_527 : Cond.methodLink "ValueBench$Graph" (61 : Nat) ({ cls := "ValueBench$Graph", name := "turnAround", desc := "([I[I)V" } : Jvm.MethodName) ∈ zx_W := zx_in 527 (by decide +kernel) rfl
theorem zw_528 : Cond.static ({ cls := "ValueBench$Graph", name := "turnAround", desc := "([I[I)V" } : Jvm.MethodName) ∈ zx_W := zx_in 528 (by decide +kernel) rfl
theorem zw_529 : Cond.code ({ cls := "ValueBench$Graph", name := "turnAround", desc := "([I[I)V" } : Jvm.MethodName) prog_4_method_7_code (4 : Nat) (Option.none : Option Jvm.ClassFile.FieldType) ∈ zx_W := zx_in 529 (by decide +kernel) rfl
theorem zw_530 : Cond.methodLink "ValueBench$Graph" (65 : Nat) ({ cls := "ValueBench$Graph", name := "parentOf", desc := "(I)I" } : Jvm.MethodName) ∈ zx_W := zx_in 530 (by decide +kernel) rfl
theorem zw_532 : Cond.instanceMethod ({ cls := "ValueBench$Graph", name := "parentOf", desc := "(I)I" } : Jvm.MethodName) ∈ zx_W := zx_in 532 (by decide +kernel) rfl
theorem zw_533 : Cond.code ({ cls := "ValueBench$Graph", name := "parentOf", desc := "(I)I" } : Jvm.MethodName) prog_4_method_10_code (4 : Nat) (Option.some Jvm.ClassFile.FieldType.int) ∈ zx_W := zx_in 533 (by decide +kernel) rfl
theorem zw_534 : Cond.methodLink "ValueBench$Graph" (68 : Nat) ({ cls := "ValueBench$Graph", name := "frontierOf", desc := "(I)I" } : Jvm.MethodName) ∈ zx_W := zx_in 534 (by decide +kernel) rfl
theorem zw_536 : Cond.instanceMethod ({ cls := "ValueBench$Graph", name := "frontierOf", desc := "(I)I" } : Jvm.MethodName) ∈ zx_W := zx_in 536 (by decide +kernel) rfl
theorem zw_537 : Cond.code ({ cls := "ValueBench$Graph", name := "frontierOf", desc := "(I)I" } : Jvm.MethodName) prog_4_method_11_code (5 : Nat) (Option.some Jvm.ClassFile.FieldType.int) ∈ zx_W := zx_in 537 (by decide +kernel) rfl
theorem zw_538 : Cond.methodLink "ValueBench" (243 : Nat) ({ cls := "ValueBench$Values", name := "make", desc := "(LValueBench$Program;LValueBench$Graph;)V" } : Jvm.MethodName) ∈ zx_W := zx_in 538 (by decide +kernel) rfl
theorem zw_539 : Cond.instanceMethod ({ cls := "ValueBench$Values", name := "make", desc := "(LValueBench$Program;LValueBench$Graph;)V" } : Jvm.MethodName) ∈ zx_W := zx_in 539 (by decide +kernel) rfl
theorem zw_540 : Cond.selects "ValueBench$Values" ({ cls := "ValueBench$Values", name := "make", desc := "(LValueBench$Program;LValueBench$Graph;)V" } : Jvm.MethodName) ({ cls := "ValueBench$Values", name := "make", desc := "(LValueBench$Program;LValueBench$Graph;)V" } : Jvm.MethodName) ∈ zx_W := zx_in 540 (by decide +kernel) rfl
theorem zw_541 : Cond.code ({ cls := "ValueBench$Values", name := "make", desc := "(LValueBench$Program;LValueBench$Graph;)V" } : Jvm.MethodName) prog_11_method_6_code (5 : Nat) (Option.none : Option Jvm.ClassFile.FieldType) ∈ zx_W := zx_in 541 (by decide +kernel) rfl
theorem zw_542 : Cond.methodLink "ValueBench$Values" (61 : Nat) ({ cls := "ValueBench$Values", name := "placeChoices", desc := "(LValueBench$Program;LValueBench$Graph;)V" } : Jvm.MethodName) ∈ zx_W := zx_in 542 (by decide +kernel) rfl
theorem zw_544 : Cond.instanceMethod ({ cls := "ValueBench$Values", name := "placeChoices", desc := "(LValueBench$Program;LValueBench$Graph;)V" } : Jvm.MethodName) ∈ zx_W := zx_in 544 (by decide +kernel) rfl
theorem zw_545 : Cond.code ({ cls := "ValueBench$Values", name := "placeChoices", desc := "(LValueBench$Program;LValueBench$Graph;)V" } : Jvm.MethodName) prog_11_method_7_code (6 : Nat) (Option.none : Option Jvm.ClassFile.FieldType) ∈ zx_W := zx_in 545 (by decide +kernel) rfl
theorem zw_546 : Cond.methodLink "ValueBench$Values" (93 : Nat) ({ cls := "ValueBench$Values", name := "givingBlocks", desc := "(LValueBench$Program;I)I" } : Jvm.MethodName) ∈ zx_W := zx_in 546 (by decide +kernel) rfl
theorem zw_547 : Cond.static ({ cls := "ValueBench$Values", name := "givingBlocks", desc := "(LValueBench$Program;I)I" } : Jvm.MethodName) ∈ zx_W := zx_in 547 (by decide +kernel) rfl
theorem zw_548 : Cond.code ({ cls := "ValueBench$Values", name := "givingBlocks", desc := "(LValueBench$Program;I)I" } : Jvm.MethodName) prog_11_method_8_code (5 : Nat) (Option.some Jvm.ClassFile.FieldType.int) ∈ zx_W := zx_in 548 (by decide +kernel) rfl
theorem zw_549 : Cond.methodLink "ValueBench$Values" (103 : Nat) ({ cls := "ValueBench$Graph", name := "closure", desc := "(I[II)I" } : Jvm.MethodName) ∈ zx_W := zx_in 549 (by decide +kernel) rfl
theorem zw_550 : Cond.methodLink "ValueBench$Values" (107 : Nat) ({ cls := "ValueBench$Graph", name := "union", desc := "(I[I)I" } : Jvm.MethodName) ∈ zx_W := zx_in 550 (by decide +kernel) rfl
theorem zw_551 : Cond.methodLink "ValueBench$Values" (65 : Nat) ({ cls := "ValueBench$Values", name := "numberAll", desc := "(LValueBench$Program;LValueBench$Graph;)V" } : Jvm.MethodName) ∈ zx_W := zx_in 551 (by decide +kernel) rfl
theorem zw_553 : Cond.instanceMethod ({ cls := "ValueBench$Values", name := "numberAll", desc := "(LValueBench$Program;LValueBench$Graph;)V" } : Jvm.MethodName) ∈ zx_W := zx_in 553 (by decide +kernel) rfl
theorem zw_554 : Cond.code ({ cls := "ValueBench$Values", name := "numberAll", desc := "(LValueBench$Program;LValueBench$Graph;)V" } : Jvm.MethodName) prog_11_method_9_code (4 : Nat) (Option.none : Option Jvm.ClassFile.FieldType) ∈ zx_W := zx_in 554 (by decide +kernel) rfl
theorem zw_555 : Cond.methodLink "ValueBench$Values" (119 : Nat) ({ cls := "java/util/Arrays", name := "fill", desc := "([II)V" } : Jvm.MethodName) ∈ zx_W := zx_in 555 (by decide +kernel) rfl
theorem zw_556 : Cond.methodLink "ValueBench$Values" (68 : Nat) ({ cls := "ValueBench$Graph", name := "reaches", desc := "(I)Z" } : Jvm.MethodName) ∈ zx_W := zx_in 556 (by decide +kernel) rfl
theorem zw_557 : Cond.instanceMethod ({ cls := "ValueBench$Graph", name := "reaches", desc := "(I)Z" } : Jvm.MethodName) ∈ zx_W := zx_in 557 (by decide +kernel) rfl
theorem zw_558 : Cond.selects "ValueBench$Graph" ({ cls := "ValueBench$Graph", name := "reaches", desc := "(I)Z" } : Jvm.MethodName) ({ cls := "ValueBench$Graph", name := "reaches", desc := "(I)Z" } : Jvm.MethodName) ∈ zx_W := zx_in 558 (by decide +kernel) rfl
theorem zw_559 : Cond.code ({ cls := "ValueBench$Graph", name := "reaches", desc := "(I)Z" } : Jvm.MethodName) prog_4_method_8_code (2 : Nat) (Option.some Jvm.ClassFile.FieldType.boolean) ∈ zx_W := zx_in 559 (by decide +kernel) rfl
theorem zw_560 : Cond.methodLink "ValueBench$Values" (125 : Nat) ({ cls := "ValueBench$Values", name := "add", desc := "(IIIII)V" } : Jvm.MethodName) ∈ zx_W := zx_in 560 (by decide +kernel) rfl
theorem zw_562 : Cond.instanceMethod ({ cls := "ValueBench$Values", name := "add", desc := "(IIIII)V" } : Jvm.MethodName) ∈ zx_W := zx_in 562 (by decide +kernel) rfl
theorem zw_563 : Cond.code ({ cls := "ValueBench$Values", name := "add", desc := "(IIIII)V" } : Jvm.MethodName) prog_11_method_12_code (6 : Nat) (Option.none : Option Jvm.ClassFile.FieldType) ∈ zx_W := zx_in 563 (by decide +kernel) rfl
theorem zw_564 : Cond.methodLink "ValueBench$Values" (129 : Nat) ({ cls := "ValueBench$Values", name := "numberChoices", desc := "(LValueBench$Graph;I)V" } : Jvm.MethodName) ∈ zx_W := zx_in 564 (by decide +kernel) rfl
theorem zw_566 : Cond.instanceMethod ({ cls := "ValueBench$Values", name := "numberChoices", desc := "(LValueBench$Graph;I)V" } : Jvm.MethodName) ∈ zx_W := zx_in 566 (by decide +kernel) rfl
theorem zw_567 : Cond.code ({ cls := "ValueBench$Values", name := "numberChoices", desc := "(LValueBench$Graph;I)V" } : Jvm.MethodName) prog_11_method_10_code (5 : Nat) (Option.none : Option Jvm.ClassFile.FieldType) ∈ zx_W := zx_in 567 (by decide +kernel) rfl
theorem zw_568 : Cond.methodLink "ValueBench$Values" (76 : Nat) ({ cls := "java/lang/Integer", name := "bitCount", desc := "(I)I" } : Jvm.MethodName) ∈ zx_W := zx_in 568 (by decide +kernel) rfl
theorem zw_569 : Cond.static ({ cls := "java/lang/Integer", name := "bitCount", desc := "(I)I" } : Jvm.MethodName) ∈ zx_W := zx_in 569 (by decide +kernel) rfl
theorem zw_570 : Cond.code ({ cls := "java/lang/Integer", name := "bitCount", desc := "(I)I" } : Jvm.MethodName) prog_14_method_49_code (1 : Nat) (Option.some Jvm.ClassFile.FieldType.int) ∈ zx_W := zx_in 570 (by decide +kernel) rfl
theorem zw_571 : Cond.constant "java/lang/Integer" (265 : Nat) (1431655765 : Int32) ∈ zx_W := zx_in 571 (by decide +kernel) rfl
theorem zw_572 : Cond.constant "java/lang/Integer" (266 : Nat) (858993459 : Int32) ∈ zx_W := zx_in 572 (by decide +kernel) rfl
theorem zw_573 : Cond.constant "java/lang/Integer" (267 : Nat) (252645135 : Int32) ∈ zx_W := zx_in 573 (by decide +kernel) rfl
theorem zw_574 : Cond.methodLink "ValueBench$Values" (138 : Nat) ({ cls := "ValueBench$Graph", name := "isIn", desc := "(II)Z" } : Jvm.MethodName) ∈ zx_W := zx_in 574 (by decide +kernel) rfl
theorem zw_575 : Cond.methodLink "ValueBench$Values" (132 : Nat) ({ cls := "ValueBench$Values", name := "numberInstructions", desc := "(LValueBench$Program;I)V" } : Jvm.MethodName) ∈ zx_W := zx_in 575 (by decide +kernel) rfl
theorem zw_577 : Cond.instanceMethod ({ cls := "ValueBench$Values", name := "numberInstructions", desc := "(LValueBench$Program;I)V" } : Jvm.MethodName) ∈ zx_W := zx_in 577 (by decide +kernel) rfl
theorem zw_578 : Cond.code ({ cls := "ValueBench$Values", name := "numberInstructions", desc := "(LValueBench$Program;I)V" } : Jvm.MethodName) prog_11_method_11_code (5 : Nat) (Option.none : Option Jvm.ClassFile.FieldType) ∈ zx_W := zx_in 578 (by decide +kernel) rfl
theorem zw_579 : Cond.methodLink "ValueBench$Values" (81 : Nat) ({ cls := "ValueBench$Values", name := "beginBlock", desc := "(LValueBench$Graph;I)V" } : Jvm.MethodName) ∈ zx_W := zx_in 579 (by decide +kernel) rfl
theorem zw_581 : Cond.instanceMethod ({ cls := "ValueBench$Values", name := "beginBlock", desc := "(LValueBench$Graph;I)V" } : Jvm.MethodName) ∈ zx_W := zx_in 581 (by decide +kernel) rfl
theorem zw_582 : Cond.code ({ cls := "ValueBench$Values", name := "beginBlock", desc := "(LValueBench$Graph;I)V" } : Jvm.MethodName) prog_11_method_13_code (6 : Nat) (Option.none : Option Jvm.ClassFile.FieldType) ∈ zx_W := zx_in 582 (by decide +kernel) rfl
theorem zw_583 : Cond.methodLink "ValueBench$Values" (85 : Nat) ({ cls := "ValueBench$Values", name := "followBlock", desc := "(LValueBench$Program;I)V" } : Jvm.MethodName) ∈ zx_W := zx_in 583 (by decide +kernel) rfl
theorem zw_585 : Cond.instanceMethod ({ cls := "ValueBench$Values", name := "followBlock", desc := "(LValueBench$Program;I)V" } : Jvm.MethodName) ∈ zx_W := zx_in 585 (by decide +kernel) rfl
theorem zw_586 : Cond.code ({ cls := "ValueBench$Values", name := "followBlock", desc := "(LValueBench$Program;I)V" } : Jvm.MethodName) prog_11_method_14_code (7 : Nat) (Option.none : Option Jvm.ClassFile.FieldType) ∈ zx_W := zx_in 586 (by decide +kernel) rfl
theorem zw_587 : Cond.methodLink "ValueBench$Values" (158 : Nat) ({ cls := "ValueBench$Program", name := "howCounts", desc := "(I)I" } : Jvm.MethodName) ∈ zx_W := zx_in 587 (by decide +kernel) rfl
theorem zw_588 : Cond.methodLink "ValueBench$Values" (164 : Nat) ({ cls := "ValueBench$Program", name := "endVariable", desc := "(I)I" } : Jvm.MethodName) ∈ zx_W := zx_in 588 (by decide +kernel) rfl
theorem zw_589 : Cond.instanceMethod ({ cls := "ValueBench$Program", name := "endVariable", desc := "(I)I" } : Jvm.MethodName) ∈ zx_W := zx_in 589 (by decide +kernel) rfl
theorem zw_590 : Cond.selects "ValueBench$Program" ({ cls := "ValueBench$Program", name := "endVariable", desc := "(I)I" } : Jvm.MethodName) ({ cls := "ValueBench$Program", name := "endVariable", desc := "(I)I" } : Jvm.MethodName) ∈ zx_W := zx_in 590 (by decide +kernel) rfl
theorem zw_591 : Cond.code ({ cls := "ValueBench$Program", name := "endVariable", desc := "(I)I" } : Jvm.MethodName) prog_7_method_14_code (2 : Nat) (Option.some Jvm.ClassFile.FieldType.int) ∈ zx_W := zx_in 591 (by decide +kernel) rfl
theorem zw_592 : Cond.methodLink "ValueBench$Values" (89 : Nat) ({ cls := "ValueBench$Values", name := "fillChoices", desc := "(LValueBench$Graph;)V" } : Jvm.MethodName) ∈ zx_W := zx_in 592 (by decide +kernel) rfl
theorem zw_594 : Cond.instanceMethod ({ cls := "ValueBench$Values", name := "fillChoices", desc := "(LValueBench$Graph;)V" } : Jvm.MethodName) ∈ zx_W := zx_in 594 (by decide +kernel) rfl
theorem zw_595 : Cond.code ({ cls := "ValueBench$Values", name := "fillChoices", desc := "(LValueBench$Graph;)V" } : Jvm.MethodName) prog_11_method_15_code (4 : Nat) (Option.none : Option Jvm.ClassFile.FieldType) ∈ zx_W := zx_in 595 (by decide +kernel) rfl
theorem zw_596 : Cond.methodLink "ValueBench$Values" (167 : Nat) ({ cls := "ValueBench$Values", name := "fillChoice", desc := "(II)V" } : Jvm.MethodName) ∈ zx_W := zx_in 596 (by decide +kernel) rfl
theorem zw_598 : Cond.instanceMethod ({ cls := "ValueBench$Values", name := "fillChoice", desc := "(II)V" } : Jvm.MethodName) ∈ zx_W := zx_in 598 (by decide +kernel) rfl
theorem zw_599 : Cond.code ({ cls := "ValueBench$Values", name := "fillChoice", desc := "(II)V" } : Jvm.MethodName) prog_11_method_16_code (5 : Nat) (Option.none : Option Jvm.ClassFile.FieldType) ∈ zx_W := zx_in 599 (by decide +kernel) rfl
theorem zw_600 : Cond.methodLink "ValueBench" (247 : Nat) ({ cls := "ValueBench$Classes", name := "part", desc := "(LValueBench$Values;)V" } : Jvm.MethodName) ∈ zx_W := zx_in 600 (by decide +kernel) rfl
theorem zw_601 : Cond.instanceMethod ({ cls := "ValueBench$Classes", name := "part", desc := "(LValueBench$Values;)V" } : Jvm.MethodName) ∈ zx_W := zx_in 601 (by decide +kernel) rfl
theorem zw_602 : Cond.selects "ValueBench$Classes" ({ cls := "ValueBench$Classes", name := "part", desc := "(LValueBench$Values;)V" } : Jvm.MethodName) ({ cls := "ValueBench$Classes", name := "part", desc := "(LValueBench$Values;)V" } : Jvm.MethodName) ∈ zx_W := zx_in 602 (by decide +kernel) rfl
theorem zw_603 : Cond.code ({ cls := "ValueBench$Classes", name := "part", desc := "(LValueBench$Values;)V" } : Jvm.MethodName) prog_2_method_2_code (4 : Nat) (Option.none : Option Jvm.ClassFile.FieldType) ∈ zx_W := zx_in 603 (by decide +kernel) rfl
theorem zw_604 : Cond.methodLink "ValueBench$Classes" (24 : Nat) ({ cls := "ValueBench$Classes", name := "leastAlike", desc := "(LValueBench$Values;I)I" } : Jvm.MethodName) ∈ zx_W := zx_in 604 (by decide +kernel) rfl
theorem zw_606 : Cond.instanceMethod ({ cls := "ValueBench$Classes", name := "leastAlike", desc := "(LValueBench$Values;I)I" } : Jvm.MethodName) ∈ zx_W := zx_in 606 (by decide +kernel) rfl
theorem zw_607 : Cond.code ({ cls := "ValueBench$Classes", name := "leastAlike", desc := "(LValueBench$Values;I)I" } : Jvm.MethodName) prog_2_method_3_code (4 : Nat) (Option.some Jvm.ClassFile.FieldType.int) ∈ zx_W := zx_in 607 (by decide +kernel) rfl
theorem zw_608 : Cond.methodLink "ValueBench$Classes" (33 : Nat) ({ cls := "ValueBench$Classes", name := "alike", desc := "(LValueBench$Values;II)Z" } : Jvm.MethodName) ∈ zx_W := zx_in 608 (by decide +kernel) rfl
theorem zw_609 : Cond.static ({ cls := "ValueBench$Classes", name := "alike", desc := "(LValueBench$Values;II)Z" } : Jvm.MethodName) ∈ zx_W := zx_in 609 (by decide +kernel) rfl
theorem zw_610 : Cond.code ({ cls := "ValueBench$Classes", name := "alike", desc := "(LValueBench$Values;II)Z" } : Jvm.MethodName) prog_2_method_4_code (3 : Nat) (Option.some Jvm.ClassFile.FieldType.boolean) ∈ zx_W := zx_in 610 (by decide +kernel) rfl
theorem zw_611 : Cond.methodLink "ValueBench$Classes" (28 : Nat) ({ cls := "ValueBench$Classes", name := "partFiner", desc := "(LValueBench$Values;)Z" } : Jvm.MethodName) ∈ zx_W := zx_in 611 (by decide +kernel) rfl
theorem zw_613 : Cond.instanceMethod ({ cls := "ValueBench$Classes", name := "partFiner", desc := "(LValueBench$Values;)Z" } : Jvm.MethodName) ∈ zx_W := zx_in 613 (by decide +kernel) rfl
theorem zw_614 : Cond.code ({ cls := "ValueBench$Classes", name := "partFiner", desc := "(LValueBench$Values;)Z" } : Jvm.MethodName) prog_2_method_5_code (4 : Nat) (Option.some Jvm.ClassFile.FieldType.boolean) ∈ zx_W := zx_in 614 (by decide +kernel) rfl
theorem zw_615 : Cond.methodLink "ValueBench$Classes" (46 : Nat) ({ cls := "ValueBench$Classes", name := "leastTogether", desc := "(LValueBench$Values;I)I" } : Jvm.MethodName) ∈ zx_W := zx_in 615 (by decide +kernel) rfl
theorem zw_617 : Cond.instanceMethod ({ cls := "ValueBench$Classes", name := "leastTogether", desc := "(LValueBench$Values;I)I" } : Jvm.MethodName) ∈ zx_W := zx_in 617 (by decide +kernel) rfl
theorem zw_618 : Cond.code ({ cls := "ValueBench$Classes", name := "leastTogether", desc := "(LValueBench$Values;I)I" } : Jvm.MethodName) prog_2_method_6_code (4 : Nat) (Option.some Jvm.ClassFile.FieldType.int) ∈ zx_W := zx_in 618 (by decide +kernel) rfl
theorem zw_619 : Cond.methodLink "ValueBench$Classes" (55 : Nat) ({ cls := "ValueBench$Classes", name := "operandsAgree", desc := "(LValueBench$Values;II)Z" } : Jvm.MethodName) ∈ zx_W := zx_in 619 (by decide +kernel) rfl
theorem zw_621 : Cond.instanceMethod ({ cls := "ValueBench$Classes", name := "operandsAgree", desc := "(LValueBench$Values;II)Z" } : Jvm.MethodName) ∈ zx_W := zx_in 621 (by decide +kernel) rfl
theorem zw_622 : Cond.code ({ cls := "ValueBench$Classes", name := "operandsAgree", desc := "(LValueBench$Values;II)Z" } : Jvm.MethodName) prog_2_method_7_code (9 : Nat) (Option.some Jvm.ClassFile.FieldType.boolean) ∈ zx_W := zx_in 622 (by decide +kernel) rfl
theorem zw_623 : Cond.methodLink "ValueBench$Classes" (61 : Nat) ({ cls := "ValueBench$Values", name := "operandsOf", desc := "(I)I" } : Jvm.MethodName) ∈ zx_W := zx_in 623 (by decide +kernel) rfl
theorem zw_624 : Cond.instanceMethod ({ cls := "ValueBench$Values", name := "operandsOf", desc := "(I)I" } : Jvm.MethodName) ∈ zx_W := zx_in 624 (by decide +kernel) rfl
theorem zw_625 : Cond.selects "ValueBench$Values" ({ cls := "ValueBench$Values", name := "operandsOf", desc := "(I)I" } : Jvm.MethodName) ({ cls := "ValueBench$Values", name := "operandsOf", desc := "(I)I" } : Jvm.MethodName) ∈ zx_W := zx_in 625 (by decide +kernel) rfl
theorem zw_626 : Cond.code ({ cls := "ValueBench$Values", name := "operandsOf", desc := "(I)I" } : Jvm.MethodName) prog_11_method_3_code (2 : Nat) (Option.some Jvm.ClassFile.FieldType.int) ∈ zx_W := zx_in 626 (by decide +kernel) rfl
theorem zw_627 : Cond.methodLink "ValueBench$Classes" (65 : Nat) ({ cls := "ValueBench$Classes", name := "together", desc := "(LValueBench$Values;II)Z" } : Jvm.MethodName) ∈ zx_W := zx_in 627 (by decide +kernel) rfl
theorem zw_629 : Cond.instanceMethod ({ cls := "ValueBench$Classes", name := "together", desc := "(LValueBench$Values;II)Z" } : Jvm.MethodName) ∈ zx_W := zx_in 629 (by decide +kernel) rfl
theorem zw_630 : Cond.code ({ cls := "ValueBench$Classes", name := "together", desc := "(LValueBench$Values;II)Z" } : Jvm.MethodName) prog_2_method_8_code (4 : Nat) (Option.some Jvm.ClassFile.FieldType.boolean) ∈ zx_W := zx_in 630 (by decide +kernel) rfl
theorem zw_631 : Cond.methodLink "ValueBench$Classes" (68 : Nat) ({ cls := "ValueBench$Classes", name := "isEven", desc := "(I)Z" } : Jvm.MethodName) ∈ zx_W := zx_in 631 (by decide +kernel) rfl
theorem zw_632 : Cond.static ({ cls := "ValueBench$Classes", name := "isEven", desc := "(I)Z" } : Jvm.MethodName) ∈ zx_W := zx_in 632 (by decide +kernel) rfl
theorem zw_633 : Cond.code ({ cls := "ValueBench$Classes", name := "isEven", desc := "(I)Z" } : Jvm.MethodName) prog_2_method_9_code (1 : Nat) (Option.some Jvm.ClassFile.FieldType.boolean) ∈ zx_W := zx_in 633 (by decide +kernel) rfl
theorem zw_634 : Cond.methodLink "ValueBench$Classes" (49 : Nat) ({ cls := "java/lang/System", name := "arraycopy", desc := "(Ljava/lang/Object;ILjava/lang/Object;II)V" } : Jvm.MethodName) ∈ zx_W := zx_in 634 (by decide +kernel) rfl
theorem zw_635 : Cond.methodLink "ValueBench" (251 : Nat) ({ cls := "ValueBench$Leaders", name := "lead", desc := "(LValueBench$Program;LValueBench$Graph;LValueBench$Values;LValueBench$Classes;)V" } : Jvm.MethodName) ∈ zx_W := zx_in 635 (by decide +kernel) rfl
theorem zw_636 : Cond.instanceMethod ({ cls := "ValueBench$Leaders", name := "lead", desc := "(LValueBench$Program;LValueBench$Graph;LValueBench$Values;LValueBench$Classes;)V" } : Jvm.MethodName) ∈ zx_W := zx_in 636 (by decide +kernel) rfl
theorem zw_637 : Cond.selects "ValueBench$Leaders" ({ cls := "ValueBench$Leaders", name := "lead", desc := "(LValueBench$Program;LValueBench$Graph;LValueBench$Values;LValueBench$Classes;)V" } : Jvm.MethodName) ({ cls := "ValueBench$Leaders", name := "lead", desc := "(LValueBench$Program;LValueBench$Graph;LValueBench$Values;LValueBench$Classes;)V" } : Jvm.MethodName) ∈ zx_W := zx_in 637 (by decide +kernel) rfl
theorem zw_638 : Cond.code ({ cls := "ValueBench$Leaders", name := "lead", desc := "(LValueBench$Program;LValueBench$Graph;LValueBench$Values;LValueBench$Classes;)V" } : Jvm.MethodName) prog_5_method_2_code (7 : Nat) (Option.none : Option Jvm.ClassFile.FieldType) ∈ zx_W := zx_in 638 (by decide +kernel) rfl
theorem zw_639 : Cond.methodLink "ValueBench$Leaders" (31 : Nat) ({ cls := "ValueBench$Leaders", name := "isLed", desc := "(LValueBench$Graph;LValueBench$Values;LValueBench$Classes;I)Z" } : Jvm.MethodName) ∈ zx_W := zx_in 639 (by decide +kernel) rfl
theorem zw_640 : Cond.static ({ cls := "ValueBench$Leaders", name := "isLed", desc := "(LValueBench$Graph;LValueBench$Values;LValueBench$Classes;I)Z" } : Jvm.MethodName) ∈ zx_W := zx_in 640 (by decide +kernel) rfl
theorem zw_641 : Cond.code ({ cls := "ValueBench$Leaders", name := "isLed", desc := "(LValueBench$Graph;LValueBench$Values;LValueBench$Classes;I)Z" } : Jvm.MethodName) prog_5_method_3_code (7 : Nat) (Option.some Jvm.ClassFile.FieldType.boolean) ∈ zx_W := zx_in 641 (by decide +kernel) rfl
theorem zw_642 : Cond.methodLink "ValueBench$Leaders" (69 : Nat) ({ cls := "ValueBench$Graph", name := "isIn", desc := "(II)Z" } : Jvm.MethodName) ∈ zx_W := zx_in 642 (by decide +kernel) rfl
theorem zw_643 : Cond.methodLink "ValueBench$Leaders" (35 : Nat) ({ cls := "ValueBench$Leaders", name := "leadOperands", desc := "(LValueBench$Graph;LValueBench$Values;LValueBench$Classes;I)V" } : Jvm.MethodName) ∈ zx_W := zx_in 643 (by decide +kernel) rfl
theorem zw_645 : Cond.instanceMethod ({ cls := "ValueBench$Leaders", name := "leadOperands", desc := "(LValueBench$Graph;LValueBench$Values;LValueBench$Classes;I)V" } : Jvm.MethodName) ∈ zx_W := zx_in 645 (by decide +kernel) rfl
theorem zw_646 : Cond.code ({ cls := "ValueBench$Leaders", name := "leadOperands", desc := "(LValueBench$Graph;LValueBench$Values;LValueBench$Classes;I)V" } : Jvm.MethodName) prog_5_method_5_code (10 : Nat) (Option.none : Option Jvm.ClassFile.FieldType) ∈ zx_W := zx_in 646 (by decide +kernel) rfl
theorem zw_647 : Cond.methodLink "ValueBench$Leaders" (76 : Nat) ({ cls := "ValueBench$Values", name := "operandsOf", desc := "(I)I" } : Jvm.MethodName) ∈ zx_W := zx_in 647 (by decide +kernel) rfl
theorem zw_648 : Cond.methodLink "ValueBench$Leaders" (86 : Nat) ({ cls := "ValueBench$Graph", name := "nthOf", desc := "(II)I" } : Jvm.MethodName) ∈ zx_W := zx_in 648 (by decide +kernel) rfl
theorem zw_649 : Cond.static ({ cls := "ValueBench$Graph", name := "nthOf", desc := "(II)I" } : Jvm.MethodName) ∈ zx_W := zx_in 649 (by decide +kernel) rfl
theorem zw_650 : Cond.code ({ cls := "ValueBench$Graph", name := "nthOf", desc := "(II)I" } : Jvm.MethodName) prog_4_method_3_code (4 : Nat) (Option.some Jvm.ClassFile.FieldType.int) ∈ zx_W := zx_in 650 (by decide +kernel) rfl
theorem zw_651 : Cond.methodLink "ValueBench$Leaders" (54 : Nat) ({ cls := "ValueBench$Leaders", name := "leader", desc := "(LValueBench$Graph;LValueBench$Values;LValueBench$Classes;II)I" } : Jvm.MethodName) ∈ zx_W := zx_in 651 (by decide +kernel) rfl
theorem zw_653 : Cond.instanceMethod ({ cls := "ValueBench$Leaders", name := "leader", desc := "(LValueBench$Graph;LValueBench$Values;LValueBench$Classes;II)I" } : Jvm.MethodName) ∈ zx_W := zx_in 653 (by decide +kernel) rfl
theorem zw_654 : Cond.code ({ cls := "ValueBench$Leaders", name := "leader", desc := "(LValueBench$Graph;LValueBench$Values;LValueBench$Classes;II)I" } : Jvm.MethodName) prog_5_method_4_code (8 : Nat) (Option.some Jvm.ClassFile.FieldType.int) ∈ zx_W := zx_in 654 (by decide +kernel) rfl
theorem zw_655 : Cond.methodLink "ValueBench$Leaders" (39 : Nat) ({ cls := "ValueBench$Graph", name := "reaches", desc := "(I)Z" } : Jvm.MethodName) ∈ zx_W := zx_in 655 (by decide +kernel) rfl
theorem zw_656 : Cond.methodLink "ValueBench$Leaders" (45 : Nat) ({ cls := "ValueBench$Leaders", name := "leadEmits", desc := "(LValueBench$Program;LValueBench$Graph;LValueBench$Values;LValueBench$Classes;I)V" } : Jvm.MethodName) ∈ zx_W := zx_in 656 (by decide +kernel) rfl
theorem zw_658 : Cond.instanceMethod ({ cls := "ValueBench$Leaders", name := "leadEmits", desc := "(LValueBench$Program;LValueBench$Graph;LValueBench$Values;LValueBench$Classes;I)V" } : Jvm.MethodName) ∈ zx_W := zx_in 658 (by decide +kernel) rfl
theorem zw_659 : Cond.code ({ cls := "ValueBench$Leaders", name := "leadEmits", desc := "(LValueBench$Program;LValueBench$Graph;LValueBench$Values;LValueBench$Classes;I)V" } : Jvm.MethodName) prog_5_method_6_code (7 : Nat) (Option.none : Option Jvm.ClassFile.FieldType) ∈ zx_W := zx_in 659 (by decide +kernel) rfl
theorem zw_660 : Cond.methodLink "ValueBench" (107 : Nat) ({ cls := "ValueBench$Graph", name := "reaches", desc := "(I)Z" } : Jvm.MethodName) ∈ zx_W := zx_in 660 (by decide +kernel) rfl
theorem zw_661 : Cond.methodLink "ValueBench" (114 : Nat) ({ cls := "ValueBench$Program", name := "howCounts", desc := "(I)I" } : Jvm.MethodName) ∈ zx_W := zx_in 661 (by decide +kernel) rfl
theorem zw_662 : Cond.methodLink "ValueBench" (118 : Nat) ({ cls := "ValueBench", name := "aboutReached", desc := "(II)I" } : Jvm.MethodName) ∈ zx_W := zx_in 662 (by decide +kernel) rfl
theorem zw_664 : Cond.instanceMethod ({ cls := "ValueBench", name := "aboutReached", desc := "(II)I" } : Jvm.MethodName) ∈ zx_W := zx_in 664 (by decide +kernel) rfl
theorem zw_665 : Cond.code ({ cls := "ValueBench", name := "aboutReached", desc := "(II)I" } : Jvm.MethodName) prog_1_method_7_code (3 : Nat) (Option.some Jvm.ClassFile.FieldType.int) ∈ zx_W := zx_in 665 (by decide +kernel) rfl
theorem zw_666 : Cond.methodLink "ValueBench" (128 : Nat) ({ cls := "java/lang/Integer", name := "bitCount", desc := "(I)I" } : Jvm.MethodName) ∈ zx_W := zx_in 666 (by decide +kernel) rfl
theorem zw_671 : Cond.methodLink "ValueBench" (139 : Nat) ({ cls := "ValueBench$Graph", name := "nthOf", desc := "(II)I" } : Jvm.MethodName) ∈ zx_W := zx_in 671 (by decide +kernel) rfl
theorem zw_676 : Cond.methodLink "ValueBench" (145 : Nat) ({ cls := "ValueBench$Graph", name := "isIn", desc := "(II)Z" } : Jvm.MethodName) ∈ zx_W := zx_in 676 (by decide +kernel) rfl
theorem zw_685 : Cond.methodLink "ValueBench" (149 : Nat) ({ cls := "ValueBench$Values", name := "has", desc := "(I)Z" } : Jvm.MethodName) ∈ zx_W := zx_in 685 (by decide +kernel) rfl
theorem zw_686 : Cond.instanceMethod ({ cls := "ValueBench$Values", name := "has", desc := "(I)Z" } : Jvm.MethodName) ∈ zx_W := zx_in 686 (by decide +kernel) rfl
theorem zw_687 : Cond.selects "ValueBench$Values" ({ cls := "ValueBench$Values", name := "has", desc := "(I)Z" } : Jvm.MethodName) ({ cls := "ValueBench$Values", name := "has", desc := "(I)Z" } : Jvm.MethodName) ∈ zx_W := zx_in 687 (by decide +kernel) rfl
theorem zw_688 : Cond.code ({ cls := "ValueBench$Values", name := "has", desc := "(I)Z" } : Jvm.MethodName) prog_11_method_2_code (2 : Nat) (Option.some Jvm.ClassFile.FieldType.boolean) ∈ zx_W := zx_in 688 (by decide +kernel) rfl
theorem zw_689 : Cond.methodLink "ValueBench" (166 : Nat) ({ cls := "ValueBench$Values", name := "operandsOf", desc := "(I)I" } : Jvm.MethodName) ∈ zx_W := zx_in 689 (by decide +kernel) rfl
theorem zw_694 : Cond.methodLink "ValueBench" (172 : Nat) ({ cls := "ValueBench$Values", name := "hasOperand", desc := "(II)Z" } : Jvm.MethodName) ∈ zx_W := zx_in 694 (by decide +kernel) rfl
theorem zw_695 : Cond.instanceMethod ({ cls := "ValueBench$Values", name := "hasOperand", desc := "(II)Z" } : Jvm.MethodName) ∈ zx_W := zx_in 695 (by decide +kernel) rfl
theorem zw_696 : Cond.selects "ValueBench$Values" ({ cls := "ValueBench$Values", name := "hasOperand", desc := "(II)Z" } : Jvm.MethodName) ({ cls := "ValueBench$Values", name := "hasOperand", desc := "(II)Z" } : Jvm.MethodName) ∈ zx_W := zx_in 696 (by decide +kernel) rfl
theorem zw_697 : Cond.code ({ cls := "ValueBench$Values", name := "hasOperand", desc := "(II)Z" } : Jvm.MethodName) prog_11_method_4_code (3 : Nat) (Option.some Jvm.ClassFile.FieldType.boolean) ∈ zx_W := zx_in 697 (by decide +kernel) rfl
theorem zw_698 : Cond.methodLink "ValueBench$Values" (53 : Nat) ({ cls := "ValueBench$Values", name := "has", desc := "(I)Z" } : Jvm.MethodName) ∈ zx_W := zx_in 698 (by decide +kernel) rfl
theorem zw_699 : Cond.methodLink "ValueBench$Values" (57 : Nat) ({ cls := "ValueBench$Values", name := "operandsOf", desc := "(I)I" } : Jvm.MethodName) ∈ zx_W := zx_in 699 (by decide +kernel) rfl
theorem zw_712 : Cond.methodLink "ValueBench" (188 : Nat) ({ cls := "ValueBench", name := "readsOf", desc := "(Z)LValueBench$Reads;" } : Jvm.MethodName) ∈ zx_W := zx_in 712 (by decide +kernel) rfl
theorem zw_714 : Cond.instanceMethod ({ cls := "ValueBench", name := "readsOf", desc := "(Z)LValueBench$Reads;" } : Jvm.MethodName) ∈ zx_W := zx_in 714 (by decide +kernel) rfl
theorem zw_715 : Cond.code ({ cls := "ValueBench", name := "readsOf", desc := "(Z)LValueBench$Reads;" } : Jvm.MethodName) prog_1_method_17_code (2 : Nat) (Option.some (Jvm.ClassFile.FieldType.object "ValueBench$Reads")) ∈ zx_W := zx_in 715 (by decide +kernel) rfl
theorem zw_720 : Cond.methodLink "ValueBench" (195 : Nat) ({ cls := "ValueBench$Program", name := "nthEmit", desc := "(II)I" } : Jvm.MethodName) ∈ zx_W := zx_in 720 (by decide +kernel) rfl
theorem zw_721 : Cond.instanceMethod ({ cls := "ValueBench$Program", name := "nthEmit", desc := "(II)I" } : Jvm.MethodName) ∈ zx_W := zx_in 721 (by decide +kernel) rfl
theorem zw_722 : Cond.selects "ValueBench$Program" ({ cls := "ValueBench$Program", name := "nthEmit", desc := "(II)I" } : Jvm.MethodName) ({ cls := "ValueBench$Program", name := "nthEmit", desc := "(II)I" } : Jvm.MethodName) ∈ zx_W := zx_in 722 (by decide +kernel) rfl
theorem zw_723 : Cond.code ({ cls := "ValueBench$Program", name := "nthEmit", desc := "(II)I" } : Jvm.MethodName) prog_7_method_17_code (5 : Nat) (Option.some Jvm.ClassFile.FieldType.int) ∈ zx_W := zx_in 723 (by decide +kernel) rfl
theorem zw_728 : Cond.methodLink "ValueBench" (201 : Nat) ({ cls := "ValueBench$Machine", name := "takeInputs", desc := "(IIII)V" } : Jvm.MethodName) ∈ zx_W := zx_in 728 (by decide +kernel) rfl
theorem zw_729 : Cond.instanceMethod ({ cls := "ValueBench$Machine", name := "takeInputs", desc := "(IIII)V" } : Jvm.MethodName) ∈ zx_W := zx_in 729 (by decide +kernel) rfl
theorem zw_730 : Cond.selects "ValueBench$Machine" ({ cls := "ValueBench$Machine", name := "takeInputs", desc := "(IIII)V" } : Jvm.MethodName) ({ cls := "ValueBench$Machine", name := "takeInputs", desc := "(IIII)V" } : Jvm.MethodName) ∈ zx_W := zx_in 730 (by decide +kernel) rfl
theorem zw_731 : Cond.code ({ cls := "ValueBench$Machine", name := "takeInputs", desc := "(IIII)V" } : Jvm.MethodName) prog_6_method_2_code (5 : Nat) (Option.none : Option Jvm.ClassFile.FieldType) ∈ zx_W := zx_in 731 (by decide +kernel) rfl
theorem zw_732 : Cond.methodLink "ValueBench" (205 : Nat) ({ cls := "ValueBench$Machine", name := "perform", desc := "(LValueBench$Form;)I" } : Jvm.MethodName) ∈ zx_W := zx_in 732 (by decide +kernel) rfl
theorem zw_733 : Cond.instanceMethod ({ cls := "ValueBench$Machine", name := "perform", desc := "(LValueBench$Form;)I" } : Jvm.MethodName) ∈ zx_W := zx_in 733 (by decide +kernel) rfl
theorem zw_734 : Cond.selects "ValueBench$Machine" ({ cls := "ValueBench$Machine", name := "perform", desc := "(LValueBench$Form;)I" } : Jvm.MethodName) ({ cls := "ValueBench$Machine", name := "perform", desc := "(LValueBench$Form;)I" } : Jvm.MethodName) ∈ zx_W := zx_in 734 (by decide +kernel) rfl
theorem zw_735 : Cond.code ({ cls := "ValueBench$Machine", name := "perform", desc := "(LValueBench$Form;)I" } : Jvm.MethodName) prog_6_method_3_code (6 : Nat) (Option.some Jvm.ClassFile.FieldType.int) ∈ zx_W := zx_in 735 (by decide +kernel) rfl
theorem zw_736 : Cond.methodLink "ValueBench$Machine" (38 : Nat) ({ cls := "ValueBench$Form", name := "begin", desc := "(II)V" } : Jvm.MethodName) ∈ zx_W := zx_in 736 (by decide +kernel) rfl
theorem zw_738 : Cond.sameMethod "ValueBench$Form" "ValueBench$Form" "begin" "(II)V" ∈ zx_W := zx_in 738 (by decide +kernel) rfl
theorem zw_739 : Cond.selects "ValueBench$ToldForm" ({ cls := "ValueBench$Form", name := "begin", desc := "(II)V" } : Jvm.MethodName) ({ cls := "ValueBench$ToldForm", name := "begin", desc := "(II)V" } : Jvm.MethodName) ∈ zx_W := zx_in 739 (by decide +kernel) rfl
theorem zw_740 : Cond.instanceMethod ({ cls := "ValueBench$ToldForm", name := "begin", desc := "(II)V" } : Jvm.MethodName) ∈ zx_W := zx_in 740 (by decide +kernel) rfl
theorem zw_741 : Cond.code ({ cls := "ValueBench$ToldForm", name := "begin", desc := "(II)V" } : Jvm.MethodName) prog_9_method_2_code (3 : Nat) (Option.none : Option Jvm.ClassFile.FieldType) ∈ zx_W := zx_in 741 (by decide +kernel) rfl
theorem zw_742 : Cond.methodLink "ValueBench$ToldForm" (19 : Nat) ({ cls := "java/util/Arrays", name := "fill", desc := "([II)V" } : Jvm.MethodName) ∈ zx_W := zx_in 742 (by decide +kernel) rfl
theorem zw_743 : Cond.selects "ValueBench$ValueForm" ({ cls := "ValueBench$Form", name := "begin", desc := "(II)V" } : Jvm.MethodName) ({ cls := "ValueBench$ValueForm", name := "begin", desc := "(II)V" } : Jvm.MethodName) ∈ zx_W := zx_in 743 (by decide +kernel) rfl
theorem zw_744 : Cond.instanceMethod ({ cls := "ValueBench$ValueForm", name := "begin", desc := "(II)V" } : Jvm.MethodName) ∈ zx_W := zx_in 744 (by decide +kernel) rfl
theorem zw_745 : Cond.code ({ cls := "ValueBench$ValueForm", name := "begin", desc := "(II)V" } : Jvm.MethodName) prog_10_method_3_code (8 : Nat) (Option.none : Option Jvm.ClassFile.FieldType) ∈ zx_W := zx_in 745 (by decide +kernel) rfl
theorem zw_746 : Cond.methodLink "ValueBench$ValueForm" (56 : Nat) ({ cls := "java/lang/Integer", name := "bitCount", desc := "(I)I" } : Jvm.MethodName) ∈ zx_W := zx_in 746 (by decide +kernel) rfl
theorem zw_747 : Cond.methodLink "ValueBench$ValueForm" (62 : Nat) ({ cls := "ValueBench$Graph", name := "placeIn", desc := "(II)I" } : Jvm.MethodName) ∈ zx_W := zx_in 747 (by decide +kernel) rfl
theorem zw_748 : Cond.static ({ cls := "ValueBench$Graph", name := "placeIn", desc := "(II)I" } : Jvm.MethodName) ∈ zx_W := zx_in 748 (by decide +kernel) rfl
theorem zw_749 : Cond.code ({ cls := "ValueBench$Graph", name := "placeIn", desc := "(II)I" } : Jvm.MethodName) prog_4_method_4_code (2 : Nat) (Option.some Jvm.ClassFile.FieldType.int) ∈ zx_W := zx_in 749 (by decide +kernel) rfl
theorem zw_750 : Cond.methodLink "ValueBench$Graph" (34 : Nat) ({ cls := "java/lang/Integer", name := "bitCount", desc := "(I)I" } : Jvm.MethodName) ∈ zx_W := zx_in 750 (by decide +kernel) rfl
theorem zw_751 : Cond.methodLink "ValueBench$ValueForm" (66 : Nat) ({ cls := "ValueBench$ValueForm", name := "goes", desc := "(I)Z" } : Jvm.MethodName) ∈ zx_W := zx_in 751 (by decide +kernel) rfl
theorem zw_753 : Cond.instanceMethod ({ cls := "ValueBench$ValueForm", name := "goes", desc := "(I)Z" } : Jvm.MethodName) ∈ zx_W := zx_in 753 (by decide +kernel) rfl
theorem zw_754 : Cond.code ({ cls := "ValueBench$ValueForm", name := "goes", desc := "(I)Z" } : Jvm.MethodName) prog_10_method_2_code (2 : Nat) (Option.some Jvm.ClassFile.FieldType.boolean) ∈ zx_W := zx_in 754 (by decide +kernel) rfl
theorem zw_755 : Cond.methodLink "ValueBench$Machine" (44 : Nat) ({ cls := "ValueBench$Machine", name := "followBlock", desc := "(LValueBench$Form;)Z" } : Jvm.MethodName) ∈ zx_W := zx_in 755 (by decide +kernel) rfl
theorem zw_757 : Cond.instanceMethod ({ cls := "ValueBench$Machine", name := "followBlock", desc := "(LValueBench$Form;)Z" } : Jvm.MethodName) ∈ zx_W := zx_in 757 (by decide +kernel) rfl
theorem zw_758 : Cond.code ({ cls := "ValueBench$Machine", name := "followBlock", desc := "(LValueBench$Form;)Z" } : Jvm.MethodName) prog_6_method_5_code (3 : Nat) (Option.some Jvm.ClassFile.FieldType.boolean) ∈ zx_W := zx_in 758 (by decide +kernel) rfl
theorem zw_759 : Cond.methodLink "ValueBench$Machine" (71 : Nat) ({ cls := "ValueBench$Form", name := "keeps", desc := "(I)Z" } : Jvm.MethodName) ∈ zx_W := zx_in 759 (by decide +kernel) rfl
theorem zw_761 : Cond.sameMethod "ValueBench$Form" "ValueBench$Form" "keeps" "(I)Z" ∈ zx_W := zx_in 761 (by decide +kernel) rfl
theorem zw_762 : Cond.selects "ValueBench$ToldForm" ({ cls := "ValueBench$Form", name := "keeps", desc := "(I)Z" } : Jvm.MethodName) ({ cls := "ValueBench$ToldForm", name := "keeps", desc := "(I)Z" } : Jvm.MethodName) ∈ zx_W := zx_in 762 (by decide +kernel) rfl
theorem zw_763 : Cond.instanceMethod ({ cls := "ValueBench$ToldForm", name := "keeps", desc := "(I)Z" } : Jvm.MethodName) ∈ zx_W := zx_in 763 (by decide +kernel) rfl
theorem zw_764 : Cond.code ({ cls := "ValueBench$ToldForm", name := "keeps", desc := "(I)Z" } : Jvm.MethodName) prog_9_method_3_code (2 : Nat) (Option.some Jvm.ClassFile.FieldType.boolean) ∈ zx_W := zx_in 764 (by decide +kernel) rfl
theorem zw_765 : Cond.selects "ValueBench$ValueForm" ({ cls := "ValueBench$Form", name := "keeps", desc := "(I)Z" } : Jvm.MethodName) ({ cls := "ValueBench$ValueForm", name := "keeps", desc := "(I)Z" } : Jvm.MethodName) ∈ zx_W := zx_in 765 (by decide +kernel) rfl
theorem zw_766 : Cond.instanceMethod ({ cls := "ValueBench$ValueForm", name := "keeps", desc := "(I)Z" } : Jvm.MethodName) ∈ zx_W := zx_in 766 (by decide +kernel) rfl
theorem zw_767 : Cond.code ({ cls := "ValueBench$ValueForm", name := "keeps", desc := "(I)Z" } : Jvm.MethodName) prog_10_method_4_code (3 : Nat) (Option.some Jvm.ClassFile.FieldType.boolean) ∈ zx_W := zx_in 767 (by decide +kernel) rfl
theorem zw_768 : Cond.methodLink "ValueBench$Machine" (48 : Nat) ({ cls := "ValueBench$Machine", name := "pay", desc := "()Z" } : Jvm.MethodName) ∈ zx_W := zx_in 768 (by decide +kernel) rfl
theorem zw_770 : Cond.instanceMethod ({ cls := "ValueBench$Machine", name := "pay", desc := "()Z" } : Jvm.MethodName) ∈ zx_W := zx_in 770 (by decide +kernel) rfl
theorem zw_771 : Cond.code ({ cls := "ValueBench$Machine", name := "pay", desc := "()Z" } : Jvm.MethodName) prog_6_method_4_code (1 : Nat) (Option.some Jvm.ClassFile.FieldType.boolean) ∈ zx_W := zx_in 771 (by decide +kernel) rfl
theorem zw_772 : Cond.methodLink "ValueBench$Machine" (75 : Nat) ({ cls := "ValueBench$Machine", name := "follow", desc := "(LValueBench$Form;I)V" } : Jvm.MethodName) ∈ zx_W := zx_in 772 (by decide +kernel) rfl
theorem zw_774 : Cond.instanceMethod ({ cls := "ValueBench$Machine", name := "follow", desc := "(LValueBench$Form;I)V" } : Jvm.MethodName) ∈ zx_W := zx_in 774 (by decide +kernel) rfl
theorem zw_775 : Cond.code ({ cls := "ValueBench$Machine", name := "follow", desc := "(LValueBench$Form;I)V" } : Jvm.MethodName) prog_6_method_6_code (5 : Nat) (Option.none : Option Jvm.ClassFile.FieldType) ∈ zx_W := zx_in 775 (by decide +kernel) rfl
theorem zw_776 : Cond.methodLink "ValueBench$Machine" (82 : Nat) ({ cls := "ValueBench$Form", name := "target", desc := "(I)I" } : Jvm.MethodName) ∈ zx_W := zx_in 776 (by decide +kernel) rfl
theorem zw_778 : Cond.sameMethod "ValueBench$Form" "ValueBench$Form" "target" "(I)I" ∈ zx_W := zx_in 778 (by decide +kernel) rfl
theorem zw_779 : Cond.selects "ValueBench$ToldForm" ({ cls := "ValueBench$Form", name := "target", desc := "(I)I" } : Jvm.MethodName) ({ cls := "ValueBench$ToldForm", name := "target", desc := "(I)I" } : Jvm.MethodName) ∈ zx_W := zx_in 779 (by decide +kernel) rfl
theorem zw_780 : Cond.instanceMethod ({ cls := "ValueBench$ToldForm", name := "target", desc := "(I)I" } : Jvm.MethodName) ∈ zx_W := zx_in 780 (by decide +kernel) rfl
theorem zw_781 : Cond.code ({ cls := "ValueBench$ToldForm", name := "target", desc := "(I)I" } : Jvm.MethodName) prog_9_method_4_code (2 : Nat) (Option.some Jvm.ClassFile.FieldType.int) ∈ zx_W := zx_in 781 (by decide +kernel) rfl
theorem zw_782 : Cond.selects "ValueBench$ValueForm" ({ cls := "ValueBench$Form", name := "target", desc := "(I)I" } : Jvm.MethodName) ({ cls := "ValueBench$ValueForm", name := "target", desc := "(I)I" } : Jvm.MethodName) ∈ zx_W := zx_in 782 (by decide +kernel) rfl
theorem zw_783 : Cond.instanceMethod ({ cls := "ValueBench$ValueForm", name := "target", desc := "(I)I" } : Jvm.MethodName) ∈ zx_W := zx_in 783 (by decide +kernel) rfl
theorem zw_784 : Cond.code ({ cls := "ValueBench$ValueForm", name := "target", desc := "(I)I" } : Jvm.MethodName) prog_10_method_5_code (2 : Nat) (Option.some Jvm.ClassFile.FieldType.int) ∈ zx_W := zx_in 784 (by decide +kernel) rfl
theorem zw_785 : Cond.methodLink "ValueBench$Machine" (88 : Nat) ({ cls := "ValueBench$Form", name := "left", desc := "(I)I" } : Jvm.MethodName) ∈ zx_W := zx_in 785 (by decide +kernel) rfl
theorem zw_787 : Cond.sameMethod "ValueBench$Form" "ValueBench$Form" "left" "(I)I" ∈ zx_W := zx_in 787 (by decide +kernel) rfl
theorem zw_788 : Cond.selects "ValueBench$ToldForm" ({ cls := "ValueBench$Form", name := "left", desc := "(I)I" } : Jvm.MethodName) ({ cls := "ValueBench$ToldForm", name := "left", desc := "(I)I" } : Jvm.MethodName) ∈ zx_W := zx_in 788 (by decide +kernel) rfl
theorem zw_789 : Cond.instanceMethod ({ cls := "ValueBench$ToldForm", name := "left", desc := "(I)I" } : Jvm.MethodName) ∈ zx_W := zx_in 789 (by decide +kernel) rfl
theorem zw_790 : Cond.code ({ cls := "ValueBench$ToldForm", name := "left", desc := "(I)I" } : Jvm.MethodName) prog_9_method_5_code (2 : Nat) (Option.some Jvm.ClassFile.FieldType.int) ∈ zx_W := zx_in 790 (by decide +kernel) rfl
theorem zw_791 : Cond.selects "ValueBench$ValueForm" ({ cls := "ValueBench$Form", name := "left", desc := "(I)I" } : Jvm.MethodName) ({ cls := "ValueBench$ValueForm", name := "left", desc := "(I)I" } : Jvm.MethodName) ∈ zx_W := zx_in 791 (by decide +kernel) rfl
theorem zw_792 : Cond.instanceMethod ({ cls := "ValueBench$ValueForm", name := "left", desc := "(I)I" } : Jvm.MethodName) ∈ zx_W := zx_in 792 (by decide +kernel) rfl
theorem zw_793 : Cond.code ({ cls := "ValueBench$ValueForm", name := "left", desc := "(I)I" } : Jvm.MethodName) prog_10_method_6_code (2 : Nat) (Option.some Jvm.ClassFile.FieldType.int) ∈ zx_W := zx_in 793 (by decide +kernel) rfl
theorem zw_794 : Cond.methodLink "ValueBench$Machine" (91 : Nat) ({ cls := "ValueBench$Machine", name := "tell", desc := "(I)V" } : Jvm.MethodName) ∈ zx_W := zx_in 794 (by decide +kernel) rfl
theorem zw_796 : Cond.instanceMethod ({ cls := "ValueBench$Machine", name := "tell", desc := "(I)V" } : Jvm.MethodName) ∈ zx_W := zx_in 796 (by decide +kernel) rfl
theorem zw_797 : Cond.code ({ cls := "ValueBench$Machine", name := "tell", desc := "(I)V" } : Jvm.MethodName) prog_6_method_7_code (2 : Nat) (Option.none : Option Jvm.ClassFile.FieldType) ∈ zx_W := zx_in 797 (by decide +kernel) rfl
theorem zw_798 : Cond.methodLink "ValueBench$Machine" (95 : Nat) ({ cls := "ValueBench$Form", name := "right", desc := "(I)I" } : Jvm.MethodName) ∈ zx_W := zx_in 798 (by decide +kernel) rfl
theorem zw_800 : Cond.sameMethod "ValueBench$Form" "ValueBench$Form" "right" "(I)I" ∈ zx_W := zx_in 800 (by decide +kernel) rfl
theorem zw_801 : Cond.selects "ValueBench$ToldForm" ({ cls := "ValueBench$Form", name := "right", desc := "(I)I" } : Jvm.MethodName) ({ cls := "ValueBench$ToldForm", name := "right", desc := "(I)I" } : Jvm.MethodName) ∈ zx_W := zx_in 801 (by decide +kernel) rfl
theorem zw_802 : Cond.instanceMethod ({ cls := "ValueBench$ToldForm", name := "right", desc := "(I)I" } : Jvm.MethodName) ∈ zx_W := zx_in 802 (by decide +kernel) rfl
theorem zw_803 : Cond.code ({ cls := "ValueBench$ToldForm", name := "right", desc := "(I)I" } : Jvm.MethodName) prog_9_method_6_code (2 : Nat) (Option.some Jvm.ClassFile.FieldType.int) ∈ zx_W := zx_in 803 (by decide +kernel) rfl
theorem zw_804 : Cond.selects "ValueBench$ValueForm" ({ cls := "ValueBench$Form", name := "right", desc := "(I)I" } : Jvm.MethodName) ({ cls := "ValueBench$ValueForm", name := "right", desc := "(I)I" } : Jvm.MethodName) ∈ zx_W := zx_in 804 (by decide +kernel) rfl
theorem zw_805 : Cond.instanceMethod ({ cls := "ValueBench$ValueForm", name := "right", desc := "(I)I" } : Jvm.MethodName) ∈ zx_W := zx_in 805 (by decide +kernel) rfl
theorem zw_806 : Cond.code ({ cls := "ValueBench$ValueForm", name := "right", desc := "(I)I" } : Jvm.MethodName) prog_10_method_7_code (2 : Nat) (Option.some Jvm.ClassFile.FieldType.int) ∈ zx_W := zx_in 806 (by decide +kernel) rfl
theorem zw_807 : Cond.methodLink "ValueBench$Machine" (98 : Nat) ({ cls := "ValueBench$Machine", name := "compute", desc := "(III)I" } : Jvm.MethodName) ∈ zx_W := zx_in 807 (by decide +kernel) rfl
theorem zw_808 : Cond.static ({ cls := "ValueBench$Machine", name := "compute", desc := "(III)I" } : Jvm.MethodName) ∈ zx_W := zx_in 808 (by decide +kernel) rfl
theorem zw_809 : Cond.code ({ cls := "ValueBench$Machine", name := "compute", desc := "(III)I" } : Jvm.MethodName) prog_6_method_8_code (3 : Nat) (Option.some Jvm.ClassFile.FieldType.int) ∈ zx_W := zx_in 809 (by decide +kernel) rfl
theorem zw_810 : Cond.methodLink "ValueBench$Machine" (102 : Nat) ({ cls := "ValueBench$Machine", name := "divide", desc := "(II)I" } : Jvm.MethodName) ∈ zx_W := zx_in 810 (by decide +kernel) rfl
theorem zw_811 : Cond.static ({ cls := "ValueBench$Machine", name := "divide", desc := "(II)I" } : Jvm.MethodName) ∈ zx_W := zx_in 811 (by decide +kernel) rfl
theorem zw_812 : Cond.code ({ cls := "ValueBench$Machine", name := "divide", desc := "(II)I" } : Jvm.MethodName) prog_6_method_9_code (2 : Nat) (Option.some Jvm.ClassFile.FieldType.int) ∈ zx_W := zx_in 812 (by decide +kernel) rfl
theorem zw_813 : Cond.methodLink "ValueBench$Machine" (52 : Nat) ({ cls := "ValueBench$Program", name := "howCounts", desc := "(I)I" } : Jvm.MethodName) ∈ zx_W := zx_in 813 (by decide +kernel) rfl
theorem zw_814 : Cond.methodLink "ValueBench$Machine" (61 : Nat) ({ cls := "ValueBench$Form", name := "endCell", desc := "(I)I" } : Jvm.MethodName) ∈ zx_W := zx_in 814 (by decide +kernel) rfl
theorem zw_816 : Cond.sameMethod "ValueBench$Form" "ValueBench$Form" "endCell" "(I)I" ∈ zx_W := zx_in 816 (by decide +kernel) rfl
theorem zw_817 : Cond.selects "ValueBench$ToldForm" ({ cls := "ValueBench$Form", name := "endCell", desc := "(I)I" } : Jvm.MethodName) ({ cls := "ValueBench$ToldForm", name := "endCell", desc := "(I)I" } : Jvm.MethodName) ∈ zx_W := zx_in 817 (by decide +kernel) rfl
theorem zw_818 : Cond.instanceMethod ({ cls := "ValueBench$ToldForm", name := "endCell", desc := "(I)I" } : Jvm.MethodName) ∈ zx_W := zx_in 818 (by decide +kernel) rfl
theorem zw_819 : Cond.code ({ cls := "ValueBench$ToldForm", name := "endCell", desc := "(I)I" } : Jvm.MethodName) prog_9_method_7_code (2 : Nat) (Option.some Jvm.ClassFile.FieldType.int) ∈ zx_W := zx_in 819 (by decide +kernel) rfl
theorem zw_820 : Cond.methodLink "ValueBench$ToldForm" (36 : Nat) ({ cls := "ValueBench$Program", name := "endVariable", desc := "(I)I" } : Jvm.MethodName) ∈ zx_W := zx_in 820 (by decide +kernel) rfl
theorem zw_821 : Cond.selects "ValueBench$ValueForm" ({ cls := "ValueBench$Form", name := "endCell", desc := "(I)I" } : Jvm.MethodName) ({ cls := "ValueBench$ValueForm", name := "endCell", desc := "(I)I" } : Jvm.MethodName) ∈ zx_W := zx_in 821 (by decide +kernel) rfl
theorem zw_822 : Cond.instanceMethod ({ cls := "ValueBench$ValueForm", name := "endCell", desc := "(I)I" } : Jvm.MethodName) ∈ zx_W := zx_in 822 (by decide +kernel) rfl
theorem zw_823 : Cond.code ({ cls := "ValueBench$ValueForm", name := "endCell", desc := "(I)I" } : Jvm.MethodName) prog_10_method_8_code (2 : Nat) (Option.some Jvm.ClassFile.FieldType.int) ∈ zx_W := zx_in 823 (by decide +kernel) rfl
theorem zw_824 : Cond.methodLink "ValueBench$Machine" (64 : Nat) ({ cls := "ValueBench$Program", name := "next", desc := "(IZ)I" } : Jvm.MethodName) ∈ zx_W := zx_in 824 (by decide +kernel) rfl
theorem zw_825 : Cond.instanceMethod ({ cls := "ValueBench$Program", name := "next", desc := "(IZ)I" } : Jvm.MethodName) ∈ zx_W := zx_in 825 (by decide +kernel) rfl
theorem zw_826 : Cond.selects "ValueBench$Program" ({ cls := "ValueBench$Program", name := "next", desc := "(IZ)I" } : Jvm.MethodName) ({ cls := "ValueBench$Program", name := "next", desc := "(IZ)I" } : Jvm.MethodName) ∈ zx_W := zx_in 826 (by decide +kernel) rfl
theorem zw_827 : Cond.code ({ cls := "ValueBench$Program", name := "next", desc := "(IZ)I" } : Jvm.MethodName) prog_7_method_15_code (3 : Nat) (Option.some Jvm.ClassFile.FieldType.int) ∈ zx_W := zx_in 827 (by decide +kernel) rfl
theorem zw_844 : Cond.methodLink "ValueBench" (237 : Nat) ({ cls := "ValueBench$Values", name := "allChoices", desc := "()I" } : Jvm.MethodName) ∈ zx_W := zx_in 844 (by decide +kernel) rfl
theorem zw_845 : Cond.instanceMethod ({ cls := "ValueBench$Values", name := "allChoices", desc := "()I" } : Jvm.MethodName) ∈ zx_W := zx_in 845 (by decide +kernel) rfl
theorem zw_846 : Cond.selects "ValueBench$Values" ({ cls := "ValueBench$Values", name := "allChoices", desc := "()I" } : Jvm.MethodName) ({ cls := "ValueBench$Values", name := "allChoices", desc := "()I" } : Jvm.MethodName) ∈ zx_W := zx_in 846 (by decide +kernel) rfl
theorem zw_847 : Cond.code ({ cls := "ValueBench$Values", name := "allChoices", desc := "()I" } : Jvm.MethodName) prog_11_method_5_code (3 : Nat) (Option.some Jvm.ClassFile.FieldType.int) ∈ zx_W := zx_in 847 (by decide +kernel) rfl
theorem zw_854 : Cond.fieldLink "ValueBenchModel" (120 : Nat) "ValueBenchModel" "blocks" "I" ∈ zx_W := zx_in 854 (by decide +kernel) rfl
theorem zw_855 : Cond.fieldLink "ValueBenchModel" (131 : Nat) "ValueBenchModel" "told" "I" ∈ zx_W := zx_in 855 (by decide +kernel) rfl
theorem zw_856 : Cond.fieldLink "ValueBenchModel" (7 : Nat) "ValueBenchModel" "kind" "[I" ∈ zx_W := zx_in 856 (by decide +kernel) rfl
theorem zw_857 : Cond.fieldLink "ValueBenchModel" (13 : Nat) "ValueBenchModel" "first" "[I" ∈ zx_W := zx_in 857 (by decide +kernel) rfl
theorem zw_858 : Cond.fieldLink "ValueBenchModel" (16 : Nat) "ValueBenchModel" "second" "[I" ∈ zx_W := zx_in 858 (by decide +kernel) rfl
theorem zw_859 : Cond.fieldLink "ValueBenchModel" (19 : Nat) "ValueBenchModel" "third" "[I" ∈ zx_W := zx_in 859 (by decide +kernel) rfl
theorem zw_860 : Cond.fieldLink "ValueBenchModel" (22 : Nat) "ValueBenchModel" "size" "[I" ∈ zx_W := zx_in 860 (by decide +kernel) rfl
theorem zw_861 : Cond.fieldLink "ValueBenchModel" (25 : Nat) "ValueBenchModel" "endHow" "[I" ∈ zx_W := zx_in 861 (by decide +kernel) rfl
theorem zw_862 : Cond.fieldLink "ValueBenchModel" (28 : Nat) "ValueBenchModel" "endY" "[I" ∈ zx_W := zx_in 862 (by decide +kernel) rfl
theorem zw_863 : Cond.fieldLink "ValueBenchModel" (31 : Nat) "ValueBenchModel" "endB" "[I" ∈ zx_W := zx_in 863 (by decide +kernel) rfl
theorem zw_864 : Cond.fieldLink "ValueBenchModel" (34 : Nat) "ValueBenchModel" "endC" "[I" ∈ zx_W := zx_in 864 (by decide +kernel) rfl
theorem zw_865 : Cond.fieldLink "ValueBenchModel" (123 : Nat) "ValueBenchModel" "isMade" "Z" ∈ zx_W := zx_in 865 (by decide +kernel) rfl
theorem zw_866 : Cond.fieldLink "ValueBenchModel" (37 : Nat) "ValueBenchModel" "isReached" "[Z" ∈ zx_W := zx_in 866 (by decide +kernel) rfl
theorem zw_867 : Cond.fieldLink "ValueBenchModel" (41 : Nat) "ValueBenchModel" "isMet" "[Z" ∈ zx_W := zx_in 867 (by decide +kernel) rfl
theorem zw_868 : Cond.fieldLink "ValueBenchModel" (44 : Nat) "ValueBenchModel" "dom" "[Z" ∈ zx_W := zx_in 868 (by decide +kernel) rfl
theorem zw_869 : Cond.fieldLink "ValueBenchModel" (47 : Nat) "ValueBenchModel" "parent" "[I" ∈ zx_W := zx_in 869 (by decide +kernel) rfl
theorem zw_870 : Cond.fieldLink "ValueBenchModel" (50 : Nat) "ValueBenchModel" "meets" "[Z" ∈ zx_W := zx_in 870 (by decide +kernel) rfl
theorem zw_871 : Cond.fieldLink "ValueBenchModel" (53 : Nat) "ValueBenchModel" "hasChoice" "[Z" ∈ zx_W := zx_in 871 (by decide +kernel) rfl
theorem zw_872 : Cond.fieldLink "ValueBenchModel" (155 : Nat) "ValueBenchModel" "values" "I" ∈ zx_W := zx_in 872 (by decide +kernel) rfl
theorem zw_873 : Cond.fieldLink "ValueBenchModel" (56 : Nat) "ValueBenchModel" "valueKind" "[I" ∈ zx_W := zx_in 873 (by decide +kernel) rfl
theorem zw_874 : Cond.fieldLink "ValueBenchModel" (59 : Nat) "ValueBenchModel" "valueBlock" "[I" ∈ zx_W := zx_in 874 (by decide +kernel) rfl
theorem zw_875 : Cond.fieldLink "ValueBenchModel" (62 : Nat) "ValueBenchModel" "valueVariable" "[I" ∈ zx_W := zx_in 875 (by decide +kernel) rfl
theorem zw_876 : Cond.fieldLink "ValueBenchModel" (65 : Nat) "ValueBenchModel" "valueNumber" "[I" ∈ zx_W := zx_in 876 (by decide +kernel) rfl
theorem zw_877 : Cond.fieldLink "ValueBenchModel" (68 : Nat) "ValueBenchModel" "valuePlace" "[I" ∈ zx_W := zx_in 877 (by decide +kernel) rfl
theorem zw_878 : Cond.fieldLink "ValueBenchModel" (71 : Nat) "ValueBenchModel" "operand" "[I" ∈ zx_W := zx_in 878 (by decide +kernel) rfl
theorem zw_879 : Cond.fieldLink "ValueBenchModel" (74 : Nat) "ValueBenchModel" "operands" "[I" ∈ zx_W := zx_in 879 (by decide +kernel) rfl
theorem zw_880 : Cond.fieldLink "ValueBenchModel" (77 : Nat) "ValueBenchModel" "choiceOf" "[I" ∈ zx_W := zx_in 880 (by decide +kernel) rfl
theorem zw_881 : Cond.fieldLink "ValueBenchModel" (80 : Nat) "ValueBenchModel" "valueOf" "[I" ∈ zx_W := zx_in 881 (by decide +kernel) rfl
theorem zw_882 : Cond.fieldLink "ValueBenchModel" (83 : Nat) "ValueBenchModel" "atBegin" "[I" ∈ zx_W := zx_in 882 (by decide +kernel) rfl
theorem zw_883 : Cond.fieldLink "ValueBenchModel" (86 : Nat) "ValueBenchModel" "atEnd" "[I" ∈ zx_W := zx_in 883 (by decide +kernel) rfl
theorem zw_884 : Cond.fieldLink "ValueBenchModel" (89 : Nat) "ValueBenchModel" "now" "[I" ∈ zx_W := zx_in 884 (by decide +kernel) rfl
theorem zw_885 : Cond.fieldLink "ValueBenchModel" (92 : Nat) "ValueBenchModel" "klass" "[I" ∈ zx_W := zx_in 885 (by decide +kernel) rfl
theorem zw_886 : Cond.fieldLink "ValueBenchModel" (95 : Nat) "ValueBenchModel" "parted" "[I" ∈ zx_W := zx_in 886 (by decide +kernel) rfl
theorem zw_887 : Cond.fieldLink "ValueBenchModel" (98 : Nat) "ValueBenchModel" "isRedundant" "[Z" ∈ zx_W := zx_in 887 (by decide +kernel) rfl
theorem zw_888 : Cond.fieldLink "ValueBenchModel" (101 : Nat) "ValueBenchModel" "fuel" "I" ∈ zx_W := zx_in 888 (by decide +kernel) rfl
theorem zw_889 : Cond.fieldLink "ValueBenchModel" (218 : Nat) "ValueBenchModel" "runReturned" "I" ∈ zx_W := zx_in 889 (by decide +kernel) rfl
theorem zw_890 : Cond.fieldLink "ValueBenchModel" (212 : Nat) "ValueBenchModel" "runTook" "I" ∈ zx_W := zx_in 890 (by decide +kernel) rfl
theorem zw_891 : Cond.fieldLink "ValueBenchModel" (209 : Nat) "ValueBenchModel" "runEmitted" "I" ∈ zx_W := zx_in 891 (by decide +kernel) rfl
theorem zw_892 : Cond.fieldLink "ValueBenchModel" (221 : Nat) "ValueBenchModel" "runBlock" "I" ∈ zx_W := zx_in 892 (by decide +kernel) rfl
theorem zw_893 : Cond.fieldLink "ValueBenchModel" (105 : Nat) "ValueBenchModel" "kept" "[I" ∈ zx_W := zx_in 893 (by decide +kernel) rfl
theorem zw_894 : Cond.fieldLink "ValueBenchModel" (108 : Nat) "ValueBenchModel" "variable" "[I" ∈ zx_W := zx_in 894 (by decide +kernel) rfl
theorem zw_895 : Cond.fieldLink "ValueBenchModel" (111 : Nat) "ValueBenchModel" "is" "[I" ∈ zx_W := zx_in 895 (by decide +kernel) rfl
theorem zw_896 : Cond.fieldLink "ValueBenchModel" (114 : Nat) "ValueBenchModel" "next" "[I" ∈ zx_W := zx_in 896 (by decide +kernel) rfl
theorem zw_897 : Cond.fieldLink "ValueBenchModel" (117 : Nat) "ValueBenchModel" "inputs" "[I" ∈ zx_W := zx_in 897 (by decide +kernel) rfl
theorem zw_995 : Cond.methodLink "ValueBenchModel" (127 : Nat) ({ cls := "ValueBenchModel", name := "isBlock", desc := "(I)Z" } : Jvm.MethodName) ∈ zx_W := zx_in 995 (by decide +kernel) rfl
theorem zw_997 : Cond.instanceMethod ({ cls := "ValueBenchModel", name := "isBlock", desc := "(I)Z" } : Jvm.MethodName) ∈ zx_W := zx_in 997 (by decide +kernel) rfl
theorem zw_998 : Cond.code ({ cls := "ValueBenchModel", name := "isBlock", desc := "(I)Z" } : Jvm.MethodName) prog_13_method_2_code (2 : Nat) (Option.some Jvm.ClassFile.FieldType.boolean) ∈ zx_W := zx_in 998 (by decide +kernel) rfl
theorem zw_999 : Cond.methodLink "ValueBenchModel" (134 : Nat) ({ cls := "ValueBenchModel", name := "isVariable", desc := "(I)Z" } : Jvm.MethodName) ∈ zx_W := zx_in 999 (by decide +kernel) rfl
theorem zw_1000 : Cond.static ({ cls := "ValueBenchModel", name := "isVariable", desc := "(I)Z" } : Jvm.MethodName) ∈ zx_W := zx_in 1000 (by decide +kernel) rfl
theorem zw_1001 : Cond.code ({ cls := "ValueBenchModel", name := "isVariable", desc := "(I)Z" } : Jvm.MethodName) prog_13_method_3_code (1 : Nat) (Option.some Jvm.ClassFile.FieldType.boolean) ∈ zx_W := zx_in 1001 (by decide +kernel) rfl
theorem zw_1014 : Cond.methodLink "ValueBenchModel" (215 : Nat) ({ cls := "ValueBenchModel", name := "make", desc := "()V" } : Jvm.MethodName) ∈ zx_W := zx_in 1014 (by decide +kernel) rfl
theorem zw_1016 : Cond.instanceMethod ({ cls := "ValueBenchModel", name := "make", desc := "()V" } : Jvm.MethodName) ∈ zx_W := zx_in 1016 (by decide +kernel) rfl
theorem zw_1017 : Cond.code ({ cls := "ValueBenchModel", name := "make", desc := "()V" } : Jvm.MethodName) prog_13_method_29_code (1 : Nat) (Option.none : Option Jvm.ClassFile.FieldType) ∈ zx_W := zx_in 1017 (by decide +kernel) rfl
theorem zw_1018 : Cond.methodLink "ValueBenchModel" (183 : Nat) ({ cls := "ValueBenchModel", name := "dominance", desc := "()V" } : Jvm.MethodName) ∈ zx_W := zx_in 1018 (by decide +kernel) rfl
theorem zw_1020 : Cond.instanceMethod ({ cls := "ValueBenchModel", name := "dominance", desc := "()V" } : Jvm.MethodName) ∈ zx_W := zx_in 1020 (by decide +kernel) rfl
theorem zw_1021 : Cond.code ({ cls := "ValueBenchModel", name := "dominance", desc := "()V" } : Jvm.MethodName) prog_13_method_13_code (5 : Nat) (Option.none : Option Jvm.ClassFile.FieldType) ∈ zx_W := zx_in 1021 (by decide +kernel) rfl
theorem zw_1022 : Cond.methodLink "ValueBenchModel" (145 : Nat) ({ cls := "ValueBenchModel", name := "meet", desc := "(I)V" } : Jvm.MethodName) ∈ zx_W := zx_in 1022 (by decide +kernel) rfl
theorem zw_1024 : Cond.instanceMethod ({ cls := "ValueBenchModel", name := "meet", desc := "(I)V" } : Jvm.MethodName) ∈ zx_W := zx_in 1024 (by decide +kernel) rfl
theorem zw_1025 : Cond.code ({ cls := "ValueBenchModel", name := "meet", desc := "(I)V" } : Jvm.MethodName) prog_13_method_11_code (5 : Nat) (Option.none : Option Jvm.ClassFile.FieldType) ∈ zx_W := zx_in 1025 (by decide +kernel) rfl
theorem zw_1026 : Cond.methodLink "ValueBenchModel" (141 : Nat) ({ cls := "ValueBenchModel", name := "leads", desc := "(II)Z" } : Jvm.MethodName) ∈ zx_W := zx_in 1026 (by decide +kernel) rfl
theorem zw_1028 : Cond.instanceMethod ({ cls := "ValueBenchModel", name := "leads", desc := "(II)Z" } : Jvm.MethodName) ∈ zx_W := zx_in 1028 (by decide +kernel) rfl
theorem zw_1029 : Cond.code ({ cls := "ValueBenchModel", name := "leads", desc := "(II)Z" } : Jvm.MethodName) prog_13_method_10_code (4 : Nat) (Option.some Jvm.ClassFile.FieldType.boolean) ∈ zx_W := zx_in 1029 (by decide +kernel) rfl
theorem zw_1030 : Cond.methodLink "ValueBenchModel" (137 : Nat) ({ cls := "ValueBenchModel", name := "howOf", desc := "(I)I" } : Jvm.MethodName) ∈ zx_W := zx_in 1030 (by decide +kernel) rfl
theorem zw_1032 : Cond.instanceMethod ({ cls := "ValueBenchModel", name := "howOf", desc := "(I)I" } : Jvm.MethodName) ∈ zx_W := zx_in 1032 (by decide +kernel) rfl
theorem zw_1033 : Cond.code ({ cls := "ValueBenchModel", name := "howOf", desc := "(I)I" } : Jvm.MethodName) prog_13_method_8_code (2 : Nat) (Option.some Jvm.ClassFile.FieldType.int) ∈ zx_W := zx_in 1033 (by decide +kernel) rfl
theorem zw_1034 : Cond.methodLink "ValueBenchModel" (149 : Nat) ({ cls := "ValueBenchModel", name := "dominates1", desc := "(II)Z" } : Jvm.MethodName) ∈ zx_W := zx_in 1034 (by decide +kernel) rfl
theorem zw_1036 : Cond.instanceMethod ({ cls := "ValueBenchModel", name := "dominates1", desc := "(II)Z" } : Jvm.MethodName) ∈ zx_W := zx_in 1036 (by decide +kernel) rfl
theorem zw_1037 : Cond.code ({ cls := "ValueBenchModel", name := "dominates1", desc := "(II)Z" } : Jvm.MethodName) prog_13_method_12_code (3 : Nat) (Option.some Jvm.ClassFile.FieldType.boolean) ∈ zx_W := zx_in 1037 (by decide +kernel) rfl
theorem zw_1038 : Cond.methodLink "ValueBenchModel" (186 : Nat) ({ cls := "ValueBenchModel", name := "choices", desc := "()V" } : Jvm.MethodName) ∈ zx_W := zx_in 1038 (by decide +kernel) rfl
theorem zw_1040 : Cond.instanceMethod ({ cls := "ValueBenchModel", name := "choices", desc := "()V" } : Jvm.MethodName) ∈ zx_W := zx_in 1040 (by decide +kernel) rfl
theorem zw_1041 : Cond.code ({ cls := "ValueBenchModel", name := "choices", desc := "()V" } : Jvm.MethodName) prog_13_method_15_code (5 : Nat) (Option.none : Option Jvm.ClassFile.FieldType) ∈ zx_W := zx_in 1041 (by decide +kernel) rfl
theorem zw_1042 : Cond.methodLink "ValueBenchModel" (152 : Nat) ({ cls := "ValueBenchModel", name := "gives", desc := "(II)Z" } : Jvm.MethodName) ∈ zx_W := zx_in 1042 (by decide +kernel) rfl
theorem zw_1044 : Cond.instanceMethod ({ cls := "ValueBenchModel", name := "gives", desc := "(II)Z" } : Jvm.MethodName) ∈ zx_W := zx_in 1044 (by decide +kernel) rfl
theorem zw_1045 : Cond.code ({ cls := "ValueBenchModel", name := "gives", desc := "(II)Z" } : Jvm.MethodName) prog_13_method_14_code (4 : Nat) (Option.some Jvm.ClassFile.FieldType.boolean) ∈ zx_W := zx_in 1045 (by decide +kernel) rfl
theorem zw_1046 : Cond.methodLink "ValueBenchModel" (189 : Nat) ({ cls := "ValueBenchModel", name := "numbers", desc := "()V" } : Jvm.MethodName) ∈ zx_W := zx_in 1046 (by decide +kernel) rfl
theorem zw_1048 : Cond.instanceMethod ({ cls := "ValueBenchModel", name := "numbers", desc := "()V" } : Jvm.MethodName) ∈ zx_W := zx_in 1048 (by decide +kernel) rfl
theorem zw_1049 : Cond.code ({ cls := "ValueBenchModel", name := "numbers", desc := "()V" } : Jvm.MethodName) prog_13_method_17_code (5 : Nat) (Option.none : Option Jvm.ClassFile.FieldType) ∈ zx_W := zx_in 1049 (by decide +kernel) rfl
theorem zw_1050 : Cond.methodLink "ValueBenchModel" (158 : Nat) ({ cls := "ValueBenchModel", name := "comes", desc := "(IIIII)I" } : Jvm.MethodName) ∈ zx_W := zx_in 1050 (by decide +kernel) rfl
theorem zw_1052 : Cond.instanceMethod ({ cls := "ValueBenchModel", name := "comes", desc := "(IIIII)I" } : Jvm.MethodName) ∈ zx_W := zx_in 1052 (by decide +kernel) rfl
theorem zw_1053 : Cond.code ({ cls := "ValueBenchModel", name := "comes", desc := "(IIIII)I" } : Jvm.MethodName) prog_13_method_16_code (6 : Nat) (Option.some Jvm.ClassFile.FieldType.int) ∈ zx_W := zx_in 1053 (by decide +kernel) rfl
theorem zw_1054 : Cond.methodLink "ValueBenchModel" (192 : Nat) ({ cls := "ValueBenchModel", name := "names", desc := "()V" } : Jvm.MethodName) ∈ zx_W := zx_in 1054 (by decide +kernel) rfl
theorem zw_1056 : Cond.instanceMethod ({ cls := "ValueBenchModel", name := "names", desc := "()V" } : Jvm.MethodName) ∈ zx_W := zx_in 1056 (by decide +kernel) rfl
theorem zw_1057 : Cond.code ({ cls := "ValueBenchModel", name := "names", desc := "()V" } : Jvm.MethodName) prog_13_method_19_code (6 : Nat) (Option.none : Option Jvm.ClassFile.FieldType) ∈ zx_W := zx_in 1057 (by decide +kernel) rfl
theorem zw_1058 : Cond.methodLink "ValueBenchModel" (162 : Nat) ({ cls := "ValueBenchModel", name := "through", desc := "(IIZ)V" } : Jvm.MethodName) ∈ zx_W := zx_in 1058 (by decide +kernel) rfl
theorem zw_1060 : Cond.instanceMethod ({ cls := "ValueBenchModel", name := "through", desc := "(IIZ)V" } : Jvm.MethodName) ∈ zx_W := zx_in 1060 (by decide +kernel) rfl
theorem zw_1061 : Cond.code ({ cls := "ValueBenchModel", name := "through", desc := "(IIZ)V" } : Jvm.MethodName) prog_13_method_20_code (6 : Nat) (Option.none : Option Jvm.ClassFile.FieldType) ∈ zx_W := zx_in 1061 (by decide +kernel) rfl
theorem zw_1062 : Cond.methodLink "ValueBenchModel" (166 : Nat) ({ cls := "ValueBenchModel", name := "adds", desc := "(II)V" } : Jvm.MethodName) ∈ zx_W := zx_in 1062 (by decide +kernel) rfl
theorem zw_1064 : Cond.instanceMethod ({ cls := "ValueBenchModel", name := "adds", desc := "(II)V" } : Jvm.MethodName) ∈ zx_W := zx_in 1064 (by decide +kernel) rfl
theorem zw_1065 : Cond.code ({ cls := "ValueBenchModel", name := "adds", desc := "(II)V" } : Jvm.MethodName) prog_13_method_18_code (3 : Nat) (Option.none : Option Jvm.ClassFile.FieldType) ∈ zx_W := zx_in 1065 (by decide +kernel) rfl
theorem zw_1066 : Cond.methodLink "ValueBenchModel" (195 : Nat) ({ cls := "ValueBenchModel", name := "classes", desc := "()V" } : Jvm.MethodName) ∈ zx_W := zx_in 1066 (by decide +kernel) rfl
theorem zw_1068 : Cond.instanceMethod ({ cls := "ValueBenchModel", name := "classes", desc := "()V" } : Jvm.MethodName) ∈ zx_W := zx_in 1068 (by decide +kernel) rfl
theorem zw_1069 : Cond.code ({ cls := "ValueBenchModel", name := "classes", desc := "()V" } : Jvm.MethodName) prog_13_method_25_code (4 : Nat) (Option.none : Option Jvm.ClassFile.FieldType) ∈ zx_W := zx_in 1069 (by decide +kernel) rfl
theorem zw_1070 : Cond.methodLink "ValueBenchModel" (173 : Nat) ({ cls := "ValueBenchModel", name := "isOneSort", desc := "(II)Z" } : Jvm.MethodName) ∈ zx_W := zx_in 1070 (by decide +kernel) rfl
theorem zw_1072 : Cond.instanceMethod ({ cls := "ValueBenchModel", name := "isOneSort", desc := "(II)Z" } : Jvm.MethodName) ∈ zx_W := zx_in 1072 (by decide +kernel) rfl
theorem zw_1073 : Cond.code ({ cls := "ValueBenchModel", name := "isOneSort", desc := "(II)Z" } : Jvm.MethodName) prog_13_method_23_code (4 : Nat) (Option.some Jvm.ClassFile.FieldType.boolean) ∈ zx_W := zx_in 1073 (by decide +kernel) rfl
theorem zw_1074 : Cond.methodLink "ValueBenchModel" (176 : Nat) ({ cls := "ValueBenchModel", name := "hangTogether", desc := "(II)Z" } : Jvm.MethodName) ∈ zx_W := zx_in 1074 (by decide +kernel) rfl
theorem zw_1076 : Cond.instanceMethod ({ cls := "ValueBenchModel", name := "hangTogether", desc := "(II)Z" } : Jvm.MethodName) ∈ zx_W := zx_in 1076 (by decide +kernel) rfl
theorem zw_1077 : Cond.code ({ cls := "ValueBenchModel", name := "hangTogether", desc := "(II)Z" } : Jvm.MethodName) prog_13_method_24_code (5 : Nat) (Option.some Jvm.ClassFile.FieldType.boolean) ∈ zx_W := zx_in 1077 (by decide +kernel) rfl
theorem zw_1078 : Cond.methodLink "ValueBenchModel" (170 : Nat) ({ cls := "ValueBenchModel", name := "isEven", desc := "(I)Z" } : Jvm.MethodName) ∈ zx_W := zx_in 1078 (by decide +kernel) rfl
theorem zw_1079 : Cond.static ({ cls := "ValueBenchModel", name := "isEven", desc := "(I)Z" } : Jvm.MethodName) ∈ zx_W := zx_in 1079 (by decide +kernel) rfl
theorem zw_1080 : Cond.code ({ cls := "ValueBenchModel", name := "isEven", desc := "(I)Z" } : Jvm.MethodName) prog_13_method_22_code (1 : Nat) (Option.some Jvm.ClassFile.FieldType.boolean) ∈ zx_W := zx_in 1080 (by decide +kernel) rfl
theorem zw_1081 : Cond.methodLink "ValueBenchModel" (198 : Nat) ({ cls := "ValueBenchModel", name := "redundant", desc := "()V" } : Jvm.MethodName) ∈ zx_W := zx_in 1081 (by decide +kernel) rfl
theorem zw_1083 : Cond.instanceMethod ({ cls := "ValueBenchModel", name := "redundant", desc := "()V" } : Jvm.MethodName) ∈ zx_W := zx_in 1083 (by decide +kernel) rfl
theorem zw_1084 : Cond.code ({ cls := "ValueBenchModel", name := "redundant", desc := "()V" } : Jvm.MethodName) prog_13_method_27_code (4 : Nat) (Option.none : Option Jvm.ClassFile.FieldType) ∈ zx_W := zx_in 1084 (by decide +kernel) rfl
theorem zw_1085 : Cond.methodLink "ValueBenchModel" (179 : Nat) ({ cls := "ValueBenchModel", name := "isAhead", desc := "(III)Z" } : Jvm.MethodName) ∈ zx_W := zx_in 1085 (by decide +kernel) rfl
theorem zw_1087 : Cond.instanceMethod ({ cls := "ValueBenchModel", name := "isAhead", desc := "(III)Z" } : Jvm.MethodName) ∈ zx_W := zx_in 1087 (by decide +kernel) rfl
theorem zw_1088 : Cond.code ({ cls := "ValueBenchModel", name := "isAhead", desc := "(III)Z" } : Jvm.MethodName) prog_13_method_26_code (4 : Nat) (Option.some Jvm.ClassFile.FieldType.boolean) ∈ zx_W := zx_in 1088 (by decide +kernel) rfl
theorem zw_1089 : Cond.methodLink "ValueBenchModel" (224 : Nat) ({ cls := "ValueBenchModel", name := "chooses", desc := "(III)V" } : Jvm.MethodName) ∈ zx_W := zx_in 1089 (by decide +kernel) rfl
theorem zw_1091 : Cond.instanceMethod ({ cls := "ValueBenchModel", name := "chooses", desc := "(III)V" } : Jvm.MethodName) ∈ zx_W := zx_in 1091 (by decide +kernel) rfl
theorem zw_1092 : Cond.code ({ cls := "ValueBenchModel", name := "chooses", desc := "(III)V" } : Jvm.MethodName) prog_13_method_37_code (7 : Nat) (Option.none : Option Jvm.ClassFile.FieldType) ∈ zx_W := zx_in 1092 (by decide +kernel) rfl
theorem zw_1093 : Cond.methodLink "ValueBenchModel" (205 : Nat) ({ cls := "ValueBenchModel", name := "predecessorAt", desc := "(II)I" } : Jvm.MethodName) ∈ zx_W := zx_in 1093 (by decide +kernel) rfl
theorem zw_1095 : Cond.instanceMethod ({ cls := "ValueBenchModel", name := "predecessorAt", desc := "(II)I" } : Jvm.MethodName) ∈ zx_W := zx_in 1095 (by decide +kernel) rfl
theorem zw_1096 : Cond.code ({ cls := "ValueBenchModel", name := "predecessorAt", desc := "(II)I" } : Jvm.MethodName) prog_13_method_31_code (5 : Nat) (Option.some Jvm.ClassFile.FieldType.int) ∈ zx_W := zx_in 1096 (by decide +kernel) rfl
theorem zw_1097 : Cond.methodLink "ValueBenchModel" (245 : Nat) ({ cls := "ValueBenchModel", name := "ledOperand", desc := "(II)I" } : Jvm.MethodName) ∈ zx_W := zx_in 1097 (by decide +kernel) rfl
theorem zw_1099 : Cond.instanceMethod ({ cls := "ValueBenchModel", name := "ledOperand", desc := "(II)I" } : Jvm.MethodName) ∈ zx_W := zx_in 1099 (by decide +kernel) rfl
theorem zw_1100 : Cond.code ({ cls := "ValueBenchModel", name := "ledOperand", desc := "(II)I" } : Jvm.MethodName) prog_13_method_30_code (6 : Nat) (Option.some Jvm.ClassFile.FieldType.int) ∈ zx_W := zx_in 1100 (by decide +kernel) rfl
theorem zw_1101 : Cond.methodLink "ValueBenchModel" (201 : Nat) ({ cls := "ValueBenchModel", name := "leader", desc := "(III)I" } : Jvm.MethodName) ∈ zx_W := zx_in 1101 (by decide +kernel) rfl
theorem zw_1103 : Cond.instanceMethod ({ cls := "ValueBenchModel", name := "leader", desc := "(III)I" } : Jvm.MethodName) ∈ zx_W := zx_in 1103 (by decide +kernel) rfl
theorem zw_1104 : Cond.code ({ cls := "ValueBenchModel", name := "leader", desc := "(III)I" } : Jvm.MethodName) prog_13_method_28_code (5 : Nat) (Option.some Jvm.ClassFile.FieldType.int) ∈ zx_W := zx_in 1104 (by decide +kernel) rfl
theorem zw_1105 : Cond.methodLink "ValueBenchModel" (228 : Nat) ({ cls := "ValueBenchModel", name := "costs", desc := "(III)Z" } : Jvm.MethodName) ∈ zx_W := zx_in 1105 (by decide +kernel) rfl
theorem zw_1107 : Cond.instanceMethod ({ cls := "ValueBenchModel", name := "costs", desc := "(III)Z" } : Jvm.MethodName) ∈ zx_W := zx_in 1107 (by decide +kernel) rfl
theorem zw_1108 : Cond.code ({ cls := "ValueBenchModel", name := "costs", desc := "(III)Z" } : Jvm.MethodName) prog_13_method_36_code (5 : Nat) (Option.some Jvm.ClassFile.FieldType.boolean) ∈ zx_W := zx_in 1108 (by decide +kernel) rfl
theorem zw_1109 : Cond.methodLink "ValueBenchModel" (231 : Nat) ({ cls := "ValueBenchModel", name := "takes", desc := "()Z" } : Jvm.MethodName) ∈ zx_W := zx_in 1109 (by decide +kernel) rfl
theorem zw_1111 : Cond.instanceMethod ({ cls := "ValueBenchModel", name := "takes", desc := "()Z" } : Jvm.MethodName) ∈ zx_W := zx_in 1111 (by decide +kernel) rfl
theorem zw_1112 : Cond.code ({ cls := "ValueBenchModel", name := "takes", desc := "()Z" } : Jvm.MethodName) prog_13_method_34_code (1 : Nat) (Option.some Jvm.ClassFile.FieldType.boolean) ∈ zx_W := zx_in 1112 (by decide +kernel) rfl
theorem zw_1113 : Cond.methodLink "ValueBenchModel" (235 : Nat) ({ cls := "ValueBenchModel", name := "acts", desc := "(III)V" } : Jvm.MethodName) ∈ zx_W := zx_in 1113 (by decide +kernel) rfl
theorem zw_1115 : Cond.instanceMethod ({ cls := "ValueBenchModel", name := "acts", desc := "(III)V" } : Jvm.MethodName) ∈ zx_W := zx_in 1115 (by decide +kernel) rfl
theorem zw_1116 : Cond.code ({ cls := "ValueBenchModel", name := "acts", desc := "(III)V" } : Jvm.MethodName) prog_13_method_38_code (8 : Nat) (Option.none : Option Jvm.ClassFile.FieldType) ∈ zx_W := zx_in 1116 (by decide +kernel) rfl
theorem zw_1117 : Cond.methodLink "ValueBenchModel" (248 : Nat) ({ cls := "ValueBenchModel", name := "emit", desc := "(I)V" } : Jvm.MethodName) ∈ zx_W := zx_in 1117 (by decide +kernel) rfl
theorem zw_1119 : Cond.instanceMethod ({ cls := "ValueBenchModel", name := "emit", desc := "(I)V" } : Jvm.MethodName) ∈ zx_W := zx_in 1119 (by decide +kernel) rfl
theorem zw_1120 : Cond.code ({ cls := "ValueBenchModel", name := "emit", desc := "(I)V" } : Jvm.MethodName) prog_13_method_33_code (2 : Nat) (Option.none : Option Jvm.ClassFile.FieldType) ∈ zx_W := zx_in 1120 (by decide +kernel) rfl
theorem zw_1121 : Cond.methodLink "ValueBenchModel" (251 : Nat) ({ cls := "ValueBenchModel", name := "work", desc := "(III)I" } : Jvm.MethodName) ∈ zx_W := zx_in 1121 (by decide +kernel) rfl
theorem zw_1122 : Cond.static ({ cls := "ValueBenchModel", name := "work", desc := "(III)I" } : Jvm.MethodName) ∈ zx_W := zx_in 1122 (by decide +kernel) rfl
theorem zw_1123 : Cond.code ({ cls := "ValueBenchModel", name := "work", desc := "(III)I" } : Jvm.MethodName) prog_13_method_32_code (3 : Nat) (Option.some Jvm.ClassFile.FieldType.int) ∈ zx_W := zx_in 1123 (by decide +kernel) rfl
theorem zw_1124 : Cond.methodLink "ValueBenchModel" (254 : Nat) ({ cls := "ValueBenchModel", name := "readAt", desc := "(III)I" } : Jvm.MethodName) ∈ zx_W := zx_in 1124 (by decide +kernel) rfl
theorem zw_1126 : Cond.instanceMethod ({ cls := "ValueBenchModel", name := "readAt", desc := "(III)I" } : Jvm.MethodName) ∈ zx_W := zx_in 1126 (by decide +kernel) rfl
theorem zw_1127 : Cond.code ({ cls := "ValueBenchModel", name := "readAt", desc := "(III)I" } : Jvm.MethodName) prog_13_method_21_code (5 : Nat) (Option.some Jvm.ClassFile.FieldType.int) ∈ zx_W := zx_in 1127 (by decide +kernel) rfl
theorem zw_1128 : Cond.methodLink "ValueBenchModel" (238 : Nat) ({ cls := "ValueBenchModel", name := "yOf", desc := "(I)I" } : Jvm.MethodName) ∈ zx_W := zx_in 1128 (by decide +kernel) rfl
theorem zw_1130 : Cond.instanceMethod ({ cls := "ValueBenchModel", name := "yOf", desc := "(I)I" } : Jvm.MethodName) ∈ zx_W := zx_in 1130 (by decide +kernel) rfl
theorem zw_1131 : Cond.code ({ cls := "ValueBenchModel", name := "yOf", desc := "(I)I" } : Jvm.MethodName) prog_13_method_9_code (2 : Nat) (Option.some Jvm.ClassFile.FieldType.int) ∈ zx_W := zx_in 1131 (by decide +kernel) rfl
theorem zw_1132 : Cond.methodLink "ValueBenchModel" (241 : Nat) ({ cls := "ValueBenchModel", name := "reads", desc := "(IZ)I" } : Jvm.MethodName) ∈ zx_W := zx_in 1132 (by decide +kernel) rfl
theorem zw_1134 : Cond.instanceMethod ({ cls := "ValueBenchModel", name := "reads", desc := "(IZ)I" } : Jvm.MethodName) ∈ zx_W := zx_in 1134 (by decide +kernel) rfl
theorem zw_1135 : Cond.code ({ cls := "ValueBenchModel", name := "reads", desc := "(IZ)I" } : Jvm.MethodName) prog_13_method_39_code (4 : Nat) (Option.some Jvm.ClassFile.FieldType.int) ∈ zx_W := zx_in 1135 (by decide +kernel) rfl
theorem zw_1160 : Cond.methodLink "ValueBenchModel" (257 : Nat) ({ cls := "ValueBenchModel", name := "areReached", desc := "(II)Z" } : Jvm.MethodName) ∈ zx_W := zx_in 1160 (by decide +kernel) rfl
theorem zw_1162 : Cond.instanceMethod ({ cls := "ValueBenchModel", name := "areReached", desc := "(II)Z" } : Jvm.MethodName) ∈ zx_W := zx_in 1162 (by decide +kernel) rfl
theorem zw_1163 : Cond.code ({ cls := "ValueBenchModel", name := "areReached", desc := "(II)Z" } : Jvm.MethodName) prog_13_method_45_code (3 : Nat) (Option.some Jvm.ClassFile.FieldType.boolean) ∈ zx_W := zx_in 1163 (by decide +kernel) rfl
theorem zw_1172 : Cond.methodLink "ValueBenchModel" (260 : Nat) ({ cls := "ValueBenchModel", name := "isValue", desc := "(I)Z" } : Jvm.MethodName) ∈ zx_W := zx_in 1172 (by decide +kernel) rfl
theorem zw_1174 : Cond.instanceMethod ({ cls := "ValueBenchModel", name := "isValue", desc := "(I)Z" } : Jvm.MethodName) ∈ zx_W := zx_in 1174 (by decide +kernel) rfl
theorem zw_1175 : Cond.code ({ cls := "ValueBenchModel", name := "isValue", desc := "(I)Z" } : Jvm.MethodName) prog_13_method_48_code (2 : Nat) (Option.some Jvm.ClassFile.FieldType.boolean) ∈ zx_W := zx_in 1175 (by decide +kernel) rfl
theorem zw_1180 : Cond.methodLink "ValueBenchModel" (263 : Nat) ({ cls := "ValueBenchModel", name := "isOperand", desc := "(II)Z" } : Jvm.MethodName) ∈ zx_W := zx_in 1180 (by decide +kernel) rfl
theorem zw_1182 : Cond.instanceMethod ({ cls := "ValueBenchModel", name := "isOperand", desc := "(II)Z" } : Jvm.MethodName) ∈ zx_W := zx_in 1182 (by decide +kernel) rfl
theorem zw_1183 : Cond.code ({ cls := "ValueBenchModel", name := "isOperand", desc := "(II)Z" } : Jvm.MethodName) prog_13_method_50_code (3 : Nat) (Option.some Jvm.ClassFile.FieldType.boolean) ∈ zx_W := zx_in 1183 (by decide +kernel) rfl
end
section
/-! a side's world: cells 0 .. N-1 at the addresses ad k, each with its numbers σ k; zW: the machine's W with heap, locals and frame put away -/
abbrev zx_S : Type := Nat → Nat → Int32
/-- contents of a cell by (array classes, addresses, cell, numbers); how many cells; classes; words; words that are carried -/
abbrev zx_D : Type := (ClassId × ClassId → (Nat → Nat) → Nat → (Nat → Int32) → va_E) × Nat × List vw_C × List Cond × List Cond
abbrev zx_Z : Type := Program × Launch × Env × Room × State × MethodId × Array Value × List Frame × Method × Code × (State → Prop) × va_G × (ClassId × ClassId) × (Nat → Nat) × Heap
abbrev zz_p (Z : zx_Z) : Program := Z.1
abbrev zz_l (Z : zx_Z) : Launch := Z.2.1
abbrev zz_e (Z : zx_Z) : Env := Z.2.2.1
abbrev zz_R (Z : zx_Z) : Room := Z.2.2.2.1
abbrev zz_s (Z : zx_Z) : State := Z.2.2.2.2.1
abbrev zz_m (Z : zx_Z) : MethodId := Z.2.2.2.2.2.1
abbrev zz_a (Z : zx_Z) : Array Value := Z.2.2.2.2.2.2.1
abbrev zz_b (Z : zx_Z) : List Frame := Z.2.2.2.2.2.2.2.1
abbrev zz_t (Z : zx_Z) : Method := Z.2.2.2.2.2.2.2.2.1
abbrev zz_c (Z : zx_Z) : Code := Z.2.2.2.2.2.2.2.2.2.1
abbrev zz_Q (Z : zx_Z) : State → Prop := Z.2.2.2.2.2.2.2.2.2.2.1
abbrev zz_D (Z : zx_Z) : va_G := Z.2.2.2.2.2.2.2.2.2.2.2.1
abbrev zz_z (Z : zx_Z) : ClassId × ClassId := Z.2.2.2.2.2.2.2.2.2.2.2.2.1
abbrev zz_d (Z : zx_Z) : Nat → Nat := Z.2.2.2.2.2.2.2.2.2.2.2.2.2.1
abbrev zz_H (Z : zx_Z) : Heap := Z.2.2.2.2.2.2.2.2.2.2.2.2.2.2
abbrev zd_L (S : zx_D) : ClassId × ClassId → (Nat → Nat) → Nat → (Nat → Int32) → va_E := S.1
abbrev zd_N (S : zx_D) : Nat := S.2.1
abbrev zd_C (S : zx_D) : List vw_C := S.2.2.1
abbrev zd_W (S : zx_D) : List Cond := S.2.2.2.1
abbrev zd_X (S : zx_D) : List Cond := S.2.2.2.2
def zx_w (S : zx_D) (cz : ClassId × ClassId) (ad : Nat → Nat) (σ : zx_S) : va_W := (List.range (zd_N S)).map (fun k => (ad k, zd_L S cz ad k (σ k)))
def zx_A (S : zx_D) (ad : Nat → Nat) : Nat → Prop := fun q => ∃ k, k < zd_N S ∧ q = ad k
abbrev zx_I (S : zx_D) (ad : Nat → Nat) : Prop := ∀ i j, i < zd_N S → j < zd_N S → ad i = ad j → i = j
def zx_uc (σ : zx_S) (k : Nat) (g : Nat → Int32) : zx_S := fun c => if c = k then g else σ c
def zx_su (σ : zx_S) (k i : Nat) (x : Int32) : zx_S := zx_uc σ k (upd (σ k) i x)
theorem zx_w_at {S : zx_D} {cz : ClassId × ClassId} {ad : Nat → Nat} {σ : zx_S} {k : Nat} (h : k < zd_N S) : (zx_w S cz ad σ)[k]? = some (ad k, zd_L S cz ad k (σ k)) := by
  simp [zx_w, List.getElem?_map, List.getElem?_range h]
theorem zx_w_inv {S : zx_D} {cz : ClassId × ClassId} {ad : Nat → Nat} {σ : zx_S} {k : Nat} {q : Nat × va_E} (h : (zx_w S cz ad σ)[k]? = some q) : k < zd_N S ∧ q = (ad k, zd_L S cz ad k (σ k)) := by
  by_cases hk : k < zd_N S
  · exact ⟨hk, (Option.some.inj ((zx_w_at hk).symm.trans h)).symm⟩
  · rw [List.getElem?_eq_none (by simp [zx_w]; omega)] at h
    cases h
theorem zx_w_set {S : zx_D} {cz : ClassId × ClassId} {ad : Nat → Nat} {σ : zx_S} {k : Nat} (h : k < zd_N S) (g : Nat → Int32) : (zx_w S cz ad σ).set k (ad k, zd_L S cz ad k g) = zx_w S cz ad (zx_uc σ k g) := by
  apply List.ext_getElem?
  intro j
  by_cases hj : j = k
  · subst hj
    rw [zx_w_at h, List.getElem?_set_self (by simp [zx_w]; exact h)]
    simp [zx_uc]
  · rw [List.getElem?_set_ne (fun e => hj e.symm)]
    by_cases hn : j < zd_N S
    · rw [zx_w_at hn, zx_w_at hn]
      simp [zx_uc, hj]
    · rw [List.getElem?_eq_none (by simp [zx_w]; omega), List.getElem?_eq_none (by simp [zx_w]; omega)]
theorem zx_w_D {S : zx_D} {cz : ClassId × ClassId} {ad : Nat → Nat} {σ : zx_S} (hi : zx_I S ad) : va_D (zx_A S ad) (zx_w S cz ad σ) := by
  refine ⟨fun i j p q hp hq e => ?_, fun k q hk => ?_⟩
  · obtain ⟨h1, rfl⟩ := zx_w_inv hp
    obtain ⟨h2, rfl⟩ := zx_w_inv hq
    exact hi i j h1 h2 e
  · obtain ⟨h1, rfl⟩ := zx_w_inv hk
    exact ⟨k, h1, rfl⟩
abbrev zx_ty (cz : ClassId × ClassId) : List (ClassId × FieldType) := [(cz.1, .int), (cz.2, .boolean)]
/-- what a side's words must be -/
def zx_So (S : zx_D) : Prop := (∀ w ∈ zd_W S, goodWord w = true) ∧ ∀ w ∈ zd_X S, w.onTables = true ∧ ∀ (s U : State), s.WarmedH U.vm → va_Nw w s → va_Nw w U
theorem zx_good {S : zx_D} (h : zx_So S) {ws : List Cond} (hw : ∀ w ∈ ws, w ∈ zd_W S) : GoodIn (zd_W S) ws := fun w q => ⟨hw w q, good_of_word (h.1 w (hw w q))⟩
def zx_B (S : zx_D) (D : va_G) (cz : ClassId × ClassId) (ad : Nat → Nat) (σ : zx_S) (U : State) : Prop := va_P D (zd_C S) (zx_w S cz ad σ) U.heap ∧ va_K D (zd_C S) (zx_ty cz) U ∧ ∀ w ∈ zd_X S, va_Nw w U
def zx_X (S : zx_D) (Z : zx_Z) (σ : zx_S) (H : Heap) (locs : List Loc) : Prop := va_P (zz_D Z) (zd_C S) (zx_w S (zz_z Z) (zz_d Z) σ) H ∧ va_S (zx_A S (zz_d Z)) (zz_H Z) H locs
abbrev zx_ok (S : zx_D) (Z : zx_Z) (cc : ByteArray) (nL : Nat) (own : String) (fr lo : Nat) : Prop :=
  CallFix (zz_p Z) (zz_m Z) (zz_c Z) cc nL (zz_s Z) (zz_a Z) (zd_W S) own ∧ va_K (zz_D Z) (zd_C S) (zx_ty (zz_z Z)) (zz_s Z) ∧ (∀ w ∈ zd_X S, va_Nw w (zz_s Z)) ∧ zx_I S (zz_d Z) ∧ zx_So S ∧ fr ≤ (zz_R Z).frames ∧ lo ≤ (zz_R Z).locals
def zW (S : zx_D) (Z : zx_Z) (nL pc : Nat) (lv : List (Nat × Value)) (st : List Value) (σ : zx_S) : Prop :=
  ∀ (H : Heap) (locs : List Loc) (ls : Array Slot), zx_X S Z σ H locs → lv_has ls nL lv → W (zz_p Z) (zz_l Z) (zz_e Z) (zz_R Z) (zz_s Z) (zz_m Z) (zz_a Z) (zz_b Z) (zz_t Z) (zz_c Z) H locs 0 0 (zz_Q Z) (F0 (zz_m Z) pc ls st)
/-! the pure side's words -/
def zx_lt {α : Type} (x : Int32) (f : Int32 → Option α) : Option α := f x
def zx_ls {α : Type} (x : zx_S) (f : zx_S → Option α) : Option α := f x
def zx_ck {α : Type} (i : Int32) (n : Nat) (k : Option α) : Option α := if i < 0 ∨ n ≤ i.toNatClampNeg then none else k
def zx_ne {α : Type} (e : Int32) (k : Option α) : Option α := if e = 0 then none else k
def zx_zr {α : Type} (e : Int32) (k : Option α) : Option α := if e = 0 ∨ e = 1 then k else none
def zx_cp {α : Type} (s : zx_S) (c0 : Nat) (i0 : Int32) (n0 c1 : Nat) (i1 : Int32) (n1 : Nat) (n : Int32) (f : zx_S → Option α) : Option α :=
  if i0 < 0 ∨ i1 < 0 ∨ n < 0 ∨ n0 < i0.toNatClampNeg + n.toNatClampNeg ∨ n1 < i1.toNatClampNeg + n.toNatClampNeg then none else f (zx_uc s c1 (va_cpy (s c0) (s c1) i0.toNatClampNeg i1.toNatClampNeg n.toNatClampNeg))
def zx_b2 {α : Type} (o : Option (Int32 × zx_S)) (f : Int32 → zx_S → Option α) : Option α := match o with
  | none => none
  | some q => f q.1 q.2
def zx_b1 {α β : Type} (o : Option α) (f : α → Option β) : Option β := match o with
  | none => none
  | some q => f q
theorem zx_b1_so {α β : Type} {o : Option α} {f : α → Option β} {r : β} (h : zx_b1 o f = some r) : ∃ q, o = some q ∧ f q = some r := by
  cases o with
  | none => cases h
  | some q => exact ⟨q, rfl, h⟩
theorem zx_b2_so {α : Type} {o : Option (Int32 × zx_S)} {f : Int32 → zx_S → Option α} {r : α} (h : zx_b2 o f = some r) : ∃ x s, o = some (x, s) ∧ f x s = some r := by
  cases o with
  | none => cases h
  | some q => exact ⟨q.1, q.2, rfl, h⟩
theorem zx_ck_so {α : Type} {i : Int32} {n : Nat} {k : Option α} {r : α} (h : zx_ck i n k = some r) : vp_in i n ∧ k = some r := by
  unfold zx_ck at h
  split at h
  · cases h
  · rename_i q
    exact ⟨q, h⟩
theorem zx_ne_so {α : Type} {e : Int32} {k : Option α} {r : α} (h : zx_ne e k = some r) : ¬ e = 0 ∧ k = some r := by
  unfold zx_ne at h
  split at h
  · cases h
  · rename_i q
    exact ⟨q, h⟩
theorem zx_zr_so {α : Type} {e : Int32} {k : Option α} {r : α} (h : zx_zr e k = some r) : (e = 0 ∨ e = 1) ∧ k = some r := by
  unfold zx_zr at h
  split at h
  · rename_i q
    exact ⟨q, h⟩
  · cases h
theorem zx_nb {e : Int32} (h : e = 0 ∨ e = 1) : narrow .boolean (.int e) = .int e := by
  rcases h with rfl | rfl <;> decide
/-! cells -/
def zx_ai (S : zx_D) (k n : Nat) : Prop := k < zd_N S ∧ ∀ (cz : ClassId × ClassId) (ad : Nat → Nat) (f : Nat → Int32), zd_L S cz ad k f = .inl (cz.1, n, .inl f)
def zx_az (S : zx_D) (k n : Nat) : Prop := k < zd_N S ∧ ∀ (cz : ClassId × ClassId) (ad : Nat → Nat) (f : Nat → Int32), zd_L S cz ad k f = .inl (cz.2, n, .inl f)
/-- a field of a cell under a name that a method's class spells -/
def zx_fl (S : zx_D) (own : String) (idx k sl : Nat) (V : (Nat → Nat) → (Nat → Int32) → Value) : Prop := k < zd_N S ∧ ∃ (ci : Nat) (C : String) (T : u_T) (N : Nat) (ref : String), (zd_C S)[ci]? = some (C, T, N) ∧ sl < N ∧ (∀ w ∈ u_ws C T N, w ∈ zd_W S) ∧ Cond.fieldLink own idx ref (T sl).2.1 (T sl).2.2.1 ∈ zd_W S ∧ (ref = (T sl).1 ∨ Cond.sameField ref (T sl).1 (T sl).2.1 (T sl).2.2.1 ∈ zd_W S) ∧ ∀ (cz : ClassId × ClassId) (ad : Nat → Nat) (f : Nat → Int32), ∃ fs, zd_L S cz ad k f = .inr (ci, fs) ∧ fs[sl]? = some (V ad f)
/-- ... and it may be written: an int or a boolean -/
def zx_fp (S : zx_D) (own : String) (idx k sl : Nat) (ty : FieldType) : Prop := k < zd_N S ∧ ∃ (ci : Nat) (C : String) (T : u_T) (N : Nat) (t : Nat → FieldType), (zd_C S)[ci]? = some (C, T, N) ∧ sl < N ∧ (∀ w ∈ u_ws C T N, w ∈ zd_W S) ∧ (∀ k, k < N → parseFieldDescriptor (T k).2.2.1 = some (t k)) ∧ (∀ a, a < N → ∀ b, b < N → a ≠ b → (T a).2.1 ≠ (T b).2.1) ∧ Cond.fieldLink own idx (T sl).1 (T sl).2.1 (T sl).2.2.1 ∈ zd_W S ∧ (T sl).2.2.2 = false ∧ parseFieldDescriptor (T sl).2.2.1 = some ty ∧ ∀ (cz : ClassId × ClassId) (ad : Nat → Nat) (f : Nat → Int32), ∃ fs, zd_L S cz ad k f = .inr (ci, fs) ∧ sl < fs.length ∧ ∀ x : Int32, zd_L S cz ad k (upd f sl x) = .inr (ci, fs.set sl (.int x))
/-- an object's class -/
def zx_oc (S : zx_D) (k : Nat) (C : String) : Prop := k < zd_N S ∧ ∃ (ci : Nat) (T : u_T) (N : Nat), (zd_C S)[ci]? = some (C, T, N) ∧ ∀ (cz : ClassId × ClassId) (ad : Nat → Nat) (f : Nat → Int32), ∃ fs, zd_L S cz ad k f = .inr (ci, fs)
section ZR
variable {S : zx_D} {Z : zx_Z} {cc : ByteArray} {nL pc q : Nat} {own : String} {fr lo : Nat} {lv lv' : List (Nat × Value)} {rest st : List Value} {σ : zx_S} {α : Type} {r : α}
theorem zr_sub (ks : List Nat) (hl : lv_pick lv ks = lv') (h : zW S Z nL pc lv' st σ) : zW S Z nL pc lv st σ := fun H locs ls hX hv => h H locs ls hX (lv_sub hv ks hl)
theorem zr_top {x : Int32} {f : Int32 → Option α} (h : zx_lt x f = some r) (k : ∀ y : Int32, f y = some r → zW S Z nL pc lv (.int y :: rest) σ) : zW S Z nL pc lv (.int x :: rest) σ := k x h
theorem zr_ls {x : zx_S} {f : zx_S → Option α} (h : zx_ls x f = some r) (k : ∀ y : zx_S, f y = some r → zW S Z nL pc lv st y) : zW S Z nL pc lv st x := k x h
theorem zr_iconst (C : zx_ok S Z cc nL own fr lo) {n : Int} {v : Int32} (d : decode cc pc = .ok (.iconst n, 1)) (hv : Int32.ofInt n = v) (hq : pc + 1 = q) (k : zW S Z nL q lv (.int v :: st) σ) : zW S Z nL pc lv st σ := by
  subst hq
  exact fun H locs ls hX hl => lv_iconst C.1.1 C.1.2.1 d hv (k H locs ls hX hl)
theorem zr_bipush (C : zx_ok S Z cc nL own fr lo) {n : Int} {v : Int32} (d : decode cc pc = .ok (.bipush n, 2)) (hv : (Int8.ofInt n).toInt32 = v) (hq : pc + 2 = q) (k : zW S Z nL q lv (.int v :: st) σ) : zW S Z nL pc lv st σ := by
  subst hq
  exact fun H locs ls hX hl => lv_bipush C.1.1 C.1.2.1 d hv (k H locs ls hX hl)
theorem zr_sipush (C : zx_ok S Z cc nL own fr lo) {n : Int} {v : Int32} (d : decode cc pc = .ok (.sipush n, 3)) (hv : (Int16.ofInt n).toInt32 = v) (hq : pc + 3 = q) (k : zW S Z nL q lv (.int v :: st) σ) : zW S Z nL pc lv st σ := by
  subst hq
  exact fun H locs ls hX hl => lv_sipush C.1.1 C.1.2.1 d hv (k H locs ls hX hl)
theorem zr_ldcw (C : zx_ok S Z cc nL own fr lo) {n : Nat} {v : Int32} (d : decode cc pc = .ok (.ldc_w n, 3)) (hw : Cond.constant own n v ∈ zd_W S) (hq : pc + 3 = q) (k : zW S Z nL q lv (.int v :: st) σ) : zW S Z nL pc lv st σ := by
  subst hq
  exact fun H locs ls hX hl => lv_ldcw C.1.1 C.1.2.1 C.1.2.2.2.1 (C.1.2.2.2.2 _ hw) d (k H locs ls hX hl)
theorem zr_iload_n (C : zx_ok S Z cc nL own fr lo) {n : Fin 4} {i : Nat} {x : Int32} (d : decode cc pc = .ok (.iload_n n, 1)) (hi : (n : Nat) = i) (j : Nat) (hj : lv[j]? = some (i, .int x)) (hq : pc + 1 = q) (k : zW S Z nL q lv (.int x :: st) σ) : zW S Z nL pc lv st σ := by
  subst hq
  exact fun H locs ls hX hl => lv_iload_n C.1.1 C.1.2.1 d hi (lv_at hl j hj) (k H locs ls hX hl)
theorem zr_iload (C : zx_ok S Z cc nL own fr lo) {i : Nat} {x : Int32} (d : decode cc pc = .ok (.iload i, 2)) (j : Nat) (hj : lv[j]? = some (i, .int x)) (hq : pc + 2 = q) (k : zW S Z nL q lv (.int x :: st) σ) : zW S Z nL pc lv st σ := by
  subst hq
  exact fun H locs ls hX hl => lv_iload C.1.1 C.1.2.1 d (lv_at hl j hj) (k H locs ls hX hl)
theorem zr_aload_n (C : zx_ok S Z cc nL own fr lo) {n : Fin 4} {i : Nat} {x : Nat} (d : decode cc pc = .ok (.aload_n n, 1)) (hi : (n : Nat) = i) (j : Nat) (hj : lv[j]? = some (i, .ref x)) (hq : pc + 1 = q) (k : zW S Z nL q lv (.ref x :: st) σ) : zW S Z nL pc lv st σ := by
  subst hq
  exact fun H locs ls hX hl => lv_aload_n C.1.1 C.1.2.1 d hi (lv_at hl j hj) (k H locs ls hX hl)
theorem zr_aload (C : zx_ok S Z cc nL own fr lo) {i : Nat} {x : Nat} (d : decode cc pc = .ok (.aload i, 2)) (j : Nat) (hj : lv[j]? = some (i, .ref x)) (hq : pc + 2 = q) (k : zW S Z nL q lv (.ref x :: st) σ) : zW S Z nL pc lv st σ := by
  subst hq
  exact fun H locs ls hX hl => lv_aload C.1.1 C.1.2.1 d (lv_at hl j hj) (k H locs ls hX hl)
abbrev zr_f (i : Nat) : Nat × Value → Bool := fun q => !(q.1 == i) && !(q.1 + 1 == i && q.2.category == 2)
theorem zr_istore_n (C : zx_ok S Z cc nL own fr lo) {n : Fin 4} {i : Nat} {x : Int32} (d : decode cc pc = .ok (.istore_n n, 1)) (hi : (n : Nat) = i) (hn : i < nL) (hl' : (i, Value.int x) :: lv.filter (zr_f i) = lv') (hq : pc + 1 = q) (k : zW S Z nL q lv' st σ) : zW S Z nL pc lv (.int x :: st) σ := by
  subst hq
  exact fun H locs ls hX hl => lv_istore_n C.1.1 C.1.2.1 d hi hl hn hl' (fun ls' h' => k H locs ls' hX h')
theorem zr_istore (C : zx_ok S Z cc nL own fr lo) {i : Nat} {x : Int32} (d : decode cc pc = .ok (.istore i, 2)) (hn : i < nL) (hl' : (i, Value.int x) :: lv.filter (zr_f i) = lv') (hq : pc + 2 = q) (k : zW S Z nL q lv' st σ) : zW S Z nL pc lv (.int x :: st) σ := by
  subst hq
  exact fun H locs ls hX hl => lv_istore C.1.1 C.1.2.1 d hl hn hl' (fun ls' h' => k H locs ls' hX h')
theorem zr_astore_n (C : zx_ok S Z cc nL own fr lo) {n : Fin 4} {i : Nat} {x : Nat} (d : decode cc pc = .ok (.astore_n n, 1)) (hi : (n : Nat) = i) (hn : i < nL) (hl' : (i, Value.ref x) :: lv.filter (zr_f i) = lv') (hq : pc + 1 = q) (k : zW S Z nL q lv' st σ) : zW S Z nL pc lv (.ref x :: st) σ := by
  subst hq
  exact fun H locs ls hX hl => lv_astore_n C.1.1 C.1.2.1 d hi hl hn hl' (fun ls' h' => k H locs ls' hX h')
theorem zr_astore (C : zx_ok S Z cc nL own fr lo) {i : Nat} {x : Nat} (d : decode cc pc = .ok (.astore i, 2)) (hn : i < nL) (hl' : (i, Value.ref x) :: lv.filter (zr_f i) = lv') (hq : pc + 2 = q) (k : zW S Z nL q lv' st σ) : zW S Z nL pc lv (.ref x :: st) σ := by
  subst hq
  exact fun H locs ls hX hl => lv_astore C.1.1 C.1.2.1 d hl hn hl' (fun ls' h' => k H locs ls' hX h')
theorem zr_iinc (C : zx_ok S Z cc nL own fr lo) {i : Nat} {n : Int} {x y : Int32} {f : Int32 → Option α} (d : decode cc pc = .ok (.iinc i n, 3)) (h : zx_lt (x + y) f = some r) (hy : Int32.ofInt n = y) (j : Nat) (hj : lv[j]? = some (i, .int x)) (hn : i < nL) {lw : Int32 → List (Nat × Value)} (hl' : ∀ v, (i, Value.int v) :: lv.filter (zr_f i) = lw v) (hq : pc + 3 = q) (k : ∀ v, f v = some r → zW S Z nL q (lw v) st σ) : zW S Z nL pc lv st σ := by
  subst hq
  subst hy
  exact fun H locs ls hX hl => lv_iinc C.1.1 C.1.2.1 d hl hj rfl hn (hl' _) (fun ls' h' => k _ h H locs ls' hX h')

theorem zr_iadd (C : zx_ok S Z cc nL own fr lo) {x y : Int32} (d : decode cc pc = .ok (.iadd, 1)) (hq : pc + 1 = q) (k : zW S Z nL q lv (.int (x + y) :: st) σ) : zW S Z nL pc lv (.int y :: .int x :: st) σ := by
  subst hq
  exact fun H locs ls hX hl => lv_iadd C.1.1 C.1.2.1 d (k H locs ls hX hl)
theorem zr_isub (C : zx_ok S Z cc nL own fr lo) {x y : Int32} (d : decode cc pc = .ok (.isub, 1)) (hq : pc + 1 = q) (k : zW S Z nL q lv (.int (x - y) :: st) σ) : zW S Z nL pc lv (.int y :: .int x :: st) σ := by
  subst hq
  exact fun H locs ls hX hl => lv_isub C.1.1 C.1.2.1 d (k H locs ls hX hl)
theorem zr_imul (C : zx_ok S Z cc nL own fr lo) {x y : Int32} (d : decode cc pc = .ok (.imul, 1)) (hq : pc + 1 = q) (k : zW S Z nL q lv (.int (x * y) :: st) σ) : zW S Z nL pc lv (.int y :: .int x :: st) σ := by
  subst hq
  exact fun H locs ls hX hl => lv_imul C.1.1 C.1.2.1 d (k H locs ls hX hl)
theorem zr_iand (C : zx_ok S Z cc nL own fr lo) {x y : Int32} (d : decode cc pc = .ok (.iand, 1)) (hq : pc + 1 = q) (k : zW S Z nL q lv (.int (x &&& y) :: st) σ) : zW S Z nL pc lv (.int y :: .int x :: st) σ := by
  subst hq
  exact fun H locs ls hX hl => lv_iand C.1.1 C.1.2.1 d (k H locs ls hX hl)
theorem zr_ior (C : zx_ok S Z cc nL own fr lo) {x y : Int32} (d : decode cc pc = .ok (.ior, 1)) (hq : pc + 1 = q) (k : zW S Z nL q lv (.int (x ||| y) :: st) σ) : zW S Z nL pc lv (.int y :: .int x :: st) σ := by
  subst hq
  exact fun H locs ls hX hl => lv_ior C.1.1 C.1.2.1 d (k H locs ls hX hl)
theorem zr_ixor (C : zx_ok S Z cc nL own fr lo) {x y : Int32} (d : decode cc pc = .ok (.ixor, 1)) (hq : pc + 1 = q) (k : zW S Z nL q lv (.int (x ^^^ y) :: st) σ) : zW S Z nL pc lv (.int y :: .int x :: st) σ := by
  subst hq
  exact fun H locs ls hX hl => lv_ixor C.1.1 C.1.2.1 d (k H locs ls hX hl)
theorem zr_ishl (C : zx_ok S Z cc nL own fr lo) {x y : Int32} (d : decode cc pc = .ok (.ishl, 1)) (hq : pc + 1 = q) (k : zW S Z nL q lv (.int (x <<< (y &&& 31)) :: st) σ) : zW S Z nL pc lv (.int y :: .int x :: st) σ := by
  subst hq
  exact fun H locs ls hX hl => lv_ishl C.1.1 C.1.2.1 d (k H locs ls hX hl)
theorem zr_ishr (C : zx_ok S Z cc nL own fr lo) {x y : Int32} (d : decode cc pc = .ok (.ishr, 1)) (hq : pc + 1 = q) (k : zW S Z nL q lv (.int (x >>> (y &&& 31)) :: st) σ) : zW S Z nL pc lv (.int y :: .int x :: st) σ := by
  subst hq
  exact fun H locs ls hX hl => lv_ishr C.1.1 C.1.2.1 d (k H locs ls hX hl)
theorem zr_idiv (C : zx_ok S Z cc nL own fr lo) {x y : Int32} (d : decode cc pc = .ok (.idiv, 1)) (hn : ¬ y = 0) (hq : pc + 1 = q) (k : zW S Z nL q lv (.int (x / y) :: st) σ) : zW S Z nL pc lv (.int y :: .int x :: st) σ := by
  subst hq
  exact fun H locs ls hX hl => lv_idiv C.1.1 C.1.2.1 d hn (k H locs ls hX hl)
theorem zr_irem (C : zx_ok S Z cc nL own fr lo) {x y : Int32} (d : decode cc pc = .ok (.irem, 1)) (hn : ¬ y = 0) (hq : pc + 1 = q) (k : zW S Z nL q lv (.int (x - x / y * y) :: st) σ) : zW S Z nL pc lv (.int y :: .int x :: st) σ := by
  subst hq
  exact fun H locs ls hX hl => lv_irem C.1.1 C.1.2.1 d hn (k H locs ls hX hl)
theorem zr_iushr (C : zx_ok S Z cc nL own fr lo) {x y : Int32} (d : decode cc pc = .ok (.iushr, 1)) (hq : pc + 1 = q) (k : zW S Z nL q lv (.int ((x.toUInt32 >>> (y.toUInt32 &&& Int32.toUInt32 31)).toInt32) :: st) σ) : zW S Z nL pc lv (.int y :: .int x :: st) σ := by
  subst hq
  exact fun H locs ls hX hl => lv_iushr C.1.1 C.1.2.1 d rfl (k H locs ls hX hl)
theorem zr_ineg (C : zx_ok S Z cc nL own fr lo) {x : Int32} (d : decode cc pc = .ok (.ineg, 1)) (hq : pc + 1 = q) (k : zW S Z nL q lv (.int (-x) :: st) σ) : zW S Z nL pc lv (.int x :: st) σ := by
  subst hq
  exact fun H locs ls hX hl => lv_ineg C.1.1 C.1.2.1 d (k H locs ls hX hl)
theorem zr_dup (C : zx_ok S Z cc nL own fr lo) {va : Value} (d : decode cc pc = .ok (.dup, 1)) (ha : va.category = 1) (hq : pc + 1 = q) (k : zW S Z nL q lv (va :: va :: st) σ) : zW S Z nL pc lv (va :: st) σ := by
  subst hq
  exact fun H locs ls hX hl => lv_dup C.1.1 C.1.2.1 d ha (k H locs ls hX hl)
theorem zr_pop (C : zx_ok S Z cc nL own fr lo) {va : Value} (d : decode cc pc = .ok (.pop, 1)) (ha : va.category = 1) (hq : pc + 1 = q) (k : zW S Z nL q lv st σ) : zW S Z nL pc lv (va :: st) σ := by
  subst hq
  exact fun H locs ls hX hl => lv_pop C.1.1 C.1.2.1 d ha (k H locs ls hX hl)
theorem zr_dup_x1 (C : zx_ok S Z cc nL own fr lo) {va vb : Value} (d : decode cc pc = .ok (.dup_x1, 1)) (ha : va.category = 1) (hb : vb.category = 1) (hq : pc + 1 = q) (k : zW S Z nL q lv (va :: vb :: va :: st) σ) : zW S Z nL pc lv (va :: vb :: st) σ := by
  subst hq
  exact fun H locs ls hX hl => lv_dup_x1 C.1.1 C.1.2.1 d ha hb (k H locs ls hX hl)
theorem zr_dup2 (C : zx_ok S Z cc nL own fr lo) {va vb : Value} (d : decode cc pc = .ok (.dup2, 1)) (ha : va.category = 1) (hb : vb.category = 1) (hq : pc + 1 = q) (k : zW S Z nL q lv (va :: vb :: va :: vb :: st) σ) : zW S Z nL pc lv (va :: vb :: st) σ := by
  subst hq
  exact fun H locs ls hX hl => lv_dup2_11 C.1.1 C.1.2.1 d ha hb (k H locs ls hX hl)
theorem zr_goto (C : zx_ok S Z cc nL own fr lo) {off : Int} (d : decode cc pc = .ok (.goto off, 3)) (hq : (pc : Int) + off = (q : Int)) (k : zW S Z nL q lv st σ) : zW S Z nL pc lv st σ :=
  fun H locs ls hX hl => lv_goto C.1.1 C.1.2.1 d hq (k H locs ls hX hl)
theorem zr_ifnonnull (C : zx_ok S Z cc nL own fr lo) {x : Nat} {off : Int} (d : decode cc pc = .ok (.ifnonnull off, 3)) (hq : (pc : Int) + off = (q : Int)) (k : zW S Z nL q lv st σ) : zW S Z nL pc lv (.ref x :: st) σ :=
  fun H locs ls hX hl => lv_ifnonnull C.1.1 C.1.2.1 d hq (k H locs ls hX hl)
theorem zr_ifnull (C : zx_ok S Z cc nL own fr lo) {x : Nat} {off : Int} (d : decode cc pc = .ok (.ifnull off, 3)) (hq : pc + 3 = q) (k : zW S Z nL q lv st σ) : zW S Z nL pc lv (.ref x :: st) σ := by
  subst hq
  exact fun H locs ls hX hl => lv_ifnull C.1.1 C.1.2.1 d (k H locs ls hX hl)
theorem zr_ifnonnullN (C : zx_ok S Z cc nL own fr lo) {off : Int} (d : decode cc pc = .ok (.ifnonnull off, 3)) (hq : pc + 3 = q) (k : zW S Z nL q lv st σ) : zW S Z nL pc lv (.null :: st) σ := by
  subst hq
  exact fun H locs ls hX hl => lv_ifnonnullN C.1.1 C.1.2.1 d (k H locs ls hX hl)
theorem zr_ifnullN (C : zx_ok S Z cc nL own fr lo) {off : Int} (d : decode cc pc = .ok (.ifnull off, 3)) (hq : (pc : Int) + off = (q : Int)) (k : zW S Z nL q lv st σ) : zW S Z nL pc lv (.null :: st) σ :=
  fun H locs ls hX hl => lv_ifnullN C.1.1 C.1.2.1 d hq (k H locs ls hX hl)
theorem zr_if_eq (C : zx_ok S Z cc nL own fr lo) {x : Int32} {off : Int} {tgt : Nat} {dc : Decidable (x = 0)} {A B : Option α} (d : decode cc pc = .ok (.ifCond .eq off, 3)) (h : @ite _ (x = 0) dc A B = some r) (ht : (pc : Int) + off = (tgt : Int)) (hq : pc + 3 = q) (kt : A = some r → zW S Z nL tgt lv st σ) (kf : B = some r → zW S Z nL q lv st σ) : zW S Z nL pc lv (.int x :: st) σ := by
  subst hq
  intro H locs ls hX hl
  refine lv_if_eq C.1.1 C.1.2.1 d ht (fun c => kt ?_ H locs ls hX hl) (fun c => kf ?_ H locs ls hX hl)
  · rw [if_pos c] at h; exact h
  · rw [if_neg c] at h; exact h
theorem zr_icmp_eq (C : zx_ok S Z cc nL own fr lo) {x y : Int32} {off : Int} {tgt : Nat} {dc : Decidable (x = y)} {A B : Option α} (d : decode cc pc = .ok (.if_icmp .eq off, 3)) (h : @ite _ (x = y) dc A B = some r) (ht : (pc : Int) + off = (tgt : Int)) (hq : pc + 3 = q) (kt : A = some r → zW S Z nL tgt lv st σ) (kf : B = some r → zW S Z nL q lv st σ) : zW S Z nL pc lv (.int y :: .int x :: st) σ := by
  subst hq
  intro H locs ls hX hl
  refine lv_icmp_eq C.1.1 C.1.2.1 d ht (fun c => kt ?_ H locs ls hX hl) (fun c => kf ?_ H locs ls hX hl)
  · rw [if_pos c] at h; exact h
  · rw [if_neg c] at h; exact h
theorem zr_if_ne (C : zx_ok S Z cc nL own fr lo) {x : Int32} {off : Int} {tgt : Nat} {dc : Decidable (x = 0)} {A B : Option α} (d : decode cc pc = .ok (.ifCond .ne off, 3)) (h : @ite _ (x = 0) dc A B = some r) (ht : (pc : Int) + off = (tgt : Int)) (hq : pc + 3 = q) (kt : B = some r → zW S Z nL tgt lv st σ) (kf : A = some r → zW S Z nL q lv st σ) : zW S Z nL pc lv (.int x :: st) σ := by
  subst hq
  intro H locs ls hX hl
  refine lv_if_ne C.1.1 C.1.2.1 d ht (fun c => kt ?_ H locs ls hX hl) (fun c => kf ?_ H locs ls hX hl)
  · rw [if_neg c] at h; exact h
  · rw [if_pos c] at h; exact h
theorem zr_icmp_ne (C : zx_ok S Z cc nL own fr lo) {x y : Int32} {off : Int} {tgt : Nat} {dc : Decidable (x = y)} {A B : Option α} (d : decode cc pc = .ok (.if_icmp .ne off, 3)) (h : @ite _ (x = y) dc A B = some r) (ht : (pc : Int) + off = (tgt : Int)) (hq : pc + 3 = q) (kt : B = some r → zW S Z nL tgt lv st σ) (kf : A = some r → zW S Z nL q lv st σ) : zW S Z nL pc lv (.int y :: .int x :: st) σ := by
  subst hq
  intro H locs ls hX hl
  refine lv_icmp_ne C.1.1 C.1.2.1 d ht (fun c => kt ?_ H locs ls hX hl) (fun c => kf ?_ H locs ls hX hl)
  · rw [if_neg c] at h; exact h
  · rw [if_pos c] at h; exact h
theorem zr_if_lt (C : zx_ok S Z cc nL own fr lo) {x : Int32} {off : Int} {tgt : Nat} {dc : Decidable (x < 0)} {A B : Option α} (d : decode cc pc = .ok (.ifCond .lt off, 3)) (h : @ite _ (x < 0) dc A B = some r) (ht : (pc : Int) + off = (tgt : Int)) (hq : pc + 3 = q) (kt : A = some r → zW S Z nL tgt lv st σ) (kf : B = some r → zW S Z nL q lv st σ) : zW S Z nL pc lv (.int x :: st) σ := by
  subst hq
  intro H locs ls hX hl
  refine lv_if_lt C.1.1 C.1.2.1 d ht (fun c => kt ?_ H locs ls hX hl) (fun c => kf ?_ H locs ls hX hl)
  · rw [if_pos c] at h; exact h
  · rw [if_neg c] at h; exact h
theorem zr_icmp_lt (C : zx_ok S Z cc nL own fr lo) {x y : Int32} {off : Int} {tgt : Nat} {dc : Decidable (x < y)} {A B : Option α} (d : decode cc pc = .ok (.if_icmp .lt off, 3)) (h : @ite _ (x < y) dc A B = some r) (ht : (pc : Int) + off = (tgt : Int)) (hq : pc + 3 = q) (kt : A = some r → zW S Z nL tgt lv st σ) (kf : B = some r → zW S Z nL q lv st σ) : zW S Z nL pc lv (.int y :: .int x :: st) σ := by
  subst hq
  intro H locs ls hX hl
  refine lv_icmp_lt C.1.1 C.1.2.1 d ht (fun c => kt ?_ H locs ls hX hl) (fun c => kf ?_ H locs ls hX hl)
  · rw [if_pos c] at h; exact h
  · rw [if_neg c] at h; exact h
theorem zr_if_ge (C : zx_ok S Z cc nL own fr lo) {x : Int32} {off : Int} {tgt : Nat} {dc : Decidable (0 ≤ x)} {A B : Option α} (d : decode cc pc = .ok (.ifCond .ge off, 3)) (h : @ite _ (0 ≤ x) dc A B = some r) (ht : (pc : Int) + off = (tgt : Int)) (hq : pc + 3 = q) (kt : A = some r → zW S Z nL tgt lv st σ) (kf : B = some r → zW S Z nL q lv st σ) : zW S Z nL pc lv (.int x :: st) σ := by
  subst hq
  intro H locs ls hX hl
  refine lv_if_ge C.1.1 C.1.2.1 d ht (fun c => kt ?_ H locs ls hX hl) (fun c => kf ?_ H locs ls hX hl)
  · rw [if_pos c] at h; exact h
  · rw [if_neg c] at h; exact h
theorem zr_icmp_ge (C : zx_ok S Z cc nL own fr lo) {x y : Int32} {off : Int} {tgt : Nat} {dc : Decidable (y ≤ x)} {A B : Option α} (d : decode cc pc = .ok (.if_icmp .ge off, 3)) (h : @ite _ (y ≤ x) dc A B = some r) (ht : (pc : Int) + off = (tgt : Int)) (hq : pc + 3 = q) (kt : A = some r → zW S Z nL tgt lv st σ) (kf : B = some r → zW S Z nL q lv st σ) : zW S Z nL pc lv (.int y :: .int x :: st) σ := by
  subst hq
  intro H locs ls hX hl
  refine lv_icmp_ge C.1.1 C.1.2.1 d ht (fun c => kt ?_ H locs ls hX hl) (fun c => kf ?_ H locs ls hX hl)
  · rw [if_pos c] at h; exact h
  · rw [if_neg c] at h; exact h
theorem zr_if_gt (C : zx_ok S Z cc nL own fr lo) {x : Int32} {off : Int} {tgt : Nat} {dc : Decidable (0 < x)} {A B : Option α} (d : decode cc pc = .ok (.ifCond .gt off, 3)) (h : @ite _ (0 < x) dc A B = some r) (ht : (pc : Int) + off = (tgt : Int)) (hq : pc + 3 = q) (kt : A = some r → zW S Z nL tgt lv st σ) (kf : B = some r → zW S Z nL q lv st σ) : zW S Z nL pc lv (.int x :: st) σ := by
  subst hq
  intro H locs ls hX hl
  refine lv_if_gt C.1.1 C.1.2.1 d ht (fun c => kt ?_ H locs ls hX hl) (fun c => kf ?_ H locs ls hX hl)
  · rw [if_pos c] at h; exact h
  · rw [if_neg c] at h; exact h
theorem zr_icmp_gt (C : zx_ok S Z cc nL own fr lo) {x y : Int32} {off : Int} {tgt : Nat} {dc : Decidable (y < x)} {A B : Option α} (d : decode cc pc = .ok (.if_icmp .gt off, 3)) (h : @ite _ (y < x) dc A B = some r) (ht : (pc : Int) + off = (tgt : Int)) (hq : pc + 3 = q) (kt : A = some r → zW S Z nL tgt lv st σ) (kf : B = some r → zW S Z nL q lv st σ) : zW S Z nL pc lv (.int y :: .int x :: st) σ := by
  subst hq
  intro H locs ls hX hl
  refine lv_icmp_gt C.1.1 C.1.2.1 d ht (fun c => kt ?_ H locs ls hX hl) (fun c => kf ?_ H locs ls hX hl)
  · rw [if_pos c] at h; exact h
  · rw [if_neg c] at h; exact h
theorem zr_if_le (C : zx_ok S Z cc nL own fr lo) {x : Int32} {off : Int} {tgt : Nat} {dc : Decidable (x ≤ 0)} {A B : Option α} (d : decode cc pc = .ok (.ifCond .le off, 3)) (h : @ite _ (x ≤ 0) dc A B = some r) (ht : (pc : Int) + off = (tgt : Int)) (hq : pc + 3 = q) (kt : A = some r → zW S Z nL tgt lv st σ) (kf : B = some r → zW S Z nL q lv st σ) : zW S Z nL pc lv (.int x :: st) σ := by
  subst hq
  intro H locs ls hX hl
  refine lv_if_le C.1.1 C.1.2.1 d ht (fun c => kt ?_ H locs ls hX hl) (fun c => kf ?_ H locs ls hX hl)
  · rw [if_pos c] at h; exact h
  · rw [if_neg c] at h; exact h
theorem zr_icmp_le (C : zx_ok S Z cc nL own fr lo) {x y : Int32} {off : Int} {tgt : Nat} {dc : Decidable (x ≤ y)} {A B : Option α} (d : decode cc pc = .ok (.if_icmp .le off, 3)) (h : @ite _ (x ≤ y) dc A B = some r) (ht : (pc : Int) + off = (tgt : Int)) (hq : pc + 3 = q) (kt : A = some r → zW S Z nL tgt lv st σ) (kf : B = some r → zW S Z nL q lv st σ) : zW S Z nL pc lv (.int y :: .int x :: st) σ := by
  subst hq
  intro H locs ls hX hl
  refine lv_icmp_le C.1.1 C.1.2.1 d ht (fun c => kt ?_ H locs ls hX hl) (fun c => kf ?_ H locs ls hX hl)
  · rw [if_pos c] at h; exact h
  · rw [if_neg c] at h; exact h
theorem zr_lookup (C : zx_ok S Z cc nL own fr lo) {dflt : Int} {ps : Array (Int × Int)} {len : Nat} {x : Int32} {off : Int} {tgt : Nat} (d : decode cc pc = .ok (.lookupswitch dflt ps, len)) (hp : (ps.toList.zip (ps.toList.drop 1)).all (fun (a, next) => a.1 < next.1) = true) (ho : Op.lookupswitch.offset ps.toList dflt x.toInt = off) (ht : (pc : Int) + off = (tgt : Int)) (k : zW S Z nL tgt lv st σ) : zW S Z nL pc lv (.int x :: st) σ :=
  fun H locs ls hX hl => lv_lookup C.1.1 C.1.2.1 d hp ho ht (k H locs ls hX hl)
theorem zr_tableOut (C : zx_ok S Z cc nL own fr lo) {dflt lw hi : Int} {offs : Array Int} {len : Nat} {x : Int32} {tgt : Nat} (d : decode cc pc = .ok (.tableswitch dflt lw hi offs, len)) (h : x.toInt < lw ∨ hi < x.toInt) (ht : (pc : Int) + dflt = (tgt : Int)) (k : zW S Z nL tgt lv st σ) : zW S Z nL pc lv (.int x :: st) σ :=
  fun H locs ls hX hl => lv_tableOut C.1.1 C.1.2.1 d h ht (k H locs ls hX hl)
theorem zr_tableIn (C : zx_ok S Z cc nL own fr lo) {dflt lw hi : Int} {offs : Array Int} {len : Nat} {x : Int32} {off : Int} {tgt : Nat} (d : decode cc pc = .ok (.tableswitch dflt lw hi offs, len)) (h1 : ¬ x.toInt < lw) (h2 : ¬ hi < x.toInt) (ho : offs[(x.toInt - lw).toNat]? = some off) (ht : (pc : Int) + off = (tgt : Int)) (k : zW S Z nL tgt lv st σ) : zW S Z nL pc lv (.int x :: st) σ :=
  fun H locs ls hX hl => lv_tableIn C.1.1 C.1.2.1 d h1 h2 ho ht (k H locs ls hX hl)
/-! the world -/
theorem zr_iald (C : zx_ok S Z cc nL own fr lo) {k n : Nat} {i : Int32} (d : decode cc pc = .ok (.iaload, 1)) (ha : zx_ai S k n) (hin : vp_in i n) (hq : pc + 1 = q) (kk : zW S Z nL q lv (.int (σ k i.toNatClampNeg) :: st) σ) : zW S Z nL pc lv (.int i :: .ref (zz_d Z k) :: st) σ := by
  subst hq
  exact fun H locs ls hX hl => va_iald C.1.1 C.1.2.1 C.2.1 hX.1 k 0 (by rw [zx_w_at ha.1, ha.2]) rfl hin d (kk H locs ls hX hl)
theorem zr_zald (C : zx_ok S Z cc nL own fr lo) {k n : Nat} {i : Int32} (d : decode cc pc = .ok (.baload, 1)) (ha : zx_az S k n) (hin : vp_in i n) (hq : pc + 1 = q) (kk : zW S Z nL q lv (.int (σ k i.toNatClampNeg) :: st) σ) : zW S Z nL pc lv (.int i :: .ref (zz_d Z k) :: st) σ := by
  subst hq
  exact fun H locs ls hX hl => va_zald C.1.1 C.1.2.1 C.2.1 hX.1 k 1 (by rw [zx_w_at ha.1, ha.2]) rfl hin d (kk H locs ls hX hl)
theorem zr_iast (C : zx_ok S Z cc nL own fr lo) {k n : Nat} {i x : Int32} (d : decode cc pc = .ok (.iastore, 1)) (ha : zx_ai S k n) (hin : vp_in i n) (hq : pc + 1 = q) (kk : zW S Z nL q lv st (zx_su σ k i.toNatClampNeg x)) : zW S Z nL pc lv (.int x :: .int i :: .ref (zz_d Z k) :: st) σ := by
  subst hq
  intro H locs ls hX hl
  refine va_iast C.1.1 C.1.2.1 C.2.1 hX.1 (zx_w_D C.2.2.2.1) hX.2 k 0 (by rw [zx_w_at ha.1, ha.2]) rfl hin d (fun H1 locs1 hP _ hS => kk H1 locs1 ls ⟨?_, hS⟩ hl)
  have e := zx_w_set (cz := zz_z Z) (ad := zz_d Z) (σ := σ) ha.1 (upd (σ k) i.toNatClampNeg x)
  rw [ha.2] at e
  unfold zx_su
  rw [← e]
  exact hP
theorem zr_zast (C : zx_ok S Z cc nL own fr lo) {k n : Nat} {i x : Int32} (d : decode cc pc = .ok (.bastore, 1)) (ha : zx_az S k n) (hin : vp_in i n) (hq : pc + 1 = q) (kk : zW S Z nL q lv st (zx_su σ k i.toNatClampNeg (vp_nar .boolean x))) : zW S Z nL pc lv (.int x :: .int i :: .ref (zz_d Z k) :: st) σ := by
  subst hq
  intro H locs ls hX hl
  refine va_zast C.1.1 C.1.2.1 C.2.1 hX.1 (zx_w_D C.2.2.2.1) hX.2 k 1 (by rw [zx_w_at ha.1, ha.2]) rfl hin d (fun H1 locs1 hP _ hS => kk H1 locs1 ls ⟨?_, hS⟩ hl)
  have e := zx_w_set (cz := zz_z Z) (ad := zz_d Z) (σ := σ) ha.1 (upd (σ k) i.toNatClampNeg (vp_nar .boolean x))
  rw [ha.2] at e
  unfold zx_su
  rw [← e]
  exact hP
theorem zr_alen (C : zx_ok S Z cc nL own fr lo) {k n : Nat} {x : Int32} (d : decode cc pc = .ok (.arraylength, 1)) (ha : zx_ai S k n) (hx : Int32.ofNat n = x) (hq : pc + 1 = q) (kk : zW S Z nL q lv (.int x :: st) σ) : zW S Z nL pc lv (.ref (zz_d Z k) :: st) σ := by
  subst hq
  exact fun H locs ls hX hl => va_alen C.1.1 C.1.2.1 C.2.1 hX.1 k 0 (by rw [zx_w_at ha.1, ha.2]) rfl hx d (kk H locs ls hX hl)
theorem zr_get (C : zx_ok S Z cc nL own fr lo) {idx k sl : Nat} {V : (Nat → Nat) → (Nat → Int32) → Value} (d : decode cc pc = .ok (.getfield idx, 3)) (hf : zx_fl S own idx k sl V) (hq : pc + 3 = q) (kk : zW S Z nL q lv (V (zz_d Z) (σ k) :: st) σ) : zW S Z nL pc lv (.ref (zz_d Z k) :: st) σ := by
  subst hq
  obtain ⟨hk, ci, K, T, N, ref, hc, hsl, hu, hlk, hsm, hL⟩ := hf
  obtain ⟨fs, h1, h2⟩ := hL (zz_z Z) (zz_d Z) (σ k)
  refine fun H locs ls hX hl => va_get C.1.1 C.1.2.1 C.1.2.2.2.2 hu C.1.2.2.2.1 C.2.1 hX.1 k (by rw [zx_w_at hk, h1]) hc sl hsl (C.1.2.2.2.2 _ hlk) ?_ h2 d (kk H locs ls hX hl)
  intro y hy
  rcases hsm with h | h
  · rw [h]; exact hy
  · exact u_same (C.1.2.2.2.2 _ h) y hy
theorem zr_put (C : zx_ok S Z cc nL own fr lo) {idx k sl : Nat} {ty : FieldType} {x : Int32} (d : decode cc pc = .ok (.putfield idx, 3)) (hf : zx_fp S own idx k sl ty) (hn : narrow ty (.int x) = .int x) (hfit : fits ty (.int x) = true) (hq : pc + 3 = q) (kk : zW S Z nL q lv st (zx_su σ k sl x)) : zW S Z nL pc lv (.int x :: .ref (zz_d Z k) :: st) σ := by
  subst hq
  obtain ⟨hk, ci, K, T, N, t, hc, hsl, hu, ht, hnm, hlk, hfin, hty, hL⟩ := hf
  obtain ⟨fs, h1, h2, h3⟩ := hL (zz_z Z) (zz_d Z) (σ k)
  intro H locs ls hX hl
  refine va_put C.1.1 C.1.2.1 C.1.2.2.2.2 hu t ht hnm C.1.2.2.2.1 C.2.1 hX.1 (zx_w_D C.2.2.2.1) hX.2 k (by rw [zx_w_at hk, h1]) hc sl hsl (C.1.2.2.2.2 _ hlk) (fun _ h => h) hfin hty hn hfit h2 d (fun H1 locs1 hP _ hS => kk H1 locs1 ls ⟨?_, hS⟩ hl)
  have e := zx_w_set (cz := zz_z Z) (ad := zz_d Z) (σ := σ) hk (upd (σ k) sl x)
  rw [h3] at e
  unfold zx_su
  rw [← e]
  exact hP
theorem zr_copy (C : zx_ok S Z cc nL own fr lo) {idx k0 k1 n0 n1 : Nat} {i0 i1 n : Int32} {f : zx_S → Option α} (d : decode cc pc = .ok (.invokestatic idx, 3)) (h : zx_cp σ k0 i0 n0 k1 i1 n1 n f = some r) (h0 : zx_ai S k0 n0) (h1 : zx_ai S k1 n1) (hlk : Cond.methodLink own idx arraycopyName ∈ zd_W S) (hnat : Cond.native arraycopyName ∈ zd_W S) (hstat : Cond.static arraycopyName ∈ zd_W S) (hini : Cond.initialized "java/lang/System" ∈ zd_W S) (hfr : 1 ≤ fr) (hlo : (st.map fun v => v.category).sum + (nativeFrameWords "java/lang/System" "arraycopy" 5 + 11) ≤ lo) (hq : pc + 3 = q) (kk : ∀ y : zx_S, f y = some r → zW S Z nL q lv st y) : zW S Z nL pc lv (.int n :: .int i1 :: .ref (zz_d Z k1) :: .int i0 :: .ref (zz_d Z k0) :: st) σ := by
  subst hq
  unfold zx_cp at h
  split at h
  · cases h
  · rename_i hno
    have a1 : ¬ i0 < 0 := fun z => hno (Or.inl z)
    have a2 : ¬ i1 < 0 := fun z => hno (Or.inr (Or.inl z))
    have a3 : ¬ n < 0 := fun z => hno (Or.inr (Or.inr (Or.inl z)))
    have a4 : i0.toNatClampNeg + n.toNatClampNeg ≤ n0 := Nat.not_lt.mp (fun z => hno (Or.inr (Or.inr (Or.inr (Or.inl z)))))
    have a5 : i1.toNatClampNeg + n.toNatClampNeg ≤ n1 := Nat.not_lt.mp (fun z => hno (Or.inr (Or.inr (Or.inr (Or.inr z)))))
    intro H locs ls hX hl
    refine va_copyi C.1.1 C.1.2.1 (C.1.2.2.1.trans hl.1.symm) C.1.2.2.2.1 (C.1.2.2.2.2 _ hlk) (C.1.2.2.2.2 _ hnat) (C.1.2.2.2.2 _ hstat) (C.1.2.2.2.2 _ hini) C.2.1 hX.1 (zx_w_D C.2.2.2.1) hX.2 k0 k1 0 0 (by rw [zx_w_at h0.1, h0.2]) (by rw [zx_w_at h1.1, h1.2]) rfl rfl rfl a1 a2 a3 a4 a5 (fun _ _ => rfl) (Nat.le_trans hfr C.2.2.2.2.2.1) (Nat.le_trans hlo C.2.2.2.2.2.2) d (fun H1 locs1 hP _ hS => kk _ h H1 locs1 ls ⟨?_, hS⟩ hl)
    have e := zx_w_set (cz := zz_z Z) (ad := zz_d Z) (σ := σ) h1.1 (va_cpy (σ k0) (σ k1) i0.toNatClampNeg i1.toNatClampNeg n.toNatClampNeg)
    rw [h1.2] at e
    rw [← e]
    exact hP
end ZR
end
section
/-! contracts over a side's world, and calls -/
def zx_rI (S : zx_D) (Z : zx_Z) (cc : ByteArray) (nL : Nat) (ty : FieldType) (v : Int32) (σ : zx_S) : Prop := ∀ (pc : Nat) (lv : List (Nat × Value)), decode cc pc = .ok (.ireturn, 1) → narrow ty (.int v) = .int v → zW S Z nL pc lv [.int v] σ
def zx_rV (S : zx_D) (Z : zx_Z) (cc : ByteArray) (nL : Nat) (σ : zx_S) : Prop := ∀ (pc : Nat) (lv : List (Nat × Value)), decode cc pc = .ok (.return_, 1) → zW S Z nL pc lv [] σ
def zx_rA (S : zx_D) (Z : zx_Z) (cc : ByteArray) (nL : Nat) (k : Nat) (σ : zx_S) : Prop := ∀ (pc : Nat) (lv : List (Nat × Value)), decode cc pc = .ok (.areturn, 1) → zW S Z nL pc lv [.ref (zz_d Z k)] σ
def zx_MI (S : zx_D) (l : Launch) (D : va_G) (cz : ClassId × ClassId) (ad : Nat → Nat) (y : MethodName) (cc : ByteArray) (nL : Nat) (ty : FieldType) (fr lo : Nat) (av : List Value) (s0 : zx_S) (r : Int32) (s1 : zx_S) : Prop := Met l y (Cond.code y cc nL (some ty) :: zd_W S) { frames := fr, cells := 0, slots := 0, locals := lo } (va_Pc av (zx_B S D cz ad s0)) (va_Qi (fun (r' : Int32) (s' : zx_S) => r' = r ∧ s' = s1) (fun s' t => zx_B S D cz ad s' t) (zx_A S ad)) 0 0 (zx_A S ad)
def zx_MV (S : zx_D) (l : Launch) (D : va_G) (cz : ClassId × ClassId) (ad : Nat → Nat) (y : MethodName) (cc : ByteArray) (nL : Nat) (fr lo : Nat) (av : List Value) (s0 s1 : zx_S) : Prop := Met l y (Cond.code y cc nL none :: zd_W S) { frames := fr, cells := 0, slots := 0, locals := lo } (va_Pc av (zx_B S D cz ad s0)) (va_Qv (fun (s' : zx_S) => s' = s1) (fun s' t => zx_B S D cz ad s' t) (zx_A S ad)) 0 0 (zx_A S ad)
def zx_MA (S : zx_D) (l : Launch) (D : va_G) (cz : ClassId × ClassId) (ad : Nat → Nat) (y : MethodName) (cc : ByteArray) (nL : Nat) (ty : FieldType) (fr lo : Nat) (av : List Value) (s0 : zx_S) (k : Nat) (s1 : zx_S) : Prop := Met l y (Cond.code y cc nL (some ty) :: zd_W S) { frames := fr, cells := 0, slots := 0, locals := lo } (va_Pc av (zx_B S D cz ad s0)) (va_Qr (fun (s' : zx_S) => s' = s1) (fun s' a t => a = ad k ∧ zx_B S D cz ad s' t) (zx_A S ad)) 0 0 (zx_A S ad)
theorem zx_blind {S : zx_D} (hS : zx_So S) {D : va_G} {cz : ClassId × ClassId} {ad : Nat → Nat} {av : List Value} {σ : zx_S} : FrameBlind (va_Pc av (zx_B S D cz ad σ)) := by
  intro a U g mk q
  obtain ⟨q0, qP, qK, qN⟩ := q
  exact ⟨q0, qP, va_K.moved (u := U) (U := U.calling g mk a) (Vm.Alike.refl U.vm) qK, fun w hw => va_Nw.same (hS.2 w hw).1 (u := U) rfl (qN w hw)⟩
theorem zx_start {S : zx_D} {Z : zx_Z} {cc : ByteArray} {nL : Nat} {own : String} {fr lo : Nat} (C : zx_ok S Z cc nL own fr lo) {σ : zx_S} {H : Heap} {locs : List Loc} (hX : zx_X S Z σ H locs) (av : List Value) : ∀ U : State, U.heap = H → (zz_s Z).WarmedH U.vm → va_Pc av (zx_B S (zz_D Z) (zz_z Z) (zz_d Z) σ) av.toArray U :=
  fun U hU hW => ⟨rfl, by rw [hU]; exact hX.1, va_K.moved hW.alike C.2.1, fun w hw => (C.2.2.2.2.1.2 w hw).2 _ _ hW (C.2.2.1 w hw)⟩
section ZM
variable {S : zx_D} {l : Launch} {D : va_G} {cz : ClassId × ClassId} {ad : Nat → Nat} {y : MethodName} {cc : ByteArray} {nL : Nat} {own : String} {fr lo : Nat} {av : List Value} {s0 s1 : zx_S}
theorem zx_metI {ty : FieldType} {v : Int32} (hS : zx_So S) (hi : zx_I S ad) (hy : plainName y.cls = true) (ho : y.cls = own) (ha : (lg_sl av).length ≤ nL) (wk : ∀ Z : zx_Z, zz_l Z = l → zz_D Z = D → zz_z Z = cz → zz_d Z = ad → zx_ok S Z cc nL own fr lo → zx_rI S Z cc nL ty v s1 → zW S Z nL 0 (lv_args 0 av) [] s0) : zx_MI S l D cz ad y cc nL ty fr lo av s0 v s1 := by
  refine Met.ofW (cc := cc) (maxL := nL) (ret := (some ty)) hy rfl ?_
  intro p e s m args below meth c s₁ B hml hv
  obtain ⟨rfl, hP, hK, hN⟩ := hv
  have hts := atoms_spec (ws := Cond.code y cc nL (some ty) :: zd_W S) B.pre
  have hown : s.vm.findClass own = some m.cls := by rw [← ho]; exact findClass_of_methodNamed B.named
  have hl := lv_entry av (n := nL) ha
  rw [lg_entry_eq]
  exact wk (p, l, e, _, s, m, av.toArray, below, meth, c, _, D, cz, ad, s.heap) rfl rfl rfl rfl ⟨⟨B.exec, B.bytes, hml, hown, fun w h => hts w (List.mem_cons_of_mem _ h)⟩, hK, hN, hi, hS, Nat.le_refl _, Nat.le_refl _⟩ (fun pc lv d hn H locs ls hX hl => W.zret B.exec B.bytes B.returns hn (fun t ht hW => ⟨⟨v, s1, rfl, ⟨rfl, rfl⟩, by rw [ht]; exact hX.1, va_K.moved hW.alike hK, fun w hw => (hS.2 w hw).2 _ _ hW (hN w hw)⟩, hX.2.F ht⟩) hX.2.2.2 d) s.heap [] _ ⟨hP, va_S.rf⟩ hl
theorem zx_metV  (hS : zx_So S) (hi : zx_I S ad) (hy : plainName y.cls = true) (ho : y.cls = own) (ha : (lg_sl av).length ≤ nL) (wk : ∀ Z : zx_Z, zz_l Z = l → zz_D Z = D → zz_z Z = cz → zz_d Z = ad → zx_ok S Z cc nL own fr lo → zx_rV S Z cc nL s1 → zW S Z nL 0 (lv_args 0 av) [] s0) : zx_MV S l D cz ad y cc nL fr lo av s0 s1 := by
  refine Met.ofW (cc := cc) (maxL := nL) (ret := none) hy rfl ?_
  intro p e s m args below meth c s₁ B hml hv
  obtain ⟨rfl, hP, hK, hN⟩ := hv
  have hts := atoms_spec (ws := Cond.code y cc nL none :: zd_W S) B.pre
  have hown : s.vm.findClass own = some m.cls := by rw [← ho]; exact findClass_of_methodNamed B.named
  have hl := lv_entry av (n := nL) ha
  rw [lg_entry_eq]
  exact wk (p, l, e, _, s, m, av.toArray, below, meth, c, _, D, cz, ad, s.heap) rfl rfl rfl rfl ⟨⟨B.exec, B.bytes, hml, hown, fun w h => hts w (List.mem_cons_of_mem _ h)⟩, hK, hN, hi, hS, Nat.le_refl _, Nat.le_refl _⟩ (fun pc lv d H locs ls hX hl => W.vret B.exec B.bytes B.returns (fun t ht hW => ⟨⟨s1, rfl, rfl, by rw [ht]; exact hX.1, va_K.moved hW.alike hK, fun w hw => (hS.2 w hw).2 _ _ hW (hN w hw)⟩, hX.2.F ht⟩) hX.2.2.2 d) s.heap [] _ ⟨hP, va_S.rf⟩ hl
theorem zx_metA {ty : FieldType} {k : Nat} (hS : zx_So S) (hi : zx_I S ad) (hy : plainName y.cls = true) (ho : y.cls = own) (ha : (lg_sl av).length ≤ nL) (hty : (∃ n, ty = .object n) ∨ ∃ t, ty = .array t) (wk : ∀ Z : zx_Z, zz_l Z = l → zz_D Z = D → zz_z Z = cz → zz_d Z = ad → zx_ok S Z cc nL own fr lo → zx_rA S Z cc nL k s1 → zW S Z nL 0 (lv_args 0 av) [] s0) : zx_MA S l D cz ad y cc nL ty fr lo av s0 k s1 := by
  refine Met.ofW (cc := cc) (maxL := nL) (ret := (some ty)) hy rfl ?_
  intro p e s m args below meth c s₁ B hml hv
  obtain ⟨rfl, hP, hK, hN⟩ := hv
  have hts := atoms_spec (ws := Cond.code y cc nL (some ty) :: zd_W S) B.pre
  have hown : s.vm.findClass own = some m.cls := by rw [← ho]; exact findClass_of_methodNamed B.named
  have hl := lv_entry av (n := nL) ha
  rw [lg_entry_eq]
  exact wk (p, l, e, _, s, m, av.toArray, below, meth, c, _, D, cz, ad, s.heap) rfl rfl rfl rfl ⟨⟨B.exec, B.bytes, hml, hown, fun w h => hts w (List.mem_cons_of_mem _ h)⟩, hK, hN, hi, hS, Nat.le_refl _, Nat.le_refl _⟩ (fun pc lv d H locs ls hX hl => W.aret B.exec B.bytes B.returns hty (Or.inr ⟨_, rfl⟩) (fun t ht hW => ⟨⟨s1, ad k, rfl, rfl, rfl, by rw [ht]; exact hX.1, va_K.moved hW.alike hK, fun w hw => (hS.2 w hw).2 _ _ hW (hN w hw)⟩, hX.2.F ht⟩) hX.2.2.2 d) s.heap [] _ ⟨hP, va_S.rf⟩ hl
end ZM
def zx_vw (S : zx_D) (own : String) (idx : Nat) (y : MethodName) (cy : ByteArray) (ny : Nat) (ret : Option FieldType) (n : Nat) : Prop := Cond.methodLink own idx y ∈ zd_W S ∧ Cond.instanceMethod y ∈ zd_W S ∧ Cond.selects y.cls y y ∈ zd_W S ∧ Cond.initialized y.cls ∈ zd_W S ∧ Cond.code y cy ny ret ∈ zd_W S ∧ (y.cls ≠ "java/lang/invoke/MethodHandle" ∧ y.cls ≠ "java/lang/invoke/VarHandle" ∧ (parseMethodDescriptor y.desc).map (fun d => d.parameters.length) = some n)
def zx_sw (S : zx_D) (own : String) (idx : Nat) (y : MethodName) (cy : ByteArray) (ny : Nat) (ret : Option FieldType) (n : Nat) : Prop := Cond.methodLink own idx y ∈ zd_W S ∧ Cond.static y ∈ zd_W S ∧ Cond.initialized y.cls ∈ zd_W S ∧ Cond.code y cy ny ret ∈ zd_W S ∧ (y.cls ≠ "java/lang/invoke/MethodHandle" ∧ y.cls ≠ "java/lang/invoke/VarHandle" ∧ (parseMethodDescriptor y.desc).map (fun d => d.parameters.length) = some n)
def zx_aw (S : zx_D) (own : String) (idx : Nat) (K owner : String) (x y : MethodName) (cy : ByteArray) (ny : Nat) (ret : Option FieldType) (n : Nat) : Prop := Cond.methodLink own idx x ∈ zd_W S ∧ Cond.sameMethod x.cls owner x.name x.desc ∈ zd_W S ∧ Cond.selects K x y ∈ zd_W S ∧ Cond.instanceMethod y ∈ zd_W S ∧ Cond.initialized y.cls ∈ zd_W S ∧ Cond.code y cy ny ret ∈ zd_W S ∧ Cond.declares ⟨owner, x.name, x.desc⟩ ∈ zd_X S ∧ (owner ≠ "java/lang/invoke/MethodHandle" ∧ owner ≠ "java/lang/invoke/VarHandle" ∧ (parseMethodDescriptor x.desc).map (fun d => d.parameters.length) = some n)
section ZC
variable {S : zx_D} {Z : zx_Z} {cc : ByteArray} {nL pc q : Nat} {own : String} {fr lo : Nat} {lv : List (Nat × Value)} {rest st : List Value} {σ σ1 : zx_S} {y : MethodName} {cy : ByteArray} {ny f2 l2 idx n : Nat}
abbrev zx_rm (fr lo : Nat) : Room := { frames := fr, cells := 0, slots := 0, locals := lo }
theorem zx_gc (hS : zx_So S) {c : Cond} (h : c ∈ zd_W S) : GoodIn (zd_W S) (c :: zd_W S) := zx_good hS (fun w hw => (List.mem_cons.mp hw).elim (fun e => by rw [e]; exact h) id)
theorem zx_recv (C : zx_ok S Z cc nL own fr lo) {k : Nat} {K : String} (hk : zx_oc S k K) {H : Heap} {locs : List Loc} (hX : zx_X S Z σ H locs) : ∃ cell : Cell, H[zz_d Z k]? = some cell ∧ cell.vm.isStatics = false ∧ (zz_s Z).vm.findClass K = some cell.cls := by
  obtain ⟨h1, ci, T, N, h2, h3⟩ := hk
  obtain ⟨fs, h4⟩ := h3 (zz_z Z) (zz_d Z) (σ k)
  exact va_recv C.2.1 hX.1 h2 (by rw [zx_w_at h1, h4])
theorem zx_cvw (C : zx_ok S Z cc nL own fr lo) {ret : Option FieldType} (hw : zx_vw S own idx y cy ny ret n) (hf : f2 + 1 ≤ fr ∧ 8 + (ny + 11) + l2 ≤ lo) : CallW (zz_R Z) (zz_s Z) (zz_a Z) own y.cls idx y cy ny ret (Cond.code y cy ny ret :: zd_W S) (zx_rm f2 l2) 0 0 n := by
  obtain ⟨h1, h2, h3, h4, h5, h6⟩ := hw
  have hts := C.1.2.2.2.2
  exact ⟨callB_of n hts (zx_gc C.2.2.2.2.1 h5) rfl rfl rfl (hts _ h4) (hts _ h1) h6 ⟨Nat.le_trans hf.1 C.2.2.2.2.2.1, Nat.le_trans hf.2 C.2.2.2.2.2.2⟩, hts _ h2, hts _ h3⟩
theorem zx_csw (C : zx_ok S Z cc nL own fr lo) {ret : Option FieldType} (hw : zx_sw S own idx y cy ny ret n) (hf : f2 + 1 ≤ fr ∧ 8 + (ny + 11) + l2 ≤ lo) : CallB (zz_R Z) (zz_s Z) (zz_a Z) own idx y cy ny ret (Cond.code y cy ny ret :: zd_W S) (zx_rm f2 l2) 0 0 n ∧ (Cond.static y).before (zz_a Z) (zz_s Z) = true := by
  obtain ⟨h1, h2, h4, h5, h6⟩ := hw
  have hts := C.1.2.2.2.2
  exact ⟨callB_of n hts (zx_gc C.2.2.2.2.1 h5) rfl rfl rfl (hts _ h4) (hts _ h1) h6 ⟨Nat.le_trans hf.1 C.2.2.2.2.2.1, Nat.le_trans hf.2 C.2.2.2.2.2.2⟩, hts _ h2⟩
theorem zx_caw (C : zx_ok S Z cc nL own fr lo) {K owner : String} {x : MethodName} {ret : Option FieldType} (hw : zx_aw S own idx K owner x y cy ny ret n) (hf : f2 + 1 ≤ fr ∧ 8 + (ny + 11) + l2 ≤ lo) : va_CU (zz_R Z) (zz_s Z) (zz_a Z) own K owner idx x y cy ny ret (Cond.code y cy ny ret :: zd_W S) (zx_rm f2 l2) 0 0 n := by
  obtain ⟨h1, h2, h3, h4, h5, h6, h7, h8⟩ := hw
  refine va_cwA n C.1.2.2.2.2 (zx_good C.2.2.2.2.1 (fun w hw => ?_)) rfl rfl rfl (C.2.2.1 _ h7) h8 ⟨Nat.le_trans hf.1 C.2.2.2.2.2.1, Nat.le_trans hf.2 C.2.2.2.2.2.2⟩
  rcases List.mem_append.mp hw with h | h
  · simp only [List.mem_cons, List.not_mem_nil, or_false] at h
    rcases h with rfl | rfl | rfl | rfl | rfl
    all_goals first | exact h1 | exact h2 | exact h3 | exact h4 | exact h5
  · rcases List.mem_cons.mp h with rfl | h
    · exact h6
    · exact h
theorem zr_cvI (C : zx_ok S Z cc nL own fr lo) {As : List Value} {k : Nat} {ty : FieldType} {v : Int32} (d : decode cc pc = .ok (.invokevirtual idx, 3)) (hM : zx_MI S (zz_l Z) (zz_D Z) (zz_z Z) (zz_d Z) y cy ny ty f2 l2 (.ref (zz_d Z k) :: As) σ v σ1) (hw : zx_vw S own idx y cy ny (some ty) n) (hk : zx_oc S k y.cls) (hf : f2 + 1 ≤ fr ∧ 8 + (ny + 11) + l2 ≤ lo) (hn : As.length = n) (hr : (rest.map fun v => v.category).sum ≤ 8) (hst : st = As.reverse ++ .ref (zz_d Z k) :: rest) (hq : pc + 3 = q) (kk : zW S Z nL q lv (.int v :: rest) σ1) : zW S Z nL pc lv st σ := by
  subst hq
  intro H locs ls hX hl
  refine va_calli (va_runV (As := As) (rest := rest) C.1 hM (zx_cvw C hw hf) ⟨zx_blind C.2.2.2.2.1, zx_recv C hk hX, zx_start C hX _⟩ rfl hn hl.1 hst (lv_room hr) d ⟨Nat.zero_le _, Nat.zero_le _⟩) hX.2 (fun _ _ h => h) (fun _ h => h) (fun r u t H1 locs1 ht hvm hw hB hz hk hS => ?_)
  obtain ⟨rfl, rfl⟩ := hw
  exact kk H1 locs1 ls ⟨by rw [← ht]; exact hB.1, hS⟩ hl
theorem zr_csI (C : zx_ok S Z cc nL own fr lo) {As : List Value} {ty : FieldType} {v : Int32} (d : decode cc pc = .ok (.invokestatic idx, 3)) (hM : zx_MI S (zz_l Z) (zz_D Z) (zz_z Z) (zz_d Z) y cy ny ty f2 l2 As σ v σ1) (hw : zx_sw S own idx y cy ny (some ty) n) (hf : f2 + 1 ≤ fr ∧ 8 + (ny + 11) + l2 ≤ lo) (hn : As.length = n) (hr : (rest.map fun v => v.category).sum ≤ 8) (hst : st = As.reverse ++ rest) (hq : pc + 3 = q) (kk : zW S Z nL q lv (.int v :: rest) σ1) : zW S Z nL pc lv st σ := by
  subst hq
  intro H locs ls hX hl
  refine va_calli (va_runS (As := As) (rest := rest) C.1 hM (zx_csw C hw hf) ⟨zx_blind C.2.2.2.2.1, zx_start C hX _⟩ rfl hn hl.1 hst (lv_room hr) d ⟨Nat.zero_le _, Nat.zero_le _⟩) hX.2 (fun _ _ h => h) (fun _ h => h) (fun r u t H1 locs1 ht hvm hw hB hz hk hS => ?_)
  obtain ⟨rfl, rfl⟩ := hw
  exact kk H1 locs1 ls ⟨by rw [← ht]; exact hB.1, hS⟩ hl
theorem zr_caI (C : zx_ok S Z cc nL own fr lo) {As : List Value} {k : Nat} {K owner : String} {x : MethodName} {ty : FieldType} {v : Int32} (d : decode cc pc = .ok (.invokevirtual idx, 3)) (hM : zx_MI S (zz_l Z) (zz_D Z) (zz_z Z) (zz_d Z) y cy ny ty f2 l2 (.ref (zz_d Z k) :: As) σ v σ1) (hw : zx_aw S own idx K owner x y cy ny (some ty) n) (hk : zx_oc S k K) (hf : f2 + 1 ≤ fr ∧ 8 + (ny + 11) + l2 ≤ lo) (hn : As.length = n) (hr : (rest.map fun v => v.category).sum ≤ 8) (hst : st = As.reverse ++ .ref (zz_d Z k) :: rest) (hq : pc + 3 = q) (kk : zW S Z nL q lv (.int v :: rest) σ1) : zW S Z nL pc lv st σ := by
  subst hq
  intro H locs ls hX hl
  refine va_calli (va_runU (As := As) (rest := rest) C.1 hM (zx_caw C hw hf) ⟨zx_blind C.2.2.2.2.1, zx_recv C hk hX, zx_start C hX _⟩ rfl hn hl.1 hst (lv_room hr) d ⟨Nat.zero_le _, Nat.zero_le _⟩) hX.2 (fun _ _ h => h) (fun _ h => h) (fun r u t H1 locs1 ht hvm hw hB hz hk hS => ?_)
  obtain ⟨rfl, rfl⟩ := hw
  exact kk H1 locs1 ls ⟨by rw [← ht]; exact hB.1, hS⟩ hl
theorem zr_cvV (C : zx_ok S Z cc nL own fr lo) {As : List Value} {k : Nat}  (d : decode cc pc = .ok (.invokevirtual idx, 3)) (hM : zx_MV S (zz_l Z) (zz_D Z) (zz_z Z) (zz_d Z) y cy ny f2 l2 (.ref (zz_d Z k) :: As) σ σ1) (hw : zx_vw S own idx y cy ny (none) n) (hk : zx_oc S k y.cls) (hf : f2 + 1 ≤ fr ∧ 8 + (ny + 11) + l2 ≤ lo) (hn : As.length = n) (hr : (rest.map fun v => v.category).sum ≤ 8) (hst : st = As.reverse ++ .ref (zz_d Z k) :: rest) (hq : pc + 3 = q) (kk : zW S Z nL q lv rest σ1) : zW S Z nL pc lv st σ := by
  subst hq
  intro H locs ls hX hl
  refine va_callv (va_runV (As := As) (rest := rest) C.1 hM (zx_cvw C hw hf) ⟨zx_blind C.2.2.2.2.1, zx_recv C hk hX, zx_start C hX _⟩ rfl hn hl.1 hst (lv_room hr) d ⟨Nat.zero_le _, Nat.zero_le _⟩) hX.2 (fun _ _ h => h) (fun _ h => h) (fun u t H1 locs1 ht hvm hw hB hz hk hS => ?_)
  subst hw
  exact kk H1 locs1 ls ⟨by rw [← ht]; exact hB.1, hS⟩ hl
theorem zr_csV (C : zx_ok S Z cc nL own fr lo) {As : List Value}  (d : decode cc pc = .ok (.invokestatic idx, 3)) (hM : zx_MV S (zz_l Z) (zz_D Z) (zz_z Z) (zz_d Z) y cy ny f2 l2 As σ σ1) (hw : zx_sw S own idx y cy ny (none) n) (hf : f2 + 1 ≤ fr ∧ 8 + (ny + 11) + l2 ≤ lo) (hn : As.length = n) (hr : (rest.map fun v => v.category).sum ≤ 8) (hst : st = As.reverse ++ rest) (hq : pc + 3 = q) (kk : zW S Z nL q lv rest σ1) : zW S Z nL pc lv st σ := by
  subst hq
  intro H locs ls hX hl
  refine va_callv (va_runS (As := As) (rest := rest) C.1 hM (zx_csw C hw hf) ⟨zx_blind C.2.2.2.2.1, zx_start C hX _⟩ rfl hn hl.1 hst (lv_room hr) d ⟨Nat.zero_le _, Nat.zero_le _⟩) hX.2 (fun _ _ h => h) (fun _ h => h) (fun u t H1 locs1 ht hvm hw hB hz hk hS => ?_)
  subst hw
  exact kk H1 locs1 ls ⟨by rw [← ht]; exact hB.1, hS⟩ hl
theorem zr_caV (C : zx_ok S Z cc nL own fr lo) {As : List Value} {k : Nat} {K owner : String} {x : MethodName}  (d : decode cc pc = .ok (.invokevirtual idx, 3)) (hM : zx_MV S (zz_l Z) (zz_D Z) (zz_z Z) (zz_d Z) y cy ny f2 l2 (.ref (zz_d Z k) :: As) σ σ1) (hw : zx_aw S own idx K owner x y cy ny (none) n) (hk : zx_oc S k K) (hf : f2 + 1 ≤ fr ∧ 8 + (ny + 11) + l2 ≤ lo) (hn : As.length = n) (hr : (rest.map fun v => v.category).sum ≤ 8) (hst : st = As.reverse ++ .ref (zz_d Z k) :: rest) (hq : pc + 3 = q) (kk : zW S Z nL q lv rest σ1) : zW S Z nL pc lv st σ := by
  subst hq
  intro H locs ls hX hl
  refine va_callv (va_runU (As := As) (rest := rest) C.1 hM (zx_caw C hw hf) ⟨zx_blind C.2.2.2.2.1, zx_recv C hk hX, zx_start C hX _⟩ rfl hn hl.1 hst (lv_room hr) d ⟨Nat.zero_le _, Nat.zero_le _⟩) hX.2 (fun _ _ h => h) (fun _ h => h) (fun u t H1 locs1 ht hvm hw hB hz hk hS => ?_)
  subst hw
  exact kk H1 locs1 ls ⟨by rw [← ht]; exact hB.1, hS⟩ hl
theorem zr_cvA (C : zx_ok S Z cc nL own fr lo) {As : List Value} {k : Nat} {ty : FieldType} {v : Nat} (d : decode cc pc = .ok (.invokevirtual idx, 3)) (hM : zx_MA S (zz_l Z) (zz_D Z) (zz_z Z) (zz_d Z) y cy ny ty f2 l2 (.ref (zz_d Z k) :: As) σ v σ1) (hw : zx_vw S own idx y cy ny (some ty) n) (hk : zx_oc S k y.cls) (hf : f2 + 1 ≤ fr ∧ 8 + (ny + 11) + l2 ≤ lo) (hn : As.length = n) (hr : (rest.map fun v => v.category).sum ≤ 8) (hst : st = As.reverse ++ .ref (zz_d Z k) :: rest) (hq : pc + 3 = q) (kk : zW S Z nL q lv (.ref (zz_d Z v) :: rest) σ1) : zW S Z nL pc lv st σ := by
  subst hq
  intro H locs ls hX hl
  refine va_callr (va_runV (As := As) (rest := rest) C.1 hM (zx_cvw C hw hf) ⟨zx_blind C.2.2.2.2.1, zx_recv C hk hX, zx_start C hX _⟩ rfl hn hl.1 hst (lv_room hr) d ⟨Nat.zero_le _, Nat.zero_le _⟩) hX.2 (fun _ _ h => h) (fun _ h => h) (fun u ra t H1 locs1 ht hvm hw hB hz hk hS => ?_)
  subst hw
  obtain ⟨rfl, hB⟩ := hB
  exact kk H1 locs1 ls ⟨by rw [← ht]; exact hB.1, hS⟩ hl
theorem zr_csA (C : zx_ok S Z cc nL own fr lo) {As : List Value} {ty : FieldType} {v : Nat} (d : decode cc pc = .ok (.invokestatic idx, 3)) (hM : zx_MA S (zz_l Z) (zz_D Z) (zz_z Z) (zz_d Z) y cy ny ty f2 l2 As σ v σ1) (hw : zx_sw S own idx y cy ny (some ty) n) (hf : f2 + 1 ≤ fr ∧ 8 + (ny + 11) + l2 ≤ lo) (hn : As.length = n) (hr : (rest.map fun v => v.category).sum ≤ 8) (hst : st = As.reverse ++ rest) (hq : pc + 3 = q) (kk : zW S Z nL q lv (.ref (zz_d Z v) :: rest) σ1) : zW S Z nL pc lv st σ := by
  subst hq
  intro H locs ls hX hl
  refine va_callr (va_runS (As := As) (rest := rest) C.1 hM (zx_csw C hw hf) ⟨zx_blind C.2.2.2.2.1, zx_start C hX _⟩ rfl hn hl.1 hst (lv_room hr) d ⟨Nat.zero_le _, Nat.zero_le _⟩) hX.2 (fun _ _ h => h) (fun _ h => h) (fun u ra t H1 locs1 ht hvm hw hB hz hk hS => ?_)
  subst hw
  obtain ⟨rfl, hB⟩ := hB
  exact kk H1 locs1 ls ⟨by rw [← ht]; exact hB.1, hS⟩ hl
theorem zr_retI {r : Int32 × zx_S} {e : Int32} (d : decode cc pc = .ok (.ireturn, 1)) (h : some (e, σ) = some r) (hr : zx_rI S Z cc nL .int r.1 r.2) : zW S Z nL pc lv [.int e] σ := by
  cases h
  exact hr pc lv d rfl
theorem zr_retR {r e : Int32} (d : decode cc pc = .ok (.ireturn, 1)) (h : some e = some r) (hr : zx_rI S Z cc nL .int r σ) : zW S Z nL pc lv [.int e] σ := by
  cases h
  exact hr pc lv d rfl
theorem zr_retZI {r : Int32 × zx_S} {e : Int32} (d : decode cc pc = .ok (.ireturn, 1)) (hb : e = 0 ∨ e = 1) (h : some (e, σ) = some r) (hr : zx_rI S Z cc nL .boolean r.1 r.2) : zW S Z nL pc lv [.int e] σ := by
  cases h
  exact hr pc lv d (zx_nb hb)
theorem zr_retZR {r e : Int32} (d : decode cc pc = .ok (.ireturn, 1)) (hb : e = 0 ∨ e = 1) (h : some e = some r) (hr : zx_rI S Z cc nL .boolean r σ) : zW S Z nL pc lv [.int e] σ := by
  cases h
  exact hr pc lv d (zx_nb hb)
theorem zr_retV {r : zx_S} (d : decode cc pc = .ok (.return_, 1)) (h : some σ = some r) (hr : zx_rV S Z cc nL r) : zW S Z nL pc lv [] σ := by
  cases h
  exact hr pc lv d
end ZC
end
section
def zX_L (cz : ClassId × ClassId) (ad : Nat → Nat) (k : Nat) (f : Nat → Int32) : va_E := match k with
  | 0 => .inr (9, [.ref (ad 1), .ref (ad 11), .ref (ad 18), .ref (ad 33), .ref (ad 36), .ref (ad 42), .ref (ad 44), .ref (ad 47), .ref (ad 50), .int (f 9)])
  | 1 => .inr (4, [.ref (ad 2), .ref (ad 3), .ref (ad 4), .ref (ad 5), .ref (ad 6), .ref (ad 7), .ref (ad 8), .ref (ad 9), .ref (ad 10), .int (f 9)])
  | 2 => .inl (cz.1, 17, .inl f)
  | 3 => .inl (cz.1, 100, .inl f)
  | 4 => .inl (cz.1, 100, .inl f)
  | 5 => .inl (cz.1, 100, .inl f)
  | 6 => .inl (cz.1, 100, .inl f)
  | 7 => .inl (cz.1, 16, .inl f)
  | 8 => .inl (cz.1, 16, .inl f)
  | 9 => .inl (cz.1, 16, .inl f)
  | 10 => .inl (cz.1, 16, .inl f)
  | 11 => .inr (1, [.ref (ad 12), .ref (ad 13), .ref (ad 14), .ref (ad 15), .ref (ad 16), .ref (ad 17), .int (f 6)])
  | 12 => .inl (cz.1, 16, .inl f)
  | 13 => .inl (cz.1, 16, .inl f)
  | 14 => .inl (cz.1, 16, .inl f)
  | 15 => .inl (cz.1, 16, .inl f)
  | 16 => .inl (cz.1, 16, .inl f)
  | 17 => .inl (cz.1, 16, .inl f)
  | 18 => .inr (8, [.ref (ad 19), .ref (ad 20), .ref (ad 21), .ref (ad 22), .ref (ad 23), .ref (ad 24), .ref (ad 28), .ref (ad 29), .ref (ad 30), .ref (ad 31), .ref (ad 32), .int (f 11)])
  | 19 => .inl (cz.1, 261, .inl f)
  | 20 => .inl (cz.1, 261, .inl f)
  | 21 => .inl (cz.1, 261, .inl f)
  | 22 => .inl (cz.1, 261, .inl f)
  | 23 => .inl (cz.1, 262, .inl f)
  | 24 => .inr (5, [.ref (ad 25), .ref (ad 26), .ref (ad 27)])
  | 25 => .inl (cz.1, 530, .inl f)
  | 26 => .inl (cz.1, 100, .inl f)
  | 27 => .inl (cz.1, 16, .inl f)
  | 28 => .inl (cz.1, 100, .inl f)
  | 29 => .inl (cz.1, 16, .inl f)
  | 30 => .inl (cz.1, 16, .inl f)
  | 31 => .inl (cz.1, 10, .inl f)
  | 32 => .inl (cz.1, 160, .inl f)
  | 33 => .inr (0, [.ref (ad 34), .ref (ad 35), .int (f 2)])
  | 34 => .inl (cz.1, 261, .inl f)
  | 35 => .inl (cz.1, 261, .inl f)
  | 36 => .inr (2, [.ref (ad 37), .ref (ad 38), .int (f 2)])
  | 37 => .inl (cz.2, 261, .inl f)
  | 38 => .inr (5, [.ref (ad 39), .ref (ad 40), .ref (ad 41)])
  | 39 => .inl (cz.1, 530, .inl f)
  | 40 => .inl (cz.1, 100, .inl f)
  | 41 => .inl (cz.1, 16, .inl f)
  | 42 => .inr (6, [.ref (ad 43), .ref (ad 1)])
  | 43 => .inl (cz.1, 10, .inl f)
  | 44 => .inr (7, [.ref (ad 45), .ref (ad 1), .ref (ad 11), .ref (ad 18), .null, .ref (ad 24), .ref (ad 46)])
  | 45 => .inl (cz.1, 261, .inl f)
  | 46 => .inl (cz.1, 10, .inl f)
  | 47 => .inr (7, [.ref (ad 48), .ref (ad 1), .ref (ad 11), .ref (ad 18), .ref (ad 36), .ref (ad 38), .ref (ad 49)])
  | 48 => .inl (cz.1, 261, .inl f)
  | 49 => .inl (cz.1, 10, .inl f)
  | 50 => .inr (3, [.ref (ad 1), .ref (ad 51), .ref (ad 52), .int (f 3), .int (f 4), .int (f 5), .int (f 6), .int (f 7)])
  | 51 => .inl (cz.1, 4, .inl f)
  | _ => .inl (cz.1, 60, .inl f)
def zX_sd : zx_D := (zX_L, 53, zx_cl, zx_W, zx_N)
theorem zX_So : zx_So zX_sd := ⟨fun w h => (List.mem_filter.mp h).2, zx_N_ok⟩
theorem zX_gX10_12_0 : zx_fl zX_sd RX10 12 0 0 (fun ad _ => .ref (ad 1)) := ⟨by decide, 9, _, _, _, _, rfl, by decide, zu_X10, zw_403, Or.inl rfl, fun _ _ _ => ⟨_, rfl, rfl⟩⟩
theorem zX_gX10_75_1 : zx_fl zX_sd RX10 75 1 9 (fun _ f => .int (f 9)) := ⟨by decide, 4, _, _, _, _, rfl, by decide, zu_X5, zw_115, Or.inl rfl, fun _ _ _ => ⟨_, rfl, rfl⟩⟩
theorem zX_pX10_71_0 : zx_fp zX_sd RX10 71 0 9 .boolean := ⟨by decide, 9, _, _, _, tyX10, rfl, by decide, zu_X10, tyX10_ok, nmX10, zw_412, rfl, by decide +kernel, fun _ _ _ => ⟨_, rfl, Nat.le_of_ble_eq_true rfl, fun _ => rfl⟩⟩
theorem zX_pX10_75_1 : zx_fp zX_sd RX10 75 1 9 .int := ⟨by decide, 4, _, _, _, tyX5, rfl, by decide, zu_X5, tyX5_ok, nmX5, zw_115, rfl, by decide +kernel, fun _ _ _ => ⟨_, rfl, Nat.le_of_ble_eq_true rfl, fun _ => rfl⟩⟩
theorem zX_gX5_46_1 : zx_fl zX_sd RX5 46 1 9 (fun _ f => .int (f 9)) := ⟨by decide, 4, _, _, _, _, rfl, by decide, zu_X5, zw_116, Or.inl rfl, fun _ _ _ => ⟨_, rfl, rfl⟩⟩
theorem zX_gX5_9_1 : zx_fl zX_sd RX5 9 1 0 (fun ad _ => .ref (ad 2)) := ⟨by decide, 4, _, _, _, _, rfl, by decide, zu_X5, zw_91, Or.inl rfl, fun _ _ _ => ⟨_, rfl, rfl⟩⟩
theorem zX_a2 : zx_ai zX_sd 2 17 := ⟨by decide, fun _ _ _ => rfl⟩
theorem zX_sX5_39 : zx_sw zX_sd RX5 39 yX5_isVariable cX5_isVariable 1 (some .boolean) 1 := ⟨zw_453, zw_454, zw_63, zw_455, by decide +kernel⟩
theorem zX_a3 : zx_ai zX_sd 3 100 := ⟨by decide, fun _ _ _ => rfl⟩
theorem zX_a4 : zx_ai zX_sd 4 100 := ⟨by decide, fun _ _ _ => rfl⟩
theorem zX_a5 : zx_ai zX_sd 5 100 := ⟨by decide, fun _ _ _ => rfl⟩
theorem zX_a6 : zx_ai zX_sd 6 100 := ⟨by decide, fun _ _ _ => rfl⟩
theorem zX_vX5_50 : zx_vw zX_sd RX5 50 yX5_instructions cX5_instructions 1 (some .int) 0 := ⟨zw_460, zw_447, zw_448, zw_63, zw_449, by decide +kernel⟩
theorem zX_o1 : zx_oc zX_sd 1 RX5 := ⟨by decide, 4, _, _, rfl, fun _ _ _ => ⟨_, rfl⟩⟩
theorem zX_gX5_15_1 : zx_fl zX_sd RX5 15 1 1 (fun ad _ => .ref (ad 3)) := ⟨by decide, 4, _, _, _, _, rfl, by decide, zu_X5, zw_96, Or.inl rfl, fun _ _ _ => ⟨_, rfl, rfl⟩⟩
theorem zX_sX5_54 : zx_sw zX_sd RX5 54 yX5_insertAt cX5_insertAt 4 none 4 := ⟨zw_461, zw_462, zw_63, zw_463, by decide +kernel⟩
theorem zX_gX5_18_1 : zx_fl zX_sd RX5 18 1 2 (fun ad _ => .ref (ad 4)) := ⟨by decide, 4, _, _, _, _, rfl, by decide, zu_X5, zw_101, Or.inl rfl, fun _ _ _ => ⟨_, rfl, rfl⟩⟩
theorem zX_gX5_21_1 : zx_fl zX_sd RX5 21 1 3 (fun ad _ => .ref (ad 5)) := ⟨by decide, 4, _, _, _, _, rfl, by decide, zu_X5, zw_104, Or.inl rfl, fun _ _ _ => ⟨_, rfl, rfl⟩⟩
theorem zX_gX5_24_1 : zx_fl zX_sd RX5 24 1 4 (fun ad _ => .ref (ad 6)) := ⟨by decide, 4, _, _, _, _, rfl, by decide, zu_X5, zw_108, Or.inl rfl, fun _ _ _ => ⟨_, rfl, rfl⟩⟩
theorem zX_vX10_79 : zx_vw zX_sd RX10 79 yX5_has cX5_has 2 (some .boolean) 1 := ⟨zw_442, zw_443, zw_444, zw_63, zw_445, by decide +kernel⟩
theorem zX_vX10_83 : zx_vw zX_sd RX10 83 yX5_instructions cX5_instructions 1 (some .int) 0 := ⟨zw_446, zw_447, zw_448, zw_63, zw_449, by decide +kernel⟩
theorem zX_sX10_87 : zx_sw zX_sd RX10 87 yX5_fits cX5_fits 4 (some .boolean) 4 := ⟨zw_450, zw_451, zw_63, zw_452, by decide +kernel⟩
theorem zX_vX10_91 : zx_vw zX_sd RX10 91 yX5_insert cX5_insert 9 none 5 := ⟨zw_456, zw_457, zw_458, zw_63, zw_459, by decide +kernel⟩
theorem zX_sX5_43 : zx_sw zX_sd RX5 43 yX5_isBlockNumber cX5_isBlockNumber 1 (some .boolean) 1 := ⟨zw_474, zw_475, zw_63, zw_476, by decide +kernel⟩
theorem zX_a9 : zx_ai zX_sd 9 16 := ⟨by decide, fun _ _ _ => rfl⟩
theorem zX_gX5_36_1 : zx_fl zX_sd RX5 36 1 8 (fun ad _ => .ref (ad 10)) := ⟨by decide, 4, _, _, _, _, rfl, by decide, zu_X5, zw_114, Or.inl rfl, fun _ _ _ => ⟨_, rfl, rfl⟩⟩
theorem zX_gX5_33_1 : zx_fl zX_sd RX5 33 1 7 (fun ad _ => .ref (ad 9)) := ⟨by decide, 4, _, _, _, _, rfl, by decide, zu_X5, zw_113, Or.inl rfl, fun _ _ _ => ⟨_, rfl, rfl⟩⟩
theorem zX_a10 : zx_ai zX_sd 10 16 := ⟨by decide, fun _ _ _ => rfl⟩
theorem zX_a8 : zx_ai zX_sd 8 16 := ⟨by decide, fun _ _ _ => rfl⟩
theorem zX_gX5_27_1 : zx_fl zX_sd RX5 27 1 5 (fun ad _ => .ref (ad 7)) := ⟨by decide, 4, _, _, _, _, rfl, by decide, zu_X5, zw_111, Or.inl rfl, fun _ _ _ => ⟨_, rfl, rfl⟩⟩
theorem zX_a7 : zx_ai zX_sd 7 16 := ⟨by decide, fun _ _ _ => rfl⟩
theorem zX_gX5_30_1 : zx_fl zX_sd RX5 30 1 6 (fun ad _ => .ref (ad 8)) := ⟨by decide, 4, _, _, _, _, rfl, by decide, zu_X5, zw_112, Or.inl rfl, fun _ _ _ => ⟨_, rfl, rfl⟩⟩
theorem zX_sX10_95 : zx_sw zX_sd RX10 95 yX5_endFits cX5_endFits 4 (some .boolean) 4 := ⟨zw_471, zw_472, zw_63, zw_473, by decide +kernel⟩
theorem zX_vX10_98 : zx_vw zX_sd RX10 98 yX5_setEnd cX5_setEnd 6 none 5 := ⟨zw_477, zw_478, zw_479, zw_63, zw_480, by decide +kernel⟩
theorem zX_pX5_46_1 : zx_fp zX_sd RX5 46 1 9 .int := ⟨by decide, 4, _, _, _, tyX5, rfl, by decide, zu_X5, tyX5_ok, nmX5, zw_116, rfl, by decide +kernel, fun _ _ _ => ⟨_, rfl, Nat.le_of_ble_eq_true rfl, fun _ => rfl⟩⟩
theorem zX_sX5_64 : zx_sw zX_sd RX5 64 yJ7_fill_53178 cJ7_fill_53178 4 none 2 := ⟨zw_489, zw_490, zw_75, zw_491, by decide +kernel⟩
theorem zX_vX10_101 : zx_vw zX_sd RX10 101 yX5_forget cX5_forget 1 none 0 := ⟨zw_485, zw_486, zw_487, zw_63, zw_488, by decide +kernel⟩
theorem zX_vX5_70 : zx_vw zX_sd RX5 70 yX5_has cX5_has 2 (some .boolean) 1 := ⟨zw_517, zw_443, zw_444, zw_63, zw_445, by decide +kernel⟩
theorem zX_vX5_73 : zx_vw zX_sd RX5 73 yX5_endCounts cX5_endCounts 2 (some .boolean) 1 := ⟨zw_513, zw_515, zw_1, zw_63, zw_516, by decide +kernel⟩
theorem zX_vX5_76 : zx_vw zX_sd RX5 76 yX5_howCounts cX5_howCounts 2 (some .int) 1 := ⟨zw_509, zw_510, zw_511, zw_63, zw_512, by decide +kernel⟩
theorem zX_a12 : zx_ai zX_sd 12 16 := ⟨by decide, fun _ _ _ => rfl⟩
theorem zX_sX2_30 : zx_sw zX_sd RX2 30 yX2_isIn cX2_isIn 2 (some .boolean) 2 := ⟨zw_524, zw_525, zw_64, zw_526, by decide +kernel⟩
theorem zX_a13 : zx_ai zX_sd 13 16 := ⟨by decide, fun _ _ _ => rfl⟩
theorem zX_sX2_40 : zx_sw zX_sd RX2 40 yX2_union cX2_union 4 (some .int) 2 := ⟨zw_521, zw_522, zw_64, zw_523, by decide +kernel⟩
theorem zX_a14 : zx_ai zX_sd 14 16 := ⟨by decide, fun _ _ _ => rfl⟩
theorem zX_a15 : zx_ai zX_sd 15 16 := ⟨by decide, fun _ _ _ => rfl⟩
theorem zX_gX2_21_11 : zx_fl zX_sd RX2 21 11 3 (fun ad _ => .ref (ad 15)) := ⟨by decide, 1, _, _, _, _, rfl, by decide, zu_X2, zw_154, Or.inl rfl, fun _ _ _ => ⟨_, rfl, rfl⟩⟩
theorem zX_gX2_18_11 : zx_fl zX_sd RX2 18 11 2 (fun ad _ => .ref (ad 14)) := ⟨by decide, 1, _, _, _, _, rfl, by decide, zu_X2, zw_151, Or.inl rfl, fun _ _ _ => ⟨_, rfl, rfl⟩⟩
theorem zX_gX2_15_11 : zx_fl zX_sd RX2 15 11 1 (fun ad _ => .ref (ad 13)) := ⟨by decide, 1, _, _, _, _, rfl, by decide, zu_X2, zw_146, Or.inl rfl, fun _ _ _ => ⟨_, rfl, rfl⟩⟩
theorem zX_gX2_9_11 : zx_fl zX_sd RX2 9 11 0 (fun ad _ => .ref (ad 12)) := ⟨by decide, 1, _, _, _, _, rfl, by decide, zu_X2, zw_145, Or.inl rfl, fun _ _ _ => ⟨_, rfl, rfl⟩⟩
theorem zX_vX2_48 : zx_vw zX_sd RX2 48 yX5_has cX5_has 2 (some .boolean) 1 := ⟨zw_504, zw_443, zw_444, zw_63, zw_445, by decide +kernel⟩
theorem zX_vX2_54 : zx_vw zX_sd RX2 54 yX5_toldBlocks cX5_toldBlocks 2 (some .int) 1 := ⟨zw_505, zw_506, zw_507, zw_63, zw_508, by decide +kernel⟩
theorem zX_gX2_44_11 : zx_fl zX_sd RX2 44 11 6 (fun _ f => .int (f 6)) := ⟨by decide, 1, _, _, _, _, rfl, by decide, zu_X2, zw_163, Or.inl rfl, fun _ _ _ => ⟨_, rfl, rfl⟩⟩
theorem zX_sX2_57 : zx_sw zX_sd RX2 57 yX2_closure cX2_closure 6 (some .int) 3 := ⟨zw_518, zw_519, zw_64, zw_520, by decide +kernel⟩
theorem zX_gX2_24_11 : zx_fl zX_sd RX2 24 11 4 (fun ad _ => .ref (ad 16)) := ⟨by decide, 1, _, _, _, _, rfl, by decide, zu_X2, zw_156, Or.inl rfl, fun _ _ _ => ⟨_, rfl, rfl⟩⟩
theorem zX_vX2_65 : zx_vw zX_sd RX2 65 yX2_parentOf cX2_parentOf 4 (some .int) 1 := ⟨zw_530, zw_532, zw_2, zw_64, zw_533, by decide +kernel⟩
theorem zX_o11 : zx_oc zX_sd 11 RX2 := ⟨by decide, 1, _, _, rfl, fun _ _ _ => ⟨_, rfl⟩⟩
theorem zX_a16 : zx_ai zX_sd 16 16 := ⟨by decide, fun _ _ _ => rfl⟩
theorem zX_gX2_27_11 : zx_fl zX_sd RX2 27 11 5 (fun ad _ => .ref (ad 17)) := ⟨by decide, 1, _, _, _, _, rfl, by decide, zu_X2, zw_159, Or.inl rfl, fun _ _ _ => ⟨_, rfl, rfl⟩⟩
theorem zX_vX2_68 : zx_vw zX_sd RX2 68 yX2_frontierOf cX2_frontierOf 5 (some .int) 1 := ⟨zw_534, zw_536, zw_3, zw_64, zw_537, by decide +kernel⟩
theorem zX_a17 : zx_ai zX_sd 17 16 := ⟨by decide, fun _ _ _ => rfl⟩
theorem zX_pX2_44_11 : zx_fp zX_sd RX2 44 11 6 .int := ⟨by decide, 1, _, _, _, tyX2, rfl, by decide, zu_X2, tyX2_ok, nmX2, zw_163, rfl, by decide +kernel, fun _ _ _ => ⟨_, rfl, Nat.le_of_ble_eq_true rfl, fun _ => rfl⟩⟩
theorem zX_sX2_61 : zx_sw zX_sd RX2 61 yX2_turnAround cX2_turnAround 4 none 2 := ⟨zw_527, zw_528, zw_64, zw_529, by decide +kernel⟩
theorem zX_gX9_111_1 : zx_fl zX_sd RX9 111 1 0 (fun ad _ => .ref (ad 2)) := ⟨by decide, 4, _, _, _, _, rfl, by decide, zu_X5, zw_95, Or.inl rfl, fun _ _ _ => ⟨_, rfl, rfl⟩⟩
theorem zX_gX9_116_1 : zx_fl zX_sd RX9 116 1 2 (fun ad _ => .ref (ad 4)) := ⟨by decide, 4, _, _, _, _, rfl, by decide, zu_X5, zw_103, Or.inl rfl, fun _ _ _ => ⟨_, rfl, rfl⟩⟩
theorem zX_sX9_93 : zx_sw zX_sd RX9 93 yX9_givingBlocks cX9_givingBlocks 5 (some .int) 2 := ⟨zw_546, zw_547, zw_65, zw_548, by decide +kernel⟩
theorem zX_gX9_97_11 : zx_fl zX_sd RX9 97 11 6 (fun _ f => .int (f 6)) := ⟨by decide, 1, _, _, _, _, rfl, by decide, zu_X2, zw_162, Or.inl rfl, fun _ _ _ => ⟨_, rfl, rfl⟩⟩
theorem zX_gX9_100_11 : zx_fl zX_sd RX9 100 11 5 (fun ad _ => .ref (ad 17)) := ⟨by decide, 1, _, _, _, _, rfl, by decide, zu_X2, zw_160, Or.inl rfl, fun _ _ _ => ⟨_, rfl, rfl⟩⟩
theorem zX_sX9_103 : zx_sw zX_sd RX9 103 yX2_closure cX2_closure 6 (some .int) 3 := ⟨zw_549, zw_519, zw_64, zw_520, by decide +kernel⟩
theorem zX_gX9_43_18 : zx_fl zX_sd RX9 43 18 9 (fun ad _ => .ref (ad 31)) := ⟨by decide, 8, _, _, _, _, rfl, by decide, zu_X9, zw_245, Or.inl rfl, fun _ _ _ => ⟨_, rfl, rfl⟩⟩
theorem zX_sX9_107 : zx_sw zX_sd RX9 107 yX2_union cX2_union 4 (some .int) 2 := ⟨zw_550, zw_522, zw_64, zw_523, by decide +kernel⟩
theorem zX_a31 : zx_ai zX_sd 31 10 := ⟨by decide, fun _ _ _ => rfl⟩
theorem zX_a30 : zx_ai zX_sd 30 16 := ⟨by decide, fun _ _ _ => rfl⟩
theorem zX_a28 : zx_ai zX_sd 28 100 := ⟨by decide, fun _ _ _ => rfl⟩
theorem zX_a23 : zx_ai zX_sd 23 262 := ⟨by decide, fun _ _ _ => rfl⟩
theorem zX_gX9_49_18 : zx_fl zX_sd RX9 49 18 11 (fun _ f => .int (f 11)) := ⟨by decide, 8, _, _, _, _, rfl, by decide, zu_X9, zw_248, Or.inl rfl, fun _ _ _ => ⟨_, rfl, rfl⟩⟩
theorem zX_pX9_49_18 : zx_fp zX_sd RX9 49 18 11 .int := ⟨by decide, 8, _, _, _, tyX9, rfl, by decide, zu_X9, tyX9_ok, nmX9, zw_248, rfl, by decide +kernel, fun _ _ _ => ⟨_, rfl, Nat.le_of_ble_eq_true rfl, fun _ => rfl⟩⟩
theorem zX_gX9_9_18 : zx_fl zX_sd RX9 9 18 0 (fun ad _ => .ref (ad 19)) := ⟨by decide, 8, _, _, _, _, rfl, by decide, zu_X9, zw_215, Or.inl rfl, fun _ _ _ => ⟨_, rfl, rfl⟩⟩
theorem zX_a19 : zx_ai zX_sd 19 261 := ⟨by decide, fun _ _ _ => rfl⟩
theorem zX_gX9_15_18 : zx_fl zX_sd RX9 15 18 1 (fun ad _ => .ref (ad 20)) := ⟨by decide, 8, _, _, _, _, rfl, by decide, zu_X9, zw_219, Or.inl rfl, fun _ _ _ => ⟨_, rfl, rfl⟩⟩
theorem zX_a20 : zx_ai zX_sd 20 261 := ⟨by decide, fun _ _ _ => rfl⟩
theorem zX_gX9_18_18 : zx_fl zX_sd RX9 18 18 2 (fun ad _ => .ref (ad 21)) := ⟨by decide, 8, _, _, _, _, rfl, by decide, zu_X9, zw_223, Or.inl rfl, fun _ _ _ => ⟨_, rfl, rfl⟩⟩
theorem zX_a21 : zx_ai zX_sd 21 261 := ⟨by decide, fun _ _ _ => rfl⟩
theorem zX_gX9_21_18 : zx_fl zX_sd RX9 21 18 3 (fun ad _ => .ref (ad 22)) := ⟨by decide, 8, _, _, _, _, rfl, by decide, zu_X9, zw_225, Or.inl rfl, fun _ _ _ => ⟨_, rfl, rfl⟩⟩
theorem zX_a22 : zx_ai zX_sd 22 261 := ⟨by decide, fun _ _ _ => rfl⟩
theorem zX_gX9_24_18 : zx_fl zX_sd RX9 24 18 4 (fun ad _ => .ref (ad 23)) := ⟨by decide, 8, _, _, _, _, rfl, by decide, zu_X9, zw_228, Or.inl rfl, fun _ _ _ => ⟨_, rfl, rfl⟩⟩
theorem zX_sX9_138 : zx_sw zX_sd RX9 138 yX2_isIn cX2_isIn 2 (some .boolean) 2 := ⟨zw_574, zw_525, zw_64, zw_526, by decide +kernel⟩
theorem zX_vX9_125 : zx_vw zX_sd RX9 125 yX9_add cX9_add 6 none 5 := ⟨zw_560, zw_562, zw_6, zw_65, zw_563, by decide +kernel⟩
theorem zX_o18 : zx_oc zX_sd 18 RX9 := ⟨by decide, 8, _, _, rfl, fun _ _ _ => ⟨_, rfl⟩⟩
theorem zX_gX9_40_18 : zx_fl zX_sd RX9 40 18 8 (fun ad _ => .ref (ad 30)) := ⟨by decide, 8, _, _, _, _, rfl, by decide, zu_X9, zw_242, Or.inl rfl, fun _ _ _ => ⟨_, rfl, rfl⟩⟩
theorem zX_gX9_37_18 : zx_fl zX_sd RX9 37 18 7 (fun ad _ => .ref (ad 29)) := ⟨by decide, 8, _, _, _, _, rfl, by decide, zu_X9, zw_240, Or.inl rfl, fun _ _ _ => ⟨_, rfl, rfl⟩⟩
theorem zX_a29 : zx_ai zX_sd 29 16 := ⟨by decide, fun _ _ _ => rfl⟩
theorem zX_gX9_135_11 : zx_fl zX_sd RX9 135 11 1 (fun ad _ => .ref (ad 13)) := ⟨by decide, 1, _, _, _, _, rfl, by decide, zu_X2, zw_150, Or.inl rfl, fun _ _ _ => ⟨_, rfl, rfl⟩⟩
theorem zX_sX9_76 : zx_sw zX_sd RX9 76 yJ6_bitCount_0f7a4 cJ6_bitCount_0f7a4 1 (some .int) 1 := ⟨zw_568, zw_569, zw_76, zw_570, by decide +kernel⟩
theorem zX_gX9_142_1 : zx_fl zX_sd RX9 142 1 1 (fun ad _ => .ref (ad 3)) := ⟨by decide, 4, _, _, _, _, rfl, by decide, zu_X5, zw_100, Or.inl rfl, fun _ _ _ => ⟨_, rfl, rfl⟩⟩
theorem zX_gX9_34_18 : zx_fl zX_sd RX9 34 18 6 (fun ad _ => .ref (ad 28)) := ⟨by decide, 8, _, _, _, _, rfl, by decide, zu_X9, zw_238, Or.inl rfl, fun _ _ _ => ⟨_, rfl, rfl⟩⟩
theorem zX_gX9_143_1 : zx_fl zX_sd RX9 143 1 3 (fun ad _ => .ref (ad 5)) := ⟨by decide, 4, _, _, _, _, rfl, by decide, zu_X5, zw_107, Or.inl rfl, fun _ _ _ => ⟨_, rfl, rfl⟩⟩
theorem zX_vX9_68 : zx_vw zX_sd RX9 68 yX2_reaches cX2_reaches 2 (some .boolean) 1 := ⟨zw_556, zw_557, zw_558, zw_64, zw_559, by decide +kernel⟩
theorem zX_vX9_129 : zx_vw zX_sd RX9 129 yX9_numberChoices cX9_numberChoices 5 none 2 := ⟨zw_564, zw_566, zw_7, zw_65, zw_567, by decide +kernel⟩
theorem zX_vX9_132 : zx_vw zX_sd RX9 132 yX9_numberInstructions cX9_numberInstructions 5 none 2 := ⟨zw_575, zw_577, zw_8, zw_65, zw_578, by decide +kernel⟩
theorem zX_sX9_119 : zx_sw zX_sd RX9 119 yJ7_fill_53178 cJ7_fill_53178 4 none 2 := ⟨zw_555, zw_490, zw_75, zw_491, by decide +kernel⟩
theorem zX_gX9_46_18 : zx_fl zX_sd RX9 46 18 10 (fun ad _ => .ref (ad 32)) := ⟨by decide, 8, _, _, _, _, rfl, by decide, zu_X9, zw_246, Or.inl rfl, fun _ _ _ => ⟨_, rfl, rfl⟩⟩
theorem zX_a32 : zx_ai zX_sd 32 160 := ⟨by decide, fun _ _ _ => rfl⟩
theorem zX_gX9_146_11 : zx_fl zX_sd RX9 146 11 4 (fun ad _ => .ref (ad 16)) := ⟨by decide, 1, _, _, _, _, rfl, by decide, zu_X2, zw_158, Or.inl rfl, fun _ _ _ => ⟨_, rfl, rfl⟩⟩
theorem zX_gX9_30_18 : zx_fl zX_sd RX9 30 18 5 (fun ad _ => .ref (ad 24)) := ⟨by decide, 8, _, _, _, _, rfl, by decide, zu_X9, zw_234, Or.inl rfl, fun _ _ _ => ⟨_, rfl, rfl⟩⟩
theorem zX_gX9_152_24 : zx_fl zX_sd RX9 152 24 0 (fun ad _ => .ref (ad 25)) := ⟨by decide, 5, _, _, _, _, rfl, by decide, zu_X6, zw_197, Or.inl rfl, fun _ _ _ => ⟨_, rfl, rfl⟩⟩
theorem zX_a25 : zx_ai zX_sd 25 530 := ⟨by decide, fun _ _ _ => rfl⟩
theorem zX_gX9_155_1 : zx_fl zX_sd RX9 155 1 4 (fun ad _ => .ref (ad 6)) := ⟨by decide, 4, _, _, _, _, rfl, by decide, zu_X5, zw_110, Or.inl rfl, fun _ _ _ => ⟨_, rfl, rfl⟩⟩
theorem zX_gX9_149_24 : zx_fl zX_sd RX9 149 24 1 (fun ad _ => .ref (ad 26)) := ⟨by decide, 5, _, _, _, _, rfl, by decide, zu_X6, zw_201, Or.inl rfl, fun _ _ _ => ⟨_, rfl, rfl⟩⟩
theorem zX_a26 : zx_ai zX_sd 26 100 := ⟨by decide, fun _ _ _ => rfl⟩
theorem zX_gX9_161_24 : zx_fl zX_sd RX9 161 24 2 (fun ad _ => .ref (ad 27)) := ⟨by decide, 5, _, _, _, _, rfl, by decide, zu_X6, zw_206, Or.inl rfl, fun _ _ _ => ⟨_, rfl, rfl⟩⟩
theorem zX_vX9_164 : zx_vw zX_sd RX9 164 yX5_endVariable cX5_endVariable 2 (some .int) 1 := ⟨zw_588, zw_589, zw_590, zw_63, zw_591, by decide +kernel⟩
theorem zX_a27 : zx_ai zX_sd 27 16 := ⟨by decide, fun _ _ _ => rfl⟩
theorem zX_vX9_158 : zx_vw zX_sd RX9 158 yX5_howCounts cX5_howCounts 2 (some .int) 1 := ⟨zw_587, zw_510, zw_511, zw_63, zw_512, by decide +kernel⟩
theorem zX_vX9_167 : zx_vw zX_sd RX9 167 yX9_fillChoice cX9_fillChoice 5 none 2 := ⟨zw_596, zw_598, zw_12, zw_65, zw_599, by decide +kernel⟩
theorem zX_gX9_73_11 : zx_fl zX_sd RX9 73 11 3 (fun ad _ => .ref (ad 15)) := ⟨by decide, 1, _, _, _, _, rfl, by decide, zu_X2, zw_155, Or.inl rfl, fun _ _ _ => ⟨_, rfl, rfl⟩⟩
theorem zX_vX9_81 : zx_vw zX_sd RX9 81 yX9_beginBlock cX9_beginBlock 6 none 2 := ⟨zw_579, zw_581, zw_9, zw_65, zw_582, by decide +kernel⟩
theorem zX_vX9_85 : zx_vw zX_sd RX9 85 yX9_followBlock cX9_followBlock 7 none 2 := ⟨zw_583, zw_585, zw_10, zw_65, zw_586, by decide +kernel⟩
theorem zX_vX9_61 : zx_vw zX_sd RX9 61 yX9_placeChoices cX9_placeChoices 6 none 2 := ⟨zw_542, zw_544, zw_4, zw_65, zw_545, by decide +kernel⟩
theorem zX_vX9_65 : zx_vw zX_sd RX9 65 yX9_numberAll cX9_numberAll 4 none 2 := ⟨zw_551, zw_553, zw_5, zw_65, zw_554, by decide +kernel⟩
theorem zX_vX9_89 : zx_vw zX_sd RX9 89 yX9_fillChoices cX9_fillChoices 4 none 1 := ⟨zw_592, zw_594, zw_11, zw_65, zw_595, by decide +kernel⟩
theorem zX_gX0_37_18 : zx_fl zX_sd RX0 37 18 0 (fun ad _ => .ref (ad 19)) := ⟨by decide, 8, _, _, _, _, rfl, by decide, zu_X9, zw_216, Or.inl rfl, fun _ _ _ => ⟨_, rfl, rfl⟩⟩
theorem zX_gX0_40_18 : zx_fl zX_sd RX0 40 18 3 (fun ad _ => .ref (ad 22)) := ⟨by decide, 8, _, _, _, _, rfl, by decide, zu_X9, zw_226, Or.inl rfl, fun _ _ _ => ⟨_, rfl, rfl⟩⟩
theorem zX_gX0_43_18 : zx_fl zX_sd RX0 43 18 1 (fun ad _ => .ref (ad 20)) := ⟨by decide, 8, _, _, _, _, rfl, by decide, zu_X9, zw_221, Or.inl rfl, fun _ _ _ => ⟨_, rfl, rfl⟩⟩
theorem zX_gX0_9_33 : zx_fl zX_sd RX0 9 33 0 (fun ad _ => .ref (ad 34)) := ⟨by decide, 0, _, _, _, _, rfl, by decide, zu_X0, zw_282, Or.inl rfl, fun _ _ _ => ⟨_, rfl, rfl⟩⟩
theorem zX_a34 : zx_ai zX_sd 34 261 := ⟨by decide, fun _ _ _ => rfl⟩
theorem zX_sX0_33 : zx_sw zX_sd RX0 33 yX0_alike cX0_alike 3 (some .boolean) 3 := ⟨zw_608, zw_609, zw_67, zw_610, by decide +kernel⟩
theorem zX_gX0_72_18 : zx_fl zX_sd RX0 72 18 5 (fun ad _ => .ref (ad 24)) := ⟨by decide, 8, _, _, _, _, rfl, by decide, zu_X9, zw_236, Or.inl rfl, fun _ _ _ => ⟨_, rfl, rfl⟩⟩
theorem zX_gX0_76_24 : zx_fl zX_sd RX0 76 24 0 (fun ad _ => .ref (ad 25)) := ⟨by decide, 5, _, _, _, _, rfl, by decide, zu_X6, zw_195, Or.inl rfl, fun _ _ _ => ⟨_, rfl, rfl⟩⟩
theorem zX_vX0_65 : zx_vw zX_sd RX0 65 yX0_together cX0_together 4 (some .boolean) 3 := ⟨zw_627, zw_629, zw_17, zw_67, zw_630, by decide +kernel⟩
theorem zX_o33 : zx_oc zX_sd 33 RX0 := ⟨by decide, 0, _, _, rfl, fun _ _ _ => ⟨_, rfl⟩⟩
theorem zX_gX0_58_18 : zx_fl zX_sd RX0 58 18 4 (fun ad _ => .ref (ad 23)) := ⟨by decide, 8, _, _, _, _, rfl, by decide, zu_X9, zw_231, Or.inl rfl, fun _ _ _ => ⟨_, rfl, rfl⟩⟩
theorem zX_vX0_61 : zx_vw zX_sd RX0 61 yX9_operandsOf cX9_operandsOf 2 (some .int) 1 := ⟨zw_623, zw_624, zw_625, zw_65, zw_626, by decide +kernel⟩
theorem zX_sX0_68 : zx_sw zX_sd RX0 68 yX0_isEven cX0_isEven 1 (some .boolean) 1 := ⟨zw_631, zw_632, zw_67, zw_633, by decide +kernel⟩
theorem zX_gX0_15_33 : zx_fl zX_sd RX0 15 33 1 (fun ad _ => .ref (ad 35)) := ⟨by decide, 0, _, _, _, _, rfl, by decide, zu_X0, zw_285, Or.inl rfl, fun _ _ _ => ⟨_, rfl, rfl⟩⟩
theorem zX_a35 : zx_ai zX_sd 35 261 := ⟨by decide, fun _ _ _ => rfl⟩
theorem zX_vX0_55 : zx_vw zX_sd RX0 55 yX0_operandsAgree cX0_operandsAgree 9 (some .boolean) 3 := ⟨zw_619, zw_621, zw_16, zw_67, zw_622, by decide +kernel⟩
theorem zX_gX0_18_18 : zx_fl zX_sd RX0 18 18 11 (fun _ f => .int (f 11)) := ⟨by decide, 8, _, _, _, _, rfl, by decide, zu_X9, zw_247, Or.inl rfl, fun _ _ _ => ⟨_, rfl, rfl⟩⟩
theorem zX_vX0_46 : zx_vw zX_sd RX0 46 yX0_leastTogether cX0_leastTogether 4 (some .int) 2 := ⟨zw_615, zw_617, zw_15, zw_67, zw_618, by decide +kernel⟩
theorem zX_vX0_24 : zx_vw zX_sd RX0 24 yX0_leastAlike cX0_leastAlike 4 (some .int) 2 := ⟨zw_604, zw_606, zw_13, zw_67, zw_607, by decide +kernel⟩
theorem zX_vX0_28 : zx_vw zX_sd RX0 28 yX0_partFiner cX0_partFiner 4 (some .boolean) 1 := ⟨zw_611, zw_613, zw_14, zw_67, zw_614, by decide +kernel⟩
theorem zX_gX0_32_33 : zx_fl zX_sd RX0 32 33 2 (fun _ f => .int (f 2)) := ⟨by decide, 0, _, _, _, _, rfl, by decide, zu_X0, zw_286, Or.inl rfl, fun _ _ _ => ⟨_, rfl, rfl⟩⟩
theorem zX_pX0_32_33 : zx_fp zX_sd RX0 32 33 2 .int := ⟨by decide, 0, _, _, _, tyX0, rfl, by decide, zu_X0, tyX0_ok, nmX0, zw_286, rfl, by decide +kernel, fun _ _ _ => ⟨_, rfl, Nat.le_of_ble_eq_true rfl, fun _ => rfl⟩⟩
theorem zX_gX3_26_18 : zx_fl zX_sd RX3 26 18 11 (fun _ f => .int (f 11)) := ⟨by decide, 8, _, _, _, _, rfl, by decide, zu_X9, zw_249, Or.inl rfl, fun _ _ _ => ⟨_, rfl, rfl⟩⟩
theorem zX_gX3_58_33 : zx_fl zX_sd RX3 58 33 0 (fun ad _ => .ref (ad 34)) := ⟨by decide, 0, _, _, _, _, rfl, by decide, zu_X0, zw_283, Or.inl rfl, fun _ _ _ => ⟨_, rfl, rfl⟩⟩
theorem zX_gX3_63_18 : zx_fl zX_sd RX3 63 18 1 (fun ad _ => .ref (ad 20)) := ⟨by decide, 8, _, _, _, _, rfl, by decide, zu_X9, zw_220, Or.inl rfl, fun _ _ _ => ⟨_, rfl, rfl⟩⟩
theorem zX_gX3_66_11 : zx_fl zX_sd RX3 66 11 2 (fun ad _ => .ref (ad 14)) := ⟨by decide, 1, _, _, _, _, rfl, by decide, zu_X2, zw_152, Or.inl rfl, fun _ _ _ => ⟨_, rfl, rfl⟩⟩
theorem zX_sX3_69 : zx_sw zX_sd RX3 69 yX2_isIn cX2_isIn 2 (some .boolean) 2 := ⟨zw_642, zw_525, zw_64, zw_526, by decide +kernel⟩
theorem zX_gX3_9_36 : zx_fl zX_sd RX3 9 36 0 (fun ad _ => .ref (ad 37)) := ⟨by decide, 2, _, _, _, _, rfl, by decide, zu_X3, zw_303, Or.inl rfl, fun _ _ _ => ⟨_, rfl, rfl⟩⟩
theorem zX_a37 : zx_az zX_sd 37 261 := ⟨by decide, fun _ _ _ => rfl⟩
theorem zX_gX3_49_18 : zx_fl zX_sd RX3 49 18 5 (fun ad _ => .ref (ad 24)) := ⟨by decide, 8, _, _, _, _, rfl, by decide, zu_X9, zw_235, Or.inl rfl, fun _ _ _ => ⟨_, rfl, rfl⟩⟩
theorem zX_gX3_90_24 : zx_fl zX_sd RX3 90 24 0 (fun ad _ => .ref (ad 25)) := ⟨by decide, 5, _, _, _, _, rfl, by decide, zu_X6, zw_194, Or.inl rfl, fun _ _ _ => ⟨_, rfl, rfl⟩⟩
theorem zX_gX3_18_36 : zx_fl zX_sd RX3 18 36 1 (fun ad _ => .ref (ad 38)) := ⟨by decide, 2, _, _, _, _, rfl, by decide, zu_X3, zw_306, Or.inl rfl, fun _ _ _ => ⟨_, rfl, rfl⟩⟩
theorem zX_gX3_90_38 : zx_fl zX_sd RX3 90 38 0 (fun ad _ => .ref (ad 39)) := ⟨by decide, 5, _, _, _, _, rfl, by decide, zu_X6, zw_194, Or.inl rfl, fun _ _ _ => ⟨_, rfl, rfl⟩⟩
theorem zX_vX3_54 : zx_vw zX_sd RX3 54 yX3_leader cX3_leader 8 (some .int) 5 := ⟨zw_651, zw_653, zw_19, zw_68, zw_654, by decide +kernel⟩
theorem zX_o36 : zx_oc zX_sd 36 RX3 := ⟨by decide, 2, _, _, rfl, fun _ _ _ => ⟨_, rfl⟩⟩
theorem zX_a39 : zx_ai zX_sd 39 530 := ⟨by decide, fun _ _ _ => rfl⟩
theorem zX_vX3_76 : zx_vw zX_sd RX3 76 yX9_operandsOf cX9_operandsOf 2 (some .int) 1 := ⟨zw_647, zw_624, zw_625, zw_65, zw_626, by decide +kernel⟩
theorem zX_gX3_80_18 : zx_fl zX_sd RX3 80 18 0 (fun ad _ => .ref (ad 19)) := ⟨by decide, 8, _, _, _, _, rfl, by decide, zu_X9, zw_217, Or.inl rfl, fun _ _ _ => ⟨_, rfl, rfl⟩⟩
theorem zX_gX3_83_11 : zx_fl zX_sd RX3 83 11 1 (fun ad _ => .ref (ad 13)) := ⟨by decide, 1, _, _, _, _, rfl, by decide, zu_X2, zw_148, Or.inl rfl, fun _ _ _ => ⟨_, rfl, rfl⟩⟩
theorem zX_sX3_86 : zx_sw zX_sd RX3 86 yX2_nthOf cX2_nthOf 4 (some .int) 2 := ⟨zw_648, zw_649, zw_64, zw_650, by decide +kernel⟩
theorem zX_gX3_73_18 : zx_fl zX_sd RX3 73 18 4 (fun ad _ => .ref (ad 23)) := ⟨by decide, 8, _, _, _, _, rfl, by decide, zu_X9, zw_230, Or.inl rfl, fun _ _ _ => ⟨_, rfl, rfl⟩⟩
theorem zX_gX3_93_1 : zx_fl zX_sd RX3 93 1 0 (fun ad _ => .ref (ad 2)) := ⟨by decide, 4, _, _, _, _, rfl, by decide, zu_X5, zw_93, Or.inl rfl, fun _ _ _ => ⟨_, rfl, rfl⟩⟩
theorem zX_gX3_98_1 : zx_fl zX_sd RX3 98 1 1 (fun ad _ => .ref (ad 3)) := ⟨by decide, 4, _, _, _, _, rfl, by decide, zu_X5, zw_99, Or.inl rfl, fun _ _ _ => ⟨_, rfl, rfl⟩⟩
theorem zX_gX3_99_38 : zx_fl zX_sd RX3 99 38 1 (fun ad _ => .ref (ad 40)) := ⟨by decide, 5, _, _, _, _, rfl, by decide, zu_X6, zw_200, Or.inl rfl, fun _ _ _ => ⟨_, rfl, rfl⟩⟩
theorem zX_gX3_99_24 : zx_fl zX_sd RX3 99 24 1 (fun ad _ => .ref (ad 26)) := ⟨by decide, 5, _, _, _, _, rfl, by decide, zu_X6, zw_200, Or.inl rfl, fun _ _ _ => ⟨_, rfl, rfl⟩⟩
theorem zX_a40 : zx_ai zX_sd 40 100 := ⟨by decide, fun _ _ _ => rfl⟩
theorem zX_sX3_31 : zx_sw zX_sd RX3 31 yX3_isLed cX3_isLed 7 (some .boolean) 4 := ⟨zw_639, zw_640, zw_68, zw_641, by decide +kernel⟩
theorem zX_gX3_22_36 : zx_fl zX_sd RX3 22 36 2 (fun _ f => .int (f 2)) := ⟨by decide, 2, _, _, _, _, rfl, by decide, zu_X3, zw_309, Or.inl rfl, fun _ _ _ => ⟨_, rfl, rfl⟩⟩
theorem zX_pX3_22_36 : zx_fp zX_sd RX3 22 36 2 .int := ⟨by decide, 2, _, _, _, tyX3, rfl, by decide, zu_X3, tyX3_ok, nmX3, zw_309, rfl, by decide +kernel, fun _ _ _ => ⟨_, rfl, Nat.le_of_ble_eq_true rfl, fun _ => rfl⟩⟩
theorem zX_vX3_35 : zx_vw zX_sd RX3 35 yX3_leadOperands cX3_leadOperands 10 none 4 := ⟨zw_643, zw_645, zw_18, zw_68, zw_646, by decide +kernel⟩
theorem zX_vX3_39 : zx_vw zX_sd RX3 39 yX2_reaches cX2_reaches 2 (some .boolean) 1 := ⟨zw_655, zw_557, zw_558, zw_64, zw_559, by decide +kernel⟩
theorem zX_vX3_45 : zx_vw zX_sd RX3 45 yX3_leadEmits cX3_leadEmits 7 none 5 := ⟨zw_656, zw_658, zw_20, zw_68, zw_659, by decide +kernel⟩
theorem zX_gX3_50_24 : zx_fl zX_sd RX3 50 24 2 (fun ad _ => .ref (ad 27)) := ⟨by decide, 5, _, _, _, _, rfl, by decide, zu_X6, zw_204, Or.inl rfl, fun _ _ _ => ⟨_, rfl, rfl⟩⟩
theorem zX_gX3_50_38 : zx_fl zX_sd RX3 50 38 2 (fun ad _ => .ref (ad 41)) := ⟨by decide, 5, _, _, _, _, rfl, by decide, zu_X6, zw_204, Or.inl rfl, fun _ _ _ => ⟨_, rfl, rfl⟩⟩
theorem zX_a41 : zx_ai zX_sd 41 16 := ⟨by decide, fun _ _ _ => rfl⟩
theorem zX_gX10_71_0 : zx_fl zX_sd RX10 71 0 9 (fun _ f => .int (f 9)) := ⟨by decide, 9, _, _, _, _, rfl, by decide, zu_X10, zw_412, Or.inl rfl, fun _ _ _ => ⟨_, rfl, rfl⟩⟩
theorem zX_gX10_19_0 : zx_fl zX_sd RX10 19 0 1 (fun ad _ => .ref (ad 11)) := ⟨by decide, 9, _, _, _, _, rfl, by decide, zu_X10, zw_404, Or.inl rfl, fun _ _ _ => ⟨_, rfl, rfl⟩⟩
theorem zX_vX10_240 : zx_vw zX_sd RX10 240 yX2_draw cX2_draw 3 none 1 := ⟨zw_500, zw_501, zw_502, zw_64, zw_503, by decide +kernel⟩
theorem zX_gX10_26_0 : zx_fl zX_sd RX10 26 0 2 (fun ad _ => .ref (ad 18)) := ⟨by decide, 9, _, _, _, _, rfl, by decide, zu_X10, zw_405, Or.inl rfl, fun _ _ _ => ⟨_, rfl, rfl⟩⟩
theorem zX_vX10_243 : zx_vw zX_sd RX10 243 yX9_make cX9_make 5 none 2 := ⟨zw_538, zw_539, zw_540, zw_65, zw_541, by decide +kernel⟩
theorem zX_gX10_33_0 : zx_fl zX_sd RX10 33 0 3 (fun ad _ => .ref (ad 33)) := ⟨by decide, 9, _, _, _, _, rfl, by decide, zu_X10, zw_406, Or.inl rfl, fun _ _ _ => ⟨_, rfl, rfl⟩⟩
theorem zX_vX10_247 : zx_vw zX_sd RX10 247 yX0_part cX0_part 4 none 1 := ⟨zw_600, zw_601, zw_602, zw_67, zw_603, by decide +kernel⟩
theorem zX_gX10_40_0 : zx_fl zX_sd RX10 40 0 4 (fun ad _ => .ref (ad 36)) := ⟨by decide, 9, _, _, _, _, rfl, by decide, zu_X10, zw_407, Or.inl rfl, fun _ _ _ => ⟨_, rfl, rfl⟩⟩
theorem zX_vX10_251 : zx_vw zX_sd RX10 251 yX3_lead cX3_lead 7 none 4 := ⟨zw_635, zw_636, zw_637, zw_68, zw_638, by decide +kernel⟩
theorem zX_gX10_122_11 : zx_fl zX_sd RX10 122 11 4 (fun ad _ => .ref (ad 16)) := ⟨by decide, 1, _, _, _, _, rfl, by decide, zu_X2, zw_157, Or.inl rfl, fun _ _ _ => ⟨_, rfl, rfl⟩⟩
theorem zX_gX10_125_11 : zx_fl zX_sd RX10 125 11 1 (fun ad _ => .ref (ad 13)) := ⟨by decide, 1, _, _, _, _, rfl, by decide, zu_X2, zw_149, Or.inl rfl, fun _ _ _ => ⟨_, rfl, rfl⟩⟩
theorem zX_sX10_128 : zx_sw zX_sd RX10 128 yJ6_bitCount_0f7a4 cJ6_bitCount_0f7a4 1 (some .int) 1 := ⟨zw_666, zw_569, zw_76, zw_570, by decide +kernel⟩
theorem zX_gX10_133_18 : zx_fl zX_sd RX10 133 18 8 (fun ad _ => .ref (ad 30)) := ⟨by decide, 8, _, _, _, _, rfl, by decide, zu_X9, zw_244, Or.inl rfl, fun _ _ _ => ⟨_, rfl, rfl⟩⟩
theorem zX_gX10_136_11 : zx_fl zX_sd RX10 136 11 5 (fun ad _ => .ref (ad 17)) := ⟨by decide, 1, _, _, _, _, rfl, by decide, zu_X2, zw_161, Or.inl rfl, fun _ _ _ => ⟨_, rfl, rfl⟩⟩
theorem zX_vX10_104 : zx_vw zX_sd RX10 104 yX10_refresh cX10_refresh 1 none 0 := ⟨zw_496, zw_498, zw_0, zw_62, zw_499, by decide +kernel⟩
theorem zX_o0 : zx_oc zX_sd 0 RX10 := ⟨by decide, 9, _, _, rfl, fun _ _ _ => ⟨_, rfl⟩⟩
theorem zX_vX10_107 : zx_vw zX_sd RX10 107 yX2_reaches cX2_reaches 2 (some .boolean) 1 := ⟨zw_660, zw_557, zw_558, zw_64, zw_559, by decide +kernel⟩
theorem zX_gX10_110_1 : zx_fl zX_sd RX10 110 1 0 (fun ad _ => .ref (ad 2)) := ⟨by decide, 4, _, _, _, _, rfl, by decide, zu_X5, zw_94, Or.inl rfl, fun _ _ _ => ⟨_, rfl, rfl⟩⟩
theorem zX_vX10_114 : zx_vw zX_sd RX10 114 yX5_howCounts cX5_howCounts 2 (some .int) 1 := ⟨zw_661, zw_510, zw_511, zw_63, zw_512, by decide +kernel⟩
theorem zX_vX10_118 : zx_vw zX_sd RX10 118 yX10_aboutReached cX10_aboutReached 3 (some .int) 2 := ⟨zw_662, zw_664, zw_21, zw_62, zw_665, by decide +kernel⟩
theorem zX_sX10_139 : zx_sw zX_sd RX10 139 yX2_nthOf cX2_nthOf 4 (some .int) 2 := ⟨zw_671, zw_649, zw_64, zw_650, by decide +kernel⟩
theorem zX_gX10_142_11 : zx_fl zX_sd RX10 142 11 2 (fun ad _ => .ref (ad 14)) := ⟨by decide, 1, _, _, _, _, rfl, by decide, zu_X2, zw_153, Or.inl rfl, fun _ _ _ => ⟨_, rfl, rfl⟩⟩
theorem zX_sX10_145 : zx_sw zX_sd RX10 145 yX2_isIn cX2_isIn 2 (some .boolean) 2 := ⟨zw_676, zw_525, zw_64, zw_526, by decide +kernel⟩
theorem zX_vX10_149 : zx_vw zX_sd RX10 149 yX9_has cX9_has 2 (some .boolean) 1 := ⟨zw_685, zw_686, zw_687, zw_65, zw_688, by decide +kernel⟩
theorem zX_gX10_150_18 : zx_fl zX_sd RX10 150 18 0 (fun ad _ => .ref (ad 19)) := ⟨by decide, 8, _, _, _, _, rfl, by decide, zu_X9, zw_218, Or.inl rfl, fun _ _ _ => ⟨_, rfl, rfl⟩⟩
theorem zX_gX10_153_18 : zx_fl zX_sd RX10 153 18 1 (fun ad _ => .ref (ad 20)) := ⟨by decide, 8, _, _, _, _, rfl, by decide, zu_X9, zw_222, Or.inl rfl, fun _ _ _ => ⟨_, rfl, rfl⟩⟩
theorem zX_gX10_156_18 : zx_fl zX_sd RX10 156 18 2 (fun ad _ => .ref (ad 21)) := ⟨by decide, 8, _, _, _, _, rfl, by decide, zu_X9, zw_224, Or.inl rfl, fun _ _ _ => ⟨_, rfl, rfl⟩⟩
theorem zX_gX10_159_33 : zx_fl zX_sd RX10 159 33 0 (fun ad _ => .ref (ad 34)) := ⟨by decide, 0, _, _, _, _, rfl, by decide, zu_X0, zw_284, Or.inl rfl, fun _ _ _ => ⟨_, rfl, rfl⟩⟩
theorem zX_gX10_162_36 : zx_fl zX_sd RX10 162 36 0 (fun ad _ => .ref (ad 37)) := ⟨by decide, 2, _, _, _, _, rfl, by decide, zu_X3, zw_305, Or.inl rfl, fun _ _ _ => ⟨_, rfl, rfl⟩⟩
theorem zX_vX10_166 : zx_vw zX_sd RX10 166 yX9_operandsOf cX9_operandsOf 2 (some .int) 1 := ⟨zw_689, zw_624, zw_625, zw_65, zw_626, by decide +kernel⟩
theorem zX_gX10_169_18 : zx_fl zX_sd RX10 169 18 3 (fun ad _ => .ref (ad 22)) := ⟨by decide, 8, _, _, _, _, rfl, by decide, zu_X9, zw_227, Or.inl rfl, fun _ _ _ => ⟨_, rfl, rfl⟩⟩
theorem zX_vX9_53 : zx_vw zX_sd RX9 53 yX9_has cX9_has 2 (some .boolean) 1 := ⟨zw_698, zw_686, zw_687, zw_65, zw_688, by decide +kernel⟩
theorem zX_vX9_57 : zx_vw zX_sd RX9 57 yX9_operandsOf cX9_operandsOf 2 (some .int) 1 := ⟨zw_699, zw_624, zw_625, zw_65, zw_626, by decide +kernel⟩
theorem zX_vX10_172 : zx_vw zX_sd RX10 172 yX9_hasOperand cX9_hasOperand 3 (some .boolean) 2 := ⟨zw_694, zw_695, zw_696, zw_65, zw_697, by decide +kernel⟩
theorem zX_gX10_175_18 : zx_fl zX_sd RX10 175 18 5 (fun ad _ => .ref (ad 24)) := ⟨by decide, 8, _, _, _, _, rfl, by decide, zu_X9, zw_237, Or.inl rfl, fun _ _ _ => ⟨_, rfl, rfl⟩⟩
theorem zX_gX10_179_24 : zx_fl zX_sd RX10 179 24 0 (fun ad _ => .ref (ad 25)) := ⟨by decide, 5, _, _, _, _, rfl, by decide, zu_X6, zw_196, Or.inl rfl, fun _ _ _ => ⟨_, rfl, rfl⟩⟩
theorem zX_gX10_184_18 : zx_fl zX_sd RX10 184 18 4 (fun ad _ => .ref (ad 23)) := ⟨by decide, 8, _, _, _, _, rfl, by decide, zu_X9, zw_232, Or.inl rfl, fun _ _ _ => ⟨_, rfl, rfl⟩⟩
theorem zX_gX10_187_36 : zx_fl zX_sd RX10 187 36 1 (fun ad _ => .ref (ad 38)) := ⟨by decide, 2, _, _, _, _, rfl, by decide, zu_X3, zw_308, Or.inl rfl, fun _ _ _ => ⟨_, rfl, rfl⟩⟩
theorem zX_gX10_179_38 : zx_fl zX_sd RX10 179 38 0 (fun ad _ => .ref (ad 39)) := ⟨by decide, 5, _, _, _, _, rfl, by decide, zu_X6, zw_196, Or.inl rfl, fun _ _ _ => ⟨_, rfl, rfl⟩⟩
theorem zX_vX10_188 : zx_vw zX_sd RX10 188 yX10_readsOf cX10_readsOf 2 (some (.object "ValueBench$Reads")) 1 := ⟨zw_712, zw_714, zw_22, zw_62, zw_715, by decide +kernel⟩
theorem zX_gX10_192_24 : zx_fl zX_sd RX10 192 24 2 (fun ad _ => .ref (ad 27)) := ⟨by decide, 5, _, _, _, _, rfl, by decide, zu_X6, zw_207, Or.inl rfl, fun _ _ _ => ⟨_, rfl, rfl⟩⟩
theorem zX_gX10_192_38 : zx_fl zX_sd RX10 192 38 2 (fun ad _ => .ref (ad 41)) := ⟨by decide, 5, _, _, _, _, rfl, by decide, zu_X6, zw_207, Or.inl rfl, fun _ _ _ => ⟨_, rfl, rfl⟩⟩
theorem zX_vX10_195 : zx_vw zX_sd RX10 195 yX5_nthEmit cX5_nthEmit 5 (some .int) 2 := ⟨zw_720, zw_721, zw_722, zw_63, zw_723, by decide +kernel⟩
theorem zX_gX10_198_24 : zx_fl zX_sd RX10 198 24 1 (fun ad _ => .ref (ad 26)) := ⟨by decide, 5, _, _, _, _, rfl, by decide, zu_X6, zw_202, Or.inl rfl, fun _ _ _ => ⟨_, rfl, rfl⟩⟩
theorem zX_gX10_198_38 : zx_fl zX_sd RX10 198 38 1 (fun ad _ => .ref (ad 40)) := ⟨by decide, 5, _, _, _, _, rfl, by decide, zu_X6, zw_202, Or.inl rfl, fun _ _ _ => ⟨_, rfl, rfl⟩⟩
theorem zX_gX4_9_50 : zx_fl zX_sd RX4 9 50 1 (fun ad _ => .ref (ad 51)) := ⟨by decide, 3, _, _, _, _, rfl, by decide, zu_X4, zw_373, Or.inl rfl, fun _ _ _ => ⟨_, rfl, rfl⟩⟩
theorem zX_a51 : zx_ai zX_sd 51 4 := ⟨by decide, fun _ _ _ => rfl⟩
theorem zX_a43 : zx_ai zX_sd 43 10 := ⟨by decide, fun _ _ _ => rfl⟩
theorem zX_gX7_15_42 : zx_fl zX_sd RX7 15 42 0 (fun ad _ => .ref (ad 43)) := ⟨by decide, 6, _, _, _, _, rfl, by decide, zu_X7, zw_330, Or.inr zw_331, fun _ _ _ => ⟨_, rfl, rfl⟩⟩
theorem zX_sX7_19 : zx_sw zX_sd RX7 19 yJ7_fill_53178 cJ7_fill_53178 4 none 2 := ⟨zw_742, zw_490, zw_75, zw_491, by decide +kernel⟩
theorem zX_gX4_29_50 : zx_fl zX_sd RX4 29 50 5 (fun _ f => .int (f 5)) := ⟨by decide, 3, _, _, _, _, rfl, by decide, zu_X4, zw_380, Or.inl rfl, fun _ _ _ => ⟨_, rfl, rfl⟩⟩
theorem zX_gX4_18_50 : zx_fl zX_sd RX4 18 50 3 (fun _ f => .int (f 3)) := ⟨by decide, 3, _, _, _, _, rfl, by decide, zu_X4, zw_376, Or.inl rfl, fun _ _ _ => ⟨_, rfl, rfl⟩⟩
theorem zX_pX4_29_50 : zx_fp zX_sd RX4 29 50 5 .int := ⟨by decide, 3, _, _, _, tyX4, rfl, by decide, zu_X4, tyX4_ok, nmX4, zw_380, rfl, by decide +kernel, fun _ _ _ => ⟨_, rfl, Nat.le_of_ble_eq_true rfl, fun _ => rfl⟩⟩
theorem zX_gX7_9_42 : zx_fl zX_sd RX7 9 42 1 (fun ad _ => .ref (ad 1)) := ⟨by decide, 6, _, _, _, _, rfl, by decide, zu_X7, zw_328, Or.inl rfl, fun _ _ _ => ⟨_, rfl, rfl⟩⟩
theorem zX_gX7_25_1 : zx_fl zX_sd RX7 25 1 2 (fun ad _ => .ref (ad 4)) := ⟨by decide, 4, _, _, _, _, rfl, by decide, zu_X5, zw_102, Or.inl rfl, fun _ _ _ => ⟨_, rfl, rfl⟩⟩
theorem zX_gX7_30_1 : zx_fl zX_sd RX7 30 1 3 (fun ad _ => .ref (ad 5)) := ⟨by decide, 4, _, _, _, _, rfl, by decide, zu_X5, zw_105, Or.inl rfl, fun _ _ _ => ⟨_, rfl, rfl⟩⟩
theorem zX_gX7_33_1 : zx_fl zX_sd RX7 33 1 4 (fun ad _ => .ref (ad 6)) := ⟨by decide, 4, _, _, _, _, rfl, by decide, zu_X5, zw_109, Or.inl rfl, fun _ _ _ => ⟨_, rfl, rfl⟩⟩
theorem zX_sX4_102 : zx_sw zX_sd RX4 102 yX4_divide cX4_divide 2 (some .int) 2 := ⟨zw_810, zw_811, zw_72, zw_812, by decide +kernel⟩
theorem zX_gX4_32_50 : zx_fl zX_sd RX4 32 50 6 (fun _ f => .int (f 6)) := ⟨by decide, 3, _, _, _, _, rfl, by decide, zu_X4, zw_382, Or.inl rfl, fun _ _ _ => ⟨_, rfl, rfl⟩⟩
theorem zX_pX4_32_50 : zx_fp zX_sd RX4 32 50 6 .int := ⟨by decide, 3, _, _, _, tyX4, rfl, by decide, zu_X4, tyX4_ok, nmX4, zw_382, rfl, by decide +kernel, fun _ _ _ => ⟨_, rfl, Nat.le_of_ble_eq_true rfl, fun _ => rfl⟩⟩
theorem zX_gX4_15_50 : zx_fl zX_sd RX4 15 50 2 (fun ad _ => .ref (ad 52)) := ⟨by decide, 3, _, _, _, _, rfl, by decide, zu_X4, zw_374, Or.inl rfl, fun _ _ _ => ⟨_, rfl, rfl⟩⟩
theorem zX_a52 : zx_ai zX_sd 52 60 := ⟨by decide, fun _ _ _ => rfl⟩
theorem zX_gX4_58_42 : zx_fl zX_sd RX4 58 42 0 (fun ad _ => .ref (ad 43)) := ⟨by decide, 6, _, _, _, _, rfl, by decide, zu_X7, zw_334, Or.inl rfl, fun _ _ _ => ⟨_, rfl, rfl⟩⟩
theorem zX_gX4_22_50 : zx_fl zX_sd RX4 22 50 0 (fun ad _ => .ref (ad 1)) := ⟨by decide, 3, _, _, _, _, rfl, by decide, zu_X4, zw_372, Or.inl rfl, fun _ _ _ => ⟨_, rfl, rfl⟩⟩
theorem zX_gX4_79_1 : zx_fl zX_sd RX4 79 1 1 (fun ad _ => .ref (ad 3)) := ⟨by decide, 4, _, _, _, _, rfl, by decide, zu_X5, zw_98, Or.inl rfl, fun _ _ _ => ⟨_, rfl, rfl⟩⟩
theorem zX_bX4_82_X7 : zx_aw zX_sd RX4 82 RX7 "ValueBench$Form" ⟨"ValueBench$Form", "target", "(I)I"⟩ yX7_target cX7_target 2 (some .int) 1 := ⟨zw_776, zw_778, zw_779, zw_780, zw_70, zw_781, (by decide +kernel), by decide +kernel⟩
theorem zX_o42 : zx_oc zX_sd 42 RX7 := ⟨by decide, 6, _, _, rfl, fun _ _ _ => ⟨_, rfl⟩⟩
theorem zX_gX4_85_1 : zx_fl zX_sd RX4 85 1 3 (fun ad _ => .ref (ad 5)) := ⟨by decide, 4, _, _, _, _, rfl, by decide, zu_X5, zw_106, Or.inl rfl, fun _ _ _ => ⟨_, rfl, rfl⟩⟩
theorem zX_bX4_88_X7 : zx_aw zX_sd RX4 88 RX7 "ValueBench$Form" ⟨"ValueBench$Form", "left", "(I)I"⟩ yX7_left cX7_left 2 (some .int) 1 := ⟨zw_785, zw_787, zw_788, zw_789, zw_70, zw_790, (by decide +kernel), by decide +kernel⟩
theorem zX_vX4_91 : zx_vw zX_sd RX4 91 yX4_tell cX4_tell 2 none 1 := ⟨zw_794, zw_796, zw_27, zw_72, zw_797, by decide +kernel⟩
theorem zX_o50 : zx_oc zX_sd 50 RX4 := ⟨by decide, 3, _, _, rfl, fun _ _ _ => ⟨_, rfl⟩⟩
theorem zX_bX4_95_X7 : zx_aw zX_sd RX4 95 RX7 "ValueBench$Form" ⟨"ValueBench$Form", "right", "(I)I"⟩ yX7_right cX7_right 2 (some .int) 1 := ⟨zw_798, zw_800, zw_801, zw_802, zw_70, zw_803, (by decide +kernel), by decide +kernel⟩
theorem zX_sX4_98 : zx_sw zX_sd RX4 98 yX4_compute cX4_compute 3 (some .int) 3 := ⟨zw_807, zw_808, zw_72, zw_809, by decide +kernel⟩
theorem zX_gX4_68_1 : zx_fl zX_sd RX4 68 1 0 (fun ad _ => .ref (ad 2)) := ⟨by decide, 4, _, _, _, _, rfl, by decide, zu_X5, zw_92, Or.inl rfl, fun _ _ _ => ⟨_, rfl, rfl⟩⟩
theorem zX_gX4_35_50 : zx_fl zX_sd RX4 35 50 7 (fun _ f => .int (f 7)) := ⟨by decide, 3, _, _, _, _, rfl, by decide, zu_X4, zw_384, Or.inl rfl, fun _ _ _ => ⟨_, rfl, rfl⟩⟩
theorem zX_bX4_71_X7 : zx_aw zX_sd RX4 71 RX7 "ValueBench$Form" ⟨"ValueBench$Form", "keeps", "(I)Z"⟩ yX7_keeps cX7_keeps 2 (some .boolean) 1 := ⟨zw_759, zw_761, zw_762, zw_763, zw_70, zw_764, (by decide +kernel), by decide +kernel⟩
theorem zX_vX4_48 : zx_vw zX_sd RX4 48 yX4_pay cX4_pay 1 (some .boolean) 0 := ⟨zw_768, zw_770, zw_25, zw_72, zw_771, by decide +kernel⟩
theorem zX_vX4_75 : zx_vw zX_sd RX4 75 yX4_follow cX4_follow 5 none 2 := ⟨zw_772, zw_774, zw_26, zw_72, zw_775, by decide +kernel⟩
theorem zX_vX7_36 : zx_vw zX_sd RX7 36 yX5_endVariable cX5_endVariable 2 (some .int) 1 := ⟨zw_820, zw_589, zw_590, zw_63, zw_591, by decide +kernel⟩
theorem zX_vX4_64 : zx_vw zX_sd RX4 64 yX5_next cX5_next 3 (some .int) 2 := ⟨zw_824, zw_825, zw_826, zw_63, zw_827, by decide +kernel⟩
theorem zX_pX4_35_50 : zx_fp zX_sd RX4 35 50 7 .int := ⟨by decide, 3, _, _, _, tyX4, rfl, by decide, zu_X4, tyX4_ok, nmX4, zw_384, rfl, by decide +kernel, fun _ _ _ => ⟨_, rfl, Nat.le_of_ble_eq_true rfl, fun _ => rfl⟩⟩
theorem zX_bX4_38_X7 : zx_aw zX_sd RX4 38 RX7 "ValueBench$Form" ⟨"ValueBench$Form", "begin", "(II)V"⟩ yX7_begin cX7_begin 3 none 2 := ⟨zw_736, zw_738, zw_739, zw_740, zw_70, zw_741, (by decide +kernel), by decide +kernel⟩
theorem zX_vX4_44 : zx_vw zX_sd RX4 44 yX4_followBlock cX4_followBlock 3 (some .boolean) 1 := ⟨zw_755, zw_757, zw_24, zw_72, zw_758, by decide +kernel⟩
theorem zX_vX4_52 : zx_vw zX_sd RX4 52 yX5_howCounts cX5_howCounts 2 (some .int) 1 := ⟨zw_813, zw_510, zw_511, zw_63, zw_512, by decide +kernel⟩
theorem zX_bX4_61_X7 : zx_aw zX_sd RX4 61 RX7 "ValueBench$Form" ⟨"ValueBench$Form", "endCell", "(I)I"⟩ yX7_endCell cX7_endCell 2 (some .int) 1 := ⟨zw_814, zw_816, zw_817, zw_818, zw_70, zw_819, (by decide +kernel), by decide +kernel⟩
theorem zX_pX4_26_50 : zx_fp zX_sd RX4 26 50 4 .int := ⟨by decide, 3, _, _, _, tyX4, rfl, by decide, zu_X4, tyX4_ok, nmX4, zw_378, rfl, by decide +kernel, fun _ _ _ => ⟨_, rfl, Nat.le_of_ble_eq_true rfl, fun _ => rfl⟩⟩
theorem zX_gX8_27_44 : zx_fl zX_sd RX8 27 44 4 (fun _ _ => .null) := ⟨by decide, 7, _, _, _, _, rfl, by decide, zu_X8, zw_349, Or.inl rfl, fun _ _ _ => ⟨_, rfl, rfl⟩⟩
theorem zX_sX2_34 : zx_sw zX_sd RX2 34 yJ6_bitCount_0f7a4 cJ6_bitCount_0f7a4 1 (some .int) 1 := ⟨zw_750, zw_569, zw_76, zw_570, by decide +kernel⟩
theorem zX_vX8_66 : zx_vw zX_sd RX8 66 yX8_goes cX8_goes 2 (some .boolean) 1 := ⟨zw_751, zw_753, zw_23, zw_71, zw_754, by decide +kernel⟩
theorem zX_o44 : zx_oc zX_sd 44 RX8 := ⟨by decide, 7, _, _, rfl, fun _ _ _ => ⟨_, rfl⟩⟩
theorem zX_gX8_9_44 : zx_fl zX_sd RX8 9 44 6 (fun ad _ => .ref (ad 46)) := ⟨by decide, 7, _, _, _, _, rfl, by decide, zu_X8, zw_351, Or.inl rfl, fun _ _ _ => ⟨_, rfl, rfl⟩⟩
theorem zX_gX8_70_44 : zx_fl zX_sd RX8 70 44 0 (fun ad _ => .ref (ad 45)) := ⟨by decide, 7, _, _, _, _, rfl, by decide, zu_X8, zw_332, Or.inr zw_333, fun _ _ _ => ⟨_, rfl, rfl⟩⟩
theorem zX_gX8_40_44 : zx_fl zX_sd RX8 40 44 5 (fun ad _ => .ref (ad 24)) := ⟨by decide, 7, _, _, _, _, rfl, by decide, zu_X8, zw_350, Or.inl rfl, fun _ _ _ => ⟨_, rfl, rfl⟩⟩
theorem zX_gX8_73_24 : zx_fl zX_sd RX8 73 24 0 (fun ad _ => .ref (ad 25)) := ⟨by decide, 5, _, _, _, _, rfl, by decide, zu_X6, zw_193, Or.inl rfl, fun _ _ _ => ⟨_, rfl, rfl⟩⟩
theorem zX_gX8_23_44 : zx_fl zX_sd RX8 23 44 3 (fun ad _ => .ref (ad 18)) := ⟨by decide, 7, _, _, _, _, rfl, by decide, zu_X8, zw_348, Or.inl rfl, fun _ _ _ => ⟨_, rfl, rfl⟩⟩
theorem zX_gX8_78_18 : zx_fl zX_sd RX8 78 18 4 (fun ad _ => .ref (ad 23)) := ⟨by decide, 8, _, _, _, _, rfl, by decide, zu_X9, zw_229, Or.inl rfl, fun _ _ _ => ⟨_, rfl, rfl⟩⟩
theorem zX_a45 : zx_ai zX_sd 45 261 := ⟨by decide, fun _ _ _ => rfl⟩
theorem zX_a46 : zx_ai zX_sd 46 10 := ⟨by decide, fun _ _ _ => rfl⟩
theorem zX_gX8_45_18 : zx_fl zX_sd RX8 45 18 8 (fun ad _ => .ref (ad 30)) := ⟨by decide, 8, _, _, _, _, rfl, by decide, zu_X9, zw_243, Or.inl rfl, fun _ _ _ => ⟨_, rfl, rfl⟩⟩
theorem zX_gX8_48_18 : zx_fl zX_sd RX8 48 18 7 (fun ad _ => .ref (ad 29)) := ⟨by decide, 8, _, _, _, _, rfl, by decide, zu_X9, zw_241, Or.inl rfl, fun _ _ _ => ⟨_, rfl, rfl⟩⟩
theorem zX_gX8_19_44 : zx_fl zX_sd RX8 19 44 2 (fun ad _ => .ref (ad 11)) := ⟨by decide, 7, _, _, _, _, rfl, by decide, zu_X8, zw_347, Or.inl rfl, fun _ _ _ => ⟨_, rfl, rfl⟩⟩
theorem zX_gX8_51_11 : zx_fl zX_sd RX8 51 11 1 (fun ad _ => .ref (ad 13)) := ⟨by decide, 1, _, _, _, _, rfl, by decide, zu_X2, zw_147, Or.inl rfl, fun _ _ _ => ⟨_, rfl, rfl⟩⟩
theorem zX_sX8_62 : zx_sw zX_sd RX8 62 yX2_placeIn cX2_placeIn 2 (some .int) 2 := ⟨zw_747, zw_748, zw_64, zw_749, by decide +kernel⟩
theorem zX_sX8_56 : zx_sw zX_sd RX8 56 yJ6_bitCount_0f7a4 cJ6_bitCount_0f7a4 1 (some .int) 1 := ⟨zw_746, zw_569, zw_76, zw_570, by decide +kernel⟩
theorem zX_gX8_81_18 : zx_fl zX_sd RX8 81 18 6 (fun ad _ => .ref (ad 28)) := ⟨by decide, 8, _, _, _, _, rfl, by decide, zu_X9, zw_239, Or.inl rfl, fun _ _ _ => ⟨_, rfl, rfl⟩⟩
theorem zX_gX8_15_44 : zx_fl zX_sd RX8 15 44 1 (fun ad _ => .ref (ad 1)) := ⟨by decide, 7, _, _, _, _, rfl, by decide, zu_X8, zw_346, Or.inl rfl, fun _ _ _ => ⟨_, rfl, rfl⟩⟩
theorem zX_gX8_84_1 : zx_fl zX_sd RX8 84 1 1 (fun ad _ => .ref (ad 3)) := ⟨by decide, 4, _, _, _, _, rfl, by decide, zu_X5, zw_97, Or.inl rfl, fun _ _ _ => ⟨_, rfl, rfl⟩⟩
theorem zX_gX8_89_24 : zx_fl zX_sd RX8 89 24 1 (fun ad _ => .ref (ad 26)) := ⟨by decide, 5, _, _, _, _, rfl, by decide, zu_X6, zw_199, Or.inl rfl, fun _ _ _ => ⟨_, rfl, rfl⟩⟩
theorem zX_gX4_58_44 : zx_fl zX_sd RX4 58 44 0 (fun ad _ => .ref (ad 45)) := ⟨by decide, 7, _, _, _, _, rfl, by decide, zu_X8, zw_334, Or.inl rfl, fun _ _ _ => ⟨_, rfl, rfl⟩⟩
theorem zX_bX4_82_X8 : zx_aw zX_sd RX4 82 RX8 "ValueBench$Form" ⟨"ValueBench$Form", "target", "(I)I"⟩ yX8_target cX8_target 2 (some .int) 1 := ⟨zw_776, zw_778, zw_782, zw_783, zw_71, zw_784, (by decide +kernel), by decide +kernel⟩
theorem zX_bX4_88_X8 : zx_aw zX_sd RX4 88 RX8 "ValueBench$Form" ⟨"ValueBench$Form", "left", "(I)I"⟩ yX8_left cX8_left 2 (some .int) 1 := ⟨zw_785, zw_787, zw_791, zw_792, zw_71, zw_793, (by decide +kernel), by decide +kernel⟩
theorem zX_bX4_95_X8 : zx_aw zX_sd RX4 95 RX8 "ValueBench$Form" ⟨"ValueBench$Form", "right", "(I)I"⟩ yX8_right cX8_right 2 (some .int) 1 := ⟨zw_798, zw_800, zw_804, zw_805, zw_71, zw_806, (by decide +kernel), by decide +kernel⟩
theorem zX_bX4_71_X8 : zx_aw zX_sd RX4 71 RX8 "ValueBench$Form" ⟨"ValueBench$Form", "keeps", "(I)Z"⟩ yX8_keeps cX8_keeps 3 (some .boolean) 1 := ⟨zw_759, zw_761, zw_765, zw_766, zw_71, zw_767, (by decide +kernel), by decide +kernel⟩
theorem zX_gX8_92_24 : zx_fl zX_sd RX8 92 24 2 (fun ad _ => .ref (ad 27)) := ⟨by decide, 5, _, _, _, _, rfl, by decide, zu_X6, zw_205, Or.inl rfl, fun _ _ _ => ⟨_, rfl, rfl⟩⟩
theorem zX_bX4_38_X8 : zx_aw zX_sd RX4 38 RX8 "ValueBench$Form" ⟨"ValueBench$Form", "begin", "(II)V"⟩ yX8_begin cX8_begin 8 none 2 := ⟨zw_736, zw_738, zw_743, zw_744, zw_71, zw_745, (by decide +kernel), by decide +kernel⟩
theorem zX_bX4_61_X8 : zx_aw zX_sd RX4 61 RX8 "ValueBench$Form" ⟨"ValueBench$Form", "endCell", "(I)I"⟩ yX8_endCell cX8_endCell 2 (some .int) 1 := ⟨zw_814, zw_816, zw_821, zw_822, zw_71, zw_823, (by decide +kernel), by decide +kernel⟩
theorem zX_gX8_27_47 : zx_fl zX_sd RX8 27 47 4 (fun ad _ => .ref (ad 36)) := ⟨by decide, 7, _, _, _, _, rfl, by decide, zu_X8, zw_349, Or.inl rfl, fun _ _ _ => ⟨_, rfl, rfl⟩⟩
theorem zX_gX8_41_36 : zx_fl zX_sd RX8 41 36 0 (fun ad _ => .ref (ad 37)) := ⟨by decide, 2, _, _, _, _, rfl, by decide, zu_X3, zw_304, Or.inl rfl, fun _ _ _ => ⟨_, rfl, rfl⟩⟩
theorem zX_o47 : zx_oc zX_sd 47 RX8 := ⟨by decide, 7, _, _, rfl, fun _ _ _ => ⟨_, rfl⟩⟩
theorem zX_gX8_9_47 : zx_fl zX_sd RX8 9 47 6 (fun ad _ => .ref (ad 49)) := ⟨by decide, 7, _, _, _, _, rfl, by decide, zu_X8, zw_351, Or.inl rfl, fun _ _ _ => ⟨_, rfl, rfl⟩⟩
theorem zX_gX8_70_47 : zx_fl zX_sd RX8 70 47 0 (fun ad _ => .ref (ad 48)) := ⟨by decide, 7, _, _, _, _, rfl, by decide, zu_X8, zw_332, Or.inr zw_333, fun _ _ _ => ⟨_, rfl, rfl⟩⟩
theorem zX_gX8_40_47 : zx_fl zX_sd RX8 40 47 5 (fun ad _ => .ref (ad 38)) := ⟨by decide, 7, _, _, _, _, rfl, by decide, zu_X8, zw_350, Or.inl rfl, fun _ _ _ => ⟨_, rfl, rfl⟩⟩
theorem zX_gX8_73_38 : zx_fl zX_sd RX8 73 38 0 (fun ad _ => .ref (ad 39)) := ⟨by decide, 5, _, _, _, _, rfl, by decide, zu_X6, zw_193, Or.inl rfl, fun _ _ _ => ⟨_, rfl, rfl⟩⟩
theorem zX_gX8_23_47 : zx_fl zX_sd RX8 23 47 3 (fun ad _ => .ref (ad 18)) := ⟨by decide, 7, _, _, _, _, rfl, by decide, zu_X8, zw_348, Or.inl rfl, fun _ _ _ => ⟨_, rfl, rfl⟩⟩
theorem zX_a48 : zx_ai zX_sd 48 261 := ⟨by decide, fun _ _ _ => rfl⟩
theorem zX_a49 : zx_ai zX_sd 49 10 := ⟨by decide, fun _ _ _ => rfl⟩
theorem zX_gX8_19_47 : zx_fl zX_sd RX8 19 47 2 (fun ad _ => .ref (ad 11)) := ⟨by decide, 7, _, _, _, _, rfl, by decide, zu_X8, zw_347, Or.inl rfl, fun _ _ _ => ⟨_, rfl, rfl⟩⟩
theorem zX_gX8_15_47 : zx_fl zX_sd RX8 15 47 1 (fun ad _ => .ref (ad 1)) := ⟨by decide, 7, _, _, _, _, rfl, by decide, zu_X8, zw_346, Or.inl rfl, fun _ _ _ => ⟨_, rfl, rfl⟩⟩
theorem zX_gX8_89_38 : zx_fl zX_sd RX8 89 38 1 (fun ad _ => .ref (ad 40)) := ⟨by decide, 5, _, _, _, _, rfl, by decide, zu_X6, zw_199, Or.inl rfl, fun _ _ _ => ⟨_, rfl, rfl⟩⟩
theorem zX_gX4_58_47 : zx_fl zX_sd RX4 58 47 0 (fun ad _ => .ref (ad 48)) := ⟨by decide, 7, _, _, _, _, rfl, by decide, zu_X8, zw_334, Or.inl rfl, fun _ _ _ => ⟨_, rfl, rfl⟩⟩
theorem zX_gX8_92_38 : zx_fl zX_sd RX8 92 38 2 (fun ad _ => .ref (ad 41)) := ⟨by decide, 5, _, _, _, _, rfl, by decide, zu_X6, zw_205, Or.inl rfl, fun _ _ _ => ⟨_, rfl, rfl⟩⟩
theorem zX_gX10_67_0 : zx_fl zX_sd RX10 67 0 8 (fun ad _ => .ref (ad 50)) := ⟨by decide, 9, _, _, _, _, rfl, by decide, zu_X10, zw_411, Or.inl rfl, fun _ _ _ => ⟨_, rfl, rfl⟩⟩
theorem zX_vX10_201 : zx_vw zX_sd RX10 201 yX4_takeInputs cX4_takeInputs 5 none 4 := ⟨zw_728, zw_729, zw_730, zw_72, zw_731, by decide +kernel⟩
theorem zX_gX10_61_0 : zx_fl zX_sd RX10 61 0 7 (fun ad _ => .ref (ad 47)) := ⟨by decide, 9, _, _, _, _, rfl, by decide, zu_X10, zw_410, Or.inl rfl, fun _ _ _ => ⟨_, rfl, rfl⟩⟩
theorem zX_vX10_205 : zx_vw zX_sd RX10 205 yX4_perform cX4_perform 6 (some .int) 1 := ⟨zw_732, zw_733, zw_734, zw_72, zw_735, by decide +kernel⟩
theorem zX_gX10_58_0 : zx_fl zX_sd RX10 58 0 6 (fun ad _ => .ref (ad 44)) := ⟨by decide, 9, _, _, _, _, rfl, by decide, zu_X10, zw_409, Or.inl rfl, fun _ _ _ => ⟨_, rfl, rfl⟩⟩
theorem zX_gX10_49_0 : zx_fl zX_sd RX10 49 0 5 (fun ad _ => .ref (ad 42)) := ⟨by decide, 9, _, _, _, _, rfl, by decide, zu_X10, zw_408, Or.inl rfl, fun _ _ _ => ⟨_, rfl, rfl⟩⟩
theorem zX_gX10_209_50 : zx_fl zX_sd RX10 209 50 3 (fun _ f => .int (f 3)) := ⟨by decide, 3, _, _, _, _, rfl, by decide, zu_X4, zw_377, Or.inl rfl, fun _ _ _ => ⟨_, rfl, rfl⟩⟩
theorem zX_pX10_209_50 : zx_fp zX_sd RX10 209 50 3 .int := ⟨by decide, 3, _, _, _, tyX4, rfl, by decide, zu_X4, tyX4_ok, nmX4, zw_377, rfl, by decide +kernel, fun _ _ _ => ⟨_, rfl, Nat.le_of_ble_eq_true rfl, fun _ => rfl⟩⟩
theorem zX_gX10_212_50 : zx_fl zX_sd RX10 212 50 4 (fun _ f => .int (f 4)) := ⟨by decide, 3, _, _, _, _, rfl, by decide, zu_X4, zw_379, Or.inl rfl, fun _ _ _ => ⟨_, rfl, rfl⟩⟩
theorem zX_gX10_215_50 : zx_fl zX_sd RX10 215 50 5 (fun _ f => .int (f 5)) := ⟨by decide, 3, _, _, _, _, rfl, by decide, zu_X4, zw_381, Or.inl rfl, fun _ _ _ => ⟨_, rfl, rfl⟩⟩
theorem zX_gX10_218_50 : zx_fl zX_sd RX10 218 50 6 (fun _ f => .int (f 6)) := ⟨by decide, 3, _, _, _, _, rfl, by decide, zu_X4, zw_383, Or.inl rfl, fun _ _ _ => ⟨_, rfl, rfl⟩⟩
theorem zX_gX10_221_50 : zx_fl zX_sd RX10 221 50 7 (fun _ f => .int (f 7)) := ⟨by decide, 3, _, _, _, _, rfl, by decide, zu_X4, zw_385, Or.inl rfl, fun _ _ _ => ⟨_, rfl, rfl⟩⟩
theorem zX_gX10_224_50 : zx_fl zX_sd RX10 224 50 2 (fun ad _ => .ref (ad 52)) := ⟨by decide, 3, _, _, _, _, rfl, by decide, zu_X4, zw_375, Or.inl rfl, fun _ _ _ => ⟨_, rfl, rfl⟩⟩
theorem zX_gX10_227_11 : zx_fl zX_sd RX10 227 11 6 (fun _ f => .int (f 6)) := ⟨by decide, 1, _, _, _, _, rfl, by decide, zu_X2, zw_164, Or.inl rfl, fun _ _ _ => ⟨_, rfl, rfl⟩⟩
theorem zX_gX10_230_18 : zx_fl zX_sd RX10 230 18 11 (fun _ f => .int (f 11)) := ⟨by decide, 8, _, _, _, _, rfl, by decide, zu_X9, zw_250, Or.inl rfl, fun _ _ _ => ⟨_, rfl, rfl⟩⟩
theorem zX_gX10_233_33 : zx_fl zX_sd RX10 233 33 2 (fun _ f => .int (f 2)) := ⟨by decide, 0, _, _, _, _, rfl, by decide, zu_X0, zw_287, Or.inl rfl, fun _ _ _ => ⟨_, rfl, rfl⟩⟩
theorem zX_gX10_234_36 : zx_fl zX_sd RX10 234 36 2 (fun _ f => .int (f 2)) := ⟨by decide, 2, _, _, _, _, rfl, by decide, zu_X3, zw_310, Or.inl rfl, fun _ _ _ => ⟨_, rfl, rfl⟩⟩
theorem zX_vX10_237 : zx_vw zX_sd RX10 237 yX9_allChoices cX9_allChoices 3 (some .int) 0 := ⟨zw_844, zw_845, zw_846, zw_65, zw_847, by decide +kernel⟩
end
section
def zX_ValueBench_block (s : zx_S) : Option (Int32 × zx_S) :=
  if (s 1 9) < (16 : Int32) then
    zx_ls (zx_su s 0 9 (1 : Int32)) fun s1 =>
    zx_lt ((s1 1 9) + (1 : Int32)) fun x2 =>
    zx_ls (zx_su s1 1 9 x2) fun s3 =>
    some (((s3 1 9) - (1 : Int32)), s3)
  else
    some ((-1 : Int32), s)
def zX_Program_has (p1 : Int32) (s : zx_S) : Option Int32 :=
  if p1 < (0 : Int32) then
    some (0 : Int32)
  else
    if (s 1 9) ≤ p1 then
      some (0 : Int32)
    else
      some (1 : Int32)
def zX_Program_instructions (s : zx_S) : Option Int32 :=
  zx_ck (16 : Int32) 17 <|
  some (s 2 ((16 : Int32)).toNatClampNeg)
def zX_Program_isVariable (p0 : Int32) (s : zx_S) : Option Int32 :=
  if p0 < (0 : Int32) then
    some (0 : Int32)
  else
    if (10 : Int32) ≤ p0 then
      some (0 : Int32)
    else
      some (1 : Int32)
def zX_Program_fits (p0 p1 p2 p3 : Int32) (s : zx_S) : Option Int32 :=
  if p0 < (0 : Int32) then
    some (0 : Int32)
  else
    if (14 : Int32) < p0 then
      some (0 : Int32)
    else
      zx_b1 (zX_Program_isVariable p1 s) fun r1 =>
      if r1 = (0 : Int32) then
        some (0 : Int32)
      else
        if p0 = (0 : Int32) then
          some (1 : Int32)
        else
          if p0 = (1 : Int32) then
            if p2 < (0 : Int32) then
              some (0 : Int32)
            else
              if (4 : Int32) ≤ p2 then
                some (0 : Int32)
              else
                some (1 : Int32)
          else
            if p0 = (2 : Int32) then
              zx_b1 (zX_Program_isVariable p2 s) fun r4 =>
              zx_zr r4 <| some r4
            else
              if p0 = (14 : Int32) then
                some (1 : Int32)
              else
                zx_b1 (zX_Program_isVariable p2 s) fun r2 =>
                if r2 = (0 : Int32) then
                  some (0 : Int32)
                else
                  zx_b1 (zX_Program_isVariable p3 s) fun r3 =>
                  if r3 = (0 : Int32) then
                    some (0 : Int32)
                  else
                    some (1 : Int32)
def zX_Program_insertAt (p1 p2 p3 : Int32) (s : zx_S) : Option zx_S :=
  zx_cp s 3 p1 100 3 (p1 + (1 : Int32)) 100 p2 fun s1 =>
  zx_ck p1 100 <|
  zx_ls (zx_su s1 3 (p1).toNatClampNeg p3) fun s2 =>
  some s2
def zX_Program_insertAt_2 (p1 p2 p3 : Int32) (s : zx_S) : Option zx_S :=
  zx_cp s 4 p1 100 4 (p1 + (1 : Int32)) 100 p2 fun s1 =>
  zx_ck p1 100 <|
  zx_ls (zx_su s1 4 (p1).toNatClampNeg p3) fun s2 =>
  some s2
def zX_Program_insertAt_3 (p1 p2 p3 : Int32) (s : zx_S) : Option zx_S :=
  zx_cp s 5 p1 100 5 (p1 + (1 : Int32)) 100 p2 fun s1 =>
  zx_ck p1 100 <|
  zx_ls (zx_su s1 5 (p1).toNatClampNeg p3) fun s2 =>
  some s2
def zX_Program_insertAt_4 (p1 p2 p3 : Int32) (s : zx_S) : Option zx_S :=
  zx_cp s 6 p1 100 6 (p1 + (1 : Int32)) 100 p2 fun s1 =>
  zx_ck p1 100 <|
  zx_ls (zx_su s1 6 (p1).toNatClampNeg p3) fun s2 =>
  some s2
def zX_Program_insert_L74 (k98 : zx_S → Option zx_S) : Nat → Int32 → zx_S → Option zx_S
  | 0, _, _ => none
  | n + 1, v8, s =>
    if (16 : Int32) < v8 then
      k98 s
    else
      zx_ck v8 17 <|
      zx_lt ((s 2 (v8).toNatClampNeg) + (1 : Int32)) fun x9 =>
      zx_ck v8 17 <|
      zx_ls (zx_su s 2 (v8).toNatClampNeg x9) fun s10 =>
      zx_lt (v8 + (1 : Int32)) fun v8_11 =>
      (zX_Program_insert_L74 k98 n) v8_11 s10
def zX_Program_insert (p1 p2 p3 p4 p5 : Int32) (s : zx_S) : Option zx_S :=
  zx_ck (p1 + (1 : Int32)) 17 <|
  zx_lt (s 2 ((p1 + (1 : Int32))).toNatClampNeg) fun v6_1 =>
  zx_b1 (zX_Program_instructions s) fun r2 =>
  zx_lt (r2 - v6_1) fun v7_3 =>
  zx_b1 (zX_Program_insertAt v6_1 v7_3 p2 s) fun s4 =>
  zx_b1 (zX_Program_insertAt_2 v6_1 v7_3 p3 s4) fun s5 =>
  zx_b1 (zX_Program_insertAt_3 v6_1 v7_3 p4 s5) fun s6 =>
  zx_b1 (zX_Program_insertAt_4 v6_1 v7_3 p5 s6) fun s7 =>
  zx_lt (p1 + (1 : Int32)) fun v8_8 =>
  zX_Program_insert_L74
    (fun s12 =>
      some s12)
    10000 v8_8 s7
def zX_ValueBench_put (p1 p2 p3 p4 p5 : Int32) (s : zx_S) : Option (Int32 × zx_S) :=
  zx_b1 (zX_Program_has p1 s) fun r1 =>
  if r1 = (0 : Int32) then
    some ((-1 : Int32), s)
  else
    zx_b1 (zX_Program_instructions s) fun r2 =>
    if (100 : Int32) ≤ r2 then
      some ((-1 : Int32), s)
    else
      zx_b1 (zX_Program_fits p2 p3 p4 p5 s) fun r3 =>
      if r3 = (0 : Int32) then
        some ((-1 : Int32), s)
      else
        zx_ls (zx_su s 0 9 (1 : Int32)) fun s4 =>
        if p2 = (14 : Int32) then
          zx_b1 (zX_Program_insert p1 p2 (-1 : Int32) p3 (-1 : Int32) s4) fun s5 =>
          zx_b1 (zX_Program_instructions s5) fun r6 =>
          some (r6, s5)
        else
          zx_b1 (zX_Program_insert p1 p2 p3 p4 p5 s4) fun s7 =>
          zx_b1 (zX_Program_instructions s7) fun r8 =>
          some (r8, s7)
def zX_Program_isBlockNumber (p0 : Int32) (s : zx_S) : Option Int32 :=
  if p0 < (0 : Int32) then
    some (0 : Int32)
  else
    if (16 : Int32) ≤ p0 then
      some (0 : Int32)
    else
      some (1 : Int32)
def zX_Program_endFits (p0 p1 p2 p3 : Int32) (s : zx_S) : Option Int32 :=
  if p0 = (0 : Int32) then
    zx_b1 (zX_Program_isVariable p1 s) fun r5 =>
    zx_zr r5 <| some r5
  else
    if p0 = (1 : Int32) then
      zx_b1 (zX_Program_isBlockNumber p2 s) fun r4 =>
      zx_zr r4 <| some r4
    else
      if p0 = (2 : Int32) then
        zx_b1 (zX_Program_isVariable p1 s) fun r1 =>
        if r1 = (0 : Int32) then
          some (0 : Int32)
        else
          zx_b1 (zX_Program_isBlockNumber p2 s) fun r2 =>
          if r2 = (0 : Int32) then
            some (0 : Int32)
          else
            zx_b1 (zX_Program_isBlockNumber p3 s) fun r3 =>
            if r3 = (0 : Int32) then
              some (0 : Int32)
            else
              some (1 : Int32)
      else
        some (0 : Int32)
def zX_Program_setEnd_J38 (v1 v2 v5 t1 t2 : Int32) (s : zx_S) : Option zx_S :=
  zx_ck t1 16 <|
  zx_ls (zx_su s 9 (t1).toNatClampNeg t2) fun s3 =>
  if v2 = (2 : Int32) then
    zx_ck v1 16 <|
    zx_ls (zx_su s3 10 (v1).toNatClampNeg v5) fun s4 =>
    some s4
  else
    zx_ck v1 16 <|
    zx_lt (s3 9 (v1).toNatClampNeg) fun x5 =>
    zx_ck v1 16 <|
    zx_ls (zx_su s3 10 (v1).toNatClampNeg x5) fun s6 =>
    some s6
def zX_Program_setEnd_J22 (v1 v2 v4 v5 t1 t2 : Int32) (s : zx_S) : Option zx_S :=
  zx_ck t1 16 <|
  zx_ls (zx_su s 8 (t1).toNatClampNeg t2) fun s2 =>
  if v2 = (0 : Int32) then
    (zX_Program_setEnd_J38) v1 v2 v5 v1 (0 : Int32) s2
  else
    (zX_Program_setEnd_J38) v1 v2 v5 v1 v4 s2
def zX_Program_setEnd (p1 p2 p3 p4 p5 : Int32) (s : zx_S) : Option zx_S :=
  zx_ck p1 16 <|
  zx_ls (zx_su s 7 (p1).toNatClampNeg p2) fun s1 =>
  if p2 = (1 : Int32) then
    (zX_Program_setEnd_J22) p1 p2 p4 p5 p1 (0 : Int32) s1
  else
    (zX_Program_setEnd_J22) p1 p2 p4 p5 p1 p3 s1
def zX_ValueBench_ends (p1 p2 p3 p4 p5 : Int32) (s : zx_S) : Option (Int32 × zx_S) :=
  zx_b1 (zX_Program_has p1 s) fun r1 =>
  if r1 = (0 : Int32) then
    some ((0 : Int32), s)
  else
    zx_b1 (zX_Program_endFits p2 p3 p4 p5 s) fun r2 =>
    if r2 = (0 : Int32) then
      some ((0 : Int32), s)
    else
      zx_ls (zx_su s 0 9 (1 : Int32)) fun s3 =>
      zx_b1 (zX_Program_setEnd p1 p2 p3 p4 p5 s3) fun s4 =>
      some ((1 : Int32), s4)
def zX_Arrays_fill_L5 (v1 v3 : Int32) (k20 : zx_S → Option zx_S) : Nat → Int32 → zx_S → Option zx_S
  | 0, _, _ => none
  | n + 1, v2, s =>
    if v3 ≤ v2 then
      k20 s
    else
      zx_ck v2 17 <|
      zx_ls (zx_su s 2 (v2).toNatClampNeg v1) fun s1 =>
      zx_lt (v2 + (1 : Int32)) fun v2_2 =>
      (zX_Arrays_fill_L5 v1 v3 k20 n) v2_2 s1
def zX_Arrays_fill (p1 : Int32) (s : zx_S) : Option zx_S :=
  zX_Arrays_fill_L5 p1 (17 : Int32)
    (fun s3 =>
      some s3)
    10000 (0 : Int32) s
def zX_Arrays_fill_2_L5 (v1 v3 : Int32) (k20 : zx_S → Option zx_S) : Nat → Int32 → zx_S → Option zx_S
  | 0, _, _ => none
  | n + 1, v2, s =>
    if v3 ≤ v2 then
      k20 s
    else
      zx_ck v2 16 <|
      zx_ls (zx_su s 7 (v2).toNatClampNeg v1) fun s1 =>
      zx_lt (v2 + (1 : Int32)) fun v2_2 =>
      (zX_Arrays_fill_2_L5 v1 v3 k20 n) v2_2 s1
def zX_Arrays_fill_2 (p1 : Int32) (s : zx_S) : Option zx_S :=
  zX_Arrays_fill_2_L5 p1 (16 : Int32)
    (fun s3 =>
      some s3)
    10000 (0 : Int32) s
def zX_Arrays_fill_3_L5 (v1 v3 : Int32) (k20 : zx_S → Option zx_S) : Nat → Int32 → zx_S → Option zx_S
  | 0, _, _ => none
  | n + 1, v2, s =>
    if v3 ≤ v2 then
      k20 s
    else
      zx_ck v2 16 <|
      zx_ls (zx_su s 8 (v2).toNatClampNeg v1) fun s1 =>
      zx_lt (v2 + (1 : Int32)) fun v2_2 =>
      (zX_Arrays_fill_3_L5 v1 v3 k20 n) v2_2 s1
def zX_Arrays_fill_3 (p1 : Int32) (s : zx_S) : Option zx_S :=
  zX_Arrays_fill_3_L5 p1 (16 : Int32)
    (fun s3 =>
      some s3)
    10000 (0 : Int32) s
def zX_Program_forget (s : zx_S) : Option zx_S :=
  zx_ls (zx_su s 1 9 (0 : Int32)) fun s1 =>
  zx_b1 (zX_Arrays_fill (0 : Int32) s1) fun s2 =>
  zx_b1 (zX_Arrays_fill_2 (0 : Int32) s2) fun s3 =>
  zx_b1 (zX_Arrays_fill_3 (0 : Int32) s3) fun s4 =>
  some s4
def zX_ValueBench_clear (s : zx_S) : Option (Int32 × zx_S) :=
  zx_lt (s 1 9) fun v1_1 =>
  zx_ls (zx_su s 0 9 (1 : Int32)) fun s2 =>
  zx_b1 (zX_Program_forget s2) fun s3 =>
  some (v1_1, s3)
def zX_Program_endCounts (p1 : Int32) (s : zx_S) : Option Int32 :=
  zx_ck p1 16 <|
  if (s 7 (p1).toNatClampNeg) = (0 : Int32) then
    some (1 : Int32)
  else
    zx_ck p1 16 <|
    zx_b1 (zX_Program_has (s 9 (p1).toNatClampNeg) s) fun r1 =>
    if r1 = (0 : Int32) then
      some (0 : Int32)
    else
      zx_ck p1 16 <|
      zx_b1 (zX_Program_has (s 10 (p1).toNatClampNeg) s) fun r2 =>
      if r2 = (0 : Int32) then
        some (0 : Int32)
      else
        some (1 : Int32)
def zX_Program_howCounts (p1 : Int32) (s : zx_S) : Option Int32 :=
  zx_b1 (zX_Program_endCounts p1 s) fun r1 =>
  if r1 = (0 : Int32) then
    some (0 : Int32)
  else
    zx_ck p1 16 <|
    some (s 7 (p1).toNatClampNeg)
def zX_Program_toldBlocks (p1 : Int32) (s : zx_S) : Option Int32 :=
  zx_b1 (zX_Program_howCounts p1 s) fun r1 =>
  if r1 = (0 : Int32) then
    some (0 : Int32)
  else
    zx_ck p1 16 <|
    zx_ck p1 16 <|
    some (((1 : Int32) <<< ((s 9 (p1).toNatClampNeg) &&& 31)) ||| ((1 : Int32) <<< ((s 10 (p1).toNatClampNeg) &&& 31)))
def zX_Graph_isIn (p0 p1 : Int32) (s : zx_S) : Option Int32 :=
  if ((p0 >>> (p1 &&& 31)) &&& (1 : Int32)) = (0 : Int32) then
    some (0 : Int32)
  else
    some (1 : Int32)
def zX_Graph_turnAround_L14 (v2 : Int32) (k45 : zx_S → Option zx_S) : Nat → Int32 → zx_S → Option zx_S
  | 0, _, _ => none
  | n + 1, v3, s =>
    if (16 : Int32) ≤ v3 then
      k45 s
    else
      zx_ck v3 16 <|
      zx_b1 (zX_Graph_isIn (s 12 (v3).toNatClampNeg) v2 s) fun r2 =>
      if r2 = (0 : Int32) then
        zx_lt (v3 + (1 : Int32)) fun v3_6 =>
        (zX_Graph_turnAround_L14 v2 k45 n) v3_6 s
      else
        zx_ck v2 16 <|
        zx_lt ((s 13 (v2).toNatClampNeg) ||| ((1 : Int32) <<< (v3 &&& 31))) fun x3 =>
        zx_ck v2 16 <|
        zx_ls (zx_su s 13 (v2).toNatClampNeg x3) fun s4 =>
        zx_lt (v3 + (1 : Int32)) fun v3_5 =>
        (zX_Graph_turnAround_L14 v2 k45 n) v3_5 s4
def zX_Graph_turnAround_L2 (k51 : zx_S → Option zx_S) : Nat → Int32 → zx_S → Option zx_S
  | 0, _, _ => none
  | n + 1, v2, s =>
    if (16 : Int32) ≤ v2 then
      k51 s
    else
      zx_ck v2 16 <|
      zx_ls (zx_su s 13 (v2).toNatClampNeg (0 : Int32)) fun s1 =>
      zX_Graph_turnAround_L14 v2
        (fun s7 =>
          zx_lt (v2 + (1 : Int32)) fun v2_8 =>
          (zX_Graph_turnAround_L2 k51 n) v2_8 s7)
        10000 (0 : Int32) s1
def zX_Graph_turnAround (s : zx_S) : Option zx_S :=
  zX_Graph_turnAround_L2
    (fun s9 =>
      some s9)
    10000 (0 : Int32) s
def zX_Graph_union_L4 (v0 : Int32) (s : zx_S) (k30 : Int32 → Option Int32) : Nat → Int32 → Int32 → Option Int32
  | 0, _, _ => none
  | n + 1, v2, v3 =>
    if (16 : Int32) ≤ v3 then
      k30 v2
    else
      zx_b1 (zX_Graph_isIn v0 v3 s) fun r1 =>
      if r1 = (0 : Int32) then
        zx_lt (v3 + (1 : Int32)) fun v3_4 =>
        (zX_Graph_union_L4 v0 s k30 n) v2 v3_4
      else
        zx_ck v3 16 <|
        zx_lt (v2 ||| (s 12 (v3).toNatClampNeg)) fun v2_2 =>
        zx_lt (v3 + (1 : Int32)) fun v3_3 =>
        (zX_Graph_union_L4 v0 s k30 n) v2_2 v3_3
def zX_Graph_union (p0 : Int32) (s : zx_S) : Option Int32 :=
  zX_Graph_union_L4 p0 s
    (fun v2_5 =>
      some v2_5)
    10000 (0 : Int32) (0 : Int32)
def zX_Graph_closure_L12 (v2 : Int32) (s : zx_S) (k46 : Int32 → Option Int32) : Nat → Int32 → Int32 → Int32 → Option Int32
  | 0, _, _, _ => none
  | n + 1, v3, v4, v5 =>
    if (16 : Int32) ≤ v5 then
      k46 v3
    else
      if v3 = v4 then
        k46 v3
      else
        zx_b1 (zX_Graph_union v3 s) fun r2 =>
        zx_lt (v3 ||| (r2 &&& (v2 ^^^ (-1 : Int32)))) fun v3_3 =>
        zx_lt (v5 + (1 : Int32)) fun v5_4 =>
        (zX_Graph_closure_L12 v2 s k46 n) v3_3 v3 v5_4
def zX_Graph_closure (p0 p2 : Int32) (s : zx_S) : Option Int32 :=
  zx_lt (p0 &&& (p2 ^^^ (-1 : Int32))) fun v3_1 =>
  zX_Graph_closure_L12 p2 s
    (fun v3_5 =>
      some v3_5)
    10000 v3_1 (0 : Int32) (0 : Int32)
def zX_Graph_turnAround_2_L14 (v2 : Int32) (k45 : zx_S → Option zx_S) : Nat → Int32 → zx_S → Option zx_S
  | 0, _, _ => none
  | n + 1, v3, s =>
    if (16 : Int32) ≤ v3 then
      k45 s
    else
      zx_ck v3 16 <|
      zx_b1 (zX_Graph_isIn (s 14 (v3).toNatClampNeg) v2 s) fun r2 =>
      if r2 = (0 : Int32) then
        zx_lt (v3 + (1 : Int32)) fun v3_6 =>
        (zX_Graph_turnAround_2_L14 v2 k45 n) v3_6 s
      else
        zx_ck v2 16 <|
        zx_lt ((s 15 (v2).toNatClampNeg) ||| ((1 : Int32) <<< (v3 &&& 31))) fun x3 =>
        zx_ck v2 16 <|
        zx_ls (zx_su s 15 (v2).toNatClampNeg x3) fun s4 =>
        zx_lt (v3 + (1 : Int32)) fun v3_5 =>
        (zX_Graph_turnAround_2_L14 v2 k45 n) v3_5 s4
def zX_Graph_turnAround_2_L2 (k51 : zx_S → Option zx_S) : Nat → Int32 → zx_S → Option zx_S
  | 0, _, _ => none
  | n + 1, v2, s =>
    if (16 : Int32) ≤ v2 then
      k51 s
    else
      zx_ck v2 16 <|
      zx_ls (zx_su s 15 (v2).toNatClampNeg (0 : Int32)) fun s1 =>
      zX_Graph_turnAround_2_L14 v2
        (fun s7 =>
          zx_lt (v2 + (1 : Int32)) fun v2_8 =>
          (zX_Graph_turnAround_2_L2 k51 n) v2_8 s7)
        10000 (0 : Int32) s1
def zX_Graph_turnAround_2 (s : zx_S) : Option zx_S :=
  zX_Graph_turnAround_2_L2
    (fun s9 =>
      some s9)
    10000 (0 : Int32) s
def zX_Graph_parentOf_L15 (v2 : Int32) (s : zx_S) (k39 : Int32 → Option Int32) : Nat → Int32 → Option Int32
  | 0, _ => none
  | n + 1, v3 =>
    if (16 : Int32) ≤ v3 then
      some (-1 : Int32)
    else
      zx_b1 (zX_Graph_isIn v2 v3 s) fun r2 =>
      if r2 = (0 : Int32) then
        zx_lt (v3 + (1 : Int32)) fun v3_4 =>
        (zX_Graph_parentOf_L15 v2 s k39 n) v3_4
      else
        zx_ck v3 16 <|
        if (s 15 (v3).toNatClampNeg) = v2 then
          k39 v3
        else
          zx_lt (v3 + (1 : Int32)) fun v3_3 =>
          (zX_Graph_parentOf_L15 v2 s k39 n) v3_3
def zX_Graph_parentOf (p1 : Int32) (s : zx_S) : Option Int32 :=
  zx_ck p1 16 <|
  zx_lt ((s 15 (p1).toNatClampNeg) &&& (((1 : Int32) <<< (p1 &&& 31)) ^^^ (-1 : Int32))) fun v2_1 =>
  zX_Graph_parentOf_L15 v2_1 s
    (fun v3_5 =>
      some v3_5)
    10000 (0 : Int32)
def zX_Graph_frontierOf_J33 (k4 : Int32 → Int32 → Option Int32) (v1 v2 v3 t0 : Int32) (s : zx_S) : Option Int32 :=
  zx_ck v1 16 <|
  zx_ck v3 16 <|
  if ((s 14 (v1).toNatClampNeg) &&& (s 13 (v3).toNatClampNeg)) = (0 : Int32) then
    zx_lt (v3 + (1 : Int32)) fun v3_4 =>
    k4 v2 v3_4
  else
    if t0 = (0 : Int32) then
      zx_lt (v2 ||| ((1 : Int32) <<< (v3 &&& 31))) fun v2_1 =>
      zx_lt (v3 + (1 : Int32)) fun v3_2 =>
      k4 v2_1 v3_2
    else
      zx_lt (v3 + (1 : Int32)) fun v3_3 =>
      k4 v2 v3_3
def zX_Graph_frontierOf_L4 (v1 : Int32) (s : zx_S) (k68 : Int32 → Option Int32) : Nat → Int32 → Int32 → Option Int32
  | 0, _, _ => none
  | n + 1, v2, v3 =>
    if (16 : Int32) ≤ v3 then
      k68 v2
    else
      if v1 = v3 then
        (zX_Graph_frontierOf_J33 (zX_Graph_frontierOf_L4 v1 s k68 n)) v1 v2 v3 (0 : Int32) s
      else
        zx_ck v1 16 <|
        zx_b1 (zX_Graph_isIn (s 14 (v1).toNatClampNeg) v3 s) fun r5 =>
        if r5 = (0 : Int32) then
          (zX_Graph_frontierOf_J33 (zX_Graph_frontierOf_L4 v1 s k68 n)) v1 v2 v3 (0 : Int32) s
        else
          (zX_Graph_frontierOf_J33 (zX_Graph_frontierOf_L4 v1 s k68 n)) v1 v2 v3 (1 : Int32) s
def zX_Graph_frontierOf (p1 : Int32) (s : zx_S) : Option Int32 :=
  zX_Graph_frontierOf_L4 p1 s
    (fun v2_6 =>
      some v2_6)
    10000 (0 : Int32) (0 : Int32)
def zX_Graph_draw_L2 (k37 : zx_S → Option zx_S) : Nat → Int32 → zx_S → Option zx_S
  | 0, _, _ => none
  | n + 1, v2, s =>
    if (16 : Int32) ≤ v2 then
      k37 s
    else
      zx_b1 (zX_Program_has v2 s) fun r1 =>
      if r1 = (0 : Int32) then
        zx_ck v2 16 <|
        zx_ls (zx_su s 12 (v2).toNatClampNeg (0 : Int32)) fun s5 =>
        zx_lt (v2 + (1 : Int32)) fun v2_6 =>
        (zX_Graph_draw_L2 k37 n) v2_6 s5
      else
        zx_b1 (zX_Program_toldBlocks v2 s) fun r2 =>
        zx_ck v2 16 <|
        zx_ls (zx_su s 12 (v2).toNatClampNeg r2) fun s3 =>
        zx_lt (v2 + (1 : Int32)) fun v2_4 =>
        (zX_Graph_draw_L2 k37 n) v2_4 s3
def zX_Graph_draw_L64 (k94 : zx_S → Option zx_S) : Nat → Int32 → zx_S → Option zx_S
  | 0, _, _ => none
  | n + 1, v2, s =>
    if (16 : Int32) ≤ v2 then
      k94 s
    else
      zx_b1 (zX_Graph_isIn (s 11 6) v2 s) fun r10 =>
      if r10 = (0 : Int32) then
        zx_ck v2 16 <|
        zx_ls (zx_su s 12 (v2).toNatClampNeg (0 : Int32)) fun s11 =>
        zx_lt (v2 + (1 : Int32)) fun v2_12 =>
        (zX_Graph_draw_L64 k94 n) v2_12 s11
      else
        zx_lt (v2 + (1 : Int32)) fun v2_13 =>
        (zX_Graph_draw_L64 k94 n) v2_13 s
def zX_Graph_draw_L107 (k148 : zx_S → Option zx_S) : Nat → Int32 → zx_S → Option zx_S
  | 0, _, _ => none
  | n + 1, v2, s =>
    if (16 : Int32) ≤ v2 then
      k148 s
    else
      zx_b1 (zX_Graph_closure ((s 11 6) &&& (1 : Int32)) ((1 : Int32) <<< (v2 &&& 31)) s) fun r16 =>
      zx_lt ((s 11 6) &&& (r16 ^^^ (-1 : Int32))) fun x17 =>
      zx_ck v2 16 <|
      zx_ls (zx_su s 14 (v2).toNatClampNeg x17) fun s18 =>
      zx_lt (v2 + (1 : Int32)) fun v2_19 =>
      (zX_Graph_draw_L107 k148 n) v2_19 s18
def zX_Graph_draw_L161 (k195 : zx_S → Option zx_S) : Nat → Int32 → zx_S → Option zx_S
  | 0, _, _ => none
  | n + 1, v2, s =>
    if (16 : Int32) ≤ v2 then
      k195 s
    else
      zx_b1 (zX_Graph_parentOf v2 s) fun r22 =>
      zx_ck v2 16 <|
      zx_ls (zx_su s 16 (v2).toNatClampNeg r22) fun s23 =>
      zx_b1 (zX_Graph_frontierOf v2 s23) fun r24 =>
      zx_ck v2 16 <|
      zx_ls (zx_su s23 17 (v2).toNatClampNeg r24) fun s25 =>
      zx_lt (v2 + (1 : Int32)) fun v2_26 =>
      (zX_Graph_draw_L161 k195 n) v2_26 s25
def zX_Graph_draw_J59 (t1 : Int32) (s : zx_S) : Option zx_S :=
  zx_ls (zx_su s 11 6 t1) fun s9 =>
  zX_Graph_draw_L64
    (fun s14 =>
      zx_b1 (zX_Graph_turnAround s14) fun s15 =>
      zX_Graph_draw_L107
        (fun s20 =>
          zx_b1 (zX_Graph_turnAround_2 s20) fun s21 =>
          zX_Graph_draw_L161
            (fun s27 =>
              some s27)
            10000 (0 : Int32) s21)
        10000 (0 : Int32) s15)
    10000 (0 : Int32) s9
def zX_Graph_draw (s : zx_S) : Option zx_S :=
  zX_Graph_draw_L2
    (fun s7 =>
      zx_b1 (zX_Program_has (0 : Int32) s7) fun r8 =>
      if r8 = (0 : Int32) then
        (zX_Graph_draw_J59) (0 : Int32) s7
      else
        zx_b1 (zX_Graph_closure (1 : Int32) (0 : Int32) s7) fun r28 =>
        (zX_Graph_draw_J59) r28 s7)
    10000 (0 : Int32) s
def zX_Values_givingBlocks_L18 (v1 v3 : Int32) (s : zx_S) (k54 : Int32 → Option Int32) : Nat → Int32 → Int32 → Option Int32
  | 0, _, _ => none
  | n + 1, v2, v4 =>
    zx_ck (v3 + (1 : Int32)) 17 <|
    if (s 2 ((v3 + (1 : Int32))).toNatClampNeg) ≤ v4 then
      k54 v2
    else
      zx_ck v4 100 <|
      if (s 4 (v4).toNatClampNeg) = v1 then
        zx_lt (v2 ||| ((1 : Int32) <<< (v3 &&& 31))) fun v2_2 =>
        zx_lt (v4 + (1 : Int32)) fun v4_3 =>
        (zX_Values_givingBlocks_L18 v1 v3 s k54 n) v2_2 v4_3
      else
        zx_lt (v4 + (1 : Int32)) fun v4_4 =>
        (zX_Values_givingBlocks_L18 v1 v3 s k54 n) v2 v4_4
def zX_Values_givingBlocks_L4 (v1 : Int32) (s : zx_S) (k60 : Int32 → Option Int32) : Nat → Int32 → Int32 → Option Int32
  | 0, _, _ => none
  | n + 1, v2, v3 =>
    if (16 : Int32) ≤ v3 then
      k60 v2
    else
      zx_ck v3 17 <|
      zx_lt (s 2 (v3).toNatClampNeg) fun v4_1 =>
      zX_Values_givingBlocks_L18 v1 v3 s
        (fun v2_5 =>
          zx_lt (v3 + (1 : Int32)) fun v3_6 =>
          (zX_Values_givingBlocks_L4 v1 s k60 n) v2_5 v3_6)
        10000 v2 v4_1
def zX_Values_givingBlocks (p1 : Int32) (s : zx_S) : Option Int32 :=
  zX_Values_givingBlocks_L4 p1 s
    (fun v2_7 =>
      some v2_7)
    10000 (0 : Int32) (0 : Int32)
def zX_Graph_union_2_L4 (v0 : Int32) (s : zx_S) (k30 : Int32 → Option Int32) : Nat → Int32 → Int32 → Option Int32
  | 0, _, _ => none
  | n + 1, v2, v3 =>
    if (16 : Int32) ≤ v3 then
      k30 v2
    else
      zx_b1 (zX_Graph_isIn v0 v3 s) fun r1 =>
      if r1 = (0 : Int32) then
        zx_lt (v3 + (1 : Int32)) fun v3_4 =>
        (zX_Graph_union_2_L4 v0 s k30 n) v2 v3_4
      else
        zx_ck v3 16 <|
        zx_lt (v2 ||| (s 17 (v3).toNatClampNeg)) fun v2_2 =>
        zx_lt (v3 + (1 : Int32)) fun v3_3 =>
        (zX_Graph_union_2_L4 v0 s k30 n) v2_2 v3_3
def zX_Graph_union_2 (p0 : Int32) (s : zx_S) : Option Int32 :=
  zX_Graph_union_2_L4 p0 s
    (fun v2_5 =>
      some v2_5)
    10000 (0 : Int32) (0 : Int32)
def zX_Graph_closure_2_L12 (v2 : Int32) (s : zx_S) (k46 : Int32 → Option Int32) : Nat → Int32 → Int32 → Int32 → Option Int32
  | 0, _, _, _ => none
  | n + 1, v3, v4, v5 =>
    if (16 : Int32) ≤ v5 then
      k46 v3
    else
      if v3 = v4 then
        k46 v3
      else
        zx_b1 (zX_Graph_union_2 v3 s) fun r2 =>
        zx_lt (v3 ||| (r2 &&& (v2 ^^^ (-1 : Int32)))) fun v3_3 =>
        zx_lt (v5 + (1 : Int32)) fun v5_4 =>
        (zX_Graph_closure_2_L12 v2 s k46 n) v3_3 v3 v5_4
def zX_Graph_closure_2 (p0 p2 : Int32) (s : zx_S) : Option Int32 :=
  zx_lt (p0 &&& (p2 ^^^ (-1 : Int32))) fun v3_1 =>
  zX_Graph_closure_2_L12 p2 s
    (fun v3_5 =>
      some v3_5)
    10000 v3_1 (0 : Int32) (0 : Int32)
def zX_Values_placeChoices_L2 (k55 : zx_S → Option zx_S) : Nat → Int32 → zx_S → Option zx_S
  | 0, _, _ => none
  | n + 1, v3, s =>
    if (10 : Int32) ≤ v3 then
      k55 s
    else
      zx_b1 (zX_Values_givingBlocks v3 s) fun r1 =>
      zx_lt ((1 : Int32) ||| (r1 &&& (s 11 6))) fun v4_2 =>
      zx_b1 (zX_Graph_closure_2 v4_2 (0 : Int32) s) fun r3 =>
      zx_b1 (zX_Graph_union_2 r3 s) fun r4 =>
      zx_ck v3 10 <|
      zx_ls (zx_su s 31 (v3).toNatClampNeg r4) fun s5 =>
      zx_lt (v3 + (1 : Int32)) fun v3_6 =>
      (zX_Values_placeChoices_L2 k55 n) v3_6 s5
def zX_Values_placeChoices (s : zx_S) : Option zx_S :=
  zX_Values_placeChoices_L2
    (fun s7 =>
      some s7)
    10000 (0 : Int32) s
def zX_Arrays_fill_4_L5 (v1 v3 : Int32) (k20 : zx_S → Option zx_S) : Nat → Int32 → zx_S → Option zx_S
  | 0, _, _ => none
  | n + 1, v2, s =>
    if v3 ≤ v2 then
      k20 s
    else
      zx_ck v2 16 <|
      zx_ls (zx_su s 30 (v2).toNatClampNeg v1) fun s1 =>
      zx_lt (v2 + (1 : Int32)) fun v2_2 =>
      (zX_Arrays_fill_4_L5 v1 v3 k20 n) v2_2 s1
def zX_Arrays_fill_4 (p1 : Int32) (s : zx_S) : Option zx_S :=
  zX_Arrays_fill_4_L5 p1 (16 : Int32)
    (fun s3 =>
      some s3)
    10000 (0 : Int32) s
def zX_Arrays_fill_5_L5 (v1 v3 : Int32) (k20 : zx_S → Option zx_S) : Nat → Int32 → zx_S → Option zx_S
  | 0, _, _ => none
  | n + 1, v2, s =>
    if v3 ≤ v2 then
      k20 s
    else
      zx_ck v2 100 <|
      zx_ls (zx_su s 28 (v2).toNatClampNeg v1) fun s1 =>
      zx_lt (v2 + (1 : Int32)) fun v2_2 =>
      (zX_Arrays_fill_5_L5 v1 v3 k20 n) v2_2 s1
def zX_Arrays_fill_5 (p1 : Int32) (s : zx_S) : Option zx_S :=
  zX_Arrays_fill_5_L5 p1 (100 : Int32)
    (fun s3 =>
      some s3)
    10000 (0 : Int32) s
def zX_Graph_reaches (p1 : Int32) (s : zx_S) : Option Int32 :=
  if p1 < (0 : Int32) then
    some (0 : Int32)
  else
    if (16 : Int32) ≤ p1 then
      some (0 : Int32)
    else
      zx_b1 (zX_Graph_isIn (s 11 6) p1 s) fun r1 =>
      if r1 = (0 : Int32) then
        some (0 : Int32)
      else
        some (1 : Int32)
def zX_Integer_bitCount (p0 : Int32) (s : zx_S) : Option Int32 :=
  zx_lt (p0 - ((p0.toUInt32 >>> ((1 : Int32).toUInt32 &&& Int32.toUInt32 31)).toInt32 &&& (1431655765 : Int32))) fun v0_1 =>
  zx_lt ((v0_1 &&& (858993459 : Int32)) + ((v0_1.toUInt32 >>> ((2 : Int32).toUInt32 &&& Int32.toUInt32 31)).toInt32 &&& (858993459 : Int32))) fun v0_2 =>
  zx_lt ((v0_2 + (v0_2.toUInt32 >>> ((4 : Int32).toUInt32 &&& Int32.toUInt32 31)).toInt32) &&& (252645135 : Int32)) fun v0_3 =>
  zx_lt (v0_3 + (v0_3.toUInt32 >>> ((8 : Int32).toUInt32 &&& Int32.toUInt32 31)).toInt32) fun v0_4 =>
  zx_lt (v0_4 + (v0_4.toUInt32 >>> ((16 : Int32).toUInt32 &&& Int32.toUInt32 31)).toInt32) fun v0_5 =>
  some (v0_5 &&& (63 : Int32))
def zX_Values_add_J71 (v5 t1 t2 : Int32) (s : zx_S) : Option zx_S :=
  zx_lt (t2 + v5) fun x5 =>
  zx_ck t1 262 <|
  zx_ls (zx_su s 23 (t1).toNatClampNeg x5) fun s6 =>
  zx_lt ((s6 18 11) + (1 : Int32)) fun x7 =>
  zx_ls (zx_su s6 18 11 x7) fun s8 =>
  some s8
def zX_Values_add (p1 p2 p3 p4 p5 : Int32) (s : zx_S) : Option zx_S :=
  zx_ck (s 18 11) 261 <|
  zx_ls (zx_su s 19 ((s 18 11)).toNatClampNeg p1) fun s1 =>
  zx_ck (s1 18 11) 261 <|
  zx_ls (zx_su s1 20 ((s1 18 11)).toNatClampNeg p2) fun s2 =>
  zx_ck (s2 18 11) 261 <|
  zx_ls (zx_su s2 21 ((s2 18 11)).toNatClampNeg p3) fun s3 =>
  zx_ck (s3 18 11) 261 <|
  zx_ls (zx_su s3 22 ((s3 18 11)).toNatClampNeg p4) fun s4 =>
  if (s4 18 11) = (0 : Int32) then
    (zX_Values_add_J71) p5 ((s4 18 11) + (1 : Int32)) (0 : Int32) s4
  else
    zx_ck (s4 18 11) 262 <|
    (zX_Values_add_J71) p5 ((s4 18 11) + (1 : Int32)) (s4 23 ((s4 18 11)).toNatClampNeg) s4
def zX_Values_numberChoices_L33 (v2 v3 : Int32) (k81 : zx_S → Option zx_S) : Nat → Int32 → zx_S → Option zx_S
  | 0, _, _ => none
  | n + 1, v4, s =>
    if (10 : Int32) ≤ v4 then
      k81 s
    else
      zx_ck v4 10 <|
      zx_b1 (zX_Graph_isIn (s 31 (v4).toNatClampNeg) v2 s) fun r5 =>
      if r5 = (0 : Int32) then
        zx_lt (v4 + (1 : Int32)) fun v4_10 =>
        (zX_Values_numberChoices_L33 v2 v3 k81 n) v4_10 s
      else
        zx_b1 (zX_Values_add (15 : Int32) v2 v4 (-1 : Int32) v3 s) fun s6 =>
        zx_ck v2 16 <|
        zx_lt ((s6 30 (v2).toNatClampNeg) + (1 : Int32)) fun x7 =>
        zx_ck v2 16 <|
        zx_ls (zx_su s6 30 (v2).toNatClampNeg x7) fun s8 =>
        zx_lt (v4 + (1 : Int32)) fun v4_9 =>
        (zX_Values_numberChoices_L33 v2 v3 k81 n) v4_9 s8
def zX_Values_numberChoices_J18 (v2 t0 t1 : Int32) (s : zx_S) : Option zx_S :=
  zx_lt (t0 + t1) fun v3_2 =>
  zx_lt (s 18 11) fun x3 =>
  zx_ck v2 16 <|
  zx_ls (zx_su s 29 (v2).toNatClampNeg x3) fun s4 =>
  zX_Values_numberChoices_L33 v2 v3_2
    (fun s11 =>
      some s11)
    10000 (0 : Int32) s4
def zX_Values_numberChoices (p2 : Int32) (s : zx_S) : Option zx_S :=
  zx_ck p2 16 <|
  zx_b1 (zX_Integer_bitCount (s 13 (p2).toNatClampNeg) s) fun r1 =>
  if p2 = (0 : Int32) then
    (zX_Values_numberChoices_J18) p2 r1 (1 : Int32) s
  else
    (zX_Values_numberChoices_J18) p2 r1 (0 : Int32) s
def zX_Values_numberInstructions_L7 (v2 : Int32) (k108 : zx_S → Option zx_S) : Nat → Int32 → zx_S → Option zx_S
  | 0, _, _ => none
  | n + 1, v3, s =>
    zx_ck (v2 + (1 : Int32)) 17 <|
    if (s 2 ((v2 + (1 : Int32))).toNatClampNeg) ≤ v3 then
      k108 s
    else
      zx_ck v3 100 <|
      zx_lt (s 3 (v3).toNatClampNeg) fun v4_2 =>
      if v4_2 = (2 : Int32) then
        zx_lt (v3 + (1 : Int32)) fun v3_12 =>
        (zX_Values_numberInstructions_L7 v2 k108 n) v3_12 s
      else
        if v4_2 = (14 : Int32) then
          zx_lt (v3 + (1 : Int32)) fun v3_3 =>
          (zX_Values_numberInstructions_L7 v2 k108 n) v3_3 s
        else
          zx_lt (s 18 11) fun x4 =>
          zx_ck v3 100 <|
          zx_ls (zx_su s 28 (v3).toNatClampNeg x4) fun s5 =>
          if v4_2 = (0 : Int32) then
            zx_ck v3 100 <|
            zx_ck v3 100 <|
            zx_b1 (zX_Values_add v4_2 v2 (s5 4 (v3).toNatClampNeg) (s5 5 (v3).toNatClampNeg) (0 : Int32) s5) fun s10 =>
            zx_lt (v3 + (1 : Int32)) fun v3_11 =>
            (zX_Values_numberInstructions_L7 v2 k108 n) v3_11 s10
          else
            if v4_2 = (1 : Int32) then
              zx_ck v3 100 <|
              zx_ck v3 100 <|
              zx_b1 (zX_Values_add v4_2 v2 (s5 4 (v3).toNatClampNeg) (s5 5 (v3).toNatClampNeg) (0 : Int32) s5) fun s6 =>
              zx_lt (v3 + (1 : Int32)) fun v3_7 =>
              (zX_Values_numberInstructions_L7 v2 k108 n) v3_7 s6
            else
              zx_ck v3 100 <|
              zx_b1 (zX_Values_add v4_2 v2 (s5 4 (v3).toNatClampNeg) (-1 : Int32) (2 : Int32) s5) fun s8 =>
              zx_lt (v3 + (1 : Int32)) fun v3_9 =>
              (zX_Values_numberInstructions_L7 v2 k108 n) v3_9 s8
def zX_Values_numberInstructions (p2 : Int32) (s : zx_S) : Option zx_S :=
  zx_ck p2 17 <|
  zx_lt (s 2 (p2).toNatClampNeg) fun v3_1 =>
  zX_Values_numberInstructions_L7 p2
    (fun s13 =>
      some s13)
    10000 v3_1 s
def zX_Values_numberAll_L40 (k72 : zx_S → Option zx_S) : Nat → Int32 → zx_S → Option zx_S
  | 0, _, _ => none
  | n + 1, v3, s =>
    if (16 : Int32) ≤ v3 then
      k72 s
    else
      zx_b1 (zX_Graph_reaches v3 s) fun r5 =>
      if r5 = (0 : Int32) then
        zx_lt (v3 + (1 : Int32)) fun v3_9 =>
        (zX_Values_numberAll_L40 k72 n) v3_9 s
      else
        zx_b1 (zX_Values_numberChoices v3 s) fun s6 =>
        zx_b1 (zX_Values_numberInstructions v3 s6) fun s7 =>
        zx_lt (v3 + (1 : Int32)) fun v3_8 =>
        (zX_Values_numberAll_L40 k72 n) v3_8 s7
def zX_Values_numberAll_J38 (s : zx_S) : Option zx_S :=
  zX_Values_numberAll_L40
    (fun s10 =>
      some s10)
    10000 (0 : Int32) s
def zX_Values_numberAll (s : zx_S) : Option zx_S :=
  zx_ls (zx_su s 18 11 (0 : Int32)) fun s1 =>
  zx_b1 (zX_Arrays_fill_4 (0 : Int32) s1) fun s2 =>
  zx_b1 (zX_Arrays_fill_5 (-1 : Int32) s2) fun s3 =>
  zx_b1 (zX_Graph_reaches (0 : Int32) s3) fun r4 =>
  if r4 = (0 : Int32) then
    (zX_Values_numberAll_J38) s3
  else
    zx_b1 (zX_Values_add (0 : Int32) (0 : Int32) (-1 : Int32) (0 : Int32) (0 : Int32) s3) fun s11 =>
    (zX_Values_numberAll_J38) s11
def zX_Values_beginBlock_L16 (v2 v3 v4 : Int32) (k61 : zx_S → Option zx_S) : Nat → Int32 → zx_S → Option zx_S
  | 0, _, _ => none
  | n + 1, v5, s =>
    if (10 : Int32) ≤ v5 then
      k61 s
    else
      if v4 = (-1 : Int32) then
        zx_ck (v3 + v5) 160 <|
        zx_ls (zx_su s 32 ((v3 + v5)).toNatClampNeg (0 : Int32)) fun s3 =>
        zx_lt (v5 + (1 : Int32)) fun v5_4 =>
        (zX_Values_beginBlock_L16 v2 v3 v4 k61 n) v5_4 s3
      else
        zx_ck ((v4 * (10 : Int32)) + v5) 160 <|
        zx_lt (s 32 (((v4 * (10 : Int32)) + v5)).toNatClampNeg) fun x5 =>
        zx_ck (v3 + v5) 160 <|
        zx_ls (zx_su s 32 ((v3 + v5)).toNatClampNeg x5) fun s6 =>
        zx_lt (v5 + (1 : Int32)) fun v5_7 =>
        (zX_Values_beginBlock_L16 v2 v3 v4 k61 n) v5_7 s6
def zX_Values_beginBlock_L69 (v2 v3 : Int32) (k109 : zx_S → Option zx_S) : Nat → Int32 → zx_S → Option zx_S
  | 0, _, _ => none
  | n + 1, v5, s =>
    zx_ck v2 16 <|
    zx_ck v2 16 <|
    if ((s 29 (v2).toNatClampNeg) + (s 30 (v2).toNatClampNeg)) ≤ v5 then
      k109 s
    else
      zx_ck v5 261 <|
      zx_ck (v3 + (s 21 (v5).toNatClampNeg)) 160 <|
      zx_ls (zx_su s 32 ((v3 + (s 21 (v5).toNatClampNeg))).toNatClampNeg v5) fun s10 =>
      zx_lt (v5 + (1 : Int32)) fun v5_11 =>
      (zX_Values_beginBlock_L69 v2 v3 k109 n) v5_11 s10
def zX_Values_beginBlock (p2 : Int32) (s : zx_S) : Option zx_S :=
  zx_lt (p2 * (10 : Int32)) fun v3_1 =>
  zx_ck p2 16 <|
  zx_lt (s 16 (p2).toNatClampNeg) fun v4_2 =>
  zX_Values_beginBlock_L16 p2 v3_1 v4_2
    (fun s8 =>
      zx_ck p2 16 <|
      zx_lt (s8 29 (p2).toNatClampNeg) fun v5_9 =>
      zX_Values_beginBlock_L69 p2 v3_1
        (fun s12 =>
          some s12)
        10000 v5_9 s8)
    10000 (0 : Int32) s
def zX_Program_endVariable (p1 : Int32) (s : zx_S) : Option Int32 :=
  zx_b1 (zX_Program_endCounts p1 s) fun r1 =>
  if r1 = (0 : Int32) then
    some (0 : Int32)
  else
    zx_ck p1 16 <|
    some (s 8 (p1).toNatClampNeg)
def zX_Values_followBlock_J186 (k13 : Int32 → zx_S → Option zx_S) (v2 v3 v4 v6 : Int32) (s : zx_S) : Option zx_S :=
  zx_ck v4 100 <|
  zx_ck (v3 + (s 4 (v4).toNatClampNeg)) 160 <|
  zx_ls (zx_su s 32 ((v3 + (s 4 (v4).toNatClampNeg))).toNatClampNeg v6) fun s11 =>
  zx_lt (v4 + (1 : Int32)) fun v4_12 =>
  k13 v4_12 s11
def zX_Values_followBlock_L13 (v2 v3 : Int32) (k208 : zx_S → Option zx_S) : Nat → Int32 → zx_S → Option zx_S
  | 0, _, _ => none
  | n + 1, v4, s =>
    zx_ck (v2 + (1 : Int32)) 17 <|
    if (s 2 ((v2 + (1 : Int32))).toNatClampNeg) ≤ v4 then
      k208 s
    else
      zx_ck v4 100 <|
      zx_lt (s 3 (v4).toNatClampNeg) fun v5_3 =>
      if v5_3 = (14 : Int32) then
        zx_ck v4 100 <|
        zx_ck (v3 + (s 5 (v4).toNatClampNeg)) 160 <|
        zx_lt (s 32 ((v3 + (s 5 (v4).toNatClampNeg))).toNatClampNeg) fun x4 =>
        zx_ck v4 100 <|
        zx_ls (zx_su s 26 (v4).toNatClampNeg x4) fun s5 =>
        zx_lt (v4 + (1 : Int32)) fun v4_6 =>
        (zX_Values_followBlock_L13 v2 v3 k208 n) v4_6 s5
      else
        if v5_3 = (2 : Int32) then
          zx_ck v4 100 <|
          zx_ck v4 100 <|
          zx_ck (v3 + (s 5 (v4).toNatClampNeg)) 160 <|
          zx_lt (s 32 ((v3 + (s 5 (v4).toNatClampNeg))).toNatClampNeg) fun x7 =>
          zx_ck (v3 + (s 4 (v4).toNatClampNeg)) 160 <|
          zx_ls (zx_su s 32 ((v3 + (s 4 (v4).toNatClampNeg))).toNatClampNeg x7) fun s8 =>
          zx_lt (v4 + (1 : Int32)) fun v4_9 =>
          (zX_Values_followBlock_L13 v2 v3 k208 n) v4_9 s8
        else
          zx_ck v4 100 <|
          zx_lt (s 28 (v4).toNatClampNeg) fun v6_10 =>
          if v5_3 = (0 : Int32) then
            (zX_Values_followBlock_J186 (zX_Values_followBlock_L13 v2 v3 k208 n)) v2 v3 v4 v6_10 s
          else
            if v5_3 = (1 : Int32) then
              (zX_Values_followBlock_J186 (zX_Values_followBlock_L13 v2 v3 k208 n)) v2 v3 v4 v6_10 s
            else
              zx_ck v6_10 262 <|
              zx_ck v4 100 <|
              zx_ck (v3 + (s 5 (v4).toNatClampNeg)) 160 <|
              zx_lt (s 32 ((v3 + (s 5 (v4).toNatClampNeg))).toNatClampNeg) fun x13 =>
              zx_ck (s 23 (v6_10).toNatClampNeg) 530 <|
              zx_ls (zx_su s 25 ((s 23 (v6_10).toNatClampNeg)).toNatClampNeg x13) fun s14 =>
              zx_ck v6_10 262 <|
              zx_ck v4 100 <|
              zx_ck (v3 + (s14 6 (v4).toNatClampNeg)) 160 <|
              zx_lt (s14 32 ((v3 + (s14 6 (v4).toNatClampNeg))).toNatClampNeg) fun x15 =>
              zx_ck ((s14 23 (v6_10).toNatClampNeg) + (1 : Int32)) 530 <|
              zx_ls (zx_su s14 25 (((s14 23 (v6_10).toNatClampNeg) + (1 : Int32))).toNatClampNeg x15) fun s16 =>
              (zX_Values_followBlock_J186 (zX_Values_followBlock_L13 v2 v3 k208 n)) v2 v3 v4 v6_10 s16
def zX_Values_followBlock_J222 (v2 v3 t0 : Int32) (s : zx_S) : Option zx_S :=
  if t0 = (0 : Int32) then
    zx_b1 (zX_Program_endVariable v2 s) fun r20 =>
    zx_ck (v3 + r20) 160 <|
    zx_lt (s 32 ((v3 + r20)).toNatClampNeg) fun x21 =>
    zx_ck v2 16 <|
    zx_ls (zx_su s 27 (v2).toNatClampNeg x21) fun s22 =>
    some s22
  else
    zx_ck v2 16 <|
    zx_ls (zx_su s 27 (v2).toNatClampNeg (-1 : Int32)) fun s19 =>
    some s19
def zX_Values_followBlock (p2 : Int32) (s : zx_S) : Option zx_S :=
  zx_lt (p2 * (10 : Int32)) fun v3_1 =>
  zx_ck p2 17 <|
  zx_lt (s 2 (p2).toNatClampNeg) fun v4_2 =>
  zX_Values_followBlock_L13 p2 v3_1
    (fun s17 =>
      zx_b1 (zX_Program_howCounts p2 s17) fun r18 =>
      if r18 = (1 : Int32) then
        (zX_Values_followBlock_J222) p2 v3_1 (1 : Int32) s17
      else
        (zX_Values_followBlock_J222) p2 v3_1 (0 : Int32) s17)
    10000 v4_2 s
def zX_Values_fillChoice_L10 (v1 v2 : Int32) (k61 : Int32 → zx_S → Option zx_S) : Nat → Int32 → Int32 → zx_S → Option zx_S
  | 0, _, _, _ => none
  | n + 1, v3, v4, s =>
    if (16 : Int32) ≤ v4 then
      k61 v3 s
    else
      zx_b1 (zX_Graph_isIn v2 v4 s) fun r2 =>
      if r2 = (0 : Int32) then
        zx_lt (v4 + (1 : Int32)) fun v4_7 =>
        (zX_Values_fillChoice_L10 v1 v2 k61 n) v3 v4_7 s
      else
        zx_ck v1 261 <|
        zx_ck ((v4 * (10 : Int32)) + (s 21 (v1).toNatClampNeg)) 160 <|
        zx_lt (s 32 (((v4 * (10 : Int32)) + (s 21 (v1).toNatClampNeg))).toNatClampNeg) fun x3 =>
        zx_ck v3 530 <|
        zx_ls (zx_su s 25 (v3).toNatClampNeg x3) fun s4 =>
        zx_lt (v3 + (1 : Int32)) fun v3_5 =>
        zx_lt (v4 + (1 : Int32)) fun v4_6 =>
        (zX_Values_fillChoice_L10 v1 v2 k61 n) v3_5 v4_6 s4
def zX_Values_fillChoice (p1 p2 : Int32) (s : zx_S) : Option zx_S :=
  zx_ck p1 262 <|
  zx_lt (s 23 (p1).toNatClampNeg) fun v3_1 =>
  zX_Values_fillChoice_L10 p1 p2
    (fun v3_8 s9 =>
      zx_ck p1 261 <|
      if (s9 20 (p1).toNatClampNeg) = (0 : Int32) then
        zx_ck v3_8 530 <|
        zx_ls (zx_su s9 25 (v3_8).toNatClampNeg (0 : Int32)) fun s10 =>
        some s10
      else
        some s9)
    10000 v3_1 (0 : Int32) s
def zX_Values_fillChoices_L15 (v2 : Int32) (k49 : zx_S → Option zx_S) : Nat → Int32 → zx_S → Option zx_S
  | 0, _, _ => none
  | n + 1, v3, s =>
    zx_ck v2 16 <|
    zx_ck v2 16 <|
    if ((s 29 (v2).toNatClampNeg) + (s 30 (v2).toNatClampNeg)) ≤ v3 then
      k49 s
    else
      zx_ck v2 16 <|
      zx_b1 (zX_Values_fillChoice v3 (s 13 (v2).toNatClampNeg) s) fun s2 =>
      zx_lt (v3 + (1 : Int32)) fun v3_3 =>
      (zX_Values_fillChoices_L15 v2 k49 n) v3_3 s2
def zX_Values_fillChoices_L2 (k55 : zx_S → Option zx_S) : Nat → Int32 → zx_S → Option zx_S
  | 0, _, _ => none
  | n + 1, v2, s =>
    if (16 : Int32) ≤ v2 then
      k55 s
    else
      zx_ck v2 16 <|
      zx_lt (s 29 (v2).toNatClampNeg) fun v3_1 =>
      zX_Values_fillChoices_L15 v2
        (fun s4 =>
          zx_lt (v2 + (1 : Int32)) fun v2_5 =>
          (zX_Values_fillChoices_L2 k55 n) v2_5 s4)
        10000 v3_1 s
def zX_Values_fillChoices (s : zx_S) : Option zx_S :=
  zX_Values_fillChoices_L2
    (fun s6 =>
      some s6)
    10000 (0 : Int32) s
def zX_Values_make_L23 (v3 : Int32) (k73 : zx_S → Option zx_S) : Nat → Int32 → zx_S → Option zx_S
  | 0, _, _ => none
  | n + 1, v4, s =>
    if (16 : Int32) ≤ v4 then
      k73 s
    else
      zx_b1 (zX_Graph_reaches v4 s) fun r3 =>
      if r3 = (0 : Int32) then
        zx_lt (v4 + (1 : Int32)) fun v4_9 =>
        (zX_Values_make_L23 v3 k73 n) v4_9 s
      else
        zx_ck v4 16 <|
        zx_b1 (zX_Integer_bitCount (s 15 (v4).toNatClampNeg) s) fun r4 =>
        if r4 = v3 then
          zx_b1 (zX_Values_beginBlock v4 s) fun s5 =>
          zx_b1 (zX_Values_followBlock v4 s5) fun s6 =>
          zx_lt (v4 + (1 : Int32)) fun v4_7 =>
          (zX_Values_make_L23 v3 k73 n) v4_7 s6
        else
          zx_lt (v4 + (1 : Int32)) fun v4_8 =>
          (zX_Values_make_L23 v3 k73 n) v4_8 s
def zX_Values_make_L14 (k79 : zx_S → Option zx_S) : Nat → Int32 → zx_S → Option zx_S
  | 0, _, _ => none
  | n + 1, v3, s =>
    if (16 : Int32) < v3 then
      k79 s
    else
      zX_Values_make_L23 v3
        (fun s10 =>
          zx_lt (v3 + (1 : Int32)) fun v3_11 =>
          (zX_Values_make_L14 k79 n) v3_11 s10)
        10000 (0 : Int32) s
def zX_Values_make (s : zx_S) : Option zx_S :=
  zx_b1 (zX_Values_placeChoices s) fun s1 =>
  zx_b1 (zX_Values_numberAll s1) fun s2 =>
  zX_Values_make_L14
    (fun s12 =>
      zx_b1 (zX_Values_fillChoices s12) fun s13 =>
      some s13)
    10000 (1 : Int32) s2
def zX_Classes_alike (p1 p2 : Int32) (s : zx_S) : Option Int32 :=
  zx_ck p1 261 <|
  zx_ck p2 261 <|
  if (s 19 (p1).toNatClampNeg) = (s 19 (p2).toNatClampNeg) then
    zx_ck p1 261 <|
    zx_ck p2 261 <|
    if (s 22 (p1).toNatClampNeg) = (s 22 (p2).toNatClampNeg) then
      zx_ck p1 261 <|
      if (s 19 (p1).toNatClampNeg) = (15 : Int32) then
        zx_ck p1 261 <|
        zx_ck p2 261 <|
        if (s 20 (p1).toNatClampNeg) = (s 20 (p2).toNatClampNeg) then
          some (1 : Int32)
        else
          some (0 : Int32)
      else
        some (1 : Int32)
    else
      some (0 : Int32)
  else
    some (0 : Int32)
def zX_Classes_leastAlike_L2 (v2 : Int32) (s : zx_S) (k26 : Int32 → Option Int32) : Nat → Int32 → Option Int32
  | 0, _ => none
  | n + 1, v3 =>
    if v2 ≤ v3 then
      some v2
    else
      zx_ck v3 261 <|
      if (s 34 (v3).toNatClampNeg) = v3 then
        zx_b1 (zX_Classes_alike v3 v2 s) fun r1 =>
        if r1 = (0 : Int32) then
          zx_lt (v3 + (1 : Int32)) fun v3_2 =>
          (zX_Classes_leastAlike_L2 v2 s k26 n) v3_2
        else
          k26 v3
      else
        zx_lt (v3 + (1 : Int32)) fun v3_3 =>
        (zX_Classes_leastAlike_L2 v2 s k26 n) v3_3
def zX_Classes_leastAlike (p2 : Int32) (s : zx_S) : Option Int32 :=
  zX_Classes_leastAlike_L2 p2 s
    (fun v3_4 =>
      some v3_4)
    10000 (0 : Int32)
def zX_Values_operandsOf (p1 : Int32) (s : zx_S) : Option Int32 :=
  zx_ck (p1 + (1 : Int32)) 262 <|
  zx_ck p1 262 <|
  some ((s 23 ((p1 + (1 : Int32))).toNatClampNeg) - (s 23 (p1).toNatClampNeg))
def zX_Classes_together (p2 p3 : Int32) (s : zx_S) : Option Int32 :=
  zx_ck p2 530 <|
  zx_ck (s 25 (p2).toNatClampNeg) 261 <|
  zx_ck p3 530 <|
  zx_ck (s 25 (p3).toNatClampNeg) 261 <|
  if (s 34 ((s 25 (p2).toNatClampNeg)).toNatClampNeg) = (s 34 ((s 25 (p3).toNatClampNeg)).toNatClampNeg) then
    some (1 : Int32)
  else
    some (0 : Int32)
def zX_Classes_isEven (p0 : Int32) (s : zx_S) : Option Int32 :=
  if p0 = (3 : Int32) then
    some (1 : Int32)
  else
    if p0 = (5 : Int32) then
      some (1 : Int32)
    else
      if p0 = (6 : Int32) then
        some (1 : Int32)
      else
        if p0 = (7 : Int32) then
          some (1 : Int32)
        else
          if p0 = (8 : Int32) then
            some (1 : Int32)
          else
            if p0 = (9 : Int32) then
              some (1 : Int32)
            else
              some (0 : Int32)
def zX_Classes_operandsAgree_L29 (v2 v4 v5 v6 : Int32) (s : zx_S) (k64 : Int32 → Option Int32) : Nat → Int32 → Int32 → Option Int32
  | 0, _, _ => none
  | n + 1, v7, v8 =>
    if v6 ≤ v8 then
      k64 v7
    else
      if v7 = (0 : Int32) then
        k64 v7
      else
        zx_b1 (zX_Classes_together (v4 + v8) (v5 + v8) s) fun r4 =>
        zx_lt (v8 + (1 : Int32)) fun v8_5 =>
        (zX_Classes_operandsAgree_L29 v2 v4 v5 v6 s k64 n) r4 v8_5
def zX_Classes_operandsAgree (p2 p3 : Int32) (s : zx_S) : Option Int32 :=
  zx_ck p2 262 <|
  zx_lt (s 23 (p2).toNatClampNeg) fun v4_1 =>
  zx_ck p3 262 <|
  zx_lt (s 23 (p3).toNatClampNeg) fun v5_2 =>
  zx_b1 (zX_Values_operandsOf p2 s) fun r3 =>
  zX_Classes_operandsAgree_L29 p2 v4_1 v5_2 r3 s
    (fun v7_6 =>
      if v7_6 = (0 : Int32) then
        zx_ck p2 261 <|
        zx_b1 (zX_Classes_isEven (s 19 (p2).toNatClampNeg) s) fun r7 =>
        if r7 = (0 : Int32) then
          some (0 : Int32)
        else
          zx_b1 (zX_Classes_together v4_1 (v5_2 + (1 : Int32)) s) fun r8 =>
          if r8 = (0 : Int32) then
            some (0 : Int32)
          else
            zx_b1 (zX_Classes_together (v4_1 + (1 : Int32)) v5_2 s) fun r9 =>
            if r9 = (0 : Int32) then
              some (0 : Int32)
            else
              some (1 : Int32)
      else
        some (1 : Int32))
    10000 (1 : Int32) (0 : Int32)
def zX_Classes_leastTogether_L7 (v2 : Int32) (s : zx_S) (k47 : Int32 → Option Int32) : Nat → Int32 → Option Int32
  | 0, _ => none
  | n + 1, v3 =>
    if v2 ≤ v3 then
      some v2
    else
      zx_ck v3 261 <|
      if (s 35 (v3).toNatClampNeg) = v3 then
        zx_ck v3 261 <|
        zx_ck v2 261 <|
        if (s 34 (v3).toNatClampNeg) = (s 34 (v2).toNatClampNeg) then
          zx_b1 (zX_Classes_operandsAgree v3 v2 s) fun r2 =>
          if r2 = (0 : Int32) then
            zx_lt (v3 + (1 : Int32)) fun v3_3 =>
            (zX_Classes_leastTogether_L7 v2 s k47 n) v3_3
          else
            k47 v3
        else
          zx_lt (v3 + (1 : Int32)) fun v3_4 =>
          (zX_Classes_leastTogether_L7 v2 s k47 n) v3_4
      else
        zx_lt (v3 + (1 : Int32)) fun v3_5 =>
        (zX_Classes_leastTogether_L7 v2 s k47 n) v3_5
def zX_Classes_leastTogether (p2 : Int32) (s : zx_S) : Option Int32 :=
  zx_ck p2 261 <|
  zx_lt (s 34 (p2).toNatClampNeg) fun v3_1 =>
  zX_Classes_leastTogether_L7 p2 s
    (fun v3_6 =>
      some v3_6)
    10000 v3_1
def zX_Classes_partFiner_L4 (k55 : Int32 → zx_S → Option (Int32 × zx_S)) : Nat → Int32 → Int32 → zx_S → Option (Int32 × zx_S)
  | 0, _, _, _ => none
  | n + 1, v2, v3, s =>
    if (s 18 11) ≤ v3 then
      k55 v2 s
    else
      zx_b1 (zX_Classes_leastTogether v3 s) fun r1 =>
      zx_ck v3 261 <|
      zx_ls (zx_su s 35 (v3).toNatClampNeg r1) fun s2 =>
      if v2 = (0 : Int32) then
        zx_ck v3 261 <|
        zx_ck v3 261 <|
        if (s2 35 (v3).toNatClampNeg) = (s2 34 (v3).toNatClampNeg) then
          zx_lt (v3 + (1 : Int32)) fun v3_4 =>
          (zX_Classes_partFiner_L4 k55 n) (0 : Int32) v3_4 s2
        else
          zx_lt (v3 + (1 : Int32)) fun v3_3 =>
          (zX_Classes_partFiner_L4 k55 n) (1 : Int32) v3_3 s2
      else
        zx_lt (v3 + (1 : Int32)) fun v3_5 =>
        (zX_Classes_partFiner_L4 k55 n) (1 : Int32) v3_5 s2
def zX_Classes_partFiner (s : zx_S) : Option (Int32 × zx_S) :=
  zX_Classes_partFiner_L4
    (fun v2_6 s7 =>
      zx_cp s7 35 (0 : Int32) 261 34 (0 : Int32) 261 (s7 18 11) fun s8 =>
      zx_zr v2_6 <| some (v2_6, s8))
    10000 (0 : Int32) (0 : Int32) s
def zX_Classes_part_L2 (k28 : zx_S → Option zx_S) : Nat → Int32 → zx_S → Option zx_S
  | 0, _, _ => none
  | n + 1, v2, s =>
    if (s 18 11) ≤ v2 then
      k28 s
    else
      zx_b1 (zX_Classes_leastAlike v2 s) fun r1 =>
      zx_ck v2 261 <|
      zx_ls (zx_su s 34 (v2).toNatClampNeg r1) fun s2 =>
      zx_lt (v2 + (1 : Int32)) fun v2_3 =>
      (zX_Classes_part_L2 k28 n) v2_3 s2
def zX_Classes_part_L32 (k55 : zx_S → Option zx_S) : Nat → Int32 → Int32 → zx_S → Option zx_S
  | 0, _, _, _ => none
  | n + 1, v2, v3, s =>
    if (261 : Int32) < v3 then
      k55 s
    else
      if v2 = (0 : Int32) then
        k55 s
      else
        zx_b2 (zX_Classes_partFiner s) fun r5 s6 =>
        zx_lt (v3 + (1 : Int32)) fun v3_7 =>
        (zX_Classes_part_L32 k55 n) r5 v3_7 s6
def zX_Classes_part_L62 (k100 : zx_S → Option zx_S) : Nat → Int32 → zx_S → Option zx_S
  | 0, _, _ => none
  | n + 1, v3, s =>
    if (s 18 11) ≤ v3 then
      k100 s
    else
      zx_ck v3 261 <|
      if (s 34 (v3).toNatClampNeg) = v3 then
        zx_lt ((s 33 2) + (1 : Int32)) fun x10 =>
        zx_ls (zx_su s 33 2 x10) fun s11 =>
        zx_lt (v3 + (1 : Int32)) fun v3_12 =>
        (zX_Classes_part_L62 k100 n) v3_12 s11
      else
        zx_lt ((s 33 2) + (0 : Int32)) fun x13 =>
        zx_ls (zx_su s 33 2 x13) fun s14 =>
        zx_lt (v3 + (1 : Int32)) fun v3_15 =>
        (zX_Classes_part_L62 k100 n) v3_15 s14
def zX_Classes_part (s : zx_S) : Option zx_S :=
  zX_Classes_part_L2
    (fun s4 =>
      zX_Classes_part_L32
        (fun s8 =>
          zx_ls (zx_su s8 33 2 (0 : Int32)) fun s9 =>
          zX_Classes_part_L62
            (fun s16 =>
              some s16)
            10000 (0 : Int32) s9)
        10000 (1 : Int32) (0 : Int32) s4)
    10000 (0 : Int32) s
def zX_Leaders_isLed_L20 (v3 v4 v5 : Int32) (s : zx_S) (k82 : Option Int32) : Nat → Int32 → Option Int32
  | 0, _ => none
  | n + 1, v6 =>
    if (s 18 11) ≤ v6 then
      some (0 : Int32)
    else
      zx_ck v6 261 <|
      if (s 34 (v6).toNatClampNeg) = v4 then
        zx_ck v6 261 <|
        if (s 20 (v6).toNatClampNeg) = v5 then
          if v3 ≤ v6 then
            zx_lt (v6 + (1 : Int32)) fun v6_3 =>
            (zX_Leaders_isLed_L20 v3 v4 v5 s k82 n) v6_3
          else
            k82
        else
          zx_ck v6 261 <|
          zx_ck (s 20 (v6).toNatClampNeg) 16 <|
          zx_b1 (zX_Graph_isIn (s 14 ((s 20 (v6).toNatClampNeg)).toNatClampNeg) v5 s) fun r4 =>
          if r4 = (0 : Int32) then
            zx_lt (v6 + (1 : Int32)) fun v6_5 =>
            (zX_Leaders_isLed_L20 v3 v4 v5 s k82 n) v6_5
          else
            k82
      else
        zx_lt (v6 + (1 : Int32)) fun v6_6 =>
        (zX_Leaders_isLed_L20 v3 v4 v5 s k82 n) v6_6
def zX_Leaders_isLed (p3 : Int32) (s : zx_S) : Option Int32 :=
  zx_ck p3 261 <|
  zx_lt (s 34 (p3).toNatClampNeg) fun v4_1 =>
  zx_ck p3 261 <|
  zx_lt (s 20 (p3).toNatClampNeg) fun v5_2 =>
  zX_Leaders_isLed_L20 p3 v4_1 v5_2 s
    (
      some (1 : Int32))
    10000 v4_1
def zX_Leaders_leader_L13 (v4 v5 v6 : Int32) (s : zx_S) (k64 : Int32 → Option Int32) : Nat → Int32 → Option Int32
  | 0, _ => none
  | n + 1, v7 =>
    if (s 18 11) ≤ v7 then
      some v4
    else
      zx_ck v7 261 <|
      if (s 34 (v7).toNatClampNeg) = v6 then
        zx_ck v7 261 <|
        if (s 37 (v7).toNatClampNeg) = (0 : Int32) then
          zx_ck v7 261 <|
          zx_ck (s 20 (v7).toNatClampNeg) 16 <|
          zx_b1 (zX_Graph_isIn (s 14 ((s 20 (v7).toNatClampNeg)).toNatClampNeg) v5 s) fun r2 =>
          if r2 = (0 : Int32) then
            zx_lt (v7 + (1 : Int32)) fun v7_3 =>
            (zX_Leaders_leader_L13 v4 v5 v6 s k64 n) v7_3
          else
            k64 v7
        else
          zx_lt (v7 + (1 : Int32)) fun v7_4 =>
          (zX_Leaders_leader_L13 v4 v5 v6 s k64 n) v7_4
      else
        zx_lt (v7 + (1 : Int32)) fun v7_5 =>
        (zX_Leaders_leader_L13 v4 v5 v6 s k64 n) v7_5
def zX_Leaders_leader (p4 p5 : Int32) (s : zx_S) : Option Int32 :=
  zx_ck p4 261 <|
  zx_lt (s 34 (p4).toNatClampNeg) fun v6_1 =>
  zX_Leaders_leader_L13 p4 p5 v6_1 s
    (fun v7_6 =>
      some v7_6)
    10000 v6_1
def zX_Graph_nthOf_L4 (v0 v1 : Int32) (s : zx_S) (k23 : Int32 → Option Int32) : Nat → Int32 → Int32 → Option Int32
  | 0, _, _ => none
  | n + 1, v2, v3 =>
    if (16 : Int32) ≤ v3 then
      some (-1 : Int32)
    else
      zx_b1 (zX_Graph_isIn v0 v3 s) fun r1 =>
      if r1 = (0 : Int32) then
        zx_lt (v3 + (1 : Int32)) fun v3_4 =>
        (zX_Graph_nthOf_L4 v0 v1 s k23 n) v2 v3_4
      else
        if v2 = v1 then
          k23 v3
        else
          zx_lt (v2 + (1 : Int32)) fun v2_2 =>
          zx_lt (v3 + (1 : Int32)) fun v3_3 =>
          (zX_Graph_nthOf_L4 v0 v1 s k23 n) v2_2 v3_3
def zX_Graph_nthOf (p0 p1 : Int32) (s : zx_S) : Option Int32 :=
  zX_Graph_nthOf_L4 p0 p1 s
    (fun v3_5 =>
      some v3_5)
    10000 (0 : Int32) (0 : Int32)
def zX_Leaders_leadOperands_J76 (k21 : Int32 → zx_S → Option zx_S) (v4 v5 v6 v7 v8 : Int32) (s : zx_S) : Option zx_S :=
  zx_ck (v6 + v7) 530 <|
  zx_lt (s 25 ((v6 + v7)).toNatClampNeg) fun v9_4 =>
  zx_b1 (zX_Leaders_leader v9_4 v8 s) fun r5 =>
  zx_ck (v6 + v7) 530 <|
  zx_ls (zx_su s 39 ((v6 + v7)).toNatClampNeg r5) fun s6 =>
  zx_lt (v7 + (1 : Int32)) fun v7_7 =>
  k21 v7_7 s6
def zX_Leaders_leadOperands_L21 (v4 v5 v6 : Int32) (k121 : zx_S → Option zx_S) : Nat → Int32 → zx_S → Option zx_S
  | 0, _, _ => none
  | n + 1, v7, s =>
    zx_b1 (zX_Values_operandsOf v4 s) fun r3 =>
    if r3 ≤ v7 then
      k121 s
    else
      zx_ck v4 261 <|
      if (s 19 (v4).toNatClampNeg) = (15 : Int32) then
        zx_ck v5 16 <|
        zx_b1 (zX_Graph_nthOf (s 13 (v5).toNatClampNeg) v7 s) fun r8 =>
        if r8 = (-1 : Int32) then
          (zX_Leaders_leadOperands_J76 (zX_Leaders_leadOperands_L21 v4 v5 v6 k121 n)) v4 v5 v6 v7 (0 : Int32) s
        else
          (zX_Leaders_leadOperands_J76 (zX_Leaders_leadOperands_L21 v4 v5 v6 k121 n)) v4 v5 v6 v7 r8 s
      else
        (zX_Leaders_leadOperands_J76 (zX_Leaders_leadOperands_L21 v4 v5 v6 k121 n)) v4 v5 v6 v7 v5 s
def zX_Leaders_leadOperands (p4 : Int32) (s : zx_S) : Option zx_S :=
  zx_ck p4 261 <|
  zx_lt (s 20 (p4).toNatClampNeg) fun v5_1 =>
  zx_ck p4 262 <|
  zx_lt (s 23 (p4).toNatClampNeg) fun v6_2 =>
  zX_Leaders_leadOperands_L21 p4 v5_1 v6_2
    (fun s9 =>
      some s9)
    10000 (0 : Int32) s
def zX_Leaders_leadEmits_L9 (v5 : Int32) (k71 : zx_S → Option zx_S) : Nat → Int32 → zx_S → Option zx_S
  | 0, _, _ => none
  | n + 1, v6, s =>
    zx_ck (v5 + (1 : Int32)) 17 <|
    if (s 2 ((v5 + (1 : Int32))).toNatClampNeg) ≤ v6 then
      k71 s
    else
      zx_ck v6 100 <|
      if (s 3 (v6).toNatClampNeg) = (14 : Int32) then
        zx_ck v6 100 <|
        zx_b1 (zX_Leaders_leader (s 26 (v6).toNatClampNeg) v5 s) fun r2 =>
        zx_ck v6 100 <|
        zx_ls (zx_su s 40 (v6).toNatClampNeg r2) fun s3 =>
        zx_lt (v6 + (1 : Int32)) fun v6_4 =>
        (zX_Leaders_leadEmits_L9 v5 k71 n) v6_4 s3
      else
        zx_lt (v6 + (1 : Int32)) fun v6_5 =>
        (zX_Leaders_leadEmits_L9 v5 k71 n) v6_5 s
def zX_Leaders_leadEmits (p5 : Int32) (s : zx_S) : Option zx_S :=
  zx_ck p5 17 <|
  zx_lt (s 2 (p5).toNatClampNeg) fun v6_1 =>
  zX_Leaders_leadEmits_L9 p5
    (fun s6 =>
      some s6)
    10000 v6_1 s
def zX_Leaders_lead_L8 (k63 : zx_S → Option zx_S) : Nat → Int32 → zx_S → Option zx_S
  | 0, _, _ => none
  | n + 1, v5, s =>
    if (s 18 11) ≤ v5 then
      k63 s
    else
      zx_b1 (zX_Leaders_isLed v5 s) fun r2 =>
      zx_ck v5 261 <|
      zx_ls (zx_su s 37 (v5).toNatClampNeg (vp_nar .boolean r2)) fun s3 =>
      zx_ck v5 261 <|
      if (s3 37 (v5).toNatClampNeg) = (0 : Int32) then
        zx_lt ((s3 36 2) + (0 : Int32)) fun x7 =>
        zx_ls (zx_su s3 36 2 x7) fun s8 =>
        zx_lt (v5 + (1 : Int32)) fun v5_9 =>
        (zX_Leaders_lead_L8 k63 n) v5_9 s8
      else
        zx_lt ((s3 36 2) + (1 : Int32)) fun x4 =>
        zx_ls (zx_su s3 36 2 x4) fun s5 =>
        zx_lt (v5 + (1 : Int32)) fun v5_6 =>
        (zX_Leaders_lead_L8 k63 n) v5_6 s5
def zX_Leaders_lead_L66 (k101 : zx_S → Option zx_S) : Nat → Int32 → zx_S → Option zx_S
  | 0, _, _ => none
  | n + 1, v5, s =>
    if (s 18 11) ≤ v5 then
      k101 s
    else
      zx_ck v5 261 <|
      if (s 37 (v5).toNatClampNeg) = (0 : Int32) then
        zx_b1 (zX_Leaders_leadOperands v5 s) fun s11 =>
        zx_lt (v5 + (1 : Int32)) fun v5_12 =>
        (zX_Leaders_lead_L66 k101 n) v5_12 s11
      else
        zx_lt (v5 + (1 : Int32)) fun v5_13 =>
        (zX_Leaders_lead_L66 k101 n) v5_13 s
def zX_Leaders_lead_L104 (k181 : zx_S → Option zx_S) : Nat → Int32 → zx_S → Option zx_S
  | 0, _, _ => none
  | n + 1, v5, s =>
    if (16 : Int32) ≤ v5 then
      k181 s
    else
      zx_b1 (zX_Graph_reaches v5 s) fun r15 =>
      if r15 = (0 : Int32) then
        zx_lt (v5 + (1 : Int32)) fun v5_23 =>
        (zX_Leaders_lead_L104 k181 n) v5_23 s
      else
        zx_b1 (zX_Leaders_leadEmits v5 s) fun s16 =>
        zx_ck v5 16 <|
        zx_lt (s16 27 (v5).toNatClampNeg) fun v6_17 =>
        if v6_17 = (-1 : Int32) then
          zx_ck v5 16 <|
          zx_ls (zx_su s16 41 (v5).toNatClampNeg (-1 : Int32)) fun s18 =>
          zx_lt (v5 + (1 : Int32)) fun v5_19 =>
          (zX_Leaders_lead_L104 k181 n) v5_19 s18
        else
          zx_b1 (zX_Leaders_leader v6_17 v5 s16) fun r20 =>
          zx_ck v5 16 <|
          zx_ls (zx_su s16 41 (v5).toNatClampNeg r20) fun s21 =>
          zx_lt (v5 + (1 : Int32)) fun v5_22 =>
          (zX_Leaders_lead_L104 k181 n) v5_22 s21
def zX_Leaders_lead (s : zx_S) : Option zx_S :=
  zx_ls (zx_su s 36 2 (0 : Int32)) fun s1 =>
  zX_Leaders_lead_L8
    (fun s10 =>
      zX_Leaders_lead_L66
        (fun s14 =>
          zX_Leaders_lead_L104
            (fun s24 =>
              some s24)
            10000 (0 : Int32) s14)
        10000 (0 : Int32) s10)
    10000 (0 : Int32) s1
def zX_ValueBench_refresh (s : zx_S) : Option zx_S :=
  if (s 0 9) = (0 : Int32) then
    some s
  else
    zx_b1 (zX_Graph_draw s) fun s1 =>
    zx_b1 (zX_Values_make s1) fun s2 =>
    zx_b1 (zX_Classes_part s2) fun s3 =>
    zx_b1 (zX_Leaders_lead s3) fun s4 =>
    zx_ls (zx_su s4 0 9 (0 : Int32)) fun s5 =>
    some s5
def zX_ValueBench_aboutReached (p1 p2 : Int32) (s : zx_S) : Option Int32 :=
  if p2 = (1 : Int32) then
    zx_ck p1 16 <|
    some (s 16 (p1).toNatClampNeg)
  else
    if p2 = (2 : Int32) then
      zx_ck p1 16 <|
      zx_b1 (zX_Integer_bitCount (s 13 (p1).toNatClampNeg) s) fun r2 =>
      some r2
    else
      if p2 = (3 : Int32) then
        some (-1 : Int32)
      else
        if p2 = (4 : Int32) then
          zx_ck p1 16 <|
          some (s 30 (p1).toNatClampNeg)
        else
          if p2 = (5 : Int32) then
            zx_ck p1 16 <|
            zx_b1 (zX_Integer_bitCount (s 17 (p1).toNatClampNeg) s) fun r1 =>
            some r1
          else
            some (-1 : Int32)
def zX_ValueBench_about (p1 p2 : Int32) (s : zx_S) : Option (Int32 × zx_S) :=
  zx_b1 (zX_Program_has p1 s) fun r1 =>
  if r1 = (0 : Int32) then
    some ((-1 : Int32), s)
  else
    zx_b1 (zX_ValueBench_refresh s) fun s2 =>
    if p2 = (0 : Int32) then
      zx_b1 (zX_Graph_reaches p1 s2) fun r6 =>
      if r6 = (0 : Int32) then
        some ((0 : Int32), s2)
      else
        some ((1 : Int32), s2)
    else
      if p2 = (3 : Int32) then
        zx_ck (p1 + (1 : Int32)) 17 <|
        zx_ck p1 17 <|
        some (((s2 2 ((p1 + (1 : Int32))).toNatClampNeg) - (s2 2 (p1).toNatClampNeg)), s2)
      else
        if p2 = (6 : Int32) then
          zx_b1 (zX_Program_howCounts p1 s2) fun r5 =>
          some (r5, s2)
        else
          zx_b1 (zX_Graph_reaches p1 s2) fun r3 =>
          if r3 = (0 : Int32) then
            some ((-1 : Int32), s2)
          else
            zx_b1 (zX_ValueBench_aboutReached p1 p2 s2) fun r4 =>
            some (r4, s2)
def zX_ValueBench_predecessor (p1 p2 : Int32) (s : zx_S) : Option (Int32 × zx_S) :=
  zx_b1 (zX_ValueBench_refresh s) fun s1 =>
  zx_b1 (zX_Graph_reaches p1 s1) fun r2 =>
  if r2 = (0 : Int32) then
    some ((-1 : Int32), s1)
  else
    zx_ck p1 16 <|
    zx_b1 (zX_Graph_nthOf (s1 13 (p1).toNatClampNeg) p2 s1) fun r3 =>
    some (r3, s1)
def zX_ValueBench_dominates (p1 p2 : Int32) (s : zx_S) : Option (Int32 × zx_S) :=
  zx_b1 (zX_ValueBench_refresh s) fun s1 =>
  zx_b1 (zX_Graph_reaches p1 s1) fun r2 =>
  if r2 = (0 : Int32) then
    some ((-1 : Int32), s1)
  else
    zx_b1 (zX_Graph_reaches p2 s1) fun r3 =>
    if r3 = (0 : Int32) then
      some ((-1 : Int32), s1)
    else
      zx_ck p1 16 <|
      zx_b1 (zX_Graph_isIn (s1 14 (p1).toNatClampNeg) p2 s1) fun r4 =>
      if r4 = (0 : Int32) then
        some ((0 : Int32), s1)
      else
        some ((1 : Int32), s1)
def zX_ValueBench_meets (p1 p2 : Int32) (s : zx_S) : Option (Int32 × zx_S) :=
  zx_b1 (zX_ValueBench_refresh s) fun s1 =>
  zx_b1 (zX_Graph_reaches p1 s1) fun r2 =>
  if r2 = (0 : Int32) then
    some ((-1 : Int32), s1)
  else
    zx_b1 (zX_Graph_reaches p2 s1) fun r3 =>
    if r3 = (0 : Int32) then
      some ((-1 : Int32), s1)
    else
      zx_ck p1 16 <|
      zx_b1 (zX_Graph_isIn (s1 17 (p1).toNatClampNeg) p2 s1) fun r4 =>
      if r4 = (0 : Int32) then
        some ((0 : Int32), s1)
      else
        some ((1 : Int32), s1)
def zX_Values_has (p1 : Int32) (s : zx_S) : Option Int32 :=
  if p1 < (0 : Int32) then
    some (0 : Int32)
  else
    if (s 18 11) ≤ p1 then
      some (0 : Int32)
    else
      some (1 : Int32)
def zX_ValueBench_value (p1 p2 : Int32) (s : zx_S) : Option (Int32 × zx_S) :=
  zx_b1 (zX_ValueBench_refresh s) fun s1 =>
  zx_b1 (zX_Values_has p1 s1) fun r2 =>
  if r2 = (0 : Int32) then
    some ((-1 : Int32), s1)
  else
    if p2 = (0 : Int32) then
      zx_ck p1 261 <|
      some ((s1 19 (p1).toNatClampNeg), s1)
    else
      if p2 = (1 : Int32) then
        zx_ck p1 261 <|
        some ((s1 20 (p1).toNatClampNeg), s1)
      else
        if p2 = (2 : Int32) then
          zx_ck p1 261 <|
          some ((s1 21 (p1).toNatClampNeg), s1)
        else
          if p2 = (3 : Int32) then
            zx_ck p1 261 <|
            some ((s1 34 (p1).toNatClampNeg), s1)
          else
            if p2 = (4 : Int32) then
              zx_ck p1 261 <|
              if (s1 37 (p1).toNatClampNeg) = (0 : Int32) then
                some ((0 : Int32), s1)
              else
                some ((1 : Int32), s1)
            else
              if p2 = (5 : Int32) then
                zx_b1 (zX_Values_operandsOf p1 s1) fun r3 =>
                some (r3, s1)
              else
                if p2 = (6 : Int32) then
                  zx_ck p1 261 <|
                  some ((s1 22 (p1).toNatClampNeg), s1)
                else
                  some ((-1 : Int32), s1)
def zX_Values_hasOperand (p1 p2 : Int32) (s : zx_S) : Option Int32 :=
  zx_b1 (zX_Values_has p1 s) fun r1 =>
  if r1 = (0 : Int32) then
    some (0 : Int32)
  else
    if p2 < (0 : Int32) then
      some (0 : Int32)
    else
      zx_b1 (zX_Values_operandsOf p1 s) fun r2 =>
      if r2 ≤ p2 then
        some (0 : Int32)
      else
        some (1 : Int32)
def zX_ValueBench_operand (p1 p2 : Int32) (s : zx_S) : Option (Int32 × zx_S) :=
  zx_b1 (zX_ValueBench_refresh s) fun s1 =>
  zx_b1 (zX_Values_hasOperand p1 p2 s1) fun r2 =>
  if r2 = (0 : Int32) then
    some ((-1 : Int32), s1)
  else
    zx_ck p1 262 <|
    zx_ck ((s1 23 (p1).toNatClampNeg) + p2) 530 <|
    some ((s1 25 (((s1 23 (p1).toNatClampNeg) + p2)).toNatClampNeg), s1)
def zX_ValueBench_led (p1 p2 : Int32) (s : zx_S) : Option (Int32 × zx_S) :=
  zx_b1 (zX_ValueBench_refresh s) fun s1 =>
  zx_b1 (zX_Values_hasOperand p1 p2 s1) fun r2 =>
  if r2 = (0 : Int32) then
    some ((-1 : Int32), s1)
  else
    zx_ck p1 261 <|
    if (s1 37 (p1).toNatClampNeg) = (0 : Int32) then
      zx_ck p1 262 <|
      zx_ck ((s1 23 (p1).toNatClampNeg) + p2) 530 <|
      some ((s1 39 (((s1 23 (p1).toNatClampNeg) + p2)).toNatClampNeg), s1)
    else
      some ((-1 : Int32), s1)
def zX_ValueBench_classOf (p1 : Int32) (s : zx_S) : Option (Int32 × zx_S) :=
  zx_b1 (zX_ValueBench_refresh s) fun s1 =>
  zx_b1 (zX_Values_has p1 s1) fun r2 =>
  if r2 = (0 : Int32) then
    some ((-1 : Int32), s1)
  else
    zx_ck p1 261 <|
    some ((s1 34 (p1).toNatClampNeg), s1)
def zX_ValueBench_read (p1 p2 : Int32) (s : zx_S) : Option (Int32 × zx_S) :=
  zx_b1 (zX_ValueBench_refresh s) fun s1 =>
  zx_b1 (zX_Graph_reaches p1 s1) fun r2 =>
  if r2 = (0 : Int32) then
    some ((-1 : Int32), s1)
  else
    if p2 = (0 : Int32) then
      zx_ck p1 16 <|
      some ((s1 27 (p1).toNatClampNeg), s1)
    else
      zx_ck p1 16 <|
      some ((s1 41 (p1).toNatClampNeg), s1)
def zX_Program_nthEmit_L10 (v1 v2 : Int32) (s : zx_S) (k40 : Int32 → Option Int32) : Nat → Int32 → Int32 → Option Int32
  | 0, _, _ => none
  | n + 1, v3, v4 =>
    zx_ck (v1 + (1 : Int32)) 17 <|
    if (s 2 ((v1 + (1 : Int32))).toNatClampNeg) ≤ v4 then
      some (-1 : Int32)
    else
      zx_ck v4 100 <|
      if (s 3 (v4).toNatClampNeg) = (14 : Int32) then
        if v3 = v2 then
          k40 v4
        else
          zx_lt (v3 + (1 : Int32)) fun v3_2 =>
          zx_lt (v4 + (1 : Int32)) fun v4_3 =>
          (zX_Program_nthEmit_L10 v1 v2 s k40 n) v3_2 v4_3
      else
        zx_lt (v4 + (1 : Int32)) fun v4_4 =>
        (zX_Program_nthEmit_L10 v1 v2 s k40 n) v3 v4_4
def zX_Program_nthEmit (p1 p2 : Int32) (s : zx_S) : Option Int32 :=
  zx_ck p1 17 <|
  zx_lt (s 2 (p1).toNatClampNeg) fun v4_1 =>
  zX_Program_nthEmit_L10 p1 p2 s
    (fun v4_5 =>
      some v4_5)
    10000 (0 : Int32) v4_1
def zX_ValueBench_emits (p1 p2 p3 : Int32) (s : zx_S) : Option (Int32 × zx_S) :=
  zx_b1 (zX_ValueBench_refresh s) fun s1 =>
  zx_b1 (zX_Graph_reaches p1 s1) fun r2 =>
  if r2 = (0 : Int32) then
    some ((-1 : Int32), s1)
  else
    zx_b1 (zX_Program_nthEmit p1 p2 s1) fun r3 =>
    if r3 = (-1 : Int32) then
      some ((-1 : Int32), s1)
    else
      if p3 = (0 : Int32) then
        zx_ck r3 100 <|
        some ((s1 26 (r3).toNatClampNeg), s1)
      else
        zx_ck r3 100 <|
        some ((s1 40 (r3).toNatClampNeg), s1)
def zX_Machine_takeInputs (p1 p2 p3 p4 : Int32) (s : zx_S) : Option zx_S :=
  zx_ck (0 : Int32) 4 <|
  zx_ls (zx_su s 51 ((0 : Int32)).toNatClampNeg p1) fun s1 =>
  zx_ck (1 : Int32) 4 <|
  zx_ls (zx_su s1 51 ((1 : Int32)).toNatClampNeg p2) fun s2 =>
  zx_ck (2 : Int32) 4 <|
  zx_ls (zx_su s2 51 ((2 : Int32)).toNatClampNeg p3) fun s3 =>
  zx_ck (3 : Int32) 4 <|
  zx_ls (zx_su s3 51 ((3 : Int32)).toNatClampNeg p4) fun s4 =>
  some s4
def zX_Arrays_fill_6_L5 (v1 v3 : Int32) (k20 : zx_S → Option zx_S) : Nat → Int32 → zx_S → Option zx_S
  | 0, _, _ => none
  | n + 1, v2, s =>
    if v3 ≤ v2 then
      k20 s
    else
      zx_ck v2 10 <|
      zx_ls (zx_su s 43 (v2).toNatClampNeg v1) fun s1 =>
      zx_lt (v2 + (1 : Int32)) fun v2_2 =>
      (zX_Arrays_fill_6_L5 v1 v3 k20 n) v2_2 s1
def zX_Arrays_fill_6 (p1 : Int32) (s : zx_S) : Option zx_S :=
  zX_Arrays_fill_6_L5 p1 (10 : Int32)
    (fun s3 =>
      some s3)
    10000 (0 : Int32) s
def zX_ToldForm_begin (p1 p2 : Int32) (s : zx_S) : Option zx_S :=
  if p1 = (-1 : Int32) then
    zx_b1 (zX_Arrays_fill_6 (0 : Int32) s) fun s1 =>
    some s1
  else
    some s
def zX_ToldForm_keeps (p1 : Int32) (s : zx_S) : Option Int32 :=
  some (1 : Int32)
def zX_Machine_pay (s : zx_S) : Option (Int32 × zx_S) :=
  if (s 50 5) < (s 50 3) then
    zx_lt ((s 50 5) + (1 : Int32)) fun x1 =>
    zx_ls (zx_su s 50 5 x1) fun s2 =>
    some ((1 : Int32), s2)
  else
    some ((0 : Int32), s)
def zX_ToldForm_target (p1 : Int32) (s : zx_S) : Option Int32 :=
  zx_ck p1 100 <|
  some (s 4 (p1).toNatClampNeg)
def zX_ToldForm_left (p1 : Int32) (s : zx_S) : Option Int32 :=
  zx_ck p1 100 <|
  some (s 5 (p1).toNatClampNeg)
def zX_ToldForm_right (p1 : Int32) (s : zx_S) : Option Int32 :=
  zx_ck p1 100 <|
  some (s 6 (p1).toNatClampNeg)
def zX_Machine_divide (p0 p1 : Int32) (s : zx_S) : Option Int32 :=
  if p1 = (0 : Int32) then
    some (0 : Int32)
  else
    if p1 = (-1 : Int32) then
      some (-p0)
    else
      zx_ne p1 <|
      some (p0 / p1)
def zX_Machine_compute (p0 p1 p2 : Int32) (s : zx_S) : Option Int32 :=
  if p0 = (3 : Int32) then
    some (p1 + p2)
  else
    if p0 = (4 : Int32) then
      some (p1 - p2)
    else
      if p0 = (5 : Int32) then
        some (p1 * p2)
      else
        if p0 = (6 : Int32) then
          some (p1 &&& p2)
        else
          if p0 = (7 : Int32) then
            some (p1 ||| p2)
          else
            if p0 = (8 : Int32) then
              some (p1 ^^^ p2)
            else
              if p0 = (9 : Int32) then
                if p1 = p2 then
                  some (1 : Int32)
                else
                  some (0 : Int32)
              else
                if p0 = (10 : Int32) then
                  if p2 ≤ p1 then
                    some (0 : Int32)
                  else
                    some (1 : Int32)
                else
                  if p0 = (11 : Int32) then
                    some (p1 <<< ((p2 &&& (31 : Int32)) &&& 31))
                  else
                    if p0 = (12 : Int32) then
                      some (p1 >>> ((p2 &&& (31 : Int32)) &&& 31))
                    else
                      if p0 = (13 : Int32) then
                        zx_b1 (zX_Machine_divide p1 p2 s) fun r1 =>
                        some r1
                      else
                        some (0 : Int32)
def zX_Machine_tell (p1 : Int32) (s : zx_S) : Option zx_S :=
  if (60 : Int32) ≤ (s 50 6) then
    zx_lt ((s 50 6) + (1 : Int32)) fun x4 =>
    zx_ls (zx_su s 50 6 x4) fun s5 =>
    some s5
  else
    zx_ck (s 50 6) 60 <|
    zx_ls (zx_su s 52 ((s 50 6)).toNatClampNeg p1) fun s1 =>
    zx_lt ((s1 50 6) + (1 : Int32)) fun x2 =>
    zx_ls (zx_su s1 50 6 x2) fun s3 =>
    some s3
def zX_Machine_follow (p2 : Int32) (s : zx_S) : Option zx_S :=
  zx_ck p2 100 <|
  zx_lt (s 3 (p2).toNatClampNeg) fun v4_1 =>
  if v4_1 = (0 : Int32) then
    zx_b1 (zX_ToldForm_target p2 s) fun r16 =>
    zx_ck p2 100 <|
    zx_lt (s 5 (p2).toNatClampNeg) fun x17 =>
    zx_ck r16 10 <|
    zx_ls (zx_su s 43 (r16).toNatClampNeg x17) fun s18 =>
    some s18
  else
    if v4_1 = (1 : Int32) then
      zx_b1 (zX_ToldForm_target p2 s) fun r13 =>
      zx_ck p2 100 <|
      zx_ck (s 5 (p2).toNatClampNeg) 4 <|
      zx_lt (s 51 ((s 5 (p2).toNatClampNeg)).toNatClampNeg) fun x14 =>
      zx_ck r13 10 <|
      zx_ls (zx_su s 43 (r13).toNatClampNeg x14) fun s15 =>
      some s15
    else
      if v4_1 = (2 : Int32) then
        zx_b1 (zX_ToldForm_target p2 s) fun r9 =>
        zx_b1 (zX_ToldForm_left p2 s) fun r10 =>
        zx_ck r10 10 <|
        zx_lt (s 43 (r10).toNatClampNeg) fun x11 =>
        zx_ck r9 10 <|
        zx_ls (zx_su s 43 (r9).toNatClampNeg x11) fun s12 =>
        some s12
      else
        if v4_1 = (14 : Int32) then
          zx_b1 (zX_ToldForm_left p2 s) fun r7 =>
          zx_ck r7 10 <|
          zx_b1 (zX_Machine_tell (s 43 (r7).toNatClampNeg) s) fun s8 =>
          some s8
        else
          zx_b1 (zX_ToldForm_target p2 s) fun r2 =>
          zx_b1 (zX_ToldForm_left p2 s) fun r3 =>
          zx_ck r3 10 <|
          zx_b1 (zX_ToldForm_right p2 s) fun r4 =>
          zx_ck r4 10 <|
          zx_b1 (zX_Machine_compute v4_1 (s 43 (r3).toNatClampNeg) (s 43 (r4).toNatClampNeg) s) fun r5 =>
          zx_ck r2 10 <|
          zx_ls (zx_su s 43 (r2).toNatClampNeg r5) fun s6 =>
          some s6
def zX_Machine_followBlock_L13 (k46 : zx_S → Option (Int32 × zx_S)) : Nat → Int32 → zx_S → Option (Int32 × zx_S)
  | 0, _, _ => none
  | n + 1, v2, s =>
    zx_ck ((s 50 7) + (1 : Int32)) 17 <|
    if (s 2 (((s 50 7) + (1 : Int32))).toNatClampNeg) ≤ v2 then
      some ((1 : Int32), s)
    else
      zx_b1 (zX_ToldForm_keeps v2 s) fun r2 =>
      if r2 = (0 : Int32) then
        zx_lt (v2 + (1 : Int32)) fun v2_7 =>
        (zX_Machine_followBlock_L13 k46 n) v2_7 s
      else
        zx_b2 (zX_Machine_pay s) fun r3 s4 =>
        if r3 = (0 : Int32) then
          k46 s4
        else
          zx_b1 (zX_Machine_follow v2 s4) fun s5 =>
          zx_lt (v2 + (1 : Int32)) fun v2_6 =>
          (zX_Machine_followBlock_L13 k46 n) v2_6 s5
def zX_Machine_followBlock (s : zx_S) : Option (Int32 × zx_S) :=
  zx_ck (s 50 7) 17 <|
  zx_lt (s 2 ((s 50 7)).toNatClampNeg) fun v2_1 =>
  zX_Machine_followBlock_L13
    (fun s8 =>
      some ((0 : Int32), s8))
    10000 v2_1 s
def zX_Program_next (p1 p2 : Int32) (s : zx_S) : Option Int32 :=
  if p2 = (0 : Int32) then
    zx_ck p1 16 <|
    some (s 10 (p1).toNatClampNeg)
  else
    zx_ck p1 16 <|
    some (s 9 (p1).toNatClampNeg)
def zX_ToldForm_endCell (p1 : Int32) (s : zx_S) : Option Int32 :=
  zx_b1 (zX_Program_endVariable p1 s) fun r1 =>
  some r1
def zX_Machine_perform_J94 (k24 : Int32 → Int32 → zx_S → Option (Int32 × zx_S)) (k101 : Int32 → zx_S → Option (Int32 × zx_S)) (v3 v4 t0 : Int32) (s : zx_S) : Option (Int32 × zx_S) :=
  if v4 = (0 : Int32) then
    k101 t0 s
  else
    zx_lt (s 50 7) fun v2_11 =>
    if t0 = (0 : Int32) then
      zx_b1 (zX_Program_next (s 50 7) (0 : Int32) s) fun r15 =>
      zx_ls (zx_su s 50 7 r15) fun s16 =>
      zx_lt (v3 + (1 : Int32)) fun v3_17 =>
      k24 v2_11 v3_17 s16
    else
      zx_b1 (zX_Program_next (s 50 7) (1 : Int32) s) fun r12 =>
      zx_ls (zx_su s 50 7 r12) fun s13 =>
      zx_lt (v3 + (1 : Int32)) fun v3_14 =>
      k24 v2_11 v3_14 s13
def zX_Machine_perform_L24 (k101 : Int32 → zx_S → Option (Int32 × zx_S)) : Nat → Int32 → Int32 → zx_S → Option (Int32 × zx_S)
  | 0, _, _, _ => none
  | n + 1, v2, v3, s =>
    if (s 50 3) < v3 then
      some ((1 : Int32), s)
    else
      zx_b1 (zX_ToldForm_begin v2 (s 50 7) s) fun s5 =>
      zx_b2 (zX_Machine_followBlock s5) fun r6 s7 =>
      if r6 = (0 : Int32) then
        some ((1 : Int32), s7)
      else
        zx_b2 (zX_Machine_pay s7) fun r8 s9 =>
        if r8 = (0 : Int32) then
          some ((1 : Int32), s9)
        else
          zx_b1 (zX_Program_howCounts (s9 50 7) s9) fun r10 =>
          if r10 = (1 : Int32) then
            (zX_Machine_perform_J94 (zX_Machine_perform_L24 k101 n) k101) v3 r10 (0 : Int32) s9
          else
            zx_b1 (zX_ToldForm_endCell (s9 50 7) s9) fun r18 =>
            zx_ck r18 10 <|
            (zX_Machine_perform_J94 (zX_Machine_perform_L24 k101 n) k101) v3 r10 (s9 43 (r18).toNatClampNeg) s9
def zX_Machine_perform (s : zx_S) : Option (Int32 × zx_S) :=
  zx_ls (zx_su s 50 4 (0 : Int32)) fun s1 =>
  zx_ls (zx_su s1 50 5 (0 : Int32)) fun s2 =>
  zx_ls (zx_su s2 50 6 (0 : Int32)) fun s3 =>
  zx_ls (zx_su s3 50 7 (0 : Int32)) fun s4 =>
  zX_Machine_perform_L24
    (fun v5_19 s20 =>
      zx_ls (zx_su s20 50 4 v5_19) fun s21 =>
      some ((0 : Int32), s21))
    10000 (-1 : Int32) (0 : Int32) s4
def zX_ValueForm_goes (p1 : Int32) (s : zx_S) : Option Int32 :=
  some (0 : Int32)
def zX_Graph_placeIn (p0 p1 : Int32) (s : zx_S) : Option Int32 :=
  zx_b1 (zX_Integer_bitCount (p0 &&& (((1 : Int32) <<< (p1 &&& 31)) - (1 : Int32))) s) fun r1 =>
  some r1
def zX_ValueForm_begin_L56 (v3 v4 v6 : Int32) (k116 : zx_S → Option zx_S) : Nat → Int32 → zx_S → Option zx_S
  | 0, _, _ => none
  | n + 1, v7, s =>
    if v3 ≤ v7 then
      k116 s
    else
      zx_b1 (zX_ValueForm_goes (v4 + v7) s) fun r4 =>
      if r4 = (0 : Int32) then
        zx_ck (v4 + v7) 262 <|
        zx_ck ((s 23 ((v4 + v7)).toNatClampNeg) + v6) 530 <|
        zx_ck (s 25 (((s 23 ((v4 + v7)).toNatClampNeg) + v6)).toNatClampNeg) 261 <|
        zx_lt (s 45 ((s 25 (((s 23 ((v4 + v7)).toNatClampNeg) + v6)).toNatClampNeg)).toNatClampNeg) fun x5 =>
        zx_ck v7 10 <|
        zx_ls (zx_su s 46 (v7).toNatClampNeg x5) fun s6 =>
        zx_lt (v7 + (1 : Int32)) fun v7_7 =>
        (zX_ValueForm_begin_L56 v3 v4 v6 k116 n) v7_7 s6
      else
        zx_lt (v7 + (1 : Int32)) fun v7_8 =>
        (zX_ValueForm_begin_L56 v3 v4 v6 k116 n) v7_8 s
def zX_ValueForm_begin_L119 (v3 v4 : Int32) (k160 : zx_S → Option zx_S) : Nat → Int32 → zx_S → Option zx_S
  | 0, _, _ => none
  | n + 1, v7, s =>
    if v3 ≤ v7 then
      k160 s
    else
      zx_b1 (zX_ValueForm_goes (v4 + v7) s) fun r10 =>
      if r10 = (0 : Int32) then
        zx_ck v7 10 <|
        zx_lt (s 46 (v7).toNatClampNeg) fun x11 =>
        zx_ck (v4 + v7) 261 <|
        zx_ls (zx_su s 45 ((v4 + v7)).toNatClampNeg x11) fun s12 =>
        zx_lt (v7 + (1 : Int32)) fun v7_13 =>
        (zX_ValueForm_begin_L119 v3 v4 k160 n) v7_13 s12
      else
        zx_lt (v7 + (1 : Int32)) fun v7_14 =>
        (zX_ValueForm_begin_L119 v3 v4 k160 n) v7_14 s
def zX_ValueForm_begin_J51 (v3 v4 t0 : Int32) (s : zx_S) : Option zx_S :=
  zX_ValueForm_begin_L56 v3 v4 t0
    (fun s9 =>
      zX_ValueForm_begin_L119 v3 v4
        (fun s15 =>
          some s15)
        10000 (0 : Int32) s9)
    10000 (0 : Int32) s
def zX_ValueForm_begin (p1 p2 : Int32) (s : zx_S) : Option zx_S :=
  zx_ck p2 16 <|
  zx_lt (s 30 (p2).toNatClampNeg) fun v3_1 =>
  zx_ck p2 16 <|
  zx_lt (s 29 (p2).toNatClampNeg) fun v4_2 =>
  zx_ck p2 16 <|
  zx_lt (s 13 (p2).toNatClampNeg) fun v5_3 =>
  if p1 = (-1 : Int32) then
    zx_b1 (zX_Integer_bitCount v5_3 s) fun r16 =>
    (zX_ValueForm_begin_J51) v3_1 v4_2 r16 s
  else
    zx_b1 (zX_Graph_placeIn v5_3 p1 s) fun r17 =>
    (zX_ValueForm_begin_J51) v3_1 v4_2 r17 s
def zX_ValueForm_keeps (p1 : Int32) (s : zx_S) : Option Int32 :=
  zx_ck p1 100 <|
  zx_lt (s 28 (p1).toNatClampNeg) fun v2_1 =>
  if v2_1 = (-1 : Int32) then
    zx_ck p1 100 <|
    if (s 3 (p1).toNatClampNeg) = (14 : Int32) then
      some (1 : Int32)
    else
      some (0 : Int32)
  else
    zx_b1 (zX_ValueForm_goes v2_1 s) fun r2 =>
    if r2 = (0 : Int32) then
      some (1 : Int32)
    else
      some (0 : Int32)
def zX_ValueForm_target (p1 : Int32) (s : zx_S) : Option Int32 :=
  zx_ck p1 100 <|
  some (s 28 (p1).toNatClampNeg)
def zX_ValueForm_left (p1 : Int32) (s : zx_S) : Option Int32 :=
  zx_ck p1 100 <|
  if (s 3 (p1).toNatClampNeg) = (14 : Int32) then
    zx_ck p1 100 <|
    some (s 26 (p1).toNatClampNeg)
  else
    zx_ck p1 100 <|
    zx_ck (s 28 (p1).toNatClampNeg) 262 <|
    zx_ck (s 23 ((s 28 (p1).toNatClampNeg)).toNatClampNeg) 530 <|
    some (s 25 ((s 23 ((s 28 (p1).toNatClampNeg)).toNatClampNeg)).toNatClampNeg)
def zX_ValueForm_right (p1 : Int32) (s : zx_S) : Option Int32 :=
  zx_ck p1 100 <|
  zx_ck (s 28 (p1).toNatClampNeg) 262 <|
  zx_ck ((s 23 ((s 28 (p1).toNatClampNeg)).toNatClampNeg) + (1 : Int32)) 530 <|
  some (s 25 (((s 23 ((s 28 (p1).toNatClampNeg)).toNatClampNeg) + (1 : Int32))).toNatClampNeg)
def zX_Machine_follow_2 (p2 : Int32) (s : zx_S) : Option zx_S :=
  zx_ck p2 100 <|
  zx_lt (s 3 (p2).toNatClampNeg) fun v4_1 =>
  if v4_1 = (0 : Int32) then
    zx_b1 (zX_ValueForm_target p2 s) fun r16 =>
    zx_ck p2 100 <|
    zx_lt (s 5 (p2).toNatClampNeg) fun x17 =>
    zx_ck r16 261 <|
    zx_ls (zx_su s 45 (r16).toNatClampNeg x17) fun s18 =>
    some s18
  else
    if v4_1 = (1 : Int32) then
      zx_b1 (zX_ValueForm_target p2 s) fun r13 =>
      zx_ck p2 100 <|
      zx_ck (s 5 (p2).toNatClampNeg) 4 <|
      zx_lt (s 51 ((s 5 (p2).toNatClampNeg)).toNatClampNeg) fun x14 =>
      zx_ck r13 261 <|
      zx_ls (zx_su s 45 (r13).toNatClampNeg x14) fun s15 =>
      some s15
    else
      if v4_1 = (2 : Int32) then
        zx_b1 (zX_ValueForm_target p2 s) fun r9 =>
        zx_b1 (zX_ValueForm_left p2 s) fun r10 =>
        zx_ck r10 261 <|
        zx_lt (s 45 (r10).toNatClampNeg) fun x11 =>
        zx_ck r9 261 <|
        zx_ls (zx_su s 45 (r9).toNatClampNeg x11) fun s12 =>
        some s12
      else
        if v4_1 = (14 : Int32) then
          zx_b1 (zX_ValueForm_left p2 s) fun r7 =>
          zx_ck r7 261 <|
          zx_b1 (zX_Machine_tell (s 45 (r7).toNatClampNeg) s) fun s8 =>
          some s8
        else
          zx_b1 (zX_ValueForm_target p2 s) fun r2 =>
          zx_b1 (zX_ValueForm_left p2 s) fun r3 =>
          zx_ck r3 261 <|
          zx_b1 (zX_ValueForm_right p2 s) fun r4 =>
          zx_ck r4 261 <|
          zx_b1 (zX_Machine_compute v4_1 (s 45 (r3).toNatClampNeg) (s 45 (r4).toNatClampNeg) s) fun r5 =>
          zx_ck r2 261 <|
          zx_ls (zx_su s 45 (r2).toNatClampNeg r5) fun s6 =>
          some s6
def zX_Machine_followBlock_2_L13 (k46 : zx_S → Option (Int32 × zx_S)) : Nat → Int32 → zx_S → Option (Int32 × zx_S)
  | 0, _, _ => none
  | n + 1, v2, s =>
    zx_ck ((s 50 7) + (1 : Int32)) 17 <|
    if (s 2 (((s 50 7) + (1 : Int32))).toNatClampNeg) ≤ v2 then
      some ((1 : Int32), s)
    else
      zx_b1 (zX_ValueForm_keeps v2 s) fun r2 =>
      if r2 = (0 : Int32) then
        zx_lt (v2 + (1 : Int32)) fun v2_7 =>
        (zX_Machine_followBlock_2_L13 k46 n) v2_7 s
      else
        zx_b2 (zX_Machine_pay s) fun r3 s4 =>
        if r3 = (0 : Int32) then
          k46 s4
        else
          zx_b1 (zX_Machine_follow_2 v2 s4) fun s5 =>
          zx_lt (v2 + (1 : Int32)) fun v2_6 =>
          (zX_Machine_followBlock_2_L13 k46 n) v2_6 s5
def zX_Machine_followBlock_2 (s : zx_S) : Option (Int32 × zx_S) :=
  zx_ck (s 50 7) 17 <|
  zx_lt (s 2 ((s 50 7)).toNatClampNeg) fun v2_1 =>
  zX_Machine_followBlock_2_L13
    (fun s8 =>
      some ((0 : Int32), s8))
    10000 v2_1 s
def zX_ValueForm_endCell (p1 : Int32) (s : zx_S) : Option Int32 :=
  zx_ck p1 16 <|
  some (s 27 (p1).toNatClampNeg)
def zX_Machine_perform_2_J94 (k24 : Int32 → Int32 → zx_S → Option (Int32 × zx_S)) (k101 : Int32 → zx_S → Option (Int32 × zx_S)) (v3 v4 t0 : Int32) (s : zx_S) : Option (Int32 × zx_S) :=
  if v4 = (0 : Int32) then
    k101 t0 s
  else
    zx_lt (s 50 7) fun v2_11 =>
    if t0 = (0 : Int32) then
      zx_b1 (zX_Program_next (s 50 7) (0 : Int32) s) fun r15 =>
      zx_ls (zx_su s 50 7 r15) fun s16 =>
      zx_lt (v3 + (1 : Int32)) fun v3_17 =>
      k24 v2_11 v3_17 s16
    else
      zx_b1 (zX_Program_next (s 50 7) (1 : Int32) s) fun r12 =>
      zx_ls (zx_su s 50 7 r12) fun s13 =>
      zx_lt (v3 + (1 : Int32)) fun v3_14 =>
      k24 v2_11 v3_14 s13
def zX_Machine_perform_2_L24 (k101 : Int32 → zx_S → Option (Int32 × zx_S)) : Nat → Int32 → Int32 → zx_S → Option (Int32 × zx_S)
  | 0, _, _, _ => none
  | n + 1, v2, v3, s =>
    if (s 50 3) < v3 then
      some ((1 : Int32), s)
    else
      zx_b1 (zX_ValueForm_begin v2 (s 50 7) s) fun s5 =>
      zx_b2 (zX_Machine_followBlock_2 s5) fun r6 s7 =>
      if r6 = (0 : Int32) then
        some ((1 : Int32), s7)
      else
        zx_b2 (zX_Machine_pay s7) fun r8 s9 =>
        if r8 = (0 : Int32) then
          some ((1 : Int32), s9)
        else
          zx_b1 (zX_Program_howCounts (s9 50 7) s9) fun r10 =>
          if r10 = (1 : Int32) then
            (zX_Machine_perform_2_J94 (zX_Machine_perform_2_L24 k101 n) k101) v3 r10 (0 : Int32) s9
          else
            zx_b1 (zX_ValueForm_endCell (s9 50 7) s9) fun r18 =>
            zx_ck r18 261 <|
            (zX_Machine_perform_2_J94 (zX_Machine_perform_2_L24 k101 n) k101) v3 r10 (s9 45 (r18).toNatClampNeg) s9
def zX_Machine_perform_2 (s : zx_S) : Option (Int32 × zx_S) :=
  zx_ls (zx_su s 50 4 (0 : Int32)) fun s1 =>
  zx_ls (zx_su s1 50 5 (0 : Int32)) fun s2 =>
  zx_ls (zx_su s2 50 6 (0 : Int32)) fun s3 =>
  zx_ls (zx_su s3 50 7 (0 : Int32)) fun s4 =>
  zX_Machine_perform_2_L24
    (fun v5_19 s20 =>
      zx_ls (zx_su s20 50 4 v5_19) fun s21 =>
      some ((0 : Int32), s21))
    10000 (-1 : Int32) (0 : Int32) s4
def zX_ValueForm_goes_2 (p1 : Int32) (s : zx_S) : Option Int32 :=
  zx_ck p1 261 <|
  if (s 37 (p1).toNatClampNeg) = (0 : Int32) then
    some (0 : Int32)
  else
    some (1 : Int32)
def zX_ValueForm_begin_2_L56 (v3 v4 v6 : Int32) (k116 : zx_S → Option zx_S) : Nat → Int32 → zx_S → Option zx_S
  | 0, _, _ => none
  | n + 1, v7, s =>
    if v3 ≤ v7 then
      k116 s
    else
      zx_b1 (zX_ValueForm_goes_2 (v4 + v7) s) fun r4 =>
      if r4 = (0 : Int32) then
        zx_ck (v4 + v7) 262 <|
        zx_ck ((s 23 ((v4 + v7)).toNatClampNeg) + v6) 530 <|
        zx_ck (s 39 (((s 23 ((v4 + v7)).toNatClampNeg) + v6)).toNatClampNeg) 261 <|
        zx_lt (s 48 ((s 39 (((s 23 ((v4 + v7)).toNatClampNeg) + v6)).toNatClampNeg)).toNatClampNeg) fun x5 =>
        zx_ck v7 10 <|
        zx_ls (zx_su s 49 (v7).toNatClampNeg x5) fun s6 =>
        zx_lt (v7 + (1 : Int32)) fun v7_7 =>
        (zX_ValueForm_begin_2_L56 v3 v4 v6 k116 n) v7_7 s6
      else
        zx_lt (v7 + (1 : Int32)) fun v7_8 =>
        (zX_ValueForm_begin_2_L56 v3 v4 v6 k116 n) v7_8 s
def zX_ValueForm_begin_2_L119 (v3 v4 : Int32) (k160 : zx_S → Option zx_S) : Nat → Int32 → zx_S → Option zx_S
  | 0, _, _ => none
  | n + 1, v7, s =>
    if v3 ≤ v7 then
      k160 s
    else
      zx_b1 (zX_ValueForm_goes_2 (v4 + v7) s) fun r10 =>
      if r10 = (0 : Int32) then
        zx_ck v7 10 <|
        zx_lt (s 49 (v7).toNatClampNeg) fun x11 =>
        zx_ck (v4 + v7) 261 <|
        zx_ls (zx_su s 48 ((v4 + v7)).toNatClampNeg x11) fun s12 =>
        zx_lt (v7 + (1 : Int32)) fun v7_13 =>
        (zX_ValueForm_begin_2_L119 v3 v4 k160 n) v7_13 s12
      else
        zx_lt (v7 + (1 : Int32)) fun v7_14 =>
        (zX_ValueForm_begin_2_L119 v3 v4 k160 n) v7_14 s
def zX_ValueForm_begin_2_J51 (v3 v4 t0 : Int32) (s : zx_S) : Option zx_S :=
  zX_ValueForm_begin_2_L56 v3 v4 t0
    (fun s9 =>
      zX_ValueForm_begin_2_L119 v3 v4
        (fun s15 =>
          some s15)
        10000 (0 : Int32) s9)
    10000 (0 : Int32) s
def zX_ValueForm_begin_2 (p1 p2 : Int32) (s : zx_S) : Option zx_S :=
  zx_ck p2 16 <|
  zx_lt (s 30 (p2).toNatClampNeg) fun v3_1 =>
  zx_ck p2 16 <|
  zx_lt (s 29 (p2).toNatClampNeg) fun v4_2 =>
  zx_ck p2 16 <|
  zx_lt (s 13 (p2).toNatClampNeg) fun v5_3 =>
  if p1 = (-1 : Int32) then
    zx_b1 (zX_Integer_bitCount v5_3 s) fun r16 =>
    (zX_ValueForm_begin_2_J51) v3_1 v4_2 r16 s
  else
    zx_b1 (zX_Graph_placeIn v5_3 p1 s) fun r17 =>
    (zX_ValueForm_begin_2_J51) v3_1 v4_2 r17 s
def zX_ValueForm_keeps_2 (p1 : Int32) (s : zx_S) : Option Int32 :=
  zx_ck p1 100 <|
  zx_lt (s 28 (p1).toNatClampNeg) fun v2_1 =>
  if v2_1 = (-1 : Int32) then
    zx_ck p1 100 <|
    if (s 3 (p1).toNatClampNeg) = (14 : Int32) then
      some (1 : Int32)
    else
      some (0 : Int32)
  else
    zx_b1 (zX_ValueForm_goes_2 v2_1 s) fun r2 =>
    if r2 = (0 : Int32) then
      some (1 : Int32)
    else
      some (0 : Int32)
def zX_ValueForm_target_2 (p1 : Int32) (s : zx_S) : Option Int32 :=
  zx_ck p1 100 <|
  some (s 28 (p1).toNatClampNeg)
def zX_ValueForm_left_2 (p1 : Int32) (s : zx_S) : Option Int32 :=
  zx_ck p1 100 <|
  if (s 3 (p1).toNatClampNeg) = (14 : Int32) then
    zx_ck p1 100 <|
    some (s 40 (p1).toNatClampNeg)
  else
    zx_ck p1 100 <|
    zx_ck (s 28 (p1).toNatClampNeg) 262 <|
    zx_ck (s 23 ((s 28 (p1).toNatClampNeg)).toNatClampNeg) 530 <|
    some (s 39 ((s 23 ((s 28 (p1).toNatClampNeg)).toNatClampNeg)).toNatClampNeg)
def zX_ValueForm_right_2 (p1 : Int32) (s : zx_S) : Option Int32 :=
  zx_ck p1 100 <|
  zx_ck (s 28 (p1).toNatClampNeg) 262 <|
  zx_ck ((s 23 ((s 28 (p1).toNatClampNeg)).toNatClampNeg) + (1 : Int32)) 530 <|
  some (s 39 (((s 23 ((s 28 (p1).toNatClampNeg)).toNatClampNeg) + (1 : Int32))).toNatClampNeg)
def zX_Machine_follow_3 (p2 : Int32) (s : zx_S) : Option zx_S :=
  zx_ck p2 100 <|
  zx_lt (s 3 (p2).toNatClampNeg) fun v4_1 =>
  if v4_1 = (0 : Int32) then
    zx_b1 (zX_ValueForm_target_2 p2 s) fun r16 =>
    zx_ck p2 100 <|
    zx_lt (s 5 (p2).toNatClampNeg) fun x17 =>
    zx_ck r16 261 <|
    zx_ls (zx_su s 48 (r16).toNatClampNeg x17) fun s18 =>
    some s18
  else
    if v4_1 = (1 : Int32) then
      zx_b1 (zX_ValueForm_target_2 p2 s) fun r13 =>
      zx_ck p2 100 <|
      zx_ck (s 5 (p2).toNatClampNeg) 4 <|
      zx_lt (s 51 ((s 5 (p2).toNatClampNeg)).toNatClampNeg) fun x14 =>
      zx_ck r13 261 <|
      zx_ls (zx_su s 48 (r13).toNatClampNeg x14) fun s15 =>
      some s15
    else
      if v4_1 = (2 : Int32) then
        zx_b1 (zX_ValueForm_target_2 p2 s) fun r9 =>
        zx_b1 (zX_ValueForm_left_2 p2 s) fun r10 =>
        zx_ck r10 261 <|
        zx_lt (s 48 (r10).toNatClampNeg) fun x11 =>
        zx_ck r9 261 <|
        zx_ls (zx_su s 48 (r9).toNatClampNeg x11) fun s12 =>
        some s12
      else
        if v4_1 = (14 : Int32) then
          zx_b1 (zX_ValueForm_left_2 p2 s) fun r7 =>
          zx_ck r7 261 <|
          zx_b1 (zX_Machine_tell (s 48 (r7).toNatClampNeg) s) fun s8 =>
          some s8
        else
          zx_b1 (zX_ValueForm_target_2 p2 s) fun r2 =>
          zx_b1 (zX_ValueForm_left_2 p2 s) fun r3 =>
          zx_ck r3 261 <|
          zx_b1 (zX_ValueForm_right_2 p2 s) fun r4 =>
          zx_ck r4 261 <|
          zx_b1 (zX_Machine_compute v4_1 (s 48 (r3).toNatClampNeg) (s 48 (r4).toNatClampNeg) s) fun r5 =>
          zx_ck r2 261 <|
          zx_ls (zx_su s 48 (r2).toNatClampNeg r5) fun s6 =>
          some s6
def zX_Machine_followBlock_3_L13 (k46 : zx_S → Option (Int32 × zx_S)) : Nat → Int32 → zx_S → Option (Int32 × zx_S)
  | 0, _, _ => none
  | n + 1, v2, s =>
    zx_ck ((s 50 7) + (1 : Int32)) 17 <|
    if (s 2 (((s 50 7) + (1 : Int32))).toNatClampNeg) ≤ v2 then
      some ((1 : Int32), s)
    else
      zx_b1 (zX_ValueForm_keeps_2 v2 s) fun r2 =>
      if r2 = (0 : Int32) then
        zx_lt (v2 + (1 : Int32)) fun v2_7 =>
        (zX_Machine_followBlock_3_L13 k46 n) v2_7 s
      else
        zx_b2 (zX_Machine_pay s) fun r3 s4 =>
        if r3 = (0 : Int32) then
          k46 s4
        else
          zx_b1 (zX_Machine_follow_3 v2 s4) fun s5 =>
          zx_lt (v2 + (1 : Int32)) fun v2_6 =>
          (zX_Machine_followBlock_3_L13 k46 n) v2_6 s5
def zX_Machine_followBlock_3 (s : zx_S) : Option (Int32 × zx_S) :=
  zx_ck (s 50 7) 17 <|
  zx_lt (s 2 ((s 50 7)).toNatClampNeg) fun v2_1 =>
  zX_Machine_followBlock_3_L13
    (fun s8 =>
      some ((0 : Int32), s8))
    10000 v2_1 s
def zX_ValueForm_endCell_2 (p1 : Int32) (s : zx_S) : Option Int32 :=
  zx_ck p1 16 <|
  some (s 41 (p1).toNatClampNeg)
def zX_Machine_perform_3_J94 (k24 : Int32 → Int32 → zx_S → Option (Int32 × zx_S)) (k101 : Int32 → zx_S → Option (Int32 × zx_S)) (v3 v4 t0 : Int32) (s : zx_S) : Option (Int32 × zx_S) :=
  if v4 = (0 : Int32) then
    k101 t0 s
  else
    zx_lt (s 50 7) fun v2_11 =>
    if t0 = (0 : Int32) then
      zx_b1 (zX_Program_next (s 50 7) (0 : Int32) s) fun r15 =>
      zx_ls (zx_su s 50 7 r15) fun s16 =>
      zx_lt (v3 + (1 : Int32)) fun v3_17 =>
      k24 v2_11 v3_17 s16
    else
      zx_b1 (zX_Program_next (s 50 7) (1 : Int32) s) fun r12 =>
      zx_ls (zx_su s 50 7 r12) fun s13 =>
      zx_lt (v3 + (1 : Int32)) fun v3_14 =>
      k24 v2_11 v3_14 s13
def zX_Machine_perform_3_L24 (k101 : Int32 → zx_S → Option (Int32 × zx_S)) : Nat → Int32 → Int32 → zx_S → Option (Int32 × zx_S)
  | 0, _, _, _ => none
  | n + 1, v2, v3, s =>
    if (s 50 3) < v3 then
      some ((1 : Int32), s)
    else
      zx_b1 (zX_ValueForm_begin_2 v2 (s 50 7) s) fun s5 =>
      zx_b2 (zX_Machine_followBlock_3 s5) fun r6 s7 =>
      if r6 = (0 : Int32) then
        some ((1 : Int32), s7)
      else
        zx_b2 (zX_Machine_pay s7) fun r8 s9 =>
        if r8 = (0 : Int32) then
          some ((1 : Int32), s9)
        else
          zx_b1 (zX_Program_howCounts (s9 50 7) s9) fun r10 =>
          if r10 = (1 : Int32) then
            (zX_Machine_perform_3_J94 (zX_Machine_perform_3_L24 k101 n) k101) v3 r10 (0 : Int32) s9
          else
            zx_b1 (zX_ValueForm_endCell_2 (s9 50 7) s9) fun r18 =>
            zx_ck r18 261 <|
            (zX_Machine_perform_3_J94 (zX_Machine_perform_3_L24 k101 n) k101) v3 r10 (s9 48 (r18).toNatClampNeg) s9
def zX_Machine_perform_3 (s : zx_S) : Option (Int32 × zx_S) :=
  zx_ls (zx_su s 50 4 (0 : Int32)) fun s1 =>
  zx_ls (zx_su s1 50 5 (0 : Int32)) fun s2 =>
  zx_ls (zx_su s2 50 6 (0 : Int32)) fun s3 =>
  zx_ls (zx_su s3 50 7 (0 : Int32)) fun s4 =>
  zX_Machine_perform_3_L24
    (fun v5_19 s20 =>
      zx_ls (zx_su s20 50 4 v5_19) fun s21 =>
      some ((0 : Int32), s21))
    10000 (-1 : Int32) (0 : Int32) s4
def zX_ValueBench_run (p1 p2 p3 p4 p5 : Int32) (s : zx_S) : Option (Int32 × zx_S) :=
  if (s 1 9) = (0 : Int32) then
    some ((-1 : Int32), s)
  else
    if p1 < (0 : Int32) then
      some ((-1 : Int32), s)
    else
      if p1 ≤ (2 : Int32) then
        zx_b1 (zX_ValueBench_refresh s) fun s1 =>
        zx_b1 (zX_Machine_takeInputs p2 p3 p4 p5 s1) fun s2 =>
        if p1 = (0 : Int32) then
          zx_b2 (zX_Machine_perform s2) fun r3 s4 =>
          some (r3, s4)
        else
          if p1 = (1 : Int32) then
            zx_b2 (zX_Machine_perform_2 s2) fun r5 s6 =>
            some (r5, s6)
          else
            zx_b2 (zX_Machine_perform_3 s2) fun r7 s8 =>
            some (r7, s8)
      else
        some ((-1 : Int32), s)
def zX_ValueBench_fuel (p1 : Int32) (s : zx_S) : Option (Int32 × zx_S) :=
  if p1 < (1 : Int32) then
    some ((-1 : Int32), s)
  else
    if p1 ≤ (5000 : Int32) then
      zx_lt (s 50 3) fun v2_1 =>
      zx_ls (zx_su s 50 3 p1) fun s2 =>
      some (v2_1, s2)
    else
      some ((-1 : Int32), s)
def zX_ValueBench_ran (p1 : Int32) (s : zx_S) : Option Int32 :=
  if p1 = (0 : Int32) then
    some (s 50 4)
  else
    if p1 = (1 : Int32) then
      some (s 50 5)
    else
      if p1 = (2 : Int32) then
        some (s 50 6)
      else
        if p1 = (3 : Int32) then
          some (s 50 7)
        else
          some (0 : Int32)
def zX_ValueBench_emitted (p1 : Int32) (s : zx_S) : Option Int32 :=
  if p1 < (0 : Int32) then
    some (0 : Int32)
  else
    if (60 : Int32) ≤ p1 then
      some (0 : Int32)
    else
      if (s 50 6) ≤ p1 then
        some (0 : Int32)
      else
        zx_ck p1 60 <|
        some (s 52 (p1).toNatClampNeg)
def zX_Values_allChoices_L4 (s : zx_S) (k25 : Int32 → Option Int32) : Nat → Int32 → Int32 → Option Int32
  | 0, _, _ => none
  | n + 1, v1, v2 =>
    if (16 : Int32) ≤ v2 then
      k25 v1
    else
      zx_ck v2 16 <|
      zx_lt (v1 + (s 30 (v2).toNatClampNeg)) fun v1_1 =>
      zx_lt (v2 + (1 : Int32)) fun v2_2 =>
      (zX_Values_allChoices_L4 s k25 n) v1_1 v2_2
def zX_Values_allChoices (s : zx_S) : Option Int32 :=
  zX_Values_allChoices_L4 s
    (fun v1_3 =>
      some v1_3)
    10000 (0 : Int32) (0 : Int32)
def zX_ValueBench_count (p1 : Int32) (s : zx_S) : Option (Int32 × zx_S) :=
  zx_b1 (zX_ValueBench_refresh s) fun s1 =>
  if p1 = (0 : Int32) then
    some ((s1 1 9), s1)
  else
    if p1 = (1 : Int32) then
      zx_b1 (zX_Program_instructions s1) fun r4 =>
      some (r4, s1)
    else
      if p1 = (2 : Int32) then
        zx_b1 (zX_Integer_bitCount (s1 11 6) s1) fun r3 =>
        some (r3, s1)
      else
        if p1 = (3 : Int32) then
          some ((s1 18 11), s1)
        else
          if p1 = (4 : Int32) then
            some ((s1 33 2), s1)
          else
            if p1 = (5 : Int32) then
              some ((s1 36 2), s1)
            else
              if p1 = (6 : Int32) then
                zx_b1 (zX_Values_allChoices s1) fun r2 =>
                some (r2, s1)
              else
                some ((-1 : Int32), s1)
end
section
set_option maxRecDepth 100000 in
set_option maxHeartbeats 4000000 in
theorem zX_readsOf_r24 {l : Launch} {D : va_G} {cz : ClassId × ClassId} {ad : Nat → Nat} (hS : zx_So zX_sd) (hi : zx_I zX_sd ad) {x1 : Int32} {s : zx_S} (hcc : x1 = (0 : Int32)) : zx_MA zX_sd l D cz ad yX10_readsOf cX10_readsOf 2 ((.object "ValueBench$Reads")) 0 0 [.ref (ad 0), .int x1] s 24 s := zx_metA hS hi (by decide +kernel) rfl (Nat.le_of_ble_eq_true rfl) (Or.inl ⟨_, rfl⟩) (fun Z e1 e2 e3 e4 C hr => by
  subst e1 e2 e3 e4
  refine zr_iload_n C dX10_readsOf_0 (q := 1) rfl 1 rfl rfl ?_
  have h : (if x1 = (0 : Int32) then (some () : Option Unit) else none) = some () := if_pos hcc
  refine zr_if_eq (tgt := 14) C dX10_readsOf_1 h (by decide) rfl (fun h => ?_) (fun h => ?_)
  rotate_left
  · cases h
  refine zr_aload_n C dX10_readsOf_14 (q := 15) rfl 0 rfl rfl ?_
  refine zr_get C dX10_readsOf_15 zX_gX10_26_0 rfl ?_
  refine zr_get C dX10_readsOf_18 zX_gX10_175_18 rfl ?_
  exact hr _ _ dX10_readsOf_21)
set_option maxRecDepth 100000 in
set_option maxHeartbeats 4000000 in
theorem zX_readsOf_r38 {l : Launch} {D : va_G} {cz : ClassId × ClassId} {ad : Nat → Nat} (hS : zx_So zX_sd) (hi : zx_I zX_sd ad) {x1 : Int32} {s : zx_S} (hcc : ¬ (x1 = (0 : Int32))) : zx_MA zX_sd l D cz ad yX10_readsOf cX10_readsOf 2 ((.object "ValueBench$Reads")) 0 0 [.ref (ad 0), .int x1] s 38 s := zx_metA hS hi (by decide +kernel) rfl (Nat.le_of_ble_eq_true rfl) (Or.inl ⟨_, rfl⟩) (fun Z e1 e2 e3 e4 C hr => by
  subst e1 e2 e3 e4
  refine zr_iload_n C dX10_readsOf_0 (q := 1) rfl 1 rfl rfl ?_
  have h : (if x1 = (0 : Int32) then (none : Option Unit) else some ()) = some () := if_neg hcc
  refine zr_if_eq (tgt := 14) C dX10_readsOf_1 h (by decide) rfl (fun h => ?_) (fun h => ?_)
  · cases h
  refine zr_aload_n C dX10_readsOf_4 (q := 5) rfl 0 rfl rfl ?_
  refine zr_get C dX10_readsOf_5 zX_gX10_40_0 rfl ?_
  refine zr_get C dX10_readsOf_8 zX_gX10_187_36 rfl ?_
  refine zr_goto (q := 21) C dX10_readsOf_11 (by decide) ?_
  exact hr _ _ dX10_readsOf_21)
end
section
set_option maxRecDepth 100000 in
set_option maxHeartbeats 4000000 in
theorem zX_ValueBench_block_w {Z : zx_Z} (C : zx_ok zX_sd Z cX10_block 1 RX10 0 0) {r : Int32 × zx_S} (s : zx_S) (hr : zx_rI zX_sd Z cX10_block 1 .int r.1 r.2) (h : zX_ValueBench_block s = some r) : zW zX_sd Z 1 0 [(0, .ref (zz_d Z 0))] [] s := by
  unfold zX_ValueBench_block at h
  refine zr_aload_n C dX10_block_0 (q := 1) rfl 0 rfl rfl ?_
  refine zr_get C dX10_block_1 (q := 4) zX_gX10_12_0 rfl ?_
  refine zr_get C dX10_block_4 (q := 7) zX_gX10_75_1 rfl ?_
  refine zr_bipush C dX10_block_7 (q := 9) (v := (16 : Int32)) (by decide) rfl ?_
  refine zr_icmp_lt (tgt := 14) (q := 12) C dX10_block_9 h (by decide) rfl (fun h => ?_) (fun h => ?_)
  · skip
    refine zr_aload_n C dX10_block_14 (q := 15) rfl 0 rfl rfl ?_
    refine zr_iconst C dX10_block_15 (q := 16) (v := (1 : Int32)) (by decide) rfl ?_
    refine zr_put C dX10_block_16 (q := 19) zX_pX10_71_0 (by decide) (by decide) rfl ?_
    refine zr_ls h (fun s1 h => ?_)
    refine zr_aload_n C dX10_block_19 (q := 20) rfl 0 rfl rfl ?_
    refine zr_get C dX10_block_20 (q := 23) zX_gX10_12_0 rfl ?_
    refine zr_dup C dX10_block_23 (q := 24) rfl rfl ?_
    refine zr_get C dX10_block_24 (q := 27) zX_gX10_75_1 rfl ?_
    refine zr_iconst C dX10_block_27 (q := 28) (v := (1 : Int32)) (by decide) rfl ?_
    refine zr_iadd C dX10_block_28 (q := 29) rfl ?_
    refine zr_top h (fun x2 h => ?_)
    refine zr_put C dX10_block_29 (q := 32) zX_pX10_75_1 rfl rfl rfl ?_
    refine zr_ls h (fun s3 h => ?_)
    refine zr_aload_n C dX10_block_32 (q := 33) rfl 0 rfl rfl ?_
    refine zr_get C dX10_block_33 (q := 36) zX_gX10_12_0 rfl ?_
    refine zr_get C dX10_block_36 (q := 39) zX_gX10_75_1 rfl ?_
    refine zr_iconst C dX10_block_39 (q := 40) (v := (1 : Int32)) (by decide) rfl ?_
    refine zr_isub C dX10_block_40 (q := 41) rfl ?_
    exact zr_retI dX10_block_41 h hr
  · skip
    refine zr_iconst C dX10_block_12 (q := 13) (v := (-1 : Int32)) (by decide) rfl ?_
    exact zr_retI dX10_block_13 h hr
theorem zX_ValueBench_block_met {l : Launch} {D : va_G} {cz : ClassId × ClassId} {ad : Nat → Nat} (hS : zx_So zX_sd) (hi : zx_I zX_sd ad) {s : zx_S} {v : Int32} {s1 : zx_S} (h : zX_ValueBench_block s = some (v, s1)) : zx_MI zX_sd l D cz ad yX10_block cX10_block 1 .int 0 0 [.ref (ad 0)] s v s1 := zx_metI hS hi (by decide +kernel) rfl (Nat.le_of_ble_eq_true rfl) (fun Z e1 e2 e3 e4 C hr => by subst e1 e2 e3 e4; exact zX_ValueBench_block_w (r := (v, s1)) C s hr h)
set_option maxRecDepth 100000 in
set_option maxHeartbeats 4000000 in
theorem zX_Program_has_w {Z : zx_Z} (C : zx_ok zX_sd Z cX5_has 2 RX5 0 0) {r : Int32} (p1 : Int32) (s : zx_S) (hr : zx_rI zX_sd Z cX5_has 2 .boolean r s) (h : zX_Program_has p1 s = some r) : zW zX_sd Z 2 0 [(0, .ref (zz_d Z 1)), (1, .int p1)] [] s := by
  unfold zX_Program_has at h
  refine zr_iload_n C dX5_has_0 (q := 1) rfl 1 rfl rfl ?_
  refine zr_if_lt (tgt := 16) (q := 4) C dX5_has_1 h (by decide) rfl (fun h => ?_) (fun h => ?_)
  · skip
    refine zr_iconst C dX5_has_16 (q := 17) (v := (0 : Int32)) (by decide) rfl ?_
    exact zr_retZR dX5_has_17 (Or.inl rfl) h hr
  · skip
    refine zr_iload_n C dX5_has_4 (q := 5) rfl 1 rfl rfl ?_
    refine zr_aload_n C dX5_has_5 (q := 6) rfl 0 rfl rfl ?_
    refine zr_get C dX5_has_6 (q := 9) zX_gX5_46_1 rfl ?_
    refine zr_icmp_ge (tgt := 16) (q := 12) C dX5_has_9 h (by decide) rfl (fun h => ?_) (fun h => ?_)
    · skip
      refine zr_iconst C dX5_has_16 (q := 17) (v := (0 : Int32)) (by decide) rfl ?_
      exact zr_retZR dX5_has_17 (Or.inl rfl) h hr
    · skip
      refine zr_iconst C dX5_has_12 (q := 13) (v := (1 : Int32)) (by decide) rfl ?_
      refine zr_goto (q := 17) C dX5_has_13 (by decide) ?_
      exact zr_retZR dX5_has_17 (Or.inr rfl) h hr
theorem zX_Program_has_met {l : Launch} {D : va_G} {cz : ClassId × ClassId} {ad : Nat → Nat} (hS : zx_So zX_sd) (hi : zx_I zX_sd ad) {p1 : Int32} {s : zx_S} {v : Int32} (h : zX_Program_has p1 s = some v) : zx_MI zX_sd l D cz ad yX5_has cX5_has 2 .boolean 0 0 [.ref (ad 1), .int p1] s v s := zx_metI hS hi (by decide +kernel) rfl (Nat.le_of_ble_eq_true rfl) (fun Z e1 e2 e3 e4 C hr => by subst e1 e2 e3 e4; exact zX_Program_has_w C p1 s hr h)
set_option maxRecDepth 100000 in
set_option maxHeartbeats 4000000 in
theorem zX_Program_instructions_w {Z : zx_Z} (C : zx_ok zX_sd Z cX5_instructions 1 RX5 0 0) {r : Int32} (s : zx_S) (hr : zx_rI zX_sd Z cX5_instructions 1 .int r s) (h : zX_Program_instructions s = some r) : zW zX_sd Z 1 0 [(0, .ref (zz_d Z 1))] [] s := by
  unfold zX_Program_instructions at h
  refine zr_aload_n C dX5_instructions_0 (q := 1) rfl 0 rfl rfl ?_
  refine zr_get C dX5_instructions_1 (q := 4) zX_gX5_9_1 rfl ?_
  refine zr_bipush C dX5_instructions_4 (q := 6) (v := (16 : Int32)) (by decide) rfl ?_
  obtain ⟨hin_6, h⟩ := zx_ck_so h
  refine zr_iald C dX5_instructions_6 (q := 7) zX_a2 hin_6 rfl ?_
  exact zr_retR dX5_instructions_7 h hr
theorem zX_Program_instructions_met {l : Launch} {D : va_G} {cz : ClassId × ClassId} {ad : Nat → Nat} (hS : zx_So zX_sd) (hi : zx_I zX_sd ad) {s : zx_S} {v : Int32} (h : zX_Program_instructions s = some v) : zx_MI zX_sd l D cz ad yX5_instructions cX5_instructions 1 .int 0 0 [.ref (ad 1)] s v s := zx_metI hS hi (by decide +kernel) rfl (Nat.le_of_ble_eq_true rfl) (fun Z e1 e2 e3 e4 C hr => by subst e1 e2 e3 e4; exact zX_Program_instructions_w C s hr h)
set_option maxRecDepth 100000 in
set_option maxHeartbeats 4000000 in
theorem zX_Program_isVariable_w {Z : zx_Z} (C : zx_ok zX_sd Z cX5_isVariable 1 RX5 0 0) {r : Int32} (p0 : Int32) (s : zx_S) (hr : zx_rI zX_sd Z cX5_isVariable 1 .boolean r s) (h : zX_Program_isVariable p0 s = some r) : zW zX_sd Z 1 0 [(0, .int p0)] [] s := by
  unfold zX_Program_isVariable at h
  refine zr_iload_n C dX5_isVariable_0 (q := 1) rfl 0 rfl rfl ?_
  refine zr_if_lt (tgt := 14) (q := 4) C dX5_isVariable_1 h (by decide) rfl (fun h => ?_) (fun h => ?_)
  · skip
    refine zr_iconst C dX5_isVariable_14 (q := 15) (v := (0 : Int32)) (by decide) rfl ?_
    exact zr_retZR dX5_isVariable_15 (Or.inl rfl) h hr
  · skip
    refine zr_iload_n C dX5_isVariable_4 (q := 5) rfl 0 rfl rfl ?_
    refine zr_bipush C dX5_isVariable_5 (q := 7) (v := (10 : Int32)) (by decide) rfl ?_
    refine zr_icmp_ge (tgt := 14) (q := 10) C dX5_isVariable_7 h (by decide) rfl (fun h => ?_) (fun h => ?_)
    · skip
      refine zr_iconst C dX5_isVariable_14 (q := 15) (v := (0 : Int32)) (by decide) rfl ?_
      exact zr_retZR dX5_isVariable_15 (Or.inl rfl) h hr
    · skip
      refine zr_iconst C dX5_isVariable_10 (q := 11) (v := (1 : Int32)) (by decide) rfl ?_
      refine zr_goto (q := 15) C dX5_isVariable_11 (by decide) ?_
      exact zr_retZR dX5_isVariable_15 (Or.inr rfl) h hr
theorem zX_Program_isVariable_met {l : Launch} {D : va_G} {cz : ClassId × ClassId} {ad : Nat → Nat} (hS : zx_So zX_sd) (hi : zx_I zX_sd ad) {p0 : Int32} {s : zx_S} {v : Int32} (h : zX_Program_isVariable p0 s = some v) : zx_MI zX_sd l D cz ad yX5_isVariable cX5_isVariable 1 .boolean 0 0 [.int p0] s v s := zx_metI hS hi (by decide +kernel) rfl (Nat.le_of_ble_eq_true rfl) (fun Z e1 e2 e3 e4 C hr => by subst e1 e2 e3 e4; exact zX_Program_isVariable_w C p0 s hr h)
set_option maxRecDepth 100000 in
set_option maxHeartbeats 4000000 in
theorem zX_Program_fits_w {Z : zx_Z} (C : zx_ok zX_sd Z cX5_fits 4 RX5 1 20) {r : Int32} (p0 p1 p2 p3 : Int32) (s : zx_S) (hr : zx_rI zX_sd Z cX5_fits 4 .boolean r s) (h : zX_Program_fits p0 p1 p2 p3 s = some r) : zW zX_sd Z 4 0 [(0, .int p0), (1, .int p1), (2, .int p2), (3, .int p3)] [] s := by
  unfold zX_Program_fits at h
  refine zr_iload_n C dX5_fits_0 (q := 1) rfl 0 rfl rfl ?_
  refine zr_if_lt (tgt := 17) (q := 4) C dX5_fits_1 h (by decide) rfl (fun h => ?_) (fun h => ?_)
  · skip
    refine zr_iconst C dX5_fits_17 (q := 18) (v := (0 : Int32)) (by decide) rfl ?_
    exact zr_retZR dX5_fits_18 (Or.inl rfl) h hr
  · skip
    refine zr_iload_n C dX5_fits_4 (q := 5) rfl 0 rfl rfl ?_
    refine zr_bipush C dX5_fits_5 (q := 7) (v := (14 : Int32)) (by decide) rfl ?_
    refine zr_icmp_gt (tgt := 17) (q := 10) C dX5_fits_7 h (by decide) rfl (fun h => ?_) (fun h => ?_)
    · skip
      refine zr_iconst C dX5_fits_17 (q := 18) (v := (0 : Int32)) (by decide) rfl ?_
      exact zr_retZR dX5_fits_18 (Or.inl rfl) h hr
    · skip
      refine zr_iload_n C dX5_fits_10 (q := 11) rfl 1 rfl rfl ?_
      obtain ⟨r1, hc_11, h⟩ := zx_b1_so h
      refine zr_csI (q := 14) C (As := [.int p1]) (rest := []) dX5_fits_11 (zX_Program_isVariable_met C.2.2.2.2.1 C.2.2.2.1 hc_11) zX_sX5_39 ⟨by decide, by decide⟩ rfl (Nat.le_of_ble_eq_true rfl) rfl rfl ?_
      refine zr_if_ne (tgt := 19) (q := 17) C dX5_fits_14 h (by decide) rfl (fun h => ?_) (fun h => ?_)
      · skip
        refine zr_iload_n C dX5_fits_19 (q := 20) rfl 0 rfl rfl ?_
        by_cases e0 : p0 = (0 : Int32)
        · rw [if_pos e0] at h
          refine zr_lookup (tgt := 64) (off := 44) C dX5_fits_20 (by decide) (by rw [e0] <;> exact rfl) (by decide) ?_
          refine zr_iconst C dX5_fits_64 (q := 65) (v := (1 : Int32)) (by decide) rfl ?_
          exact zr_retZR dX5_fits_65 (Or.inr rfl) h hr
        · rw [if_neg e0] at h
          by_cases e1 : p0 = (1 : Int32)
          · rw [if_pos e1] at h
            refine zr_lookup (tgt := 66) (off := 46) C dX5_fits_20 (by decide) (by rw [e1] <;> exact rfl) (by decide) ?_
            refine zr_iload_n C dX5_fits_66 (q := 67) rfl 2 rfl rfl ?_
            refine zr_if_lt (tgt := 79) (q := 70) C dX5_fits_67 h (by decide) rfl (fun h => ?_) (fun h => ?_)
            · skip
              refine zr_iconst C dX5_fits_79 (q := 80) (v := (0 : Int32)) (by decide) rfl ?_
              exact zr_retZR dX5_fits_80 (Or.inl rfl) h hr
            · skip
              refine zr_iload_n C dX5_fits_70 (q := 71) rfl 2 rfl rfl ?_
              refine zr_iconst C dX5_fits_71 (q := 72) (v := (4 : Int32)) (by decide) rfl ?_
              refine zr_icmp_ge (tgt := 79) (q := 75) C dX5_fits_72 h (by decide) rfl (fun h => ?_) (fun h => ?_)
              · skip
                refine zr_iconst C dX5_fits_79 (q := 80) (v := (0 : Int32)) (by decide) rfl ?_
                exact zr_retZR dX5_fits_80 (Or.inl rfl) h hr
              · skip
                refine zr_iconst C dX5_fits_75 (q := 76) (v := (1 : Int32)) (by decide) rfl ?_
                refine zr_goto (q := 80) C dX5_fits_76 (by decide) ?_
                exact zr_retZR dX5_fits_80 (Or.inr rfl) h hr
          · rw [if_neg e1] at h
            by_cases e2 : p0 = (2 : Int32)
            · rw [if_pos e2] at h
              refine zr_lookup (tgt := 81) (off := 61) C dX5_fits_20 (by decide) (by rw [e2] <;> exact rfl) (by decide) ?_
              refine zr_iload_n C dX5_fits_81 (q := 82) rfl 2 rfl rfl ?_
              obtain ⟨r4, hc_82, h⟩ := zx_b1_so h
              refine zr_csI (q := 85) C (As := [.int p2]) (rest := []) dX5_fits_82 (zX_Program_isVariable_met C.2.2.2.2.1 C.2.2.2.1 hc_82) zX_sX5_39 ⟨by decide, by decide⟩ rfl (Nat.le_of_ble_eq_true rfl) rfl rfl ?_
              obtain ⟨hb9, h⟩ := zx_zr_so h
              exact zr_retZR dX5_fits_85 hb9 h hr
            · rw [if_neg e2] at h
              by_cases e3 : p0 = (14 : Int32)
              · rw [if_pos e3] at h
                refine zr_lookup (tgt := 64) (off := 44) C dX5_fits_20 (by decide) (by rw [e3] <;> exact rfl) (by decide) ?_
                refine zr_iconst C dX5_fits_64 (q := 65) (v := (1 : Int32)) (by decide) rfl ?_
                exact zr_retZR dX5_fits_65 (Or.inr rfl) h hr
              · rw [if_neg e3] at h
                refine zr_lookup (tgt := 86) (off := 66) C dX5_fits_20 (by decide) (by show Op.lookupswitch.offset [(0, 44), (1, 46), (2, 61), (14, 44)] _ _ = _; rw [lv_osw e0 (by decide), lv_osw e1 (by decide), lv_osw e2 (by decide), lv_osw e3 (by decide)] <;> exact rfl) (by decide) ?_
                refine zr_iload_n C dX5_fits_86 (q := 87) rfl 2 rfl rfl ?_
                obtain ⟨r2, hc_87, h⟩ := zx_b1_so h
                refine zr_csI (q := 90) C (As := [.int p2]) (rest := []) dX5_fits_87 (zX_Program_isVariable_met C.2.2.2.2.1 C.2.2.2.1 hc_87) zX_sX5_39 ⟨by decide, by decide⟩ rfl (Nat.le_of_ble_eq_true rfl) rfl rfl ?_
                refine zr_if_eq (tgt := 104) (q := 93) C dX5_fits_90 h (by decide) rfl (fun h => ?_) (fun h => ?_)
                · skip
                  refine zr_iconst C dX5_fits_104 (q := 105) (v := (0 : Int32)) (by decide) rfl ?_
                  exact zr_retZR dX5_fits_105 (Or.inl rfl) h hr
                · skip
                  refine zr_iload_n C dX5_fits_93 (q := 94) rfl 3 rfl rfl ?_
                  obtain ⟨r3, hc_94, h⟩ := zx_b1_so h
                  refine zr_csI (q := 97) C (As := [.int p3]) (rest := []) dX5_fits_94 (zX_Program_isVariable_met C.2.2.2.2.1 C.2.2.2.1 hc_94) zX_sX5_39 ⟨by decide, by decide⟩ rfl (Nat.le_of_ble_eq_true rfl) rfl rfl ?_
                  refine zr_if_eq (tgt := 104) (q := 100) C dX5_fits_97 h (by decide) rfl (fun h => ?_) (fun h => ?_)
                  · skip
                    refine zr_iconst C dX5_fits_104 (q := 105) (v := (0 : Int32)) (by decide) rfl ?_
                    exact zr_retZR dX5_fits_105 (Or.inl rfl) h hr
                  · skip
                    refine zr_iconst C dX5_fits_100 (q := 101) (v := (1 : Int32)) (by decide) rfl ?_
                    refine zr_goto (q := 105) C dX5_fits_101 (by decide) ?_
                    exact zr_retZR dX5_fits_105 (Or.inr rfl) h hr
      · skip
        refine zr_iconst C dX5_fits_17 (q := 18) (v := (0 : Int32)) (by decide) rfl ?_
        exact zr_retZR dX5_fits_18 (Or.inl rfl) h hr
theorem zX_Program_fits_met {l : Launch} {D : va_G} {cz : ClassId × ClassId} {ad : Nat → Nat} (hS : zx_So zX_sd) (hi : zx_I zX_sd ad) {p0 p1 p2 p3 : Int32} {s : zx_S} {v : Int32} (h : zX_Program_fits p0 p1 p2 p3 s = some v) : zx_MI zX_sd l D cz ad yX5_fits cX5_fits 4 .boolean 1 20 [.int p0, .int p1, .int p2, .int p3] s v s := zx_metI hS hi (by decide +kernel) rfl (Nat.le_of_ble_eq_true rfl) (fun Z e1 e2 e3 e4 C hr => by subst e1 e2 e3 e4; exact zX_Program_fits_w C p0 p1 p2 p3 s hr h)
set_option maxRecDepth 100000 in
set_option maxHeartbeats 4000000 in
theorem zX_Program_insertAt_w {Z : zx_Z} (C : zx_ok zX_sd Z cX5_insertAt 4 RX5 1 18) {r : zx_S} (p1 p2 p3 : Int32) (s : zx_S) (hr : zx_rV zX_sd Z cX5_insertAt 4 r) (h : zX_Program_insertAt p1 p2 p3 s = some r) : zW zX_sd Z 4 0 [(0, .ref (zz_d Z 3)), (1, .int p1), (2, .int p2), (3, .int p3)] [] s := by
  unfold zX_Program_insertAt at h
  refine zr_aload_n C dX5_insertAt_0 (q := 1) rfl 0 rfl rfl ?_
  refine zr_iload_n C dX5_insertAt_1 (q := 2) rfl 1 rfl rfl ?_
  refine zr_aload_n C dX5_insertAt_2 (q := 3) rfl 0 rfl rfl ?_
  refine zr_iload_n C dX5_insertAt_3 (q := 4) rfl 1 rfl rfl ?_
  refine zr_iconst C dX5_insertAt_4 (q := 5) (v := (1 : Int32)) (by decide) rfl ?_
  refine zr_iadd C dX5_insertAt_5 (q := 6) rfl ?_
  refine zr_iload_n C dX5_insertAt_6 (q := 7) rfl 2 rfl rfl ?_
  refine zr_copy (q := 10) C dX5_insertAt_7 h zX_a3 zX_a3 zw_464 zw_466 zw_465 zw_74 (by decide) (by decide) rfl (fun s1 h => ?_)
  refine zr_aload_n C dX5_insertAt_10 (q := 11) rfl 0 rfl rfl ?_
  refine zr_iload_n C dX5_insertAt_11 (q := 12) rfl 1 rfl rfl ?_
  refine zr_iload_n C dX5_insertAt_12 (q := 13) rfl 3 rfl rfl ?_
  obtain ⟨hin_13, h⟩ := zx_ck_so h
  refine zr_iast C dX5_insertAt_13 (q := 14) zX_a3 hin_13 rfl ?_
  refine zr_ls h (fun s2 h => ?_)
  exact zr_retV dX5_insertAt_14 h hr
theorem zX_Program_insertAt_met {l : Launch} {D : va_G} {cz : ClassId × ClassId} {ad : Nat → Nat} (hS : zx_So zX_sd) (hi : zx_I zX_sd ad) {p1 p2 p3 : Int32} {s : zx_S} {s1 : zx_S} (h : zX_Program_insertAt p1 p2 p3 s = some s1) : zx_MV zX_sd l D cz ad yX5_insertAt cX5_insertAt 4 1 18 [.ref (ad 3), .int p1, .int p2, .int p3] s s1 := zx_metV hS hi (by decide +kernel) rfl (Nat.le_of_ble_eq_true rfl) (fun Z e1 e2 e3 e4 C hr => by subst e1 e2 e3 e4; exact zX_Program_insertAt_w C p1 p2 p3 s hr h)
set_option maxRecDepth 100000 in
set_option maxHeartbeats 4000000 in
theorem zX_Program_insertAt_2_w {Z : zx_Z} (C : zx_ok zX_sd Z cX5_insertAt 4 RX5 1 18) {r : zx_S} (p1 p2 p3 : Int32) (s : zx_S) (hr : zx_rV zX_sd Z cX5_insertAt 4 r) (h : zX_Program_insertAt_2 p1 p2 p3 s = some r) : zW zX_sd Z 4 0 [(0, .ref (zz_d Z 4)), (1, .int p1), (2, .int p2), (3, .int p3)] [] s := by
  unfold zX_Program_insertAt_2 at h
  refine zr_aload_n C dX5_insertAt_0 (q := 1) rfl 0 rfl rfl ?_
  refine zr_iload_n C dX5_insertAt_1 (q := 2) rfl 1 rfl rfl ?_
  refine zr_aload_n C dX5_insertAt_2 (q := 3) rfl 0 rfl rfl ?_
  refine zr_iload_n C dX5_insertAt_3 (q := 4) rfl 1 rfl rfl ?_
  refine zr_iconst C dX5_insertAt_4 (q := 5) (v := (1 : Int32)) (by decide) rfl ?_
  refine zr_iadd C dX5_insertAt_5 (q := 6) rfl ?_
  refine zr_iload_n C dX5_insertAt_6 (q := 7) rfl 2 rfl rfl ?_
  refine zr_copy (q := 10) C dX5_insertAt_7 h zX_a4 zX_a4 zw_464 zw_466 zw_465 zw_74 (by decide) (by decide) rfl (fun s1 h => ?_)
  refine zr_aload_n C dX5_insertAt_10 (q := 11) rfl 0 rfl rfl ?_
  refine zr_iload_n C dX5_insertAt_11 (q := 12) rfl 1 rfl rfl ?_
  refine zr_iload_n C dX5_insertAt_12 (q := 13) rfl 3 rfl rfl ?_
  obtain ⟨hin_13, h⟩ := zx_ck_so h
  refine zr_iast C dX5_insertAt_13 (q := 14) zX_a4 hin_13 rfl ?_
  refine zr_ls h (fun s2 h => ?_)
  exact zr_retV dX5_insertAt_14 h hr
theorem zX_Program_insertAt_2_met {l : Launch} {D : va_G} {cz : ClassId × ClassId} {ad : Nat → Nat} (hS : zx_So zX_sd) (hi : zx_I zX_sd ad) {p1 p2 p3 : Int32} {s : zx_S} {s1 : zx_S} (h : zX_Program_insertAt_2 p1 p2 p3 s = some s1) : zx_MV zX_sd l D cz ad yX5_insertAt cX5_insertAt 4 1 18 [.ref (ad 4), .int p1, .int p2, .int p3] s s1 := zx_metV hS hi (by decide +kernel) rfl (Nat.le_of_ble_eq_true rfl) (fun Z e1 e2 e3 e4 C hr => by subst e1 e2 e3 e4; exact zX_Program_insertAt_2_w C p1 p2 p3 s hr h)
set_option maxRecDepth 100000 in
set_option maxHeartbeats 4000000 in
theorem zX_Program_insertAt_3_w {Z : zx_Z} (C : zx_ok zX_sd Z cX5_insertAt 4 RX5 1 18) {r : zx_S} (p1 p2 p3 : Int32) (s : zx_S) (hr : zx_rV zX_sd Z cX5_insertAt 4 r) (h : zX_Program_insertAt_3 p1 p2 p3 s = some r) : zW zX_sd Z 4 0 [(0, .ref (zz_d Z 5)), (1, .int p1), (2, .int p2), (3, .int p3)] [] s := by
  unfold zX_Program_insertAt_3 at h
  refine zr_aload_n C dX5_insertAt_0 (q := 1) rfl 0 rfl rfl ?_
  refine zr_iload_n C dX5_insertAt_1 (q := 2) rfl 1 rfl rfl ?_
  refine zr_aload_n C dX5_insertAt_2 (q := 3) rfl 0 rfl rfl ?_
  refine zr_iload_n C dX5_insertAt_3 (q := 4) rfl 1 rfl rfl ?_
  refine zr_iconst C dX5_insertAt_4 (q := 5) (v := (1 : Int32)) (by decide) rfl ?_
  refine zr_iadd C dX5_insertAt_5 (q := 6) rfl ?_
  refine zr_iload_n C dX5_insertAt_6 (q := 7) rfl 2 rfl rfl ?_
  refine zr_copy (q := 10) C dX5_insertAt_7 h zX_a5 zX_a5 zw_464 zw_466 zw_465 zw_74 (by decide) (by decide) rfl (fun s1 h => ?_)
  refine zr_aload_n C dX5_insertAt_10 (q := 11) rfl 0 rfl rfl ?_
  refine zr_iload_n C dX5_insertAt_11 (q := 12) rfl 1 rfl rfl ?_
  refine zr_iload_n C dX5_insertAt_12 (q := 13) rfl 3 rfl rfl ?_
  obtain ⟨hin_13, h⟩ := zx_ck_so h
  refine zr_iast C dX5_insertAt_13 (q := 14) zX_a5 hin_13 rfl ?_
  refine zr_ls h (fun s2 h => ?_)
  exact zr_retV dX5_insertAt_14 h hr
theorem zX_Program_insertAt_3_met {l : Launch} {D : va_G} {cz : ClassId × ClassId} {ad : Nat → Nat} (hS : zx_So zX_sd) (hi : zx_I zX_sd ad) {p1 p2 p3 : Int32} {s : zx_S} {s1 : zx_S} (h : zX_Program_insertAt_3 p1 p2 p3 s = some s1) : zx_MV zX_sd l D cz ad yX5_insertAt cX5_insertAt 4 1 18 [.ref (ad 5), .int p1, .int p2, .int p3] s s1 := zx_metV hS hi (by decide +kernel) rfl (Nat.le_of_ble_eq_true rfl) (fun Z e1 e2 e3 e4 C hr => by subst e1 e2 e3 e4; exact zX_Program_insertAt_3_w C p1 p2 p3 s hr h)
set_option maxRecDepth 100000 in
set_option maxHeartbeats 4000000 in
theorem zX_Program_insertAt_4_w {Z : zx_Z} (C : zx_ok zX_sd Z cX5_insertAt 4 RX5 1 18) {r : zx_S} (p1 p2 p3 : Int32) (s : zx_S) (hr : zx_rV zX_sd Z cX5_insertAt 4 r) (h : zX_Program_insertAt_4 p1 p2 p3 s = some r) : zW zX_sd Z 4 0 [(0, .ref (zz_d Z 6)), (1, .int p1), (2, .int p2), (3, .int p3)] [] s := by
  unfold zX_Program_insertAt_4 at h
  refine zr_aload_n C dX5_insertAt_0 (q := 1) rfl 0 rfl rfl ?_
  refine zr_iload_n C dX5_insertAt_1 (q := 2) rfl 1 rfl rfl ?_
  refine zr_aload_n C dX5_insertAt_2 (q := 3) rfl 0 rfl rfl ?_
  refine zr_iload_n C dX5_insertAt_3 (q := 4) rfl 1 rfl rfl ?_
  refine zr_iconst C dX5_insertAt_4 (q := 5) (v := (1 : Int32)) (by decide) rfl ?_
  refine zr_iadd C dX5_insertAt_5 (q := 6) rfl ?_
  refine zr_iload_n C dX5_insertAt_6 (q := 7) rfl 2 rfl rfl ?_
  refine zr_copy (q := 10) C dX5_insertAt_7 h zX_a6 zX_a6 zw_464 zw_466 zw_465 zw_74 (by decide) (by decide) rfl (fun s1 h => ?_)
  refine zr_aload_n C dX5_insertAt_10 (q := 11) rfl 0 rfl rfl ?_
  refine zr_iload_n C dX5_insertAt_11 (q := 12) rfl 1 rfl rfl ?_
  refine zr_iload_n C dX5_insertAt_12 (q := 13) rfl 3 rfl rfl ?_
  obtain ⟨hin_13, h⟩ := zx_ck_so h
  refine zr_iast C dX5_insertAt_13 (q := 14) zX_a6 hin_13 rfl ?_
  refine zr_ls h (fun s2 h => ?_)
  exact zr_retV dX5_insertAt_14 h hr
theorem zX_Program_insertAt_4_met {l : Launch} {D : va_G} {cz : ClassId × ClassId} {ad : Nat → Nat} (hS : zx_So zX_sd) (hi : zx_I zX_sd ad) {p1 p2 p3 : Int32} {s : zx_S} {s1 : zx_S} (h : zX_Program_insertAt_4 p1 p2 p3 s = some s1) : zx_MV zX_sd l D cz ad yX5_insertAt cX5_insertAt 4 1 18 [.ref (ad 6), .int p1, .int p2, .int p3] s s1 := zx_metV hS hi (by decide +kernel) rfl (Nat.le_of_ble_eq_true rfl) (fun Z e1 e2 e3 e4 C hr => by subst e1 e2 e3 e4; exact zX_Program_insertAt_4_w C p1 p2 p3 s hr h)
set_option maxRecDepth 100000 in
set_option maxHeartbeats 4000000 in
theorem zX_Program_insert_L74_w {Z : zx_Z} (C : zx_ok zX_sd Z cX5_insert 9 RX5 2 41) {r : zx_S} {k98 : zx_S → Option zx_S} (hr : zx_rV zX_sd Z cX5_insert 9 r) (h98 : ∀ (s1 : zx_S), k98 s1 = some r → zW zX_sd Z 9 98 [] [] s1) : ∀ (n : Nat) (v8 : Int32) (s : zx_S), zX_Program_insert_L74 k98 n v8 s = some r → zW zX_sd Z 9 74 [(0, .ref (zz_d Z 1)), (8, .int v8)] [] s := by
  intro n
  induction n with
  | zero => intro v8 s h; unfold zX_Program_insert_L74 at h; cases h
  | succ n ih =>
    intro v8 s h
    unfold zX_Program_insert_L74 at h
    refine zr_iload C dX5_insert_74 (q := 76) 1 rfl rfl ?_
    refine zr_bipush C dX5_insert_76 (q := 78) (v := (16 : Int32)) (by decide) rfl ?_
    refine zr_icmp_gt (tgt := 98) (q := 81) C dX5_insert_78 h (by decide) rfl (fun h => ?_) (fun h => ?_)
    · skip
      exact zr_sub [] rfl (h98 s h)
    · skip
      refine zr_aload_n C dX5_insert_81 (q := 82) rfl 0 rfl rfl ?_
      refine zr_get C dX5_insert_82 (q := 85) zX_gX5_9_1 rfl ?_
      refine zr_iload C dX5_insert_85 (q := 87) 1 rfl rfl ?_
      refine zr_dup2 C dX5_insert_87 (q := 88) rfl rfl rfl ?_
      obtain ⟨hin_88, h⟩ := zx_ck_so h
      refine zr_iald C dX5_insert_88 (q := 89) zX_a2 hin_88 rfl ?_
      refine zr_iconst C dX5_insert_89 (q := 90) (v := (1 : Int32)) (by decide) rfl ?_
      refine zr_iadd C dX5_insert_90 (q := 91) rfl ?_
      refine zr_top h (fun x9 h => ?_)
      obtain ⟨hin_91, h⟩ := zx_ck_so h
      refine zr_iast C dX5_insert_91 (q := 92) zX_a2 hin_91 rfl ?_
      refine zr_ls h (fun s10 h => ?_)
      refine zr_iinc C dX5_insert_92 (q := 95) h (by decide) 1 rfl (by decide) (lw := fun v8_11 => [(8, .int v8_11), (0, .ref (zz_d Z 1))]) (fun _ => rfl) rfl (fun v8_11 h => ?_)
      refine zr_goto (q := 74) C dX5_insert_95 (by decide) ?_
      exact zr_sub [1, 0] rfl (ih v8_11 s10 h)
set_option maxRecDepth 100000 in
set_option maxHeartbeats 4000000 in
theorem zX_Program_insert_w {Z : zx_Z} (C : zx_ok zX_sd Z cX5_insert 9 RX5 2 41) {r : zx_S} (p1 p2 p3 p4 p5 : Int32) (s : zx_S) (hr : zx_rV zX_sd Z cX5_insert 9 r) (h : zX_Program_insert p1 p2 p3 p4 p5 s = some r) : zW zX_sd Z 9 0 [(0, .ref (zz_d Z 1)), (1, .int p1), (2, .int p2), (3, .int p3), (4, .int p4), (5, .int p5)] [] s := by
  unfold zX_Program_insert at h
  refine zr_aload_n C dX5_insert_0 (q := 1) rfl 0 rfl rfl ?_
  refine zr_get C dX5_insert_1 (q := 4) zX_gX5_9_1 rfl ?_
  refine zr_iload_n C dX5_insert_4 (q := 5) rfl 1 rfl rfl ?_
  refine zr_iconst C dX5_insert_5 (q := 6) (v := (1 : Int32)) (by decide) rfl ?_
  refine zr_iadd C dX5_insert_6 (q := 7) rfl ?_
  obtain ⟨hin_7, h⟩ := zx_ck_so h
  refine zr_iald C dX5_insert_7 (q := 8) zX_a2 hin_7 rfl ?_
  refine zr_top h (fun v6_1 h => ?_)
  refine zr_istore C dX5_insert_8 (q := 10) (by decide) (lv' := [(6, .int v6_1), (0, .ref (zz_d Z 1)), (1, .int p1), (2, .int p2), (3, .int p3), (4, .int p4), (5, .int p5)]) rfl rfl ?_
  refine zr_aload_n C dX5_insert_10 (q := 11) rfl 1 rfl rfl ?_
  obtain ⟨r2, hc_11, h⟩ := zx_b1_so h
  refine zr_cvI (q := 14) C (As := []) (k := 1) (rest := []) dX5_insert_11 (zX_Program_instructions_met C.2.2.2.2.1 C.2.2.2.1 hc_11) zX_vX5_50 zX_o1 ⟨by decide, by decide⟩ rfl (Nat.le_of_ble_eq_true rfl) rfl rfl ?_
  refine zr_iload C dX5_insert_14 (q := 16) 0 rfl rfl ?_
  refine zr_isub C dX5_insert_16 (q := 17) rfl ?_
  refine zr_top h (fun v7_3 h => ?_)
  refine zr_istore C dX5_insert_17 (q := 19) (by decide) (lv' := [(7, .int v7_3), (6, .int v6_1), (0, .ref (zz_d Z 1)), (1, .int p1), (2, .int p2), (3, .int p3), (4, .int p4), (5, .int p5)]) rfl rfl ?_
  refine zr_aload_n C dX5_insert_19 (q := 20) rfl 2 rfl rfl ?_
  refine zr_get C dX5_insert_20 (q := 23) zX_gX5_15_1 rfl ?_
  refine zr_iload C dX5_insert_23 (q := 25) 1 rfl rfl ?_
  refine zr_iload C dX5_insert_25 (q := 27) 0 rfl rfl ?_
  refine zr_iload_n C dX5_insert_27 (q := 28) rfl 4 rfl rfl ?_
  obtain ⟨s4, hc_28, h⟩ := zx_b1_so h
  refine zr_csV (q := 31) C (As := [.ref (zz_d Z 3), .int v6_1, .int v7_3, .int p2]) (rest := []) dX5_insert_28 (zX_Program_insertAt_met C.2.2.2.2.1 C.2.2.2.1 hc_28) zX_sX5_54 ⟨by decide, by decide⟩ rfl (Nat.le_of_ble_eq_true rfl) rfl rfl ?_
  refine zr_aload_n C dX5_insert_31 (q := 32) rfl 2 rfl rfl ?_
  refine zr_get C dX5_insert_32 (q := 35) zX_gX5_18_1 rfl ?_
  refine zr_iload C dX5_insert_35 (q := 37) 1 rfl rfl ?_
  refine zr_iload C dX5_insert_37 (q := 39) 0 rfl rfl ?_
  refine zr_iload_n C dX5_insert_39 (q := 40) rfl 5 rfl rfl ?_
  obtain ⟨s5, hc_40, h⟩ := zx_b1_so h
  refine zr_csV (q := 43) C (As := [.ref (zz_d Z 4), .int v6_1, .int v7_3, .int p3]) (rest := []) dX5_insert_40 (zX_Program_insertAt_2_met C.2.2.2.2.1 C.2.2.2.1 hc_40) zX_sX5_54 ⟨by decide, by decide⟩ rfl (Nat.le_of_ble_eq_true rfl) rfl rfl ?_
  refine zr_aload_n C dX5_insert_43 (q := 44) rfl 2 rfl rfl ?_
  refine zr_get C dX5_insert_44 (q := 47) zX_gX5_21_1 rfl ?_
  refine zr_iload C dX5_insert_47 (q := 49) 1 rfl rfl ?_
  refine zr_iload C dX5_insert_49 (q := 51) 0 rfl rfl ?_
  refine zr_iload C dX5_insert_51 (q := 53) 6 rfl rfl ?_
  obtain ⟨s6, hc_53, h⟩ := zx_b1_so h
  refine zr_csV (q := 56) C (As := [.ref (zz_d Z 5), .int v6_1, .int v7_3, .int p4]) (rest := []) dX5_insert_53 (zX_Program_insertAt_3_met C.2.2.2.2.1 C.2.2.2.1 hc_53) zX_sX5_54 ⟨by decide, by decide⟩ rfl (Nat.le_of_ble_eq_true rfl) rfl rfl ?_
  refine zr_aload_n C dX5_insert_56 (q := 57) rfl 2 rfl rfl ?_
  refine zr_get C dX5_insert_57 (q := 60) zX_gX5_24_1 rfl ?_
  refine zr_iload C dX5_insert_60 (q := 62) 1 rfl rfl ?_
  refine zr_iload C dX5_insert_62 (q := 64) 0 rfl rfl ?_
  refine zr_iload C dX5_insert_64 (q := 66) 7 rfl rfl ?_
  obtain ⟨s7, hc_66, h⟩ := zx_b1_so h
  refine zr_csV (q := 69) C (As := [.ref (zz_d Z 6), .int v6_1, .int v7_3, .int p5]) (rest := []) dX5_insert_66 (zX_Program_insertAt_4_met C.2.2.2.2.1 C.2.2.2.1 hc_66) zX_sX5_54 ⟨by decide, by decide⟩ rfl (Nat.le_of_ble_eq_true rfl) rfl rfl ?_
  refine zr_iload_n C dX5_insert_69 (q := 70) rfl 3 rfl rfl ?_
  refine zr_iconst C dX5_insert_70 (q := 71) (v := (1 : Int32)) (by decide) rfl ?_
  refine zr_iadd C dX5_insert_71 (q := 72) rfl ?_
  refine zr_top h (fun v8_8 h => ?_)
  refine zr_istore C dX5_insert_72 (q := 74) (by decide) (lv' := [(8, .int v8_8), (7, .int v7_3), (6, .int v6_1), (0, .ref (zz_d Z 1)), (1, .int p1), (2, .int p2), (3, .int p3), (4, .int p4), (5, .int p5)]) rfl rfl ?_
  refine zr_sub [3, 0] rfl (zX_Program_insert_L74_w C hr (fun s12 h => ?_) 10000 v8_8 s7 h)
  · skip
    exact zr_retV dX5_insert_98 h hr
theorem zX_Program_insert_met {l : Launch} {D : va_G} {cz : ClassId × ClassId} {ad : Nat → Nat} (hS : zx_So zX_sd) (hi : zx_I zX_sd ad) {p1 p2 p3 p4 p5 : Int32} {s : zx_S} {s1 : zx_S} (h : zX_Program_insert p1 p2 p3 p4 p5 s = some s1) : zx_MV zX_sd l D cz ad yX5_insert cX5_insert 9 2 41 [.ref (ad 1), .int p1, .int p2, .int p3, .int p4, .int p5] s s1 := zx_metV hS hi (by decide +kernel) rfl (Nat.le_of_ble_eq_true rfl) (fun Z e1 e2 e3 e4 C hr => by subst e1 e2 e3 e4; exact zX_Program_insert_w C p1 p2 p3 p4 p5 s hr h)
set_option maxRecDepth 100000 in
set_option maxHeartbeats 4000000 in
theorem zX_ValueBench_put_w {Z : zx_Z} (C : zx_ok zX_sd Z cX10_put 6 RX10 3 69) {r : Int32 × zx_S} (p1 p2 p3 p4 p5 : Int32) (s : zx_S) (hr : zx_rI zX_sd Z cX10_put 6 .int r.1 r.2) (h : zX_ValueBench_put p1 p2 p3 p4 p5 s = some r) : zW zX_sd Z 6 0 [(0, .ref (zz_d Z 0)), (1, .int p1), (2, .int p2), (3, .int p3), (4, .int p4), (5, .int p5)] [] s := by
  unfold zX_ValueBench_put at h
  refine zr_aload_n C dX10_put_0 (q := 1) rfl 0 rfl rfl ?_
  refine zr_get C dX10_put_1 (q := 4) zX_gX10_12_0 rfl ?_
  refine zr_iload_n C dX10_put_4 (q := 5) rfl 1 rfl rfl ?_
  obtain ⟨r1, hc_5, h⟩ := zx_b1_so h
  refine zr_cvI (q := 8) C (As := [.int p1]) (k := 1) (rest := []) dX10_put_5 (zX_Program_has_met C.2.2.2.2.1 C.2.2.2.1 hc_5) zX_vX10_79 zX_o1 ⟨by decide, by decide⟩ rfl (Nat.le_of_ble_eq_true rfl) rfl rfl ?_
  refine zr_if_eq (tgt := 35) (q := 11) C dX10_put_8 h (by decide) rfl (fun h => ?_) (fun h => ?_)
  · skip
    refine zr_iconst C dX10_put_35 (q := 36) (v := (-1 : Int32)) (by decide) rfl ?_
    exact zr_retI dX10_put_36 h hr
  · skip
    refine zr_aload_n C dX10_put_11 (q := 12) rfl 0 rfl rfl ?_
    refine zr_get C dX10_put_12 (q := 15) zX_gX10_12_0 rfl ?_
    obtain ⟨r2, hc_15, h⟩ := zx_b1_so h
    refine zr_cvI (q := 18) C (As := []) (k := 1) (rest := []) dX10_put_15 (zX_Program_instructions_met C.2.2.2.2.1 C.2.2.2.1 hc_15) zX_vX10_83 zX_o1 ⟨by decide, by decide⟩ rfl (Nat.le_of_ble_eq_true rfl) rfl rfl ?_
    refine zr_bipush C dX10_put_18 (q := 20) (v := (100 : Int32)) (by decide) rfl ?_
    refine zr_icmp_ge (tgt := 35) (q := 23) C dX10_put_20 h (by decide) rfl (fun h => ?_) (fun h => ?_)
    · skip
      refine zr_iconst C dX10_put_35 (q := 36) (v := (-1 : Int32)) (by decide) rfl ?_
      exact zr_retI dX10_put_36 h hr
    · skip
      refine zr_iload_n C dX10_put_23 (q := 24) rfl 2 rfl rfl ?_
      refine zr_iload_n C dX10_put_24 (q := 25) rfl 3 rfl rfl ?_
      refine zr_iload C dX10_put_25 (q := 27) 4 rfl rfl ?_
      refine zr_iload C dX10_put_27 (q := 29) 5 rfl rfl ?_
      obtain ⟨r3, hc_29, h⟩ := zx_b1_so h
      refine zr_csI (q := 32) C (As := [.int p2, .int p3, .int p4, .int p5]) (rest := []) dX10_put_29 (zX_Program_fits_met C.2.2.2.2.1 C.2.2.2.1 hc_29) zX_sX10_87 ⟨by decide, by decide⟩ rfl (Nat.le_of_ble_eq_true rfl) rfl rfl ?_
      refine zr_if_ne (tgt := 37) (q := 35) C dX10_put_32 h (by decide) rfl (fun h => ?_) (fun h => ?_)
      · skip
        refine zr_aload_n C dX10_put_37 (q := 38) rfl 0 rfl rfl ?_
        refine zr_iconst C dX10_put_38 (q := 39) (v := (1 : Int32)) (by decide) rfl ?_
        refine zr_put C dX10_put_39 (q := 42) zX_pX10_71_0 (by decide) (by decide) rfl ?_
        refine zr_ls h (fun s4 h => ?_)
        refine zr_iload_n C dX10_put_42 (q := 43) rfl 2 rfl rfl ?_
        refine zr_bipush C dX10_put_43 (q := 45) (v := (14 : Int32)) (by decide) rfl ?_
        refine zr_icmp_ne (tgt := 63) (q := 48) C dX10_put_45 h (by decide) rfl (fun h => ?_) (fun h => ?_)
        · skip
          refine zr_aload_n C dX10_put_63 (q := 64) rfl 0 rfl rfl ?_
          refine zr_get C dX10_put_64 (q := 67) zX_gX10_12_0 rfl ?_
          refine zr_iload_n C dX10_put_67 (q := 68) rfl 1 rfl rfl ?_
          refine zr_iload_n C dX10_put_68 (q := 69) rfl 2 rfl rfl ?_
          refine zr_iload_n C dX10_put_69 (q := 70) rfl 3 rfl rfl ?_
          refine zr_iload C dX10_put_70 (q := 72) 4 rfl rfl ?_
          refine zr_iload C dX10_put_72 (q := 74) 5 rfl rfl ?_
          obtain ⟨s7, hc_74, h⟩ := zx_b1_so h
          refine zr_cvV (q := 77) C (As := [.int p1, .int p2, .int p3, .int p4, .int p5]) (k := 1) (rest := []) dX10_put_74 (zX_Program_insert_met C.2.2.2.2.1 C.2.2.2.1 hc_74) zX_vX10_91 zX_o1 ⟨by decide, by decide⟩ rfl (Nat.le_of_ble_eq_true rfl) rfl rfl ?_
          refine zr_aload_n C dX10_put_77 (q := 78) rfl 0 rfl rfl ?_
          refine zr_get C dX10_put_78 (q := 81) zX_gX10_12_0 rfl ?_
          obtain ⟨r8, hc_81, h⟩ := zx_b1_so h
          refine zr_cvI (q := 84) C (As := []) (k := 1) (rest := []) dX10_put_81 (zX_Program_instructions_met C.2.2.2.2.1 C.2.2.2.1 hc_81) zX_vX10_83 zX_o1 ⟨by decide, by decide⟩ rfl (Nat.le_of_ble_eq_true rfl) rfl rfl ?_
          exact zr_retI dX10_put_84 h hr
        · skip
          refine zr_aload_n C dX10_put_48 (q := 49) rfl 0 rfl rfl ?_
          refine zr_get C dX10_put_49 (q := 52) zX_gX10_12_0 rfl ?_
          refine zr_iload_n C dX10_put_52 (q := 53) rfl 1 rfl rfl ?_
          refine zr_iload_n C dX10_put_53 (q := 54) rfl 2 rfl rfl ?_
          refine zr_iconst C dX10_put_54 (q := 55) (v := (-1 : Int32)) (by decide) rfl ?_
          refine zr_iload_n C dX10_put_55 (q := 56) rfl 3 rfl rfl ?_
          refine zr_iconst C dX10_put_56 (q := 57) (v := (-1 : Int32)) (by decide) rfl ?_
          obtain ⟨s5, hc_57, h⟩ := zx_b1_so h
          refine zr_cvV (q := 60) C (As := [.int p1, .int p2, .int (-1 : Int32), .int p3, .int (-1 : Int32)]) (k := 1) (rest := []) dX10_put_57 (zX_Program_insert_met C.2.2.2.2.1 C.2.2.2.1 hc_57) zX_vX10_91 zX_o1 ⟨by decide, by decide⟩ rfl (Nat.le_of_ble_eq_true rfl) rfl rfl ?_
          refine zr_goto (q := 77) C dX10_put_60 (by decide) ?_
          refine zr_aload_n C dX10_put_77 (q := 78) rfl 0 rfl rfl ?_
          refine zr_get C dX10_put_78 (q := 81) zX_gX10_12_0 rfl ?_
          obtain ⟨r6, hc_81, h⟩ := zx_b1_so h
          refine zr_cvI (q := 84) C (As := []) (k := 1) (rest := []) dX10_put_81 (zX_Program_instructions_met C.2.2.2.2.1 C.2.2.2.1 hc_81) zX_vX10_83 zX_o1 ⟨by decide, by decide⟩ rfl (Nat.le_of_ble_eq_true rfl) rfl rfl ?_
          exact zr_retI dX10_put_84 h hr
      · skip
        refine zr_iconst C dX10_put_35 (q := 36) (v := (-1 : Int32)) (by decide) rfl ?_
        exact zr_retI dX10_put_36 h hr
theorem zX_ValueBench_put_met {l : Launch} {D : va_G} {cz : ClassId × ClassId} {ad : Nat → Nat} (hS : zx_So zX_sd) (hi : zx_I zX_sd ad) {p1 p2 p3 p4 p5 : Int32} {s : zx_S} {v : Int32} {s1 : zx_S} (h : zX_ValueBench_put p1 p2 p3 p4 p5 s = some (v, s1)) : zx_MI zX_sd l D cz ad yX10_put cX10_put 6 .int 3 69 [.ref (ad 0), .int p1, .int p2, .int p3, .int p4, .int p5] s v s1 := zx_metI hS hi (by decide +kernel) rfl (Nat.le_of_ble_eq_true rfl) (fun Z e1 e2 e3 e4 C hr => by subst e1 e2 e3 e4; exact zX_ValueBench_put_w (r := (v, s1)) C p1 p2 p3 p4 p5 s hr h)
set_option maxRecDepth 100000 in
set_option maxHeartbeats 4000000 in
theorem zX_Program_isBlockNumber_w {Z : zx_Z} (C : zx_ok zX_sd Z cX5_isBlockNumber 1 RX5 0 0) {r : Int32} (p0 : Int32) (s : zx_S) (hr : zx_rI zX_sd Z cX5_isBlockNumber 1 .boolean r s) (h : zX_Program_isBlockNumber p0 s = some r) : zW zX_sd Z 1 0 [(0, .int p0)] [] s := by
  unfold zX_Program_isBlockNumber at h
  refine zr_iload_n C dX5_isBlockNumber_0 (q := 1) rfl 0 rfl rfl ?_
  refine zr_if_lt (tgt := 14) (q := 4) C dX5_isBlockNumber_1 h (by decide) rfl (fun h => ?_) (fun h => ?_)
  · skip
    refine zr_iconst C dX5_isBlockNumber_14 (q := 15) (v := (0 : Int32)) (by decide) rfl ?_
    exact zr_retZR dX5_isBlockNumber_15 (Or.inl rfl) h hr
  · skip
    refine zr_iload_n C dX5_isBlockNumber_4 (q := 5) rfl 0 rfl rfl ?_
    refine zr_bipush C dX5_isBlockNumber_5 (q := 7) (v := (16 : Int32)) (by decide) rfl ?_
    refine zr_icmp_ge (tgt := 14) (q := 10) C dX5_isBlockNumber_7 h (by decide) rfl (fun h => ?_) (fun h => ?_)
    · skip
      refine zr_iconst C dX5_isBlockNumber_14 (q := 15) (v := (0 : Int32)) (by decide) rfl ?_
      exact zr_retZR dX5_isBlockNumber_15 (Or.inl rfl) h hr
    · skip
      refine zr_iconst C dX5_isBlockNumber_10 (q := 11) (v := (1 : Int32)) (by decide) rfl ?_
      refine zr_goto (q := 15) C dX5_isBlockNumber_11 (by decide) ?_
      exact zr_retZR dX5_isBlockNumber_15 (Or.inr rfl) h hr
theorem zX_Program_isBlockNumber_met {l : Launch} {D : va_G} {cz : ClassId × ClassId} {ad : Nat → Nat} (hS : zx_So zX_sd) (hi : zx_I zX_sd ad) {p0 : Int32} {s : zx_S} {v : Int32} (h : zX_Program_isBlockNumber p0 s = some v) : zx_MI zX_sd l D cz ad yX5_isBlockNumber cX5_isBlockNumber 1 .boolean 0 0 [.int p0] s v s := zx_metI hS hi (by decide +kernel) rfl (Nat.le_of_ble_eq_true rfl) (fun Z e1 e2 e3 e4 C hr => by subst e1 e2 e3 e4; exact zX_Program_isBlockNumber_w C p0 s hr h)
set_option maxRecDepth 100000 in
set_option maxHeartbeats 4000000 in
theorem zX_Program_endFits_w {Z : zx_Z} (C : zx_ok zX_sd Z cX5_endFits 4 RX5 1 20) {r : Int32} (p0 p1 p2 p3 : Int32) (s : zx_S) (hr : zx_rI zX_sd Z cX5_endFits 4 .boolean r s) (h : zX_Program_endFits p0 p1 p2 p3 s = some r) : zW zX_sd Z 4 0 [(0, .int p0), (1, .int p1), (2, .int p2), (3, .int p3)] [] s := by
  unfold zX_Program_endFits at h
  refine zr_iload_n C dX5_endFits_0 (q := 1) rfl 0 rfl rfl ?_
  by_cases e0 : p0 = (0 : Int32)
  · rw [if_pos e0] at h
    refine zr_tableIn (tgt := 28) (off := 27) C dX5_endFits_1 (by rw [e0]; decide) (by rw [e0]; decide) (by rw [e0] <;> exact rfl) (by decide) ?_
    refine zr_iload_n C dX5_endFits_28 (q := 29) rfl 1 rfl rfl ?_
    obtain ⟨r5, hc_29, h⟩ := zx_b1_so h
    refine zr_csI (q := 32) C (As := [.int p1]) (rest := []) dX5_endFits_29 (zX_Program_isVariable_met C.2.2.2.2.1 C.2.2.2.1 hc_29) zX_sX5_39 ⟨by decide, by decide⟩ rfl (Nat.le_of_ble_eq_true rfl) rfl rfl ?_
    obtain ⟨hb9, h⟩ := zx_zr_so h
    exact zr_retZR dX5_endFits_32 hb9 h hr
  · rw [if_neg e0] at h
    by_cases e1 : p0 = (1 : Int32)
    · rw [if_pos e1] at h
      refine zr_tableIn (tgt := 33) (off := 32) C dX5_endFits_1 (by rw [e1]; decide) (by rw [e1]; decide) (by rw [e1] <;> exact rfl) (by decide) ?_
      refine zr_iload_n C dX5_endFits_33 (q := 34) rfl 2 rfl rfl ?_
      obtain ⟨r4, hc_34, h⟩ := zx_b1_so h
      refine zr_csI (q := 37) C (As := [.int p2]) (rest := []) dX5_endFits_34 (zX_Program_isBlockNumber_met C.2.2.2.2.1 C.2.2.2.1 hc_34) zX_sX5_43 ⟨by decide, by decide⟩ rfl (Nat.le_of_ble_eq_true rfl) rfl rfl ?_
      obtain ⟨hb9, h⟩ := zx_zr_so h
      exact zr_retZR dX5_endFits_37 hb9 h hr
    · rw [if_neg e1] at h
      by_cases e2 : p0 = (2 : Int32)
      · rw [if_pos e2] at h
        refine zr_tableIn (tgt := 38) (off := 37) C dX5_endFits_1 (by rw [e2]; decide) (by rw [e2]; decide) (by rw [e2] <;> exact rfl) (by decide) ?_
        refine zr_iload_n C dX5_endFits_38 (q := 39) rfl 1 rfl rfl ?_
        obtain ⟨r1, hc_39, h⟩ := zx_b1_so h
        refine zr_csI (q := 42) C (As := [.int p1]) (rest := []) dX5_endFits_39 (zX_Program_isVariable_met C.2.2.2.2.1 C.2.2.2.1 hc_39) zX_sX5_39 ⟨by decide, by decide⟩ rfl (Nat.le_of_ble_eq_true rfl) rfl rfl ?_
        refine zr_if_eq (tgt := 63) (q := 45) C dX5_endFits_42 h (by decide) rfl (fun h => ?_) (fun h => ?_)
        · skip
          refine zr_iconst C dX5_endFits_63 (q := 64) (v := (0 : Int32)) (by decide) rfl ?_
          exact zr_retZR dX5_endFits_64 (Or.inl rfl) h hr
        · skip
          refine zr_iload_n C dX5_endFits_45 (q := 46) rfl 2 rfl rfl ?_
          obtain ⟨r2, hc_46, h⟩ := zx_b1_so h
          refine zr_csI (q := 49) C (As := [.int p2]) (rest := []) dX5_endFits_46 (zX_Program_isBlockNumber_met C.2.2.2.2.1 C.2.2.2.1 hc_46) zX_sX5_43 ⟨by decide, by decide⟩ rfl (Nat.le_of_ble_eq_true rfl) rfl rfl ?_
          refine zr_if_eq (tgt := 63) (q := 52) C dX5_endFits_49 h (by decide) rfl (fun h => ?_) (fun h => ?_)
          · skip
            refine zr_iconst C dX5_endFits_63 (q := 64) (v := (0 : Int32)) (by decide) rfl ?_
            exact zr_retZR dX5_endFits_64 (Or.inl rfl) h hr
          · skip
            refine zr_iload_n C dX5_endFits_52 (q := 53) rfl 3 rfl rfl ?_
            obtain ⟨r3, hc_53, h⟩ := zx_b1_so h
            refine zr_csI (q := 56) C (As := [.int p3]) (rest := []) dX5_endFits_53 (zX_Program_isBlockNumber_met C.2.2.2.2.1 C.2.2.2.1 hc_53) zX_sX5_43 ⟨by decide, by decide⟩ rfl (Nat.le_of_ble_eq_true rfl) rfl rfl ?_
            refine zr_if_eq (tgt := 63) (q := 59) C dX5_endFits_56 h (by decide) rfl (fun h => ?_) (fun h => ?_)
            · skip
              refine zr_iconst C dX5_endFits_63 (q := 64) (v := (0 : Int32)) (by decide) rfl ?_
              exact zr_retZR dX5_endFits_64 (Or.inl rfl) h hr
            · skip
              refine zr_iconst C dX5_endFits_59 (q := 60) (v := (1 : Int32)) (by decide) rfl ?_
              refine zr_goto (q := 64) C dX5_endFits_60 (by decide) ?_
              exact zr_retZR dX5_endFits_64 (Or.inr rfl) h hr
      · rw [if_neg e2] at h
        refine zr_tableOut (tgt := 65) C dX5_endFits_1 (by have f0 := lv_neT (a := 0) e0 (by decide); have f1 := lv_neT (a := 1) e1 (by decide); have f2 := lv_neT (a := 2) e2 (by decide); omega) (by decide) ?_
        refine zr_iconst C dX5_endFits_65 (q := 66) (v := (0 : Int32)) (by decide) rfl ?_
        exact zr_retZR dX5_endFits_66 (Or.inl rfl) h hr
theorem zX_Program_endFits_met {l : Launch} {D : va_G} {cz : ClassId × ClassId} {ad : Nat → Nat} (hS : zx_So zX_sd) (hi : zx_I zX_sd ad) {p0 p1 p2 p3 : Int32} {s : zx_S} {v : Int32} (h : zX_Program_endFits p0 p1 p2 p3 s = some v) : zx_MI zX_sd l D cz ad yX5_endFits cX5_endFits 4 .boolean 1 20 [.int p0, .int p1, .int p2, .int p3] s v s := zx_metI hS hi (by decide +kernel) rfl (Nat.le_of_ble_eq_true rfl) (fun Z e1 e2 e3 e4 C hr => by subst e1 e2 e3 e4; exact zX_Program_endFits_w C p0 p1 p2 p3 s hr h)
set_option maxRecDepth 100000 in
set_option maxHeartbeats 4000000 in
theorem zX_Program_setEnd_J38_w {Z : zx_Z} (C : zx_ok zX_sd Z cX5_setEnd 6 RX5 0 0) {r : zx_S} (v1 v2 v5 t1 t2 : Int32) (s : zx_S) (hr : zx_rV zX_sd Z cX5_setEnd 6 r) (h : zX_Program_setEnd_J38 v1 v2 v5 t1 t2 s = some r) : zW zX_sd Z 6 38 [(0, .ref (zz_d Z 1)), (1, .int v1), (2, .int v2), (5, .int v5)] [.int t2, .int t1, .ref (zz_d Z 9)] s := by
  unfold zX_Program_setEnd_J38 at h
  obtain ⟨hin_38, h⟩ := zx_ck_so h
  refine zr_iast C dX5_setEnd_38 (q := 39) zX_a9 hin_38 rfl ?_
  refine zr_ls h (fun s3 h => ?_)
  refine zr_aload_n C dX5_setEnd_39 (q := 40) rfl 0 rfl rfl ?_
  refine zr_get C dX5_setEnd_40 (q := 43) zX_gX5_36_1 rfl ?_
  refine zr_iload_n C dX5_setEnd_43 (q := 44) rfl 1 rfl rfl ?_
  refine zr_iload_n C dX5_setEnd_44 (q := 45) rfl 2 rfl rfl ?_
  refine zr_iconst C dX5_setEnd_45 (q := 46) (v := (2 : Int32)) (by decide) rfl ?_
  refine zr_icmp_ne (tgt := 54) (q := 49) C dX5_setEnd_46 h (by decide) rfl (fun h => ?_) (fun h => ?_)
  · skip
    refine zr_aload_n C dX5_setEnd_54 (q := 55) rfl 0 rfl rfl ?_
    refine zr_get C dX5_setEnd_55 (q := 58) zX_gX5_33_1 rfl ?_
    refine zr_iload_n C dX5_setEnd_58 (q := 59) rfl 1 rfl rfl ?_
    obtain ⟨hin_59, h⟩ := zx_ck_so h
    refine zr_iald C dX5_setEnd_59 (q := 60) zX_a9 hin_59 rfl ?_
    refine zr_top h (fun x5 h => ?_)
    obtain ⟨hin_60, h⟩ := zx_ck_so h
    refine zr_iast C dX5_setEnd_60 (q := 61) zX_a10 hin_60 rfl ?_
    refine zr_ls h (fun s6 h => ?_)
    exact zr_retV dX5_setEnd_61 h hr
  · skip
    refine zr_iload C dX5_setEnd_49 (q := 51) 3 rfl rfl ?_
    refine zr_goto (q := 60) C dX5_setEnd_51 (by decide) ?_
    obtain ⟨hin_60, h⟩ := zx_ck_so h
    refine zr_iast C dX5_setEnd_60 (q := 61) zX_a10 hin_60 rfl ?_
    refine zr_ls h (fun s4 h => ?_)
    exact zr_retV dX5_setEnd_61 h hr
set_option maxRecDepth 100000 in
set_option maxHeartbeats 4000000 in
theorem zX_Program_setEnd_J22_w {Z : zx_Z} (C : zx_ok zX_sd Z cX5_setEnd 6 RX5 0 0) {r : zx_S} (v1 v2 v4 v5 t1 t2 : Int32) (s : zx_S) (hr : zx_rV zX_sd Z cX5_setEnd 6 r) (h : zX_Program_setEnd_J22 v1 v2 v4 v5 t1 t2 s = some r) : zW zX_sd Z 6 22 [(0, .ref (zz_d Z 1)), (1, .int v1), (2, .int v2), (4, .int v4), (5, .int v5)] [.int t2, .int t1, .ref (zz_d Z 8)] s := by
  unfold zX_Program_setEnd_J22 at h
  obtain ⟨hin_22, h⟩ := zx_ck_so h
  refine zr_iast C dX5_setEnd_22 (q := 23) zX_a8 hin_22 rfl ?_
  refine zr_ls h (fun s2 h => ?_)
  refine zr_aload_n C dX5_setEnd_23 (q := 24) rfl 0 rfl rfl ?_
  refine zr_get C dX5_setEnd_24 (q := 27) zX_gX5_33_1 rfl ?_
  refine zr_iload_n C dX5_setEnd_27 (q := 28) rfl 1 rfl rfl ?_
  refine zr_iload_n C dX5_setEnd_28 (q := 29) rfl 2 rfl rfl ?_
  refine zr_if_ne (tgt := 36) (q := 32) C dX5_setEnd_29 h (by decide) rfl (fun h => ?_) (fun h => ?_)
  · skip
    refine zr_iload C dX5_setEnd_36 (q := 38) 3 rfl rfl ?_
    exact zr_sub [0, 1, 2, 4] rfl (zX_Program_setEnd_J38_w C v1 v2 v5 v1 v4 s2 hr h)
  · skip
    refine zr_iconst C dX5_setEnd_32 (q := 33) (v := (0 : Int32)) (by decide) rfl ?_
    refine zr_goto (q := 38) C dX5_setEnd_33 (by decide) ?_
    exact zr_sub [0, 1, 2, 4] rfl (zX_Program_setEnd_J38_w C v1 v2 v5 v1 (0 : Int32) s2 hr h)
set_option maxRecDepth 100000 in
set_option maxHeartbeats 4000000 in
theorem zX_Program_setEnd_w {Z : zx_Z} (C : zx_ok zX_sd Z cX5_setEnd 6 RX5 0 0) {r : zx_S} (p1 p2 p3 p4 p5 : Int32) (s : zx_S) (hr : zx_rV zX_sd Z cX5_setEnd 6 r) (h : zX_Program_setEnd p1 p2 p3 p4 p5 s = some r) : zW zX_sd Z 6 0 [(0, .ref (zz_d Z 1)), (1, .int p1), (2, .int p2), (3, .int p3), (4, .int p4), (5, .int p5)] [] s := by
  unfold zX_Program_setEnd at h
  refine zr_aload_n C dX5_setEnd_0 (q := 1) rfl 0 rfl rfl ?_
  refine zr_get C dX5_setEnd_1 (q := 4) zX_gX5_27_1 rfl ?_
  refine zr_iload_n C dX5_setEnd_4 (q := 5) rfl 1 rfl rfl ?_
  refine zr_iload_n C dX5_setEnd_5 (q := 6) rfl 2 rfl rfl ?_
  obtain ⟨hin_6, h⟩ := zx_ck_so h
  refine zr_iast C dX5_setEnd_6 (q := 7) zX_a7 hin_6 rfl ?_
  refine zr_ls h (fun s1 h => ?_)
  refine zr_aload_n C dX5_setEnd_7 (q := 8) rfl 0 rfl rfl ?_
  refine zr_get C dX5_setEnd_8 (q := 11) zX_gX5_30_1 rfl ?_
  refine zr_iload_n C dX5_setEnd_11 (q := 12) rfl 1 rfl rfl ?_
  refine zr_iload_n C dX5_setEnd_12 (q := 13) rfl 2 rfl rfl ?_
  refine zr_iconst C dX5_setEnd_13 (q := 14) (v := (1 : Int32)) (by decide) rfl ?_
  refine zr_icmp_ne (tgt := 21) (q := 17) C dX5_setEnd_14 h (by decide) rfl (fun h => ?_) (fun h => ?_)
  · skip
    refine zr_iload_n C dX5_setEnd_21 (q := 22) rfl 3 rfl rfl ?_
    exact zr_sub [0, 1, 2, 4, 5] rfl (zX_Program_setEnd_J22_w C p1 p2 p4 p5 p1 p3 s1 hr h)
  · skip
    refine zr_iconst C dX5_setEnd_17 (q := 18) (v := (0 : Int32)) (by decide) rfl ?_
    refine zr_goto (q := 22) C dX5_setEnd_18 (by decide) ?_
    exact zr_sub [0, 1, 2, 4, 5] rfl (zX_Program_setEnd_J22_w C p1 p2 p4 p5 p1 (0 : Int32) s1 hr h)
theorem zX_Program_setEnd_met {l : Launch} {D : va_G} {cz : ClassId × ClassId} {ad : Nat → Nat} (hS : zx_So zX_sd) (hi : zx_I zX_sd ad) {p1 p2 p3 p4 p5 : Int32} {s : zx_S} {s1 : zx_S} (h : zX_Program_setEnd p1 p2 p3 p4 p5 s = some s1) : zx_MV zX_sd l D cz ad yX5_setEnd cX5_setEnd 6 0 0 [.ref (ad 1), .int p1, .int p2, .int p3, .int p4, .int p5] s s1 := zx_metV hS hi (by decide +kernel) rfl (Nat.le_of_ble_eq_true rfl) (fun Z e1 e2 e3 e4 C hr => by subst e1 e2 e3 e4; exact zX_Program_setEnd_w C p1 p2 p3 p4 p5 s hr h)
set_option maxRecDepth 100000 in
set_option maxHeartbeats 4000000 in
theorem zX_ValueBench_ends_w {Z : zx_Z} (C : zx_ok zX_sd Z cX10_ends 6 RX10 2 43) {r : Int32 × zx_S} (p1 p2 p3 p4 p5 : Int32) (s : zx_S) (hr : zx_rI zX_sd Z cX10_ends 6 .boolean r.1 r.2) (h : zX_ValueBench_ends p1 p2 p3 p4 p5 s = some r) : zW zX_sd Z 6 0 [(0, .ref (zz_d Z 0)), (1, .int p1), (2, .int p2), (3, .int p3), (4, .int p4), (5, .int p5)] [] s := by
  unfold zX_ValueBench_ends at h
  refine zr_aload_n C dX10_ends_0 (q := 1) rfl 0 rfl rfl ?_
  refine zr_get C dX10_ends_1 (q := 4) zX_gX10_12_0 rfl ?_
  refine zr_iload_n C dX10_ends_4 (q := 5) rfl 1 rfl rfl ?_
  obtain ⟨r1, hc_5, h⟩ := zx_b1_so h
  refine zr_cvI (q := 8) C (As := [.int p1]) (k := 1) (rest := []) dX10_ends_5 (zX_Program_has_met C.2.2.2.2.1 C.2.2.2.1 hc_5) zX_vX10_79 zX_o1 ⟨by decide, by decide⟩ rfl (Nat.le_of_ble_eq_true rfl) rfl rfl ?_
  refine zr_if_eq (tgt := 23) (q := 11) C dX10_ends_8 h (by decide) rfl (fun h => ?_) (fun h => ?_)
  · skip
    refine zr_iconst C dX10_ends_23 (q := 24) (v := (0 : Int32)) (by decide) rfl ?_
    exact zr_retZI dX10_ends_24 (Or.inl rfl) h hr
  · skip
    refine zr_iload_n C dX10_ends_11 (q := 12) rfl 2 rfl rfl ?_
    refine zr_iload_n C dX10_ends_12 (q := 13) rfl 3 rfl rfl ?_
    refine zr_iload C dX10_ends_13 (q := 15) 4 rfl rfl ?_
    refine zr_iload C dX10_ends_15 (q := 17) 5 rfl rfl ?_
    obtain ⟨r2, hc_17, h⟩ := zx_b1_so h
    refine zr_csI (q := 20) C (As := [.int p2, .int p3, .int p4, .int p5]) (rest := []) dX10_ends_17 (zX_Program_endFits_met C.2.2.2.2.1 C.2.2.2.1 hc_17) zX_sX10_95 ⟨by decide, by decide⟩ rfl (Nat.le_of_ble_eq_true rfl) rfl rfl ?_
    refine zr_if_ne (tgt := 25) (q := 23) C dX10_ends_20 h (by decide) rfl (fun h => ?_) (fun h => ?_)
    · skip
      refine zr_aload_n C dX10_ends_25 (q := 26) rfl 0 rfl rfl ?_
      refine zr_iconst C dX10_ends_26 (q := 27) (v := (1 : Int32)) (by decide) rfl ?_
      refine zr_put C dX10_ends_27 (q := 30) zX_pX10_71_0 (by decide) (by decide) rfl ?_
      refine zr_ls h (fun s3 h => ?_)
      refine zr_aload_n C dX10_ends_30 (q := 31) rfl 0 rfl rfl ?_
      refine zr_get C dX10_ends_31 (q := 34) zX_gX10_12_0 rfl ?_
      refine zr_iload_n C dX10_ends_34 (q := 35) rfl 1 rfl rfl ?_
      refine zr_iload_n C dX10_ends_35 (q := 36) rfl 2 rfl rfl ?_
      refine zr_iload_n C dX10_ends_36 (q := 37) rfl 3 rfl rfl ?_
      refine zr_iload C dX10_ends_37 (q := 39) 4 rfl rfl ?_
      refine zr_iload C dX10_ends_39 (q := 41) 5 rfl rfl ?_
      obtain ⟨s4, hc_41, h⟩ := zx_b1_so h
      refine zr_cvV (q := 44) C (As := [.int p1, .int p2, .int p3, .int p4, .int p5]) (k := 1) (rest := []) dX10_ends_41 (zX_Program_setEnd_met C.2.2.2.2.1 C.2.2.2.1 hc_41) zX_vX10_98 zX_o1 ⟨by decide, by decide⟩ rfl (Nat.le_of_ble_eq_true rfl) rfl rfl ?_
      refine zr_iconst C dX10_ends_44 (q := 45) (v := (1 : Int32)) (by decide) rfl ?_
      exact zr_retZI dX10_ends_45 (Or.inr rfl) h hr
    · skip
      refine zr_iconst C dX10_ends_23 (q := 24) (v := (0 : Int32)) (by decide) rfl ?_
      exact zr_retZI dX10_ends_24 (Or.inl rfl) h hr
theorem zX_ValueBench_ends_met {l : Launch} {D : va_G} {cz : ClassId × ClassId} {ad : Nat → Nat} (hS : zx_So zX_sd) (hi : zx_I zX_sd ad) {p1 p2 p3 p4 p5 : Int32} {s : zx_S} {v : Int32} {s1 : zx_S} (h : zX_ValueBench_ends p1 p2 p3 p4 p5 s = some (v, s1)) : zx_MI zX_sd l D cz ad yX10_ends cX10_ends 6 .boolean 2 43 [.ref (ad 0), .int p1, .int p2, .int p3, .int p4, .int p5] s v s1 := zx_metI hS hi (by decide +kernel) rfl (Nat.le_of_ble_eq_true rfl) (fun Z e1 e2 e3 e4 C hr => by subst e1 e2 e3 e4; exact zX_ValueBench_ends_w (r := (v, s1)) C p1 p2 p3 p4 p5 s hr h)
set_option maxRecDepth 100000 in
set_option maxHeartbeats 4000000 in
theorem zX_Arrays_fill_L5_w {Z : zx_Z} (C : zx_ok zX_sd Z cJ7_fill_53178 4 RJ7 0 0) {r : zx_S} (v1 v3 : Int32) {k20 : zx_S → Option zx_S} (hr : zx_rV zX_sd Z cJ7_fill_53178 4 r) (h20 : ∀ (s1 : zx_S), k20 s1 = some r → zW zX_sd Z 4 20 [] [] s1) : ∀ (n : Nat) (v2 : Int32) (s : zx_S), zX_Arrays_fill_L5 v1 v3 k20 n v2 s = some r → zW zX_sd Z 4 5 [(0, .ref (zz_d Z 2)), (1, .int v1), (2, .int v2), (3, .int v3)] [] s := by
  intro n
  induction n with
  | zero => intro v2 s h; unfold zX_Arrays_fill_L5 at h; cases h
  | succ n ih =>
    intro v2 s h
    unfold zX_Arrays_fill_L5 at h
    refine zr_iload_n C dJ7_fill_53178_5 (q := 6) rfl 2 rfl rfl ?_
    refine zr_iload_n C dJ7_fill_53178_6 (q := 7) rfl 3 rfl rfl ?_
    refine zr_icmp_ge (tgt := 20) (q := 10) C dJ7_fill_53178_7 h (by decide) rfl (fun h => ?_) (fun h => ?_)
    · skip
      exact zr_sub [] rfl (h20 s h)
    · skip
      refine zr_aload_n C dJ7_fill_53178_10 (q := 11) rfl 0 rfl rfl ?_
      refine zr_iload_n C dJ7_fill_53178_11 (q := 12) rfl 2 rfl rfl ?_
      refine zr_iload_n C dJ7_fill_53178_12 (q := 13) rfl 1 rfl rfl ?_
      obtain ⟨hin_13, h⟩ := zx_ck_so h
      refine zr_iast C dJ7_fill_53178_13 (q := 14) zX_a2 hin_13 rfl ?_
      refine zr_ls h (fun s1 h => ?_)
      refine zr_iinc C dJ7_fill_53178_14 (q := 17) h (by decide) 2 rfl (by decide) (lw := fun v2_2 => [(2, .int v2_2), (0, .ref (zz_d Z 2)), (1, .int v1), (3, .int v3)]) (fun _ => rfl) rfl (fun v2_2 h => ?_)
      refine zr_goto (q := 5) C dJ7_fill_53178_17 (by decide) ?_
      exact zr_sub [1, 2, 0, 3] rfl (ih v2_2 s1 h)
set_option maxRecDepth 100000 in
set_option maxHeartbeats 4000000 in
theorem zX_Arrays_fill_w {Z : zx_Z} (C : zx_ok zX_sd Z cJ7_fill_53178 4 RJ7 0 0) {r : zx_S} (p1 : Int32) (s : zx_S) (hr : zx_rV zX_sd Z cJ7_fill_53178 4 r) (h : zX_Arrays_fill p1 s = some r) : zW zX_sd Z 4 0 [(0, .ref (zz_d Z 2)), (1, .int p1)] [] s := by
  unfold zX_Arrays_fill at h
  refine zr_iconst C dJ7_fill_53178_0 (q := 1) (v := (0 : Int32)) (by decide) rfl ?_
  refine zr_istore_n C dJ7_fill_53178_1 (q := 2) rfl (by decide) (lv' := [(2, .int (0 : Int32)), (0, .ref (zz_d Z 2)), (1, .int p1)]) rfl rfl ?_
  refine zr_aload_n C dJ7_fill_53178_2 (q := 3) rfl 1 rfl rfl ?_
  refine zr_alen C dJ7_fill_53178_3 (q := 4) (x := (17 : Int32)) zX_a2 (by decide) rfl ?_
  refine zr_istore_n C dJ7_fill_53178_4 (q := 5) rfl (by decide) (lv' := [(3, .int (17 : Int32)), (2, .int (0 : Int32)), (0, .ref (zz_d Z 2)), (1, .int p1)]) rfl rfl ?_
  refine zr_sub [2, 3, 1, 0] rfl (zX_Arrays_fill_L5_w C p1 (17 : Int32) hr (fun s3 h => ?_) 10000 (0 : Int32) s h)
  · skip
    exact zr_retV dJ7_fill_53178_20 h hr
theorem zX_Arrays_fill_met {l : Launch} {D : va_G} {cz : ClassId × ClassId} {ad : Nat → Nat} (hS : zx_So zX_sd) (hi : zx_I zX_sd ad) {p1 : Int32} {s : zx_S} {s1 : zx_S} (h : zX_Arrays_fill p1 s = some s1) : zx_MV zX_sd l D cz ad yJ7_fill_53178 cJ7_fill_53178 4 0 0 [.ref (ad 2), .int p1] s s1 := zx_metV hS hi (by decide +kernel) rfl (Nat.le_of_ble_eq_true rfl) (fun Z e1 e2 e3 e4 C hr => by subst e1 e2 e3 e4; exact zX_Arrays_fill_w C p1 s hr h)
set_option maxRecDepth 100000 in
set_option maxHeartbeats 4000000 in
theorem zX_Arrays_fill_2_L5_w {Z : zx_Z} (C : zx_ok zX_sd Z cJ7_fill_53178 4 RJ7 0 0) {r : zx_S} (v1 v3 : Int32) {k20 : zx_S → Option zx_S} (hr : zx_rV zX_sd Z cJ7_fill_53178 4 r) (h20 : ∀ (s1 : zx_S), k20 s1 = some r → zW zX_sd Z 4 20 [] [] s1) : ∀ (n : Nat) (v2 : Int32) (s : zx_S), zX_Arrays_fill_2_L5 v1 v3 k20 n v2 s = some r → zW zX_sd Z 4 5 [(0, .ref (zz_d Z 7)), (1, .int v1), (2, .int v2), (3, .int v3)] [] s := by
  intro n
  induction n with
  | zero => intro v2 s h; unfold zX_Arrays_fill_2_L5 at h; cases h
  | succ n ih =>
    intro v2 s h
    unfold zX_Arrays_fill_2_L5 at h
    refine zr_iload_n C dJ7_fill_53178_5 (q := 6) rfl 2 rfl rfl ?_
    refine zr_iload_n C dJ7_fill_53178_6 (q := 7) rfl 3 rfl rfl ?_
    refine zr_icmp_ge (tgt := 20) (q := 10) C dJ7_fill_53178_7 h (by decide) rfl (fun h => ?_) (fun h => ?_)
    · skip
      exact zr_sub [] rfl (h20 s h)
    · skip
      refine zr_aload_n C dJ7_fill_53178_10 (q := 11) rfl 0 rfl rfl ?_
      refine zr_iload_n C dJ7_fill_53178_11 (q := 12) rfl 2 rfl rfl ?_
      refine zr_iload_n C dJ7_fill_53178_12 (q := 13) rfl 1 rfl rfl ?_
      obtain ⟨hin_13, h⟩ := zx_ck_so h
      refine zr_iast C dJ7_fill_53178_13 (q := 14) zX_a7 hin_13 rfl ?_
      refine zr_ls h (fun s1 h => ?_)
      refine zr_iinc C dJ7_fill_53178_14 (q := 17) h (by decide) 2 rfl (by decide) (lw := fun v2_2 => [(2, .int v2_2), (0, .ref (zz_d Z 7)), (1, .int v1), (3, .int v3)]) (fun _ => rfl) rfl (fun v2_2 h => ?_)
      refine zr_goto (q := 5) C dJ7_fill_53178_17 (by decide) ?_
      exact zr_sub [1, 2, 0, 3] rfl (ih v2_2 s1 h)
set_option maxRecDepth 100000 in
set_option maxHeartbeats 4000000 in
theorem zX_Arrays_fill_2_w {Z : zx_Z} (C : zx_ok zX_sd Z cJ7_fill_53178 4 RJ7 0 0) {r : zx_S} (p1 : Int32) (s : zx_S) (hr : zx_rV zX_sd Z cJ7_fill_53178 4 r) (h : zX_Arrays_fill_2 p1 s = some r) : zW zX_sd Z 4 0 [(0, .ref (zz_d Z 7)), (1, .int p1)] [] s := by
  unfold zX_Arrays_fill_2 at h
  refine zr_iconst C dJ7_fill_53178_0 (q := 1) (v := (0 : Int32)) (by decide) rfl ?_
  refine zr_istore_n C dJ7_fill_53178_1 (q := 2) rfl (by decide) (lv' := [(2, .int (0 : Int32)), (0, .ref (zz_d Z 7)), (1, .int p1)]) rfl rfl ?_
  refine zr_aload_n C dJ7_fill_53178_2 (q := 3) rfl 1 rfl rfl ?_
  refine zr_alen C dJ7_fill_53178_3 (q := 4) (x := (16 : Int32)) zX_a7 (by decide) rfl ?_
  refine zr_istore_n C dJ7_fill_53178_4 (q := 5) rfl (by decide) (lv' := [(3, .int (16 : Int32)), (2, .int (0 : Int32)), (0, .ref (zz_d Z 7)), (1, .int p1)]) rfl rfl ?_
  refine zr_sub [2, 3, 1, 0] rfl (zX_Arrays_fill_2_L5_w C p1 (16 : Int32) hr (fun s3 h => ?_) 10000 (0 : Int32) s h)
  · skip
    exact zr_retV dJ7_fill_53178_20 h hr
theorem zX_Arrays_fill_2_met {l : Launch} {D : va_G} {cz : ClassId × ClassId} {ad : Nat → Nat} (hS : zx_So zX_sd) (hi : zx_I zX_sd ad) {p1 : Int32} {s : zx_S} {s1 : zx_S} (h : zX_Arrays_fill_2 p1 s = some s1) : zx_MV zX_sd l D cz ad yJ7_fill_53178 cJ7_fill_53178 4 0 0 [.ref (ad 7), .int p1] s s1 := zx_metV hS hi (by decide +kernel) rfl (Nat.le_of_ble_eq_true rfl) (fun Z e1 e2 e3 e4 C hr => by subst e1 e2 e3 e4; exact zX_Arrays_fill_2_w C p1 s hr h)
set_option maxRecDepth 100000 in
set_option maxHeartbeats 4000000 in
theorem zX_Arrays_fill_3_L5_w {Z : zx_Z} (C : zx_ok zX_sd Z cJ7_fill_53178 4 RJ7 0 0) {r : zx_S} (v1 v3 : Int32) {k20 : zx_S → Option zx_S} (hr : zx_rV zX_sd Z cJ7_fill_53178 4 r) (h20 : ∀ (s1 : zx_S), k20 s1 = some r → zW zX_sd Z 4 20 [] [] s1) : ∀ (n : Nat) (v2 : Int32) (s : zx_S), zX_Arrays_fill_3_L5 v1 v3 k20 n v2 s = some r → zW zX_sd Z 4 5 [(0, .ref (zz_d Z 8)), (1, .int v1), (2, .int v2), (3, .int v3)] [] s := by
  intro n
  induction n with
  | zero => intro v2 s h; unfold zX_Arrays_fill_3_L5 at h; cases h
  | succ n ih =>
    intro v2 s h
    unfold zX_Arrays_fill_3_L5 at h
    refine zr_iload_n C dJ7_fill_53178_5 (q := 6) rfl 2 rfl rfl ?_
    refine zr_iload_n C dJ7_fill_53178_6 (q := 7) rfl 3 rfl rfl ?_
    refine zr_icmp_ge (tgt := 20) (q := 10) C dJ7_fill_53178_7 h (by decide) rfl (fun h => ?_) (fun h => ?_)
    · skip
      exact zr_sub [] rfl (h20 s h)
    · skip
      refine zr_aload_n C dJ7_fill_53178_10 (q := 11) rfl 0 rfl rfl ?_
      refine zr_iload_n C dJ7_fill_53178_11 (q := 12) rfl 2 rfl rfl ?_
      refine zr_iload_n C dJ7_fill_53178_12 (q := 13) rfl 1 rfl rfl ?_
      obtain ⟨hin_13, h⟩ := zx_ck_so h
      refine zr_iast C dJ7_fill_53178_13 (q := 14) zX_a8 hin_13 rfl ?_
      refine zr_ls h (fun s1 h => ?_)
      refine zr_iinc C dJ7_fill_53178_14 (q := 17) h (by decide) 2 rfl (by decide) (lw := fun v2_2 => [(2, .int v2_2), (0, .ref (zz_d Z 8)), (1, .int v1), (3, .int v3)]) (fun _ => rfl) rfl (fun v2_2 h => ?_)
      refine zr_goto (q := 5) C dJ7_fill_53178_17 (by decide) ?_
      exact zr_sub [1, 2, 0, 3] rfl (ih v2_2 s1 h)
set_option maxRecDepth 100000 in
set_option maxHeartbeats 4000000 in
theorem zX_Arrays_fill_3_w {Z : zx_Z} (C : zx_ok zX_sd Z cJ7_fill_53178 4 RJ7 0 0) {r : zx_S} (p1 : Int32) (s : zx_S) (hr : zx_rV zX_sd Z cJ7_fill_53178 4 r) (h : zX_Arrays_fill_3 p1 s = some r) : zW zX_sd Z 4 0 [(0, .ref (zz_d Z 8)), (1, .int p1)] [] s := by
  unfold zX_Arrays_fill_3 at h
  refine zr_iconst C dJ7_fill_53178_0 (q := 1) (v := (0 : Int32)) (by decide) rfl ?_
  refine zr_istore_n C dJ7_fill_53178_1 (q := 2) rfl (by decide) (lv' := [(2, .int (0 : Int32)), (0, .ref (zz_d Z 8)), (1, .int p1)]) rfl rfl ?_
  refine zr_aload_n C dJ7_fill_53178_2 (q := 3) rfl 1 rfl rfl ?_
  refine zr_alen C dJ7_fill_53178_3 (q := 4) (x := (16 : Int32)) zX_a8 (by decide) rfl ?_
  refine zr_istore_n C dJ7_fill_53178_4 (q := 5) rfl (by decide) (lv' := [(3, .int (16 : Int32)), (2, .int (0 : Int32)), (0, .ref (zz_d Z 8)), (1, .int p1)]) rfl rfl ?_
  refine zr_sub [2, 3, 1, 0] rfl (zX_Arrays_fill_3_L5_w C p1 (16 : Int32) hr (fun s3 h => ?_) 10000 (0 : Int32) s h)
  · skip
    exact zr_retV dJ7_fill_53178_20 h hr
theorem zX_Arrays_fill_3_met {l : Launch} {D : va_G} {cz : ClassId × ClassId} {ad : Nat → Nat} (hS : zx_So zX_sd) (hi : zx_I zX_sd ad) {p1 : Int32} {s : zx_S} {s1 : zx_S} (h : zX_Arrays_fill_3 p1 s = some s1) : zx_MV zX_sd l D cz ad yJ7_fill_53178 cJ7_fill_53178 4 0 0 [.ref (ad 8), .int p1] s s1 := zx_metV hS hi (by decide +kernel) rfl (Nat.le_of_ble_eq_true rfl) (fun Z e1 e2 e3 e4 C hr => by subst e1 e2 e3 e4; exact zX_Arrays_fill_3_w C p1 s hr h)
set_option maxRecDepth 100000 in
set_option maxHeartbeats 4000000 in
theorem zX_Program_forget_w {Z : zx_Z} (C : zx_ok zX_sd Z cX5_forget 1 RX5 1 23) {r : zx_S} (s : zx_S) (hr : zx_rV zX_sd Z cX5_forget 1 r) (h : zX_Program_forget s = some r) : zW zX_sd Z 1 0 [(0, .ref (zz_d Z 1))] [] s := by
  unfold zX_Program_forget at h
  refine zr_aload_n C dX5_forget_0 (q := 1) rfl 0 rfl rfl ?_
  refine zr_iconst C dX5_forget_1 (q := 2) (v := (0 : Int32)) (by decide) rfl ?_
  refine zr_put C dX5_forget_2 (q := 5) zX_pX5_46_1 rfl rfl rfl ?_
  refine zr_ls h (fun s1 h => ?_)
  refine zr_aload_n C dX5_forget_5 (q := 6) rfl 0 rfl rfl ?_
  refine zr_get C dX5_forget_6 (q := 9) zX_gX5_9_1 rfl ?_
  refine zr_iconst C dX5_forget_9 (q := 10) (v := (0 : Int32)) (by decide) rfl ?_
  obtain ⟨s2, hc_10, h⟩ := zx_b1_so h
  refine zr_csV (q := 13) C (As := [.ref (zz_d Z 2), .int (0 : Int32)]) (rest := []) dX5_forget_10 (zX_Arrays_fill_met C.2.2.2.2.1 C.2.2.2.1 hc_10) zX_sX5_64 ⟨by decide, by decide⟩ rfl (Nat.le_of_ble_eq_true rfl) rfl rfl ?_
  refine zr_aload_n C dX5_forget_13 (q := 14) rfl 0 rfl rfl ?_
  refine zr_get C dX5_forget_14 (q := 17) zX_gX5_27_1 rfl ?_
  refine zr_iconst C dX5_forget_17 (q := 18) (v := (0 : Int32)) (by decide) rfl ?_
  obtain ⟨s3, hc_18, h⟩ := zx_b1_so h
  refine zr_csV (q := 21) C (As := [.ref (zz_d Z 7), .int (0 : Int32)]) (rest := []) dX5_forget_18 (zX_Arrays_fill_2_met C.2.2.2.2.1 C.2.2.2.1 hc_18) zX_sX5_64 ⟨by decide, by decide⟩ rfl (Nat.le_of_ble_eq_true rfl) rfl rfl ?_
  refine zr_aload_n C dX5_forget_21 (q := 22) rfl 0 rfl rfl ?_
  refine zr_get C dX5_forget_22 (q := 25) zX_gX5_30_1 rfl ?_
  refine zr_iconst C dX5_forget_25 (q := 26) (v := (0 : Int32)) (by decide) rfl ?_
  obtain ⟨s4, hc_26, h⟩ := zx_b1_so h
  refine zr_csV (q := 29) C (As := [.ref (zz_d Z 8), .int (0 : Int32)]) (rest := []) dX5_forget_26 (zX_Arrays_fill_3_met C.2.2.2.2.1 C.2.2.2.1 hc_26) zX_sX5_64 ⟨by decide, by decide⟩ rfl (Nat.le_of_ble_eq_true rfl) rfl rfl ?_
  exact zr_retV dX5_forget_29 h hr
theorem zX_Program_forget_met {l : Launch} {D : va_G} {cz : ClassId × ClassId} {ad : Nat → Nat} (hS : zx_So zX_sd) (hi : zx_I zX_sd ad) {s : zx_S} {s1 : zx_S} (h : zX_Program_forget s = some s1) : zx_MV zX_sd l D cz ad yX5_forget cX5_forget 1 1 23 [.ref (ad 1)] s s1 := zx_metV hS hi (by decide +kernel) rfl (Nat.le_of_ble_eq_true rfl) (fun Z e1 e2 e3 e4 C hr => by subst e1 e2 e3 e4; exact zX_Program_forget_w C s hr h)
set_option maxRecDepth 100000 in
set_option maxHeartbeats 4000000 in
theorem zX_ValueBench_clear_w {Z : zx_Z} (C : zx_ok zX_sd Z cX10_clear 2 RX10 2 43) {r : Int32 × zx_S} (s : zx_S) (hr : zx_rI zX_sd Z cX10_clear 2 .int r.1 r.2) (h : zX_ValueBench_clear s = some r) : zW zX_sd Z 2 0 [(0, .ref (zz_d Z 0))] [] s := by
  unfold zX_ValueBench_clear at h
  refine zr_aload_n C dX10_clear_0 (q := 1) rfl 0 rfl rfl ?_
  refine zr_get C dX10_clear_1 (q := 4) zX_gX10_12_0 rfl ?_
  refine zr_get C dX10_clear_4 (q := 7) zX_gX10_75_1 rfl ?_
  refine zr_top h (fun v1_1 h => ?_)
  refine zr_istore_n C dX10_clear_7 (q := 8) rfl (by decide) (lv' := [(1, .int v1_1), (0, .ref (zz_d Z 0))]) rfl rfl ?_
  refine zr_aload_n C dX10_clear_8 (q := 9) rfl 1 rfl rfl ?_
  refine zr_iconst C dX10_clear_9 (q := 10) (v := (1 : Int32)) (by decide) rfl ?_
  refine zr_put C dX10_clear_10 (q := 13) zX_pX10_71_0 (by decide) (by decide) rfl ?_
  refine zr_ls h (fun s2 h => ?_)
  refine zr_aload_n C dX10_clear_13 (q := 14) rfl 1 rfl rfl ?_
  refine zr_get C dX10_clear_14 (q := 17) zX_gX10_12_0 rfl ?_
  obtain ⟨s3, hc_17, h⟩ := zx_b1_so h
  refine zr_cvV (q := 20) C (As := []) (k := 1) (rest := []) dX10_clear_17 (zX_Program_forget_met C.2.2.2.2.1 C.2.2.2.1 hc_17) zX_vX10_101 zX_o1 ⟨by decide, by decide⟩ rfl (Nat.le_of_ble_eq_true rfl) rfl rfl ?_
  refine zr_iload_n C dX10_clear_20 (q := 21) rfl 0 rfl rfl ?_
  exact zr_retI dX10_clear_21 h hr
theorem zX_ValueBench_clear_met {l : Launch} {D : va_G} {cz : ClassId × ClassId} {ad : Nat → Nat} (hS : zx_So zX_sd) (hi : zx_I zX_sd ad) {s : zx_S} {v : Int32} {s1 : zx_S} (h : zX_ValueBench_clear s = some (v, s1)) : zx_MI zX_sd l D cz ad yX10_clear cX10_clear 2 .int 2 43 [.ref (ad 0)] s v s1 := zx_metI hS hi (by decide +kernel) rfl (Nat.le_of_ble_eq_true rfl) (fun Z e1 e2 e3 e4 C hr => by subst e1 e2 e3 e4; exact zX_ValueBench_clear_w (r := (v, s1)) C s hr h)
set_option maxRecDepth 100000 in
set_option maxHeartbeats 4000000 in
theorem zX_Program_endCounts_w {Z : zx_Z} (C : zx_ok zX_sd Z cX5_endCounts 2 RX5 1 21) {r : Int32} (p1 : Int32) (s : zx_S) (hr : zx_rI zX_sd Z cX5_endCounts 2 .boolean r s) (h : zX_Program_endCounts p1 s = some r) : zW zX_sd Z 2 0 [(0, .ref (zz_d Z 1)), (1, .int p1)] [] s := by
  unfold zX_Program_endCounts at h
  refine zr_aload_n C dX5_endCounts_0 (q := 1) rfl 0 rfl rfl ?_
  refine zr_get C dX5_endCounts_1 (q := 4) zX_gX5_27_1 rfl ?_
  refine zr_iload_n C dX5_endCounts_4 (q := 5) rfl 1 rfl rfl ?_
  obtain ⟨hin_5, h⟩ := zx_ck_so h
  refine zr_iald C dX5_endCounts_5 (q := 6) zX_a7 hin_5 rfl ?_
  refine zr_if_eq (tgt := 35) (q := 9) C dX5_endCounts_6 h (by decide) rfl (fun h => ?_) (fun h => ?_)
  · skip
    refine zr_iconst C dX5_endCounts_35 (q := 36) (v := (1 : Int32)) (by decide) rfl ?_
    refine zr_goto (q := 40) C dX5_endCounts_36 (by decide) ?_
    exact zr_retZR dX5_endCounts_40 (Or.inr rfl) h hr
  · skip
    refine zr_aload_n C dX5_endCounts_9 (q := 10) rfl 0 rfl rfl ?_
    refine zr_aload_n C dX5_endCounts_10 (q := 11) rfl 0 rfl rfl ?_
    refine zr_get C dX5_endCounts_11 (q := 14) zX_gX5_33_1 rfl ?_
    refine zr_iload_n C dX5_endCounts_14 (q := 15) rfl 1 rfl rfl ?_
    obtain ⟨hin_15, h⟩ := zx_ck_so h
    refine zr_iald C dX5_endCounts_15 (q := 16) zX_a9 hin_15 rfl ?_
    obtain ⟨r1, hc_16, h⟩ := zx_b1_so h
    refine zr_cvI (q := 19) C (As := [.int (s 9 (p1).toNatClampNeg)]) (k := 1) (rest := []) dX5_endCounts_16 (zX_Program_has_met C.2.2.2.2.1 C.2.2.2.1 hc_16) zX_vX5_70 zX_o1 ⟨by decide, by decide⟩ rfl (Nat.le_of_ble_eq_true rfl) rfl rfl ?_
    refine zr_if_eq (tgt := 39) (q := 22) C dX5_endCounts_19 h (by decide) rfl (fun h => ?_) (fun h => ?_)
    · skip
      refine zr_iconst C dX5_endCounts_39 (q := 40) (v := (0 : Int32)) (by decide) rfl ?_
      exact zr_retZR dX5_endCounts_40 (Or.inl rfl) h hr
    · skip
      refine zr_aload_n C dX5_endCounts_22 (q := 23) rfl 0 rfl rfl ?_
      refine zr_aload_n C dX5_endCounts_23 (q := 24) rfl 0 rfl rfl ?_
      refine zr_get C dX5_endCounts_24 (q := 27) zX_gX5_36_1 rfl ?_
      refine zr_iload_n C dX5_endCounts_27 (q := 28) rfl 1 rfl rfl ?_
      obtain ⟨hin_28, h⟩ := zx_ck_so h
      refine zr_iald C dX5_endCounts_28 (q := 29) zX_a10 hin_28 rfl ?_
      obtain ⟨r2, hc_29, h⟩ := zx_b1_so h
      refine zr_cvI (q := 32) C (As := [.int (s 10 (p1).toNatClampNeg)]) (k := 1) (rest := []) dX5_endCounts_29 (zX_Program_has_met C.2.2.2.2.1 C.2.2.2.1 hc_29) zX_vX5_70 zX_o1 ⟨by decide, by decide⟩ rfl (Nat.le_of_ble_eq_true rfl) rfl rfl ?_
      refine zr_if_eq (tgt := 39) (q := 35) C dX5_endCounts_32 h (by decide) rfl (fun h => ?_) (fun h => ?_)
      · skip
        refine zr_iconst C dX5_endCounts_39 (q := 40) (v := (0 : Int32)) (by decide) rfl ?_
        exact zr_retZR dX5_endCounts_40 (Or.inl rfl) h hr
      · skip
        refine zr_iconst C dX5_endCounts_35 (q := 36) (v := (1 : Int32)) (by decide) rfl ?_
        refine zr_goto (q := 40) C dX5_endCounts_36 (by decide) ?_
        exact zr_retZR dX5_endCounts_40 (Or.inr rfl) h hr
theorem zX_Program_endCounts_met {l : Launch} {D : va_G} {cz : ClassId × ClassId} {ad : Nat → Nat} (hS : zx_So zX_sd) (hi : zx_I zX_sd ad) {p1 : Int32} {s : zx_S} {v : Int32} (h : zX_Program_endCounts p1 s = some v) : zx_MI zX_sd l D cz ad yX5_endCounts cX5_endCounts 2 .boolean 1 21 [.ref (ad 1), .int p1] s v s := zx_metI hS hi (by decide +kernel) rfl (Nat.le_of_ble_eq_true rfl) (fun Z e1 e2 e3 e4 C hr => by subst e1 e2 e3 e4; exact zX_Program_endCounts_w C p1 s hr h)
set_option maxRecDepth 100000 in
set_option maxHeartbeats 4000000 in
theorem zX_Program_howCounts_w {Z : zx_Z} (C : zx_ok zX_sd Z cX5_howCounts 2 RX5 2 42) {r : Int32} (p1 : Int32) (s : zx_S) (hr : zx_rI zX_sd Z cX5_howCounts 2 .int r s) (h : zX_Program_howCounts p1 s = some r) : zW zX_sd Z 2 0 [(0, .ref (zz_d Z 1)), (1, .int p1)] [] s := by
  unfold zX_Program_howCounts at h
  refine zr_aload_n C dX5_howCounts_0 (q := 1) rfl 0 rfl rfl ?_
  refine zr_iload_n C dX5_howCounts_1 (q := 2) rfl 1 rfl rfl ?_
  obtain ⟨r1, hc_2, h⟩ := zx_b1_so h
  refine zr_cvI (q := 5) C (As := [.int p1]) (k := 1) (rest := []) dX5_howCounts_2 (zX_Program_endCounts_met C.2.2.2.2.1 C.2.2.2.1 hc_2) zX_vX5_73 zX_o1 ⟨by decide, by decide⟩ rfl (Nat.le_of_ble_eq_true rfl) rfl rfl ?_
  refine zr_if_eq (tgt := 17) (q := 8) C dX5_howCounts_5 h (by decide) rfl (fun h => ?_) (fun h => ?_)
  · skip
    refine zr_iconst C dX5_howCounts_17 (q := 18) (v := (0 : Int32)) (by decide) rfl ?_
    exact zr_retR dX5_howCounts_18 h hr
  · skip
    refine zr_aload_n C dX5_howCounts_8 (q := 9) rfl 0 rfl rfl ?_
    refine zr_get C dX5_howCounts_9 (q := 12) zX_gX5_27_1 rfl ?_
    refine zr_iload_n C dX5_howCounts_12 (q := 13) rfl 1 rfl rfl ?_
    obtain ⟨hin_13, h⟩ := zx_ck_so h
    refine zr_iald C dX5_howCounts_13 (q := 14) zX_a7 hin_13 rfl ?_
    refine zr_goto (q := 18) C dX5_howCounts_14 (by decide) ?_
    exact zr_retR dX5_howCounts_18 h hr
theorem zX_Program_howCounts_met {l : Launch} {D : va_G} {cz : ClassId × ClassId} {ad : Nat → Nat} (hS : zx_So zX_sd) (hi : zx_I zX_sd ad) {p1 : Int32} {s : zx_S} {v : Int32} (h : zX_Program_howCounts p1 s = some v) : zx_MI zX_sd l D cz ad yX5_howCounts cX5_howCounts 2 .int 2 42 [.ref (ad 1), .int p1] s v s := zx_metI hS hi (by decide +kernel) rfl (Nat.le_of_ble_eq_true rfl) (fun Z e1 e2 e3 e4 C hr => by subst e1 e2 e3 e4; exact zX_Program_howCounts_w C p1 s hr h)
set_option maxRecDepth 100000 in
set_option maxHeartbeats 4000000 in
theorem zX_Program_toldBlocks_w {Z : zx_Z} (C : zx_ok zX_sd Z cX5_toldBlocks 2 RX5 3 63) {r : Int32} (p1 : Int32) (s : zx_S) (hr : zx_rI zX_sd Z cX5_toldBlocks 2 .int r s) (h : zX_Program_toldBlocks p1 s = some r) : zW zX_sd Z 2 0 [(0, .ref (zz_d Z 1)), (1, .int p1)] [] s := by
  unfold zX_Program_toldBlocks at h
  refine zr_aload_n C dX5_toldBlocks_0 (q := 1) rfl 0 rfl rfl ?_
  refine zr_iload_n C dX5_toldBlocks_1 (q := 2) rfl 1 rfl rfl ?_
  obtain ⟨r1, hc_2, h⟩ := zx_b1_so h
  refine zr_cvI (q := 5) C (As := [.int p1]) (k := 1) (rest := []) dX5_toldBlocks_2 (zX_Program_howCounts_met C.2.2.2.2.1 C.2.2.2.1 hc_2) zX_vX5_76 zX_o1 ⟨by decide, by decide⟩ rfl (Nat.le_of_ble_eq_true rfl) rfl rfl ?_
  refine zr_if_ne (tgt := 12) (q := 8) C dX5_toldBlocks_5 h (by decide) rfl (fun h => ?_) (fun h => ?_)
  · skip
    refine zr_iconst C dX5_toldBlocks_12 (q := 13) (v := (1 : Int32)) (by decide) rfl ?_
    refine zr_aload_n C dX5_toldBlocks_13 (q := 14) rfl 0 rfl rfl ?_
    refine zr_get C dX5_toldBlocks_14 (q := 17) zX_gX5_33_1 rfl ?_
    refine zr_iload_n C dX5_toldBlocks_17 (q := 18) rfl 1 rfl rfl ?_
    obtain ⟨hin_18, h⟩ := zx_ck_so h
    refine zr_iald C dX5_toldBlocks_18 (q := 19) zX_a9 hin_18 rfl ?_
    refine zr_ishl C dX5_toldBlocks_19 (q := 20) rfl ?_
    refine zr_iconst C dX5_toldBlocks_20 (q := 21) (v := (1 : Int32)) (by decide) rfl ?_
    refine zr_aload_n C dX5_toldBlocks_21 (q := 22) rfl 0 rfl rfl ?_
    refine zr_get C dX5_toldBlocks_22 (q := 25) zX_gX5_36_1 rfl ?_
    refine zr_iload_n C dX5_toldBlocks_25 (q := 26) rfl 1 rfl rfl ?_
    obtain ⟨hin_26, h⟩ := zx_ck_so h
    refine zr_iald C dX5_toldBlocks_26 (q := 27) zX_a10 hin_26 rfl ?_
    refine zr_ishl C dX5_toldBlocks_27 (q := 28) rfl ?_
    refine zr_ior C dX5_toldBlocks_28 (q := 29) rfl ?_
    exact zr_retR dX5_toldBlocks_29 h hr
  · skip
    refine zr_iconst C dX5_toldBlocks_8 (q := 9) (v := (0 : Int32)) (by decide) rfl ?_
    refine zr_goto (q := 29) C dX5_toldBlocks_9 (by decide) ?_
    exact zr_retR dX5_toldBlocks_29 h hr
theorem zX_Program_toldBlocks_met {l : Launch} {D : va_G} {cz : ClassId × ClassId} {ad : Nat → Nat} (hS : zx_So zX_sd) (hi : zx_I zX_sd ad) {p1 : Int32} {s : zx_S} {v : Int32} (h : zX_Program_toldBlocks p1 s = some v) : zx_MI zX_sd l D cz ad yX5_toldBlocks cX5_toldBlocks 2 .int 3 63 [.ref (ad 1), .int p1] s v s := zx_metI hS hi (by decide +kernel) rfl (Nat.le_of_ble_eq_true rfl) (fun Z e1 e2 e3 e4 C hr => by subst e1 e2 e3 e4; exact zX_Program_toldBlocks_w C p1 s hr h)
set_option maxRecDepth 100000 in
set_option maxHeartbeats 4000000 in
theorem zX_Graph_isIn_w {Z : zx_Z} (C : zx_ok zX_sd Z cX2_isIn 2 RX2 0 0) {r : Int32} (p0 p1 : Int32) (s : zx_S) (hr : zx_rI zX_sd Z cX2_isIn 2 .boolean r s) (h : zX_Graph_isIn p0 p1 s = some r) : zW zX_sd Z 2 0 [(0, .int p0), (1, .int p1)] [] s := by
  unfold zX_Graph_isIn at h
  refine zr_iload_n C dX2_isIn_0 (q := 1) rfl 0 rfl rfl ?_
  refine zr_iload_n C dX2_isIn_1 (q := 2) rfl 1 rfl rfl ?_
  refine zr_ishr C dX2_isIn_2 (q := 3) rfl ?_
  refine zr_iconst C dX2_isIn_3 (q := 4) (v := (1 : Int32)) (by decide) rfl ?_
  refine zr_iand C dX2_isIn_4 (q := 5) rfl ?_
  refine zr_if_eq (tgt := 12) (q := 8) C dX2_isIn_5 h (by decide) rfl (fun h => ?_) (fun h => ?_)
  · skip
    refine zr_iconst C dX2_isIn_12 (q := 13) (v := (0 : Int32)) (by decide) rfl ?_
    exact zr_retZR dX2_isIn_13 (Or.inl rfl) h hr
  · skip
    refine zr_iconst C dX2_isIn_8 (q := 9) (v := (1 : Int32)) (by decide) rfl ?_
    refine zr_goto (q := 13) C dX2_isIn_9 (by decide) ?_
    exact zr_retZR dX2_isIn_13 (Or.inr rfl) h hr
theorem zX_Graph_isIn_met {l : Launch} {D : va_G} {cz : ClassId × ClassId} {ad : Nat → Nat} (hS : zx_So zX_sd) (hi : zx_I zX_sd ad) {p0 p1 : Int32} {s : zx_S} {v : Int32} (h : zX_Graph_isIn p0 p1 s = some v) : zx_MI zX_sd l D cz ad yX2_isIn cX2_isIn 2 .boolean 0 0 [.int p0, .int p1] s v s := zx_metI hS hi (by decide +kernel) rfl (Nat.le_of_ble_eq_true rfl) (fun Z e1 e2 e3 e4 C hr => by subst e1 e2 e3 e4; exact zX_Graph_isIn_w C p0 p1 s hr h)
set_option maxRecDepth 100000 in
set_option maxHeartbeats 4000000 in
theorem zX_Graph_turnAround_L14_w {Z : zx_Z} (C : zx_ok zX_sd Z cX2_turnAround 4 RX2 1 21) {r : zx_S} (v2 : Int32) {k45 : zx_S → Option zx_S} (hr : zx_rV zX_sd Z cX2_turnAround 4 r) (h45 : ∀ (s1 : zx_S), k45 s1 = some r → zW zX_sd Z 4 45 [(0, .ref (zz_d Z 12)), (1, .ref (zz_d Z 13)), (2, .int v2)] [] s1) : ∀ (n : Nat) (v3 : Int32) (s : zx_S), zX_Graph_turnAround_L14 v2 k45 n v3 s = some r → zW zX_sd Z 4 14 [(0, .ref (zz_d Z 12)), (1, .ref (zz_d Z 13)), (2, .int v2), (3, .int v3)] [] s := by
  intro n
  induction n with
  | zero => intro v3 s h; unfold zX_Graph_turnAround_L14 at h; cases h
  | succ n ih =>
    intro v3 s h
    unfold zX_Graph_turnAround_L14 at h
    refine zr_iload_n C dX2_turnAround_14 (q := 15) rfl 3 rfl rfl ?_
    refine zr_bipush C dX2_turnAround_15 (q := 17) (v := (16 : Int32)) (by decide) rfl ?_
    refine zr_icmp_ge (tgt := 45) (q := 20) C dX2_turnAround_17 h (by decide) rfl (fun h => ?_) (fun h => ?_)
    · skip
      exact zr_sub [0, 1, 2] rfl (h45 s h)
    · skip
      refine zr_aload_n C dX2_turnAround_20 (q := 21) rfl 0 rfl rfl ?_
      refine zr_iload_n C dX2_turnAround_21 (q := 22) rfl 3 rfl rfl ?_
      obtain ⟨hin_22, h⟩ := zx_ck_so h
      refine zr_iald C dX2_turnAround_22 (q := 23) zX_a12 hin_22 rfl ?_
      refine zr_iload_n C dX2_turnAround_23 (q := 24) rfl 2 rfl rfl ?_
      obtain ⟨r2, hc_24, h⟩ := zx_b1_so h
      refine zr_csI (q := 27) C (As := [.int (s 12 (v3).toNatClampNeg), .int v2]) (rest := []) dX2_turnAround_24 (zX_Graph_isIn_met C.2.2.2.2.1 C.2.2.2.1 hc_24) zX_sX2_30 ⟨by decide, by decide⟩ rfl (Nat.le_of_ble_eq_true rfl) rfl rfl ?_
      refine zr_if_eq (tgt := 39) (q := 30) C dX2_turnAround_27 h (by decide) rfl (fun h => ?_) (fun h => ?_)
      · skip
        refine zr_iinc C dX2_turnAround_39 (q := 42) h (by decide) 3 rfl (by decide) (lw := fun v3_6 => [(3, .int v3_6), (0, .ref (zz_d Z 12)), (1, .ref (zz_d Z 13)), (2, .int v2)]) (fun _ => rfl) rfl (fun v3_6 h => ?_)
        refine zr_goto (q := 14) C dX2_turnAround_42 (by decide) ?_
        exact zr_sub [1, 2, 3, 0] rfl (ih v3_6 s h)
      · skip
        refine zr_aload_n C dX2_turnAround_30 (q := 31) rfl 1 rfl rfl ?_
        refine zr_iload_n C dX2_turnAround_31 (q := 32) rfl 2 rfl rfl ?_
        refine zr_dup2 C dX2_turnAround_32 (q := 33) rfl rfl rfl ?_
        obtain ⟨hin_33, h⟩ := zx_ck_so h
        refine zr_iald C dX2_turnAround_33 (q := 34) zX_a13 hin_33 rfl ?_
        refine zr_iconst C dX2_turnAround_34 (q := 35) (v := (1 : Int32)) (by decide) rfl ?_
        refine zr_iload_n C dX2_turnAround_35 (q := 36) rfl 3 rfl rfl ?_
        refine zr_ishl C dX2_turnAround_36 (q := 37) rfl ?_
        refine zr_ior C dX2_turnAround_37 (q := 38) rfl ?_
        refine zr_top h (fun x3 h => ?_)
        obtain ⟨hin_38, h⟩ := zx_ck_so h
        refine zr_iast C dX2_turnAround_38 (q := 39) zX_a13 hin_38 rfl ?_
        refine zr_ls h (fun s4 h => ?_)
        refine zr_iinc C dX2_turnAround_39 (q := 42) h (by decide) 3 rfl (by decide) (lw := fun v3_5 => [(3, .int v3_5), (0, .ref (zz_d Z 12)), (1, .ref (zz_d Z 13)), (2, .int v2)]) (fun _ => rfl) rfl (fun v3_5 h => ?_)
        refine zr_goto (q := 14) C dX2_turnAround_42 (by decide) ?_
        exact zr_sub [1, 2, 3, 0] rfl (ih v3_5 s4 h)
set_option maxRecDepth 100000 in
set_option maxHeartbeats 4000000 in
theorem zX_Graph_turnAround_L2_w {Z : zx_Z} (C : zx_ok zX_sd Z cX2_turnAround 4 RX2 1 21) {r : zx_S} {k51 : zx_S → Option zx_S} (hr : zx_rV zX_sd Z cX2_turnAround 4 r) (h51 : ∀ (s1 : zx_S), k51 s1 = some r → zW zX_sd Z 4 51 [] [] s1) : ∀ (n : Nat) (v2 : Int32) (s : zx_S), zX_Graph_turnAround_L2 k51 n v2 s = some r → zW zX_sd Z 4 2 [(0, .ref (zz_d Z 12)), (1, .ref (zz_d Z 13)), (2, .int v2)] [] s := by
  intro n
  induction n with
  | zero => intro v2 s h; unfold zX_Graph_turnAround_L2 at h; cases h
  | succ n ih =>
    intro v2 s h
    unfold zX_Graph_turnAround_L2 at h
    refine zr_iload_n C dX2_turnAround_2 (q := 3) rfl 2 rfl rfl ?_
    refine zr_bipush C dX2_turnAround_3 (q := 5) (v := (16 : Int32)) (by decide) rfl ?_
    refine zr_icmp_ge (tgt := 51) (q := 8) C dX2_turnAround_5 h (by decide) rfl (fun h => ?_) (fun h => ?_)
    · skip
      exact zr_sub [] rfl (h51 s h)
    · skip
      refine zr_aload_n C dX2_turnAround_8 (q := 9) rfl 1 rfl rfl ?_
      refine zr_iload_n C dX2_turnAround_9 (q := 10) rfl 2 rfl rfl ?_
      refine zr_iconst C dX2_turnAround_10 (q := 11) (v := (0 : Int32)) (by decide) rfl ?_
      obtain ⟨hin_11, h⟩ := zx_ck_so h
      refine zr_iast C dX2_turnAround_11 (q := 12) zX_a13 hin_11 rfl ?_
      refine zr_ls h (fun s1 h => ?_)
      refine zr_iconst C dX2_turnAround_12 (q := 13) (v := (0 : Int32)) (by decide) rfl ?_
      refine zr_istore_n C dX2_turnAround_13 (q := 14) rfl (by decide) (lv' := [(3, .int (0 : Int32)), (0, .ref (zz_d Z 12)), (1, .ref (zz_d Z 13)), (2, .int v2)]) rfl rfl ?_
      refine zr_sub [1, 2, 3, 0] rfl (zX_Graph_turnAround_L14_w C v2 hr (fun s7 h => ?_) 10000 (0 : Int32) s1 h)
      · skip
        refine zr_iinc C dX2_turnAround_45 (q := 48) h (by decide) 2 rfl (by decide) (lw := fun v2_8 => [(2, .int v2_8), (0, .ref (zz_d Z 12)), (1, .ref (zz_d Z 13))]) (fun _ => rfl) rfl (fun v2_8 h => ?_)
        refine zr_goto (q := 2) C dX2_turnAround_48 (by decide) ?_
        exact zr_sub [1, 2, 0] rfl (ih v2_8 s7 h)
set_option maxRecDepth 100000 in
set_option maxHeartbeats 4000000 in
theorem zX_Graph_turnAround_w {Z : zx_Z} (C : zx_ok zX_sd Z cX2_turnAround 4 RX2 1 21) {r : zx_S} (s : zx_S) (hr : zx_rV zX_sd Z cX2_turnAround 4 r) (h : zX_Graph_turnAround s = some r) : zW zX_sd Z 4 0 [(0, .ref (zz_d Z 12)), (1, .ref (zz_d Z 13))] [] s := by
  unfold zX_Graph_turnAround at h
  refine zr_iconst C dX2_turnAround_0 (q := 1) (v := (0 : Int32)) (by decide) rfl ?_
  refine zr_istore_n C dX2_turnAround_1 (q := 2) rfl (by decide) (lv' := [(2, .int (0 : Int32)), (0, .ref (zz_d Z 12)), (1, .ref (zz_d Z 13))]) rfl rfl ?_
  refine zr_sub [1, 2, 0] rfl (zX_Graph_turnAround_L2_w C hr (fun s9 h => ?_) 10000 (0 : Int32) s h)
  · skip
    exact zr_retV dX2_turnAround_51 h hr
theorem zX_Graph_turnAround_met {l : Launch} {D : va_G} {cz : ClassId × ClassId} {ad : Nat → Nat} (hS : zx_So zX_sd) (hi : zx_I zX_sd ad) {s : zx_S} {s1 : zx_S} (h : zX_Graph_turnAround s = some s1) : zx_MV zX_sd l D cz ad yX2_turnAround cX2_turnAround 4 1 21 [.ref (ad 12), .ref (ad 13)] s s1 := zx_metV hS hi (by decide +kernel) rfl (Nat.le_of_ble_eq_true rfl) (fun Z e1 e2 e3 e4 C hr => by subst e1 e2 e3 e4; exact zX_Graph_turnAround_w C s hr h)
set_option maxRecDepth 100000 in
set_option maxHeartbeats 4000000 in
theorem zX_Graph_union_L4_w {Z : zx_Z} (C : zx_ok zX_sd Z cX2_union 4 RX2 1 21) {r : Int32} (v0 : Int32) (s : zx_S) {k30 : Int32 → Option Int32} (hr : zx_rI zX_sd Z cX2_union 4 .int r s) (h30 : ∀ (a0 : Int32), k30 a0 = some r → zW zX_sd Z 4 30 [(2, .int a0)] [] s) : ∀ (n : Nat) (v2 : Int32) (v3 : Int32), zX_Graph_union_L4 v0 s k30 n v2 v3 = some r → zW zX_sd Z 4 4 [(0, .int v0), (1, .ref (zz_d Z 12)), (2, .int v2), (3, .int v3)] [] s := by
  intro n
  induction n with
  | zero => intro v2 v3 h; unfold zX_Graph_union_L4 at h; cases h
  | succ n ih =>
    intro v2 v3 h
    unfold zX_Graph_union_L4 at h
    refine zr_iload_n C dX2_union_4 (q := 5) rfl 3 rfl rfl ?_
    refine zr_bipush C dX2_union_5 (q := 7) (v := (16 : Int32)) (by decide) rfl ?_
    refine zr_icmp_ge (tgt := 30) (q := 10) C dX2_union_7 h (by decide) rfl (fun h => ?_) (fun h => ?_)
    · skip
      exact zr_sub [2] rfl (h30 v2 h)
    · skip
      refine zr_iload_n C dX2_union_10 (q := 11) rfl 0 rfl rfl ?_
      refine zr_iload_n C dX2_union_11 (q := 12) rfl 3 rfl rfl ?_
      obtain ⟨r1, hc_12, h⟩ := zx_b1_so h
      refine zr_csI (q := 15) C (As := [.int v0, .int v3]) (rest := []) dX2_union_12 (zX_Graph_isIn_met C.2.2.2.2.1 C.2.2.2.1 hc_12) zX_sX2_30 ⟨by decide, by decide⟩ rfl (Nat.le_of_ble_eq_true rfl) rfl rfl ?_
      refine zr_if_eq (tgt := 24) (q := 18) C dX2_union_15 h (by decide) rfl (fun h => ?_) (fun h => ?_)
      · skip
        refine zr_iinc C dX2_union_24 (q := 27) h (by decide) 3 rfl (by decide) (lw := fun v3_4 => [(3, .int v3_4), (0, .int v0), (1, .ref (zz_d Z 12)), (2, .int v2)]) (fun _ => rfl) rfl (fun v3_4 h => ?_)
        refine zr_goto (q := 4) C dX2_union_27 (by decide) ?_
        exact zr_sub [1, 2, 3, 0] rfl (ih v2 v3_4 h)
      · skip
        refine zr_iload_n C dX2_union_18 (q := 19) rfl 2 rfl rfl ?_
        refine zr_aload_n C dX2_union_19 (q := 20) rfl 1 rfl rfl ?_
        refine zr_iload_n C dX2_union_20 (q := 21) rfl 3 rfl rfl ?_
        obtain ⟨hin_21, h⟩ := zx_ck_so h
        refine zr_iald C dX2_union_21 (q := 22) zX_a12 hin_21 rfl ?_
        refine zr_ior C dX2_union_22 (q := 23) rfl ?_
        refine zr_top h (fun v2_2 h => ?_)
        refine zr_istore_n C dX2_union_23 (q := 24) rfl (by decide) (lv' := [(2, .int v2_2), (0, .int v0), (1, .ref (zz_d Z 12)), (3, .int v3)]) rfl rfl ?_
        refine zr_iinc C dX2_union_24 (q := 27) h (by decide) 3 rfl (by decide) (lw := fun v3_3 => [(3, .int v3_3), (2, .int v2_2), (0, .int v0), (1, .ref (zz_d Z 12))]) (fun _ => rfl) rfl (fun v3_3 h => ?_)
        refine zr_goto (q := 4) C dX2_union_27 (by decide) ?_
        exact zr_sub [2, 3, 1, 0] rfl (ih v2_2 v3_3 h)
set_option maxRecDepth 100000 in
set_option maxHeartbeats 4000000 in
theorem zX_Graph_union_w {Z : zx_Z} (C : zx_ok zX_sd Z cX2_union 4 RX2 1 21) {r : Int32} (p0 : Int32) (s : zx_S) (hr : zx_rI zX_sd Z cX2_union 4 .int r s) (h : zX_Graph_union p0 s = some r) : zW zX_sd Z 4 0 [(0, .int p0), (1, .ref (zz_d Z 12))] [] s := by
  unfold zX_Graph_union at h
  refine zr_iconst C dX2_union_0 (q := 1) (v := (0 : Int32)) (by decide) rfl ?_
  refine zr_istore_n C dX2_union_1 (q := 2) rfl (by decide) (lv' := [(2, .int (0 : Int32)), (0, .int p0), (1, .ref (zz_d Z 12))]) rfl rfl ?_
  refine zr_iconst C dX2_union_2 (q := 3) (v := (0 : Int32)) (by decide) rfl ?_
  refine zr_istore_n C dX2_union_3 (q := 4) rfl (by decide) (lv' := [(3, .int (0 : Int32)), (2, .int (0 : Int32)), (0, .int p0), (1, .ref (zz_d Z 12))]) rfl rfl ?_
  refine zr_sub [2, 3, 1, 0] rfl (zX_Graph_union_L4_w C p0 s hr (fun v2_5 h => ?_) 10000 (0 : Int32) (0 : Int32) h)
  · skip
    refine zr_iload_n C dX2_union_30 (q := 31) rfl 0 rfl rfl ?_
    exact zr_retR dX2_union_31 h hr
theorem zX_Graph_union_met {l : Launch} {D : va_G} {cz : ClassId × ClassId} {ad : Nat → Nat} (hS : zx_So zX_sd) (hi : zx_I zX_sd ad) {p0 : Int32} {s : zx_S} {v : Int32} (h : zX_Graph_union p0 s = some v) : zx_MI zX_sd l D cz ad yX2_union cX2_union 4 .int 1 21 [.int p0, .ref (ad 12)] s v s := zx_metI hS hi (by decide +kernel) rfl (Nat.le_of_ble_eq_true rfl) (fun Z e1 e2 e3 e4 C hr => by subst e1 e2 e3 e4; exact zX_Graph_union_w C p0 s hr h)
set_option maxRecDepth 100000 in
set_option maxHeartbeats 4000000 in
theorem zX_Graph_closure_L12_w {Z : zx_Z} (C : zx_ok zX_sd Z cX2_closure 6 RX2 2 44) {r : Int32} (v2 : Int32) (s : zx_S) {k46 : Int32 → Option Int32} (hr : zx_rI zX_sd Z cX2_closure 6 .int r s) (h46 : ∀ (a0 : Int32), k46 a0 = some r → zW zX_sd Z 6 46 [(3, .int a0)] [] s) : ∀ (n : Nat) (v3 : Int32) (v4 : Int32) (v5 : Int32), zX_Graph_closure_L12 v2 s k46 n v3 v4 v5 = some r → zW zX_sd Z 6 12 [(1, .ref (zz_d Z 12)), (2, .int v2), (3, .int v3), (4, .int v4), (5, .int v5)] [] s := by
  intro n
  induction n with
  | zero => intro v3 v4 v5 h; unfold zX_Graph_closure_L12 at h; cases h
  | succ n ih =>
    intro v3 v4 v5 h
    unfold zX_Graph_closure_L12 at h
    refine zr_iload C dX2_closure_12 (q := 14) 4 rfl rfl ?_
    refine zr_bipush C dX2_closure_14 (q := 16) (v := (16 : Int32)) (by decide) rfl ?_
    refine zr_icmp_ge (tgt := 46) (q := 19) C dX2_closure_16 h (by decide) rfl (fun h => ?_) (fun h => ?_)
    · skip
      exact zr_sub [2] rfl (h46 v3 h)
    · skip
      refine zr_iload_n C dX2_closure_19 (q := 20) rfl 2 rfl rfl ?_
      refine zr_iload C dX2_closure_20 (q := 22) 3 rfl rfl ?_
      refine zr_icmp_eq (tgt := 46) (q := 25) C dX2_closure_22 h (by decide) rfl (fun h => ?_) (fun h => ?_)
      · skip
        exact zr_sub [2] rfl (h46 v3 h)
      · skip
        refine zr_iload_n C dX2_closure_25 (q := 26) rfl 2 rfl rfl ?_
        refine zr_istore C dX2_closure_26 (q := 28) (by decide) (lv' := [(4, .int v3), (1, .ref (zz_d Z 12)), (2, .int v2), (3, .int v3), (5, .int v5)]) rfl rfl ?_
        refine zr_iload_n C dX2_closure_28 (q := 29) rfl 3 rfl rfl ?_
        refine zr_iload_n C dX2_closure_29 (q := 30) rfl 3 rfl rfl ?_
        refine zr_aload_n C dX2_closure_30 (q := 31) rfl 1 rfl rfl ?_
        obtain ⟨r2, hc_31, h⟩ := zx_b1_so h
        refine zr_csI (q := 34) C (As := [.int v3, .ref (zz_d Z 12)]) (rest := [.int v3]) dX2_closure_31 (zX_Graph_union_met C.2.2.2.2.1 C.2.2.2.1 hc_31) zX_sX2_40 ⟨by decide, by decide⟩ rfl (Nat.le_of_ble_eq_true rfl) rfl rfl ?_
        refine zr_iload_n C dX2_closure_34 (q := 35) rfl 2 rfl rfl ?_
        refine zr_iconst C dX2_closure_35 (q := 36) (v := (-1 : Int32)) (by decide) rfl ?_
        refine zr_ixor C dX2_closure_36 (q := 37) rfl ?_
        refine zr_iand C dX2_closure_37 (q := 38) rfl ?_
        refine zr_ior C dX2_closure_38 (q := 39) rfl ?_
        refine zr_top h (fun v3_3 h => ?_)
        refine zr_istore_n C dX2_closure_39 (q := 40) rfl (by decide) (lv' := [(3, .int v3_3), (4, .int v3), (1, .ref (zz_d Z 12)), (2, .int v2), (5, .int v5)]) rfl rfl ?_
        refine zr_iinc C dX2_closure_40 (q := 43) h (by decide) 4 rfl (by decide) (lw := fun v5_4 => [(5, .int v5_4), (3, .int v3_3), (4, .int v3), (1, .ref (zz_d Z 12)), (2, .int v2)]) (fun _ => rfl) rfl (fun v5_4 h => ?_)
        refine zr_goto (q := 12) C dX2_closure_43 (by decide) ?_
        exact zr_sub [3, 4, 1, 2, 0] rfl (ih v3_3 v3 v5_4 h)
set_option maxRecDepth 100000 in
set_option maxHeartbeats 4000000 in
theorem zX_Graph_closure_w {Z : zx_Z} (C : zx_ok zX_sd Z cX2_closure 6 RX2 2 44) {r : Int32} (p0 p2 : Int32) (s : zx_S) (hr : zx_rI zX_sd Z cX2_closure 6 .int r s) (h : zX_Graph_closure p0 p2 s = some r) : zW zX_sd Z 6 0 [(0, .int p0), (1, .ref (zz_d Z 12)), (2, .int p2)] [] s := by
  unfold zX_Graph_closure at h
  refine zr_iload_n C dX2_closure_0 (q := 1) rfl 0 rfl rfl ?_
  refine zr_iload_n C dX2_closure_1 (q := 2) rfl 2 rfl rfl ?_
  refine zr_iconst C dX2_closure_2 (q := 3) (v := (-1 : Int32)) (by decide) rfl ?_
  refine zr_ixor C dX2_closure_3 (q := 4) rfl ?_
  refine zr_iand C dX2_closure_4 (q := 5) rfl ?_
  refine zr_top h (fun v3_1 h => ?_)
  refine zr_istore_n C dX2_closure_5 (q := 6) rfl (by decide) (lv' := [(3, .int v3_1), (0, .int p0), (1, .ref (zz_d Z 12)), (2, .int p2)]) rfl rfl ?_
  refine zr_iconst C dX2_closure_6 (q := 7) (v := (0 : Int32)) (by decide) rfl ?_
  refine zr_istore C dX2_closure_7 (q := 9) (by decide) (lv' := [(4, .int (0 : Int32)), (3, .int v3_1), (0, .int p0), (1, .ref (zz_d Z 12)), (2, .int p2)]) rfl rfl ?_
  refine zr_iconst C dX2_closure_9 (q := 10) (v := (0 : Int32)) (by decide) rfl ?_
  refine zr_istore C dX2_closure_10 (q := 12) (by decide) (lv' := [(5, .int (0 : Int32)), (4, .int (0 : Int32)), (3, .int v3_1), (0, .int p0), (1, .ref (zz_d Z 12)), (2, .int p2)]) rfl rfl ?_
  refine zr_sub [4, 5, 2, 1, 0] rfl (zX_Graph_closure_L12_w C p2 s hr (fun v3_5 h => ?_) 10000 v3_1 (0 : Int32) (0 : Int32) h)
  · skip
    refine zr_iload_n C dX2_closure_46 (q := 47) rfl 0 rfl rfl ?_
    exact zr_retR dX2_closure_47 h hr
theorem zX_Graph_closure_met {l : Launch} {D : va_G} {cz : ClassId × ClassId} {ad : Nat → Nat} (hS : zx_So zX_sd) (hi : zx_I zX_sd ad) {p0 p2 : Int32} {s : zx_S} {v : Int32} (h : zX_Graph_closure p0 p2 s = some v) : zx_MI zX_sd l D cz ad yX2_closure cX2_closure 6 .int 2 44 [.int p0, .ref (ad 12), .int p2] s v s := zx_metI hS hi (by decide +kernel) rfl (Nat.le_of_ble_eq_true rfl) (fun Z e1 e2 e3 e4 C hr => by subst e1 e2 e3 e4; exact zX_Graph_closure_w C p0 p2 s hr h)
set_option maxRecDepth 100000 in
set_option maxHeartbeats 4000000 in
theorem zX_Graph_turnAround_2_L14_w {Z : zx_Z} (C : zx_ok zX_sd Z cX2_turnAround 4 RX2 1 21) {r : zx_S} (v2 : Int32) {k45 : zx_S → Option zx_S} (hr : zx_rV zX_sd Z cX2_turnAround 4 r) (h45 : ∀ (s1 : zx_S), k45 s1 = some r → zW zX_sd Z 4 45 [(0, .ref (zz_d Z 14)), (1, .ref (zz_d Z 15)), (2, .int v2)] [] s1) : ∀ (n : Nat) (v3 : Int32) (s : zx_S), zX_Graph_turnAround_2_L14 v2 k45 n v3 s = some r → zW zX_sd Z 4 14 [(0, .ref (zz_d Z 14)), (1, .ref (zz_d Z 15)), (2, .int v2), (3, .int v3)] [] s := by
  intro n
  induction n with
  | zero => intro v3 s h; unfold zX_Graph_turnAround_2_L14 at h; cases h
  | succ n ih =>
    intro v3 s h
    unfold zX_Graph_turnAround_2_L14 at h
    refine zr_iload_n C dX2_turnAround_14 (q := 15) rfl 3 rfl rfl ?_
    refine zr_bipush C dX2_turnAround_15 (q := 17) (v := (16 : Int32)) (by decide) rfl ?_
    refine zr_icmp_ge (tgt := 45) (q := 20) C dX2_turnAround_17 h (by decide) rfl (fun h => ?_) (fun h => ?_)
    · skip
      exact zr_sub [0, 1, 2] rfl (h45 s h)
    · skip
      refine zr_aload_n C dX2_turnAround_20 (q := 21) rfl 0 rfl rfl ?_
      refine zr_iload_n C dX2_turnAround_21 (q := 22) rfl 3 rfl rfl ?_
      obtain ⟨hin_22, h⟩ := zx_ck_so h
      refine zr_iald C dX2_turnAround_22 (q := 23) zX_a14 hin_22 rfl ?_
      refine zr_iload_n C dX2_turnAround_23 (q := 24) rfl 2 rfl rfl ?_
      obtain ⟨r2, hc_24, h⟩ := zx_b1_so h
      refine zr_csI (q := 27) C (As := [.int (s 14 (v3).toNatClampNeg), .int v2]) (rest := []) dX2_turnAround_24 (zX_Graph_isIn_met C.2.2.2.2.1 C.2.2.2.1 hc_24) zX_sX2_30 ⟨by decide, by decide⟩ rfl (Nat.le_of_ble_eq_true rfl) rfl rfl ?_
      refine zr_if_eq (tgt := 39) (q := 30) C dX2_turnAround_27 h (by decide) rfl (fun h => ?_) (fun h => ?_)
      · skip
        refine zr_iinc C dX2_turnAround_39 (q := 42) h (by decide) 3 rfl (by decide) (lw := fun v3_6 => [(3, .int v3_6), (0, .ref (zz_d Z 14)), (1, .ref (zz_d Z 15)), (2, .int v2)]) (fun _ => rfl) rfl (fun v3_6 h => ?_)
        refine zr_goto (q := 14) C dX2_turnAround_42 (by decide) ?_
        exact zr_sub [1, 2, 3, 0] rfl (ih v3_6 s h)
      · skip
        refine zr_aload_n C dX2_turnAround_30 (q := 31) rfl 1 rfl rfl ?_
        refine zr_iload_n C dX2_turnAround_31 (q := 32) rfl 2 rfl rfl ?_
        refine zr_dup2 C dX2_turnAround_32 (q := 33) rfl rfl rfl ?_
        obtain ⟨hin_33, h⟩ := zx_ck_so h
        refine zr_iald C dX2_turnAround_33 (q := 34) zX_a15 hin_33 rfl ?_
        refine zr_iconst C dX2_turnAround_34 (q := 35) (v := (1 : Int32)) (by decide) rfl ?_
        refine zr_iload_n C dX2_turnAround_35 (q := 36) rfl 3 rfl rfl ?_
        refine zr_ishl C dX2_turnAround_36 (q := 37) rfl ?_
        refine zr_ior C dX2_turnAround_37 (q := 38) rfl ?_
        refine zr_top h (fun x3 h => ?_)
        obtain ⟨hin_38, h⟩ := zx_ck_so h
        refine zr_iast C dX2_turnAround_38 (q := 39) zX_a15 hin_38 rfl ?_
        refine zr_ls h (fun s4 h => ?_)
        refine zr_iinc C dX2_turnAround_39 (q := 42) h (by decide) 3 rfl (by decide) (lw := fun v3_5 => [(3, .int v3_5), (0, .ref (zz_d Z 14)), (1, .ref (zz_d Z 15)), (2, .int v2)]) (fun _ => rfl) rfl (fun v3_5 h => ?_)
        refine zr_goto (q := 14) C dX2_turnAround_42 (by decide) ?_
        exact zr_sub [1, 2, 3, 0] rfl (ih v3_5 s4 h)
set_option maxRecDepth 100000 in
set_option maxHeartbeats 4000000 in
theorem zX_Graph_turnAround_2_L2_w {Z : zx_Z} (C : zx_ok zX_sd Z cX2_turnAround 4 RX2 1 21) {r : zx_S} {k51 : zx_S → Option zx_S} (hr : zx_rV zX_sd Z cX2_turnAround 4 r) (h51 : ∀ (s1 : zx_S), k51 s1 = some r → zW zX_sd Z 4 51 [] [] s1) : ∀ (n : Nat) (v2 : Int32) (s : zx_S), zX_Graph_turnAround_2_L2 k51 n v2 s = some r → zW zX_sd Z 4 2 [(0, .ref (zz_d Z 14)), (1, .ref (zz_d Z 15)), (2, .int v2)] [] s := by
  intro n
  induction n with
  | zero => intro v2 s h; unfold zX_Graph_turnAround_2_L2 at h; cases h
  | succ n ih =>
    intro v2 s h
    unfold zX_Graph_turnAround_2_L2 at h
    refine zr_iload_n C dX2_turnAround_2 (q := 3) rfl 2 rfl rfl ?_
    refine zr_bipush C dX2_turnAround_3 (q := 5) (v := (16 : Int32)) (by decide) rfl ?_
    refine zr_icmp_ge (tgt := 51) (q := 8) C dX2_turnAround_5 h (by decide) rfl (fun h => ?_) (fun h => ?_)
    · skip
      exact zr_sub [] rfl (h51 s h)
    · skip
      refine zr_aload_n C dX2_turnAround_8 (q := 9) rfl 1 rfl rfl ?_
      refine zr_iload_n C dX2_turnAround_9 (q := 10) rfl 2 rfl rfl ?_
      refine zr_iconst C dX2_turnAround_10 (q := 11) (v := (0 : Int32)) (by decide) rfl ?_
      obtain ⟨hin_11, h⟩ := zx_ck_so h
      refine zr_iast C dX2_turnAround_11 (q := 12) zX_a15 hin_11 rfl ?_
      refine zr_ls h (fun s1 h => ?_)
      refine zr_iconst C dX2_turnAround_12 (q := 13) (v := (0 : Int32)) (by decide) rfl ?_
      refine zr_istore_n C dX2_turnAround_13 (q := 14) rfl (by decide) (lv' := [(3, .int (0 : Int32)), (0, .ref (zz_d Z 14)), (1, .ref (zz_d Z 15)), (2, .int v2)]) rfl rfl ?_
      refine zr_sub [1, 2, 3, 0] rfl (zX_Graph_turnAround_2_L14_w C v2 hr (fun s7 h => ?_) 10000 (0 : Int32) s1 h)
      · skip
        refine zr_iinc C dX2_turnAround_45 (q := 48) h (by decide) 2 rfl (by decide) (lw := fun v2_8 => [(2, .int v2_8), (0, .ref (zz_d Z 14)), (1, .ref (zz_d Z 15))]) (fun _ => rfl) rfl (fun v2_8 h => ?_)
        refine zr_goto (q := 2) C dX2_turnAround_48 (by decide) ?_
        exact zr_sub [1, 2, 0] rfl (ih v2_8 s7 h)
set_option maxRecDepth 100000 in
set_option maxHeartbeats 4000000 in
theorem zX_Graph_turnAround_2_w {Z : zx_Z} (C : zx_ok zX_sd Z cX2_turnAround 4 RX2 1 21) {r : zx_S} (s : zx_S) (hr : zx_rV zX_sd Z cX2_turnAround 4 r) (h : zX_Graph_turnAround_2 s = some r) : zW zX_sd Z 4 0 [(0, .ref (zz_d Z 14)), (1, .ref (zz_d Z 15))] [] s := by
  unfold zX_Graph_turnAround_2 at h
  refine zr_iconst C dX2_turnAround_0 (q := 1) (v := (0 : Int32)) (by decide) rfl ?_
  refine zr_istore_n C dX2_turnAround_1 (q := 2) rfl (by decide) (lv' := [(2, .int (0 : Int32)), (0, .ref (zz_d Z 14)), (1, .ref (zz_d Z 15))]) rfl rfl ?_
  refine zr_sub [1, 2, 0] rfl (zX_Graph_turnAround_2_L2_w C hr (fun s9 h => ?_) 10000 (0 : Int32) s h)
  · skip
    exact zr_retV dX2_turnAround_51 h hr
theorem zX_Graph_turnAround_2_met {l : Launch} {D : va_G} {cz : ClassId × ClassId} {ad : Nat → Nat} (hS : zx_So zX_sd) (hi : zx_I zX_sd ad) {s : zx_S} {s1 : zx_S} (h : zX_Graph_turnAround_2 s = some s1) : zx_MV zX_sd l D cz ad yX2_turnAround cX2_turnAround 4 1 21 [.ref (ad 14), .ref (ad 15)] s s1 := zx_metV hS hi (by decide +kernel) rfl (Nat.le_of_ble_eq_true rfl) (fun Z e1 e2 e3 e4 C hr => by subst e1 e2 e3 e4; exact zX_Graph_turnAround_2_w C s hr h)
set_option maxRecDepth 100000 in
set_option maxHeartbeats 4000000 in
theorem zX_Graph_parentOf_L15_w {Z : zx_Z} (C : zx_ok zX_sd Z cX2_parentOf 4 RX2 1 21) {r : Int32} (v2 : Int32) (s : zx_S) {k39 : Int32 → Option Int32} (hr : zx_rI zX_sd Z cX2_parentOf 4 .int r s) (h39 : ∀ (a0 : Int32), k39 a0 = some r → zW zX_sd Z 4 39 [(3, .int a0)] [] s) : ∀ (n : Nat) (v3 : Int32), zX_Graph_parentOf_L15 v2 s k39 n v3 = some r → zW zX_sd Z 4 15 [(0, .ref (zz_d Z 11)), (2, .int v2), (3, .int v3)] [] s := by
  intro n
  induction n with
  | zero => intro v3 h; unfold zX_Graph_parentOf_L15 at h; cases h
  | succ n ih =>
    intro v3 h
    unfold zX_Graph_parentOf_L15 at h
    refine zr_iload_n C dX2_parentOf_15 (q := 16) rfl 2 rfl rfl ?_
    refine zr_bipush C dX2_parentOf_16 (q := 18) (v := (16 : Int32)) (by decide) rfl ?_
    refine zr_icmp_ge (tgt := 47) (q := 21) C dX2_parentOf_18 h (by decide) rfl (fun h => ?_) (fun h => ?_)
    · skip
      refine zr_iconst C dX2_parentOf_47 (q := 48) (v := (-1 : Int32)) (by decide) rfl ?_
      exact zr_retR dX2_parentOf_48 h hr
    · skip
      refine zr_iload_n C dX2_parentOf_21 (q := 22) rfl 1 rfl rfl ?_
      refine zr_iload_n C dX2_parentOf_22 (q := 23) rfl 2 rfl rfl ?_
      obtain ⟨r2, hc_23, h⟩ := zx_b1_so h
      refine zr_csI (q := 26) C (As := [.int v2, .int v3]) (rest := []) dX2_parentOf_23 (zX_Graph_isIn_met C.2.2.2.2.1 C.2.2.2.1 hc_23) zX_sX2_30 ⟨by decide, by decide⟩ rfl (Nat.le_of_ble_eq_true rfl) rfl rfl ?_
      refine zr_if_eq (tgt := 41) (q := 29) C dX2_parentOf_26 h (by decide) rfl (fun h => ?_) (fun h => ?_)
      · skip
        refine zr_iinc C dX2_parentOf_41 (q := 44) h (by decide) 2 rfl (by decide) (lw := fun v3_4 => [(3, .int v3_4), (0, .ref (zz_d Z 11)), (2, .int v2)]) (fun _ => rfl) rfl (fun v3_4 h => ?_)
        refine zr_goto (q := 15) C dX2_parentOf_44 (by decide) ?_
        exact zr_sub [1, 2, 0] rfl (ih v3_4 h)
      · skip
        refine zr_aload_n C dX2_parentOf_29 (q := 30) rfl 0 rfl rfl ?_
        refine zr_get C dX2_parentOf_30 (q := 33) zX_gX2_21_11 rfl ?_
        refine zr_iload_n C dX2_parentOf_33 (q := 34) rfl 2 rfl rfl ?_
        obtain ⟨hin_34, h⟩ := zx_ck_so h
        refine zr_iald C dX2_parentOf_34 (q := 35) zX_a15 hin_34 rfl ?_
        refine zr_iload_n C dX2_parentOf_35 (q := 36) rfl 1 rfl rfl ?_
        refine zr_icmp_ne (tgt := 41) (q := 39) C dX2_parentOf_36 h (by decide) rfl (fun h => ?_) (fun h => ?_)
        · skip
          refine zr_iinc C dX2_parentOf_41 (q := 44) h (by decide) 2 rfl (by decide) (lw := fun v3_3 => [(3, .int v3_3), (0, .ref (zz_d Z 11)), (2, .int v2)]) (fun _ => rfl) rfl (fun v3_3 h => ?_)
          refine zr_goto (q := 15) C dX2_parentOf_44 (by decide) ?_
          exact zr_sub [1, 2, 0] rfl (ih v3_3 h)
        · skip
          exact zr_sub [2] rfl (h39 v3 h)
set_option maxRecDepth 100000 in
set_option maxHeartbeats 4000000 in
theorem zX_Graph_parentOf_w {Z : zx_Z} (C : zx_ok zX_sd Z cX2_parentOf 4 RX2 1 21) {r : Int32} (p1 : Int32) (s : zx_S) (hr : zx_rI zX_sd Z cX2_parentOf 4 .int r s) (h : zX_Graph_parentOf p1 s = some r) : zW zX_sd Z 4 0 [(0, .ref (zz_d Z 11)), (1, .int p1)] [] s := by
  unfold zX_Graph_parentOf at h
  refine zr_aload_n C dX2_parentOf_0 (q := 1) rfl 0 rfl rfl ?_
  refine zr_get C dX2_parentOf_1 (q := 4) zX_gX2_21_11 rfl ?_
  refine zr_iload_n C dX2_parentOf_4 (q := 5) rfl 1 rfl rfl ?_
  obtain ⟨hin_5, h⟩ := zx_ck_so h
  refine zr_iald C dX2_parentOf_5 (q := 6) zX_a15 hin_5 rfl ?_
  refine zr_iconst C dX2_parentOf_6 (q := 7) (v := (1 : Int32)) (by decide) rfl ?_
  refine zr_iload_n C dX2_parentOf_7 (q := 8) rfl 1 rfl rfl ?_
  refine zr_ishl C dX2_parentOf_8 (q := 9) rfl ?_
  refine zr_iconst C dX2_parentOf_9 (q := 10) (v := (-1 : Int32)) (by decide) rfl ?_
  refine zr_ixor C dX2_parentOf_10 (q := 11) rfl ?_
  refine zr_iand C dX2_parentOf_11 (q := 12) rfl ?_
  refine zr_top h (fun v2_1 h => ?_)
  refine zr_istore_n C dX2_parentOf_12 (q := 13) rfl (by decide) (lv' := [(2, .int v2_1), (0, .ref (zz_d Z 11)), (1, .int p1)]) rfl rfl ?_
  refine zr_iconst C dX2_parentOf_13 (q := 14) (v := (0 : Int32)) (by decide) rfl ?_
  refine zr_istore_n C dX2_parentOf_14 (q := 15) rfl (by decide) (lv' := [(3, .int (0 : Int32)), (2, .int v2_1), (0, .ref (zz_d Z 11)), (1, .int p1)]) rfl rfl ?_
  refine zr_sub [2, 1, 0] rfl (zX_Graph_parentOf_L15_w C v2_1 s hr (fun v3_5 h => ?_) 10000 (0 : Int32) h)
  · skip
    refine zr_iload_n C dX2_parentOf_39 (q := 40) rfl 0 rfl rfl ?_
    exact zr_retR dX2_parentOf_40 h hr
theorem zX_Graph_parentOf_met {l : Launch} {D : va_G} {cz : ClassId × ClassId} {ad : Nat → Nat} (hS : zx_So zX_sd) (hi : zx_I zX_sd ad) {p1 : Int32} {s : zx_S} {v : Int32} (h : zX_Graph_parentOf p1 s = some v) : zx_MI zX_sd l D cz ad yX2_parentOf cX2_parentOf 4 .int 1 21 [.ref (ad 11), .int p1] s v s := zx_metI hS hi (by decide +kernel) rfl (Nat.le_of_ble_eq_true rfl) (fun Z e1 e2 e3 e4 C hr => by subst e1 e2 e3 e4; exact zX_Graph_parentOf_w C p1 s hr h)
end
