theorem zw_0 : Cond.selects "ValueBench" ⟨"ValueBench", "refresh", "()V"⟩ ⟨"ValueBench", "refresh", "()V"⟩ ∈ zx_W := zx_in 0 (by decide +kernel) rfl
theorem zw_1 : Cond.selects "ValueBench$Program" ⟨"ValueBench$Program", "endCounts", "(I)Z"⟩ ⟨"ValueBench$Program", "endCounts", "(I)Z"⟩ ∈ zx_W := zx_in 1 (by decide +kernel) rfl
theorem zw_2 : Cond.selects "ValueBench$Graph" ⟨"ValueBench$Graph", "parentOf", "(I)I"⟩ ⟨"ValueBench$Graph", "parentOf", "(I)I"⟩ ∈ zx_W := zx_in 2 (by decide +kernel) rfl
theorem zw_3 : Cond.selects "ValueBench$Graph" ⟨"ValueBench$Graph", "frontierOf", "(I)I"⟩ ⟨"ValueBench$Graph", "frontierOf", "(I)I"⟩ ∈ zx_W := zx_in 3 (by decide +kernel) rfl
theorem zw_4 : Cond.selects "ValueBench$Values" ⟨"ValueBench$Values", "placeChoices", "(LValueBench$Program;LValueBench$Graph;)V"⟩ ⟨"ValueBench$Values", "placeChoices", "(LValueBench$Program;LValueBench$Graph;)V"⟩ ∈ zx_W := zx_in 4 (by decide +kernel) rfl
theorem zw_5 : Cond.selects "ValueBench$Values" ⟨"ValueBench$Values", "numberAll", "(LValueBench$Program;LValueBench$Graph;)V"⟩ ⟨"ValueBench$Values", "numberAll", "(LValueBench$Program;LValueBench$Graph;)V"⟩ ∈ zx_W := zx_in 5 (by decide +kernel) rfl
theorem zw_6 : Cond.selects "ValueBench$Values" ⟨"ValueBench$Values", "add", "(IIIII)V"⟩ ⟨"ValueBench$Values", "add", "(IIIII)V"⟩ ∈ zx_W := zx_in 6 (by decide +kernel) rfl
theorem zw_7 : Cond.selects "ValueBench$Values" ⟨"ValueBench$Values", "numberChoices", "(LValueBench$Graph;I)V"⟩ ⟨"ValueBench$Values", "numberChoices", "(LValueBench$Graph;I)V"⟩ ∈ zx_W := zx_in 7 (by decide +kernel) rfl
theorem zw_8 : Cond.selects "ValueBench$Values" ⟨"ValueBench$Values", "numberInstructions", "(LValueBench$Program;I)V"⟩ ⟨"ValueBench$Values", "numberInstructions", "(LValueBench$Program;I)V"⟩ ∈ zx_W := zx_in 8 (by decide +kernel) rfl
theorem zw_9 : Cond.selects "ValueBench$Values" ⟨"ValueBench$Values", "beginBlock", "(LValueBench$Graph;I)V"⟩ ⟨"ValueBench$Values", "beginBlock", "(LValueBench$Graph;I)V"⟩ ∈ zx_W := zx_in 9 (by decide +kernel) rfl
theorem zw_10 : Cond.selects "ValueBench$Values" ⟨"ValueBench$Values", "followBlock", "(LValueBench$Program;I)V"⟩ ⟨"ValueBench$Values", "followBlock", "(LValueBench$Program;I)V"⟩ ∈ zx_W := zx_in 10 (by decide +kernel) rfl
theorem zw_11 : Cond.selects "ValueBench$Values" ⟨"ValueBench$Values", "fillChoices", "(LValueBench$Graph;)V"⟩ ⟨"ValueBench$Values", "fillChoices", "(LValueBench$Graph;)V"⟩ ∈ zx_W := zx_in 11 (by decide +kernel) rfl
theorem zw_12 : Cond.selects "ValueBench$Values" ⟨"ValueBench$Values", "fillChoice", "(II)V"⟩ ⟨"ValueBench$Values", "fillChoice", "(II)V"⟩ ∈ zx_W := zx_in 12 (by decide +kernel) rfl
theorem zw_13 : Cond.selects "ValueBench$Classes" ⟨"ValueBench$Classes", "leastAlike", "(LValueBench$Values;I)I"⟩ ⟨"ValueBench$Classes", "leastAlike", "(LValueBench$Values;I)I"⟩ ∈ zx_W := zx_in 13 (by decide +kernel) rfl
theorem zw_14 : Cond.selects "ValueBench$Classes" ⟨"ValueBench$Classes", "partFiner", "(LValueBench$Values;)Z"⟩ ⟨"ValueBench$Classes", "partFiner", "(LValueBench$Values;)Z"⟩ ∈ zx_W := zx_in 14 (by decide +kernel) rfl
theorem zw_15 : Cond.selects "ValueBench$Classes" ⟨"ValueBench$Classes", "leastTogether", "(LValueBench$Values;I)I"⟩ ⟨"ValueBench$Classes", "leastTogether", "(LValueBench$Values;I)I"⟩ ∈ zx_W := zx_in 15 (by decide +kernel) rfl
theorem zw_16 : Cond.selects "ValueBench$Classes" ⟨"ValueBench$Classes", "operandsAgree", "(LValueBench$Values;II)Z"⟩ ⟨"ValueBench$Classes", "operandsAgree", "(LValueBench$Values;II)Z"⟩ ∈ zx_W := zx_in 16 (by decide +kernel) rfl
theorem zw_17 : Cond.selects "ValueBench$Classes" ⟨"ValueBench$Classes", "together", "(LValueBench$Values;II)Z"⟩ ⟨"ValueBench$Classes", "together", "(LValueBench$Values;II)Z"⟩ ∈ zx_W := zx_in 17 (by decide +kernel) rfl
theorem zw_18 : Cond.selects "ValueBench$Leaders" ⟨"ValueBench$Leaders", "leadOperands", "(LValueBench$Graph;LValueBench$Values;LValueBench$Classes;I)V"⟩ ⟨"ValueBench$Leaders", "leadOperands", "(LValueBench$Graph;LValueBench$Values;LValueBench$Classes;I)V"⟩ ∈ zx_W := zx_in 18 (by decide +kernel) rfl
theorem zw_19 : Cond.selects "ValueBench$Leaders" ⟨"ValueBench$Leaders", "leader", "(LValueBench$Graph;LValueBench$Values;LValueBench$Classes;II)I"⟩ ⟨"ValueBench$Leaders", "leader", "(LValueBench$Graph;LValueBench$Values;LValueBench$Classes;II)I"⟩ ∈ zx_W := zx_in 19 (by decide +kernel) rfl
theorem zw_20 : Cond.selects "ValueBench$Leaders" ⟨"ValueBench$Leaders", "leadEmits", "(LValueBench$Program;LValueBench$Graph;LValueBench$Values;LValueBench$Classes;I)V"⟩ ⟨"ValueBench$Leaders", "leadEmits", "(LValueBench$Program;LValueBench$Graph;LValueBench$Values;LValueBench$Classes;I)V"⟩ ∈ zx_W := zx_in 20 (by decide +kernel) rfl
theorem zw_21 : Cond.selects "ValueBench" ⟨"ValueBench", "aboutReached", "(II)I"⟩ ⟨"ValueBench", "aboutReached", "(II)I"⟩ ∈ zx_W := zx_in 21 (by decide +kernel) rfl
theorem zw_22 : Cond.selects "ValueBench" ⟨"ValueBench", "readsOf", "(Z)LValueBench$Reads;"⟩ ⟨"ValueBench", "readsOf", "(Z)LValueBench$Reads;"⟩ ∈ zx_W := zx_in 22 (by decide +kernel) rfl
theorem zw_23 : Cond.selects "ValueBench$ValueForm" ⟨"ValueBench$ValueForm", "goes", "(I)Z"⟩ ⟨"ValueBench$ValueForm", "goes", "(I)Z"⟩ ∈ zx_W := zx_in 23 (by decide +kernel) rfl
theorem zw_24 : Cond.selects "ValueBench$Machine" ⟨"ValueBench$Machine", "followBlock", "(LValueBench$Form;)Z"⟩ ⟨"ValueBench$Machine", "followBlock", "(LValueBench$Form;)Z"⟩ ∈ zx_W := zx_in 24 (by decide +kernel) rfl
theorem zw_25 : Cond.selects "ValueBench$Machine" ⟨"ValueBench$Machine", "pay", "()Z"⟩ ⟨"ValueBench$Machine", "pay", "()Z"⟩ ∈ zx_W := zx_in 25 (by decide +kernel) rfl
theorem zw_26 : Cond.selects "ValueBench$Machine" ⟨"ValueBench$Machine", "follow", "(LValueBench$Form;I)V"⟩ ⟨"ValueBench$Machine", "follow", "(LValueBench$Form;I)V"⟩ ∈ zx_W := zx_in 26 (by decide +kernel) rfl
theorem zw_27 : Cond.selects "ValueBench$Machine" ⟨"ValueBench$Machine", "tell", "(I)V"⟩ ⟨"ValueBench$Machine", "tell", "(I)V"⟩ ∈ zx_W := zx_in 27 (by decide +kernel) rfl
theorem zw_28 : Cond.selects "ValueBenchModel" ⟨"ValueBenchModel", "isBlock", "(I)Z"⟩ ⟨"ValueBenchModel", "isBlock", "(I)Z"⟩ ∈ zx_W := zx_in 28 (by decide +kernel) rfl
theorem zw_29 : Cond.selects "ValueBenchModel" ⟨"ValueBenchModel", "make", "()V"⟩ ⟨"ValueBenchModel", "make", "()V"⟩ ∈ zx_W := zx_in 29 (by decide +kernel) rfl
theorem zw_30 : Cond.selects "ValueBenchModel" ⟨"ValueBenchModel", "dominance", "()V"⟩ ⟨"ValueBenchModel", "dominance", "()V"⟩ ∈ zx_W := zx_in 30 (by decide +kernel) rfl
theorem zw_31 : Cond.selects "ValueBenchModel" ⟨"ValueBenchModel", "meet", "(I)V"⟩ ⟨"ValueBenchModel", "meet", "(I)V"⟩ ∈ zx_W := zx_in 31 (by decide +kernel) rfl
theorem zw_32 : Cond.selects "ValueBenchModel" ⟨"ValueBenchModel", "leads", "(II)Z"⟩ ⟨"ValueBenchModel", "leads", "(II)Z"⟩ ∈ zx_W := zx_in 32 (by decide +kernel) rfl
theorem zw_33 : Cond.selects "ValueBenchModel" ⟨"ValueBenchModel", "howOf", "(I)I"⟩ ⟨"ValueBenchModel", "howOf", "(I)I"⟩ ∈ zx_W := zx_in 33 (by decide +kernel) rfl
theorem zw_34 : Cond.selects "ValueBenchModel" ⟨"ValueBenchModel", "dominates1", "(II)Z"⟩ ⟨"ValueBenchModel", "dominates1", "(II)Z"⟩ ∈ zx_W := zx_in 34 (by decide +kernel) rfl
theorem zw_35 : Cond.selects "ValueBenchModel" ⟨"ValueBenchModel", "choices", "()V"⟩ ⟨"ValueBenchModel", "choices", "()V"⟩ ∈ zx_W := zx_in 35 (by decide +kernel) rfl
theorem zw_36 : Cond.selects "ValueBenchModel" ⟨"ValueBenchModel", "gives", "(II)Z"⟩ ⟨"ValueBenchModel", "gives", "(II)Z"⟩ ∈ zx_W := zx_in 36 (by decide +kernel) rfl
theorem zw_37 : Cond.selects "ValueBenchModel" ⟨"ValueBenchModel", "numbers", "()V"⟩ ⟨"ValueBenchModel", "numbers", "()V"⟩ ∈ zx_W := zx_in 37 (by decide +kernel) rfl
theorem zw_38 : Cond.selects "ValueBenchModel" ⟨"ValueBenchModel", "comes", "(IIIII)I"⟩ ⟨"ValueBenchModel", "comes", "(IIIII)I"⟩ ∈ zx_W := zx_in 38 (by decide +kernel) rfl
theorem zw_39 : Cond.selects "ValueBenchModel" ⟨"ValueBenchModel", "names", "()V"⟩ ⟨"ValueBenchModel", "names", "()V"⟩ ∈ zx_W := zx_in 39 (by decide +kernel) rfl
theorem zw_40 : Cond.selects "ValueBenchModel" ⟨"ValueBenchModel", "through", "(IIZ)V"⟩ ⟨"ValueBenchModel", "through", "(IIZ)V"⟩ ∈ zx_W := zx_in 40 (by decide +kernel) rfl
theorem zw_41 : Cond.selects "ValueBenchModel" ⟨"ValueBenchModel", "adds", "(II)V"⟩ ⟨"ValueBenchModel", "adds", "(II)V"⟩ ∈ zx_W := zx_in 41 (by decide +kernel) rfl
theorem zw_42 : Cond.selects "ValueBenchModel" ⟨"ValueBenchModel", "classes", "()V"⟩ ⟨"ValueBenchModel", "classes", "()V"⟩ ∈ zx_W := zx_in 42 (by decide +kernel) rfl
theorem zw_43 : Cond.selects "ValueBenchModel" ⟨"ValueBenchModel", "isOneSort", "(II)Z"⟩ ⟨"ValueBenchModel", "isOneSort", "(II)Z"⟩ ∈ zx_W := zx_in 43 (by decide +kernel) rfl
theorem zw_44 : Cond.selects "ValueBenchModel" ⟨"ValueBenchModel", "hangTogether", "(II)Z"⟩ ⟨"ValueBenchModel", "hangTogether", "(II)Z"⟩ ∈ zx_W := zx_in 44 (by decide +kernel) rfl
theorem zw_45 : Cond.selects "ValueBenchModel" ⟨"ValueBenchModel", "redundant", "()V"⟩ ⟨"ValueBenchModel", "redundant", "()V"⟩ ∈ zx_W := zx_in 45 (by decide +kernel) rfl
theorem zw_46 : Cond.selects "ValueBenchModel" ⟨"ValueBenchModel", "isAhead", "(III)Z"⟩ ⟨"ValueBenchModel", "isAhead", "(III)Z"⟩ ∈ zx_W := zx_in 46 (by decide +kernel) rfl
theorem zw_47 : Cond.selects "ValueBenchModel" ⟨"ValueBenchModel", "chooses", "(III)V"⟩ ⟨"ValueBenchModel", "chooses", "(III)V"⟩ ∈ zx_W := zx_in 47 (by decide +kernel) rfl
theorem zw_48 : Cond.selects "ValueBenchModel" ⟨"ValueBenchModel", "predecessorAt", "(II)I"⟩ ⟨"ValueBenchModel", "predecessorAt", "(II)I"⟩ ∈ zx_W := zx_in 48 (by decide +kernel) rfl
theorem zw_49 : Cond.selects "ValueBenchModel" ⟨"ValueBenchModel", "ledOperand", "(II)I"⟩ ⟨"ValueBenchModel", "ledOperand", "(II)I"⟩ ∈ zx_W := zx_in 49 (by decide +kernel) rfl
theorem zw_50 : Cond.selects "ValueBenchModel" ⟨"ValueBenchModel", "leader", "(III)I"⟩ ⟨"ValueBenchModel", "leader", "(III)I"⟩ ∈ zx_W := zx_in 50 (by decide +kernel) rfl
theorem zw_51 : Cond.selects "ValueBenchModel" ⟨"ValueBenchModel", "costs", "(III)Z"⟩ ⟨"ValueBenchModel", "costs", "(III)Z"⟩ ∈ zx_W := zx_in 51 (by decide +kernel) rfl
theorem zw_52 : Cond.selects "ValueBenchModel" ⟨"ValueBenchModel", "takes", "()Z"⟩ ⟨"ValueBenchModel", "takes", "()Z"⟩ ∈ zx_W := zx_in 52 (by decide +kernel) rfl
theorem zw_53 : Cond.selects "ValueBenchModel" ⟨"ValueBenchModel", "acts", "(III)V"⟩ ⟨"ValueBenchModel", "acts", "(III)V"⟩ ∈ zx_W := zx_in 53 (by decide +kernel) rfl
theorem zw_54 : Cond.selects "ValueBenchModel" ⟨"ValueBenchModel", "emit", "(I)V"⟩ ⟨"ValueBenchModel", "emit", "(I)V"⟩ ∈ zx_W := zx_in 54 (by decide +kernel) rfl
theorem zw_55 : Cond.selects "ValueBenchModel" ⟨"ValueBenchModel", "readAt", "(III)I"⟩ ⟨"ValueBenchModel", "readAt", "(III)I"⟩ ∈ zx_W := zx_in 55 (by decide +kernel) rfl
theorem zw_56 : Cond.selects "ValueBenchModel" ⟨"ValueBenchModel", "yOf", "(I)I"⟩ ⟨"ValueBenchModel", "yOf", "(I)I"⟩ ∈ zx_W := zx_in 56 (by decide +kernel) rfl
theorem zw_57 : Cond.selects "ValueBenchModel" ⟨"ValueBenchModel", "reads", "(IZ)I"⟩ ⟨"ValueBenchModel", "reads", "(IZ)I"⟩ ∈ zx_W := zx_in 57 (by decide +kernel) rfl
theorem zw_58 : Cond.selects "ValueBenchModel" ⟨"ValueBenchModel", "areReached", "(II)Z"⟩ ⟨"ValueBenchModel", "areReached", "(II)Z"⟩ ∈ zx_W := zx_in 58 (by decide +kernel) rfl
theorem zw_59 : Cond.selects "ValueBenchModel" ⟨"ValueBenchModel", "isValue", "(I)Z"⟩ ⟨"ValueBenchModel", "isValue", "(I)Z"⟩ ∈ zx_W := zx_in 59 (by decide +kernel) rfl
theorem zw_60 : Cond.selects "ValueBenchModel" ⟨"ValueBenchModel", "isOperand", "(II)Z"⟩ ⟨"ValueBenchModel", "isOperand", "(II)Z"⟩ ∈ zx_W := zx_in 60 (by decide +kernel) rfl
theorem zw_62 : Cond.initialized "ValueBench" ∈ zx_W := zx_in 62 (by decide +kernel) rfl
theorem zw_63 : Cond.initialized "ValueBench$Program" ∈ zx_W := zx_in 63 (by decide +kernel) rfl
theorem zw_64 : Cond.initialized "ValueBench$Graph" ∈ zx_W := zx_in 64 (by decide +kernel) rfl
theorem zw_65 : Cond.initialized "ValueBench$Values" ∈ zx_W := zx_in 65 (by decide +kernel) rfl
theorem zw_66 : Cond.initialized "ValueBench$Reads" ∈ zx_W := zx_in 66 (by decide +kernel) rfl
theorem zw_67 : Cond.initialized "ValueBench$Classes" ∈ zx_W := zx_in 67 (by decide +kernel) rfl
theorem zw_68 : Cond.initialized "ValueBench$Leaders" ∈ zx_W := zx_in 68 (by decide +kernel) rfl
theorem zw_69 : Cond.initialized "ValueBench$Form" ∈ zx_W := zx_in 69 (by decide +kernel) rfl
theorem zw_70 : Cond.initialized "ValueBench$ToldForm" ∈ zx_W := zx_in 70 (by decide +kernel) rfl
theorem zw_71 : Cond.initialized "ValueBench$ValueForm" ∈ zx_W := zx_in 71 (by decide +kernel) rfl
theorem zw_72 : Cond.initialized "ValueBench$Machine" ∈ zx_W := zx_in 72 (by decide +kernel) rfl
theorem zw_73 : Cond.initialized "ValueBenchModel" ∈ zx_W := zx_in 73 (by decide +kernel) rfl
theorem zw_74 : Cond.initialized "java/lang/System" ∈ zx_W := zx_in 74 (by decide +kernel) rfl
theorem zw_75 : Cond.initialized "java/util/Arrays" ∈ zx_W := zx_in 75 (by decide +kernel) rfl
theorem zw_76 : Cond.initialized "java/lang/Integer" ∈ zx_W := zx_in 76 (by decide +kernel) rfl
theorem zw_82 : Cond.methodLink "ValueBench" (3 : Nat) ({ cls := "java/lang/Object", name := "<init>", desc := "()V" } : Jvm.MethodName) ∈ zx_W := zx_in 82 (by decide +kernel) rfl
theorem zw_83 : Cond.instanceMethod ({ cls := "java/lang/Object", name := "<init>", desc := "()V" } : Jvm.MethodName) ∈ zx_W := zx_in 83 (by decide +kernel) rfl
theorem zw_84 : Cond.code ({ cls := "java/lang/Object", name := "<init>", desc := "()V" } : Jvm.MethodName) object_method_1_code (1 : Nat) (Option.none : Option Jvm.ClassFile.FieldType) ∈ zx_W := zx_in 84 (by decide +kernel) rfl
theorem zw_85 : Cond.classLink "ValueBench" (9 : Nat) "ValueBench$Program" ∈ zx_W := zx_in 85 (by decide +kernel) rfl
theorem zw_86 : Cond.instantiable "ValueBench$Program" (10 : Nat) ∈ zx_W := zx_in 86 (by decide +kernel) rfl
theorem zw_88 : Cond.instanceMethod ({ cls := "ValueBench$Program", name := "<init>", desc := "()V" } : Jvm.MethodName) ∈ zx_W := zx_in 88 (by decide +kernel) rfl
theorem zw_89 : Cond.code ({ cls := "ValueBench$Program", name := "<init>", desc := "()V" } : Jvm.MethodName) prog_7_method_1_code (1 : Nat) (Option.none : Option Jvm.ClassFile.FieldType) ∈ zx_W := zx_in 89 (by decide +kernel) rfl
theorem zw_90 : Cond.methodLink "ValueBench$Program" (3 : Nat) ({ cls := "java/lang/Object", name := "<init>", desc := "()V" } : Jvm.MethodName) ∈ zx_W := zx_in 90 (by decide +kernel) rfl
theorem zw_91 : Cond.fieldLink "ValueBench$Program" (9 : Nat) "ValueBench$Program" "first" "[I" ∈ zx_W := zx_in 91 (by decide +kernel) rfl
theorem zw_92 : Cond.fieldLink "ValueBench$Machine" (68 : Nat) "ValueBench$Program" "first" "[I" ∈ zx_W := zx_in 92 (by decide +kernel) rfl
theorem zw_93 : Cond.fieldLink "ValueBench$Leaders" (93 : Nat) "ValueBench$Program" "first" "[I" ∈ zx_W := zx_in 93 (by decide +kernel) rfl
theorem zw_94 : Cond.fieldLink "ValueBench" (110 : Nat) "ValueBench$Program" "first" "[I" ∈ zx_W := zx_in 94 (by decide +kernel) rfl
theorem zw_95 : Cond.fieldLink "ValueBench$Values" (111 : Nat) "ValueBench$Program" "first" "[I" ∈ zx_W := zx_in 95 (by decide +kernel) rfl
theorem zw_96 : Cond.fieldLink "ValueBench$Program" (15 : Nat) "ValueBench$Program" "kind" "[I" ∈ zx_W := zx_in 96 (by decide +kernel) rfl
theorem zw_97 : Cond.fieldLink "ValueBench$ValueForm" (84 : Nat) "ValueBench$Program" "kind" "[I" ∈ zx_W := zx_in 97 (by decide +kernel) rfl
theorem zw_98 : Cond.fieldLink "ValueBench$Machine" (79 : Nat) "ValueBench$Program" "kind" "[I" ∈ zx_W := zx_in 98 (by decide +kernel) rfl
theorem zw_99 : Cond.fieldLink "ValueBench$Leaders" (98 : Nat) "ValueBench$Program" "kind" "[I" ∈ zx_W := zx_in 99 (by decide +kernel) rfl
theorem zw_100 : Cond.fieldLink "ValueBench$Values" (142 : Nat) "ValueBench$Program" "kind" "[I" ∈ zx_W := zx_in 100 (by decide +kernel) rfl
theorem zw_101 : Cond.fieldLink "ValueBench$Program" (18 : Nat) "ValueBench$Program" "x" "[I" ∈ zx_W := zx_in 101 (by decide +kernel) rfl
theorem zw_102 : Cond.fieldLink "ValueBench$ToldForm" (25 : Nat) "ValueBench$Program" "x" "[I" ∈ zx_W := zx_in 102 (by decide +kernel) rfl
theorem zw_103 : Cond.fieldLink "ValueBench$Values" (116 : Nat) "ValueBench$Program" "x" "[I" ∈ zx_W := zx_in 103 (by decide +kernel) rfl
theorem zw_104 : Cond.fieldLink "ValueBench$Program" (21 : Nat) "ValueBench$Program" "y" "[I" ∈ zx_W := zx_in 104 (by decide +kernel) rfl
theorem zw_105 : Cond.fieldLink "ValueBench$ToldForm" (30 : Nat) "ValueBench$Program" "y" "[I" ∈ zx_W := zx_in 105 (by decide +kernel) rfl
theorem zw_106 : Cond.fieldLink "ValueBench$Machine" (85 : Nat) "ValueBench$Program" "y" "[I" ∈ zx_W := zx_in 106 (by decide +kernel) rfl
theorem zw_107 : Cond.fieldLink "ValueBench$Values" (143 : Nat) "ValueBench$Program" "y" "[I" ∈ zx_W := zx_in 107 (by decide +kernel) rfl
theorem zw_108 : Cond.fieldLink "ValueBench$Program" (24 : Nat) "ValueBench$Program" "z" "[I" ∈ zx_W := zx_in 108 (by decide +kernel) rfl
theorem zw_109 : Cond.fieldLink "ValueBench$ToldForm" (33 : Nat) "ValueBench$Program" "z" "[I" ∈ zx_W := zx_in 109 (by decide +kernel) rfl
theorem zw_110 : Cond.fieldLink "ValueBench$Values" (155 : Nat) "ValueBench$Program" "z" "[I" ∈ zx_W := zx_in 110 (by decide +kernel) rfl
theorem zw_111 : Cond.fieldLink "ValueBench$Program" (27 : Nat) "ValueBench$Program" "how" "[I" ∈ zx_W := zx_in 111 (by decide +kernel) rfl
theorem zw_112 : Cond.fieldLink "ValueBench$Program" (30 : Nat) "ValueBench$Program" "endY" "[I" ∈ zx_W := zx_in 112 (by decide +kernel) rfl
theorem zw_113 : Cond.fieldLink "ValueBench$Program" (33 : Nat) "ValueBench$Program" "endB" "[I" ∈ zx_W := zx_in 113 (by decide +kernel) rfl
theorem zw_114 : Cond.fieldLink "ValueBench$Program" (36 : Nat) "ValueBench$Program" "endC" "[I" ∈ zx_W := zx_in 114 (by decide +kernel) rfl
theorem zw_115 : Cond.fieldLink "ValueBench" (75 : Nat) "ValueBench$Program" "blocks" "I" ∈ zx_W := zx_in 115 (by decide +kernel) rfl
theorem zw_116 : Cond.fieldLink "ValueBench$Program" (46 : Nat) "ValueBench$Program" "blocks" "I" ∈ zx_W := zx_in 116 (by decide +kernel) rfl
theorem zw_138 : Cond.arrayClass Jvm.ClassFile.FieldType.int ∈ zx_W := zx_in 138 (by decide +kernel) rfl
theorem zw_139 : Cond.classLink "ValueBench" (16 : Nat) "ValueBench$Graph" ∈ zx_W := zx_in 139 (by decide +kernel) rfl
theorem zw_140 : Cond.instantiable "ValueBench$Graph" (7 : Nat) ∈ zx_W := zx_in 140 (by decide +kernel) rfl
theorem zw_142 : Cond.instanceMethod ({ cls := "ValueBench$Graph", name := "<init>", desc := "()V" } : Jvm.MethodName) ∈ zx_W := zx_in 142 (by decide +kernel) rfl
theorem zw_143 : Cond.code ({ cls := "ValueBench$Graph", name := "<init>", desc := "()V" } : Jvm.MethodName) prog_4_method_1_code (1 : Nat) (Option.none : Option Jvm.ClassFile.FieldType) ∈ zx_W := zx_in 143 (by decide +kernel) rfl
theorem zw_144 : Cond.methodLink "ValueBench$Graph" (3 : Nat) ({ cls := "java/lang/Object", name := "<init>", desc := "()V" } : Jvm.MethodName) ∈ zx_W := zx_in 144 (by decide +kernel) rfl
theorem zw_145 : Cond.fieldLink "ValueBench$Graph" (9 : Nat) "ValueBench$Graph" "tells" "[I" ∈ zx_W := zx_in 145 (by decide +kernel) rfl
theorem zw_146 : Cond.fieldLink "ValueBench$Graph" (15 : Nat) "ValueBench$Graph" "comes" "[I" ∈ zx_W := zx_in 146 (by decide +kernel) rfl
theorem zw_147 : Cond.fieldLink "ValueBench$ValueForm" (51 : Nat) "ValueBench$Graph" "comes" "[I" ∈ zx_W := zx_in 147 (by decide +kernel) rfl
theorem zw_148 : Cond.fieldLink "ValueBench$Leaders" (83 : Nat) "ValueBench$Graph" "comes" "[I" ∈ zx_W := zx_in 148 (by decide +kernel) rfl
theorem zw_149 : Cond.fieldLink "ValueBench" (125 : Nat) "ValueBench$Graph" "comes" "[I" ∈ zx_W := zx_in 149 (by decide +kernel) rfl
theorem zw_150 : Cond.fieldLink "ValueBench$Values" (135 : Nat) "ValueBench$Graph" "comes" "[I" ∈ zx_W := zx_in 150 (by decide +kernel) rfl
theorem zw_151 : Cond.fieldLink "ValueBench$Graph" (18 : Nat) "ValueBench$Graph" "dominated" "[I" ∈ zx_W := zx_in 151 (by decide +kernel) rfl
theorem zw_152 : Cond.fieldLink "ValueBench$Leaders" (66 : Nat) "ValueBench$Graph" "dominated" "[I" ∈ zx_W := zx_in 152 (by decide +kernel) rfl
theorem zw_153 : Cond.fieldLink "ValueBench" (142 : Nat) "ValueBench$Graph" "dominated" "[I" ∈ zx_W := zx_in 153 (by decide +kernel) rfl
theorem zw_154 : Cond.fieldLink "ValueBench$Graph" (21 : Nat) "ValueBench$Graph" "dominators" "[I" ∈ zx_W := zx_in 154 (by decide +kernel) rfl
theorem zw_155 : Cond.fieldLink "ValueBench$Values" (73 : Nat) "ValueBench$Graph" "dominators" "[I" ∈ zx_W := zx_in 155 (by decide +kernel) rfl
theorem zw_156 : Cond.fieldLink "ValueBench$Graph" (24 : Nat) "ValueBench$Graph" "parent" "[I" ∈ zx_W := zx_in 156 (by decide +kernel) rfl
theorem zw_157 : Cond.fieldLink "ValueBench" (122 : Nat) "ValueBench$Graph" "parent" "[I" ∈ zx_W := zx_in 157 (by decide +kernel) rfl
theorem zw_158 : Cond.fieldLink "ValueBench$Values" (146 : Nat) "ValueBench$Graph" "parent" "[I" ∈ zx_W := zx_in 158 (by decide +kernel) rfl
theorem zw_159 : Cond.fieldLink "ValueBench$Graph" (27 : Nat) "ValueBench$Graph" "frontier" "[I" ∈ zx_W := zx_in 159 (by decide +kernel) rfl
theorem zw_160 : Cond.fieldLink "ValueBench$Values" (100 : Nat) "ValueBench$Graph" "frontier" "[I" ∈ zx_W := zx_in 160 (by decide +kernel) rfl
theorem zw_161 : Cond.fieldLink "ValueBench" (136 : Nat) "ValueBench$Graph" "frontier" "[I" ∈ zx_W := zx_in 161 (by decide +kernel) rfl
theorem zw_162 : Cond.fieldLink "ValueBench$Values" (97 : Nat) "ValueBench$Graph" "reached" "I" ∈ zx_W := zx_in 162 (by decide +kernel) rfl
theorem zw_163 : Cond.fieldLink "ValueBench$Graph" (44 : Nat) "ValueBench$Graph" "reached" "I" ∈ zx_W := zx_in 163 (by decide +kernel) rfl
theorem zw_164 : Cond.fieldLink "ValueBench" (227 : Nat) "ValueBench$Graph" "reached" "I" ∈ zx_W := zx_in 164 (by decide +kernel) rfl
theorem zw_180 : Cond.classLink "ValueBench" (23 : Nat) "ValueBench$Values" ∈ zx_W := zx_in 180 (by decide +kernel) rfl
theorem zw_181 : Cond.instantiable "ValueBench$Values" (12 : Nat) ∈ zx_W := zx_in 181 (by decide +kernel) rfl
theorem zw_183 : Cond.instanceMethod ({ cls := "ValueBench$Values", name := "<init>", desc := "()V" } : Jvm.MethodName) ∈ zx_W := zx_in 183 (by decide +kernel) rfl
theorem zw_184 : Cond.code ({ cls := "ValueBench$Values", name := "<init>", desc := "()V" } : Jvm.MethodName) prog_11_method_1_code (1 : Nat) (Option.none : Option Jvm.ClassFile.FieldType) ∈ zx_W := zx_in 184 (by decide +kernel) rfl
theorem zw_185 : Cond.methodLink "ValueBench$Values" (3 : Nat) ({ cls := "java/lang/Object", name := "<init>", desc := "()V" } : Jvm.MethodName) ∈ zx_W := zx_in 185 (by decide +kernel) rfl
theorem zw_186 : Cond.classLink "ValueBench$Values" (27 : Nat) "ValueBench$Reads" ∈ zx_W := zx_in 186 (by decide +kernel) rfl
theorem zw_187 : Cond.instantiable "ValueBench$Reads" (3 : Nat) ∈ zx_W := zx_in 187 (by decide +kernel) rfl
theorem zw_189 : Cond.instanceMethod ({ cls := "ValueBench$Reads", name := "<init>", desc := "()V" } : Jvm.MethodName) ∈ zx_W := zx_in 189 (by decide +kernel) rfl
theorem zw_190 : Cond.code ({ cls := "ValueBench$Reads", name := "<init>", desc := "()V" } : Jvm.MethodName) prog_8_method_1_code (1 : Nat) (Option.none : Option Jvm.ClassFile.FieldType) ∈ zx_W := zx_in 190 (by decide +kernel) rfl
theorem zw_191 : Cond.methodLink "ValueBench$Reads" (3 : Nat) ({ cls := "java/lang/Object", name := "<init>", desc := "()V" } : Jvm.MethodName) ∈ zx_W := zx_in 191 (by decide +kernel) rfl
theorem zw_192 : Cond.fieldLink "ValueBench$Reads" (9 : Nat) "ValueBench$Reads" "operands" "[I" ∈ zx_W := zx_in 192 (by decide +kernel) rfl
theorem zw_193 : Cond.fieldLink "ValueBench$ValueForm" (73 : Nat) "ValueBench$Reads" "operands" "[I" ∈ zx_W := zx_in 193 (by decide +kernel) rfl
theorem zw_194 : Cond.fieldLink "ValueBench$Leaders" (90 : Nat) "ValueBench$Reads" "operands" "[I" ∈ zx_W := zx_in 194 (by decide +kernel) rfl
theorem zw_195 : Cond.fieldLink "ValueBench$Classes" (76 : Nat) "ValueBench$Reads" "operands" "[I" ∈ zx_W := zx_in 195 (by decide +kernel) rfl
theorem zw_196 : Cond.fieldLink "ValueBench" (179 : Nat) "ValueBench$Reads" "operands" "[I" ∈ zx_W := zx_in 196 (by decide +kernel) rfl
theorem zw_197 : Cond.fieldLink "ValueBench$Values" (152 : Nat) "ValueBench$Reads" "operands" "[I" ∈ zx_W := zx_in 197 (by decide +kernel) rfl
theorem zw_198 : Cond.fieldLink "ValueBench$Reads" (15 : Nat) "ValueBench$Reads" "emits" "[I" ∈ zx_W := zx_in 198 (by decide +kernel) rfl
theorem zw_199 : Cond.fieldLink "ValueBench$ValueForm" (89 : Nat) "ValueBench$Reads" "emits" "[I" ∈ zx_W := zx_in 199 (by decide +kernel) rfl
theorem zw_200 : Cond.fieldLink "ValueBench$Leaders" (99 : Nat) "ValueBench$Reads" "emits" "[I" ∈ zx_W := zx_in 200 (by decide +kernel) rfl
theorem zw_201 : Cond.fieldLink "ValueBench$Values" (149 : Nat) "ValueBench$Reads" "emits" "[I" ∈ zx_W := zx_in 201 (by decide +kernel) rfl
theorem zw_202 : Cond.fieldLink "ValueBench" (198 : Nat) "ValueBench$Reads" "emits" "[I" ∈ zx_W := zx_in 202 (by decide +kernel) rfl
theorem zw_203 : Cond.fieldLink "ValueBench$Reads" (18 : Nat) "ValueBench$Reads" "ends" "[I" ∈ zx_W := zx_in 203 (by decide +kernel) rfl
theorem zw_204 : Cond.fieldLink "ValueBench$Leaders" (50 : Nat) "ValueBench$Reads" "ends" "[I" ∈ zx_W := zx_in 204 (by decide +kernel) rfl
theorem zw_205 : Cond.fieldLink "ValueBench$ValueForm" (92 : Nat) "ValueBench$Reads" "ends" "[I" ∈ zx_W := zx_in 205 (by decide +kernel) rfl
theorem zw_206 : Cond.fieldLink "ValueBench$Values" (161 : Nat) "ValueBench$Reads" "ends" "[I" ∈ zx_W := zx_in 206 (by decide +kernel) rfl
theorem zw_207 : Cond.fieldLink "ValueBench" (192 : Nat) "ValueBench$Reads" "ends" "[I" ∈ zx_W := zx_in 207 (by decide +kernel) rfl
theorem zw_215 : Cond.fieldLink "ValueBench$Values" (9 : Nat) "ValueBench$Values" "kind" "[I" ∈ zx_W := zx_in 215 (by decide +kernel) rfl
theorem zw_216 : Cond.fieldLink "ValueBench$Classes" (37 : Nat) "ValueBench$Values" "kind" "[I" ∈ zx_W := zx_in 216 (by decide +kernel) rfl
theorem zw_217 : Cond.fieldLink "ValueBench$Leaders" (80 : Nat) "ValueBench$Values" "kind" "[I" ∈ zx_W := zx_in 217 (by decide +kernel) rfl
theorem zw_218 : Cond.fieldLink "ValueBench" (150 : Nat) "ValueBench$Values" "kind" "[I" ∈ zx_W := zx_in 218 (by decide +kernel) rfl
theorem zw_219 : Cond.fieldLink "ValueBench$Values" (15 : Nat) "ValueBench$Values" "block" "[I" ∈ zx_W := zx_in 219 (by decide +kernel) rfl
theorem zw_220 : Cond.fieldLink "ValueBench$Leaders" (63 : Nat) "ValueBench$Values" "block" "[I" ∈ zx_W := zx_in 220 (by decide +kernel) rfl
theorem zw_221 : Cond.fieldLink "ValueBench$Classes" (43 : Nat) "ValueBench$Values" "block" "[I" ∈ zx_W := zx_in 221 (by decide +kernel) rfl
theorem zw_222 : Cond.fieldLink "ValueBench" (153 : Nat) "ValueBench$Values" "block" "[I" ∈ zx_W := zx_in 222 (by decide +kernel) rfl
theorem zw_223 : Cond.fieldLink "ValueBench$Values" (18 : Nat) "ValueBench$Values" "variable" "[I" ∈ zx_W := zx_in 223 (by decide +kernel) rfl
theorem zw_224 : Cond.fieldLink "ValueBench" (156 : Nat) "ValueBench$Values" "variable" "[I" ∈ zx_W := zx_in 224 (by decide +kernel) rfl
theorem zw_225 : Cond.fieldLink "ValueBench$Values" (21 : Nat) "ValueBench$Values" "number" "[I" ∈ zx_W := zx_in 225 (by decide +kernel) rfl
theorem zw_226 : Cond.fieldLink "ValueBench$Classes" (40 : Nat) "ValueBench$Values" "number" "[I" ∈ zx_W := zx_in 226 (by decide +kernel) rfl
theorem zw_227 : Cond.fieldLink "ValueBench" (169 : Nat) "ValueBench$Values" "number" "[I" ∈ zx_W := zx_in 227 (by decide +kernel) rfl
theorem zw_228 : Cond.fieldLink "ValueBench$Values" (24 : Nat) "ValueBench$Values" "firstOperand" "[I" ∈ zx_W := zx_in 228 (by decide +kernel) rfl
theorem zw_229 : Cond.fieldLink "ValueBench$ValueForm" (78 : Nat) "ValueBench$Values" "firstOperand" "[I" ∈ zx_W := zx_in 229 (by decide +kernel) rfl
theorem zw_230 : Cond.fieldLink "ValueBench$Leaders" (73 : Nat) "ValueBench$Values" "firstOperand" "[I" ∈ zx_W := zx_in 230 (by decide +kernel) rfl
theorem zw_231 : Cond.fieldLink "ValueBench$Classes" (58 : Nat) "ValueBench$Values" "firstOperand" "[I" ∈ zx_W := zx_in 231 (by decide +kernel) rfl
theorem zw_232 : Cond.fieldLink "ValueBench" (184 : Nat) "ValueBench$Values" "firstOperand" "[I" ∈ zx_W := zx_in 232 (by decide +kernel) rfl
theorem zw_233 : Cond.fieldLink "ValueBench$ValueForm" (31 : Nat) "ValueBench$Values" "reads" "LValueBench$Reads;" ∈ zx_W := zx_in 233 (by decide +kernel) rfl
theorem zw_234 : Cond.fieldLink "ValueBench$Values" (30 : Nat) "ValueBench$Values" "reads" "LValueBench$Reads;" ∈ zx_W := zx_in 234 (by decide +kernel) rfl
theorem zw_235 : Cond.fieldLink "ValueBench$Leaders" (49 : Nat) "ValueBench$Values" "reads" "LValueBench$Reads;" ∈ zx_W := zx_in 235 (by decide +kernel) rfl
theorem zw_236 : Cond.fieldLink "ValueBench$Classes" (72 : Nat) "ValueBench$Values" "reads" "LValueBench$Reads;" ∈ zx_W := zx_in 236 (by decide +kernel) rfl
theorem zw_237 : Cond.fieldLink "ValueBench" (175 : Nat) "ValueBench$Values" "reads" "LValueBench$Reads;" ∈ zx_W := zx_in 237 (by decide +kernel) rfl
theorem zw_238 : Cond.fieldLink "ValueBench$Values" (34 : Nat) "ValueBench$Values" "given" "[I" ∈ zx_W := zx_in 238 (by decide +kernel) rfl
theorem zw_239 : Cond.fieldLink "ValueBench$ValueForm" (81 : Nat) "ValueBench$Values" "given" "[I" ∈ zx_W := zx_in 239 (by decide +kernel) rfl
theorem zw_240 : Cond.fieldLink "ValueBench$Values" (37 : Nat) "ValueBench$Values" "firstChoice" "[I" ∈ zx_W := zx_in 240 (by decide +kernel) rfl
theorem zw_241 : Cond.fieldLink "ValueBench$ValueForm" (48 : Nat) "ValueBench$Values" "firstChoice" "[I" ∈ zx_W := zx_in 241 (by decide +kernel) rfl
theorem zw_242 : Cond.fieldLink "ValueBench$Values" (40 : Nat) "ValueBench$Values" "choices" "[I" ∈ zx_W := zx_in 242 (by decide +kernel) rfl
theorem zw_243 : Cond.fieldLink "ValueBench$ValueForm" (45 : Nat) "ValueBench$Values" "choices" "[I" ∈ zx_W := zx_in 243 (by decide +kernel) rfl
theorem zw_244 : Cond.fieldLink "ValueBench" (133 : Nat) "ValueBench$Values" "choices" "[I" ∈ zx_W := zx_in 244 (by decide +kernel) rfl
theorem zw_245 : Cond.fieldLink "ValueBench$Values" (43 : Nat) "ValueBench$Values" "choosing" "[I" ∈ zx_W := zx_in 245 (by decide +kernel) rfl
theorem zw_246 : Cond.fieldLink "ValueBench$Values" (46 : Nat) "ValueBench$Values" "atEnd" "[I" ∈ zx_W := zx_in 246 (by decide +kernel) rfl
theorem zw_247 : Cond.fieldLink "ValueBench$Classes" (18 : Nat) "ValueBench$Values" "size" "I" ∈ zx_W := zx_in 247 (by decide +kernel) rfl
theorem zw_248 : Cond.fieldLink "ValueBench$Values" (49 : Nat) "ValueBench$Values" "size" "I" ∈ zx_W := zx_in 248 (by decide +kernel) rfl
theorem zw_249 : Cond.fieldLink "ValueBench$Leaders" (26 : Nat) "ValueBench$Values" "size" "I" ∈ zx_W := zx_in 249 (by decide +kernel) rfl
theorem zw_250 : Cond.fieldLink "ValueBench" (230 : Nat) "ValueBench$Values" "size" "I" ∈ zx_W := zx_in 250 (by decide +kernel) rfl
theorem zw_276 : Cond.classLink "ValueBench" (30 : Nat) "ValueBench$Classes" ∈ zx_W := zx_in 276 (by decide +kernel) rfl
theorem zw_277 : Cond.instantiable "ValueBench$Classes" (3 : Nat) ∈ zx_W := zx_in 277 (by decide +kernel) rfl
theorem zw_279 : Cond.instanceMethod ({ cls := "ValueBench$Classes", name := "<init>", desc := "()V" } : Jvm.MethodName) ∈ zx_W := zx_in 279 (by decide +kernel) rfl
theorem zw_280 : Cond.code ({ cls := "ValueBench$Classes", name := "<init>", desc := "()V" } : Jvm.MethodName) prog_2_method_1_code (1 : Nat) (Option.none : Option Jvm.ClassFile.FieldType) ∈ zx_W := zx_in 280 (by decide +kernel) rfl
theorem zw_281 : Cond.methodLink "ValueBench$Classes" (3 : Nat) ({ cls := "java/lang/Object", name := "<init>", desc := "()V" } : Jvm.MethodName) ∈ zx_W := zx_in 281 (by decide +kernel) rfl
theorem zw_282 : Cond.fieldLink "ValueBench$Classes" (9 : Nat) "ValueBench$Classes" "least" "[I" ∈ zx_W := zx_in 282 (by decide +kernel) rfl
theorem zw_283 : Cond.fieldLink "ValueBench$Leaders" (58 : Nat) "ValueBench$Classes" "least" "[I" ∈ zx_W := zx_in 283 (by decide +kernel) rfl
theorem zw_284 : Cond.fieldLink "ValueBench" (159 : Nat) "ValueBench$Classes" "least" "[I" ∈ zx_W := zx_in 284 (by decide +kernel) rfl
theorem zw_285 : Cond.fieldLink "ValueBench$Classes" (15 : Nat) "ValueBench$Classes" "finer" "[I" ∈ zx_W := zx_in 285 (by decide +kernel) rfl
theorem zw_286 : Cond.fieldLink "ValueBench$Classes" (32 : Nat) "ValueBench$Classes" "size" "I" ∈ zx_W := zx_in 286 (by decide +kernel) rfl
theorem zw_287 : Cond.fieldLink "ValueBench" (233 : Nat) "ValueBench$Classes" "size" "I" ∈ zx_W := zx_in 287 (by decide +kernel) rfl
theorem zw_295 : Cond.classLink "ValueBench" (37 : Nat) "ValueBench$Leaders" ∈ zx_W := zx_in 295 (by decide +kernel) rfl
theorem zw_296 : Cond.instantiable "ValueBench$Leaders" (3 : Nat) ∈ zx_W := zx_in 296 (by decide +kernel) rfl
theorem zw_298 : Cond.instanceMethod ({ cls := "ValueBench$Leaders", name := "<init>", desc := "()V" } : Jvm.MethodName) ∈ zx_W := zx_in 298 (by decide +kernel) rfl
theorem zw_299 : Cond.code ({ cls := "ValueBench$Leaders", name := "<init>", desc := "()V" } : Jvm.MethodName) prog_5_method_1_code (1 : Nat) (Option.none : Option Jvm.ClassFile.FieldType) ∈ zx_W := zx_in 299 (by decide +kernel) rfl
theorem zw_300 : Cond.methodLink "ValueBench$Leaders" (3 : Nat) ({ cls := "java/lang/Object", name := "<init>", desc := "()V" } : Jvm.MethodName) ∈ zx_W := zx_in 300 (by decide +kernel) rfl
theorem zw_301 : Cond.classLink "ValueBench$Leaders" (15 : Nat) "ValueBench$Reads" ∈ zx_W := zx_in 301 (by decide +kernel) rfl
theorem zw_303 : Cond.fieldLink "ValueBench$Leaders" (9 : Nat) "ValueBench$Leaders" "redundant" "[Z" ∈ zx_W := zx_in 303 (by decide +kernel) rfl
theorem zw_304 : Cond.fieldLink "ValueBench$ValueForm" (41 : Nat) "ValueBench$Leaders" "redundant" "[Z" ∈ zx_W := zx_in 304 (by decide +kernel) rfl
theorem zw_305 : Cond.fieldLink "ValueBench" (162 : Nat) "ValueBench$Leaders" "redundant" "[Z" ∈ zx_W := zx_in 305 (by decide +kernel) rfl
theorem zw_306 : Cond.fieldLink "ValueBench$Leaders" (18 : Nat) "ValueBench$Leaders" "reads" "LValueBench$Reads;" ∈ zx_W := zx_in 306 (by decide +kernel) rfl
theorem zw_307 : Cond.fieldLink "ValueBench$ValueForm" (37 : Nat) "ValueBench$Leaders" "reads" "LValueBench$Reads;" ∈ zx_W := zx_in 307 (by decide +kernel) rfl
theorem zw_308 : Cond.fieldLink "ValueBench" (187 : Nat) "ValueBench$Leaders" "reads" "LValueBench$Reads;" ∈ zx_W := zx_in 308 (by decide +kernel) rfl
theorem zw_309 : Cond.fieldLink "ValueBench$Leaders" (22 : Nat) "ValueBench$Leaders" "redundantOnes" "I" ∈ zx_W := zx_in 309 (by decide +kernel) rfl
theorem zw_310 : Cond.fieldLink "ValueBench" (234 : Nat) "ValueBench$Leaders" "redundantOnes" "I" ∈ zx_W := zx_in 310 (by decide +kernel) rfl
theorem zw_318 : Cond.arrayClass Jvm.ClassFile.FieldType.boolean ∈ zx_W := zx_in 318 (by decide +kernel) rfl
theorem zw_319 : Cond.classLink "ValueBench" (44 : Nat) "ValueBench$ToldForm" ∈ zx_W := zx_in 319 (by decide +kernel) rfl
theorem zw_320 : Cond.instantiable "ValueBench$ToldForm" (2 : Nat) ∈ zx_W := zx_in 320 (by decide +kernel) rfl
theorem zw_321 : Cond.methodLink "ValueBench" (46 : Nat) ({ cls := "ValueBench$ToldForm", name := "<init>", desc := "(LValueBench$Program;)V" } : Jvm.MethodName) ∈ zx_W := zx_in 321 (by decide +kernel) rfl
theorem zw_322 : Cond.instanceMethod ({ cls := "ValueBench$ToldForm", name := "<init>", desc := "(LValueBench$Program;)V" } : Jvm.MethodName) ∈ zx_W := zx_in 322 (by decide +kernel) rfl
theorem zw_323 : Cond.code ({ cls := "ValueBench$ToldForm", name := "<init>", desc := "(LValueBench$Program;)V" } : Jvm.MethodName) prog_9_method_1_code (2 : Nat) (Option.none : Option Jvm.ClassFile.FieldType) ∈ zx_W := zx_in 323 (by decide +kernel) rfl
theorem zw_324 : Cond.methodLink "ValueBench$ToldForm" (3 : Nat) ({ cls := "ValueBench$Form", name := "<init>", desc := "(I)V" } : Jvm.MethodName) ∈ zx_W := zx_in 324 (by decide +kernel) rfl
theorem zw_325 : Cond.instanceMethod ({ cls := "ValueBench$Form", name := "<init>", desc := "(I)V" } : Jvm.MethodName) ∈ zx_W := zx_in 325 (by decide +kernel) rfl
theorem zw_326 : Cond.code ({ cls := "ValueBench$Form", name := "<init>", desc := "(I)V" } : Jvm.MethodName) prog_3_method_1_code (2 : Nat) (Option.none : Option Jvm.ClassFile.FieldType) ∈ zx_W := zx_in 326 (by decide +kernel) rfl
theorem zw_327 : Cond.methodLink "ValueBench$Form" (1 : Nat) ({ cls := "java/lang/Object", name := "<init>", desc := "()V" } : Jvm.MethodName) ∈ zx_W := zx_in 327 (by decide +kernel) rfl
theorem zw_328 : Cond.fieldLink "ValueBench$ToldForm" (9 : Nat) "ValueBench$ToldForm" "program" "LValueBench$Program;" ∈ zx_W := zx_in 328 (by decide +kernel) rfl
theorem zw_329 : Cond.fieldLink "ValueBench$Form" (7 : Nat) "ValueBench$Form" "cells" "[I" ∈ zx_W := zx_in 329 (by decide +kernel) rfl
theorem zw_330 : Cond.fieldLink "ValueBench$ToldForm" (15 : Nat) "ValueBench$ToldForm" "cells" "[I" ∈ zx_W := zx_in 330 (by decide +kernel) rfl
theorem zw_331 : Cond.sameField "ValueBench$ToldForm" "ValueBench$Form" "cells" "[I" ∈ zx_W := zx_in 331 (by decide +kernel) rfl
theorem zw_332 : Cond.fieldLink "ValueBench$ValueForm" (70 : Nat) "ValueBench$ValueForm" "cells" "[I" ∈ zx_W := zx_in 332 (by decide +kernel) rfl
theorem zw_333 : Cond.sameField "ValueBench$ValueForm" "ValueBench$Form" "cells" "[I" ∈ zx_W := zx_in 333 (by decide +kernel) rfl
theorem zw_334 : Cond.fieldLink "ValueBench$Machine" (58 : Nat) "ValueBench$Form" "cells" "[I" ∈ zx_W := zx_in 334 (by decide +kernel) rfl
theorem zw_340 : Cond.classLink "ValueBench" (53 : Nat) "ValueBench$ValueForm" ∈ zx_W := zx_in 340 (by decide +kernel) rfl
theorem zw_341 : Cond.instantiable "ValueBench$ValueForm" (7 : Nat) ∈ zx_W := zx_in 341 (by decide +kernel) rfl
theorem zw_342 : Cond.methodLink "ValueBench" (55 : Nat) ({ cls := "ValueBench$ValueForm", name := "<init>", desc := "(LValueBench$Program;LValueBench$Graph;LValueBench$Values;LValueBench$Leaders;)V" } : Jvm.MethodName) ∈ zx_W := zx_in 342 (by decide +kernel) rfl
theorem zw_343 : Cond.instanceMethod ({ cls := "ValueBench$ValueForm", name := "<init>", desc := "(LValueBench$Program;LValueBench$Graph;LValueBench$Values;LValueBench$Leaders;)V" } : Jvm.MethodName) ∈ zx_W := zx_in 343 (by decide +kernel) rfl
theorem zw_344 : Cond.code ({ cls := "ValueBench$ValueForm", name := "<init>", desc := "(LValueBench$Program;LValueBench$Graph;LValueBench$Values;LValueBench$Leaders;)V" } : Jvm.MethodName) prog_10_method_1_code (5 : Nat) (Option.none : Option Jvm.ClassFile.FieldType) ∈ zx_W := zx_in 344 (by decide +kernel) rfl
theorem zw_345 : Cond.methodLink "ValueBench$ValueForm" (3 : Nat) ({ cls := "ValueBench$Form", name := "<init>", desc := "(I)V" } : Jvm.MethodName) ∈ zx_W := zx_in 345 (by decide +kernel) rfl
theorem zw_346 : Cond.fieldLink "ValueBench$ValueForm" (15 : Nat) "ValueBench$ValueForm" "program" "LValueBench$Program;" ∈ zx_W := zx_in 346 (by decide +kernel) rfl
theorem zw_347 : Cond.fieldLink "ValueBench$ValueForm" (19 : Nat) "ValueBench$ValueForm" "graph" "LValueBench$Graph;" ∈ zx_W := zx_in 347 (by decide +kernel) rfl
theorem zw_348 : Cond.fieldLink "ValueBench$ValueForm" (23 : Nat) "ValueBench$ValueForm" "values" "LValueBench$Values;" ∈ zx_W := zx_in 348 (by decide +kernel) rfl
theorem zw_349 : Cond.fieldLink "ValueBench$ValueForm" (27 : Nat) "ValueBench$ValueForm" "leaders" "LValueBench$Leaders;" ∈ zx_W := zx_in 349 (by decide +kernel) rfl
theorem zw_350 : Cond.fieldLink "ValueBench$ValueForm" (40 : Nat) "ValueBench$ValueForm" "reads" "LValueBench$Reads;" ∈ zx_W := zx_in 350 (by decide +kernel) rfl
theorem zw_351 : Cond.fieldLink "ValueBench$ValueForm" (9 : Nat) "ValueBench$ValueForm" "taken" "[I" ∈ zx_W := zx_in 351 (by decide +kernel) rfl
theorem zw_366 : Cond.classLink "ValueBench" (64 : Nat) "ValueBench$Machine" ∈ zx_W := zx_in 366 (by decide +kernel) rfl
theorem zw_367 : Cond.instantiable "ValueBench$Machine" (8 : Nat) ∈ zx_W := zx_in 367 (by decide +kernel) rfl
theorem zw_368 : Cond.methodLink "ValueBench" (66 : Nat) ({ cls := "ValueBench$Machine", name := "<init>", desc := "(LValueBench$Program;)V" } : Jvm.MethodName) ∈ zx_W := zx_in 368 (by decide +kernel) rfl
theorem zw_369 : Cond.instanceMethod ({ cls := "ValueBench$Machine", name := "<init>", desc := "(LValueBench$Program;)V" } : Jvm.MethodName) ∈ zx_W := zx_in 369 (by decide +kernel) rfl
theorem zw_370 : Cond.code ({ cls := "ValueBench$Machine", name := "<init>", desc := "(LValueBench$Program;)V" } : Jvm.MethodName) prog_6_method_1_code (2 : Nat) (Option.none : Option Jvm.ClassFile.FieldType) ∈ zx_W := zx_in 370 (by decide +kernel) rfl
theorem zw_371 : Cond.methodLink "ValueBench$Machine" (3 : Nat) ({ cls := "java/lang/Object", name := "<init>", desc := "()V" } : Jvm.MethodName) ∈ zx_W := zx_in 371 (by decide +kernel) rfl
theorem zw_372 : Cond.fieldLink "ValueBench$Machine" (22 : Nat) "ValueBench$Machine" "program" "LValueBench$Program;" ∈ zx_W := zx_in 372 (by decide +kernel) rfl
theorem zw_373 : Cond.fieldLink "ValueBench$Machine" (9 : Nat) "ValueBench$Machine" "inputs" "[I" ∈ zx_W := zx_in 373 (by decide +kernel) rfl
theorem zw_374 : Cond.fieldLink "ValueBench$Machine" (15 : Nat) "ValueBench$Machine" "kept" "[I" ∈ zx_W := zx_in 374 (by decide +kernel) rfl
theorem zw_375 : Cond.fieldLink "ValueBench" (224 : Nat) "ValueBench$Machine" "kept" "[I" ∈ zx_W := zx_in 375 (by decide +kernel) rfl
theorem zw_376 : Cond.fieldLink "ValueBench$Machine" (18 : Nat) "ValueBench$Machine" "limit" "I" ∈ zx_W := zx_in 376 (by decide +kernel) rfl
theorem zw_377 : Cond.fieldLink "ValueBench" (209 : Nat) "ValueBench$Machine" "limit" "I" ∈ zx_W := zx_in 377 (by decide +kernel) rfl
theorem zw_378 : Cond.fieldLink "ValueBench$Machine" (26 : Nat) "ValueBench$Machine" "returned" "I" ∈ zx_W := zx_in 378 (by decide +kernel) rfl
theorem zw_379 : Cond.fieldLink "ValueBench" (212 : Nat) "ValueBench$Machine" "returned" "I" ∈ zx_W := zx_in 379 (by decide +kernel) rfl
theorem zw_380 : Cond.fieldLink "ValueBench$Machine" (29 : Nat) "ValueBench$Machine" "used" "I" ∈ zx_W := zx_in 380 (by decide +kernel) rfl
theorem zw_381 : Cond.fieldLink "ValueBench" (215 : Nat) "ValueBench$Machine" "used" "I" ∈ zx_W := zx_in 381 (by decide +kernel) rfl
theorem zw_382 : Cond.fieldLink "ValueBench$Machine" (32 : Nat) "ValueBench$Machine" "numbers" "I" ∈ zx_W := zx_in 382 (by decide +kernel) rfl
theorem zw_383 : Cond.fieldLink "ValueBench" (218 : Nat) "ValueBench$Machine" "numbers" "I" ∈ zx_W := zx_in 383 (by decide +kernel) rfl
theorem zw_384 : Cond.fieldLink "ValueBench$Machine" (35 : Nat) "ValueBench$Machine" "at" "I" ∈ zx_W := zx_in 384 (by decide +kernel) rfl
theorem zw_385 : Cond.fieldLink "ValueBench" (221 : Nat) "ValueBench$Machine" "at" "I" ∈ zx_W := zx_in 385 (by decide +kernel) rfl
theorem zw_403 : Cond.fieldLink "ValueBench" (12 : Nat) "ValueBench" "program" "LValueBench$Program;" ∈ zx_W := zx_in 403 (by decide +kernel) rfl
theorem zw_404 : Cond.fieldLink "ValueBench" (19 : Nat) "ValueBench" "graph" "LValueBench$Graph;" ∈ zx_W := zx_in 404 (by decide +kernel) rfl
theorem zw_405 : Cond.fieldLink "ValueBench" (26 : Nat) "ValueBench" "values" "LValueBench$Values;" ∈ zx_W := zx_in 405 (by decide +kernel) rfl
theorem zw_406 : Cond.fieldLink "ValueBench" (33 : Nat) "ValueBench" "classes" "LValueBench$Classes;" ∈ zx_W := zx_in 406 (by decide +kernel) rfl
theorem zw_407 : Cond.fieldLink "ValueBench" (40 : Nat) "ValueBench" "leaders" "LValueBench$Leaders;" ∈ zx_W := zx_in 407 (by decide +kernel) rfl
theorem zw_408 : Cond.fieldLink "ValueBench" (49 : Nat) "ValueBench" "toldForm" "LValueBench$Form;" ∈ zx_W := zx_in 408 (by decide +kernel) rfl
theorem zw_409 : Cond.fieldLink "ValueBench" (58 : Nat) "ValueBench" "valuedForm" "LValueBench$Form;" ∈ zx_W := zx_in 409 (by decide +kernel) rfl
theorem zw_410 : Cond.fieldLink "ValueBench" (61 : Nat) "ValueBench" "ledForm" "LValueBench$Form;" ∈ zx_W := zx_in 410 (by decide +kernel) rfl
theorem zw_411 : Cond.fieldLink "ValueBench" (67 : Nat) "ValueBench" "machine" "LValueBench$Machine;" ∈ zx_W := zx_in 411 (by decide +kernel) rfl
theorem zw_412 : Cond.fieldLink "ValueBench" (71 : Nat) "ValueBench" "stale" "Z" ∈ zx_W := zx_in 412 (by decide +kernel) rfl
theorem zw_442 : Cond.methodLink "ValueBench" (79 : Nat) ({ cls := "ValueBench$Program", name := "has", desc := "(I)Z" } : Jvm.MethodName) ∈ zx_W := zx_in 442 (by decide +kernel) rfl
theorem zw_443 : Cond.instanceMethod ({ cls := "ValueBench$Program", name := "has", desc := "(I)Z" } : Jvm.MethodName) ∈ zx_W := zx_in 443 (by decide +kernel) rfl
theorem zw_444 : Cond.selects "ValueBench$Program" ({ cls := "ValueBench$Program", name := "has", desc := "(I)Z" } : Jvm.MethodName) ({ cls := "ValueBench$Program", name := "has", desc := "(I)Z" } : Jvm.MethodName) ∈ zx_W := zx_in 444 (by decide +kernel) rfl
theorem zw_445 : Cond.code ({ cls := "ValueBench$Program", name := "has", desc := "(I)Z" } : Jvm.MethodName) prog_7_method_6_code (2 : Nat) (Option.some Jvm.ClassFile.FieldType.boolean) ∈ zx_W := zx_in 445 (by decide +kernel) rfl
theorem zw_446 : Cond.methodLink "ValueBench" (83 : Nat) ({ cls := "ValueBench$Program", name := "instructions", desc := "()I" } : Jvm.MethodName) ∈ zx_W := zx_in 446 (by decide +kernel) rfl
theorem zw_447 : Cond.instanceMethod ({ cls := "ValueBench$Program", name := "instructions", desc := "()I" } : Jvm.MethodName) ∈ zx_W := zx_in 447 (by decide +kernel) rfl
theorem zw_448 : Cond.selects "ValueBench$Program" ({ cls := "ValueBench$Program", name := "instructions", desc := "()I" } : Jvm.MethodName) ({ cls := "ValueBench$Program", name := "instructions", desc := "()I" } : Jvm.MethodName) ∈ zx_W := zx_in 448 (by decide +kernel) rfl
theorem zw_449 : Cond.code ({ cls := "ValueBench$Program", name := "instructions", desc := "()I" } : Jvm.MethodName) prog_7_method_7_code (1 : Nat) (Option.some Jvm.ClassFile.FieldType.int) ∈ zx_W := zx_in 449 (by decide +kernel) rfl
theorem zw_450 : Cond.methodLink "ValueBench" (87 : Nat) ({ cls := "ValueBench$Program", name := "fits", desc := "(IIII)Z" } : Jvm.MethodName) ∈ zx_W := zx_in 450 (by decide +kernel) rfl
theorem zw_451 : Cond.static ({ cls := "ValueBench$Program", name := "fits", desc := "(IIII)Z" } : Jvm.MethodName) ∈ zx_W := zx_in 451 (by decide +kernel) rfl
theorem zw_452 : Cond.code ({ cls := "ValueBench$Program", name := "fits", desc := "(IIII)Z" } : Jvm.MethodName) prog_7_method_4_code (4 : Nat) (Option.some Jvm.ClassFile.FieldType.boolean) ∈ zx_W := zx_in 452 (by decide +kernel) rfl
theorem zw_453 : Cond.methodLink "ValueBench$Program" (39 : Nat) ({ cls := "ValueBench$Program", name := "isVariable", desc := "(I)Z" } : Jvm.MethodName) ∈ zx_W := zx_in 453 (by decide +kernel) rfl
theorem zw_454 : Cond.static ({ cls := "ValueBench$Program", name := "isVariable", desc := "(I)Z" } : Jvm.MethodName) ∈ zx_W := zx_in 454 (by decide +kernel) rfl
theorem zw_455 : Cond.code ({ cls := "ValueBench$Program", name := "isVariable", desc := "(I)Z" } : Jvm.MethodName) prog_7_method_2_code (1 : Nat) (Option.some Jvm.ClassFile.FieldType.boolean) ∈ zx_W := zx_in 455 (by decide +kernel) rfl
theorem zw_456 : Cond.methodLink "ValueBench" (91 : Nat) ({ cls := "ValueBench$Program", name := "insert", desc := "(IIIII)V" } : Jvm.MethodName) ∈ zx_W := zx_in 456 (by decide +kernel) rfl
theorem zw_457 : Cond.instanceMethod ({ cls := "ValueBench$Program", name := "insert", desc := "(IIIII)V" } : Jvm.MethodName) ∈ zx_W := zx_in 457 (by decide +kernel) rfl
theorem zw_458 : Cond.selects "ValueBench$Program" ({ cls := "ValueBench$Program", name := "insert", desc := "(IIIII)V" } : Jvm.MethodName) ({ cls := "ValueBench$Program", name := "insert", desc := "(IIIII)V" } : Jvm.MethodName) ∈ zx_W := zx_in 458 (by decide +kernel) rfl
theorem zw_459 : Cond.code ({ cls := "ValueBench$Program", name := "insert", desc := "(IIIII)V" } : Jvm.MethodName) prog_7_method_8_code (9 : Nat) (Option.none : Option Jvm.ClassFile.FieldType) ∈ zx_W := zx_in 459 (by decide +kernel) rfl
theorem zw_460 : Cond.methodLink "ValueBench$Program" (50 : Nat) ({ cls := "ValueBench$Program", name := "instructions", desc := "()I" } : Jvm.MethodName) ∈ zx_W := zx_in 460 (by decide +kernel) rfl
theorem zw_461 : Cond.methodLink "ValueBench$Program" (54 : Nat) ({ cls := "ValueBench$Program", name := "insertAt", desc := "([IIII)V" } : Jvm.MethodName) ∈ zx_W := zx_in 461 (by decide +kernel) rfl
theorem zw_462 : Cond.static ({ cls := "ValueBench$Program", name := "insertAt", desc := "([IIII)V" } : Jvm.MethodName) ∈ zx_W := zx_in 462 (by decide +kernel) rfl
theorem zw_463 : Cond.code ({ cls := "ValueBench$Program", name := "insertAt", desc := "([IIII)V" } : Jvm.MethodName) prog_7_method_9_code (4 : Nat) (Option.none : Option Jvm.ClassFile.FieldType) ∈ zx_W := zx_in 463 (by decide +kernel) rfl
theorem zw_464 : Cond.methodLink "ValueBench$Program" (58 : Nat) ({ cls := "java/lang/System", name := "arraycopy", desc := "(Ljava/lang/Object;ILjava/lang/Object;II)V" } : Jvm.MethodName) ∈ zx_W := zx_in 464 (by decide +kernel) rfl
theorem zw_465 : Cond.static ({ cls := "java/lang/System", name := "arraycopy", desc := "(Ljava/lang/Object;ILjava/lang/Object;II)V" } : Jvm.MethodName) ∈ zx_W := zx_in 465 (by decide +kernel) rfl
theorem zw_466 : Cond.native ({ cls := "java/lang/System", name := "arraycopy", desc := "(Ljava/lang/Object;ILjava/lang/Object;II)V" } : Jvm.MethodName) ∈ zx_W := zx_in 466 (by decide +kernel) rfl
theorem zw_471 : Cond.methodLink "ValueBench" (95 : Nat) ({ cls := "ValueBench$Program", name := "endFits", desc := "(IIII)Z" } : Jvm.MethodName) ∈ zx_W := zx_in 471 (by decide +kernel) rfl
theorem zw_472 : Cond.static ({ cls := "ValueBench$Program", name := "endFits", desc := "(IIII)Z" } : Jvm.MethodName) ∈ zx_W := zx_in 472 (by decide +kernel) rfl
theorem zw_473 : Cond.code ({ cls := "ValueBench$Program", name := "endFits", desc := "(IIII)Z" } : Jvm.MethodName) prog_7_method_5_code (4 : Nat) (Option.some Jvm.ClassFile.FieldType.boolean) ∈ zx_W := zx_in 473 (by decide +kernel) rfl
theorem zw_474 : Cond.methodLink "ValueBench$Program" (43 : Nat) ({ cls := "ValueBench$Program", name := "isBlockNumber", desc := "(I)Z" } : Jvm.MethodName) ∈ zx_W := zx_in 474 (by decide +kernel) rfl
theorem zw_475 : Cond.static ({ cls := "ValueBench$Program", name := "isBlockNumber", desc := "(I)Z" } : Jvm.MethodName) ∈ zx_W := zx_in 475 (by decide +kernel) rfl
theorem zw_476 : Cond.code ({ cls := "ValueBench$Program", name := "isBlockNumber", desc := "(I)Z" } : Jvm.MethodName) prog_7_method_3_code (1 : Nat) (Option.some Jvm.ClassFile.FieldType.boolean) ∈ zx_W := zx_in 476 (by decide +kernel) rfl
theorem zw_477 : Cond.methodLink "ValueBench" (98 : Nat) ({ cls := "ValueBench$Program", name := "setEnd", desc := "(IIIII)V" } : Jvm.MethodName) ∈ zx_W := zx_in 477 (by decide +kernel) rfl
theorem zw_478 : Cond.instanceMethod ({ cls := "ValueBench$Program", name := "setEnd", desc := "(IIIII)V" } : Jvm.MethodName) ∈ zx_W := zx_in 478 (by decide +kernel) rfl
theorem zw_479 : Cond.selects "ValueBench$Program" ({ cls := "ValueBench$Program", name := "setEnd", desc := "(IIIII)V" } : Jvm.MethodName) ({ cls := "ValueBench$Program", name := "setEnd", desc := "(IIIII)V" } : Jvm.MethodName) ∈ zx_W := zx_in 479 (by decide +kernel) rfl
theorem zw_480 : Cond.code ({ cls := "ValueBench$Program", name := "setEnd", desc := "(IIIII)V" } : Jvm.MethodName) prog_7_method_10_code (6 : Nat) (Option.none : Option Jvm.ClassFile.FieldType) ∈ zx_W := zx_in 480 (by decide +kernel) rfl
theorem zw_485 : Cond.methodLink "ValueBench" (101 : Nat) ({ cls := "ValueBench$Program", name := "forget", desc := "()V" } : Jvm.MethodName) ∈ zx_W := zx_in 485 (by decide +kernel) rfl
theorem zw_486 : Cond.instanceMethod ({ cls := "ValueBench$Program", name := "forget", desc := "()V" } : Jvm.MethodName) ∈ zx_W := zx_in 486 (by decide +kernel) rfl
theorem zw_487 : Cond.selects "ValueBench$Program" ({ cls := "ValueBench$Program", name := "forget", desc := "()V" } : Jvm.MethodName) ({ cls := "ValueBench$Program", name := "forget", desc := "()V" } : Jvm.MethodName) ∈ zx_W := zx_in 487 (by decide +kernel) rfl
theorem zw_488 : Cond.code ({ cls := "ValueBench$Program", name := "forget", desc := "()V" } : Jvm.MethodName) prog_7_method_11_code (1 : Nat) (Option.none : Option Jvm.ClassFile.FieldType) ∈ zx_W := zx_in 488 (by decide +kernel) rfl
theorem zw_489 : Cond.methodLink "ValueBench$Program" (64 : Nat) ({ cls := "java/util/Arrays", name := "fill", desc := "([II)V" } : Jvm.MethodName) ∈ zx_W := zx_in 489 (by decide +kernel) rfl
theorem zw_490 : Cond.static ({ cls := "java/util/Arrays", name := "fill", desc := "([II)V" } : Jvm.MethodName) ∈ zx_W := zx_in 490 (by decide +kernel) rfl
theorem zw_491 : Cond.code ({ cls := "java/util/Arrays", name := "fill", desc := "([II)V" } : Jvm.MethodName) prog_16_method_103_code (4 : Nat) (Option.none : Option Jvm.ClassFile.FieldType) ∈ zx_W := zx_in 491 (by decide +kernel) rfl
theorem zw_496 : Cond.methodLink "ValueBench" (104 : Nat) ({ cls := "ValueBench", name := "refresh", desc := "()V" } : Jvm.MethodName) ∈ zx_W := zx_in 496 (by decide +kernel) rfl
theorem zw_498 : Cond.instanceMethod ({ cls := "ValueBench", name := "refresh", desc := "()V" } : Jvm.MethodName) ∈ zx_W := zx_in 498 (by decide +kernel) rfl
theorem zw_499 : Cond.code ({ cls := "ValueBench", name := "refresh", desc := "()V" } : Jvm.MethodName) prog_1_method_23_code (1 : Nat) (Option.none : Option Jvm.ClassFile.FieldType) ∈ zx_W := zx_in 499 (by decide +kernel) rfl
theorem zw_500 : Cond.methodLink "ValueBench" (240 : Nat) ({ cls := "ValueBench$Graph", name := "draw", desc := "(LValueBench$Program;)V" } : Jvm.MethodName) ∈ zx_W := zx_in 500 (by decide +kernel) rfl
theorem zw_501 : Cond.instanceMethod ({ cls := "ValueBench$Graph", name := "draw", desc := "(LValueBench$Program;)V" } : Jvm.MethodName) ∈ zx_W := zx_in 501 (by decide +kernel) rfl
theorem zw_502 : Cond.selects "ValueBench$Graph" ({ cls := "ValueBench$Graph", name := "draw", desc := "(LValueBench$Program;)V" } : Jvm.MethodName) ({ cls := "ValueBench$Graph", name := "draw", desc := "(LValueBench$Program;)V" } : Jvm.MethodName) ∈ zx_W := zx_in 502 (by decide +kernel) rfl
theorem zw_503 : Cond.code ({ cls := "ValueBench$Graph", name := "draw", desc := "(LValueBench$Program;)V" } : Jvm.MethodName) prog_4_method_9_code (3 : Nat) (Option.none : Option Jvm.ClassFile.FieldType) ∈ zx_W := zx_in 503 (by decide +kernel) rfl
theorem zw_504 : Cond.methodLink "ValueBench$Graph" (48 : Nat) ({ cls := "ValueBench$Program", name := "has", desc := "(I)Z" } : Jvm.MethodName) ∈ zx_W := zx_in 504 (by decide +kernel) rfl
theorem zw_505 : Cond.methodLink "ValueBench$Graph" (54 : Nat) ({ cls := "ValueBench$Program", name := "toldBlocks", desc := "(I)I" } : Jvm.MethodName) ∈ zx_W := zx_in 505 (by decide +kernel) rfl
theorem zw_506 : Cond.instanceMethod ({ cls := "ValueBench$Program", name := "toldBlocks", desc := "(I)I" } : Jvm.MethodName) ∈ zx_W := zx_in 506 (by decide +kernel) rfl
theorem zw_507 : Cond.selects "ValueBench$Program" ({ cls := "ValueBench$Program", name := "toldBlocks", desc := "(I)I" } : Jvm.MethodName) ({ cls := "ValueBench$Program", name := "toldBlocks", desc := "(I)I" } : Jvm.MethodName) ∈ zx_W := zx_in 507 (by decide +kernel) rfl
theorem zw_508 : Cond.code ({ cls := "ValueBench$Program", name := "toldBlocks", desc := "(I)I" } : Jvm.MethodName) prog_7_method_16_code (2 : Nat) (Option.some Jvm.ClassFile.FieldType.int) ∈ zx_W := zx_in 508 (by decide +kernel) rfl
theorem zw_509 : Cond.methodLink "ValueBench$Program" (76 : Nat) ({ cls := "ValueBench$Program", name := "howCounts", desc := "(I)I" } : Jvm.MethodName) ∈ zx_W := zx_in 509 (by decide +kernel) rfl
theorem zw_510 : Cond.instanceMethod ({ cls := "ValueBench$Program", name := "howCounts", desc := "(I)I" } : Jvm.MethodName) ∈ zx_W := zx_in 510 (by decide +kernel) rfl
theorem zw_511 : Cond.selects "ValueBench$Program" ({ cls := "ValueBench$Program", name := "howCounts", desc := "(I)I" } : Jvm.MethodName) ({ cls := "ValueBench$Program", name := "howCounts", desc := "(I)I" } : Jvm.MethodName) ∈ zx_W := zx_in 511 (by decide +kernel) rfl
theorem zw_512 : Cond.code ({ cls := "ValueBench$Program", name := "howCounts", desc := "(I)I" } : Jvm.MethodName) prog_7_method_13_code (2 : Nat) (Option.some Jvm.ClassFile.FieldType.int) ∈ zx_W := zx_in 512 (by decide +kernel) rfl
theorem zw_513 : Cond.methodLink "ValueBench$Program" (73 : Nat) ({ cls := "ValueBench$Program", name := "endCounts", desc := "(I)Z" } : Jvm.MethodName) ∈ zx_W := zx_in 513 (by decide +kernel) rfl
theorem zw_515 : Cond.instanceMethod ({ cls := "ValueBench$Program", name := "endCounts", desc := "(I)Z" } : Jvm.MethodName) ∈ zx_W := zx_in 515 (by decide +kernel) rfl
theorem zw_516 : Cond.code ({ cls := "ValueBench$Program", name := "endCounts", desc := "(I)Z" } : Jvm.MethodName) prog_7_method_12_code (2 : Nat) (Option.some Jvm.ClassFile.FieldType.boolean) ∈ zx_W := zx_in 516 (by decide +kernel) rfl
theorem zw_517 : Cond.methodLink "ValueBench$Program" (70 : Nat) ({ cls := "ValueBench$Program", name := "has", desc := "(I)Z" } : Jvm.MethodName) ∈ zx_W := zx_in 517 (by decide +kernel) rfl
theorem zw_518 : Cond.methodLink "ValueBench$Graph" (57 : Nat) ({ cls := "ValueBench$Graph", name := "closure", desc := "(I[II)I" } : Jvm.MethodName) ∈ zx_W := zx_in 518 (by decide +kernel) rfl
theorem zw_519 : Cond.static ({ cls := "ValueBench$Graph", name := "closure", desc := "(I[II)I" } : Jvm.MethodName) ∈ zx_W := zx_in 519 (by decide +kernel) rfl
theorem zw_520 : Cond.code ({ cls := "ValueBench$Graph", name := "closure", desc := "(I[II)I" } : Jvm.MethodName) prog_4_method_6_code (6 : Nat) (Option.some Jvm.ClassFile.FieldType.int) ∈ zx_W := zx_in 520 (by decide +kernel) rfl
theorem zw_521 : Cond.methodLink "ValueBench$Graph" (40 : Nat) ({ cls := "ValueBench$Graph", name := "union", desc := "(I[I)I" } : Jvm.MethodName) ∈ zx_W := zx_in 521 (by decide +kernel) rfl
theorem zw_522 : Cond.static ({ cls := "ValueBench$Graph", name := "union", desc := "(I[I)I" } : Jvm.MethodName) ∈ zx_W := zx_in 522 (by decide +kernel) rfl
theorem zw_523 : Cond.code ({ cls := "ValueBench$Graph", name := "union", desc := "(I[I)I" } : Jvm.MethodName) prog_4_method_5_code (4 : Nat) (Option.some Jvm.ClassFile.FieldType.int) ∈ zx_W := zx_in 523 (by decide +kernel) rfl
theorem zw_524 : Cond.methodLink "ValueBench$Graph" (30 : Nat) ({ cls := "ValueBench$Graph", name := "isIn", desc := "(II)Z" } : Jvm.MethodName) ∈ zx_W := zx_in 524 (by decide +kernel) rfl
theorem zw_525 : Cond.static ({ cls := "ValueBench$Graph", name := "isIn", desc := "(II)Z" } : Jvm.MethodName) ∈ zx_W := zx_in 525 (by decide +kernel) rfl
theorem zw_526 : Cond.code ({ cls := "ValueBench$Graph", name := "isIn", desc := "(II)Z" } : Jvm.MethodName) prog_4_method_2_code (2 : Nat) (Option.some Jvm.ClassFile.FieldType.boolean) ∈ zx_W := zx_in 526 (by decide +kernel) rfl
theorem zw_527 : Cond.methodLink "ValueBench$Graph" (61 : Nat) ({ cls := "ValueBench$Graph", name := "turnAround", desc := "([I[I)V" } : Jvm.MethodName) ∈ zx_W := zx_in 527 (by decide +kernel) rfl
theorem zw_528 : Cond.static ({ cls := "ValueBench$Graph", name := "turnAround", desc := "([I[I)V" } : Jvm.MethodName) ∈ zx_W := zx_in 528 (by decide +kernel) rfl
theorem zw_529 : Cond.code ({ cls := "ValueBench$Graph", name := "turnAround", desc := "([I[I)V" } : Jvm.MethodName) prog_4_method_7_code (4 : Nat) (Option.none : Option Jvm.ClassFile.FieldType) ∈ zx_W := zx_in 529 (by decide +kernel) rfl
theorem zw_530 : Cond.methodLink "ValueBench$Graph" (65 : Nat) ({ cls := "ValueBench$Graph", name := "parentOf", desc := "(I)I" } : Jvm.MethodName) ∈ zx_W := zx_in 530 (by decide +kernel) rfl
theorem zw_532 : Cond.instanceMethod ({ cls := "ValueBench$Graph", name := "parentOf", desc := "(I)I" } : Jvm.MethodName) ∈ zx_W := zx_in 532 (by decide +kernel) rfl
theorem zw_533 : Cond.code ({ cls := "ValueBench$Graph", name := "parentOf", desc := "(I)I" } : Jvm.MethodName) prog_4_method_10_code (4 : Nat) (Option.some Jvm.ClassFile.FieldType.int) ∈ zx_W := zx_in 533 (by decide +kernel) rfl
theorem zw_534 : Cond.methodLink "ValueBench$Graph" (68 : Nat) ({ cls := "ValueBench$Graph", name := "frontierOf", desc := "(I)I" } : Jvm.MethodName) ∈ zx_W := zx_in 534 (by decide +kernel) rfl
theorem zw_536 : Cond.instanceMethod ({ cls := "ValueBench$Graph", name := "frontierOf", desc := "(I)I" } : Jvm.MethodName) ∈ zx_W := zx_in 536 (by decide +kernel) rfl
theorem zw_537 : Cond.code ({ cls := "ValueBench$Graph", name := "frontierOf", desc := "(I)I" } : Jvm.MethodName) prog_4_method_11_code (5 : Nat) (Option.some Jvm.ClassFile.FieldType.int) ∈ zx_W := zx_in 537 (by decide +kernel) rfl
theorem zw_538 : Cond.methodLink "ValueBench" (243 : Nat) ({ cls := "ValueBench$Values", name := "make", desc := "(LValueBench$Program;LValueBench$Graph;)V" } : Jvm.MethodName) ∈ zx_W := zx_in 538 (by decide +kernel) rfl
theorem zw_539 : Cond.instanceMethod ({ cls := "ValueBench$Values", name := "make", desc := "(LValueBench$Program;LValueBench$Graph;)V" } : Jvm.MethodName) ∈ zx_W := zx_in 539 (by decide +kernel) rfl
theorem zw_540 : Cond.selects "ValueBench$Values" ({ cls := "ValueBench$Values", name := "make", desc := "(LValueBench$Program;LValueBench$Graph;)V" } : Jvm.MethodName) ({ cls := "ValueBench$Values", name := "make", desc := "(LValueBench$Program;LValueBench$Graph;)V" } : Jvm.MethodName) ∈ zx_W := zx_in 540 (by decide +kernel) rfl
theorem zw_541 : Cond.code ({ cls := "ValueBench$Values", name := "make", desc := "(LValueBench$Program;LValueBench$Graph;)V" } : Jvm.MethodName) prog_11_method_6_code (5 : Nat) (Option.none : Option Jvm.ClassFile.FieldType) ∈ zx_W := zx_in 541 (by decide +kernel) rfl
theorem zw_542 : Cond.methodLink "ValueBench$Values" (61 : Nat) ({ cls := "ValueBench$Values", name := "placeChoices", desc := "(LValueBench$Program;LValueBench$Graph;)V" } : Jvm.MethodName) ∈ zx_W := zx_in 542 (by decide +kernel) rfl
theorem zw_544 : Cond.instanceMethod ({ cls := "ValueBench$Values", name := "placeChoices", desc := "(LValueBench$Program;LValueBench$Graph;)V" } : Jvm.MethodName) ∈ zx_W := zx_in 544 (by decide +kernel) rfl
theorem zw_545 : Cond.code ({ cls := "ValueBench$Values", name := "placeChoices", desc := "(LValueBench$Program;LValueBench$Graph;)V" } : Jvm.MethodName) prog_11_method_7_code (6 : Nat) (Option.none : Option Jvm.ClassFile.FieldType) ∈ zx_W := zx_in 545 (by decide +kernel) rfl
theorem zw_546 : Cond.methodLink "ValueBench$Values" (93 : Nat) ({ cls := "ValueBench$Values", name := "givingBlocks", desc := "(LValueBench$Program;I)I" } : Jvm.MethodName) ∈ zx_W := zx_in 546 (by decide +kernel) rfl
theorem zw_547 : Cond.static ({ cls := "ValueBench$Values", name := "givingBlocks", desc := "(LValueBench$Program;I)I" } : Jvm.MethodName) ∈ zx_W := zx_in 547 (by decide +kernel) rfl
theorem zw_548 : Cond.code ({ cls := "ValueBench$Values", name := "givingBlocks", desc := "(LValueBench$Program;I)I" } : Jvm.MethodName) prog_11_method_8_code (5 : Nat) (Option.some Jvm.ClassFile.FieldType.int) ∈ zx_W := zx_in 548 (by decide +kernel) rfl
theorem zw_549 : Cond.methodLink "ValueBench$Values" (103 : Nat) ({ cls := "ValueBench$Graph", name := "closure", desc := "(I[II)I" } : Jvm.MethodName) ∈ zx_W := zx_in 549 (by decide +kernel) rfl
theorem zw_550 : Cond.methodLink "ValueBench$Values" (107 : Nat) ({ cls := "ValueBench$Graph", name := "union", desc := "(I[I)I" } : Jvm.MethodName) ∈ zx_W := zx_in 550 (by decide +kernel) rfl
theorem zw_551 : Cond.methodLink "ValueBench$Values" (65 : Nat) ({ cls := "ValueBench$Values", name := "numberAll", desc := "(LValueBench$Program;LValueBench$Graph;)V" } : Jvm.MethodName) ∈ zx_W := zx_in 551 (by decide +kernel) rfl
theorem zw_553 : Cond.instanceMethod ({ cls := "ValueBench$Values", name := "numberAll", desc := "(LValueBench$Program;LValueBench$Graph;)V" } : Jvm.MethodName) ∈ zx_W := zx_in 553 (by decide +kernel) rfl
theorem zw_554 : Cond.code ({ cls := "ValueBench$Values", name := "numberAll", desc := "(LValueBench$Program;LValueBench$Graph;)V" } : Jvm.MethodName) prog_11_method_9_code (4 : Nat) (Option.none : Option Jvm.ClassFile.FieldType) ∈ zx_W := zx_in 554 (by decide +kernel) rfl
theorem zw_555 : Cond.methodLink "ValueBench$Values" (119 : Nat) ({ cls := "java/util/Arrays", name := "fill", desc := "([II)V" } : Jvm.MethodName) ∈ zx_W := zx_in 555 (by decide +kernel) rfl
theorem zw_556 : Cond.methodLink "ValueBench$Values" (68 : Nat) ({ cls := "ValueBench$Graph", name := "reaches", desc := "(I)Z" } : Jvm.MethodName) ∈ zx_W := zx_in 556 (by decide +kernel) rfl
theorem zw_557 : Cond.instanceMethod ({ cls := "ValueBench$Graph", name := "reaches", desc := "(I)Z" } : Jvm.MethodName) ∈ zx_W := zx_in 557 (by decide +kernel) rfl
theorem zw_558 : Cond.selects "ValueBench$Graph" ({ cls := "ValueBench$Graph", name := "reaches", desc := "(I)Z" } : Jvm.MethodName) ({ cls := "ValueBench$Graph", name := "reaches", desc := "(I)Z" } : Jvm.MethodName) ∈ zx_W := zx_in 558 (by decide +kernel) rfl
theorem zw_559 : Cond.code ({ cls := "ValueBench$Graph", name := "reaches", desc := "(I)Z" } : Jvm.MethodName) prog_4_method_8_code (2 : Nat) (Option.some Jvm.ClassFile.FieldType.boolean) ∈ zx_W := zx_in 559 (by decide +kernel) rfl
theorem zw_560 : Cond.methodLink "ValueBench$Values" (125 : Nat) ({ cls := "ValueBench$Values", name := "add", desc := "(IIIII)V" } : Jvm.MethodName) ∈ zx_W := zx_in 560 (by decide +kernel) rfl
theorem zw_562 : Cond.instanceMethod ({ cls := "ValueBench$Values", name := "add", desc := "(IIIII)V" } : Jvm.MethodName) ∈ zx_W := zx_in 562 (by decide +kernel) rfl
theorem zw_563 : Cond.code ({ cls := "ValueBench$Values", name := "add", desc := "(IIIII)V" } : Jvm.MethodName) prog_11_method_12_code (6 : Nat) (Option.none : Option Jvm.ClassFile.FieldType) ∈ zx_W := zx_in 563 (by decide +kernel) rfl
theorem zw_564 : Cond.methodLink "ValueBench$Values" (129 : Nat) ({ cls := "ValueBench$Values", name := "numberChoices", desc := "(LValueBench$Graph;I)V" } : Jvm.MethodName) ∈ zx_W := zx_in 564 (by decide +kernel) rfl
theorem zw_566 : Cond.instanceMethod ({ cls := "ValueBench$Values", name := "numberChoices", desc := "(LValueBench$Graph;I)V" } : Jvm.MethodName) ∈ zx_W := zx_in 566 (by decide +kernel) rfl
theorem zw_567 : Cond.code ({ cls := "ValueBench$Values", name := "numberChoices", desc := "(LValueBench$Graph;I)V" } : Jvm.MethodName) prog_11_method_10_code (5 : Nat) (Option.none : Option Jvm.ClassFile.FieldType) ∈ zx_W := zx_in 567 (by decide +kernel) rfl
theorem zw_568 : Cond.methodLink "ValueBench$Values" (76 : Nat) ({ cls := "java/lang/Integer", name := "bitCount", desc := "(I)I" } : Jvm.MethodName) ∈ zx_W := zx_in 568 (by decide +kernel) rfl
theorem zw_569 : Cond.static ({ cls := "java/lang/Integer", name := "bitCount", desc := "(I)I" } : Jvm.MethodName) ∈ zx_W := zx_in 569 (by decide +kernel) rfl
theorem zw_570 : Cond.code ({ cls := "java/lang/Integer", name := "bitCount", desc := "(I)I" } : Jvm.MethodName) prog_14_method_49_code (1 : Nat) (Option.some Jvm.ClassFile.FieldType.int) ∈ zx_W := zx_in 570 (by decide +kernel) rfl
theorem zw_571 : Cond.constant "java/lang/Integer" (265 : Nat) (1431655765 : Int32) ∈ zx_W := zx_in 571 (by decide +kernel) rfl
theorem zw_572 : Cond.constant "java/lang/Integer" (266 : Nat) (858993459 : Int32) ∈ zx_W := zx_in 572 (by decide +kernel) rfl
theorem zw_573 : Cond.constant "java/lang/Integer" (267 : Nat) (252645135 : Int32) ∈ zx_W := zx_in 573 (by decide +kernel) rfl
theorem zw_574 : Cond.methodLink "ValueBench$Values" (138 : Nat) ({ cls := "ValueBench$Graph", name := "isIn", desc := "(II)Z" } : Jvm.MethodName) ∈ zx_W := zx_in 574 (by decide +kernel) rfl
theorem zw_575 : Cond.methodLink "ValueBench$Values" (132 : Nat) ({ cls := "ValueBench$Values", name := "numberInstructions", desc := "(LValueBench$Program;I)V" } : Jvm.MethodName) ∈ zx_W := zx_in 575 (by decide +kernel) rfl
theorem zw_577 : Cond.instanceMethod ({ cls := "ValueBench$Values", name := "numberInstructions", desc := "(LValueBench$Program;I)V" } : Jvm.MethodName) ∈ zx_W := zx_in 577 (by decide +kernel) rfl
theorem zw_578 : Cond.code ({ cls := "ValueBench$Values", name := "numberInstructions", desc := "(LValueBench$Program;I)V" } : Jvm.MethodName) prog_11_method_11_code (5 : Nat) (Option.none : Option Jvm.ClassFile.FieldType) ∈ zx_W := zx_in 578 (by decide +kernel) rfl
theorem zw_579 : Cond.methodLink "ValueBench$Values" (81 : Nat) ({ cls := "ValueBench$Values", name := "beginBlock", desc := "(LValueBench$Graph;I)V" } : Jvm.MethodName) ∈ zx_W := zx_in 579 (by decide +kernel) rfl
theorem zw_581 : Cond.instanceMethod ({ cls := "ValueBench$Values", name := "beginBlock", desc := "(LValueBench$Graph;I)V" } : Jvm.MethodName) ∈ zx_W := zx_in 581 (by decide +kernel) rfl
theorem zw_582 : Cond.code ({ cls := "ValueBench$Values", name := "beginBlock", desc := "(LValueBench$Graph;I)V" } : Jvm.MethodName) prog_11_method_13_code (6 : Nat) (Option.none : Option Jvm.ClassFile.FieldType) ∈ zx_W := zx_in 582 (by decide +kernel) rfl
theorem zw_583 : Cond.methodLink "ValueBench$Values" (85 : Nat) ({ cls := "ValueBench$Values", name := "followBlock", desc := "(LValueBench$Program;I)V" } : Jvm.MethodName) ∈ zx_W := zx_in 583 (by decide +kernel) rfl
theorem zw_585 : Cond.instanceMethod ({ cls := "ValueBench$Values", name := "followBlock", desc := "(LValueBench$Program;I)V" } : Jvm.MethodName) ∈ zx_W := zx_in 585 (by decide +kernel) rfl
theorem zw_586 : Cond.code ({ cls := "ValueBench$Values", name := "followBlock", desc := "(LValueBench$Program;I)V" } : Jvm.MethodName) prog_11_method_14_code (7 : Nat) (Option.none : Option Jvm.ClassFile.FieldType) ∈ zx_W := zx_in 586 (by decide +kernel) rfl
theorem zw_587 : Cond.methodLink "ValueBench$Values" (158 : Nat) ({ cls := "ValueBench$Program", name := "howCounts", desc := "(I)I" } : Jvm.MethodName) ∈ zx_W := zx_in 587 (by decide +kernel) rfl
theorem zw_588 : Cond.methodLink "ValueBench$Values" (164 : Nat) ({ cls := "ValueBench$Program", name := "endVariable", desc := "(I)I" } : Jvm.MethodName) ∈ zx_W := zx_in 588 (by decide +kernel) rfl
theorem zw_589 : Cond.instanceMethod ({ cls := "ValueBench$Program", name := "endVariable", desc := "(I)I" } : Jvm.MethodName) ∈ zx_W := zx_in 589 (by decide +kernel) rfl
theorem zw_590 : Cond.selects "ValueBench$Program" ({ cls := "ValueBench$Program", name := "endVariable", desc := "(I)I" } : Jvm.MethodName) ({ cls := "ValueBench$Program", name := "endVariable", desc := "(I)I" } : Jvm.MethodName) ∈ zx_W := zx_in 590 (by decide +kernel) rfl
theorem zw_591 : Cond.code ({ cls := "ValueBench$Program", name := "endVariable", desc := "(I)I" } : Jvm.MethodName) prog_7_method_14_code (2 : Nat) (Option.some Jvm.ClassFile.FieldType.int) ∈ zx_W := zx_in 591 (by decide +kernel) rfl
theorem zw_592 : Cond.methodLink "ValueBench$Values" (89 : Nat) ({ cls := "ValueBench$Values", name := "fillChoices", desc := "(LValueBench$Graph;)V" } : Jvm.MethodName) ∈ zx_W := zx_in 592 (by decide +kernel) rfl
theorem zw_594 : Cond.instanceMethod ({ cls := "ValueBench$Values", name := "fillChoices", desc := "(LValueBench$Graph;)V" } : Jvm.MethodName) ∈ zx_W := zx_in 594 (by decide +kernel) rfl
theorem zw_595 : Cond.code ({ cls := "ValueBench$Values", name := "fillChoices", desc := "(LValueBench$Graph;)V" } : Jvm.MethodName) prog_11_method_15_code (4 : Nat) (Option.none : Option Jvm.ClassFile.FieldType) ∈ zx_W := zx_in 595 (by decide +kernel) rfl
theorem zw_596 : Cond.methodLink "ValueBench$Values" (167 : Nat) ({ cls := "ValueBench$Values", name := "fillChoice", desc := "(II)V" } : Jvm.MethodName) ∈ zx_W := zx_in 596 (by decide +kernel) rfl
theorem zw_598 : Cond.instanceMethod ({ cls := "ValueBench$Values", name := "fillChoice", desc := "(II)V" } : Jvm.MethodName) ∈ zx_W := zx_in 598 (by decide +kernel) rfl
theorem zw_599 : Cond.code ({ cls := "ValueBench$Values", name := "fillChoice", desc := "(II)V" } : Jvm.MethodName) prog_11_method_16_code (5 : Nat) (Option.none : Option Jvm.ClassFile.FieldType) ∈ zx_W := zx_in 599 (by decide +kernel) rfl
theorem zw_600 : Cond.methodLink "ValueBench" (247 : Nat) ({ cls := "ValueBench$Classes", name := "part", desc := "(LValueBench$Values;)V" } : Jvm.MethodName) ∈ zx_W := zx_in 600 (by decide +kernel) rfl
theorem zw_601 : Cond.instanceMethod ({ cls := "ValueBench$Classes", name := "part", desc := "(LValueBench$Values;)V" } : Jvm.MethodName) ∈ zx_W := zx_in 601 (by decide +kernel) rfl
theorem zw_602 : Cond.selects "ValueBench$Classes" ({ cls := "ValueBench$Classes", name := "part", desc := "(LValueBench$Values;)V" } : Jvm.MethodName) ({ cls := "ValueBench$Classes", name := "part", desc := "(LValueBench$Values;)V" } : Jvm.MethodName) ∈ zx_W := zx_in 602 (by decide +kernel) rfl
theorem zw_603 : Cond.code ({ cls := "ValueBench$Classes", name := "part", desc := "(LValueBench$Values;)V" } : Jvm.MethodName) prog_2_method_2_code (4 : Nat) (Option.none : Option Jvm.ClassFile.FieldType) ∈ zx_W := zx_in 603 (by decide +kernel) rfl
theorem zw_604 : Cond.methodLink "ValueBench$Classes" (24 : Nat) ({ cls := "ValueBench$Classes", name := "leastAlike", desc := "(LValueBench$Values;I)I" } : Jvm.MethodName) ∈ zx_W := zx_in 604 (by decide +kernel) rfl
theorem zw_606 : Cond.instanceMethod ({ cls := "ValueBench$Classes", name := "leastAlike", desc := "(LValueBench$Values;I)I" } : Jvm.MethodName) ∈ zx_W := zx_in 606 (by decide +kernel) rfl
theorem zw_607 : Cond.code ({ cls := "ValueBench$Classes", name := "leastAlike", desc := "(LValueBench$Values;I)I" } : Jvm.MethodName) prog_2_method_3_code (4 : Nat) (Option.some Jvm.ClassFile.FieldType.int) ∈ zx_W := zx_in 607 (by decide +kernel) rfl
theorem zw_608 : Cond.methodLink "ValueBench$Classes" (33 : Nat) ({ cls := "ValueBench$Classes", name := "alike", desc := "(LValueBench$Values;II)Z" } : Jvm.MethodName) ∈ zx_W := zx_in 608 (by decide +kernel) rfl
theorem zw_609 : Cond.static ({ cls := "ValueBench$Classes", name := "alike", desc := "(LValueBench$Values;II)Z" } : Jvm.MethodName) ∈ zx_W := zx_in 609 (by decide +kernel) rfl
theorem zw_610 : Cond.code ({ cls := "ValueBench$Classes", name := "alike", desc := "(LValueBench$Values;II)Z" } : Jvm.MethodName) prog_2_method_4_code (3 : Nat) (Option.some Jvm.ClassFile.FieldType.boolean) ∈ zx_W := zx_in 610 (by decide +kernel) rfl
theorem zw_611 : Cond.methodLink "ValueBench$Classes" (28 : Nat) ({ cls := "ValueBench$Classes", name := "partFiner", desc := "(LValueBench$Values;)Z" } : Jvm.MethodName) ∈ zx_W := zx_in 611 (by decide +kernel) rfl
theorem zw_613 : Cond.instanceMethod ({ cls := "ValueBench$Classes", name := "partFiner", desc := "(LValueBench$Values;)Z" } : Jvm.MethodName) ∈ zx_W := zx_in 613 (by decide +kernel) rfl
theorem zw_614 : Cond.code ({ cls := "ValueBench$Classes", name := "partFiner", desc := "(LValueBench$Values;)Z" } : Jvm.MethodName) prog_2_method_5_code (4 : Nat) (Option.some Jvm.ClassFile.FieldType.boolean) ∈ zx_W := zx_in 614 (by decide +kernel) rfl
theorem zw_615 : Cond.methodLink "ValueBench$Classes" (46 : Nat) ({ cls := "ValueBench$Classes", name := "leastTogether", desc := "(LValueBench$Values;I)I" } : Jvm.MethodName) ∈ zx_W := zx_in 615 (by decide +kernel) rfl
theorem zw_617 : Cond.instanceMethod ({ cls := "ValueBench$Classes", name := "leastTogether", desc := "(LValueBench$Values;I)I" } : Jvm.MethodName) ∈ zx_W := zx_in 617 (by decide +kernel) rfl
theorem zw_618 : Cond.code ({ cls := "ValueBench$Classes", name := "leastTogether", desc := "(LValueBench$Values;I)I" } : Jvm.MethodName) prog_2_method_6_code (4 : Nat) (Option.some Jvm.ClassFile.FieldType.int) ∈ zx_W := zx_in 618 (by decide +kernel) rfl
theorem zw_619 : Cond.methodLink "ValueBench$Classes" (55 : Nat) ({ cls := "ValueBench$Classes", name := "operandsAgree", desc := "(LValueBench$Values;II)Z" } : Jvm.MethodName) ∈ zx_W := zx_in 619 (by decide +kernel) rfl
theorem zw_621 : Cond.instanceMethod ({ cls := "ValueBench$Classes", name := "operandsAgree", desc := "(LValueBench$Values;II)Z" } : Jvm.MethodName) ∈ zx_W := zx_in 621 (by decide +kernel) rfl
theorem zw_622 : Cond.code ({ cls := "ValueBench$Classes", name := "operandsAgree", desc := "(LValueBench$Values;II)Z" } : Jvm.MethodName) prog_2_method_7_code (9 : Nat) (Option.some Jvm.ClassFile.FieldType.boolean) ∈ zx_W := zx_in 622 (by decide +kernel) rfl
theorem zw_623 : Cond.methodLink "ValueBench$Classes" (61 : Nat) ({ cls := "ValueBench$Values", name := "operandsOf", desc := "(I)I" } : Jvm.MethodName) ∈ zx_W := zx_in 623 (by decide +kernel) rfl
theorem zw_624 : Cond.instanceMethod ({ cls := "ValueBench$Values", name := "operandsOf", desc := "(I)I" } : Jvm.MethodName) ∈ zx_W := zx_in 624 (by decide +kernel) rfl
theorem zw_625 : Cond.selects "ValueBench$Values" ({ cls := "ValueBench$Values", name := "operandsOf", desc := "(I)I" } : Jvm.MethodName) ({ cls := "ValueBench$Values", name := "operandsOf", desc := "(I)I" } : Jvm.MethodName) ∈ zx_W := zx_in 625 (by decide +kernel) rfl
theorem zw_626 : Cond.code ({ cls := "ValueBench$Values", name := "operandsOf", desc := "(I)I" } : Jvm.MethodName) prog_11_method_3_code (2 : Nat) (Option.some Jvm.ClassFile.FieldType.int) ∈ zx_W := zx_in 626 (by decide +kernel) rfl
theorem zw_627 : Cond.methodLink "ValueBench$Classes" (65 : Nat) ({ cls := "ValueBench$Classes", name := "together", desc := "(LValueBench$Values;II)Z" } : Jvm.MethodName) ∈ zx_W := zx_in 627 (by decide +kernel) rfl
theorem zw_629 : Cond.instanceMethod ({ cls := "ValueBench$Classes", name := "together", desc := "(LValueBench$Values;II)Z" } : Jvm.MethodName) ∈ zx_W := zx_in 629 (by decide +kernel) rfl
theorem zw_630 : Cond.code ({ cls := "ValueBench$Classes", name := "together", desc := "(LValueBench$Values;II)Z" } : Jvm.MethodName) prog_2_method_8_code (4 : Nat) (Option.some Jvm.ClassFile.FieldType.boolean) ∈ zx_W := zx_in 630 (by decide +kernel) rfl
theorem zw_631 : Cond.methodLink "ValueBench$Classes" (68 : Nat) ({ cls := "ValueBench$Classes", name := "isEven", desc := "(I)Z" } : Jvm.MethodName) ∈ zx_W := zx_in 631 (by decide +kernel) rfl
theorem zw_632 : Cond.static ({ cls := "ValueBench$Classes", name := "isEven", desc := "(I)Z" } : Jvm.MethodName) ∈ zx_W := zx_in 632 (by decide +kernel) rfl
theorem zw_633 : Cond.code ({ cls := "ValueBench$Classes", name := "isEven", desc := "(I)Z" } : Jvm.MethodName) prog_2_method_9_code (1 : Nat) (Option.some Jvm.ClassFile.FieldType.boolean) ∈ zx_W := zx_in 633 (by decide +kernel) rfl
theorem zw_634 : Cond.methodLink "ValueBench$Classes" (49 : Nat) ({ cls := "java/lang/System", name := "arraycopy", desc := "(Ljava/lang/Object;ILjava/lang/Object;II)V" } : Jvm.MethodName) ∈ zx_W := zx_in 634 (by decide +kernel) rfl
theorem zw_635 : Cond.methodLink "ValueBench" (251 : Nat) ({ cls := "ValueBench$Leaders", name := "lead", desc := "(LValueBench$Program;LValueBench$Graph;LValueBench$Values;LValueBench$Classes;)V" } : Jvm.MethodName) ∈ zx_W := zx_in 635 (by decide +kernel) rfl
theorem zw_636 : Cond.instanceMethod ({ cls := "ValueBench$Leaders", name := "lead", desc := "(LValueBench$Program;LValueBench$Graph;LValueBench$Values;LValueBench$Classes;)V" } : Jvm.MethodName) ∈ zx_W := zx_in 636 (by decide +kernel) rfl
theorem zw_637 : Cond.selects "ValueBench$Leaders" ({ cls := "ValueBench$Leaders", name := "lead", desc := "(LValueBench$Program;LValueBench$Graph;LValueBench$Values;LValueBench$Classes;)V" } : Jvm.MethodName) ({ cls := "ValueBench$Leaders", name := "lead", desc := "(LValueBench$Program;LValueBench$Graph;LValueBench$Values;LValueBench$Classes;)V" } : Jvm.MethodName) ∈ zx_W := zx_in 637 (by decide +kernel) rfl
theorem zw_638 : Cond.code ({ cls := "ValueBench$Leaders", name := "lead", desc := "(LValueBench$Program;LValueBench$Graph;LValueBench$Values;LValueBench$Classes;)V" } : Jvm.MethodName) prog_5_method_2_code (7 : Nat) (Option.none : Option Jvm.ClassFile.FieldType) ∈ zx_W := zx_in 638 (by decide +kernel) rfl
theorem zw_639 : Cond.methodLink "ValueBench$Leaders" (31 : Nat) ({ cls := "ValueBench$Leaders", name := "isLed", desc := "(LValueBench$Graph;LValueBench$Values;LValueBench$Classes;I)Z" } : Jvm.MethodName) ∈ zx_W := zx_in 639 (by decide +kernel) rfl
theorem zw_640 : Cond.static ({ cls := "ValueBench$Leaders", name := "isLed", desc := "(LValueBench$Graph;LValueBench$Values;LValueBench$Classes;I)Z" } : Jvm.MethodName) ∈ zx_W := zx_in 640 (by decide +kernel) rfl
theorem zw_641 : Cond.code ({ cls := "ValueBench$Leaders", name := "isLed", desc := "(LValueBench$Graph;LValueBench$Values;LValueBench$Classes;I)Z" } : Jvm.MethodName) prog_5_method_3_code (7 : Nat) (Option.some Jvm.ClassFile.FieldType.boolean) ∈ zx_W := zx_in 641 (by decide +kernel) rfl
theorem zw_642 : Cond.methodLink "ValueBench$Leaders" (69 : Nat) ({ cls := "ValueBench$Graph", name := "isIn", desc := "(II)Z" } : Jvm.MethodName) ∈ zx_W := zx_in 642 (by decide +kernel) rfl
theorem zw_643 : Cond.methodLink "ValueBench$Leaders" (35 : Nat) ({ cls := "ValueBench$Leaders", name := "leadOperands", desc := "(LValueBench$Graph;LValueBench$Values;LValueBench$Classes;I)V" } : Jvm.MethodName) ∈ zx_W := zx_in 643 (by decide +kernel) rfl
theorem zw_645 : Cond.instanceMethod ({ cls := "ValueBench$Leaders", name := "leadOperands", desc := "(LValueBench$Graph;LValueBench$Values;LValueBench$Classes;I)V" } : Jvm.MethodName) ∈ zx_W := zx_in 645 (by decide +kernel) rfl
theorem zw_646 : Cond.code ({ cls := "ValueBench$Leaders", name := "leadOperands", desc := "(LValueBench$Graph;LValueBench$Values;LValueBench$Classes;I)V" } : Jvm.MethodName) prog_5_method_5_code (10 : Nat) (Option.none : Option Jvm.ClassFile.FieldType) ∈ zx_W := zx_in 646 (by decide +kernel) rfl
theorem zw_647 : Cond.methodLink "ValueBench$Leaders" (76 : Nat) ({ cls := "ValueBench$Values", name := "operandsOf", desc := "(I)I" } : Jvm.MethodName) ∈ zx_W := zx_in 647 (by decide +kernel) rfl
theorem zw_648 : Cond.methodLink "ValueBench$Leaders" (86 : Nat) ({ cls := "ValueBench$Graph", name := "nthOf", desc := "(II)I" } : Jvm.MethodName) ∈ zx_W := zx_in 648 (by decide +kernel) rfl
theorem zw_649 : Cond.static ({ cls := "ValueBench$Graph", name := "nthOf", desc := "(II)I" } : Jvm.MethodName) ∈ zx_W := zx_in 649 (by decide +kernel) rfl
theorem zw_650 : Cond.code ({ cls := "ValueBench$Graph", name := "nthOf", desc := "(II)I" } : Jvm.MethodName) prog_4_method_3_code (4 : Nat) (Option.some Jvm.ClassFile.FieldType.int) ∈ zx_W := zx_in 650 (by decide +kernel) rfl
theorem zw_651 : Cond.methodLink "ValueBench$Leaders" (54 : Nat) ({ cls := "ValueBench$Leaders", name := "leader", desc := "(LValueBench$Graph;LValueBench$Values;LValueBench$Classes;II)I" } : Jvm.MethodName) ∈ zx_W := zx_in 651 (by decide +kernel) rfl
theorem zw_653 : Cond.instanceMethod ({ cls := "ValueBench$Leaders", name := "leader", desc := "(LValueBench$Graph;LValueBench$Values;LValueBench$Classes;II)I" } : Jvm.MethodName) ∈ zx_W := zx_in 653 (by decide +kernel) rfl
theorem zw_654 : Cond.code ({ cls := "ValueBench$Leaders", name := "leader", desc := "(LValueBench$Graph;LValueBench$Values;LValueBench$Classes;II)I" } : Jvm.MethodName) prog_5_method_4_code (8 : Nat) (Option.some Jvm.ClassFile.FieldType.int) ∈ zx_W := zx_in 654 (by decide +kernel) rfl
theorem zw_655 : Cond.methodLink "ValueBench$Leaders" (39 : Nat) ({ cls := "ValueBench$Graph", name := "reaches", desc := "(I)Z" } : Jvm.MethodName) ∈ zx_W := zx_in 655 (by decide +kernel) rfl
theorem zw_656 : Cond.methodLink "ValueBench$Leaders" (45 : Nat) ({ cls := "ValueBench$Leaders", name := "leadEmits", desc := "(LValueBench$Program;LValueBench$Graph;LValueBench$Values;LValueBench$Classes;I)V" } : Jvm.MethodName) ∈ zx_W := zx_in 656 (by decide +kernel) rfl
theorem zw_658 : Cond.instanceMethod ({ cls := "ValueBench$Leaders", name := "leadEmits", desc := "(LValueBench$Program;LValueBench$Graph;LValueBench$Values;LValueBench$Classes;I)V" } : Jvm.MethodName) ∈ zx_W := zx_in 658 (by decide +kernel) rfl
theorem zw_659 : Cond.code ({ cls := "ValueBench$Leaders", name := "leadEmits", desc := "(LValueBench$Program;LValueBench$Graph;LValueBench$Values;LValueBench$Classes;I)V" } : Jvm.MethodName) prog_5_method_6_code (7 : Nat) (Option.none : Option Jvm.ClassFile.FieldType) ∈ zx_W := zx_in 659 (by decide +kernel) rfl
theorem zw_660 : Cond.methodLink "ValueBench" (107 : Nat) ({ cls := "ValueBench$Graph", name := "reaches", desc := "(I)Z" } : Jvm.MethodName) ∈ zx_W := zx_in 660 (by decide +kernel) rfl
theorem zw_661 : Cond.methodLink "ValueBench" (114 : Nat) ({ cls := "ValueBench$Program", name := "howCounts", desc := "(I)I" } : Jvm.MethodName) ∈ zx_W := zx_in 661 (by decide +kernel) rfl
theorem zw_662 : Cond.methodLink "ValueBench" (118 : Nat) ({ cls := "ValueBench", name := "aboutReached", desc := "(II)I" } : Jvm.MethodName) ∈ zx_W := zx_in 662 (by decide +kernel) rfl
theorem zw_664 : Cond.instanceMethod ({ cls := "ValueBench", name := "aboutReached", desc := "(II)I" } : Jvm.MethodName) ∈ zx_W := zx_in 664 (by decide +kernel) rfl
theorem zw_665 : Cond.code ({ cls := "ValueBench", name := "aboutReached", desc := "(II)I" } : Jvm.MethodName) prog_1_method_7_code (3 : Nat) (Option.some Jvm.ClassFile.FieldType.int) ∈ zx_W := zx_in 665 (by decide +kernel) rfl
theorem zw_666 : Cond.methodLink "ValueBench" (128 : Nat) ({ cls := "java/lang/Integer", name := "bitCount", desc := "(I)I" } : Jvm.MethodName) ∈ zx_W := zx_in 666 (by decide +kernel) rfl
theorem zw_671 : Cond.methodLink "ValueBench" (139 : Nat) ({ cls := "ValueBench$Graph", name := "nthOf", desc := "(II)I" } : Jvm.MethodName) ∈ zx_W := zx_in 671 (by decide +kernel) rfl
theorem zw_676 : Cond.methodLink "ValueBench" (145 : Nat) ({ cls := "ValueBench$Graph", name := "isIn", desc := "(II)Z" } : Jvm.MethodName) ∈ zx_W := zx_in 676 (by decide +kernel) rfl
theorem zw_685 : Cond.methodLink "ValueBench" (149 : Nat) ({ cls := "ValueBench$Values", name := "has", desc := "(I)Z" } : Jvm.MethodName) ∈ zx_W := zx_in 685 (by decide +kernel) rfl
theorem zw_686 : Cond.instanceMethod ({ cls := "ValueBench$Values", name := "has", desc := "(I)Z" } : Jvm.MethodName) ∈ zx_W := zx_in 686 (by decide +kernel) rfl
theorem zw_687 : Cond.selects "ValueBench$Values" ({ cls := "ValueBench$Values", name := "has", desc := "(I)Z" } : Jvm.MethodName) ({ cls := "ValueBench$Values", name := "has", desc := "(I)Z" } : Jvm.MethodName) ∈ zx_W := zx_in 687 (by decide +kernel) rfl
theorem zw_688 : Cond.code ({ cls := "ValueBench$Values", name := "has", desc := "(I)Z" } : Jvm.MethodName) prog_11_method_2_code (2 : Nat) (Option.some Jvm.ClassFile.FieldType.boolean) ∈ zx_W := zx_in 688 (by decide +kernel) rfl
theorem zw_689 : Cond.methodLink "ValueBench" (166 : Nat) ({ cls := "ValueBench$Values", name := "operandsOf", desc := "(I)I" } : Jvm.MethodName) ∈ zx_W := zx_in 689 (by decide +kernel) rfl
theorem zw_694 : Cond.methodLink "ValueBench" (172 : Nat) ({ cls := "ValueBench$Values", name := "hasOperand", desc := "(II)Z" } : Jvm.MethodName) ∈ zx_W := zx_in 694 (by decide +kernel) rfl
theorem zw_695 : Cond.instanceMethod ({ cls := "ValueBench$Values", name := "hasOperand", desc := "(II)Z" } : Jvm.MethodName) ∈ zx_W := zx_in 695 (by decide +kernel) rfl
theorem zw_696 : Cond.selects "ValueBench$Values" ({ cls := "ValueBench$Values", name := "hasOperand", desc := "(II)Z" } : Jvm.MethodName) ({ cls := "ValueBench$Values", name := "hasOperand", desc := "(II)Z" } : Jvm.MethodName) ∈ zx_W := zx_in 696 (by decide +kernel) rfl
theorem zw_697 : Cond.code ({ cls := "ValueBench$Values", name := "hasOperand", desc := "(II)Z" } : Jvm.MethodName) prog_11_method_4_code (3 : Nat) (Option.some Jvm.ClassFile.FieldType.boolean) ∈ zx_W := zx_in 697 (by decide +kernel) rfl
theorem zw_698 : Cond.methodLink "ValueBench$Values" (53 : Nat) ({ cls := "ValueBench$Values", name := "has", desc := "(I)Z" } : Jvm.MethodName) ∈ zx_W := zx_in 698 (by decide +kernel) rfl
theorem zw_699 : Cond.methodLink "ValueBench$Values" (57 : Nat) ({ cls := "ValueBench$Values", name := "operandsOf", desc := "(I)I" } : Jvm.MethodName) ∈ zx_W := zx_in 699 (by decide +kernel) rfl
theorem zw_712 : Cond.methodLink "ValueBench" (188 : Nat) ({ cls := "ValueBench", name := "readsOf", desc := "(Z)LValueBench$Reads;" } : Jvm.MethodName) ∈ zx_W := zx_in 712 (by decide +kernel) rfl
theorem zw_714 : Cond.instanceMethod ({ cls := "ValueBench", name := "readsOf", desc := "(Z)LValueBench$Reads;" } : Jvm.MethodName) ∈ zx_W := zx_in 714 (by decide +kernel) rfl
theorem zw_715 : Cond.code ({ cls := "ValueBench", name := "readsOf", desc := "(Z)LValueBench$Reads;" } : Jvm.MethodName) prog_1_method_17_code (2 : Nat) (Option.some (Jvm.ClassFile.FieldType.object "ValueBench$Reads")) ∈ zx_W := zx_in 715 (by decide +kernel) rfl
theorem zw_720 : Cond.methodLink "ValueBench" (195 : Nat) ({ cls := "ValueBench$Program", name := "nthEmit", desc := "(II)I" } : Jvm.MethodName) ∈ zx_W := zx_in 720 (by decide +kernel) rfl
theorem zw_721 : Cond.instanceMethod ({ cls := "ValueBench$Program", name := "nthEmit", desc := "(II)I" } : Jvm.MethodName) ∈ zx_W := zx_in 721 (by decide +kernel) rfl
theorem zw_722 : Cond.selects "ValueBench$Program" ({ cls := "ValueBench$Program", name := "nthEmit", desc := "(II)I" } : Jvm.MethodName) ({ cls := "ValueBench$Program", name := "nthEmit", desc := "(II)I" } : Jvm.MethodName) ∈ zx_W := zx_in 722 (by decide +kernel) rfl
theorem zw_723 : Cond.code ({ cls := "ValueBench$Program", name := "nthEmit", desc := "(II)I" } : Jvm.MethodName) prog_7_method_17_code (5 : Nat) (Option.some Jvm.ClassFile.FieldType.int) ∈ zx_W := zx_in 723 (by decide +kernel) rfl
theorem zw_728 : Cond.methodLink "ValueBench" (201 : Nat) ({ cls := "ValueBench$Machine", name := "takeInputs", desc := "(IIII)V" } : Jvm.MethodName) ∈ zx_W := zx_in 728 (by decide +kernel) rfl
theorem zw_729 : Cond.instanceMethod ({ cls := "ValueBench$Machine", name := "takeInputs", desc := "(IIII)V" } : Jvm.MethodName) ∈ zx_W := zx_in 729 (by decide +kernel) rfl
theorem zw_730 : Cond.selects "ValueBench$Machine" ({ cls := "ValueBench$Machine", name := "takeInputs", desc := "(IIII)V" } : Jvm.MethodName) ({ cls := "ValueBench$Machine", name := "takeInputs", desc := "(IIII)V" } : Jvm.MethodName) ∈ zx_W := zx_in 730 (by decide +kernel) rfl
theorem zw_731 : Cond.code ({ cls := "ValueBench$Machine", name := "takeInputs", desc := "(IIII)V" } : Jvm.MethodName) prog_6_method_2_code (5 : Nat) (Option.none : Option Jvm.ClassFile.FieldType) ∈ zx_W := zx_in 731 (by decide +kernel) rfl
theorem zw_732 : Cond.methodLink "ValueBench" (205 : Nat) ({ cls := "ValueBench$Machine", name := "perform", desc := "(LValueBench$Form;)I" } : Jvm.MethodName) ∈ zx_W := zx_in 732 (by decide +kernel) rfl
theorem zw_733 : Cond.instanceMethod ({ cls := "ValueBench$Machine", name := "perform", desc := "(LValueBench$Form;)I" } : Jvm.MethodName) ∈ zx_W := zx_in 733 (by decide +kernel) rfl
theorem zw_734 : Cond.selects "ValueBench$Machine" ({ cls := "ValueBench$Machine", name := "perform", desc := "(LValueBench$Form;)I" } : Jvm.MethodName) ({ cls := "ValueBench$Machine", name := "perform", desc := "(LValueBench$Form;)I" } : Jvm.MethodName) ∈ zx_W := zx_in 734 (by decide +kernel) rfl
theorem zw_735 : Cond.code ({ cls := "ValueBench$Machine", name := "perform", desc := "(LValueBench$Form;)I" } : Jvm.MethodName) prog_6_method_3_code (6 : Nat) (Option.some Jvm.ClassFile.FieldType.int) ∈ zx_W := zx_in 735 (by decide +kernel) rfl
theorem zw_736 : Cond.methodLink "ValueBench$Machine" (38 : Nat) ({ cls := "ValueBench$Form", name := "begin", desc := "(II)V" } : Jvm.MethodName) ∈ zx_W := zx_in 736 (by decide +kernel) rfl
theorem zw_738 : Cond.sameMethod "ValueBench$Form" "ValueBench$Form" "begin" "(II)V" ∈ zx_W := zx_in 738 (by decide +kernel) rfl
theorem zw_739 : Cond.selects "ValueBench$ToldForm" ({ cls := "ValueBench$Form", name := "begin", desc := "(II)V" } : Jvm.MethodName) ({ cls := "ValueBench$ToldForm", name := "begin", desc := "(II)V" } : Jvm.MethodName) ∈ zx_W := zx_in 739 (by decide +kernel) rfl
theorem zw_740 : Cond.instanceMethod ({ cls := "ValueBench$ToldForm", name := "begin", desc := "(II)V" } : Jvm.MethodName) ∈ zx_W := zx_in 740 (by decide +kernel) rfl
theorem zw_741 : Cond.code ({ cls := "ValueBench$ToldForm", name := "begin", desc := "(II)V" } : Jvm.MethodName) prog_9_method_2_code (3 : Nat) (Option.none : Option Jvm.ClassFile.FieldType) ∈ zx_W := zx_in 741 (by decide +kernel) rfl
theorem zw_742 : Cond.methodLink "ValueBench$ToldForm" (19 : Nat) ({ cls := "java/util/Arrays", name := "fill", desc := "([II)V" } : Jvm.MethodName) ∈ zx_W := zx_in 742 (by decide +kernel) rfl
theorem zw_743 : Cond.selects "ValueBench$ValueForm" ({ cls := "ValueBench$Form", name := "begin", desc := "(II)V" } : Jvm.MethodName) ({ cls := "ValueBench$ValueForm", name := "begin", desc := "(II)V" } : Jvm.MethodName) ∈ zx_W := zx_in 743 (by decide +kernel) rfl
theorem zw_744 : Cond.instanceMethod ({ cls := "ValueBench$ValueForm", name := "begin", desc := "(II)V" } : Jvm.MethodName) ∈ zx_W := zx_in 744 (by decide +kernel) rfl
theorem zw_745 : Cond.code ({ cls := "ValueBench$ValueForm", name := "begin", desc := "(II)V" } : Jvm.MethodName) prog_10_method_3_code (8 : Nat) (Option.none : Option Jvm.ClassFile.FieldType) ∈ zx_W := zx_in 745 (by decide +kernel) rfl
theorem zw_746 : Cond.methodLink "ValueBench$ValueForm" (56 : Nat) ({ cls := "java/lang/Integer", name := "bitCount", desc := "(I)I" } : Jvm.MethodName) ∈ zx_W := zx_in 746 (by decide +kernel) rfl
theorem zw_747 : Cond.methodLink "ValueBench$ValueForm" (62 : Nat) ({ cls := "ValueBench$Graph", name := "placeIn", desc := "(II)I" } : Jvm.MethodName) ∈ zx_W := zx_in 747 (by decide +kernel) rfl
theorem zw_748 : Cond.static ({ cls := "ValueBench$Graph", name := "placeIn", desc := "(II)I" } : Jvm.MethodName) ∈ zx_W := zx_in 748 (by decide +kernel) rfl
theorem zw_749 : Cond.code ({ cls := "ValueBench$Graph", name := "placeIn", desc := "(II)I" } : Jvm.MethodName) prog_4_method_4_code (2 : Nat) (Option.some Jvm.ClassFile.FieldType.int) ∈ zx_W := zx_in 749 (by decide +kernel) rfl
theorem zw_750 : Cond.methodLink "ValueBench$Graph" (34 : Nat) ({ cls := "java/lang/Integer", name := "bitCount", desc := "(I)I" } : Jvm.MethodName) ∈ zx_W := zx_in 750 (by decide +kernel) rfl
theorem zw_751 : Cond.methodLink "ValueBench$ValueForm" (66 : Nat) ({ cls := "ValueBench$ValueForm", name := "goes", desc := "(I)Z" } : Jvm.MethodName) ∈ zx_W := zx_in 751 (by decide +kernel) rfl
theorem zw_753 : Cond.instanceMethod ({ cls := "ValueBench$ValueForm", name := "goes", desc := "(I)Z" } : Jvm.MethodName) ∈ zx_W := zx_in 753 (by decide +kernel) rfl
theorem zw_754 : Cond.code ({ cls := "ValueBench$ValueForm", name := "goes", desc := "(I)Z" } : Jvm.MethodName) prog_10_method_2_code (2 : Nat) (Option.some Jvm.ClassFile.FieldType.boolean) ∈ zx_W := zx_in 754 (by decide +kernel) rfl
theorem zw_755 : Cond.methodLink "ValueBench$Machine" (44 : Nat) ({ cls := "ValueBench$Machine", name := "followBlock", desc := "(LValueBench$Form;)Z" } : Jvm.MethodName) ∈ zx_W := zx_in 755 (by decide +kernel) rfl
theorem zw_757 : Cond.instanceMethod ({ cls := "ValueBench$Machine", name := "followBlock", desc := "(LValueBench$Form;)Z" } : Jvm.MethodName) ∈ zx_W := zx_in 757 (by decide +kernel) rfl
theorem zw_758 : Cond.code ({ cls := "ValueBench$Machine", name := "followBlock", desc := "(LValueBench$Form;)Z" } : Jvm.MethodName) prog_6_method_5_code (3 : Nat) (Option.some Jvm.ClassFile.FieldType.boolean) ∈ zx_W := zx_in 758 (by decide +kernel) rfl
theorem zw_759 : Cond.methodLink "ValueBench$Machine" (71 : Nat) ({ cls := "ValueBench$Form", name := "keeps", desc := "(I)Z" } : Jvm.MethodName) ∈ zx_W := zx_in 759 (by decide +kernel) rfl
theorem zw_761 : Cond.sameMethod "ValueBench$Form" "ValueBench$Form" "keeps" "(I)Z" ∈ zx_W := zx_in 761 (by decide +kernel) rfl
theorem zw_762 : Cond.selects "ValueBench$ToldForm" ({ cls := "ValueBench$Form", name := "keeps", desc := "(I)Z" } : Jvm.MethodName) ({ cls := "ValueBench$ToldForm", name := "keeps", desc := "(I)Z" } : Jvm.MethodName) ∈ zx_W := zx_in 762 (by decide +kernel) rfl
theorem zw_763 : Cond.instanceMethod ({ cls := "ValueBench$ToldForm", name := "keeps", desc := "(I)Z" } : Jvm.MethodName) ∈ zx_W := zx_in 763 (by decide +kernel) rfl
theorem zw_764 : Cond.code ({ cls := "ValueBench$ToldForm", name := "keeps", desc := "(I)Z" } : Jvm.MethodName) prog_9_method_3_code (2 : Nat) (Option.some Jvm.ClassFile.FieldType.boolean) ∈ zx_W := zx_in 764 (by decide +kernel) rfl
theorem zw_765 : Cond.selects "ValueBench$ValueForm" ({ cls := "ValueBench$Form", name := "keeps", desc := "(I)Z" } : Jvm.MethodName) ({ cls := "ValueBench$ValueForm", name := "keeps", desc := "(I)Z" } : Jvm.MethodName) ∈ zx_W := zx_in 765 (by decide +kernel) rfl
theorem zw_766 : Cond.instanceMethod ({ cls := "ValueBench$ValueForm", name := "keeps", desc := "(I)Z" } : Jvm.MethodName) ∈ zx_W := zx_in 766 (by decide +kernel) rfl
theorem zw_767 : Cond.code ({ cls := "ValueBench$ValueForm", name := "keeps", desc := "(I)Z" } : Jvm.MethodName) prog_10_method_4_code (3 : Nat) (Option.some Jvm.ClassFile.FieldType.boolean) ∈ zx_W := zx_in 767 (by decide +kernel) rfl
theorem zw_768 : Cond.methodLink "ValueBench$Machine" (48 : Nat) ({ cls := "ValueBench$Machine", name := "pay", desc := "()Z" } : Jvm.MethodName) ∈ zx_W := zx_in 768 (by decide +kernel) rfl
theorem zw_770 : Cond.instanceMethod ({ cls := "ValueBench$Machine", name := "pay", desc := "()Z" } : Jvm.MethodName) ∈ zx_W := zx_in 770 (by decide +kernel) rfl
theorem zw_771 : Cond.code ({ cls := "ValueBench$Machine", name := "pay", desc := "()Z" } : Jvm.MethodName) prog_6_method_4_code (1 : Nat) (Option.some Jvm.ClassFile.FieldType.boolean) ∈ zx_W := zx_in 771 (by decide +kernel) rfl
theorem zw_772 : Cond.methodLink "ValueBench$Machine" (75 : Nat) ({ cls := "ValueBench$Machine", name := "follow", desc := "(LValueBench$Form;I)V" } : Jvm.MethodName) ∈ zx_W := zx_in 772 (by decide +kernel) rfl
theorem zw_774 : Cond.instanceMethod ({ cls := "ValueBench$Machine", name := "follow", desc := "(LValueBench$Form;I)V" } : Jvm.MethodName) ∈ zx_W := zx_in 774 (by decide +kernel) rfl
theorem zw_775 : Cond.code ({ cls := "ValueBench$Machine", name := "follow", desc := "(LValueBench$Form;I)V" } : Jvm.MethodName) prog_6_method_6_code (5 : Nat) (Option.none : Option Jvm.ClassFile.FieldType) ∈ zx_W := zx_in 775 (by decide +kernel) rfl
theorem zw_776 : Cond.methodLink "ValueBench$Machine" (82 : Nat) ({ cls := "ValueBench$Form", name := "target", desc := "(I)I" } : Jvm.MethodName) ∈ zx_W := zx_in 776 (by decide +kernel) rfl
theorem zw_778 : Cond.sameMethod "ValueBench$Form" "ValueBench$Form" "target" "(I)I" ∈ zx_W := zx_in 778 (by decide +kernel) rfl
theorem zw_779 : Cond.selects "ValueBench$ToldForm" ({ cls := "ValueBench$Form", name := "target", desc := "(I)I" } : Jvm.MethodName) ({ cls := "ValueBench$ToldForm", name := "target", desc := "(I)I" } : Jvm.MethodName) ∈ zx_W := zx_in 779 (by decide +kernel) rfl
theorem zw_780 : Cond.instanceMethod ({ cls := "ValueBench$ToldForm", name := "target", desc := "(I)I" } : Jvm.MethodName) ∈ zx_W := zx_in 780 (by decide +kernel) rfl
theorem zw_781 : Cond.code ({ cls := "ValueBench$ToldForm", name := "target", desc := "(I)I" } : Jvm.MethodName) prog_9_method_4_code (2 : Nat) (Option.some Jvm.ClassFile.FieldType.int) ∈ zx_W := zx_in 781 (by decide +kernel) rfl
theorem zw_782 : Cond.selects "ValueBench$ValueForm" ({ cls := "ValueBench$Form", name := "target", desc := "(I)I" } : Jvm.MethodName) ({ cls := "ValueBench$ValueForm", name := "target", desc := "(I)I" } : Jvm.MethodName) ∈ zx_W := zx_in 782 (by decide +kernel) rfl
theorem zw_783 : Cond.instanceMethod ({ cls := "ValueBench$ValueForm", name := "target", desc := "(I)I" } : Jvm.MethodName) ∈ zx_W := zx_in 783 (by decide +kernel) rfl
theorem zw_784 : Cond.code ({ cls := "ValueBench$ValueForm", name := "target", desc := "(I)I" } : Jvm.MethodName) prog_10_method_5_code (2 : Nat) (Option.some Jvm.ClassFile.FieldType.int) ∈ zx_W := zx_in 784 (by decide +kernel) rfl
theorem zw_785 : Cond.methodLink "ValueBench$Machine" (88 : Nat) ({ cls := "ValueBench$Form", name := "left", desc := "(I)I" } : Jvm.MethodName) ∈ zx_W := zx_in 785 (by decide +kernel) rfl
theorem zw_787 : Cond.sameMethod "ValueBench$Form" "ValueBench$Form" "left" "(I)I" ∈ zx_W := zx_in 787 (by decide +kernel) rfl
theorem zw_788 : Cond.selects "ValueBench$ToldForm" ({ cls := "ValueBench$Form", name := "left", desc := "(I)I" } : Jvm.MethodName) ({ cls := "ValueBench$ToldForm", name := "left", desc := "(I)I" } : Jvm.MethodName) ∈ zx_W := zx_in 788 (by decide +kernel) rfl
theorem zw_789 : Cond.instanceMethod ({ cls := "ValueBench$ToldForm", name := "left", desc := "(I)I" } : Jvm.MethodName) ∈ zx_W := zx_in 789 (by decide +kernel) rfl
theorem zw_790 : Cond.code ({ cls := "ValueBench$ToldForm", name := "left", desc := "(I)I" } : Jvm.MethodName) prog_9_method_5_code (2 : Nat) (Option.some Jvm.ClassFile.FieldType.int) ∈ zx_W := zx_in 790 (by decide +kernel) rfl
theorem zw_791 : Cond.selects "ValueBench$ValueForm" ({ cls := "ValueBench$Form", name := "left", desc := "(I)I" } : Jvm.MethodName) ({ cls := "ValueBench$ValueForm", name := "left", desc := "(I)I" } : Jvm.MethodName) ∈ zx_W := zx_in 791 (by decide +kernel) rfl
theorem zw_792 : Cond.instanceMethod ({ cls := "ValueBench$ValueForm", name := "left", desc := "(I)I" } : Jvm.MethodName) ∈ zx_W := zx_in 792 (by decide +kernel) rfl
theorem zw_793 : Cond.code ({ cls := "ValueBench$ValueForm", name := "left", desc := "(I)I" } : Jvm.MethodName) prog_10_method_6_code (2 : Nat) (Option.some Jvm.ClassFile.FieldType.int) ∈ zx_W := zx_in 793 (by decide +kernel) rfl
theorem zw_794 : Cond.methodLink "ValueBench$Machine" (91 : Nat) ({ cls := "ValueBench$Machine", name := "tell", desc := "(I)V" } : Jvm.MethodName) ∈ zx_W := zx_in 794 (by decide +kernel) rfl
theorem zw_796 : Cond.instanceMethod ({ cls := "ValueBench$Machine", name := "tell", desc := "(I)V" } : Jvm.MethodName) ∈ zx_W := zx_in 796 (by decide +kernel) rfl
theorem zw_797 : Cond.code ({ cls := "ValueBench$Machine", name := "tell", desc := "(I)V" } : Jvm.MethodName) prog_6_method_7_code (2 : Nat) (Option.none : Option Jvm.ClassFile.FieldType) ∈ zx_W := zx_in 797 (by decide +kernel) rfl
theorem zw_798 : Cond.methodLink "ValueBench$Machine" (95 : Nat) ({ cls := "ValueBench$Form", name := "right", desc := "(I)I" } : Jvm.MethodName) ∈ zx_W := zx_in 798 (by decide +kernel) rfl
theorem zw_800 : Cond.sameMethod "ValueBench$Form" "ValueBench$Form" "right" "(I)I" ∈ zx_W := zx_in 800 (by decide +kernel) rfl
theorem zw_801 : Cond.selects "ValueBench$ToldForm" ({ cls := "ValueBench$Form", name := "right", desc := "(I)I" } : Jvm.MethodName) ({ cls := "ValueBench$ToldForm", name := "right", desc := "(I)I" } : Jvm.MethodName) ∈ zx_W := zx_in 801 (by decide +kernel) rfl
theorem zw_802 : Cond.instanceMethod ({ cls := "ValueBench$ToldForm", name := "right", desc := "(I)I" } : Jvm.MethodName) ∈ zx_W := zx_in 802 (by decide +kernel) rfl
theorem zw_803 : Cond.code ({ cls := "ValueBench$ToldForm", name := "right", desc := "(I)I" } : Jvm.MethodName) prog_9_method_6_code (2 : Nat) (Option.some Jvm.ClassFile.FieldType.int) ∈ zx_W := zx_in 803 (by decide +kernel) rfl
theorem zw_804 : Cond.selects "ValueBench$ValueForm" ({ cls := "ValueBench$Form", name := "right", desc := "(I)I" } : Jvm.MethodName) ({ cls := "ValueBench$ValueForm", name := "right", desc := "(I)I" } : Jvm.MethodName) ∈ zx_W := zx_in 804 (by decide +kernel) rfl
theorem zw_805 : Cond.instanceMethod ({ cls := "ValueBench$ValueForm", name := "right", desc := "(I)I" } : Jvm.MethodName) ∈ zx_W := zx_in 805 (by decide +kernel) rfl
theorem zw_806 : Cond.code ({ cls := "ValueBench$ValueForm", name := "right", desc := "(I)I" } : Jvm.MethodName) prog_10_method_7_code (2 : Nat) (Option.some Jvm.ClassFile.FieldType.int) ∈ zx_W := zx_in 806 (by decide +kernel) rfl
theorem zw_807 : Cond.methodLink "ValueBench$Machine" (98 : Nat) ({ cls := "ValueBench$Machine", name := "compute", desc := "(III)I" } : Jvm.MethodName) ∈ zx_W := zx_in 807 (by decide +kernel) rfl
theorem zw_808 : Cond.static ({ cls := "ValueBench$Machine", name := "compute", desc := "(III)I" } : Jvm.MethodName) ∈ zx_W := zx_in 808 (by decide +kernel) rfl
theorem zw_809 : Cond.code ({ cls := "ValueBench$Machine", name := "compute", desc := "(III)I" } : Jvm.MethodName) prog_6_method_8_code (3 : Nat) (Option.some Jvm.ClassFile.FieldType.int) ∈ zx_W := zx_in 809 (by decide +kernel) rfl
theorem zw_810 : Cond.methodLink "ValueBench$Machine" (102 : Nat) ({ cls := "ValueBench$Machine", name := "divide", desc := "(II)I" } : Jvm.MethodName) ∈ zx_W := zx_in 810 (by decide +kernel) rfl
theorem zw_811 : Cond.static ({ cls := "ValueBench$Machine", name := "divide", desc := "(II)I" } : Jvm.MethodName) ∈ zx_W := zx_in 811 (by decide +kernel) rfl
theorem zw_812 : Cond.code ({ cls := "ValueBench$Machine", name := "divide", desc := "(II)I" } : Jvm.MethodName) prog_6_method_9_code (2 : Nat) (Option.some Jvm.ClassFile.FieldType.int) ∈ zx_W := zx_in 812 (by decide +kernel) rfl
theorem zw_813 : Cond.methodLink "ValueBench$Machine" (52 : Nat) ({ cls := "ValueBench$Program", name := "howCounts", desc := "(I)I" } : Jvm.MethodName) ∈ zx_W := zx_in 813 (by decide +kernel) rfl
theorem zw_814 : Cond.methodLink "ValueBench$Machine" (61 : Nat) ({ cls := "ValueBench$Form", name := "endCell", desc := "(I)I" } : Jvm.MethodName) ∈ zx_W := zx_in 814 (by decide +kernel) rfl
theorem zw_816 : Cond.sameMethod "ValueBench$Form" "ValueBench$Form" "endCell" "(I)I" ∈ zx_W := zx_in 816 (by decide +kernel) rfl
theorem zw_817 : Cond.selects "ValueBench$ToldForm" ({ cls := "ValueBench$Form", name := "endCell", desc := "(I)I" } : Jvm.MethodName) ({ cls := "ValueBench$ToldForm", name := "endCell", desc := "(I)I" } : Jvm.MethodName) ∈ zx_W := zx_in 817 (by decide +kernel) rfl
theorem zw_818 : Cond.instanceMethod ({ cls := "ValueBench$ToldForm", name := "endCell", desc := "(I)I" } : Jvm.MethodName) ∈ zx_W := zx_in 818 (by decide +kernel) rfl
theorem zw_819 : Cond.code ({ cls := "ValueBench$ToldForm", name := "endCell", desc := "(I)I" } : Jvm.MethodName) prog_9_method_7_code (2 : Nat) (Option.some Jvm.ClassFile.FieldType.int) ∈ zx_W := zx_in 819 (by decide +kernel) rfl
theorem zw_820 : Cond.methodLink "ValueBench$ToldForm" (36 : Nat) ({ cls := "ValueBench$Program", name := "endVariable", desc := "(I)I" } : Jvm.MethodName) ∈ zx_W := zx_in 820 (by decide +kernel) rfl
theorem zw_821 : Cond.selects "ValueBench$ValueForm" ({ cls := "ValueBench$Form", name := "endCell", desc := "(I)I" } : Jvm.MethodName) ({ cls := "ValueBench$ValueForm", name := "endCell", desc := "(I)I" } : Jvm.MethodName) ∈ zx_W := zx_in 821 (by decide +kernel) rfl
theorem zw_822 : Cond.instanceMethod ({ cls := "ValueBench$ValueForm", name := "endCell", desc := "(I)I" } : Jvm.MethodName) ∈ zx_W := zx_in 822 (by decide +kernel) rfl
theorem zw_823 : Cond.code ({ cls := "ValueBench$ValueForm", name := "endCell", desc := "(I)I" } : Jvm.MethodName) prog_10_method_8_code (2 : Nat) (Option.some Jvm.ClassFile.FieldType.int) ∈ zx_W := zx_in 823 (by decide +kernel) rfl
theorem zw_824 : Cond.methodLink "ValueBench$Machine" (64 : Nat) ({ cls := "ValueBench$Program", name := "next", desc := "(IZ)I" } : Jvm.MethodName) ∈ zx_W := zx_in 824 (by decide +kernel) rfl
theorem zw_825 : Cond.instanceMethod ({ cls := "ValueBench$Program", name := "next", desc := "(IZ)I" } : Jvm.MethodName) ∈ zx_W := zx_in 825 (by decide +kernel) rfl
theorem zw_826 : Cond.selects "ValueBench$Program" ({ cls := "ValueBench$Program", name := "next", desc := "(IZ)I" } : Jvm.MethodName) ({ cls := "ValueBench$Program", name := "next", desc := "(IZ)I" } : Jvm.MethodName) ∈ zx_W := zx_in 826 (by decide +kernel) rfl
theorem zw_827 : Cond.code ({ cls := "ValueBench$Program", name := "next", desc := "(IZ)I" } : Jvm.MethodName) prog_7_method_15_code (3 : Nat) (Option.some Jvm.ClassFile.FieldType.int) ∈ zx_W := zx_in 827 (by decide +kernel) rfl
theorem zw_844 : Cond.methodLink "ValueBench" (237 : Nat) ({ cls := "ValueBench$Values", name := "allChoices", desc := "()I" } : Jvm.MethodName) ∈ zx_W := zx_in 844 (by decide +kernel) rfl
theorem zw_845 : Cond.instanceMethod ({ cls := "ValueBench$Values", name := "allChoices", desc := "()I" } : Jvm.MethodName) ∈ zx_W := zx_in 845 (by decide +kernel) rfl
theorem zw_846 : Cond.selects "ValueBench$Values" ({ cls := "ValueBench$Values", name := "allChoices", desc := "()I" } : Jvm.MethodName) ({ cls := "ValueBench$Values", name := "allChoices", desc := "()I" } : Jvm.MethodName) ∈ zx_W := zx_in 846 (by decide +kernel) rfl
theorem zw_847 : Cond.code ({ cls := "ValueBench$Values", name := "allChoices", desc := "()I" } : Jvm.MethodName) prog_11_method_5_code (3 : Nat) (Option.some Jvm.ClassFile.FieldType.int) ∈ zx_W := zx_in 847 (by decide +kernel) rfl
theorem zw_853 : Cond.methodLink "ValueBenchModel" (1 : Nat) ({ cls := "java/lang/Object", name := "<init>", desc := "()V" } : Jvm.MethodName) ∈ zx_W := zx_in 853 (by decide +kernel) rfl
theorem zw_854 : Cond.fieldLink "ValueBenchModel" (120 : Nat) "ValueBenchModel" "blocks" "I" ∈ zx_W := zx_in 854 (by decide +kernel) rfl
theorem zw_855 : Cond.fieldLink "ValueBenchModel" (131 : Nat) "ValueBenchModel" "told" "I" ∈ zx_W := zx_in 855 (by decide +kernel) rfl
theorem zw_856 : Cond.fieldLink "ValueBenchModel" (7 : Nat) "ValueBenchModel" "kind" "[I" ∈ zx_W := zx_in 856 (by decide +kernel) rfl
theorem zw_857 : Cond.fieldLink "ValueBenchModel" (13 : Nat) "ValueBenchModel" "first" "[I" ∈ zx_W := zx_in 857 (by decide +kernel) rfl
theorem zw_858 : Cond.fieldLink "ValueBenchModel" (16 : Nat) "ValueBenchModel" "second" "[I" ∈ zx_W := zx_in 858 (by decide +kernel) rfl
theorem zw_859 : Cond.fieldLink "ValueBenchModel" (19 : Nat) "ValueBenchModel" "third" "[I" ∈ zx_W := zx_in 859 (by decide +kernel) rfl
theorem zw_860 : Cond.fieldLink "ValueBenchModel" (22 : Nat) "ValueBenchModel" "size" "[I" ∈ zx_W := zx_in 860 (by decide +kernel) rfl
theorem zw_861 : Cond.fieldLink "ValueBenchModel" (25 : Nat) "ValueBenchModel" "endHow" "[I" ∈ zx_W := zx_in 861 (by decide +kernel) rfl
theorem zw_862 : Cond.fieldLink "ValueBenchModel" (28 : Nat) "ValueBenchModel" "endY" "[I" ∈ zx_W := zx_in 862 (by decide +kernel) rfl
theorem zw_863 : Cond.fieldLink "ValueBenchModel" (31 : Nat) "ValueBenchModel" "endB" "[I" ∈ zx_W := zx_in 863 (by decide +kernel) rfl
theorem zw_864 : Cond.fieldLink "ValueBenchModel" (34 : Nat) "ValueBenchModel" "endC" "[I" ∈ zx_W := zx_in 864 (by decide +kernel) rfl
theorem zw_865 : Cond.fieldLink "ValueBenchModel" (123 : Nat) "ValueBenchModel" "isMade" "Z" ∈ zx_W := zx_in 865 (by decide +kernel) rfl
theorem zw_866 : Cond.fieldLink "ValueBenchModel" (37 : Nat) "ValueBenchModel" "isReached" "[Z" ∈ zx_W := zx_in 866 (by decide +kernel) rfl
theorem zw_867 : Cond.fieldLink "ValueBenchModel" (41 : Nat) "ValueBenchModel" "isMet" "[Z" ∈ zx_W := zx_in 867 (by decide +kernel) rfl
theorem zw_868 : Cond.fieldLink "ValueBenchModel" (44 : Nat) "ValueBenchModel" "dom" "[Z" ∈ zx_W := zx_in 868 (by decide +kernel) rfl
theorem zw_869 : Cond.fieldLink "ValueBenchModel" (47 : Nat) "ValueBenchModel" "parent" "[I" ∈ zx_W := zx_in 869 (by decide +kernel) rfl
theorem zw_870 : Cond.fieldLink "ValueBenchModel" (50 : Nat) "ValueBenchModel" "meets" "[Z" ∈ zx_W := zx_in 870 (by decide +kernel) rfl
theorem zw_871 : Cond.fieldLink "ValueBenchModel" (53 : Nat) "ValueBenchModel" "hasChoice" "[Z" ∈ zx_W := zx_in 871 (by decide +kernel) rfl
theorem zw_872 : Cond.fieldLink "ValueBenchModel" (155 : Nat) "ValueBenchModel" "values" "I" ∈ zx_W := zx_in 872 (by decide +kernel) rfl
theorem zw_873 : Cond.fieldLink "ValueBenchModel" (56 : Nat) "ValueBenchModel" "valueKind" "[I" ∈ zx_W := zx_in 873 (by decide +kernel) rfl
theorem zw_874 : Cond.fieldLink "ValueBenchModel" (59 : Nat) "ValueBenchModel" "valueBlock" "[I" ∈ zx_W := zx_in 874 (by decide +kernel) rfl
theorem zw_875 : Cond.fieldLink "ValueBenchModel" (62 : Nat) "ValueBenchModel" "valueVariable" "[I" ∈ zx_W := zx_in 875 (by decide +kernel) rfl
theorem zw_876 : Cond.fieldLink "ValueBenchModel" (65 : Nat) "ValueBenchModel" "valueNumber" "[I" ∈ zx_W := zx_in 876 (by decide +kernel) rfl
theorem zw_877 : Cond.fieldLink "ValueBenchModel" (68 : Nat) "ValueBenchModel" "valuePlace" "[I" ∈ zx_W := zx_in 877 (by decide +kernel) rfl
theorem zw_878 : Cond.fieldLink "ValueBenchModel" (71 : Nat) "ValueBenchModel" "operand" "[I" ∈ zx_W := zx_in 878 (by decide +kernel) rfl
theorem zw_879 : Cond.fieldLink "ValueBenchModel" (74 : Nat) "ValueBenchModel" "operands" "[I" ∈ zx_W := zx_in 879 (by decide +kernel) rfl
theorem zw_880 : Cond.fieldLink "ValueBenchModel" (77 : Nat) "ValueBenchModel" "choiceOf" "[I" ∈ zx_W := zx_in 880 (by decide +kernel) rfl
theorem zw_881 : Cond.fieldLink "ValueBenchModel" (80 : Nat) "ValueBenchModel" "valueOf" "[I" ∈ zx_W := zx_in 881 (by decide +kernel) rfl
theorem zw_882 : Cond.fieldLink "ValueBenchModel" (83 : Nat) "ValueBenchModel" "atBegin" "[I" ∈ zx_W := zx_in 882 (by decide +kernel) rfl
theorem zw_883 : Cond.fieldLink "ValueBenchModel" (86 : Nat) "ValueBenchModel" "atEnd" "[I" ∈ zx_W := zx_in 883 (by decide +kernel) rfl
theorem zw_884 : Cond.fieldLink "ValueBenchModel" (89 : Nat) "ValueBenchModel" "now" "[I" ∈ zx_W := zx_in 884 (by decide +kernel) rfl
theorem zw_885 : Cond.fieldLink "ValueBenchModel" (92 : Nat) "ValueBenchModel" "klass" "[I" ∈ zx_W := zx_in 885 (by decide +kernel) rfl
theorem zw_886 : Cond.fieldLink "ValueBenchModel" (95 : Nat) "ValueBenchModel" "parted" "[I" ∈ zx_W := zx_in 886 (by decide +kernel) rfl
theorem zw_887 : Cond.fieldLink "ValueBenchModel" (98 : Nat) "ValueBenchModel" "isRedundant" "[Z" ∈ zx_W := zx_in 887 (by decide +kernel) rfl
theorem zw_888 : Cond.fieldLink "ValueBenchModel" (101 : Nat) "ValueBenchModel" "fuel" "I" ∈ zx_W := zx_in 888 (by decide +kernel) rfl
theorem zw_889 : Cond.fieldLink "ValueBenchModel" (218 : Nat) "ValueBenchModel" "runReturned" "I" ∈ zx_W := zx_in 889 (by decide +kernel) rfl
theorem zw_890 : Cond.fieldLink "ValueBenchModel" (212 : Nat) "ValueBenchModel" "runTook" "I" ∈ zx_W := zx_in 890 (by decide +kernel) rfl
theorem zw_891 : Cond.fieldLink "ValueBenchModel" (209 : Nat) "ValueBenchModel" "runEmitted" "I" ∈ zx_W := zx_in 891 (by decide +kernel) rfl
theorem zw_892 : Cond.fieldLink "ValueBenchModel" (221 : Nat) "ValueBenchModel" "runBlock" "I" ∈ zx_W := zx_in 892 (by decide +kernel) rfl
theorem zw_893 : Cond.fieldLink "ValueBenchModel" (105 : Nat) "ValueBenchModel" "kept" "[I" ∈ zx_W := zx_in 893 (by decide +kernel) rfl
theorem zw_894 : Cond.fieldLink "ValueBenchModel" (108 : Nat) "ValueBenchModel" "variable" "[I" ∈ zx_W := zx_in 894 (by decide +kernel) rfl
theorem zw_895 : Cond.fieldLink "ValueBenchModel" (111 : Nat) "ValueBenchModel" "is" "[I" ∈ zx_W := zx_in 895 (by decide +kernel) rfl
theorem zw_896 : Cond.fieldLink "ValueBenchModel" (114 : Nat) "ValueBenchModel" "next" "[I" ∈ zx_W := zx_in 896 (by decide +kernel) rfl
theorem zw_897 : Cond.fieldLink "ValueBenchModel" (117 : Nat) "ValueBenchModel" "inputs" "[I" ∈ zx_W := zx_in 897 (by decide +kernel) rfl
theorem zw_995 : Cond.methodLink "ValueBenchModel" (127 : Nat) ({ cls := "ValueBenchModel", name := "isBlock", desc := "(I)Z" } : Jvm.MethodName) ∈ zx_W := zx_in 995 (by decide +kernel) rfl
theorem zw_997 : Cond.instanceMethod ({ cls := "ValueBenchModel", name := "isBlock", desc := "(I)Z" } : Jvm.MethodName) ∈ zx_W := zx_in 997 (by decide +kernel) rfl
theorem zw_998 : Cond.code ({ cls := "ValueBenchModel", name := "isBlock", desc := "(I)Z" } : Jvm.MethodName) prog_13_method_2_code (2 : Nat) (Option.some Jvm.ClassFile.FieldType.boolean) ∈ zx_W := zx_in 998 (by decide +kernel) rfl
theorem zw_999 : Cond.methodLink "ValueBenchModel" (134 : Nat) ({ cls := "ValueBenchModel", name := "isVariable", desc := "(I)Z" } : Jvm.MethodName) ∈ zx_W := zx_in 999 (by decide +kernel) rfl
theorem zw_1000 : Cond.static ({ cls := "ValueBenchModel", name := "isVariable", desc := "(I)Z" } : Jvm.MethodName) ∈ zx_W := zx_in 1000 (by decide +kernel) rfl
theorem zw_1001 : Cond.code ({ cls := "ValueBenchModel", name := "isVariable", desc := "(I)Z" } : Jvm.MethodName) prog_13_method_3_code (1 : Nat) (Option.some Jvm.ClassFile.FieldType.boolean) ∈ zx_W := zx_in 1001 (by decide +kernel) rfl
theorem zw_1014 : Cond.methodLink "ValueBenchModel" (215 : Nat) ({ cls := "ValueBenchModel", name := "make", desc := "()V" } : Jvm.MethodName) ∈ zx_W := zx_in 1014 (by decide +kernel) rfl
theorem zw_1016 : Cond.instanceMethod ({ cls := "ValueBenchModel", name := "make", desc := "()V" } : Jvm.MethodName) ∈ zx_W := zx_in 1016 (by decide +kernel) rfl
theorem zw_1017 : Cond.code ({ cls := "ValueBenchModel", name := "make", desc := "()V" } : Jvm.MethodName) prog_13_method_29_code (1 : Nat) (Option.none : Option Jvm.ClassFile.FieldType) ∈ zx_W := zx_in 1017 (by decide +kernel) rfl
theorem zw_1018 : Cond.methodLink "ValueBenchModel" (183 : Nat) ({ cls := "ValueBenchModel", name := "dominance", desc := "()V" } : Jvm.MethodName) ∈ zx_W := zx_in 1018 (by decide +kernel) rfl
theorem zw_1020 : Cond.instanceMethod ({ cls := "ValueBenchModel", name := "dominance", desc := "()V" } : Jvm.MethodName) ∈ zx_W := zx_in 1020 (by decide +kernel) rfl
theorem zw_1021 : Cond.code ({ cls := "ValueBenchModel", name := "dominance", desc := "()V" } : Jvm.MethodName) prog_13_method_13_code (5 : Nat) (Option.none : Option Jvm.ClassFile.FieldType) ∈ zx_W := zx_in 1021 (by decide +kernel) rfl
theorem zw_1022 : Cond.methodLink "ValueBenchModel" (145 : Nat) ({ cls := "ValueBenchModel", name := "meet", desc := "(I)V" } : Jvm.MethodName) ∈ zx_W := zx_in 1022 (by decide +kernel) rfl
theorem zw_1024 : Cond.instanceMethod ({ cls := "ValueBenchModel", name := "meet", desc := "(I)V" } : Jvm.MethodName) ∈ zx_W := zx_in 1024 (by decide +kernel) rfl
theorem zw_1025 : Cond.code ({ cls := "ValueBenchModel", name := "meet", desc := "(I)V" } : Jvm.MethodName) prog_13_method_11_code (5 : Nat) (Option.none : Option Jvm.ClassFile.FieldType) ∈ zx_W := zx_in 1025 (by decide +kernel) rfl
theorem zw_1026 : Cond.methodLink "ValueBenchModel" (141 : Nat) ({ cls := "ValueBenchModel", name := "leads", desc := "(II)Z" } : Jvm.MethodName) ∈ zx_W := zx_in 1026 (by decide +kernel) rfl
theorem zw_1028 : Cond.instanceMethod ({ cls := "ValueBenchModel", name := "leads", desc := "(II)Z" } : Jvm.MethodName) ∈ zx_W := zx_in 1028 (by decide +kernel) rfl
theorem zw_1029 : Cond.code ({ cls := "ValueBenchModel", name := "leads", desc := "(II)Z" } : Jvm.MethodName) prog_13_method_10_code (4 : Nat) (Option.some Jvm.ClassFile.FieldType.boolean) ∈ zx_W := zx_in 1029 (by decide +kernel) rfl
theorem zw_1030 : Cond.methodLink "ValueBenchModel" (137 : Nat) ({ cls := "ValueBenchModel", name := "howOf", desc := "(I)I" } : Jvm.MethodName) ∈ zx_W := zx_in 1030 (by decide +kernel) rfl
theorem zw_1032 : Cond.instanceMethod ({ cls := "ValueBenchModel", name := "howOf", desc := "(I)I" } : Jvm.MethodName) ∈ zx_W := zx_in 1032 (by decide +kernel) rfl
theorem zw_1033 : Cond.code ({ cls := "ValueBenchModel", name := "howOf", desc := "(I)I" } : Jvm.MethodName) prog_13_method_8_code (2 : Nat) (Option.some Jvm.ClassFile.FieldType.int) ∈ zx_W := zx_in 1033 (by decide +kernel) rfl
theorem zw_1034 : Cond.methodLink "ValueBenchModel" (149 : Nat) ({ cls := "ValueBenchModel", name := "dominates1", desc := "(II)Z" } : Jvm.MethodName) ∈ zx_W := zx_in 1034 (by decide +kernel) rfl
theorem zw_1036 : Cond.instanceMethod ({ cls := "ValueBenchModel", name := "dominates1", desc := "(II)Z" } : Jvm.MethodName) ∈ zx_W := zx_in 1036 (by decide +kernel) rfl
theorem zw_1037 : Cond.code ({ cls := "ValueBenchModel", name := "dominates1", desc := "(II)Z" } : Jvm.MethodName) prog_13_method_12_code (3 : Nat) (Option.some Jvm.ClassFile.FieldType.boolean) ∈ zx_W := zx_in 1037 (by decide +kernel) rfl
theorem zw_1038 : Cond.methodLink "ValueBenchModel" (186 : Nat) ({ cls := "ValueBenchModel", name := "choices", desc := "()V" } : Jvm.MethodName) ∈ zx_W := zx_in 1038 (by decide +kernel) rfl
theorem zw_1040 : Cond.instanceMethod ({ cls := "ValueBenchModel", name := "choices", desc := "()V" } : Jvm.MethodName) ∈ zx_W := zx_in 1040 (by decide +kernel) rfl
theorem zw_1041 : Cond.code ({ cls := "ValueBenchModel", name := "choices", desc := "()V" } : Jvm.MethodName) prog_13_method_15_code (5 : Nat) (Option.none : Option Jvm.ClassFile.FieldType) ∈ zx_W := zx_in 1041 (by decide +kernel) rfl
theorem zw_1042 : Cond.methodLink "ValueBenchModel" (152 : Nat) ({ cls := "ValueBenchModel", name := "gives", desc := "(II)Z" } : Jvm.MethodName) ∈ zx_W := zx_in 1042 (by decide +kernel) rfl
theorem zw_1044 : Cond.instanceMethod ({ cls := "ValueBenchModel", name := "gives", desc := "(II)Z" } : Jvm.MethodName) ∈ zx_W := zx_in 1044 (by decide +kernel) rfl
theorem zw_1045 : Cond.code ({ cls := "ValueBenchModel", name := "gives", desc := "(II)Z" } : Jvm.MethodName) prog_13_method_14_code (4 : Nat) (Option.some Jvm.ClassFile.FieldType.boolean) ∈ zx_W := zx_in 1045 (by decide +kernel) rfl
theorem zw_1046 : Cond.methodLink "ValueBenchModel" (189 : Nat) ({ cls := "ValueBenchModel", name := "numbers", desc := "()V" } : Jvm.MethodName) ∈ zx_W := zx_in 1046 (by decide +kernel) rfl
theorem zw_1048 : Cond.instanceMethod ({ cls := "ValueBenchModel", name := "numbers", desc := "()V" } : Jvm.MethodName) ∈ zx_W := zx_in 1048 (by decide +kernel) rfl
theorem zw_1049 : Cond.code ({ cls := "ValueBenchModel", name := "numbers", desc := "()V" } : Jvm.MethodName) prog_13_method_17_code (5 : Nat) (Option.none : Option Jvm.ClassFile.FieldType) ∈ zx_W := zx_in 1049 (by decide +kernel) rfl
theorem zw_1050 : Cond.methodLink "ValueBenchModel" (158 : Nat) ({ cls := "ValueBenchModel", name := "comes", desc := "(IIIII)I" } : Jvm.MethodName) ∈ zx_W := zx_in 1050 (by decide +kernel) rfl
theorem zw_1052 : Cond.instanceMethod ({ cls := "ValueBenchModel", name := "comes", desc := "(IIIII)I" } : Jvm.MethodName) ∈ zx_W := zx_in 1052 (by decide +kernel) rfl
theorem zw_1053 : Cond.code ({ cls := "ValueBenchModel", name := "comes", desc := "(IIIII)I" } : Jvm.MethodName) prog_13_method_16_code (6 : Nat) (Option.some Jvm.ClassFile.FieldType.int) ∈ zx_W := zx_in 1053 (by decide +kernel) rfl
theorem zw_1054 : Cond.methodLink "ValueBenchModel" (192 : Nat) ({ cls := "ValueBenchModel", name := "names", desc := "()V" } : Jvm.MethodName) ∈ zx_W := zx_in 1054 (by decide +kernel) rfl
theorem zw_1056 : Cond.instanceMethod ({ cls := "ValueBenchModel", name := "names", desc := "()V" } : Jvm.MethodName) ∈ zx_W := zx_in 1056 (by decide +kernel) rfl
theorem zw_1057 : Cond.code ({ cls := "ValueBenchModel", name := "names", desc := "()V" } : Jvm.MethodName) prog_13_method_19_code (6 : Nat) (Option.none : Option Jvm.ClassFile.FieldType) ∈ zx_W := zx_in 1057 (by decide +kernel) rfl
theorem zw_1058 : Cond.methodLink "ValueBenchModel" (162 : Nat) ({ cls := "ValueBenchModel", name := "through", desc := "(IIZ)V" } : Jvm.MethodName) ∈ zx_W := zx_in 1058 (by decide +kernel) rfl
theorem zw_1060 : Cond.instanceMethod ({ cls := "ValueBenchModel", name := "through", desc := "(IIZ)V" } : Jvm.MethodName) ∈ zx_W := zx_in 1060 (by decide +kernel) rfl
theorem zw_1061 : Cond.code ({ cls := "ValueBenchModel", name := "through", desc := "(IIZ)V" } : Jvm.MethodName) prog_13_method_20_code (6 : Nat) (Option.none : Option Jvm.ClassFile.FieldType) ∈ zx_W := zx_in 1061 (by decide +kernel) rfl
theorem zw_1062 : Cond.methodLink "ValueBenchModel" (166 : Nat) ({ cls := "ValueBenchModel", name := "adds", desc := "(II)V" } : Jvm.MethodName) ∈ zx_W := zx_in 1062 (by decide +kernel) rfl
theorem zw_1064 : Cond.instanceMethod ({ cls := "ValueBenchModel", name := "adds", desc := "(II)V" } : Jvm.MethodName) ∈ zx_W := zx_in 1064 (by decide +kernel) rfl
theorem zw_1065 : Cond.code ({ cls := "ValueBenchModel", name := "adds", desc := "(II)V" } : Jvm.MethodName) prog_13_method_18_code (3 : Nat) (Option.none : Option Jvm.ClassFile.FieldType) ∈ zx_W := zx_in 1065 (by decide +kernel) rfl
theorem zw_1066 : Cond.methodLink "ValueBenchModel" (195 : Nat) ({ cls := "ValueBenchModel", name := "classes", desc := "()V" } : Jvm.MethodName) ∈ zx_W := zx_in 1066 (by decide +kernel) rfl
theorem zw_1068 : Cond.instanceMethod ({ cls := "ValueBenchModel", name := "classes", desc := "()V" } : Jvm.MethodName) ∈ zx_W := zx_in 1068 (by decide +kernel) rfl
theorem zw_1069 : Cond.code ({ cls := "ValueBenchModel", name := "classes", desc := "()V" } : Jvm.MethodName) prog_13_method_25_code (4 : Nat) (Option.none : Option Jvm.ClassFile.FieldType) ∈ zx_W := zx_in 1069 (by decide +kernel) rfl
theorem zw_1070 : Cond.methodLink "ValueBenchModel" (173 : Nat) ({ cls := "ValueBenchModel", name := "isOneSort", desc := "(II)Z" } : Jvm.MethodName) ∈ zx_W := zx_in 1070 (by decide +kernel) rfl
theorem zw_1072 : Cond.instanceMethod ({ cls := "ValueBenchModel", name := "isOneSort", desc := "(II)Z" } : Jvm.MethodName) ∈ zx_W := zx_in 1072 (by decide +kernel) rfl
theorem zw_1073 : Cond.code ({ cls := "ValueBenchModel", name := "isOneSort", desc := "(II)Z" } : Jvm.MethodName) prog_13_method_23_code (4 : Nat) (Option.some Jvm.ClassFile.FieldType.boolean) ∈ zx_W := zx_in 1073 (by decide +kernel) rfl
theorem zw_1074 : Cond.methodLink "ValueBenchModel" (176 : Nat) ({ cls := "ValueBenchModel", name := "hangTogether", desc := "(II)Z" } : Jvm.MethodName) ∈ zx_W := zx_in 1074 (by decide +kernel) rfl
theorem zw_1076 : Cond.instanceMethod ({ cls := "ValueBenchModel", name := "hangTogether", desc := "(II)Z" } : Jvm.MethodName) ∈ zx_W := zx_in 1076 (by decide +kernel) rfl
theorem zw_1077 : Cond.code ({ cls := "ValueBenchModel", name := "hangTogether", desc := "(II)Z" } : Jvm.MethodName) prog_13_method_24_code (5 : Nat) (Option.some Jvm.ClassFile.FieldType.boolean) ∈ zx_W := zx_in 1077 (by decide +kernel) rfl
theorem zw_1078 : Cond.methodLink "ValueBenchModel" (170 : Nat) ({ cls := "ValueBenchModel", name := "isEven", desc := "(I)Z" } : Jvm.MethodName) ∈ zx_W := zx_in 1078 (by decide +kernel) rfl
theorem zw_1079 : Cond.static ({ cls := "ValueBenchModel", name := "isEven", desc := "(I)Z" } : Jvm.MethodName) ∈ zx_W := zx_in 1079 (by decide +kernel) rfl
theorem zw_1080 : Cond.code ({ cls := "ValueBenchModel", name := "isEven", desc := "(I)Z" } : Jvm.MethodName) prog_13_method_22_code (1 : Nat) (Option.some Jvm.ClassFile.FieldType.boolean) ∈ zx_W := zx_in 1080 (by decide +kernel) rfl
theorem zw_1081 : Cond.methodLink "ValueBenchModel" (198 : Nat) ({ cls := "ValueBenchModel", name := "redundant", desc := "()V" } : Jvm.MethodName) ∈ zx_W := zx_in 1081 (by decide +kernel) rfl
theorem zw_1083 : Cond.instanceMethod ({ cls := "ValueBenchModel", name := "redundant", desc := "()V" } : Jvm.MethodName) ∈ zx_W := zx_in 1083 (by decide +kernel) rfl
theorem zw_1084 : Cond.code ({ cls := "ValueBenchModel", name := "redundant", desc := "()V" } : Jvm.MethodName) prog_13_method_27_code (4 : Nat) (Option.none : Option Jvm.ClassFile.FieldType) ∈ zx_W := zx_in 1084 (by decide +kernel) rfl
theorem zw_1085 : Cond.methodLink "ValueBenchModel" (179 : Nat) ({ cls := "ValueBenchModel", name := "isAhead", desc := "(III)Z" } : Jvm.MethodName) ∈ zx_W := zx_in 1085 (by decide +kernel) rfl
theorem zw_1087 : Cond.instanceMethod ({ cls := "ValueBenchModel", name := "isAhead", desc := "(III)Z" } : Jvm.MethodName) ∈ zx_W := zx_in 1087 (by decide +kernel) rfl
theorem zw_1088 : Cond.code ({ cls := "ValueBenchModel", name := "isAhead", desc := "(III)Z" } : Jvm.MethodName) prog_13_method_26_code (4 : Nat) (Option.some Jvm.ClassFile.FieldType.boolean) ∈ zx_W := zx_in 1088 (by decide +kernel) rfl
theorem zw_1089 : Cond.methodLink "ValueBenchModel" (224 : Nat) ({ cls := "ValueBenchModel", name := "chooses", desc := "(III)V" } : Jvm.MethodName) ∈ zx_W := zx_in 1089 (by decide +kernel) rfl
theorem zw_1091 : Cond.instanceMethod ({ cls := "ValueBenchModel", name := "chooses", desc := "(III)V" } : Jvm.MethodName) ∈ zx_W := zx_in 1091 (by decide +kernel) rfl
theorem zw_1092 : Cond.code ({ cls := "ValueBenchModel", name := "chooses", desc := "(III)V" } : Jvm.MethodName) prog_13_method_37_code (7 : Nat) (Option.none : Option Jvm.ClassFile.FieldType) ∈ zx_W := zx_in 1092 (by decide +kernel) rfl
theorem zw_1093 : Cond.methodLink "ValueBenchModel" (205 : Nat) ({ cls := "ValueBenchModel", name := "predecessorAt", desc := "(II)I" } : Jvm.MethodName) ∈ zx_W := zx_in 1093 (by decide +kernel) rfl
theorem zw_1095 : Cond.instanceMethod ({ cls := "ValueBenchModel", name := "predecessorAt", desc := "(II)I" } : Jvm.MethodName) ∈ zx_W := zx_in 1095 (by decide +kernel) rfl
theorem zw_1096 : Cond.code ({ cls := "ValueBenchModel", name := "predecessorAt", desc := "(II)I" } : Jvm.MethodName) prog_13_method_31_code (5 : Nat) (Option.some Jvm.ClassFile.FieldType.int) ∈ zx_W := zx_in 1096 (by decide +kernel) rfl
theorem zw_1097 : Cond.methodLink "ValueBenchModel" (245 : Nat) ({ cls := "ValueBenchModel", name := "ledOperand", desc := "(II)I" } : Jvm.MethodName) ∈ zx_W := zx_in 1097 (by decide +kernel) rfl
theorem zw_1099 : Cond.instanceMethod ({ cls := "ValueBenchModel", name := "ledOperand", desc := "(II)I" } : Jvm.MethodName) ∈ zx_W := zx_in 1099 (by decide +kernel) rfl
theorem zw_1100 : Cond.code ({ cls := "ValueBenchModel", name := "ledOperand", desc := "(II)I" } : Jvm.MethodName) prog_13_method_30_code (6 : Nat) (Option.some Jvm.ClassFile.FieldType.int) ∈ zx_W := zx_in 1100 (by decide +kernel) rfl
theorem zw_1101 : Cond.methodLink "ValueBenchModel" (201 : Nat) ({ cls := "ValueBenchModel", name := "leader", desc := "(III)I" } : Jvm.MethodName) ∈ zx_W := zx_in 1101 (by decide +kernel) rfl
theorem zw_1103 : Cond.instanceMethod ({ cls := "ValueBenchModel", name := "leader", desc := "(III)I" } : Jvm.MethodName) ∈ zx_W := zx_in 1103 (by decide +kernel) rfl
theorem zw_1104 : Cond.code ({ cls := "ValueBenchModel", name := "leader", desc := "(III)I" } : Jvm.MethodName) prog_13_method_28_code (5 : Nat) (Option.some Jvm.ClassFile.FieldType.int) ∈ zx_W := zx_in 1104 (by decide +kernel) rfl
theorem zw_1105 : Cond.methodLink "ValueBenchModel" (228 : Nat) ({ cls := "ValueBenchModel", name := "costs", desc := "(III)Z" } : Jvm.MethodName) ∈ zx_W := zx_in 1105 (by decide +kernel) rfl
theorem zw_1107 : Cond.instanceMethod ({ cls := "ValueBenchModel", name := "costs", desc := "(III)Z" } : Jvm.MethodName) ∈ zx_W := zx_in 1107 (by decide +kernel) rfl
theorem zw_1108 : Cond.code ({ cls := "ValueBenchModel", name := "costs", desc := "(III)Z" } : Jvm.MethodName) prog_13_method_36_code (5 : Nat) (Option.some Jvm.ClassFile.FieldType.boolean) ∈ zx_W := zx_in 1108 (by decide +kernel) rfl
theorem zw_1109 : Cond.methodLink "ValueBenchModel" (231 : Nat) ({ cls := "ValueBenchModel", name := "takes", desc := "()Z" } : Jvm.MethodName) ∈ zx_W := zx_in 1109 (by decide +kernel) rfl
theorem zw_1111 : Cond.instanceMethod ({ cls := "ValueBenchModel", name := "takes", desc := "()Z" } : Jvm.MethodName) ∈ zx_W := zx_in 1111 (by decide +kernel) rfl
theorem zw_1112 : Cond.code ({ cls := "ValueBenchModel", name := "takes", desc := "()Z" } : Jvm.MethodName) prog_13_method_34_code (1 : Nat) (Option.some Jvm.ClassFile.FieldType.boolean) ∈ zx_W := zx_in 1112 (by decide +kernel) rfl
theorem zw_1113 : Cond.methodLink "ValueBenchModel" (235 : Nat) ({ cls := "ValueBenchModel", name := "acts", desc := "(III)V" } : Jvm.MethodName) ∈ zx_W := zx_in 1113 (by decide +kernel) rfl
theorem zw_1115 : Cond.instanceMethod ({ cls := "ValueBenchModel", name := "acts", desc := "(III)V" } : Jvm.MethodName) ∈ zx_W := zx_in 1115 (by decide +kernel) rfl
theorem zw_1116 : Cond.code ({ cls := "ValueBenchModel", name := "acts", desc := "(III)V" } : Jvm.MethodName) prog_13_method_38_code (8 : Nat) (Option.none : Option Jvm.ClassFile.FieldType) ∈ zx_W := zx_in 1116 (by decide +kernel) rfl
theorem zw_1117 : Cond.methodLink "ValueBenchModel" (248 : Nat) ({ cls := "ValueBenchModel", name := "emit", desc := "(I)V" } : Jvm.MethodName) ∈ zx_W := zx_in 1117 (by decide +kernel) rfl
theorem zw_1119 : Cond.instanceMethod ({ cls := "ValueBenchModel", name := "emit", desc := "(I)V" } : Jvm.MethodName) ∈ zx_W := zx_in 1119 (by decide +kernel) rfl
theorem zw_1120 : Cond.code ({ cls := "ValueBenchModel", name := "emit", desc := "(I)V" } : Jvm.MethodName) prog_13_method_33_code (2 : Nat) (Option.none : Option Jvm.ClassFile.FieldType) ∈ zx_W := zx_in 1120 (by decide +kernel) rfl
theorem zw_1121 : Cond.methodLink "ValueBenchModel" (251 : Nat) ({ cls := "ValueBenchModel", name := "work", desc := "(III)I" } : Jvm.MethodName) ∈ zx_W := zx_in 1121 (by decide +kernel) rfl
theorem zw_1122 : Cond.static ({ cls := "ValueBenchModel", name := "work", desc := "(III)I" } : Jvm.MethodName) ∈ zx_W := zx_in 1122 (by decide +kernel) rfl
theorem zw_1123 : Cond.code ({ cls := "ValueBenchModel", name := "work", desc := "(III)I" } : Jvm.MethodName) prog_13_method_32_code (3 : Nat) (Option.some Jvm.ClassFile.FieldType.int) ∈ zx_W := zx_in 1123 (by decide +kernel) rfl
theorem zw_1124 : Cond.methodLink "ValueBenchModel" (254 : Nat) ({ cls := "ValueBenchModel", name := "readAt", desc := "(III)I" } : Jvm.MethodName) ∈ zx_W := zx_in 1124 (by decide +kernel) rfl
theorem zw_1126 : Cond.instanceMethod ({ cls := "ValueBenchModel", name := "readAt", desc := "(III)I" } : Jvm.MethodName) ∈ zx_W := zx_in 1126 (by decide +kernel) rfl
theorem zw_1127 : Cond.code ({ cls := "ValueBenchModel", name := "readAt", desc := "(III)I" } : Jvm.MethodName) prog_13_method_21_code (5 : Nat) (Option.some Jvm.ClassFile.FieldType.int) ∈ zx_W := zx_in 1127 (by decide +kernel) rfl
theorem zw_1128 : Cond.methodLink "ValueBenchModel" (238 : Nat) ({ cls := "ValueBenchModel", name := "yOf", desc := "(I)I" } : Jvm.MethodName) ∈ zx_W := zx_in 1128 (by decide +kernel) rfl
theorem zw_1130 : Cond.instanceMethod ({ cls := "ValueBenchModel", name := "yOf", desc := "(I)I" } : Jvm.MethodName) ∈ zx_W := zx_in 1130 (by decide +kernel) rfl
theorem zw_1131 : Cond.code ({ cls := "ValueBenchModel", name := "yOf", desc := "(I)I" } : Jvm.MethodName) prog_13_method_9_code (2 : Nat) (Option.some Jvm.ClassFile.FieldType.int) ∈ zx_W := zx_in 1131 (by decide +kernel) rfl
theorem zw_1132 : Cond.methodLink "ValueBenchModel" (241 : Nat) ({ cls := "ValueBenchModel", name := "reads", desc := "(IZ)I" } : Jvm.MethodName) ∈ zx_W := zx_in 1132 (by decide +kernel) rfl
theorem zw_1134 : Cond.instanceMethod ({ cls := "ValueBenchModel", name := "reads", desc := "(IZ)I" } : Jvm.MethodName) ∈ zx_W := zx_in 1134 (by decide +kernel) rfl
theorem zw_1135 : Cond.code ({ cls := "ValueBenchModel", name := "reads", desc := "(IZ)I" } : Jvm.MethodName) prog_13_method_39_code (4 : Nat) (Option.some Jvm.ClassFile.FieldType.int) ∈ zx_W := zx_in 1135 (by decide +kernel) rfl
theorem zw_1160 : Cond.methodLink "ValueBenchModel" (257 : Nat) ({ cls := "ValueBenchModel", name := "areReached", desc := "(II)Z" } : Jvm.MethodName) ∈ zx_W := zx_in 1160 (by decide +kernel) rfl
theorem zw_1162 : Cond.instanceMethod ({ cls := "ValueBenchModel", name := "areReached", desc := "(II)Z" } : Jvm.MethodName) ∈ zx_W := zx_in 1162 (by decide +kernel) rfl
theorem zw_1163 : Cond.code ({ cls := "ValueBenchModel", name := "areReached", desc := "(II)Z" } : Jvm.MethodName) prog_13_method_45_code (3 : Nat) (Option.some Jvm.ClassFile.FieldType.boolean) ∈ zx_W := zx_in 1163 (by decide +kernel) rfl
theorem zw_1172 : Cond.methodLink "ValueBenchModel" (260 : Nat) ({ cls := "ValueBenchModel", name := "isValue", desc := "(I)Z" } : Jvm.MethodName) ∈ zx_W := zx_in 1172 (by decide +kernel) rfl
theorem zw_1174 : Cond.instanceMethod ({ cls := "ValueBenchModel", name := "isValue", desc := "(I)Z" } : Jvm.MethodName) ∈ zx_W := zx_in 1174 (by decide +kernel) rfl
theorem zw_1175 : Cond.code ({ cls := "ValueBenchModel", name := "isValue", desc := "(I)Z" } : Jvm.MethodName) prog_13_method_48_code (2 : Nat) (Option.some Jvm.ClassFile.FieldType.boolean) ∈ zx_W := zx_in 1175 (by decide +kernel) rfl
theorem zw_1180 : Cond.methodLink "ValueBenchModel" (263 : Nat) ({ cls := "ValueBenchModel", name := "isOperand", desc := "(II)Z" } : Jvm.MethodName) ∈ zx_W := zx_in 1180 (by decide +kernel) rfl
theorem zw_1182 : Cond.instanceMethod ({ cls := "ValueBenchModel", name := "isOperand", desc := "(II)Z" } : Jvm.MethodName) ∈ zx_W := zx_in 1182 (by decide +kernel) rfl
theorem zw_1183 : Cond.code ({ cls := "ValueBenchModel", name := "isOperand", desc := "(II)Z" } : Jvm.MethodName) prog_13_method_50_code (3 : Nat) (Option.some Jvm.ClassFile.FieldType.boolean) ∈ zx_W := zx_in 1183 (by decide +kernel) rfl
