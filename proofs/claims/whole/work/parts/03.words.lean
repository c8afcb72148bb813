theorem w_0 : (Jvm.Cond.initialized "DiagramHouseLaw") ∈ xT := xt_1 (i := 0) (by decide +kernel) rfl
theorem w_1 : (Jvm.Cond.initialized "DiagramHouse") ∈ xT := xt_1 (i := 1) (by decide +kernel) rfl
theorem w_2 : (Jvm.Cond.initialized "DiagramHouse$Functions") ∈ xT := xt_1 (i := 2) (by decide +kernel) rfl
theorem w_3 : (Jvm.Cond.initialized "DiagramHouse$Diagrams") ∈ xT := xt_1 (i := 3) (by decide +kernel) rfl
theorem w_4 : (Jvm.Cond.initialized "DiagramHouse$Nodes") ∈ xT := xt_1 (i := 4) (by decide +kernel) rfl
theorem w_5 : (Jvm.Cond.initialized "java/lang/Integer") ∈ xT := xt_1 (i := 5) (by decide +kernel) rfl
theorem w_6 : (Jvm.Cond.initialized "DiagramHouse$Drawing") ∈ xT := xt_1 (i := 6) (by decide +kernel) rfl
theorem w_7 : (Jvm.Cond.initialized "DiagramHouse$Trial") ∈ xT := xt_1 (i := 7) (by decide +kernel) rfl
theorem w_8 : (Jvm.Cond.initialized "DiagramHouseModel") ∈ xT := xt_1 (i := 8) (by decide +kernel) rfl
theorem w_9 : (Jvm.Cond.initialized "java/lang/Throwable") ∈ xT := xt_1 (i := 9) (by decide +kernel) rfl
theorem w_10 : (Jvm.Cond.initialized "java/lang/Exception") ∈ xT := xt_1 (i := 10) (by decide +kernel) rfl
theorem w_11 : (Jvm.Cond.initialized "java/lang/RuntimeException") ∈ xT := xt_1 (i := 11) (by decide +kernel) rfl
theorem w_12 : (Jvm.Cond.initialized "java/lang/IndexOutOfBoundsException") ∈ xT := xt_1 (i := 12) (by decide +kernel) rfl
theorem w_13 : (Jvm.Cond.initialized "java/lang/IllegalArgumentException") ∈ xT := xt_1 (i := 13) (by decide +kernel) rfl
theorem w_14 : (Jvm.Cond.initialized "java/lang/Math") ∈ xT := xt_1 (i := 14) (by decide +kernel) rfl
theorem w_15 : (Jvm.Cond.initialized "java/lang/System") ∈ xT := xt_1 (i := 15) (by decide +kernel) rfl
theorem w_16 : (Jvm.Cond.initialized "java/lang/Long") ∈ xT := xt_1 (i := 16) (by decide +kernel) rfl
theorem w_17 : (Jvm.Cond.classLink "DiagramHouseLaw" (8 : Nat) "DiagramHouse") ∈ xT := xt_1 (i := 17) (by decide +kernel) rfl
theorem w_18 : (Jvm.Cond.instantiable "DiagramHouse" (2 : Nat)) ∈ xT := xt_1 (i := 18) (by decide +kernel) rfl
theorem w_19 : (Jvm.Cond.methodLink "DiagramHouseLaw" (77 : Nat) ({ cls := "DiagramHouse", name := "<init>", desc := "()V" } : Jvm.MethodName)) ∈ xT := xt_1 (i := 19) (by decide +kernel) rfl
theorem w_20 : (Jvm.Cond.instanceMethod ({ cls := "DiagramHouse", name := "<init>", desc := "()V" } : Jvm.MethodName)) ∈ xT := xt_1 (i := 20) (by decide +kernel) rfl
theorem w_21 : (Jvm.Cond.code ({ cls := "DiagramHouse", name := "<init>", desc := "()V" } : Jvm.MethodName) prog_1_method_1_code (1 : Nat) (Option.none : Option Jvm.ClassFile.FieldType)) ∈ xT := xt_1 (i := 21) (by decide +kernel) rfl
theorem w_22 : (Jvm.Cond.methodLink "DiagramHouse" (3 : Nat) ({ cls := "java/lang/Object", name := "<init>", desc := "()V" } : Jvm.MethodName)) ∈ xT := xt_1 (i := 22) (by decide +kernel) rfl
theorem w_23 : (Jvm.Cond.instanceMethod ({ cls := "java/lang/Object", name := "<init>", desc := "()V" } : Jvm.MethodName)) ∈ xT := xt_1 (i := 23) (by decide +kernel) rfl
theorem w_24 : (Jvm.Cond.code ({ cls := "java/lang/Object", name := "<init>", desc := "()V" } : Jvm.MethodName) object_method_1_code (1 : Nat) (Option.none : Option Jvm.ClassFile.FieldType)) ∈ xT := xt_1 (i := 24) (by decide +kernel) rfl
theorem w_25 : (Jvm.Cond.classLink "DiagramHouse" (9 : Nat) "DiagramHouse$Functions") ∈ xT := xt_1 (i := 25) (by decide +kernel) rfl
theorem w_26 : (Jvm.Cond.instantiable "DiagramHouse$Functions" (5 : Nat)) ∈ xT := xt_1 (i := 26) (by decide +kernel) rfl
theorem w_27 : (Jvm.Cond.methodLink "DiagramHouse" (11 : Nat) ({ cls := "DiagramHouse$Functions", name := "<init>", desc := "()V" } : Jvm.MethodName)) ∈ xT := xt_1 (i := 27) (by decide +kernel) rfl
theorem w_28 : (Jvm.Cond.instanceMethod ({ cls := "DiagramHouse$Functions", name := "<init>", desc := "()V" } : Jvm.MethodName)) ∈ xT := xt_1 (i := 28) (by decide +kernel) rfl
theorem w_29 : (Jvm.Cond.code ({ cls := "DiagramHouse$Functions", name := "<init>", desc := "()V" } : Jvm.MethodName) prog_4_method_1_code (1 : Nat) (Option.none : Option Jvm.ClassFile.FieldType)) ∈ xT := xt_1 (i := 29) (by decide +kernel) rfl
theorem w_30 : (Jvm.Cond.methodLink "DiagramHouse$Functions" (5 : Nat) ({ cls := "java/lang/Object", name := "<init>", desc := "()V" } : Jvm.MethodName)) ∈ xT := xt_1 (i := 30) (by decide +kernel) rfl
theorem w_31 : (Jvm.Cond.classLink "DiagramHouse$Functions" (11 : Nat) "[[J") ∈ xT := xt_1 (i := 31) (by decide +kernel) rfl
theorem w_33 : (Jvm.Cond.constant "DiagramHouse$Functions" (20 : Nat) (16777215 : Int32)) ∈ xT := xt_1 (i := 33) (by decide +kernel) rfl
theorem w_34 : (Jvm.Cond.fieldLink "DiagramHouse$Functions" (13 : Nat) "DiagramHouse$Functions" "rows" "[[J") ∈ xT := xt_1 (i := 34) (by decide +kernel) rfl
theorem w_35 : (Jvm.Cond.fieldLink "DiagramHouse$Functions" (16 : Nat) "DiagramHouse$Functions" "mayUse" "[I") ∈ xT := xt_1 (i := 35) (by decide +kernel) rfl
theorem w_36 : (Jvm.Cond.fieldLink "DiagramHouse$Functions" (21 : Nat) "DiagramHouse$Functions" "sure" "I") ∈ xT := xt_1 (i := 36) (by decide +kernel) rfl
theorem w_37 : (Jvm.Cond.fieldLink "DiagramHouse$Functions" (25 : Nat) "DiagramHouse$Functions" "broad" "I") ∈ xT := xt_1 (i := 37) (by decide +kernel) rfl
theorem w_38 : (Jvm.Cond.fieldLink "DiagramHouse$Functions" (28 : Nat) "DiagramHouse$Functions" "spare" "[J") ∈ xT := xt_1 (i := 38) (by decide +kernel) rfl
theorem w_39 : (Jvm.Cond.laysFinal "DiagramHouse$Functions" "DiagramHouse$Functions" "rows" "[[J") ∈ xT := xt_1 (i := 39) (by decide +kernel) rfl
theorem w_40 : (Jvm.Cond.soleField "DiagramHouse$Functions" "rows") ∈ xT := xt_1 (i := 40) (by decide +kernel) rfl
theorem w_41 : (Jvm.Cond.laysFinal "DiagramHouse$Functions" "DiagramHouse$Functions" "mayUse" "[I") ∈ xT := xt_1 (i := 41) (by decide +kernel) rfl
theorem w_42 : (Jvm.Cond.soleField "DiagramHouse$Functions" "mayUse") ∈ xT := xt_1 (i := 42) (by decide +kernel) rfl
theorem w_43 : (Jvm.Cond.lays "DiagramHouse$Functions" "DiagramHouse$Functions" "sure" "I") ∈ xT := xt_1 (i := 43) (by decide +kernel) rfl
theorem w_44 : (Jvm.Cond.soleField "DiagramHouse$Functions" "sure") ∈ xT := xt_1 (i := 44) (by decide +kernel) rfl
theorem w_45 : (Jvm.Cond.lays "DiagramHouse$Functions" "DiagramHouse$Functions" "broad" "I") ∈ xT := xt_1 (i := 45) (by decide +kernel) rfl
theorem w_46 : (Jvm.Cond.soleField "DiagramHouse$Functions" "broad") ∈ xT := xt_1 (i := 46) (by decide +kernel) rfl
theorem w_47 : (Jvm.Cond.lays "DiagramHouse$Functions" "DiagramHouse$Functions" "spare" "[J") ∈ xT := xt_1 (i := 47) (by decide +kernel) rfl
theorem w_48 : (Jvm.Cond.soleField "DiagramHouse$Functions" "spare") ∈ xT := xt_1 (i := 48) (by decide +kernel) rfl
theorem w_49 : (Jvm.Cond.superclass "DiagramHouse$Functions" "java/lang/Object") ∈ xT := xt_1 (i := 49) (by decide +kernel) rfl
theorem w_50 : (Jvm.Cond.arrayClass Jvm.ClassFile.FieldType.long) ∈ xT := xt_1 (i := 50) (by decide +kernel) rfl
theorem w_51 : (Jvm.Cond.arrayClass Jvm.ClassFile.FieldType.int) ∈ xT := xt_1 (i := 51) (by decide +kernel) rfl
theorem w_52 : (Jvm.Cond.classLink "DiagramHouse" (16 : Nat) "DiagramHouse$Diagrams") ∈ xT := xt_1 (i := 52) (by decide +kernel) rfl
theorem w_53 : (Jvm.Cond.instantiable "DiagramHouse$Diagrams" (13 : Nat)) ∈ xT := xt_1 (i := 53) (by decide +kernel) rfl
theorem w_54 : (Jvm.Cond.methodLink "DiagramHouse" (18 : Nat) ({ cls := "DiagramHouse$Diagrams", name := "<init>", desc := "(LDiagramHouse$Functions;)V" } : Jvm.MethodName)) ∈ xT := xt_1 (i := 54) (by decide +kernel) rfl
theorem w_55 : (Jvm.Cond.instanceMethod ({ cls := "DiagramHouse$Diagrams", name := "<init>", desc := "(LDiagramHouse$Functions;)V" } : Jvm.MethodName)) ∈ xT := xt_1 (i := 55) (by decide +kernel) rfl
theorem w_56 : (Jvm.Cond.code ({ cls := "DiagramHouse$Diagrams", name := "<init>", desc := "(LDiagramHouse$Functions;)V" } : Jvm.MethodName) prog_2_method_1_code (3 : Nat) (Option.none : Option Jvm.ClassFile.FieldType)) ∈ xT := xt_1 (i := 56) (by decide +kernel) rfl
theorem w_57 : (Jvm.Cond.methodLink "DiagramHouse$Diagrams" (3 : Nat) ({ cls := "java/lang/Object", name := "<init>", desc := "()V" } : Jvm.MethodName)) ∈ xT := xt_1 (i := 57) (by decide +kernel) rfl
theorem w_58 : (Jvm.Cond.classLink "DiagramHouse$Diagrams" (15 : Nat) "DiagramHouse$Nodes") ∈ xT := xt_1 (i := 58) (by decide +kernel) rfl
theorem w_59 : (Jvm.Cond.instantiable "DiagramHouse$Nodes" (13 : Nat)) ∈ xT := xt_1 (i := 59) (by decide +kernel) rfl
theorem w_60 : (Jvm.Cond.methodLink "DiagramHouse$Diagrams" (17 : Nat) ({ cls := "DiagramHouse$Nodes", name := "<init>", desc := "()V" } : Jvm.MethodName)) ∈ xT := xt_1 (i := 60) (by decide +kernel) rfl
theorem w_61 : (Jvm.Cond.instanceMethod ({ cls := "DiagramHouse$Nodes", name := "<init>", desc := "()V" } : Jvm.MethodName)) ∈ xT := xt_1 (i := 61) (by decide +kernel) rfl
theorem w_62 : (Jvm.Cond.code ({ cls := "DiagramHouse$Nodes", name := "<init>", desc := "()V" } : Jvm.MethodName) prog_5_method_1_code (2 : Nat) (Option.none : Option Jvm.ClassFile.FieldType)) ∈ xT := xt_1 (i := 62) (by decide +kernel) rfl
theorem w_63 : (Jvm.Cond.methodLink "DiagramHouse$Nodes" (5 : Nat) ({ cls := "java/lang/Object", name := "<init>", desc := "()V" } : Jvm.MethodName)) ∈ xT := xt_1 (i := 63) (by decide +kernel) rfl
theorem w_64 : (Jvm.Cond.classLink "DiagramHouse$Nodes" (18 : Nat) "[[I") ∈ xT := xt_1 (i := 64) (by decide +kernel) rfl
theorem w_66 : (Jvm.Cond.methodLink "DiagramHouse$Nodes" (35 : Nat) ({ cls := "java/lang/Integer", name := "numberOfTrailingZeros", desc := "(I)I" } : Jvm.MethodName)) ∈ xT := xt_1 (i := 66) (by decide +kernel) rfl
theorem w_67 : (Jvm.Cond.static ({ cls := "java/lang/Integer", name := "numberOfTrailingZeros", desc := "(I)I" } : Jvm.MethodName)) ∈ xT := xt_1 (i := 67) (by decide +kernel) rfl
theorem w_68 : (Jvm.Cond.code ({ cls := "java/lang/Integer", name := "numberOfTrailingZeros", desc := "(I)I" } : Jvm.MethodName) prog_12_method_48_code (2 : Nat) (Option.some Jvm.ClassFile.FieldType.int)) ∈ xT := xt_1 (i := 68) (by decide +kernel) rfl
theorem w_69 : (Jvm.Cond.constant "java/lang/Integer" (264 : Nat) (65536 : Int32)) ∈ xT := xt_1 (i := 69) (by decide +kernel) rfl
theorem w_70 : (Jvm.Cond.constant "DiagramHouse$Nodes" (60 : Nat) (-1610612736 : Int32)) ∈ xT := xt_1 (i := 70) (by decide +kernel) rfl
theorem w_71 : (Jvm.Cond.constant "DiagramHouse$Nodes" (61 : Nat) (1073741824 : Int32)) ∈ xT := xt_1 (i := 71) (by decide +kernel) rfl
theorem w_72 : (Jvm.Cond.fieldLink "DiagramHouse$Nodes" (11 : Nat) "DiagramHouse$Nodes" "nodes" "[I") ∈ xT := xt_1 (i := 72) (by decide +kernel) rfl
theorem w_73 : (Jvm.Cond.fieldLink "DiagramHouse$Trial" (43 : Nat) "DiagramHouse$Nodes" "nodes" "[I") ∈ xT := xt_1 (i := 73) (by decide +kernel) rfl
theorem w_74 : (Jvm.Cond.fieldLink "DiagramHouse$Nodes" (15 : Nat) "DiagramHouse$Nodes" "leading" "[I") ∈ xT := xt_1 (i := 74) (by decide +kernel) rfl
theorem w_75 : (Jvm.Cond.fieldLink "DiagramHouse$Trial" (57 : Nat) "DiagramHouse$Nodes" "leading" "[I") ∈ xT := xt_1 (i := 75) (by decide +kernel) rfl
theorem w_76 : (Jvm.Cond.fieldLink "DiagramHouse$Nodes" (20 : Nat) "DiagramHouse$Nodes" "members" "[[I") ∈ xT := xt_1 (i := 76) (by decide +kernel) rfl
theorem w_77 : (Jvm.Cond.fieldLink "DiagramHouse$Trial" (74 : Nat) "DiagramHouse$Nodes" "members" "[[I") ∈ xT := xt_1 (i := 77) (by decide +kernel) rfl
theorem w_78 : (Jvm.Cond.fieldLink "DiagramHouse$Nodes" (23 : Nat) "DiagramHouse$Nodes" "asks" "[I") ∈ xT := xt_1 (i := 78) (by decide +kernel) rfl
theorem w_79 : (Jvm.Cond.fieldLink "DiagramHouse$Trial" (55 : Nat) "DiagramHouse$Nodes" "asks" "[I") ∈ xT := xt_1 (i := 79) (by decide +kernel) rfl
theorem w_80 : (Jvm.Cond.fieldLink "DiagramHouse$Nodes" (26 : Nat) "DiagramHouse$Nodes" "memberAt" "[I") ∈ xT := xt_1 (i := 80) (by decide +kernel) rfl
theorem w_81 : (Jvm.Cond.fieldLink "DiagramHouse$Nodes" (29 : Nat) "DiagramHouse$Nodes" "next" "[I") ∈ xT := xt_1 (i := 81) (by decide +kernel) rfl
theorem w_82 : (Jvm.Cond.fieldLink "DiagramHouse$Nodes" (32 : Nat) "DiagramHouse$Nodes" "heads" "[I") ∈ xT := xt_1 (i := 82) (by decide +kernel) rfl
theorem w_83 : (Jvm.Cond.fieldLink "DiagramHouse$Nodes" (41 : Nat) "DiagramHouse$Nodes" "headShift" "I") ∈ xT := xt_1 (i := 83) (by decide +kernel) rfl
theorem w_84 : (Jvm.Cond.fieldLink "DiagramHouse$Nodes" (45 : Nat) "DiagramHouse$Nodes" "free" "I") ∈ xT := xt_1 (i := 84) (by decide +kernel) rfl
theorem w_85 : (Jvm.Cond.fieldLink "DiagramHouse$Nodes" (48 : Nat) "DiagramHouse$Nodes" "fresh" "I") ∈ xT := xt_1 (i := 85) (by decide +kernel) rfl
theorem w_86 : (Jvm.Cond.fieldLink "DiagramHouse$Trial" (49 : Nat) "DiagramHouse$Nodes" "fresh" "I") ∈ xT := xt_1 (i := 86) (by decide +kernel) rfl
theorem w_87 : (Jvm.Cond.fieldLink "DiagramHouse$Nodes" (51 : Nat) "DiagramHouse$Nodes" "size" "I") ∈ xT := xt_1 (i := 87) (by decide +kernel) rfl
theorem w_88 : (Jvm.Cond.fieldLink "DiagramHouse$Nodes" (54 : Nat) "DiagramHouse$Nodes" "seen" "[I") ∈ xT := xt_1 (i := 88) (by decide +kernel) rfl
theorem w_89 : (Jvm.Cond.fieldLink "DiagramHouse$Nodes" (57 : Nat) "DiagramHouse$Nodes" "looks" "I") ∈ xT := xt_1 (i := 89) (by decide +kernel) rfl
theorem w_90 : (Jvm.Cond.lays "DiagramHouse$Nodes" "DiagramHouse$Nodes" "nodes" "[I") ∈ xT := xt_1 (i := 90) (by decide +kernel) rfl
theorem w_91 : (Jvm.Cond.soleField "DiagramHouse$Nodes" "nodes") ∈ xT := xt_1 (i := 91) (by decide +kernel) rfl
theorem w_92 : (Jvm.Cond.lays "DiagramHouse$Nodes" "DiagramHouse$Nodes" "leading" "[I") ∈ xT := xt_1 (i := 92) (by decide +kernel) rfl
theorem w_93 : (Jvm.Cond.soleField "DiagramHouse$Nodes" "leading") ∈ xT := xt_1 (i := 93) (by decide +kernel) rfl
theorem w_94 : (Jvm.Cond.laysFinal "DiagramHouse$Nodes" "DiagramHouse$Nodes" "members" "[[I") ∈ xT := xt_1 (i := 94) (by decide +kernel) rfl
theorem w_95 : (Jvm.Cond.soleField "DiagramHouse$Nodes" "members") ∈ xT := xt_1 (i := 95) (by decide +kernel) rfl
theorem w_96 : (Jvm.Cond.laysFinal "DiagramHouse$Nodes" "DiagramHouse$Nodes" "asks" "[I") ∈ xT := xt_1 (i := 96) (by decide +kernel) rfl
theorem w_97 : (Jvm.Cond.soleField "DiagramHouse$Nodes" "asks") ∈ xT := xt_1 (i := 97) (by decide +kernel) rfl
theorem w_98 : (Jvm.Cond.lays "DiagramHouse$Nodes" "DiagramHouse$Nodes" "memberAt" "[I") ∈ xT := xt_1 (i := 98) (by decide +kernel) rfl
theorem w_99 : (Jvm.Cond.soleField "DiagramHouse$Nodes" "memberAt") ∈ xT := xt_1 (i := 99) (by decide +kernel) rfl
theorem w_100 : (Jvm.Cond.lays "DiagramHouse$Nodes" "DiagramHouse$Nodes" "next" "[I") ∈ xT := xt_1 (i := 100) (by decide +kernel) rfl
theorem w_101 : (Jvm.Cond.soleField "DiagramHouse$Nodes" "next") ∈ xT := xt_1 (i := 101) (by decide +kernel) rfl
theorem w_102 : (Jvm.Cond.lays "DiagramHouse$Nodes" "DiagramHouse$Nodes" "heads" "[I") ∈ xT := xt_1 (i := 102) (by decide +kernel) rfl
theorem w_103 : (Jvm.Cond.soleField "DiagramHouse$Nodes" "heads") ∈ xT := xt_1 (i := 103) (by decide +kernel) rfl
theorem w_104 : (Jvm.Cond.lays "DiagramHouse$Nodes" "DiagramHouse$Nodes" "headShift" "I") ∈ xT := xt_1 (i := 104) (by decide +kernel) rfl
theorem w_105 : (Jvm.Cond.soleField "DiagramHouse$Nodes" "headShift") ∈ xT := xt_1 (i := 105) (by decide +kernel) rfl
theorem w_106 : (Jvm.Cond.lays "DiagramHouse$Nodes" "DiagramHouse$Nodes" "free" "I") ∈ xT := xt_1 (i := 106) (by decide +kernel) rfl
theorem w_107 : (Jvm.Cond.soleField "DiagramHouse$Nodes" "free") ∈ xT := xt_1 (i := 107) (by decide +kernel) rfl
theorem w_108 : (Jvm.Cond.lays "DiagramHouse$Nodes" "DiagramHouse$Nodes" "fresh" "I") ∈ xT := xt_1 (i := 108) (by decide +kernel) rfl
theorem w_109 : (Jvm.Cond.soleField "DiagramHouse$Nodes" "fresh") ∈ xT := xt_1 (i := 109) (by decide +kernel) rfl
theorem w_110 : (Jvm.Cond.lays "DiagramHouse$Nodes" "DiagramHouse$Nodes" "size" "I") ∈ xT := xt_1 (i := 110) (by decide +kernel) rfl
theorem w_111 : (Jvm.Cond.soleField "DiagramHouse$Nodes" "size") ∈ xT := xt_1 (i := 111) (by decide +kernel) rfl
theorem w_112 : (Jvm.Cond.lays "DiagramHouse$Nodes" "DiagramHouse$Nodes" "seen" "[I") ∈ xT := xt_1 (i := 112) (by decide +kernel) rfl
theorem w_113 : (Jvm.Cond.soleField "DiagramHouse$Nodes" "seen") ∈ xT := xt_1 (i := 113) (by decide +kernel) rfl
theorem w_114 : (Jvm.Cond.lays "DiagramHouse$Nodes" "DiagramHouse$Nodes" "looks" "I") ∈ xT := xt_1 (i := 114) (by decide +kernel) rfl
theorem w_115 : (Jvm.Cond.soleField "DiagramHouse$Nodes" "looks") ∈ xT := xt_1 (i := 115) (by decide +kernel) rfl
theorem w_116 : (Jvm.Cond.superclass "DiagramHouse$Nodes" "java/lang/Object") ∈ xT := xt_1 (i := 116) (by decide +kernel) rfl
theorem w_117 : (Jvm.Cond.classLink "DiagramHouse$Diagrams" (22 : Nat) "DiagramHouse$Drawing") ∈ xT := xt_1 (i := 117) (by decide +kernel) rfl
theorem w_118 : (Jvm.Cond.instantiable "DiagramHouse$Drawing" (10 : Nat)) ∈ xT := xt_1 (i := 118) (by decide +kernel) rfl
theorem w_119 : (Jvm.Cond.methodLink "DiagramHouse$Diagrams" (24 : Nat) ({ cls := "DiagramHouse$Drawing", name := "<init>", desc := "(LDiagramHouse$Functions;LDiagramHouse$Nodes;)V" } : Jvm.MethodName)) ∈ xT := xt_1 (i := 119) (by decide +kernel) rfl
theorem w_120 : (Jvm.Cond.instanceMethod ({ cls := "DiagramHouse$Drawing", name := "<init>", desc := "(LDiagramHouse$Functions;LDiagramHouse$Nodes;)V" } : Jvm.MethodName)) ∈ xT := xt_1 (i := 120) (by decide +kernel) rfl
theorem w_121 : (Jvm.Cond.code ({ cls := "DiagramHouse$Drawing", name := "<init>", desc := "(LDiagramHouse$Functions;LDiagramHouse$Nodes;)V" } : Jvm.MethodName) prog_3_method_1_code (3 : Nat) (Option.none : Option Jvm.ClassFile.FieldType)) ∈ xT := xt_1 (i := 121) (by decide +kernel) rfl
theorem w_122 : (Jvm.Cond.methodLink "DiagramHouse$Drawing" (3 : Nat) ({ cls := "java/lang/Object", name := "<init>", desc := "()V" } : Jvm.MethodName)) ∈ xT := xt_1 (i := 122) (by decide +kernel) rfl
theorem w_123 : (Jvm.Cond.fieldLink "DiagramHouse$Drawing" (9 : Nat) "DiagramHouse$Drawing" "functions" "LDiagramHouse$Functions;") ∈ xT := xt_1 (i := 123) (by decide +kernel) rfl
theorem w_124 : (Jvm.Cond.fieldLink "DiagramHouse$Drawing" (15 : Nat) "DiagramHouse$Drawing" "nodes" "LDiagramHouse$Nodes;") ∈ xT := xt_1 (i := 124) (by decide +kernel) rfl
theorem w_125 : (Jvm.Cond.fieldLink "DiagramHouse$Drawing" (19 : Nat) "DiagramHouse$Drawing" "asking" "[I") ∈ xT := xt_1 (i := 125) (by decide +kernel) rfl
theorem w_126 : (Jvm.Cond.fieldLink "DiagramHouse$Drawing" (23 : Nat) "DiagramHouse$Drawing" "spots" "[I") ∈ xT := xt_1 (i := 126) (by decide +kernel) rfl
theorem w_127 : (Jvm.Cond.fieldLink "DiagramHouse$Drawing" (26 : Nat) "DiagramHouse$Drawing" "parts" "[I") ∈ xT := xt_1 (i := 127) (by decide +kernel) rfl
theorem w_128 : (Jvm.Cond.fieldLink "DiagramHouse$Drawing" (31 : Nat) "DiagramHouse$Drawing" "words" "[J") ∈ xT := xt_1 (i := 128) (by decide +kernel) rfl
theorem w_129 : (Jvm.Cond.fieldLink "DiagramHouse$Drawing" (35 : Nat) "DiagramHouse$Drawing" "wordParts" "[I") ∈ xT := xt_1 (i := 129) (by decide +kernel) rfl
theorem w_130 : (Jvm.Cond.fieldLink "DiagramHouse$Drawing" (38 : Nat) "DiagramHouse$Drawing" "fourParts" "[I") ∈ xT := xt_1 (i := 130) (by decide +kernel) rfl
theorem w_131 : (Jvm.Cond.fieldLink "DiagramHouse$Drawing" (41 : Nat) "DiagramHouse$Drawing" "bitOf" "[I") ∈ xT := xt_1 (i := 131) (by decide +kernel) rfl
theorem w_132 : (Jvm.Cond.fieldLink "DiagramHouse$Drawing" (44 : Nat) "DiagramHouse$Drawing" "inputOf" "[I") ∈ xT := xt_1 (i := 132) (by decide +kernel) rfl
theorem w_133 : (Jvm.Cond.laysFinal "DiagramHouse$Drawing" "DiagramHouse$Drawing" "functions" "LDiagramHouse$Functions;") ∈ xT := xt_1 (i := 133) (by decide +kernel) rfl
theorem w_134 : (Jvm.Cond.soleField "DiagramHouse$Drawing" "functions") ∈ xT := xt_1 (i := 134) (by decide +kernel) rfl
theorem w_135 : (Jvm.Cond.laysFinal "DiagramHouse$Drawing" "DiagramHouse$Drawing" "nodes" "LDiagramHouse$Nodes;") ∈ xT := xt_1 (i := 135) (by decide +kernel) rfl
theorem w_136 : (Jvm.Cond.soleField "DiagramHouse$Drawing" "nodes") ∈ xT := xt_1 (i := 136) (by decide +kernel) rfl
theorem w_137 : (Jvm.Cond.laysFinal "DiagramHouse$Drawing" "DiagramHouse$Drawing" "asking" "[I") ∈ xT := xt_1 (i := 137) (by decide +kernel) rfl
theorem w_138 : (Jvm.Cond.soleField "DiagramHouse$Drawing" "asking") ∈ xT := xt_1 (i := 138) (by decide +kernel) rfl
theorem w_139 : (Jvm.Cond.laysFinal "DiagramHouse$Drawing" "DiagramHouse$Drawing" "spots" "[I") ∈ xT := xt_1 (i := 139) (by decide +kernel) rfl
theorem w_140 : (Jvm.Cond.soleField "DiagramHouse$Drawing" "spots") ∈ xT := xt_1 (i := 140) (by decide +kernel) rfl
theorem w_141 : (Jvm.Cond.laysFinal "DiagramHouse$Drawing" "DiagramHouse$Drawing" "parts" "[I") ∈ xT := xt_1 (i := 141) (by decide +kernel) rfl
theorem w_142 : (Jvm.Cond.soleField "DiagramHouse$Drawing" "parts") ∈ xT := xt_1 (i := 142) (by decide +kernel) rfl
theorem w_143 : (Jvm.Cond.laysFinal "DiagramHouse$Drawing" "DiagramHouse$Drawing" "words" "[J") ∈ xT := xt_1 (i := 143) (by decide +kernel) rfl
theorem w_144 : (Jvm.Cond.soleField "DiagramHouse$Drawing" "words") ∈ xT := xt_1 (i := 144) (by decide +kernel) rfl
theorem w_145 : (Jvm.Cond.laysFinal "DiagramHouse$Drawing" "DiagramHouse$Drawing" "wordParts" "[I") ∈ xT := xt_1 (i := 145) (by decide +kernel) rfl
theorem w_146 : (Jvm.Cond.soleField "DiagramHouse$Drawing" "wordParts") ∈ xT := xt_1 (i := 146) (by decide +kernel) rfl
theorem w_147 : (Jvm.Cond.laysFinal "DiagramHouse$Drawing" "DiagramHouse$Drawing" "fourParts" "[I") ∈ xT := xt_1 (i := 147) (by decide +kernel) rfl
theorem w_148 : (Jvm.Cond.soleField "DiagramHouse$Drawing" "fourParts") ∈ xT := xt_1 (i := 148) (by decide +kernel) rfl
theorem w_149 : (Jvm.Cond.laysFinal "DiagramHouse$Drawing" "DiagramHouse$Drawing" "bitOf" "[I") ∈ xT := xt_1 (i := 149) (by decide +kernel) rfl
theorem w_150 : (Jvm.Cond.soleField "DiagramHouse$Drawing" "bitOf") ∈ xT := xt_1 (i := 150) (by decide +kernel) rfl
theorem w_151 : (Jvm.Cond.laysFinal "DiagramHouse$Drawing" "DiagramHouse$Drawing" "inputOf" "[I") ∈ xT := xt_1 (i := 151) (by decide +kernel) rfl
theorem w_152 : (Jvm.Cond.soleField "DiagramHouse$Drawing" "inputOf") ∈ xT := xt_1 (i := 152) (by decide +kernel) rfl
theorem w_153 : (Jvm.Cond.superclass "DiagramHouse$Drawing" "java/lang/Object") ∈ xT := xt_1 (i := 153) (by decide +kernel) rfl
theorem w_154 : (Jvm.Cond.classLink "DiagramHouse$Diagrams" (31 : Nat) "DiagramHouse$Trial") ∈ xT := xt_1 (i := 154) (by decide +kernel) rfl
theorem w_155 : (Jvm.Cond.instantiable "DiagramHouse$Trial" (10 : Nat)) ∈ xT := xt_1 (i := 155) (by decide +kernel) rfl
theorem w_156 : (Jvm.Cond.methodLink "DiagramHouse$Diagrams" (33 : Nat) ({ cls := "DiagramHouse$Trial", name := "<init>", desc := "(LDiagramHouse$Nodes;)V" } : Jvm.MethodName)) ∈ xT := xt_1 (i := 156) (by decide +kernel) rfl
theorem w_157 : (Jvm.Cond.instanceMethod ({ cls := "DiagramHouse$Trial", name := "<init>", desc := "(LDiagramHouse$Nodes;)V" } : Jvm.MethodName)) ∈ xT := xt_1 (i := 157) (by decide +kernel) rfl
theorem w_158 : (Jvm.Cond.code ({ cls := "DiagramHouse$Trial", name := "<init>", desc := "(LDiagramHouse$Nodes;)V" } : Jvm.MethodName) prog_6_method_1_code (2 : Nat) (Option.none : Option Jvm.ClassFile.FieldType)) ∈ xT := xt_1 (i := 158) (by decide +kernel) rfl
theorem w_159 : (Jvm.Cond.methodLink "DiagramHouse$Trial" (5 : Nat) ({ cls := "java/lang/Object", name := "<init>", desc := "()V" } : Jvm.MethodName)) ∈ xT := xt_1 (i := 159) (by decide +kernel) rfl
theorem w_160 : (Jvm.Cond.fieldLink "DiagramHouse$Trial" (11 : Nat) "DiagramHouse$Trial" "nodes" "LDiagramHouse$Nodes;") ∈ xT := xt_1 (i := 160) (by decide +kernel) rfl
theorem w_161 : (Jvm.Cond.fieldLink "DiagramHouse$Trial" (52 : Nat) "DiagramHouse$Trial" "first" "I") ∈ xT := xt_1 (i := 161) (by decide +kernel) rfl
theorem w_162 : (Jvm.Cond.fieldLink "DiagramHouse$Trial" (40 : Nat) "DiagramHouse$Trial" "asks" "I") ∈ xT := xt_1 (i := 162) (by decide +kernel) rfl
theorem w_163 : (Jvm.Cond.fieldLink "DiagramHouse$Trial" (17 : Nat) "DiagramHouse$Trial" "leading" "[I") ∈ xT := xt_1 (i := 163) (by decide +kernel) rfl
theorem w_164 : (Jvm.Cond.fieldLink "DiagramHouse$Trial" (21 : Nat) "DiagramHouse$Trial" "marks" "[I") ∈ xT := xt_1 (i := 164) (by decide +kernel) rfl
theorem w_165 : (Jvm.Cond.fieldLink "DiagramHouse$Trial" (24 : Nat) "DiagramHouse$Trial" "mark" "I") ∈ xT := xt_1 (i := 165) (by decide +kernel) rfl
theorem w_166 : (Jvm.Cond.fieldLink "DiagramHouse$Trial" (28 : Nat) "DiagramHouse$Trial" "parts" "[I") ∈ xT := xt_1 (i := 166) (by decide +kernel) rfl
theorem w_167 : (Jvm.Cond.fieldLink "DiagramHouse$Trial" (31 : Nat) "DiagramHouse$Trial" "next" "[I") ∈ xT := xt_1 (i := 167) (by decide +kernel) rfl
theorem w_168 : (Jvm.Cond.fieldLink "DiagramHouse$Trial" (34 : Nat) "DiagramHouse$Trial" "heads" "[I") ∈ xT := xt_1 (i := 168) (by decide +kernel) rfl
theorem w_169 : (Jvm.Cond.fieldLink "DiagramHouse$Trial" (37 : Nat) "DiagramHouse$Trial" "places" "[I") ∈ xT := xt_1 (i := 169) (by decide +kernel) rfl
theorem w_170 : (Jvm.Cond.laysFinal "DiagramHouse$Trial" "DiagramHouse$Trial" "nodes" "LDiagramHouse$Nodes;") ∈ xT := xt_1 (i := 170) (by decide +kernel) rfl
theorem w_171 : (Jvm.Cond.soleField "DiagramHouse$Trial" "nodes") ∈ xT := xt_1 (i := 171) (by decide +kernel) rfl
theorem w_172 : (Jvm.Cond.lays "DiagramHouse$Trial" "DiagramHouse$Trial" "first" "I") ∈ xT := xt_1 (i := 172) (by decide +kernel) rfl
theorem w_173 : (Jvm.Cond.soleField "DiagramHouse$Trial" "first") ∈ xT := xt_1 (i := 173) (by decide +kernel) rfl
theorem w_174 : (Jvm.Cond.lays "DiagramHouse$Trial" "DiagramHouse$Trial" "asks" "I") ∈ xT := xt_1 (i := 174) (by decide +kernel) rfl
theorem w_175 : (Jvm.Cond.soleField "DiagramHouse$Trial" "asks") ∈ xT := xt_1 (i := 175) (by decide +kernel) rfl
theorem w_176 : (Jvm.Cond.lays "DiagramHouse$Trial" "DiagramHouse$Trial" "leading" "[I") ∈ xT := xt_1 (i := 176) (by decide +kernel) rfl
theorem w_177 : (Jvm.Cond.soleField "DiagramHouse$Trial" "leading") ∈ xT := xt_1 (i := 177) (by decide +kernel) rfl
theorem w_178 : (Jvm.Cond.lays "DiagramHouse$Trial" "DiagramHouse$Trial" "marks" "[I") ∈ xT := xt_1 (i := 178) (by decide +kernel) rfl
theorem w_179 : (Jvm.Cond.soleField "DiagramHouse$Trial" "marks") ∈ xT := xt_1 (i := 179) (by decide +kernel) rfl
theorem w_180 : (Jvm.Cond.lays "DiagramHouse$Trial" "DiagramHouse$Trial" "mark" "I") ∈ xT := xt_1 (i := 180) (by decide +kernel) rfl
theorem w_181 : (Jvm.Cond.soleField "DiagramHouse$Trial" "mark") ∈ xT := xt_1 (i := 181) (by decide +kernel) rfl
theorem w_182 : (Jvm.Cond.lays "DiagramHouse$Trial" "DiagramHouse$Trial" "parts" "[I") ∈ xT := xt_1 (i := 182) (by decide +kernel) rfl
theorem w_183 : (Jvm.Cond.soleField "DiagramHouse$Trial" "parts") ∈ xT := xt_1 (i := 183) (by decide +kernel) rfl
theorem w_184 : (Jvm.Cond.lays "DiagramHouse$Trial" "DiagramHouse$Trial" "next" "[I") ∈ xT := xt_1 (i := 184) (by decide +kernel) rfl
theorem w_185 : (Jvm.Cond.soleField "DiagramHouse$Trial" "next") ∈ xT := xt_1 (i := 185) (by decide +kernel) rfl
theorem w_186 : (Jvm.Cond.laysFinal "DiagramHouse$Trial" "DiagramHouse$Trial" "heads" "[I") ∈ xT := xt_1 (i := 186) (by decide +kernel) rfl
theorem w_187 : (Jvm.Cond.soleField "DiagramHouse$Trial" "heads") ∈ xT := xt_1 (i := 187) (by decide +kernel) rfl
theorem w_188 : (Jvm.Cond.laysFinal "DiagramHouse$Trial" "DiagramHouse$Trial" "places" "[I") ∈ xT := xt_1 (i := 188) (by decide +kernel) rfl
theorem w_189 : (Jvm.Cond.soleField "DiagramHouse$Trial" "places") ∈ xT := xt_1 (i := 189) (by decide +kernel) rfl
theorem w_190 : (Jvm.Cond.superclass "DiagramHouse$Trial" "java/lang/Object") ∈ xT := xt_1 (i := 190) (by decide +kernel) rfl
theorem w_191 : (Jvm.Cond.fieldLink "DiagramHouse$Diagrams" (9 : Nat) "DiagramHouse$Diagrams" "functions" "LDiagramHouse$Functions;") ∈ xT := xt_1 (i := 191) (by decide +kernel) rfl
theorem w_192 : (Jvm.Cond.fieldLink "DiagramHouse$Diagrams" (18 : Nat) "DiagramHouse$Diagrams" "nodes" "LDiagramHouse$Nodes;") ∈ xT := xt_1 (i := 192) (by decide +kernel) rfl
theorem w_193 : (Jvm.Cond.fieldLink "DiagramHouse$Diagrams" (27 : Nat) "DiagramHouse$Diagrams" "drawing" "LDiagramHouse$Drawing;") ∈ xT := xt_1 (i := 193) (by decide +kernel) rfl
theorem w_194 : (Jvm.Cond.fieldLink "DiagramHouse$Diagrams" (36 : Nat) "DiagramHouse$Diagrams" "trial" "LDiagramHouse$Trial;") ∈ xT := xt_1 (i := 194) (by decide +kernel) rfl
theorem w_195 : (Jvm.Cond.fieldLink "DiagramHouse$Diagrams" (40 : Nat) "DiagramHouse$Diagrams" "order" "[I") ∈ xT := xt_1 (i := 195) (by decide +kernel) rfl
theorem w_196 : (Jvm.Cond.fieldLink "DiagramHouse$Diagrams" (44 : Nat) "DiagramHouse$Diagrams" "roots" "[I") ∈ xT := xt_1 (i := 196) (by decide +kernel) rfl
theorem w_197 : (Jvm.Cond.fieldLink "DiagramHouse$Diagrams" (47 : Nat) "DiagramHouse$Diagrams" "changed" "I") ∈ xT := xt_1 (i := 197) (by decide +kernel) rfl
theorem w_198 : (Jvm.Cond.fieldLink "DiagramHouse$Diagrams" (51 : Nat) "DiagramHouse$Diagrams" "mates" "[I") ∈ xT := xt_1 (i := 198) (by decide +kernel) rfl
theorem w_199 : (Jvm.Cond.fieldLink "DiagramHouse$Diagrams" (54 : Nat) "DiagramHouse$Diagrams" "matesKnown" "Z") ∈ xT := xt_1 (i := 199) (by decide +kernel) rfl
theorem w_200 : (Jvm.Cond.fieldLink "DiagramHouse$Diagrams" (58 : Nat) "DiagramHouse$Diagrams" "turns" "[I") ∈ xT := xt_1 (i := 200) (by decide +kernel) rfl
theorem w_201 : (Jvm.Cond.fieldLink "DiagramHouse$Diagrams" (112 : Nat) "DiagramHouse$Diagrams" "place" "I") ∈ xT := xt_1 (i := 201) (by decide +kernel) rfl
theorem w_202 : (Jvm.Cond.fieldLink "DiagramHouse$Diagrams" (124 : Nat) "DiagramHouse$Diagrams" "best" "I") ∈ xT := xt_1 (i := 202) (by decide +kernel) rfl
theorem w_203 : (Jvm.Cond.fieldLink "DiagramHouse$Diagrams" (127 : Nat) "DiagramHouse$Diagrams" "leastSize" "I") ∈ xT := xt_1 (i := 203) (by decide +kernel) rfl
theorem w_204 : (Jvm.Cond.laysFinal "DiagramHouse$Diagrams" "DiagramHouse$Diagrams" "functions" "LDiagramHouse$Functions;") ∈ xT := xt_1 (i := 204) (by decide +kernel) rfl
theorem w_205 : (Jvm.Cond.soleField "DiagramHouse$Diagrams" "functions") ∈ xT := xt_1 (i := 205) (by decide +kernel) rfl
theorem w_206 : (Jvm.Cond.laysFinal "DiagramHouse$Diagrams" "DiagramHouse$Diagrams" "nodes" "LDiagramHouse$Nodes;") ∈ xT := xt_1 (i := 206) (by decide +kernel) rfl
theorem w_207 : (Jvm.Cond.soleField "DiagramHouse$Diagrams" "nodes") ∈ xT := xt_1 (i := 207) (by decide +kernel) rfl
theorem w_208 : (Jvm.Cond.laysFinal "DiagramHouse$Diagrams" "DiagramHouse$Diagrams" "drawing" "LDiagramHouse$Drawing;") ∈ xT := xt_1 (i := 208) (by decide +kernel) rfl
theorem w_209 : (Jvm.Cond.soleField "DiagramHouse$Diagrams" "drawing") ∈ xT := xt_1 (i := 209) (by decide +kernel) rfl
theorem w_210 : (Jvm.Cond.laysFinal "DiagramHouse$Diagrams" "DiagramHouse$Diagrams" "trial" "LDiagramHouse$Trial;") ∈ xT := xt_1 (i := 210) (by decide +kernel) rfl
theorem w_211 : (Jvm.Cond.soleField "DiagramHouse$Diagrams" "trial") ∈ xT := xt_1 (i := 211) (by decide +kernel) rfl
theorem w_212 : (Jvm.Cond.laysFinal "DiagramHouse$Diagrams" "DiagramHouse$Diagrams" "order" "[I") ∈ xT := xt_1 (i := 212) (by decide +kernel) rfl
theorem w_213 : (Jvm.Cond.soleField "DiagramHouse$Diagrams" "order") ∈ xT := xt_1 (i := 213) (by decide +kernel) rfl
theorem w_214 : (Jvm.Cond.laysFinal "DiagramHouse$Diagrams" "DiagramHouse$Diagrams" "roots" "[I") ∈ xT := xt_1 (i := 214) (by decide +kernel) rfl
theorem w_215 : (Jvm.Cond.soleField "DiagramHouse$Diagrams" "roots") ∈ xT := xt_1 (i := 215) (by decide +kernel) rfl
theorem w_216 : (Jvm.Cond.lays "DiagramHouse$Diagrams" "DiagramHouse$Diagrams" "changed" "I") ∈ xT := xt_1 (i := 216) (by decide +kernel) rfl
theorem w_217 : (Jvm.Cond.soleField "DiagramHouse$Diagrams" "changed") ∈ xT := xt_1 (i := 217) (by decide +kernel) rfl
theorem w_218 : (Jvm.Cond.laysFinal "DiagramHouse$Diagrams" "DiagramHouse$Diagrams" "mates" "[I") ∈ xT := xt_1 (i := 218) (by decide +kernel) rfl
theorem w_219 : (Jvm.Cond.soleField "DiagramHouse$Diagrams" "mates") ∈ xT := xt_1 (i := 219) (by decide +kernel) rfl
theorem w_220 : (Jvm.Cond.lays "DiagramHouse$Diagrams" "DiagramHouse$Diagrams" "matesKnown" "Z") ∈ xT := xt_1 (i := 220) (by decide +kernel) rfl
theorem w_221 : (Jvm.Cond.soleField "DiagramHouse$Diagrams" "matesKnown") ∈ xT := xt_1 (i := 221) (by decide +kernel) rfl
theorem w_222 : (Jvm.Cond.laysFinal "DiagramHouse$Diagrams" "DiagramHouse$Diagrams" "turns" "[I") ∈ xT := xt_1 (i := 222) (by decide +kernel) rfl
theorem w_223 : (Jvm.Cond.soleField "DiagramHouse$Diagrams" "turns") ∈ xT := xt_1 (i := 223) (by decide +kernel) rfl
theorem w_224 : (Jvm.Cond.lays "DiagramHouse$Diagrams" "DiagramHouse$Diagrams" "place" "I") ∈ xT := xt_1 (i := 224) (by decide +kernel) rfl
theorem w_225 : (Jvm.Cond.soleField "DiagramHouse$Diagrams" "place") ∈ xT := xt_1 (i := 225) (by decide +kernel) rfl
theorem w_226 : (Jvm.Cond.lays "DiagramHouse$Diagrams" "DiagramHouse$Diagrams" "best" "I") ∈ xT := xt_1 (i := 226) (by decide +kernel) rfl
theorem w_227 : (Jvm.Cond.soleField "DiagramHouse$Diagrams" "best") ∈ xT := xt_1 (i := 227) (by decide +kernel) rfl
theorem w_228 : (Jvm.Cond.lays "DiagramHouse$Diagrams" "DiagramHouse$Diagrams" "leastSize" "I") ∈ xT := xt_1 (i := 228) (by decide +kernel) rfl
theorem w_229 : (Jvm.Cond.soleField "DiagramHouse$Diagrams" "leastSize") ∈ xT := xt_1 (i := 229) (by decide +kernel) rfl
theorem w_230 : (Jvm.Cond.superclass "DiagramHouse$Diagrams" "java/lang/Object") ∈ xT := xt_1 (i := 230) (by decide +kernel) rfl
theorem w_231 : (Jvm.Cond.fieldLink "DiagramHouse" (12 : Nat) "DiagramHouse" "functions" "LDiagramHouse$Functions;") ∈ xT := xt_1 (i := 231) (by decide +kernel) rfl
theorem w_232 : (Jvm.Cond.fieldLink "DiagramHouse" (21 : Nat) "DiagramHouse" "diagrams" "LDiagramHouse$Diagrams;") ∈ xT := xt_1 (i := 232) (by decide +kernel) rfl
theorem w_233 : (Jvm.Cond.laysFinal "DiagramHouse" "DiagramHouse" "functions" "LDiagramHouse$Functions;") ∈ xT := xt_1 (i := 233) (by decide +kernel) rfl
theorem w_234 : (Jvm.Cond.soleField "DiagramHouse" "functions") ∈ xT := xt_1 (i := 234) (by decide +kernel) rfl
theorem w_235 : (Jvm.Cond.laysFinal "DiagramHouse" "DiagramHouse" "diagrams" "LDiagramHouse$Diagrams;") ∈ xT := xt_1 (i := 235) (by decide +kernel) rfl
theorem w_236 : (Jvm.Cond.soleField "DiagramHouse" "diagrams") ∈ xT := xt_1 (i := 236) (by decide +kernel) rfl
theorem w_237 : (Jvm.Cond.superclass "DiagramHouse" "java/lang/Object") ∈ xT := xt_1 (i := 237) (by decide +kernel) rfl
theorem w_238 : (Jvm.Cond.methodLink "DiagramHouseLaw" (122 : Nat) ({ cls := "DiagramHouse", name := "siftAll", desc := "()I" } : Jvm.MethodName)) ∈ xT := xt_1 (i := 238) (by decide +kernel) rfl
theorem w_239 : (Jvm.Cond.instanceMethod ({ cls := "DiagramHouse", name := "siftAll", desc := "()I" } : Jvm.MethodName)) ∈ xT := xt_1 (i := 239) (by decide +kernel) rfl
theorem w_240 : (Jvm.Cond.selects "DiagramHouse" ({ cls := "DiagramHouse", name := "siftAll", desc := "()I" } : Jvm.MethodName) ({ cls := "DiagramHouse", name := "siftAll", desc := "()I" } : Jvm.MethodName)) ∈ xT := xt_2 (i := 0) (by decide +kernel) rfl
theorem w_241 : (Jvm.Cond.code ({ cls := "DiagramHouse", name := "siftAll", desc := "()I" } : Jvm.MethodName) prog_1_method_12_code (3 : Nat) (Option.some Jvm.ClassFile.FieldType.int)) ∈ xT := xt_2 (i := 1) (by decide +kernel) rfl
theorem w_242 : (Jvm.Cond.constant "DiagramHouse" (69 : Nat) (16777215 : Int32)) ∈ xT := xt_2 (i := 2) (by decide +kernel) rfl
theorem w_243 : (Jvm.Cond.methodLink "DiagramHouse" (70 : Nat) ({ cls := "DiagramHouse$Diagrams", name := "draw", desc := "(I)V" } : Jvm.MethodName)) ∈ xT := xt_2 (i := 3) (by decide +kernel) rfl
theorem w_244 : (Jvm.Cond.instanceMethod ({ cls := "DiagramHouse$Diagrams", name := "draw", desc := "(I)V" } : Jvm.MethodName)) ∈ xT := xt_2 (i := 4) (by decide +kernel) rfl
theorem w_245 : (Jvm.Cond.selects "DiagramHouse$Diagrams" ({ cls := "DiagramHouse$Diagrams", name := "draw", desc := "(I)V" } : Jvm.MethodName) ({ cls := "DiagramHouse$Diagrams", name := "draw", desc := "(I)V" } : Jvm.MethodName)) ∈ xT := xt_2 (i := 5) (by decide +kernel) rfl
theorem w_246 : (Jvm.Cond.code ({ cls := "DiagramHouse$Diagrams", name := "draw", desc := "(I)V" } : Jvm.MethodName) prog_2_method_3_code (5 : Nat) (Option.none : Option Jvm.ClassFile.FieldType)) ∈ xT := xt_2 (i := 6) (by decide +kernel) rfl
theorem w_247 : (Jvm.Cond.methodLink "DiagramHouse$Diagrams" (61 : Nat) ({ cls := "java/lang/Integer", name := "numberOfTrailingZeros", desc := "(I)I" } : Jvm.MethodName)) ∈ xT := xt_2 (i := 7) (by decide +kernel) rfl
theorem w_248 : (Jvm.Cond.methodLink "DiagramHouse$Diagrams" (67 : Nat) ({ cls := "DiagramHouse$Drawing", name := "rootOf", desc := "(I[I)I" } : Jvm.MethodName)) ∈ xT := xt_2 (i := 8) (by decide +kernel) rfl
theorem w_249 : (Jvm.Cond.instanceMethod ({ cls := "DiagramHouse$Drawing", name := "rootOf", desc := "(I[I)I" } : Jvm.MethodName)) ∈ xT := xt_2 (i := 9) (by decide +kernel) rfl
theorem w_250 : (Jvm.Cond.selects "DiagramHouse$Drawing" ({ cls := "DiagramHouse$Drawing", name := "rootOf", desc := "(I[I)I" } : Jvm.MethodName) ({ cls := "DiagramHouse$Drawing", name := "rootOf", desc := "(I[I)I" } : Jvm.MethodName)) ∈ xT := xt_2 (i := 10) (by decide +kernel) rfl
theorem w_251 : (Jvm.Cond.code ({ cls := "DiagramHouse$Drawing", name := "rootOf", desc := "(I[I)I" } : Jvm.MethodName) prog_3_method_2_code (8 : Nat) (Option.some Jvm.ClassFile.FieldType.int)) ∈ xT := xt_2 (i := 11) (by decide +kernel) rfl
theorem w_252 : (Jvm.Cond.methodLink "DiagramHouse$Drawing" (47 : Nat) ({ cls := "DiagramHouse$Functions", name := "usedInputs", desc := "(I)I" } : Jvm.MethodName)) ∈ xT := xt_2 (i := 12) (by decide +kernel) rfl
theorem w_253 : (Jvm.Cond.instanceMethod ({ cls := "DiagramHouse$Functions", name := "usedInputs", desc := "(I)I" } : Jvm.MethodName)) ∈ xT := xt_2 (i := 13) (by decide +kernel) rfl
theorem w_254 : (Jvm.Cond.selects "DiagramHouse$Functions" ({ cls := "DiagramHouse$Functions", name := "usedInputs", desc := "(I)I" } : Jvm.MethodName) ({ cls := "DiagramHouse$Functions", name := "usedInputs", desc := "(I)I" } : Jvm.MethodName)) ∈ xT := xt_2 (i := 14) (by decide +kernel) rfl
theorem w_255 : (Jvm.Cond.code ({ cls := "DiagramHouse$Functions", name := "usedInputs", desc := "(I)I" } : Jvm.MethodName) prog_4_method_24_code (5 : Nat) (Option.some Jvm.ClassFile.FieldType.int)) ∈ xT := xt_2 (i := 15) (by decide +kernel) rfl
theorem w_256 : (Jvm.Cond.methodLink "DiagramHouse$Functions" (76 : Nat) ({ cls := "java/lang/Integer", name := "numberOfTrailingZeros", desc := "(I)I" } : Jvm.MethodName)) ∈ xT := xt_2 (i := 16) (by decide +kernel) rfl
theorem w_257 : (Jvm.Cond.methodLink "DiagramHouse$Functions" (91 : Nat) ({ cls := "DiagramHouse$Functions", name := "depends", desc := "(II)Z" } : Jvm.MethodName)) ∈ xT := xt_2 (i := 17) (by decide +kernel) rfl
theorem w_259 : (Jvm.Cond.instanceMethod ({ cls := "DiagramHouse$Functions", name := "depends", desc := "(II)Z" } : Jvm.MethodName)) ∈ xT := xt_2 (i := 19) (by decide +kernel) rfl
theorem w_260 : (Jvm.Cond.code ({ cls := "DiagramHouse$Functions", name := "depends", desc := "(II)Z" } : Jvm.MethodName) prog_4_method_25_code (4 : Nat) (Option.some Jvm.ClassFile.FieldType.boolean)) ∈ xT := xt_2 (i := 20) (by decide +kernel) rfl
theorem w_261 : (Jvm.Cond.methodLink "DiagramHouse$Functions" (32 : Nat) ({ cls := "DiagramHouse$Functions", name := "keptWords", desc := "(I)I" } : Jvm.MethodName)) ∈ xT := xt_2 (i := 21) (by decide +kernel) rfl
theorem w_263 : (Jvm.Cond.instanceMethod ({ cls := "DiagramHouse$Functions", name := "keptWords", desc := "(I)I" } : Jvm.MethodName)) ∈ xT := xt_2 (i := 23) (by decide +kernel) rfl
theorem w_264 : (Jvm.Cond.code ({ cls := "DiagramHouse$Functions", name := "keptWords", desc := "(I)I" } : Jvm.MethodName) prog_4_method_2_code (2 : Nat) (Option.some Jvm.ClassFile.FieldType.int)) ∈ xT := xt_2 (i := 24) (by decide +kernel) rfl
theorem w_265 : (Jvm.Cond.methodLink "DiagramHouse$Functions" (45 : Nat) ({ cls := "DiagramHouse$Functions", name := "leftOut", desc := "(I)I" } : Jvm.MethodName)) ∈ xT := xt_2 (i := 25) (by decide +kernel) rfl
theorem w_266 : (Jvm.Cond.static ({ cls := "DiagramHouse$Functions", name := "leftOut", desc := "(I)I" } : Jvm.MethodName)) ∈ xT := xt_2 (i := 26) (by decide +kernel) rfl
theorem w_267 : (Jvm.Cond.code ({ cls := "DiagramHouse$Functions", name := "leftOut", desc := "(I)I" } : Jvm.MethodName) prog_4_method_3_code (1 : Nat) (Option.some Jvm.ClassFile.FieldType.int)) ∈ xT := xt_2 (i := 27) (by decide +kernel) rfl
theorem w_268 : (Jvm.Cond.methodLink "DiagramHouse$Functions" (95 : Nat) ({ cls := "DiagramHouse$Functions", name := "dependsWithinWords", desc := "([JII)Z" } : Jvm.MethodName)) ∈ xT := xt_2 (i := 28) (by decide +kernel) rfl
theorem w_269 : (Jvm.Cond.static ({ cls := "DiagramHouse$Functions", name := "dependsWithinWords", desc := "([JII)Z" } : Jvm.MethodName)) ∈ xT := xt_2 (i := 29) (by decide +kernel) rfl
theorem w_270 : (Jvm.Cond.code ({ cls := "DiagramHouse$Functions", name := "dependsWithinWords", desc := "([JII)Z" } : Jvm.MethodName) prog_4_method_26_code (7 : Nat) (Option.some Jvm.ClassFile.FieldType.boolean)) ∈ xT := xt_2 (i := 30) (by decide +kernel) rfl
theorem w_271 : (Jvm.Cond.fieldLink "DiagramHouse$Functions" (42 : Nat) "DiagramHouse$Functions" "ONES" "[J") ∈ xT := xt_2 (i := 31) (by decide +kernel) rfl
theorem w_273 : (Jvm.Cond.constantLong "DiagramHouse$Functions" (36 : Nat) (-1 : Int64)) ∈ xT := xt_2 (i := 33) (by decide +kernel) rfl
theorem w_274 : (Jvm.Cond.methodLink "DiagramHouse$Functions" (99 : Nat) ({ cls := "DiagramHouse$Functions", name := "dependsOnWords", desc := "([JII)Z" } : Jvm.MethodName)) ∈ xT := xt_2 (i := 34) (by decide +kernel) rfl
theorem w_275 : (Jvm.Cond.static ({ cls := "DiagramHouse$Functions", name := "dependsOnWords", desc := "([JII)Z" } : Jvm.MethodName)) ∈ xT := xt_2 (i := 35) (by decide +kernel) rfl
theorem w_276 : (Jvm.Cond.code ({ cls := "DiagramHouse$Functions", name := "dependsOnWords", desc := "([JII)Z" } : Jvm.MethodName) prog_4_method_27_code (5 : Nat) (Option.some Jvm.ClassFile.FieldType.boolean)) ∈ xT := xt_2 (i := 36) (by decide +kernel) rfl
theorem w_277 : (Jvm.Cond.methodLink "DiagramHouse$Functions" (38 : Nat) ({ cls := "DiagramHouse$Functions", name := "beSure", desc := "(II)V" } : Jvm.MethodName)) ∈ xT := xt_2 (i := 37) (by decide +kernel) rfl
theorem w_279 : (Jvm.Cond.instanceMethod ({ cls := "DiagramHouse$Functions", name := "beSure", desc := "(II)V" } : Jvm.MethodName)) ∈ xT := xt_2 (i := 39) (by decide +kernel) rfl
theorem w_280 : (Jvm.Cond.code ({ cls := "DiagramHouse$Functions", name := "beSure", desc := "(II)V" } : Jvm.MethodName) prog_4_method_7_code (3 : Nat) (Option.none : Option Jvm.ClassFile.FieldType)) ∈ xT := xt_2 (i := 40) (by decide +kernel) rfl
theorem w_281 : (Jvm.Cond.methodLink "DiagramHouse$Drawing" (51 : Nat) ({ cls := "DiagramHouse$Functions", name := "bit", desc := "(II)I" } : Jvm.MethodName)) ∈ xT := xt_2 (i := 41) (by decide +kernel) rfl
theorem w_282 : (Jvm.Cond.instanceMethod ({ cls := "DiagramHouse$Functions", name := "bit", desc := "(II)I" } : Jvm.MethodName)) ∈ xT := xt_2 (i := 42) (by decide +kernel) rfl
theorem w_283 : (Jvm.Cond.selects "DiagramHouse$Functions" ({ cls := "DiagramHouse$Functions", name := "bit", desc := "(II)I" } : Jvm.MethodName) ({ cls := "DiagramHouse$Functions", name := "bit", desc := "(II)I" } : Jvm.MethodName)) ∈ xT := xt_2 (i := 43) (by decide +kernel) rfl
theorem w_284 : (Jvm.Cond.code ({ cls := "DiagramHouse$Functions", name := "bit", desc := "(II)I" } : Jvm.MethodName) prog_4_method_5_code (3 : Nat) (Option.some Jvm.ClassFile.FieldType.int)) ∈ xT := xt_2 (i := 44) (by decide +kernel) rfl
theorem w_285 : (Jvm.Cond.methodLink "DiagramHouse$Drawing" (55 : Nat) ({ cls := "java/lang/Integer", name := "bitCount", desc := "(I)I" } : Jvm.MethodName)) ∈ xT := xt_2 (i := 45) (by decide +kernel) rfl
theorem w_286 : (Jvm.Cond.static ({ cls := "java/lang/Integer", name := "bitCount", desc := "(I)I" } : Jvm.MethodName)) ∈ xT := xt_2 (i := 46) (by decide +kernel) rfl
theorem w_287 : (Jvm.Cond.code ({ cls := "java/lang/Integer", name := "bitCount", desc := "(I)I" } : Jvm.MethodName) prog_12_method_49_code (1 : Nat) (Option.some Jvm.ClassFile.FieldType.int)) ∈ xT := xt_2 (i := 47) (by decide +kernel) rfl
theorem w_288 : (Jvm.Cond.constant "java/lang/Integer" (265 : Nat) (1431655765 : Int32)) ∈ xT := xt_2 (i := 48) (by decide +kernel) rfl
theorem w_289 : (Jvm.Cond.constant "java/lang/Integer" (266 : Nat) (858993459 : Int32)) ∈ xT := xt_2 (i := 49) (by decide +kernel) rfl
theorem w_290 : (Jvm.Cond.constant "java/lang/Integer" (267 : Nat) (252645135 : Int32)) ∈ xT := xt_2 (i := 50) (by decide +kernel) rfl
theorem w_291 : (Jvm.Cond.methodLink "DiagramHouse$Drawing" (62 : Nat) ({ cls := "DiagramHouse$Nodes", name := "wholeSize", desc := "()I" } : Jvm.MethodName)) ∈ xT := xt_2 (i := 51) (by decide +kernel) rfl
theorem w_292 : (Jvm.Cond.instanceMethod ({ cls := "DiagramHouse$Nodes", name := "wholeSize", desc := "()I" } : Jvm.MethodName)) ∈ xT := xt_2 (i := 52) (by decide +kernel) rfl
theorem w_293 : (Jvm.Cond.selects "DiagramHouse$Nodes" ({ cls := "DiagramHouse$Nodes", name := "wholeSize", desc := "()I" } : Jvm.MethodName) ({ cls := "DiagramHouse$Nodes", name := "wholeSize", desc := "()I" } : Jvm.MethodName)) ∈ xT := xt_2 (i := 53) (by decide +kernel) rfl
theorem w_294 : (Jvm.Cond.code ({ cls := "DiagramHouse$Nodes", name := "wholeSize", desc := "()I" } : Jvm.MethodName) prog_5_method_2_code (1 : Nat) (Option.some Jvm.ClassFile.FieldType.int)) ∈ xT := xt_2 (i := 54) (by decide +kernel) rfl
theorem w_295 : (Jvm.Cond.methodLink "DiagramHouse$Drawing" (66 : Nat) ({ cls := "java/lang/Math", name := "min", desc := "(II)I" } : Jvm.MethodName)) ∈ xT := xt_2 (i := 55) (by decide +kernel) rfl
theorem w_296 : (Jvm.Cond.static ({ cls := "java/lang/Math", name := "min", desc := "(II)I" } : Jvm.MethodName)) ∈ xT := xt_2 (i := 56) (by decide +kernel) rfl
theorem w_297 : (Jvm.Cond.code ({ cls := "java/lang/Math", name := "min", desc := "(II)I" } : Jvm.MethodName) prog_14_method_69_code (2 : Nat) (Option.some Jvm.ClassFile.FieldType.int)) ∈ xT := xt_2 (i := 57) (by decide +kernel) rfl
theorem w_298 : (Jvm.Cond.methodLink "DiagramHouse$Drawing" (71 : Nat) ({ cls := "DiagramHouse$Nodes", name := "makeRoomFor", desc := "(I)V" } : Jvm.MethodName)) ∈ xT := xt_2 (i := 58) (by decide +kernel) rfl
theorem w_299 : (Jvm.Cond.instanceMethod ({ cls := "DiagramHouse$Nodes", name := "makeRoomFor", desc := "(I)V" } : Jvm.MethodName)) ∈ xT := xt_2 (i := 59) (by decide +kernel) rfl
theorem w_300 : (Jvm.Cond.selects "DiagramHouse$Nodes" ({ cls := "DiagramHouse$Nodes", name := "makeRoomFor", desc := "(I)V" } : Jvm.MethodName) ({ cls := "DiagramHouse$Nodes", name := "makeRoomFor", desc := "(I)V" } : Jvm.MethodName)) ∈ xT := xt_2 (i := 60) (by decide +kernel) rfl
theorem w_301 : (Jvm.Cond.code ({ cls := "DiagramHouse$Nodes", name := "makeRoomFor", desc := "(I)V" } : Jvm.MethodName) prog_5_method_4_code (4 : Nat) (Option.none : Option Jvm.ClassFile.FieldType)) ∈ xT := xt_2 (i := 61) (by decide +kernel) rfl
theorem w_302 : (Jvm.Cond.methodLink "DiagramHouse$Nodes" (62 : Nat) ({ cls := "DiagramHouse$Nodes", name := "lengthened", desc := "([II)[I" } : Jvm.MethodName)) ∈ xT := xt_2 (i := 62) (by decide +kernel) rfl
theorem w_303 : (Jvm.Cond.static ({ cls := "DiagramHouse$Nodes", name := "lengthened", desc := "([II)[I" } : Jvm.MethodName)) ∈ xT := xt_2 (i := 63) (by decide +kernel) rfl
theorem w_304 : (Jvm.Cond.code ({ cls := "DiagramHouse$Nodes", name := "lengthened", desc := "([II)[I" } : Jvm.MethodName) prog_5_method_5_code (3 : Nat) (Option.some (Jvm.ClassFile.FieldType.array Jvm.ClassFile.FieldType.int))) ∈ xT := xt_2 (i := 64) (by decide +kernel) rfl
theorem w_305 : (Jvm.Cond.methodLink "DiagramHouse$Nodes" (70 : Nat) ({ cls := "java/lang/System", name := "arraycopy", desc := "(Ljava/lang/Object;ILjava/lang/Object;II)V" } : Jvm.MethodName)) ∈ xT := xt_2 (i := 65) (by decide +kernel) rfl
theorem w_306 : (Jvm.Cond.static ({ cls := "java/lang/System", name := "arraycopy", desc := "(Ljava/lang/Object;ILjava/lang/Object;II)V" } : Jvm.MethodName)) ∈ xT := xt_2 (i := 66) (by decide +kernel) rfl
theorem w_307 : (Jvm.Cond.native ({ cls := "java/lang/System", name := "arraycopy", desc := "(Ljava/lang/Object;ILjava/lang/Object;II)V" } : Jvm.MethodName)) ∈ xT := xt_2 (i := 67) (by decide +kernel) rfl
theorem w_308 : (Jvm.Cond.methodLink "DiagramHouse$Nodes" (66 : Nat) ({ cls := "DiagramHouse$Nodes", name := "link", desc := "(I)V" } : Jvm.MethodName)) ∈ xT := xt_2 (i := 68) (by decide +kernel) rfl
theorem w_310 : (Jvm.Cond.instanceMethod ({ cls := "DiagramHouse$Nodes", name := "link", desc := "(I)V" } : Jvm.MethodName)) ∈ xT := xt_2 (i := 70) (by decide +kernel) rfl
theorem w_311 : (Jvm.Cond.code ({ cls := "DiagramHouse$Nodes", name := "link", desc := "(I)V" } : Jvm.MethodName) prog_5_method_9_code (3 : Nat) (Option.none : Option Jvm.ClassFile.FieldType)) ∈ xT := xt_2 (i := 71) (by decide +kernel) rfl
theorem w_312 : (Jvm.Cond.constant "DiagramHouse$Nodes" (76 : Nat) (-1640531535 : Int32)) ∈ xT := xt_2 (i := 72) (by decide +kernel) rfl
theorem w_313 : (Jvm.Cond.methodLink "DiagramHouse$Drawing" (75 : Nat) ({ cls := "java/lang/Integer", name := "numberOfTrailingZeros", desc := "(I)I" } : Jvm.MethodName)) ∈ xT := xt_2 (i := 73) (by decide +kernel) rfl
theorem w_314 : (Jvm.Cond.methodLink "DiagramHouse$Drawing" (78 : Nat) ({ cls := "DiagramHouse$Nodes", name := "nodeFor", desc := "(III)I" } : Jvm.MethodName)) ∈ xT := xt_2 (i := 74) (by decide +kernel) rfl
theorem w_315 : (Jvm.Cond.instanceMethod ({ cls := "DiagramHouse$Nodes", name := "nodeFor", desc := "(III)I" } : Jvm.MethodName)) ∈ xT := xt_2 (i := 75) (by decide +kernel) rfl
theorem w_316 : (Jvm.Cond.selects "DiagramHouse$Nodes" ({ cls := "DiagramHouse$Nodes", name := "nodeFor", desc := "(III)I" } : Jvm.MethodName) ({ cls := "DiagramHouse$Nodes", name := "nodeFor", desc := "(III)I" } : Jvm.MethodName)) ∈ xT := xt_2 (i := 76) (by decide +kernel) rfl
theorem w_317 : (Jvm.Cond.code ({ cls := "DiagramHouse$Nodes", name := "nodeFor", desc := "(III)I" } : Jvm.MethodName) prog_5_method_7_code (6 : Nat) (Option.some Jvm.ClassFile.FieldType.int)) ∈ xT := xt_2 (i := 77) (by decide +kernel) rfl
theorem w_318 : (Jvm.Cond.methodLink "DiagramHouse$Nodes" (77 : Nat) ({ cls := "DiagramHouse$Nodes", name := "found", desc := "(I)I" } : Jvm.MethodName)) ∈ xT := xt_2 (i := 78) (by decide +kernel) rfl
theorem w_320 : (Jvm.Cond.instanceMethod ({ cls := "DiagramHouse$Nodes", name := "found", desc := "(I)I" } : Jvm.MethodName)) ∈ xT := xt_2 (i := 80) (by decide +kernel) rfl
theorem w_321 : (Jvm.Cond.code ({ cls := "DiagramHouse$Nodes", name := "found", desc := "(I)I" } : Jvm.MethodName) prog_5_method_6_code (4 : Nat) (Option.some Jvm.ClassFile.FieldType.int)) ∈ xT := xt_2 (i := 81) (by decide +kernel) rfl
theorem w_322 : (Jvm.Cond.methodLink "DiagramHouse$Nodes" (80 : Nat) ({ cls := "DiagramHouse$Nodes", name := "enlist", desc := "(II)V" } : Jvm.MethodName)) ∈ xT := xt_2 (i := 82) (by decide +kernel) rfl
theorem w_324 : (Jvm.Cond.instanceMethod ({ cls := "DiagramHouse$Nodes", name := "enlist", desc := "(II)V" } : Jvm.MethodName)) ∈ xT := xt_2 (i := 84) (by decide +kernel) rfl
theorem w_325 : (Jvm.Cond.code ({ cls := "DiagramHouse$Nodes", name := "enlist", desc := "(II)V" } : Jvm.MethodName) prog_5_method_8_code (5 : Nat) (Option.none : Option Jvm.ClassFile.FieldType)) ∈ xT := xt_2 (i := 85) (by decide +kernel) rfl
theorem w_326 : (Jvm.Cond.methodLink "DiagramHouse$Drawing" (82 : Nat) ({ cls := "DiagramHouse$Drawing", name := "ofBits", desc := "(II)I" } : Jvm.MethodName)) ∈ xT := xt_2 (i := 86) (by decide +kernel) rfl
theorem w_328 : (Jvm.Cond.instanceMethod ({ cls := "DiagramHouse$Drawing", name := "ofBits", desc := "(II)I" } : Jvm.MethodName)) ∈ xT := xt_2 (i := 88) (by decide +kernel) rfl
theorem w_329 : (Jvm.Cond.code ({ cls := "DiagramHouse$Drawing", name := "ofBits", desc := "(II)I" } : Jvm.MethodName) prog_3_method_3_code (8 : Nat) (Option.some Jvm.ClassFile.FieldType.int)) ∈ xT := xt_2 (i := 89) (by decide +kernel) rfl
theorem w_330 : (Jvm.Cond.methodLink "DiagramHouse$Drawing" (88 : Nat) ({ cls := "DiagramHouse$Drawing", name := "folded", desc := "([III)I" } : Jvm.MethodName)) ∈ xT := xt_2 (i := 90) (by decide +kernel) rfl
theorem w_332 : (Jvm.Cond.instanceMethod ({ cls := "DiagramHouse$Drawing", name := "folded", desc := "([III)I" } : Jvm.MethodName)) ∈ xT := xt_2 (i := 92) (by decide +kernel) rfl
theorem w_333 : (Jvm.Cond.code ({ cls := "DiagramHouse$Drawing", name := "folded", desc := "([III)I" } : Jvm.MethodName) prog_3_method_4_code (8 : Nat) (Option.some Jvm.ClassFile.FieldType.int)) ∈ xT := xt_2 (i := 93) (by decide +kernel) rfl
theorem w_334 : (Jvm.Cond.methodLink "DiagramHouse$Drawing" (85 : Nat) ({ cls := "DiagramHouse$Drawing", name := "ofWords", desc := "(II)I" } : Jvm.MethodName)) ∈ xT := xt_2 (i := 94) (by decide +kernel) rfl
theorem w_336 : (Jvm.Cond.instanceMethod ({ cls := "DiagramHouse$Drawing", name := "ofWords", desc := "(II)I" } : Jvm.MethodName)) ∈ xT := xt_2 (i := 96) (by decide +kernel) rfl
theorem w_337 : (Jvm.Cond.code ({ cls := "DiagramHouse$Drawing", name := "ofWords", desc := "(II)I" } : Jvm.MethodName) prog_3_method_5_code (7 : Nat) (Option.some Jvm.ClassFile.FieldType.int)) ∈ xT := xt_2 (i := 97) (by decide +kernel) rfl
theorem w_338 : (Jvm.Cond.methodLink "DiagramHouse$Drawing" (92 : Nat) ({ cls := "DiagramHouse$Functions", name := "word", desc := "(II)J" } : Jvm.MethodName)) ∈ xT := xt_2 (i := 98) (by decide +kernel) rfl
theorem w_339 : (Jvm.Cond.instanceMethod ({ cls := "DiagramHouse$Functions", name := "word", desc := "(II)J" } : Jvm.MethodName)) ∈ xT := xt_2 (i := 99) (by decide +kernel) rfl
theorem w_340 : (Jvm.Cond.selects "DiagramHouse$Functions" ({ cls := "DiagramHouse$Functions", name := "word", desc := "(II)J" } : Jvm.MethodName) ({ cls := "DiagramHouse$Functions", name := "word", desc := "(II)J" } : Jvm.MethodName)) ∈ xT := xt_2 (i := 100) (by decide +kernel) rfl
theorem w_341 : (Jvm.Cond.code ({ cls := "DiagramHouse$Functions", name := "word", desc := "(II)J" } : Jvm.MethodName) prog_4_method_4_code (3 : Nat) (Option.some Jvm.ClassFile.FieldType.long)) ∈ xT := xt_2 (i := 101) (by decide +kernel) rfl
theorem w_342 : (Jvm.Cond.methodLink "DiagramHouse$Drawing" (96 : Nat) ({ cls := "DiagramHouse$Drawing", name := "arrange", desc := "(I)V" } : Jvm.MethodName)) ∈ xT := xt_2 (i := 102) (by decide +kernel) rfl
theorem w_344 : (Jvm.Cond.instanceMethod ({ cls := "DiagramHouse$Drawing", name := "arrange", desc := "(I)V" } : Jvm.MethodName)) ∈ xT := xt_2 (i := 104) (by decide +kernel) rfl
theorem w_345 : (Jvm.Cond.code ({ cls := "DiagramHouse$Drawing", name := "arrange", desc := "(I)V" } : Jvm.MethodName) prog_3_method_7_code (4 : Nat) (Option.none : Option Jvm.ClassFile.FieldType)) ∈ xT := xt_2 (i := 105) (by decide +kernel) rfl
theorem w_346 : (Jvm.Cond.methodLink "DiagramHouse$Drawing" (102 : Nat) ({ cls := "DiagramHouse$Drawing", name := "exchange", desc := "(II)V" } : Jvm.MethodName)) ∈ xT := xt_2 (i := 106) (by decide +kernel) rfl
theorem w_348 : (Jvm.Cond.instanceMethod ({ cls := "DiagramHouse$Drawing", name := "exchange", desc := "(II)V" } : Jvm.MethodName)) ∈ xT := xt_2 (i := 108) (by decide +kernel) rfl
theorem w_349 : (Jvm.Cond.code ({ cls := "DiagramHouse$Drawing", name := "exchange", desc := "(II)V" } : Jvm.MethodName) prog_3_method_8_code (3 : Nat) (Option.none : Option Jvm.ClassFile.FieldType)) ∈ xT := xt_2 (i := 109) (by decide +kernel) rfl
theorem w_350 : (Jvm.Cond.methodLink "DiagramHouse$Drawing" (106 : Nat) ({ cls := "DiagramHouse$Drawing", name := "exchangeWithinWords", desc := "(II)V" } : Jvm.MethodName)) ∈ xT := xt_2 (i := 110) (by decide +kernel) rfl
theorem w_352 : (Jvm.Cond.instanceMethod ({ cls := "DiagramHouse$Drawing", name := "exchangeWithinWords", desc := "(II)V" } : Jvm.MethodName)) ∈ xT := xt_2 (i := 112) (by decide +kernel) rfl
theorem w_353 : (Jvm.Cond.code ({ cls := "DiagramHouse$Drawing", name := "exchangeWithinWords", desc := "(II)V" } : Jvm.MethodName) prog_3_method_9_code (11 : Nat) (Option.none : Option Jvm.ClassFile.FieldType)) ∈ xT := xt_2 (i := 113) (by decide +kernel) rfl
theorem w_354 : (Jvm.Cond.fieldLink "DiagramHouse$Drawing" (115 : Nat) "DiagramHouse$Functions" "ONES" "[J") ∈ xT := xt_2 (i := 114) (by decide +kernel) rfl
theorem w_355 : (Jvm.Cond.constantLong "DiagramHouse$Drawing" (118 : Nat) (-1 : Int64)) ∈ xT := xt_2 (i := 115) (by decide +kernel) rfl
theorem w_356 : (Jvm.Cond.methodLink "DiagramHouse$Drawing" (109 : Nat) ({ cls := "DiagramHouse$Drawing", name := "exchangeAcrossWords", desc := "(II)V" } : Jvm.MethodName)) ∈ xT := xt_2 (i := 116) (by decide +kernel) rfl
theorem w_358 : (Jvm.Cond.instanceMethod ({ cls := "DiagramHouse$Drawing", name := "exchangeAcrossWords", desc := "(II)V" } : Jvm.MethodName)) ∈ xT := xt_2 (i := 118) (by decide +kernel) rfl
theorem w_359 : (Jvm.Cond.code ({ cls := "DiagramHouse$Drawing", name := "exchangeAcrossWords", desc := "(II)V" } : Jvm.MethodName) prog_3_method_10_code (9 : Nat) (Option.none : Option Jvm.ClassFile.FieldType)) ∈ xT := xt_2 (i := 119) (by decide +kernel) rfl
theorem w_360 : (Jvm.Cond.methodLink "DiagramHouse$Drawing" (112 : Nat) ({ cls := "DiagramHouse$Drawing", name := "exchangeWords", desc := "(II)V" } : Jvm.MethodName)) ∈ xT := xt_2 (i := 120) (by decide +kernel) rfl
theorem w_362 : (Jvm.Cond.instanceMethod ({ cls := "DiagramHouse$Drawing", name := "exchangeWords", desc := "(II)V" } : Jvm.MethodName)) ∈ xT := xt_2 (i := 122) (by decide +kernel) rfl
theorem w_363 : (Jvm.Cond.code ({ cls := "DiagramHouse$Drawing", name := "exchangeWords", desc := "(II)V" } : Jvm.MethodName) prog_3_method_11_code (7 : Nat) (Option.none : Option Jvm.ClassFile.FieldType)) ∈ xT := xt_2 (i := 123) (by decide +kernel) rfl
theorem w_364 : (Jvm.Cond.methodLink "DiagramHouse$Drawing" (99 : Nat) ({ cls := "DiagramHouse$Drawing", name := "ofFour", desc := "(I)I" } : Jvm.MethodName)) ∈ xT := xt_2 (i := 124) (by decide +kernel) rfl
theorem w_366 : (Jvm.Cond.instanceMethod ({ cls := "DiagramHouse$Drawing", name := "ofFour", desc := "(I)I" } : Jvm.MethodName)) ∈ xT := xt_2 (i := 126) (by decide +kernel) rfl
theorem w_367 : (Jvm.Cond.code ({ cls := "DiagramHouse$Drawing", name := "ofFour", desc := "(I)I" } : Jvm.MethodName) prog_3_method_6_code (4 : Nat) (Option.some Jvm.ClassFile.FieldType.int)) ∈ xT := xt_2 (i := 127) (by decide +kernel) rfl
theorem w_368 : (Jvm.Cond.methodLink "DiagramHouse$Diagrams" (71 : Nat) ({ cls := "DiagramHouse$Nodes", name := "lead", desc := "(I)V" } : Jvm.MethodName)) ∈ xT := xt_2 (i := 128) (by decide +kernel) rfl
theorem w_369 : (Jvm.Cond.instanceMethod ({ cls := "DiagramHouse$Nodes", name := "lead", desc := "(I)V" } : Jvm.MethodName)) ∈ xT := xt_2 (i := 129) (by decide +kernel) rfl
theorem w_370 : (Jvm.Cond.selects "DiagramHouse$Nodes" ({ cls := "DiagramHouse$Nodes", name := "lead", desc := "(I)V" } : Jvm.MethodName) ({ cls := "DiagramHouse$Nodes", name := "lead", desc := "(I)V" } : Jvm.MethodName)) ∈ xT := xt_2 (i := 130) (by decide +kernel) rfl
theorem w_371 : (Jvm.Cond.code ({ cls := "DiagramHouse$Nodes", name := "lead", desc := "(I)V" } : Jvm.MethodName) prog_5_method_11_code (2 : Nat) (Option.none : Option Jvm.ClassFile.FieldType)) ∈ xT := xt_2 (i := 131) (by decide +kernel) rfl
theorem w_372 : (Jvm.Cond.methodLink "DiagramHouse$Diagrams" (75 : Nat) ({ cls := "DiagramHouse$Nodes", name := "leadNoMore", desc := "(I)V" } : Jvm.MethodName)) ∈ xT := xt_2 (i := 132) (by decide +kernel) rfl
theorem w_373 : (Jvm.Cond.instanceMethod ({ cls := "DiagramHouse$Nodes", name := "leadNoMore", desc := "(I)V" } : Jvm.MethodName)) ∈ xT := xt_2 (i := 133) (by decide +kernel) rfl
theorem w_374 : (Jvm.Cond.selects "DiagramHouse$Nodes" ({ cls := "DiagramHouse$Nodes", name := "leadNoMore", desc := "(I)V" } : Jvm.MethodName) ({ cls := "DiagramHouse$Nodes", name := "leadNoMore", desc := "(I)V" } : Jvm.MethodName)) ∈ xT := xt_2 (i := 134) (by decide +kernel) rfl
theorem w_375 : (Jvm.Cond.code ({ cls := "DiagramHouse$Nodes", name := "leadNoMore", desc := "(I)V" } : Jvm.MethodName) prog_5_method_12_code (2 : Nat) (Option.none : Option Jvm.ClassFile.FieldType)) ∈ xT := xt_2 (i := 135) (by decide +kernel) rfl
theorem w_376 : (Jvm.Cond.methodLink "DiagramHouse$Nodes" (84 : Nat) ({ cls := "DiagramHouse$Nodes", name := "leave", desc := "(II)V" } : Jvm.MethodName)) ∈ xT := xt_2 (i := 136) (by decide +kernel) rfl
theorem w_378 : (Jvm.Cond.instanceMethod ({ cls := "DiagramHouse$Nodes", name := "leave", desc := "(II)V" } : Jvm.MethodName)) ∈ xT := xt_2 (i := 138) (by decide +kernel) rfl
theorem w_379 : (Jvm.Cond.code ({ cls := "DiagramHouse$Nodes", name := "leave", desc := "(II)V" } : Jvm.MethodName) prog_5_method_13_code (4 : Nat) (Option.none : Option Jvm.ClassFile.FieldType)) ∈ xT := xt_2 (i := 139) (by decide +kernel) rfl
theorem w_380 : (Jvm.Cond.methodLink "DiagramHouse$Nodes" (87 : Nat) ({ cls := "DiagramHouse$Nodes", name := "forget", desc := "(I)V" } : Jvm.MethodName)) ∈ xT := xt_2 (i := 140) (by decide +kernel) rfl
theorem w_382 : (Jvm.Cond.instanceMethod ({ cls := "DiagramHouse$Nodes", name := "forget", desc := "(I)V" } : Jvm.MethodName)) ∈ xT := xt_2 (i := 142) (by decide +kernel) rfl
theorem w_383 : (Jvm.Cond.code ({ cls := "DiagramHouse$Nodes", name := "forget", desc := "(I)V" } : Jvm.MethodName) prog_5_method_14_code (5 : Nat) (Option.none : Option Jvm.ClassFile.FieldType)) ∈ xT := xt_2 (i := 143) (by decide +kernel) rfl
theorem w_384 : (Jvm.Cond.methodLink "DiagramHouse$Nodes" (90 : Nat) ({ cls := "DiagramHouse$Nodes", name := "unlink", desc := "(I)V" } : Jvm.MethodName)) ∈ xT := xt_2 (i := 144) (by decide +kernel) rfl
theorem w_386 : (Jvm.Cond.instanceMethod ({ cls := "DiagramHouse$Nodes", name := "unlink", desc := "(I)V" } : Jvm.MethodName)) ∈ xT := xt_2 (i := 146) (by decide +kernel) rfl
theorem w_387 : (Jvm.Cond.code ({ cls := "DiagramHouse$Nodes", name := "unlink", desc := "(I)V" } : Jvm.MethodName) prog_5_method_10_code (6 : Nat) (Option.none : Option Jvm.ClassFile.FieldType)) ∈ xT := xt_2 (i := 147) (by decide +kernel) rfl
theorem w_388 : (Jvm.Cond.methodLink "DiagramHouse" (84 : Nat) ({ cls := "DiagramHouse$Diagrams", name := "takeTurns", desc := "()I" } : Jvm.MethodName)) ∈ xT := xt_2 (i := 148) (by decide +kernel) rfl
theorem w_389 : (Jvm.Cond.instanceMethod ({ cls := "DiagramHouse$Diagrams", name := "takeTurns", desc := "()I" } : Jvm.MethodName)) ∈ xT := xt_2 (i := 149) (by decide +kernel) rfl
theorem w_390 : (Jvm.Cond.selects "DiagramHouse$Diagrams" ({ cls := "DiagramHouse$Diagrams", name := "takeTurns", desc := "()I" } : Jvm.MethodName) ({ cls := "DiagramHouse$Diagrams", name := "takeTurns", desc := "()I" } : Jvm.MethodName)) ∈ xT := xt_2 (i := 150) (by decide +kernel) rfl
theorem w_391 : (Jvm.Cond.code ({ cls := "DiagramHouse$Diagrams", name := "takeTurns", desc := "()I" } : Jvm.MethodName) prog_2_method_17_code (5 : Nat) (Option.some Jvm.ClassFile.FieldType.int)) ∈ xT := xt_2 (i := 151) (by decide +kernel) rfl
theorem w_392 : (Jvm.Cond.methodLink "DiagramHouse$Diagrams" (89 : Nat) ({ cls := "DiagramHouse$Nodes", name := "asksFor", desc := "(I)I" } : Jvm.MethodName)) ∈ xT := xt_2 (i := 152) (by decide +kernel) rfl
theorem w_393 : (Jvm.Cond.instanceMethod ({ cls := "DiagramHouse$Nodes", name := "asksFor", desc := "(I)I" } : Jvm.MethodName)) ∈ xT := xt_2 (i := 153) (by decide +kernel) rfl
theorem w_394 : (Jvm.Cond.selects "DiagramHouse$Nodes" ({ cls := "DiagramHouse$Nodes", name := "asksFor", desc := "(I)I" } : Jvm.MethodName) ({ cls := "DiagramHouse$Nodes", name := "asksFor", desc := "(I)I" } : Jvm.MethodName)) ∈ xT := xt_2 (i := 154) (by decide +kernel) rfl
theorem w_395 : (Jvm.Cond.code ({ cls := "DiagramHouse$Nodes", name := "asksFor", desc := "(I)I" } : Jvm.MethodName) prog_5_method_3_code (2 : Nat) (Option.some Jvm.ClassFile.FieldType.int)) ∈ xT := xt_2 (i := 155) (by decide +kernel) rfl
theorem w_396 : (Jvm.Cond.methodLink "DiagramHouse" (87 : Nat) ({ cls := "DiagramHouse$Diagrams", name := "inputWithTurn", desc := "(I)I" } : Jvm.MethodName)) ∈ xT := xt_2 (i := 156) (by decide +kernel) rfl
theorem w_397 : (Jvm.Cond.instanceMethod ({ cls := "DiagramHouse$Diagrams", name := "inputWithTurn", desc := "(I)I" } : Jvm.MethodName)) ∈ xT := xt_2 (i := 157) (by decide +kernel) rfl
theorem w_398 : (Jvm.Cond.selects "DiagramHouse$Diagrams" ({ cls := "DiagramHouse$Diagrams", name := "inputWithTurn", desc := "(I)I" } : Jvm.MethodName) ({ cls := "DiagramHouse$Diagrams", name := "inputWithTurn", desc := "(I)I" } : Jvm.MethodName)) ∈ xT := xt_2 (i := 158) (by decide +kernel) rfl
theorem w_399 : (Jvm.Cond.code ({ cls := "DiagramHouse$Diagrams", name := "inputWithTurn", desc := "(I)I" } : Jvm.MethodName) prog_2_method_18_code (2 : Nat) (Option.some Jvm.ClassFile.FieldType.int)) ∈ xT := xt_2 (i := 159) (by decide +kernel) rfl
theorem w_400 : (Jvm.Cond.methodLink "DiagramHouse" (80 : Nat) ({ cls := "DiagramHouse$Diagrams", name := "settle", desc := "(I)I" } : Jvm.MethodName)) ∈ xT := xt_2 (i := 160) (by decide +kernel) rfl
theorem w_401 : (Jvm.Cond.instanceMethod ({ cls := "DiagramHouse$Diagrams", name := "settle", desc := "(I)I" } : Jvm.MethodName)) ∈ xT := xt_2 (i := 161) (by decide +kernel) rfl
theorem w_402 : (Jvm.Cond.selects "DiagramHouse$Diagrams" ({ cls := "DiagramHouse$Diagrams", name := "settle", desc := "(I)I" } : Jvm.MethodName) ({ cls := "DiagramHouse$Diagrams", name := "settle", desc := "(I)I" } : Jvm.MethodName)) ∈ xT := xt_2 (i := 162) (by decide +kernel) rfl
theorem w_403 : (Jvm.Cond.code ({ cls := "DiagramHouse$Diagrams", name := "settle", desc := "(I)I" } : Jvm.MethodName) prog_2_method_14_code (3 : Nat) (Option.some Jvm.ClassFile.FieldType.int)) ∈ xT := xt_2 (i := 163) (by decide +kernel) rfl
theorem w_404 : (Jvm.Cond.methodLink "DiagramHouse$Diagrams" (92 : Nat) ({ cls := "DiagramHouse$Diagrams", name := "takeOut", desc := "(I)V" } : Jvm.MethodName)) ∈ xT := xt_2 (i := 164) (by decide +kernel) rfl
theorem w_406 : (Jvm.Cond.instanceMethod ({ cls := "DiagramHouse$Diagrams", name := "takeOut", desc := "(I)V" } : Jvm.MethodName)) ∈ xT := xt_2 (i := 166) (by decide +kernel) rfl
theorem w_407 : (Jvm.Cond.code ({ cls := "DiagramHouse$Diagrams", name := "takeOut", desc := "(I)V" } : Jvm.MethodName) prog_2_method_10_code (4 : Nat) (Option.none : Option Jvm.ClassFile.FieldType)) ∈ xT := xt_2 (i := 167) (by decide +kernel) rfl
theorem w_408 : (Jvm.Cond.methodLink "DiagramHouse$Diagrams" (106 : Nat) ({ cls := "java/lang/System", name := "arraycopy", desc := "(Ljava/lang/Object;ILjava/lang/Object;II)V" } : Jvm.MethodName)) ∈ xT := xt_2 (i := 168) (by decide +kernel) rfl
theorem w_409 : (Jvm.Cond.methodLink "DiagramHouse$Diagrams" (95 : Nat) ({ cls := "DiagramHouse$Diagrams", name := "matesOf", desc := "(I)I" } : Jvm.MethodName)) ∈ xT := xt_2 (i := 169) (by decide +kernel) rfl
theorem w_411 : (Jvm.Cond.instanceMethod ({ cls := "DiagramHouse$Diagrams", name := "matesOf", desc := "(I)I" } : Jvm.MethodName)) ∈ xT := xt_2 (i := 171) (by decide +kernel) rfl
theorem w_412 : (Jvm.Cond.code ({ cls := "DiagramHouse$Diagrams", name := "matesOf", desc := "(I)I" } : Jvm.MethodName) prog_2_method_12_code (2 : Nat) (Option.some Jvm.ClassFile.FieldType.int)) ∈ xT := xt_2 (i := 172) (by decide +kernel) rfl
theorem w_413 : (Jvm.Cond.methodLink "DiagramHouse$Diagrams" (115 : Nat) ({ cls := "DiagramHouse$Functions", name := "findMates", desc := "([I)V" } : Jvm.MethodName)) ∈ xT := xt_2 (i := 173) (by decide +kernel) rfl
theorem w_414 : (Jvm.Cond.instanceMethod ({ cls := "DiagramHouse$Functions", name := "findMates", desc := "([I)V" } : Jvm.MethodName)) ∈ xT := xt_2 (i := 174) (by decide +kernel) rfl
theorem w_415 : (Jvm.Cond.selects "DiagramHouse$Functions" ({ cls := "DiagramHouse$Functions", name := "findMates", desc := "([I)V" } : Jvm.MethodName) ({ cls := "DiagramHouse$Functions", name := "findMates", desc := "([I)V" } : Jvm.MethodName)) ∈ xT := xt_2 (i := 175) (by decide +kernel) rfl
theorem w_416 : (Jvm.Cond.code ({ cls := "DiagramHouse$Functions", name := "findMates", desc := "([I)V" } : Jvm.MethodName) prog_4_method_28_code (5 : Nat) (Option.none : Option Jvm.ClassFile.FieldType)) ∈ xT := xt_2 (i := 176) (by decide +kernel) rfl
theorem w_417 : (Jvm.Cond.methodLink "DiagramHouse$Diagrams" (85 : Nat) ({ cls := "DiagramHouse$Nodes", name := "wholeSize", desc := "()I" } : Jvm.MethodName)) ∈ xT := xt_2 (i := 177) (by decide +kernel) rfl
theorem w_418 : (Jvm.Cond.methodLink "DiagramHouse$Diagrams" (130 : Nat) ({ cls := "DiagramHouse$Diagrams", name := "rise", desc := "(II)V" } : Jvm.MethodName)) ∈ xT := xt_2 (i := 178) (by decide +kernel) rfl
theorem w_420 : (Jvm.Cond.instanceMethod ({ cls := "DiagramHouse$Diagrams", name := "rise", desc := "(II)V" } : Jvm.MethodName)) ∈ xT := xt_2 (i := 180) (by decide +kernel) rfl
theorem w_421 : (Jvm.Cond.code ({ cls := "DiagramHouse$Diagrams", name := "rise", desc := "(II)V" } : Jvm.MethodName) prog_2_method_15_code (8 : Nat) (Option.none : Option Jvm.ClassFile.FieldType)) ∈ xT := xt_2 (i := 181) (by decide +kernel) rfl
theorem w_422 : (Jvm.Cond.methodLink "DiagramHouse$Diagrams" (136 : Nat) ({ cls := "DiagramHouse$Trial", name := "startRising", desc := "(I)V" } : Jvm.MethodName)) ∈ xT := xt_2 (i := 182) (by decide +kernel) rfl
theorem w_423 : (Jvm.Cond.instanceMethod ({ cls := "DiagramHouse$Trial", name := "startRising", desc := "(I)V" } : Jvm.MethodName)) ∈ xT := xt_2 (i := 183) (by decide +kernel) rfl
theorem w_424 : (Jvm.Cond.selects "DiagramHouse$Trial" ({ cls := "DiagramHouse$Trial", name := "startRising", desc := "(I)V" } : Jvm.MethodName) ({ cls := "DiagramHouse$Trial", name := "startRising", desc := "(I)V" } : Jvm.MethodName)) ∈ xT := xt_2 (i := 184) (by decide +kernel) rfl
theorem w_425 : (Jvm.Cond.code ({ cls := "DiagramHouse$Trial", name := "startRising", desc := "(I)V" } : Jvm.MethodName) prog_6_method_6_code (5 : Nat) (Option.none : Option Jvm.ClassFile.FieldType)) ∈ xT := xt_2 (i := 185) (by decide +kernel) rfl
theorem w_426 : (Jvm.Cond.methodLink "DiagramHouse$Trial" (68 : Nat) ({ cls := "DiagramHouse$Trial", name := "fitNodes", desc := "()V" } : Jvm.MethodName)) ∈ xT := xt_2 (i := 186) (by decide +kernel) rfl
theorem w_428 : (Jvm.Cond.instanceMethod ({ cls := "DiagramHouse$Trial", name := "fitNodes", desc := "()V" } : Jvm.MethodName)) ∈ xT := xt_2 (i := 188) (by decide +kernel) rfl
theorem w_429 : (Jvm.Cond.code ({ cls := "DiagramHouse$Trial", name := "fitNodes", desc := "()V" } : Jvm.MethodName) prog_6_method_3_code (2 : Nat) (Option.none : Option Jvm.ClassFile.FieldType)) ∈ xT := xt_2 (i := 189) (by decide +kernel) rfl
theorem w_430 : (Jvm.Cond.methodLink "DiagramHouse$Trial" (45 : Nat) ({ cls := "DiagramHouse$Nodes", name := "lengthened", desc := "([II)[I" } : Jvm.MethodName)) ∈ xT := xt_2 (i := 190) (by decide +kernel) rfl
theorem w_431 : (Jvm.Cond.methodLink "DiagramHouse$Trial" (71 : Nat) ({ cls := "DiagramHouse$Trial", name := "start", desc := "(I)V" } : Jvm.MethodName)) ∈ xT := xt_2 (i := 191) (by decide +kernel) rfl
theorem w_433 : (Jvm.Cond.instanceMethod ({ cls := "DiagramHouse$Trial", name := "start", desc := "(I)V" } : Jvm.MethodName)) ∈ xT := xt_2 (i := 193) (by decide +kernel) rfl
theorem w_434 : (Jvm.Cond.code ({ cls := "DiagramHouse$Trial", name := "start", desc := "(I)V" } : Jvm.MethodName) prog_6_method_4_code (2 : Nat) (Option.none : Option Jvm.ClassFile.FieldType)) ∈ xT := xt_2 (i := 194) (by decide +kernel) rfl
theorem w_435 : (Jvm.Cond.methodLink "DiagramHouse$Trial" (58 : Nat) ({ cls := "java/lang/System", name := "arraycopy", desc := "(Ljava/lang/Object;ILjava/lang/Object;II)V" } : Jvm.MethodName)) ∈ xT := xt_2 (i := 195) (by decide +kernel) rfl
theorem w_436 : (Jvm.Cond.methodLink "DiagramHouse$Diagrams" (139 : Nat) ({ cls := "DiagramHouse$Trial", name := "asks", desc := "()I" } : Jvm.MethodName)) ∈ xT := xt_2 (i := 196) (by decide +kernel) rfl
theorem w_437 : (Jvm.Cond.instanceMethod ({ cls := "DiagramHouse$Trial", name := "asks", desc := "()I" } : Jvm.MethodName)) ∈ xT := xt_2 (i := 197) (by decide +kernel) rfl
theorem w_438 : (Jvm.Cond.selects "DiagramHouse$Trial" ({ cls := "DiagramHouse$Trial", name := "asks", desc := "()I" } : Jvm.MethodName) ({ cls := "DiagramHouse$Trial", name := "asks", desc := "()I" } : Jvm.MethodName)) ∈ xT := xt_2 (i := 198) (by decide +kernel) rfl
theorem w_439 : (Jvm.Cond.code ({ cls := "DiagramHouse$Trial", name := "asks", desc := "()I" } : Jvm.MethodName) prog_6_method_2_code (1 : Nat) (Option.some Jvm.ClassFile.FieldType.int)) ∈ xT := xt_2 (i := 199) (by decide +kernel) rfl
theorem w_440 : (Jvm.Cond.methodLink "DiagramHouse$Diagrams" (142 : Nat) ({ cls := "DiagramHouse$Trial", name := "riseAbove", desc := "(I)I" } : Jvm.MethodName)) ∈ xT := xt_2 (i := 200) (by decide +kernel) rfl
theorem w_441 : (Jvm.Cond.instanceMethod ({ cls := "DiagramHouse$Trial", name := "riseAbove", desc := "(I)I" } : Jvm.MethodName)) ∈ xT := xt_2 (i := 201) (by decide +kernel) rfl
theorem w_442 : (Jvm.Cond.selects "DiagramHouse$Trial" ({ cls := "DiagramHouse$Trial", name := "riseAbove", desc := "(I)I" } : Jvm.MethodName) ({ cls := "DiagramHouse$Trial", name := "riseAbove", desc := "(I)I" } : Jvm.MethodName)) ∈ xT := xt_2 (i := 202) (by decide +kernel) rfl
theorem w_443 : (Jvm.Cond.code ({ cls := "DiagramHouse$Trial", name := "riseAbove", desc := "(I)I" } : Jvm.MethodName) prog_6_method_7_code (19 : Nat) (Option.some Jvm.ClassFile.FieldType.int)) ∈ xT := xt_2 (i := 203) (by decide +kernel) rfl
theorem w_444 : (Jvm.Cond.methodLink "DiagramHouse$Trial" (78 : Nat) ({ cls := "DiagramHouse$Nodes", name := "makeRoomFor", desc := "(I)V" } : Jvm.MethodName)) ∈ xT := xt_2 (i := 204) (by decide +kernel) rfl
theorem w_445 : (Jvm.Cond.methodLink "DiagramHouse$Trial" (81 : Nat) ({ cls := "DiagramHouse$Nodes", name := "triedFor", desc := "(III)I" } : Jvm.MethodName)) ∈ xT := xt_2 (i := 205) (by decide +kernel) rfl
theorem w_446 : (Jvm.Cond.instanceMethod ({ cls := "DiagramHouse$Nodes", name := "triedFor", desc := "(III)I" } : Jvm.MethodName)) ∈ xT := xt_2 (i := 206) (by decide +kernel) rfl
theorem w_447 : (Jvm.Cond.selects "DiagramHouse$Nodes" ({ cls := "DiagramHouse$Nodes", name := "triedFor", desc := "(III)I" } : Jvm.MethodName) ({ cls := "DiagramHouse$Nodes", name := "triedFor", desc := "(III)I" } : Jvm.MethodName)) ∈ xT := xt_2 (i := 207) (by decide +kernel) rfl
theorem w_448 : (Jvm.Cond.code ({ cls := "DiagramHouse$Nodes", name := "triedFor", desc := "(III)I" } : Jvm.MethodName) prog_5_method_21_code (8 : Nat) (Option.some Jvm.ClassFile.FieldType.int)) ∈ xT := xt_2 (i := 208) (by decide +kernel) rfl
theorem w_449 : (Jvm.Cond.methodLink "DiagramHouse$Diagrams" (145 : Nat) ({ cls := "DiagramHouse$Trial", name := "end", desc := "()V" } : Jvm.MethodName)) ∈ xT := xt_2 (i := 209) (by decide +kernel) rfl
theorem w_450 : (Jvm.Cond.instanceMethod ({ cls := "DiagramHouse$Trial", name := "end", desc := "()V" } : Jvm.MethodName)) ∈ xT := xt_2 (i := 210) (by decide +kernel) rfl
theorem w_451 : (Jvm.Cond.selects "DiagramHouse$Trial" ({ cls := "DiagramHouse$Trial", name := "end", desc := "()V" } : Jvm.MethodName) ({ cls := "DiagramHouse$Trial", name := "end", desc := "()V" } : Jvm.MethodName)) ∈ xT := xt_2 (i := 211) (by decide +kernel) rfl
theorem w_452 : (Jvm.Cond.code ({ cls := "DiagramHouse$Trial", name := "end", desc := "()V" } : Jvm.MethodName) prog_6_method_5_code (1 : Nat) (Option.none : Option Jvm.ClassFile.FieldType)) ∈ xT := xt_2 (i := 212) (by decide +kernel) rfl
theorem w_453 : (Jvm.Cond.methodLink "DiagramHouse$Trial" (64 : Nat) ({ cls := "DiagramHouse$Nodes", name := "forgetTried", desc := "(I)V" } : Jvm.MethodName)) ∈ xT := xt_2 (i := 213) (by decide +kernel) rfl
theorem w_454 : (Jvm.Cond.instanceMethod ({ cls := "DiagramHouse$Nodes", name := "forgetTried", desc := "(I)V" } : Jvm.MethodName)) ∈ xT := xt_2 (i := 214) (by decide +kernel) rfl
theorem w_455 : (Jvm.Cond.selects "DiagramHouse$Nodes" ({ cls := "DiagramHouse$Nodes", name := "forgetTried", desc := "(I)V" } : Jvm.MethodName) ({ cls := "DiagramHouse$Nodes", name := "forgetTried", desc := "(I)V" } : Jvm.MethodName)) ∈ xT := xt_2 (i := 215) (by decide +kernel) rfl
theorem w_456 : (Jvm.Cond.code ({ cls := "DiagramHouse$Nodes", name := "forgetTried", desc := "(I)V" } : Jvm.MethodName) prog_5_method_22_code (3 : Nat) (Option.none : Option Jvm.ClassFile.FieldType)) ∈ xT := xt_2 (i := 216) (by decide +kernel) rfl
theorem w_457 : (Jvm.Cond.methodLink "DiagramHouse$Diagrams" (133 : Nat) ({ cls := "DiagramHouse$Diagrams", name := "sink", desc := "(II)V" } : Jvm.MethodName)) ∈ xT := xt_2 (i := 217) (by decide +kernel) rfl
theorem w_459 : (Jvm.Cond.instanceMethod ({ cls := "DiagramHouse$Diagrams", name := "sink", desc := "(II)V" } : Jvm.MethodName)) ∈ xT := xt_2 (i := 219) (by decide +kernel) rfl
theorem w_460 : (Jvm.Cond.code ({ cls := "DiagramHouse$Diagrams", name := "sink", desc := "(II)V" } : Jvm.MethodName) prog_2_method_16_code (8 : Nat) (Option.none : Option Jvm.ClassFile.FieldType)) ∈ xT := xt_2 (i := 220) (by decide +kernel) rfl
theorem w_461 : (Jvm.Cond.methodLink "DiagramHouse$Diagrams" (148 : Nat) ({ cls := "DiagramHouse$Trial", name := "startSinking", desc := "(I[II)V" } : Jvm.MethodName)) ∈ xT := xt_2 (i := 221) (by decide +kernel) rfl
theorem w_462 : (Jvm.Cond.instanceMethod ({ cls := "DiagramHouse$Trial", name := "startSinking", desc := "(I[II)V" } : Jvm.MethodName)) ∈ xT := xt_2 (i := 222) (by decide +kernel) rfl
theorem w_463 : (Jvm.Cond.selects "DiagramHouse$Trial" ({ cls := "DiagramHouse$Trial", name := "startSinking", desc := "(I[II)V" } : Jvm.MethodName) ({ cls := "DiagramHouse$Trial", name := "startSinking", desc := "(I[II)V" } : Jvm.MethodName)) ∈ xT := xt_2 (i := 223) (by decide +kernel) rfl
theorem w_464 : (Jvm.Cond.code ({ cls := "DiagramHouse$Trial", name := "startSinking", desc := "(I[II)V" } : Jvm.MethodName) prog_6_method_8_code (7 : Nat) (Option.none : Option Jvm.ClassFile.FieldType)) ∈ xT := xt_2 (i := 224) (by decide +kernel) rfl
theorem w_465 : (Jvm.Cond.methodLink "DiagramHouse$Trial" (85 : Nat) ({ cls := "DiagramHouse$Trial", name := "link", desc := "(III)V" } : Jvm.MethodName)) ∈ xT := xt_2 (i := 225) (by decide +kernel) rfl
theorem w_467 : (Jvm.Cond.instanceMethod ({ cls := "DiagramHouse$Trial", name := "link", desc := "(III)V" } : Jvm.MethodName)) ∈ xT := xt_2 (i := 227) (by decide +kernel) rfl
theorem w_468 : (Jvm.Cond.code ({ cls := "DiagramHouse$Trial", name := "link", desc := "(III)V" } : Jvm.MethodName) prog_6_method_9_code (7 : Nat) (Option.none : Option Jvm.ClassFile.FieldType)) ∈ xT := xt_2 (i := 228) (by decide +kernel) rfl
theorem w_469 : (Jvm.Cond.methodLink "DiagramHouse$Diagrams" (152 : Nat) ({ cls := "DiagramHouse$Trial", name := "sinkBelow", desc := "(II)I" } : Jvm.MethodName)) ∈ xT := xt_2 (i := 229) (by decide +kernel) rfl
theorem w_470 : (Jvm.Cond.instanceMethod ({ cls := "DiagramHouse$Trial", name := "sinkBelow", desc := "(II)I" } : Jvm.MethodName)) ∈ xT := xt_2 (i := 230) (by decide +kernel) rfl
theorem w_471 : (Jvm.Cond.selects "DiagramHouse$Trial" ({ cls := "DiagramHouse$Trial", name := "sinkBelow", desc := "(II)I" } : Jvm.MethodName) ({ cls := "DiagramHouse$Trial", name := "sinkBelow", desc := "(II)I" } : Jvm.MethodName)) ∈ xT := xt_2 (i := 231) (by decide +kernel) rfl
theorem w_472 : (Jvm.Cond.code ({ cls := "DiagramHouse$Trial", name := "sinkBelow", desc := "(II)I" } : Jvm.MethodName) prog_6_method_10_code (13 : Nat) (Option.some Jvm.ClassFile.FieldType.int)) ∈ xT := xt_2 (i := 232) (by decide +kernel) rfl
theorem w_473 : (Jvm.Cond.methodLink "DiagramHouse$Trial" (89 : Nat) ({ cls := "DiagramHouse$Trial", name := "leadOn", desc := "(III)V" } : Jvm.MethodName)) ∈ xT := xt_2 (i := 233) (by decide +kernel) rfl
theorem w_475 : (Jvm.Cond.instanceMethod ({ cls := "DiagramHouse$Trial", name := "leadOn", desc := "(III)V" } : Jvm.MethodName)) ∈ xT := xt_2 (i := 235) (by decide +kernel) rfl
theorem w_476 : (Jvm.Cond.code ({ cls := "DiagramHouse$Trial", name := "leadOn", desc := "(III)V" } : Jvm.MethodName) prog_6_method_11_code (6 : Nat) (Option.none : Option Jvm.ClassFile.FieldType)) ∈ xT := xt_2 (i := 236) (by decide +kernel) rfl
theorem w_477 : (Jvm.Cond.methodLink "DiagramHouse$Diagrams" (98 : Nat) ({ cls := "DiagramHouse$Diagrams", name := "pass", desc := "(III)V" } : Jvm.MethodName)) ∈ xT := xt_2 (i := 237) (by decide +kernel) rfl
theorem w_479 : (Jvm.Cond.instanceMethod ({ cls := "DiagramHouse$Diagrams", name := "pass", desc := "(III)V" } : Jvm.MethodName)) ∈ xT := xt_2 (i := 239) (by decide +kernel) rfl
theorem w_480 : (Jvm.Cond.code ({ cls := "DiagramHouse$Diagrams", name := "pass", desc := "(III)V" } : Jvm.MethodName) prog_2_method_13_code (6 : Nat) (Option.none : Option Jvm.ClassFile.FieldType)) ∈ xT := xt_3 (i := 0) (by decide +kernel) rfl
theorem w_481 : (Jvm.Cond.methodLink "DiagramHouse$Diagrams" (121 : Nat) ({ cls := "DiagramHouse$Nodes", name := "change", desc := "(II)V" } : Jvm.MethodName)) ∈ xT := xt_3 (i := 1) (by decide +kernel) rfl
theorem w_482 : (Jvm.Cond.instanceMethod ({ cls := "DiagramHouse$Nodes", name := "change", desc := "(II)V" } : Jvm.MethodName)) ∈ xT := xt_3 (i := 2) (by decide +kernel) rfl
theorem w_483 : (Jvm.Cond.selects "DiagramHouse$Nodes" ({ cls := "DiagramHouse$Nodes", name := "change", desc := "(II)V" } : Jvm.MethodName) ({ cls := "DiagramHouse$Nodes", name := "change", desc := "(II)V" } : Jvm.MethodName)) ∈ xT := xt_3 (i := 3) (by decide +kernel) rfl
theorem w_484 : (Jvm.Cond.code ({ cls := "DiagramHouse$Nodes", name := "change", desc := "(II)V" } : Jvm.MethodName) prog_5_method_18_code (6 : Nat) (Option.none : Option Jvm.ClassFile.FieldType)) ∈ xT := xt_3 (i := 4) (by decide +kernel) rfl
theorem w_485 : (Jvm.Cond.methodLink "DiagramHouse$Nodes" (97 : Nat) ({ cls := "DiagramHouse$Nodes", name := "makeRoomFor", desc := "(I)V" } : Jvm.MethodName)) ∈ xT := xt_3 (i := 5) (by decide +kernel) rfl
theorem w_486 : (Jvm.Cond.methodLink "DiagramHouse$Nodes" (100 : Nat) ({ cls := "DiagramHouse$Nodes", name := "takeThoseBefore", desc := "(II)I" } : Jvm.MethodName)) ∈ xT := xt_3 (i := 6) (by decide +kernel) rfl
theorem w_488 : (Jvm.Cond.instanceMethod ({ cls := "DiagramHouse$Nodes", name := "takeThoseBefore", desc := "(II)I" } : Jvm.MethodName)) ∈ xT := xt_3 (i := 8) (by decide +kernel) rfl
theorem w_489 : (Jvm.Cond.code ({ cls := "DiagramHouse$Nodes", name := "takeThoseBefore", desc := "(II)I" } : Jvm.MethodName) prog_5_method_19_code (11 : Nat) (Option.some Jvm.ClassFile.FieldType.int)) ∈ xT := xt_3 (i := 9) (by decide +kernel) rfl
theorem w_490 : (Jvm.Cond.methodLink "DiagramHouse$Nodes" (103 : Nat) ({ cls := "DiagramHouse$Nodes", name := "turn", desc := "(III)V" } : Jvm.MethodName)) ∈ xT := xt_3 (i := 10) (by decide +kernel) rfl
theorem w_492 : (Jvm.Cond.instanceMethod ({ cls := "DiagramHouse$Nodes", name := "turn", desc := "(III)V" } : Jvm.MethodName)) ∈ xT := xt_3 (i := 12) (by decide +kernel) rfl
theorem w_493 : (Jvm.Cond.code ({ cls := "DiagramHouse$Nodes", name := "turn", desc := "(III)V" } : Jvm.MethodName) prog_5_method_20_code (12 : Nat) (Option.none : Option Jvm.ClassFile.FieldType)) ∈ xT := xt_3 (i := 13) (by decide +kernel) rfl
theorem w_494 : (Jvm.Cond.methodLink "DiagramHouse$Nodes" (107 : Nat) ({ cls := "DiagramHouse$Nodes", name := "nodeFor", desc := "(III)I" } : Jvm.MethodName)) ∈ xT := xt_3 (i := 14) (by decide +kernel) rfl
theorem w_495 : (Jvm.Cond.methodLink "DiagramHouse$Diagrams" (102 : Nat) ({ cls := "DiagramHouse$Diagrams", name := "putIn", desc := "(II)V" } : Jvm.MethodName)) ∈ xT := xt_3 (i := 15) (by decide +kernel) rfl
theorem w_497 : (Jvm.Cond.instanceMethod ({ cls := "DiagramHouse$Diagrams", name := "putIn", desc := "(II)V" } : Jvm.MethodName)) ∈ xT := xt_3 (i := 17) (by decide +kernel) rfl
theorem w_498 : (Jvm.Cond.code ({ cls := "DiagramHouse$Diagrams", name := "putIn", desc := "(II)V" } : Jvm.MethodName) prog_2_method_11_code (3 : Nat) (Option.none : Option Jvm.ClassFile.FieldType)) ∈ xT := xt_3 (i := 18) (by decide +kernel) rfl
theorem w_499 : (Jvm.Cond.methodLink "DiagramHouse" (90 : Nat) ({ cls := "DiagramHouse$Diagrams", name := "settleUnused", desc := "()V" } : Jvm.MethodName)) ∈ xT := xt_3 (i := 19) (by decide +kernel) rfl
theorem w_500 : (Jvm.Cond.instanceMethod ({ cls := "DiagramHouse$Diagrams", name := "settleUnused", desc := "()V" } : Jvm.MethodName)) ∈ xT := xt_3 (i := 20) (by decide +kernel) rfl
theorem w_501 : (Jvm.Cond.selects "DiagramHouse$Diagrams" ({ cls := "DiagramHouse$Diagrams", name := "settleUnused", desc := "()V" } : Jvm.MethodName) ({ cls := "DiagramHouse$Diagrams", name := "settleUnused", desc := "()V" } : Jvm.MethodName)) ∈ xT := xt_3 (i := 21) (by decide +kernel) rfl
theorem w_502 : (Jvm.Cond.code ({ cls := "DiagramHouse$Diagrams", name := "settleUnused", desc := "()V" } : Jvm.MethodName) prog_2_method_19_code (3 : Nat) (Option.none : Option Jvm.ClassFile.FieldType)) ∈ xT := xt_3 (i := 22) (by decide +kernel) rfl
theorem w_503 : (Jvm.Cond.methodLink "DiagramHouse" (76 : Nat) ({ cls := "DiagramHouse$Diagrams", name := "wholeSize", desc := "()I" } : Jvm.MethodName)) ∈ xT := xt_3 (i := 23) (by decide +kernel) rfl
theorem w_504 : (Jvm.Cond.instanceMethod ({ cls := "DiagramHouse$Diagrams", name := "wholeSize", desc := "()I" } : Jvm.MethodName)) ∈ xT := xt_3 (i := 24) (by decide +kernel) rfl
theorem w_505 : (Jvm.Cond.selects "DiagramHouse$Diagrams" ({ cls := "DiagramHouse$Diagrams", name := "wholeSize", desc := "()I" } : Jvm.MethodName) ({ cls := "DiagramHouse$Diagrams", name := "wholeSize", desc := "()I" } : Jvm.MethodName)) ∈ xT := xt_3 (i := 25) (by decide +kernel) rfl
theorem w_506 : (Jvm.Cond.code ({ cls := "DiagramHouse$Diagrams", name := "wholeSize", desc := "()I" } : Jvm.MethodName) prog_2_method_7_code (1 : Nat) (Option.some Jvm.ClassFile.FieldType.int)) ∈ xT := xt_3 (i := 26) (by decide +kernel) rfl
theorem w_507 : (Jvm.Cond.methodLink "DiagramHouseLaw" (81 : Nat) ({ cls := "DiagramHouseLaw", name := "constant", desc := "(LDiagramHouse;II)I" } : Jvm.MethodName)) ∈ xT := xt_3 (i := 27) (by decide +kernel) rfl
theorem w_508 : (Jvm.Cond.static ({ cls := "DiagramHouseLaw", name := "constant", desc := "(LDiagramHouse;II)I" } : Jvm.MethodName)) ∈ xT := xt_3 (i := 28) (by decide +kernel) rfl
theorem w_509 : (Jvm.Cond.codeWith ({ cls := "DiagramHouseLaw", name := "constant", desc := "(LDiagramHouse;II)I" } : Jvm.MethodName) method_3_code (4 : Nat) (Option.some Jvm.ClassFile.FieldType.int) [((0 : Nat), (6 : Nat), (9 : Nat), (13 : Nat)), ((0 : Nat), (6 : Nat), (12 : Nat), (15 : Nat))]) ∈ xT := xt_3 (i := 29) (by decide +kernel) rfl
theorem w_510 : (Jvm.Cond.classLink "DiagramHouseLaw" (13 : Nat) "java/lang/IndexOutOfBoundsException") ∈ xT := xt_3 (i := 30) (by decide +kernel) rfl
theorem w_511 : (Jvm.Cond.classLink "DiagramHouseLaw" (15 : Nat) "java/lang/IllegalArgumentException") ∈ xT := xt_3 (i := 31) (by decide +kernel) rfl
theorem w_512 : (Jvm.Cond.methodLink "DiagramHouseLaw" (7 : Nat) ({ cls := "DiagramHouse", name := "constant", desc := "(II)V" } : Jvm.MethodName)) ∈ xT := xt_3 (i := 32) (by decide +kernel) rfl
theorem w_513 : (Jvm.Cond.instanceMethod ({ cls := "DiagramHouse", name := "constant", desc := "(II)V" } : Jvm.MethodName)) ∈ xT := xt_3 (i := 33) (by decide +kernel) rfl
theorem w_514 : (Jvm.Cond.selects "DiagramHouse" ({ cls := "DiagramHouse", name := "constant", desc := "(II)V" } : Jvm.MethodName) ({ cls := "DiagramHouse", name := "constant", desc := "(II)V" } : Jvm.MethodName)) ∈ xT := xt_3 (i := 34) (by decide +kernel) rfl
theorem w_515 : (Jvm.Cond.code ({ cls := "DiagramHouse", name := "constant", desc := "(II)V" } : Jvm.MethodName) prog_1_method_2_code (3 : Nat) (Option.none : Option Jvm.ClassFile.FieldType)) ∈ xT := xt_3 (i := 35) (by decide +kernel) rfl
theorem w_516 : (Jvm.Cond.methodLink "DiagramHouse" (25 : Nat) ({ cls := "DiagramHouse", name := "needPlace", desc := "(I)V" } : Jvm.MethodName)) ∈ xT := xt_3 (i := 36) (by decide +kernel) rfl
theorem w_517 : (Jvm.Cond.static ({ cls := "DiagramHouse", name := "needPlace", desc := "(I)V" } : Jvm.MethodName)) ∈ xT := xt_3 (i := 37) (by decide +kernel) rfl
theorem w_518 : (Jvm.Cond.code ({ cls := "DiagramHouse", name := "needPlace", desc := "(I)V" } : Jvm.MethodName) prog_1_method_22_code (1 : Nat) (Option.none : Option Jvm.ClassFile.FieldType)) ∈ xT := xt_3 (i := 38) (by decide +kernel) rfl
theorem w_519 : (Jvm.Cond.classLink "DiagramHouse" (93 : Nat) "java/lang/IndexOutOfBoundsException") ∈ xT := xt_3 (i := 39) (by decide +kernel) rfl
theorem w_520 : (Jvm.Cond.instantiable "java/lang/IndexOutOfBoundsException" (6 : Nat)) ∈ xT := xt_3 (i := 40) (by decide +kernel) rfl
theorem w_528 : (Jvm.Cond.selects "java/lang/IndexOutOfBoundsException" ({ cls := "java/lang/Throwable", name := "fillInStackTrace", desc := "(I)Ljava/lang/Throwable;" } : Jvm.MethodName) ({ cls := "java/lang/Throwable", name := "fillInStackTrace", desc := "(I)Ljava/lang/Throwable;" } : Jvm.MethodName)) ∈ xT := xt_3 (i := 48) (by decide +kernel) rfl
theorem w_529 : (Jvm.Cond.selects "java/lang/IndexOutOfBoundsException" ({ cls := "java/lang/Throwable", name := "fillInStackTrace", desc := "()Ljava/lang/Throwable;" } : Jvm.MethodName) ({ cls := "java/lang/Throwable", name := "fillInStackTrace", desc := "()Ljava/lang/Throwable;" } : Jvm.MethodName)) ∈ xT := xt_3 (i := 49) (by decide +kernel) rfl
theorem w_530 : (Jvm.Cond.lays "java/lang/IndexOutOfBoundsException" "java/lang/Throwable" "cause" "Ljava/lang/Throwable;") ∈ xT := xt_3 (i := 50) (by decide +kernel) rfl
theorem w_531 : (Jvm.Cond.lays "java/lang/Throwable" "java/lang/Throwable" "cause" "Ljava/lang/Throwable;") ∈ xT := xt_3 (i := 51) (by decide +kernel) rfl
theorem w_532 : (Jvm.Cond.lays "java/lang/IndexOutOfBoundsException" "java/lang/Throwable" "stackTrace" "[Ljava/lang/StackTraceElement;") ∈ xT := xt_3 (i := 52) (by decide +kernel) rfl
theorem w_533 : (Jvm.Cond.lays "java/lang/Throwable" "java/lang/Throwable" "stackTrace" "[Ljava/lang/StackTraceElement;") ∈ xT := xt_3 (i := 53) (by decide +kernel) rfl
theorem w_534 : (Jvm.Cond.lays "java/lang/IndexOutOfBoundsException" "java/lang/Throwable" "suppressedExceptions" "Ljava/util/List;") ∈ xT := xt_3 (i := 54) (by decide +kernel) rfl
theorem w_535 : (Jvm.Cond.lays "java/lang/Throwable" "java/lang/Throwable" "suppressedExceptions" "Ljava/util/List;") ∈ xT := xt_3 (i := 55) (by decide +kernel) rfl
theorem w_536 : (Jvm.Cond.lays "java/lang/IndexOutOfBoundsException" "java/lang/Throwable" "detailMessage" "Ljava/lang/String;") ∈ xT := xt_3 (i := 56) (by decide +kernel) rfl
theorem w_537 : (Jvm.Cond.lays "java/lang/Throwable" "java/lang/Throwable" "detailMessage" "Ljava/lang/String;") ∈ xT := xt_3 (i := 57) (by decide +kernel) rfl
theorem w_538 : (Jvm.Cond.lays "java/lang/IndexOutOfBoundsException" "java/lang/Throwable" "backtrace" "Ljava/lang/Object;") ∈ xT := xt_3 (i := 58) (by decide +kernel) rfl
theorem w_539 : (Jvm.Cond.lays "java/lang/Throwable" "java/lang/Throwable" "backtrace" "Ljava/lang/Object;") ∈ xT := xt_3 (i := 59) (by decide +kernel) rfl
theorem w_540 : (Jvm.Cond.fieldLink "java/lang/Throwable" (198 : Nat) "java/lang/Throwable" "backtrace" "Ljava/lang/Object;") ∈ xT := xt_3 (i := 60) (by decide +kernel) rfl
theorem w_541 : (Jvm.Cond.superclass "java/lang/Throwable" "java/lang/Object") ∈ xT := xt_3 (i := 61) (by decide +kernel) rfl
theorem w_542 : (Jvm.Cond.instanceMethod ({ cls := "java/lang/Throwable", name := "<init>", desc := "()V" } : Jvm.MethodName)) ∈ xT := xt_3 (i := 62) (by decide +kernel) rfl
theorem w_543 : (Jvm.Cond.code ({ cls := "java/lang/Throwable", name := "<init>", desc := "()V" } : Jvm.MethodName) prog_18_method_1_code (1 : Nat) (Option.none : Option Jvm.ClassFile.FieldType)) ∈ xT := xt_3 (i := 63) (by decide +kernel) rfl
theorem w_544 : (Jvm.Cond.methodLink "java/lang/Throwable" (1 : Nat) ({ cls := "java/lang/Object", name := "<init>", desc := "()V" } : Jvm.MethodName)) ∈ xT := xt_3 (i := 64) (by decide +kernel) rfl
theorem w_545 : (Jvm.Cond.fieldLink "java/lang/Throwable" (13 : Nat) "java/lang/Throwable" "UNASSIGNED_STACK" "[Ljava/lang/StackTraceElement;") ∈ xT := xt_3 (i := 65) (by decide +kernel) rfl
theorem w_547 : (Jvm.Cond.fieldLink "java/lang/Throwable" (20 : Nat) "java/lang/Throwable" "SUPPRESSED_SENTINEL" "Ljava/util/List;") ∈ xT := xt_3 (i := 67) (by decide +kernel) rfl
theorem w_549 : (Jvm.Cond.methodLink "java/lang/Throwable" (27 : Nat) ({ cls := "java/lang/Throwable", name := "fillInStackTrace", desc := "()Ljava/lang/Throwable;" } : Jvm.MethodName)) ∈ xT := xt_3 (i := 69) (by decide +kernel) rfl
theorem w_550 : (Jvm.Cond.instanceMethod ({ cls := "java/lang/Throwable", name := "fillInStackTrace", desc := "()Ljava/lang/Throwable;" } : Jvm.MethodName)) ∈ xT := xt_3 (i := 70) (by decide +kernel) rfl
theorem w_551 : (Jvm.Cond.sameMethod "java/lang/Throwable" "java/lang/Throwable" "fillInStackTrace" "()Ljava/lang/Throwable;") ∈ xT := xt_3 (i := 71) (by decide +kernel) rfl
theorem w_552 : (Jvm.Cond.selects "java/lang/IllegalArgumentException" ({ cls := "java/lang/Throwable", name := "fillInStackTrace", desc := "()Ljava/lang/Throwable;" } : Jvm.MethodName) ({ cls := "java/lang/Throwable", name := "fillInStackTrace", desc := "()Ljava/lang/Throwable;" } : Jvm.MethodName)) ∈ xT := xt_3 (i := 72) (by decide +kernel) rfl
theorem w_553 : (Jvm.Cond.codeSync ({ cls := "java/lang/Throwable", name := "fillInStackTrace", desc := "()Ljava/lang/Throwable;" } : Jvm.MethodName) prog_18_method_18_code (1 : Nat) (Option.some (Jvm.ClassFile.FieldType.object "java/lang/Throwable"))) ∈ xT := xt_3 (i := 73) (by decide +kernel) rfl
theorem w_554 : (Jvm.Cond.methodLink "java/lang/Throwable" (202 : Nat) ({ cls := "java/lang/Throwable", name := "fillInStackTrace", desc := "(I)Ljava/lang/Throwable;" } : Jvm.MethodName)) ∈ xT := xt_3 (i := 74) (by decide +kernel) rfl
theorem w_556 : (Jvm.Cond.instanceMethod ({ cls := "java/lang/Throwable", name := "fillInStackTrace", desc := "(I)Ljava/lang/Throwable;" } : Jvm.MethodName)) ∈ xT := xt_3 (i := 76) (by decide +kernel) rfl
theorem w_557 : (Jvm.Cond.instantiable "java/lang/Throwable" (6 : Nat)) ∈ xT := xt_3 (i := 77) (by decide +kernel) rfl
theorem w_558 : (Jvm.Cond.native ({ cls := "java/lang/Throwable", name := "fillInStackTrace", desc := "(I)Ljava/lang/Throwable;" } : Jvm.MethodName)) ∈ xT := xt_3 (i := 78) (by decide +kernel) rfl
theorem w_560 : (Jvm.Cond.methodLink "DiagramHouse" (97 : Nat) ({ cls := "java/lang/IndexOutOfBoundsException", name := "<init>", desc := "(Ljava/lang/String;)V" } : Jvm.MethodName)) ∈ xT := xt_3 (i := 80) (by decide +kernel) rfl
theorem w_561 : (Jvm.Cond.instanceMethod ({ cls := "java/lang/IndexOutOfBoundsException", name := "<init>", desc := "(Ljava/lang/String;)V" } : Jvm.MethodName)) ∈ xT := xt_3 (i := 81) (by decide +kernel) rfl
theorem w_562 : (Jvm.Cond.code ({ cls := "java/lang/IndexOutOfBoundsException", name := "<init>", desc := "(Ljava/lang/String;)V" } : Jvm.MethodName) prog_11_method_2_code (2 : Nat) (Option.none : Option Jvm.ClassFile.FieldType)) ∈ xT := xt_3 (i := 82) (by decide +kernel) rfl
theorem w_563 : (Jvm.Cond.methodLink "java/lang/IndexOutOfBoundsException" (7 : Nat) ({ cls := "java/lang/RuntimeException", name := "<init>", desc := "(Ljava/lang/String;)V" } : Jvm.MethodName)) ∈ xT := xt_3 (i := 83) (by decide +kernel) rfl
theorem w_564 : (Jvm.Cond.instanceMethod ({ cls := "java/lang/RuntimeException", name := "<init>", desc := "(Ljava/lang/String;)V" } : Jvm.MethodName)) ∈ xT := xt_3 (i := 84) (by decide +kernel) rfl
theorem w_565 : (Jvm.Cond.code ({ cls := "java/lang/RuntimeException", name := "<init>", desc := "(Ljava/lang/String;)V" } : Jvm.MethodName) prog_15_method_2_code (2 : Nat) (Option.none : Option Jvm.ClassFile.FieldType)) ∈ xT := xt_3 (i := 85) (by decide +kernel) rfl
theorem w_566 : (Jvm.Cond.methodLink "java/lang/RuntimeException" (7 : Nat) ({ cls := "java/lang/Exception", name := "<init>", desc := "(Ljava/lang/String;)V" } : Jvm.MethodName)) ∈ xT := xt_3 (i := 86) (by decide +kernel) rfl
theorem w_567 : (Jvm.Cond.instanceMethod ({ cls := "java/lang/Exception", name := "<init>", desc := "(Ljava/lang/String;)V" } : Jvm.MethodName)) ∈ xT := xt_3 (i := 87) (by decide +kernel) rfl
theorem w_568 : (Jvm.Cond.code ({ cls := "java/lang/Exception", name := "<init>", desc := "(Ljava/lang/String;)V" } : Jvm.MethodName) prog_9_method_2_code (2 : Nat) (Option.none : Option Jvm.ClassFile.FieldType)) ∈ xT := xt_3 (i := 88) (by decide +kernel) rfl
theorem w_569 : (Jvm.Cond.methodLink "java/lang/Exception" (7 : Nat) ({ cls := "java/lang/Throwable", name := "<init>", desc := "(Ljava/lang/String;)V" } : Jvm.MethodName)) ∈ xT := xt_3 (i := 89) (by decide +kernel) rfl
theorem w_570 : (Jvm.Cond.instanceMethod ({ cls := "java/lang/Throwable", name := "<init>", desc := "(Ljava/lang/String;)V" } : Jvm.MethodName)) ∈ xT := xt_3 (i := 90) (by decide +kernel) rfl
theorem w_571 : (Jvm.Cond.code ({ cls := "java/lang/Throwable", name := "<init>", desc := "(Ljava/lang/String;)V" } : Jvm.MethodName) prog_18_method_2_code (2 : Nat) (Option.none : Option Jvm.ClassFile.FieldType)) ∈ xT := xt_3 (i := 91) (by decide +kernel) rfl
theorem w_572 : (Jvm.Cond.fieldLink "java/lang/Throwable" (198 : Nat) "java/lang/Throwable" "backtrace" "Ljava/lang/Object;") ∈ xT := xt_3 (i := 92) (by decide +kernel) rfl
theorem w_573 : (Jvm.Cond.fieldLink "java/lang/Throwable" (31 : Nat) "java/lang/Throwable" "detailMessage" "Ljava/lang/String;") ∈ xT := xt_3 (i := 93) (by decide +kernel) rfl
theorem w_574 : (Jvm.Cond.fieldLink "java/lang/Throwable" (7 : Nat) "java/lang/Throwable" "cause" "Ljava/lang/Throwable;") ∈ xT := xt_3 (i := 94) (by decide +kernel) rfl
theorem w_575 : (Jvm.Cond.fieldLink "java/lang/Throwable" (17 : Nat) "java/lang/Throwable" "stackTrace" "[Ljava/lang/StackTraceElement;") ∈ xT := xt_3 (i := 95) (by decide +kernel) rfl
theorem w_576 : (Jvm.Cond.fieldLink "java/lang/Throwable" (24 : Nat) "java/lang/Throwable" "suppressedExceptions" "Ljava/util/List;") ∈ xT := xt_3 (i := 96) (by decide +kernel) rfl
theorem w_577 : (Jvm.Cond.soleField "java/lang/Throwable" "backtrace") ∈ xT := xt_3 (i := 97) (by decide +kernel) rfl
theorem w_578 : (Jvm.Cond.soleField "java/lang/Throwable" "detailMessage") ∈ xT := xt_3 (i := 98) (by decide +kernel) rfl
theorem w_579 : (Jvm.Cond.soleField "java/lang/Throwable" "cause") ∈ xT := xt_3 (i := 99) (by decide +kernel) rfl
theorem w_580 : (Jvm.Cond.soleField "java/lang/Throwable" "stackTrace") ∈ xT := xt_3 (i := 100) (by decide +kernel) rfl
theorem w_581 : (Jvm.Cond.lays "java/lang/IndexOutOfBoundsException" "java/lang/Throwable" "depth" "I") ∈ xT := xt_3 (i := 101) (by decide +kernel) rfl
theorem w_582 : (Jvm.Cond.soleField "java/lang/Throwable" "depth") ∈ xT := xt_3 (i := 102) (by decide +kernel) rfl
theorem w_583 : (Jvm.Cond.soleField "java/lang/Throwable" "suppressedExceptions") ∈ xT := xt_3 (i := 103) (by decide +kernel) rfl
theorem w_584 : (Jvm.Cond.superclass "java/lang/IndexOutOfBoundsException" "java/lang/RuntimeException") ∈ xT := xt_3 (i := 104) (by decide +kernel) rfl
theorem w_585 : (Jvm.Cond.arrayClass Jvm.ClassFile.FieldType.byte) ∈ xT := xt_3 (i := 105) (by decide +kernel) rfl
theorem w_586 : (Jvm.Cond.methodLink "DiagramHouse" (29 : Nat) ({ cls := "DiagramHouse", name := "needTruth", desc := "(I)V" } : Jvm.MethodName)) ∈ xT := xt_3 (i := 106) (by decide +kernel) rfl
theorem w_587 : (Jvm.Cond.static ({ cls := "DiagramHouse", name := "needTruth", desc := "(I)V" } : Jvm.MethodName)) ∈ xT := xt_3 (i := 107) (by decide +kernel) rfl
theorem w_588 : (Jvm.Cond.code ({ cls := "DiagramHouse", name := "needTruth", desc := "(I)V" } : Jvm.MethodName) prog_1_method_25_code (1 : Nat) (Option.none : Option Jvm.ClassFile.FieldType)) ∈ xT := xt_3 (i := 108) (by decide +kernel) rfl
theorem w_589 : (Jvm.Cond.classLink "DiagramHouse" (134 : Nat) "java/lang/IllegalArgumentException") ∈ xT := xt_3 (i := 109) (by decide +kernel) rfl
theorem w_590 : (Jvm.Cond.instantiable "java/lang/IllegalArgumentException" (6 : Nat)) ∈ xT := xt_3 (i := 110) (by decide +kernel) rfl
theorem w_592 : (Jvm.Cond.selects "java/lang/IllegalArgumentException" ({ cls := "java/lang/Throwable", name := "fillInStackTrace", desc := "(I)Ljava/lang/Throwable;" } : Jvm.MethodName) ({ cls := "java/lang/Throwable", name := "fillInStackTrace", desc := "(I)Ljava/lang/Throwable;" } : Jvm.MethodName)) ∈ xT := xt_3 (i := 112) (by decide +kernel) rfl
theorem w_593 : (Jvm.Cond.lays "java/lang/IllegalArgumentException" "java/lang/Throwable" "cause" "Ljava/lang/Throwable;") ∈ xT := xt_3 (i := 113) (by decide +kernel) rfl
theorem w_594 : (Jvm.Cond.lays "java/lang/IllegalArgumentException" "java/lang/Throwable" "stackTrace" "[Ljava/lang/StackTraceElement;") ∈ xT := xt_3 (i := 114) (by decide +kernel) rfl
theorem w_595 : (Jvm.Cond.lays "java/lang/IllegalArgumentException" "java/lang/Throwable" "suppressedExceptions" "Ljava/util/List;") ∈ xT := xt_3 (i := 115) (by decide +kernel) rfl
theorem w_596 : (Jvm.Cond.lays "java/lang/IllegalArgumentException" "java/lang/Throwable" "detailMessage" "Ljava/lang/String;") ∈ xT := xt_3 (i := 116) (by decide +kernel) rfl
theorem w_597 : (Jvm.Cond.lays "java/lang/IllegalArgumentException" "java/lang/Throwable" "backtrace" "Ljava/lang/Object;") ∈ xT := xt_3 (i := 117) (by decide +kernel) rfl
theorem w_599 : (Jvm.Cond.methodLink "DiagramHouse" (138 : Nat) ({ cls := "java/lang/IllegalArgumentException", name := "<init>", desc := "(Ljava/lang/String;)V" } : Jvm.MethodName)) ∈ xT := xt_3 (i := 119) (by decide +kernel) rfl
theorem w_600 : (Jvm.Cond.instanceMethod ({ cls := "java/lang/IllegalArgumentException", name := "<init>", desc := "(Ljava/lang/String;)V" } : Jvm.MethodName)) ∈ xT := xt_3 (i := 120) (by decide +kernel) rfl
theorem w_601 : (Jvm.Cond.code ({ cls := "java/lang/IllegalArgumentException", name := "<init>", desc := "(Ljava/lang/String;)V" } : Jvm.MethodName) prog_10_method_2_code (2 : Nat) (Option.none : Option Jvm.ClassFile.FieldType)) ∈ xT := xt_3 (i := 121) (by decide +kernel) rfl
theorem w_602 : (Jvm.Cond.methodLink "java/lang/IllegalArgumentException" (7 : Nat) ({ cls := "java/lang/RuntimeException", name := "<init>", desc := "(Ljava/lang/String;)V" } : Jvm.MethodName)) ∈ xT := xt_3 (i := 122) (by decide +kernel) rfl
theorem w_603 : (Jvm.Cond.lays "java/lang/IllegalArgumentException" "java/lang/Throwable" "depth" "I") ∈ xT := xt_3 (i := 123) (by decide +kernel) rfl
theorem w_604 : (Jvm.Cond.superclass "java/lang/IllegalArgumentException" "java/lang/RuntimeException") ∈ xT := xt_3 (i := 124) (by decide +kernel) rfl
theorem w_605 : (Jvm.Cond.methodLink "DiagramHouse" (32 : Nat) ({ cls := "DiagramHouse$Functions", name := "setAll", desc := "(II)V" } : Jvm.MethodName)) ∈ xT := xt_3 (i := 125) (by decide +kernel) rfl
theorem w_606 : (Jvm.Cond.instanceMethod ({ cls := "DiagramHouse$Functions", name := "setAll", desc := "(II)V" } : Jvm.MethodName)) ∈ xT := xt_3 (i := 126) (by decide +kernel) rfl
theorem w_607 : (Jvm.Cond.selects "DiagramHouse$Functions" ({ cls := "DiagramHouse$Functions", name := "setAll", desc := "(II)V" } : Jvm.MethodName) ({ cls := "DiagramHouse$Functions", name := "setAll", desc := "(II)V" } : Jvm.MethodName)) ∈ xT := xt_3 (i := 127) (by decide +kernel) rfl
theorem w_608 : (Jvm.Cond.code ({ cls := "DiagramHouse$Functions", name := "setAll", desc := "(II)V" } : Jvm.MethodName) prog_4_method_8_code (3 : Nat) (Option.none : Option Jvm.ClassFile.FieldType)) ∈ xT := xt_3 (i := 128) (by decide +kernel) rfl
theorem w_609 : (Jvm.Cond.methodLink "DiagramHouse" (36 : Nat) ({ cls := "DiagramHouse$Diagrams", name := "functionChanged", desc := "(I)V" } : Jvm.MethodName)) ∈ xT := xt_3 (i := 129) (by decide +kernel) rfl
theorem w_610 : (Jvm.Cond.instanceMethod ({ cls := "DiagramHouse$Diagrams", name := "functionChanged", desc := "(I)V" } : Jvm.MethodName)) ∈ xT := xt_3 (i := 130) (by decide +kernel) rfl
theorem w_611 : (Jvm.Cond.selects "DiagramHouse$Diagrams" ({ cls := "DiagramHouse$Diagrams", name := "functionChanged", desc := "(I)V" } : Jvm.MethodName) ({ cls := "DiagramHouse$Diagrams", name := "functionChanged", desc := "(I)V" } : Jvm.MethodName)) ∈ xT := xt_3 (i := 131) (by decide +kernel) rfl
theorem w_612 : (Jvm.Cond.code ({ cls := "DiagramHouse$Diagrams", name := "functionChanged", desc := "(I)V" } : Jvm.MethodName) prog_2_method_2_code (2 : Nat) (Option.none : Option Jvm.ClassFile.FieldType)) ∈ xT := xt_3 (i := 132) (by decide +kernel) rfl
theorem w_613 : (Jvm.Cond.methodLink "DiagramHouseLaw" (91 : Nat) ({ cls := "DiagramHouseLaw", name := "input", desc := "(LDiagramHouse;II)I" } : Jvm.MethodName)) ∈ xT := xt_3 (i := 133) (by decide +kernel) rfl
theorem w_614 : (Jvm.Cond.static ({ cls := "DiagramHouseLaw", name := "input", desc := "(LDiagramHouse;II)I" } : Jvm.MethodName)) ∈ xT := xt_3 (i := 134) (by decide +kernel) rfl
theorem w_615 : (Jvm.Cond.codeWith ({ cls := "DiagramHouseLaw", name := "input", desc := "(LDiagramHouse;II)I" } : Jvm.MethodName) method_4_code (4 : Nat) (Option.some Jvm.ClassFile.FieldType.int) [((0 : Nat), (6 : Nat), (9 : Nat), (13 : Nat)), ((0 : Nat), (6 : Nat), (12 : Nat), (15 : Nat))]) ∈ xT := xt_3 (i := 135) (by decide +kernel) rfl
theorem w_616 : (Jvm.Cond.methodLink "DiagramHouseLaw" (17 : Nat) ({ cls := "DiagramHouse", name := "input", desc := "(II)V" } : Jvm.MethodName)) ∈ xT := xt_3 (i := 136) (by decide +kernel) rfl
theorem w_617 : (Jvm.Cond.instanceMethod ({ cls := "DiagramHouse", name := "input", desc := "(II)V" } : Jvm.MethodName)) ∈ xT := xt_3 (i := 137) (by decide +kernel) rfl
theorem w_618 : (Jvm.Cond.selects "DiagramHouse" ({ cls := "DiagramHouse", name := "input", desc := "(II)V" } : Jvm.MethodName) ({ cls := "DiagramHouse", name := "input", desc := "(II)V" } : Jvm.MethodName)) ∈ xT := xt_3 (i := 138) (by decide +kernel) rfl
theorem w_619 : (Jvm.Cond.code ({ cls := "DiagramHouse", name := "input", desc := "(II)V" } : Jvm.MethodName) prog_1_method_3_code (3 : Nat) (Option.none : Option Jvm.ClassFile.FieldType)) ∈ xT := xt_3 (i := 139) (by decide +kernel) rfl
theorem w_620 : (Jvm.Cond.methodLink "DiagramHouse" (39 : Nat) ({ cls := "DiagramHouse", name := "needInput", desc := "(I)V" } : Jvm.MethodName)) ∈ xT := xt_3 (i := 140) (by decide +kernel) rfl
theorem w_621 : (Jvm.Cond.static ({ cls := "DiagramHouse", name := "needInput", desc := "(I)V" } : Jvm.MethodName)) ∈ xT := xt_3 (i := 141) (by decide +kernel) rfl
theorem w_622 : (Jvm.Cond.code ({ cls := "DiagramHouse", name := "needInput", desc := "(I)V" } : Jvm.MethodName) prog_1_method_24_code (1 : Nat) (Option.none : Option Jvm.ClassFile.FieldType)) ∈ xT := xt_3 (i := 142) (by decide +kernel) rfl
theorem w_624 : (Jvm.Cond.methodLink "DiagramHouse" (42 : Nat) ({ cls := "DiagramHouse$Functions", name := "setInput", desc := "(II)V" } : Jvm.MethodName)) ∈ xT := xt_3 (i := 144) (by decide +kernel) rfl
theorem w_625 : (Jvm.Cond.instanceMethod ({ cls := "DiagramHouse$Functions", name := "setInput", desc := "(II)V" } : Jvm.MethodName)) ∈ xT := xt_3 (i := 145) (by decide +kernel) rfl
theorem w_626 : (Jvm.Cond.selects "DiagramHouse$Functions" ({ cls := "DiagramHouse$Functions", name := "setInput", desc := "(II)V" } : Jvm.MethodName) ({ cls := "DiagramHouse$Functions", name := "setInput", desc := "(II)V" } : Jvm.MethodName)) ∈ xT := xt_3 (i := 146) (by decide +kernel) rfl
theorem w_627 : (Jvm.Cond.code ({ cls := "DiagramHouse$Functions", name := "setInput", desc := "(II)V" } : Jvm.MethodName) prog_4_method_9_code (4 : Nat) (Option.none : Option Jvm.ClassFile.FieldType)) ∈ xT := xt_3 (i := 147) (by decide +kernel) rfl
theorem w_628 : (Jvm.Cond.methodLink "DiagramHouseLaw" (94 : Nat) ({ cls := "DiagramHouseLaw", name := "make", desc := "(LDiagramHouse;IIII)I" } : Jvm.MethodName)) ∈ xT := xt_3 (i := 148) (by decide +kernel) rfl
theorem w_629 : (Jvm.Cond.static ({ cls := "DiagramHouseLaw", name := "make", desc := "(LDiagramHouse;IIII)I" } : Jvm.MethodName)) ∈ xT := xt_3 (i := 149) (by decide +kernel) rfl
theorem w_630 : (Jvm.Cond.codeWith ({ cls := "DiagramHouseLaw", name := "make", desc := "(LDiagramHouse;IIII)I" } : Jvm.MethodName) method_5_code (6 : Nat) (Option.some Jvm.ClassFile.FieldType.int) [((0 : Nat), (9 : Nat), (12 : Nat), (13 : Nat)), ((0 : Nat), (9 : Nat), (16 : Nat), (15 : Nat))]) ∈ xT := xt_3 (i := 150) (by decide +kernel) rfl
theorem w_631 : (Jvm.Cond.methodLink "DiagramHouseLaw" (20 : Nat) ({ cls := "DiagramHouse", name := "make", desc := "(IIII)V" } : Jvm.MethodName)) ∈ xT := xt_3 (i := 151) (by decide +kernel) rfl
theorem w_632 : (Jvm.Cond.instanceMethod ({ cls := "DiagramHouse", name := "make", desc := "(IIII)V" } : Jvm.MethodName)) ∈ xT := xt_3 (i := 152) (by decide +kernel) rfl
theorem w_633 : (Jvm.Cond.selects "DiagramHouse" ({ cls := "DiagramHouse", name := "make", desc := "(IIII)V" } : Jvm.MethodName) ({ cls := "DiagramHouse", name := "make", desc := "(IIII)V" } : Jvm.MethodName)) ∈ xT := xt_3 (i := 153) (by decide +kernel) rfl
theorem w_634 : (Jvm.Cond.code ({ cls := "DiagramHouse", name := "make", desc := "(IIII)V" } : Jvm.MethodName) prog_1_method_4_code (5 : Nat) (Option.none : Option Jvm.ClassFile.FieldType)) ∈ xT := xt_3 (i := 154) (by decide +kernel) rfl
theorem w_635 : (Jvm.Cond.methodLink "DiagramHouse" (45 : Nat) ({ cls := "DiagramHouse", name := "needPlaces", desc := "(III)V" } : Jvm.MethodName)) ∈ xT := xt_3 (i := 155) (by decide +kernel) rfl
theorem w_636 : (Jvm.Cond.static ({ cls := "DiagramHouse", name := "needPlaces", desc := "(III)V" } : Jvm.MethodName)) ∈ xT := xt_3 (i := 156) (by decide +kernel) rfl
theorem w_637 : (Jvm.Cond.code ({ cls := "DiagramHouse", name := "needPlaces", desc := "(III)V" } : Jvm.MethodName) prog_1_method_23_code (3 : Nat) (Option.none : Option Jvm.ClassFile.FieldType)) ∈ xT := xt_3 (i := 157) (by decide +kernel) rfl
theorem w_638 : (Jvm.Cond.methodLink "DiagramHouse" (49 : Nat) ({ cls := "DiagramHouse", name := "needBelow", desc := "(II)V" } : Jvm.MethodName)) ∈ xT := xt_3 (i := 158) (by decide +kernel) rfl
theorem w_639 : (Jvm.Cond.static ({ cls := "DiagramHouse", name := "needBelow", desc := "(II)V" } : Jvm.MethodName)) ∈ xT := xt_3 (i := 159) (by decide +kernel) rfl
theorem w_640 : (Jvm.Cond.code ({ cls := "DiagramHouse", name := "needBelow", desc := "(II)V" } : Jvm.MethodName) prog_1_method_26_code (2 : Nat) (Option.none : Option Jvm.ClassFile.FieldType)) ∈ xT := xt_3 (i := 160) (by decide +kernel) rfl
theorem w_642 : (Jvm.Cond.methodLink "DiagramHouse" (52 : Nat) ({ cls := "DiagramHouse$Functions", name := "join", desc := "(IIII)V" } : Jvm.MethodName)) ∈ xT := xt_3 (i := 162) (by decide +kernel) rfl
theorem w_643 : (Jvm.Cond.instanceMethod ({ cls := "DiagramHouse$Functions", name := "join", desc := "(IIII)V" } : Jvm.MethodName)) ∈ xT := xt_3 (i := 163) (by decide +kernel) rfl
theorem w_644 : (Jvm.Cond.selects "DiagramHouse$Functions" ({ cls := "DiagramHouse$Functions", name := "join", desc := "(IIII)V" } : Jvm.MethodName) ({ cls := "DiagramHouse$Functions", name := "join", desc := "(IIII)V" } : Jvm.MethodName)) ∈ xT := xt_3 (i := 164) (by decide +kernel) rfl
theorem w_645 : (Jvm.Cond.code ({ cls := "DiagramHouse$Functions", name := "join", desc := "(IIII)V" } : Jvm.MethodName) prog_4_method_10_code (16 : Nat) (Option.none : Option Jvm.ClassFile.FieldType)) ∈ xT := xt_3 (i := 165) (by decide +kernel) rfl
theorem w_646 : (Jvm.Cond.methodLink "DiagramHouse$Functions" (48 : Nat) ({ cls := "DiagramHouse$Functions", name := "putSpare", desc := "(II)V" } : Jvm.MethodName)) ∈ xT := xt_3 (i := 166) (by decide +kernel) rfl
theorem w_648 : (Jvm.Cond.instanceMethod ({ cls := "DiagramHouse$Functions", name := "putSpare", desc := "(II)V" } : Jvm.MethodName)) ∈ xT := xt_3 (i := 168) (by decide +kernel) rfl
theorem w_649 : (Jvm.Cond.code ({ cls := "DiagramHouse$Functions", name := "putSpare", desc := "(II)V" } : Jvm.MethodName) prog_4_method_6_code (4 : Nat) (Option.none : Option Jvm.ClassFile.FieldType)) ∈ xT := xt_3 (i := 169) (by decide +kernel) rfl
theorem w_650 : (Jvm.Cond.methodLink "DiagramHouseLaw" (98 : Nat) ({ cls := "DiagramHouseLaw", name := "choose", desc := "(LDiagramHouse;IIII)I" } : Jvm.MethodName)) ∈ xT := xt_3 (i := 170) (by decide +kernel) rfl
theorem w_651 : (Jvm.Cond.static ({ cls := "DiagramHouseLaw", name := "choose", desc := "(LDiagramHouse;IIII)I" } : Jvm.MethodName)) ∈ xT := xt_3 (i := 171) (by decide +kernel) rfl
theorem w_652 : (Jvm.Cond.codeWith ({ cls := "DiagramHouseLaw", name := "choose", desc := "(LDiagramHouse;IIII)I" } : Jvm.MethodName) method_6_code (6 : Nat) (Option.some Jvm.ClassFile.FieldType.int) [((0 : Nat), (9 : Nat), (12 : Nat), (13 : Nat))]) ∈ xT := xt_3 (i := 172) (by decide +kernel) rfl
theorem w_653 : (Jvm.Cond.methodLink "DiagramHouseLaw" (24 : Nat) ({ cls := "DiagramHouse", name := "choose", desc := "(IIII)V" } : Jvm.MethodName)) ∈ xT := xt_3 (i := 173) (by decide +kernel) rfl
theorem w_654 : (Jvm.Cond.instanceMethod ({ cls := "DiagramHouse", name := "choose", desc := "(IIII)V" } : Jvm.MethodName)) ∈ xT := xt_3 (i := 174) (by decide +kernel) rfl
theorem w_655 : (Jvm.Cond.selects "DiagramHouse" ({ cls := "DiagramHouse", name := "choose", desc := "(IIII)V" } : Jvm.MethodName) ({ cls := "DiagramHouse", name := "choose", desc := "(IIII)V" } : Jvm.MethodName)) ∈ xT := xt_3 (i := 175) (by decide +kernel) rfl
theorem w_656 : (Jvm.Cond.code ({ cls := "DiagramHouse", name := "choose", desc := "(IIII)V" } : Jvm.MethodName) prog_1_method_5_code (5 : Nat) (Option.none : Option Jvm.ClassFile.FieldType)) ∈ xT := xt_3 (i := 176) (by decide +kernel) rfl
theorem w_657 : (Jvm.Cond.methodLink "DiagramHouse" (56 : Nat) ({ cls := "DiagramHouse$Functions", name := "select", desc := "(IIII)V" } : Jvm.MethodName)) ∈ xT := xt_3 (i := 177) (by decide +kernel) rfl
theorem w_658 : (Jvm.Cond.instanceMethod ({ cls := "DiagramHouse$Functions", name := "select", desc := "(IIII)V" } : Jvm.MethodName)) ∈ xT := xt_3 (i := 178) (by decide +kernel) rfl
theorem w_659 : (Jvm.Cond.selects "DiagramHouse$Functions" ({ cls := "DiagramHouse$Functions", name := "select", desc := "(IIII)V" } : Jvm.MethodName) ({ cls := "DiagramHouse$Functions", name := "select", desc := "(IIII)V" } : Jvm.MethodName)) ∈ xT := xt_3 (i := 179) (by decide +kernel) rfl
theorem w_660 : (Jvm.Cond.code ({ cls := "DiagramHouse$Functions", name := "select", desc := "(IIII)V" } : Jvm.MethodName) prog_4_method_11_code (16 : Nat) (Option.none : Option Jvm.ClassFile.FieldType)) ∈ xT := xt_3 (i := 180) (by decide +kernel) rfl
theorem w_661 : (Jvm.Cond.methodLink "DiagramHouseLaw" (101 : Nat) ({ cls := "DiagramHouseLaw", name := "fix", desc := "(LDiagramHouse;IIII)I" } : Jvm.MethodName)) ∈ xT := xt_3 (i := 181) (by decide +kernel) rfl
theorem w_662 : (Jvm.Cond.static ({ cls := "DiagramHouseLaw", name := "fix", desc := "(LDiagramHouse;IIII)I" } : Jvm.MethodName)) ∈ xT := xt_3 (i := 182) (by decide +kernel) rfl
theorem w_663 : (Jvm.Cond.codeWith ({ cls := "DiagramHouseLaw", name := "fix", desc := "(LDiagramHouse;IIII)I" } : Jvm.MethodName) method_7_code (6 : Nat) (Option.some Jvm.ClassFile.FieldType.int) [((0 : Nat), (9 : Nat), (12 : Nat), (13 : Nat)), ((0 : Nat), (9 : Nat), (16 : Nat), (15 : Nat))]) ∈ xT := xt_3 (i := 183) (by decide +kernel) rfl
theorem w_664 : (Jvm.Cond.methodLink "DiagramHouseLaw" (27 : Nat) ({ cls := "DiagramHouse", name := "fix", desc := "(IIII)V" } : Jvm.MethodName)) ∈ xT := xt_3 (i := 184) (by decide +kernel) rfl
theorem w_665 : (Jvm.Cond.instanceMethod ({ cls := "DiagramHouse", name := "fix", desc := "(IIII)V" } : Jvm.MethodName)) ∈ xT := xt_3 (i := 185) (by decide +kernel) rfl
theorem w_666 : (Jvm.Cond.selects "DiagramHouse" ({ cls := "DiagramHouse", name := "fix", desc := "(IIII)V" } : Jvm.MethodName) ({ cls := "DiagramHouse", name := "fix", desc := "(IIII)V" } : Jvm.MethodName)) ∈ xT := xt_3 (i := 186) (by decide +kernel) rfl
theorem w_667 : (Jvm.Cond.code ({ cls := "DiagramHouse", name := "fix", desc := "(IIII)V" } : Jvm.MethodName) prog_1_method_6_code (5 : Nat) (Option.none : Option Jvm.ClassFile.FieldType)) ∈ xT := xt_3 (i := 187) (by decide +kernel) rfl
theorem w_668 : (Jvm.Cond.methodLink "DiagramHouse" (59 : Nat) ({ cls := "DiagramHouse$Functions", name := "restrict", desc := "(IIII)V" } : Jvm.MethodName)) ∈ xT := xt_3 (i := 188) (by decide +kernel) rfl
theorem w_669 : (Jvm.Cond.instanceMethod ({ cls := "DiagramHouse$Functions", name := "restrict", desc := "(IIII)V" } : Jvm.MethodName)) ∈ xT := xt_3 (i := 189) (by decide +kernel) rfl
theorem w_670 : (Jvm.Cond.selects "DiagramHouse$Functions" ({ cls := "DiagramHouse$Functions", name := "restrict", desc := "(IIII)V" } : Jvm.MethodName) ({ cls := "DiagramHouse$Functions", name := "restrict", desc := "(IIII)V" } : Jvm.MethodName)) ∈ xT := xt_3 (i := 190) (by decide +kernel) rfl
theorem w_671 : (Jvm.Cond.code ({ cls := "DiagramHouse$Functions", name := "restrict", desc := "(IIII)V" } : Jvm.MethodName) prog_4_method_12_code (6 : Nat) (Option.none : Option Jvm.ClassFile.FieldType)) ∈ xT := xt_3 (i := 191) (by decide +kernel) rfl
theorem w_672 : (Jvm.Cond.methodLink "DiagramHouse$Functions" (51 : Nat) ({ cls := "DiagramHouse$Functions", name := "restrictWithinWords", desc := "(III)V" } : Jvm.MethodName)) ∈ xT := xt_3 (i := 192) (by decide +kernel) rfl
theorem w_674 : (Jvm.Cond.instanceMethod ({ cls := "DiagramHouse$Functions", name := "restrictWithinWords", desc := "(III)V" } : Jvm.MethodName)) ∈ xT := xt_3 (i := 194) (by decide +kernel) rfl
theorem w_675 : (Jvm.Cond.code ({ cls := "DiagramHouse$Functions", name := "restrictWithinWords", desc := "(III)V" } : Jvm.MethodName) prog_4_method_13_code (13 : Nat) (Option.none : Option Jvm.ClassFile.FieldType)) ∈ xT := xt_3 (i := 195) (by decide +kernel) rfl
theorem w_676 : (Jvm.Cond.methodLink "DiagramHouse$Functions" (55 : Nat) ({ cls := "DiagramHouse$Functions", name := "restrictWords", desc := "(III)V" } : Jvm.MethodName)) ∈ xT := xt_3 (i := 196) (by decide +kernel) rfl
theorem w_678 : (Jvm.Cond.instanceMethod ({ cls := "DiagramHouse$Functions", name := "restrictWords", desc := "(III)V" } : Jvm.MethodName)) ∈ xT := xt_3 (i := 198) (by decide +kernel) rfl
theorem w_679 : (Jvm.Cond.code ({ cls := "DiagramHouse$Functions", name := "restrictWords", desc := "(III)V" } : Jvm.MethodName) prog_4_method_14_code (9 : Nat) (Option.none : Option Jvm.ClassFile.FieldType)) ∈ xT := xt_3 (i := 199) (by decide +kernel) rfl
theorem w_680 : (Jvm.Cond.methodLink "DiagramHouseLaw" (104 : Nat) ({ cls := "DiagramHouseLaw", name := "compose", desc := "(LDiagramHouse;IIII)I" } : Jvm.MethodName)) ∈ xT := xt_3 (i := 200) (by decide +kernel) rfl
theorem w_681 : (Jvm.Cond.static ({ cls := "DiagramHouseLaw", name := "compose", desc := "(LDiagramHouse;IIII)I" } : Jvm.MethodName)) ∈ xT := xt_3 (i := 201) (by decide +kernel) rfl
theorem w_682 : (Jvm.Cond.codeWith ({ cls := "DiagramHouseLaw", name := "compose", desc := "(LDiagramHouse;IIII)I" } : Jvm.MethodName) method_8_code (6 : Nat) (Option.some Jvm.ClassFile.FieldType.int) [((0 : Nat), (9 : Nat), (12 : Nat), (13 : Nat)), ((0 : Nat), (9 : Nat), (16 : Nat), (15 : Nat))]) ∈ xT := xt_3 (i := 202) (by decide +kernel) rfl
theorem w_683 : (Jvm.Cond.methodLink "DiagramHouseLaw" (30 : Nat) ({ cls := "DiagramHouse", name := "compose", desc := "(IIII)V" } : Jvm.MethodName)) ∈ xT := xt_3 (i := 203) (by decide +kernel) rfl
theorem w_684 : (Jvm.Cond.instanceMethod ({ cls := "DiagramHouse", name := "compose", desc := "(IIII)V" } : Jvm.MethodName)) ∈ xT := xt_3 (i := 204) (by decide +kernel) rfl
theorem w_685 : (Jvm.Cond.selects "DiagramHouse" ({ cls := "DiagramHouse", name := "compose", desc := "(IIII)V" } : Jvm.MethodName) ({ cls := "DiagramHouse", name := "compose", desc := "(IIII)V" } : Jvm.MethodName)) ∈ xT := xt_3 (i := 205) (by decide +kernel) rfl
theorem w_686 : (Jvm.Cond.code ({ cls := "DiagramHouse", name := "compose", desc := "(IIII)V" } : Jvm.MethodName) prog_1_method_7_code (5 : Nat) (Option.none : Option Jvm.ClassFile.FieldType)) ∈ xT := xt_3 (i := 206) (by decide +kernel) rfl
theorem w_687 : (Jvm.Cond.methodLink "DiagramHouse" (62 : Nat) ({ cls := "DiagramHouse$Functions", name := "replace", desc := "(IIII)V" } : Jvm.MethodName)) ∈ xT := xt_3 (i := 207) (by decide +kernel) rfl
theorem w_688 : (Jvm.Cond.instanceMethod ({ cls := "DiagramHouse$Functions", name := "replace", desc := "(IIII)V" } : Jvm.MethodName)) ∈ xT := xt_3 (i := 208) (by decide +kernel) rfl
theorem w_689 : (Jvm.Cond.selects "DiagramHouse$Functions" ({ cls := "DiagramHouse$Functions", name := "replace", desc := "(IIII)V" } : Jvm.MethodName) ({ cls := "DiagramHouse$Functions", name := "replace", desc := "(IIII)V" } : Jvm.MethodName)) ∈ xT := xt_3 (i := 209) (by decide +kernel) rfl
theorem w_690 : (Jvm.Cond.code ({ cls := "DiagramHouse$Functions", name := "replace", desc := "(IIII)V" } : Jvm.MethodName) prog_4_method_15_code (6 : Nat) (Option.none : Option Jvm.ClassFile.FieldType)) ∈ xT := xt_3 (i := 210) (by decide +kernel) rfl
theorem w_691 : (Jvm.Cond.methodLink "DiagramHouse$Functions" (58 : Nat) ({ cls := "DiagramHouse$Functions", name := "restrict", desc := "(IIII)V" } : Jvm.MethodName)) ∈ xT := xt_3 (i := 211) (by decide +kernel) rfl
theorem w_692 : (Jvm.Cond.methodLink "DiagramHouse$Functions" (62 : Nat) ({ cls := "DiagramHouse$Functions", name := "replaceWithinWords", desc := "(III)V" } : Jvm.MethodName)) ∈ xT := xt_3 (i := 212) (by decide +kernel) rfl
theorem w_694 : (Jvm.Cond.instanceMethod ({ cls := "DiagramHouse$Functions", name := "replaceWithinWords", desc := "(III)V" } : Jvm.MethodName)) ∈ xT := xt_3 (i := 214) (by decide +kernel) rfl
theorem w_695 : (Jvm.Cond.code ({ cls := "DiagramHouse$Functions", name := "replaceWithinWords", desc := "(III)V" } : Jvm.MethodName) prog_4_method_16_code (20 : Nat) (Option.none : Option Jvm.ClassFile.FieldType)) ∈ xT := xt_3 (i := 215) (by decide +kernel) rfl
theorem w_696 : (Jvm.Cond.methodLink "DiagramHouse$Functions" (65 : Nat) ({ cls := "DiagramHouse$Functions", name := "replaceWords", desc := "(IIII)V" } : Jvm.MethodName)) ∈ xT := xt_3 (i := 216) (by decide +kernel) rfl
theorem w_698 : (Jvm.Cond.instanceMethod ({ cls := "DiagramHouse$Functions", name := "replaceWords", desc := "(IIII)V" } : Jvm.MethodName)) ∈ xT := xt_3 (i := 218) (by decide +kernel) rfl
theorem w_699 : (Jvm.Cond.code ({ cls := "DiagramHouse$Functions", name := "replaceWords", desc := "(IIII)V" } : Jvm.MethodName) prog_4_method_17_code (14 : Nat) (Option.none : Option Jvm.ClassFile.FieldType)) ∈ xT := xt_3 (i := 219) (by decide +kernel) rfl
theorem w_700 : (Jvm.Cond.methodLink "DiagramHouseLaw" (107 : Nat) ({ cls := "DiagramHouseLaw", name := "quantify", desc := "(LDiagramHouse;IIIZ)I" } : Jvm.MethodName)) ∈ xT := xt_3 (i := 220) (by decide +kernel) rfl
theorem w_701 : (Jvm.Cond.static ({ cls := "DiagramHouseLaw", name := "quantify", desc := "(LDiagramHouse;IIIZ)I" } : Jvm.MethodName)) ∈ xT := xt_3 (i := 221) (by decide +kernel) rfl
theorem w_702 : (Jvm.Cond.codeWith ({ cls := "DiagramHouseLaw", name := "quantify", desc := "(LDiagramHouse;IIIZ)I" } : Jvm.MethodName) method_9_code (6 : Nat) (Option.some Jvm.ClassFile.FieldType.int) [((0 : Nat), (9 : Nat), (12 : Nat), (13 : Nat)), ((0 : Nat), (9 : Nat), (16 : Nat), (15 : Nat))]) ∈ xT := xt_3 (i := 222) (by decide +kernel) rfl
theorem w_703 : (Jvm.Cond.methodLink "DiagramHouseLaw" (33 : Nat) ({ cls := "DiagramHouse", name := "quantify", desc := "(IIIZ)V" } : Jvm.MethodName)) ∈ xT := xt_3 (i := 223) (by decide +kernel) rfl
theorem w_704 : (Jvm.Cond.instanceMethod ({ cls := "DiagramHouse", name := "quantify", desc := "(IIIZ)V" } : Jvm.MethodName)) ∈ xT := xt_3 (i := 224) (by decide +kernel) rfl
theorem w_705 : (Jvm.Cond.selects "DiagramHouse" ({ cls := "DiagramHouse", name := "quantify", desc := "(IIIZ)V" } : Jvm.MethodName) ({ cls := "DiagramHouse", name := "quantify", desc := "(IIIZ)V" } : Jvm.MethodName)) ∈ xT := xt_3 (i := 225) (by decide +kernel) rfl
theorem w_706 : (Jvm.Cond.code ({ cls := "DiagramHouse", name := "quantify", desc := "(IIIZ)V" } : Jvm.MethodName) prog_1_method_8_code (5 : Nat) (Option.none : Option Jvm.ClassFile.FieldType)) ∈ xT := xt_3 (i := 226) (by decide +kernel) rfl
theorem w_707 : (Jvm.Cond.methodLink "DiagramHouse" (65 : Nat) ({ cls := "DiagramHouse$Functions", name := "project", desc := "(IIIIZ)V" } : Jvm.MethodName)) ∈ xT := xt_3 (i := 227) (by decide +kernel) rfl
theorem w_708 : (Jvm.Cond.instanceMethod ({ cls := "DiagramHouse$Functions", name := "project", desc := "(IIIIZ)V" } : Jvm.MethodName)) ∈ xT := xt_3 (i := 228) (by decide +kernel) rfl
theorem w_709 : (Jvm.Cond.selects "DiagramHouse$Functions" ({ cls := "DiagramHouse$Functions", name := "project", desc := "(IIIIZ)V" } : Jvm.MethodName) ({ cls := "DiagramHouse$Functions", name := "project", desc := "(IIIIZ)V" } : Jvm.MethodName)) ∈ xT := xt_3 (i := 229) (by decide +kernel) rfl
theorem w_710 : (Jvm.Cond.code ({ cls := "DiagramHouse$Functions", name := "project", desc := "(IIIIZ)V" } : Jvm.MethodName) prog_4_method_18_code (15 : Nat) (Option.none : Option Jvm.ClassFile.FieldType)) ∈ xT := xt_3 (i := 230) (by decide +kernel) rfl
theorem w_711 : (Jvm.Cond.methodLink "DiagramHouse$Functions" (68 : Nat) ({ cls := "DiagramHouse$Functions", name := "someWords", desc := "(IIIIJ)J" } : Jvm.MethodName)) ∈ xT := xt_3 (i := 231) (by decide +kernel) rfl
theorem w_713 : (Jvm.Cond.instanceMethod ({ cls := "DiagramHouse$Functions", name := "someWords", desc := "(IIIIJ)J" } : Jvm.MethodName)) ∈ xT := xt_3 (i := 233) (by decide +kernel) rfl
theorem w_714 : (Jvm.Cond.code ({ cls := "DiagramHouse$Functions", name := "someWords", desc := "(IIIIJ)J" } : Jvm.MethodName) prog_4_method_19_code (15 : Nat) (Option.some Jvm.ClassFile.FieldType.long)) ∈ xT := xt_3 (i := 234) (by decide +kernel) rfl
theorem w_715 : (Jvm.Cond.methodLink "DiagramHouse$Functions" (72 : Nat) ({ cls := "DiagramHouse$Functions", name := "someWithin", desc := "(JI)J" } : Jvm.MethodName)) ∈ xT := xt_3 (i := 235) (by decide +kernel) rfl
theorem w_716 : (Jvm.Cond.static ({ cls := "DiagramHouse$Functions", name := "someWithin", desc := "(JI)J" } : Jvm.MethodName)) ∈ xT := xt_3 (i := 236) (by decide +kernel) rfl
theorem w_717 : (Jvm.Cond.code ({ cls := "DiagramHouse$Functions", name := "someWithin", desc := "(JI)J" } : Jvm.MethodName) prog_4_method_20_code (10 : Nat) (Option.some Jvm.ClassFile.FieldType.long)) ∈ xT := xt_3 (i := 237) (by decide +kernel) rfl
theorem w_718 : (Jvm.Cond.methodLink "DiagramHouseLaw" (111 : Nat) ({ cls := "DiagramHouseLaw", name := "meet", desc := "(LDiagramHouse;IIII)I" } : Jvm.MethodName)) ∈ xT := xt_3 (i := 238) (by decide +kernel) rfl
theorem w_719 : (Jvm.Cond.static ({ cls := "DiagramHouseLaw", name := "meet", desc := "(LDiagramHouse;IIII)I" } : Jvm.MethodName)) ∈ xT := xt_3 (i := 239) (by decide +kernel) rfl
theorem w_720 : (Jvm.Cond.codeWith ({ cls := "DiagramHouseLaw", name := "meet", desc := "(LDiagramHouse;IIII)I" } : Jvm.MethodName) method_10_code (6 : Nat) (Option.some Jvm.ClassFile.FieldType.int) [((0 : Nat), (9 : Nat), (12 : Nat), (13 : Nat)), ((0 : Nat), (9 : Nat), (16 : Nat), (15 : Nat))]) ∈ xT := xt_4 (i := 0) (by decide +kernel) rfl
theorem w_721 : (Jvm.Cond.methodLink "DiagramHouseLaw" (37 : Nat) ({ cls := "DiagramHouse", name := "meet", desc := "(IIII)V" } : Jvm.MethodName)) ∈ xT := xt_4 (i := 1) (by decide +kernel) rfl
theorem w_722 : (Jvm.Cond.instanceMethod ({ cls := "DiagramHouse", name := "meet", desc := "(IIII)V" } : Jvm.MethodName)) ∈ xT := xt_4 (i := 2) (by decide +kernel) rfl
theorem w_723 : (Jvm.Cond.selects "DiagramHouse" ({ cls := "DiagramHouse", name := "meet", desc := "(IIII)V" } : Jvm.MethodName) ({ cls := "DiagramHouse", name := "meet", desc := "(IIII)V" } : Jvm.MethodName)) ∈ xT := xt_4 (i := 3) (by decide +kernel) rfl
theorem w_724 : (Jvm.Cond.code ({ cls := "DiagramHouse", name := "meet", desc := "(IIII)V" } : Jvm.MethodName) prog_1_method_9_code (5 : Nat) (Option.none : Option Jvm.ClassFile.FieldType)) ∈ xT := xt_4 (i := 4) (by decide +kernel) rfl
theorem w_725 : (Jvm.Cond.methodLink "DiagramHouseLaw" (114 : Nat) ({ cls := "DiagramHouseLaw", name := "move", desc := "(LDiagramHouse;II[J)I" } : Jvm.MethodName)) ∈ xT := xt_4 (i := 5) (by decide +kernel) rfl
theorem w_726 : (Jvm.Cond.static ({ cls := "DiagramHouseLaw", name := "move", desc := "(LDiagramHouse;II[J)I" } : Jvm.MethodName)) ∈ xT := xt_4 (i := 6) (by decide +kernel) rfl
theorem w_727 : (Jvm.Cond.codeWith ({ cls := "DiagramHouseLaw", name := "move", desc := "(LDiagramHouse;II[J)I" } : Jvm.MethodName) method_11_code (5 : Nat) (Option.some Jvm.ClassFile.FieldType.int) [((0 : Nat), (10 : Nat), (13 : Nat), (15 : Nat))]) ∈ xT := xt_4 (i := 7) (by decide +kernel) rfl
theorem w_728 : (Jvm.Cond.methodLink "DiagramHouseLaw" (40 : Nat) ({ cls := "DiagramHouse", name := "move", desc := "(II)I" } : Jvm.MethodName)) ∈ xT := xt_4 (i := 8) (by decide +kernel) rfl
theorem w_729 : (Jvm.Cond.instanceMethod ({ cls := "DiagramHouse", name := "move", desc := "(II)I" } : Jvm.MethodName)) ∈ xT := xt_4 (i := 9) (by decide +kernel) rfl
theorem w_730 : (Jvm.Cond.selects "DiagramHouse" ({ cls := "DiagramHouse", name := "move", desc := "(II)I" } : Jvm.MethodName) ({ cls := "DiagramHouse", name := "move", desc := "(II)I" } : Jvm.MethodName)) ∈ xT := xt_4 (i := 10) (by decide +kernel) rfl
theorem w_731 : (Jvm.Cond.code ({ cls := "DiagramHouse", name := "move", desc := "(II)I" } : Jvm.MethodName) prog_1_method_10_code (3 : Nat) (Option.some Jvm.ClassFile.FieldType.int)) ∈ xT := xt_4 (i := 11) (by decide +kernel) rfl
theorem w_732 : (Jvm.Cond.methodLink "DiagramHouse" (73 : Nat) ({ cls := "DiagramHouse$Diagrams", name := "moveTo", desc := "(II)V" } : Jvm.MethodName)) ∈ xT := xt_4 (i := 12) (by decide +kernel) rfl
theorem w_733 : (Jvm.Cond.instanceMethod ({ cls := "DiagramHouse$Diagrams", name := "moveTo", desc := "(II)V" } : Jvm.MethodName)) ∈ xT := xt_4 (i := 13) (by decide +kernel) rfl
theorem w_734 : (Jvm.Cond.selects "DiagramHouse$Diagrams" ({ cls := "DiagramHouse$Diagrams", name := "moveTo", desc := "(II)V" } : Jvm.MethodName) ({ cls := "DiagramHouse$Diagrams", name := "moveTo", desc := "(II)V" } : Jvm.MethodName)) ∈ xT := xt_4 (i := 14) (by decide +kernel) rfl
theorem w_735 : (Jvm.Cond.code ({ cls := "DiagramHouse$Diagrams", name := "moveTo", desc := "(II)V" } : Jvm.MethodName) prog_2_method_9_code (3 : Nat) (Option.none : Option Jvm.ClassFile.FieldType)) ∈ xT := xt_4 (i := 15) (by decide +kernel) rfl
theorem w_736 : (Jvm.Cond.methodLink "DiagramHouseLaw" (118 : Nat) ({ cls := "DiagramHouseLaw", name := "sift", desc := "(LDiagramHouse;I[J)I" } : Jvm.MethodName)) ∈ xT := xt_4 (i := 16) (by decide +kernel) rfl
theorem w_737 : (Jvm.Cond.static ({ cls := "DiagramHouseLaw", name := "sift", desc := "(LDiagramHouse;I[J)I" } : Jvm.MethodName)) ∈ xT := xt_4 (i := 17) (by decide +kernel) rfl
theorem w_738 : (Jvm.Cond.codeWith ({ cls := "DiagramHouseLaw", name := "sift", desc := "(LDiagramHouse;I[J)I" } : Jvm.MethodName) method_12_code (4 : Nat) (Option.some Jvm.ClassFile.FieldType.int) [((0 : Nat), (9 : Nat), (12 : Nat), (15 : Nat))]) ∈ xT := xt_4 (i := 18) (by decide +kernel) rfl
theorem w_739 : (Jvm.Cond.methodLink "DiagramHouseLaw" (44 : Nat) ({ cls := "DiagramHouse", name := "sift", desc := "(I)I" } : Jvm.MethodName)) ∈ xT := xt_4 (i := 19) (by decide +kernel) rfl
theorem w_740 : (Jvm.Cond.instanceMethod ({ cls := "DiagramHouse", name := "sift", desc := "(I)I" } : Jvm.MethodName)) ∈ xT := xt_4 (i := 20) (by decide +kernel) rfl
theorem w_741 : (Jvm.Cond.selects "DiagramHouse" ({ cls := "DiagramHouse", name := "sift", desc := "(I)I" } : Jvm.MethodName) ({ cls := "DiagramHouse", name := "sift", desc := "(I)I" } : Jvm.MethodName)) ∈ xT := xt_4 (i := 21) (by decide +kernel) rfl
theorem w_742 : (Jvm.Cond.code ({ cls := "DiagramHouse", name := "sift", desc := "(I)I" } : Jvm.MethodName) prog_1_method_11_code (2 : Nat) (Option.some Jvm.ClassFile.FieldType.int)) ∈ xT := xt_4 (i := 22) (by decide +kernel) rfl
theorem w_743 : (Jvm.Cond.methodLink "DiagramHouseLaw" (126 : Nat) ({ cls := "DiagramHouseLaw", name := "order", desc := "(LDiagramHouse;I[J)I" } : Jvm.MethodName)) ∈ xT := xt_4 (i := 23) (by decide +kernel) rfl
theorem w_744 : (Jvm.Cond.static ({ cls := "DiagramHouseLaw", name := "order", desc := "(LDiagramHouse;I[J)I" } : Jvm.MethodName)) ∈ xT := xt_4 (i := 24) (by decide +kernel) rfl
theorem w_745 : (Jvm.Cond.codeWith ({ cls := "DiagramHouseLaw", name := "order", desc := "(LDiagramHouse;I[J)I" } : Jvm.MethodName) method_13_code (4 : Nat) (Option.some Jvm.ClassFile.FieldType.int) [((0 : Nat), (9 : Nat), (12 : Nat), (13 : Nat))]) ∈ xT := xt_4 (i := 25) (by decide +kernel) rfl
theorem w_746 : (Jvm.Cond.methodLink "DiagramHouseLaw" (48 : Nat) ({ cls := "DiagramHouse", name := "order", desc := "(I)I" } : Jvm.MethodName)) ∈ xT := xt_4 (i := 26) (by decide +kernel) rfl
theorem w_747 : (Jvm.Cond.instanceMethod ({ cls := "DiagramHouse", name := "order", desc := "(I)I" } : Jvm.MethodName)) ∈ xT := xt_4 (i := 27) (by decide +kernel) rfl
theorem w_748 : (Jvm.Cond.selects "DiagramHouse" ({ cls := "DiagramHouse", name := "order", desc := "(I)I" } : Jvm.MethodName) ({ cls := "DiagramHouse", name := "order", desc := "(I)I" } : Jvm.MethodName)) ∈ xT := xt_4 (i := 28) (by decide +kernel) rfl
theorem w_749 : (Jvm.Cond.code ({ cls := "DiagramHouse", name := "order", desc := "(I)I" } : Jvm.MethodName) prog_1_method_13_code (2 : Nat) (Option.some Jvm.ClassFile.FieldType.int)) ∈ xT := xt_4 (i := 29) (by decide +kernel) rfl
theorem w_751 : (Jvm.Cond.methodLink "DiagramHouse" (100 : Nat) ({ cls := "DiagramHouse$Diagrams", name := "inputAt", desc := "(I)I" } : Jvm.MethodName)) ∈ xT := xt_4 (i := 31) (by decide +kernel) rfl
theorem w_752 : (Jvm.Cond.instanceMethod ({ cls := "DiagramHouse$Diagrams", name := "inputAt", desc := "(I)I" } : Jvm.MethodName)) ∈ xT := xt_4 (i := 32) (by decide +kernel) rfl
theorem w_753 : (Jvm.Cond.selects "DiagramHouse$Diagrams" ({ cls := "DiagramHouse$Diagrams", name := "inputAt", desc := "(I)I" } : Jvm.MethodName) ({ cls := "DiagramHouse$Diagrams", name := "inputAt", desc := "(I)I" } : Jvm.MethodName)) ∈ xT := xt_4 (i := 33) (by decide +kernel) rfl
theorem w_754 : (Jvm.Cond.code ({ cls := "DiagramHouse$Diagrams", name := "inputAt", desc := "(I)I" } : Jvm.MethodName) prog_2_method_6_code (2 : Nat) (Option.some Jvm.ClassFile.FieldType.int)) ∈ xT := xt_4 (i := 34) (by decide +kernel) rfl
theorem w_755 : (Jvm.Cond.methodLink "DiagramHouseLaw" (129 : Nat) ({ cls := "DiagramHouseLaw", name := "size", desc := "(LDiagramHouse;I[J)I" } : Jvm.MethodName)) ∈ xT := xt_4 (i := 35) (by decide +kernel) rfl
theorem w_756 : (Jvm.Cond.static ({ cls := "DiagramHouseLaw", name := "size", desc := "(LDiagramHouse;I[J)I" } : Jvm.MethodName)) ∈ xT := xt_4 (i := 36) (by decide +kernel) rfl
theorem w_757 : (Jvm.Cond.codeWith ({ cls := "DiagramHouseLaw", name := "size", desc := "(LDiagramHouse;I[J)I" } : Jvm.MethodName) method_14_code (4 : Nat) (Option.some Jvm.ClassFile.FieldType.int) [((0 : Nat), (9 : Nat), (12 : Nat), (13 : Nat))]) ∈ xT := xt_4 (i := 37) (by decide +kernel) rfl
theorem w_758 : (Jvm.Cond.methodLink "DiagramHouseLaw" (51 : Nat) ({ cls := "DiagramHouse", name := "size", desc := "(I)I" } : Jvm.MethodName)) ∈ xT := xt_4 (i := 38) (by decide +kernel) rfl
theorem w_759 : (Jvm.Cond.instanceMethod ({ cls := "DiagramHouse", name := "size", desc := "(I)I" } : Jvm.MethodName)) ∈ xT := xt_4 (i := 39) (by decide +kernel) rfl
theorem w_760 : (Jvm.Cond.selects "DiagramHouse" ({ cls := "DiagramHouse", name := "size", desc := "(I)I" } : Jvm.MethodName) ({ cls := "DiagramHouse", name := "size", desc := "(I)I" } : Jvm.MethodName)) ∈ xT := xt_4 (i := 40) (by decide +kernel) rfl
theorem w_761 : (Jvm.Cond.code ({ cls := "DiagramHouse", name := "size", desc := "(I)I" } : Jvm.MethodName) prog_1_method_14_code (2 : Nat) (Option.some Jvm.ClassFile.FieldType.int)) ∈ xT := xt_4 (i := 41) (by decide +kernel) rfl
theorem w_762 : (Jvm.Cond.methodLink "DiagramHouse" (103 : Nat) ({ cls := "DiagramHouse$Diagrams", name := "sizeOf", desc := "(I)I" } : Jvm.MethodName)) ∈ xT := xt_4 (i := 42) (by decide +kernel) rfl
theorem w_763 : (Jvm.Cond.instanceMethod ({ cls := "DiagramHouse$Diagrams", name := "sizeOf", desc := "(I)I" } : Jvm.MethodName)) ∈ xT := xt_4 (i := 43) (by decide +kernel) rfl
theorem w_764 : (Jvm.Cond.selects "DiagramHouse$Diagrams" ({ cls := "DiagramHouse$Diagrams", name := "sizeOf", desc := "(I)I" } : Jvm.MethodName) ({ cls := "DiagramHouse$Diagrams", name := "sizeOf", desc := "(I)I" } : Jvm.MethodName)) ∈ xT := xt_4 (i := 44) (by decide +kernel) rfl
theorem w_765 : (Jvm.Cond.code ({ cls := "DiagramHouse$Diagrams", name := "sizeOf", desc := "(I)I" } : Jvm.MethodName) prog_2_method_4_code (2 : Nat) (Option.some Jvm.ClassFile.FieldType.int)) ∈ xT := xt_4 (i := 45) (by decide +kernel) rfl
theorem w_766 : (Jvm.Cond.methodLink "DiagramHouse$Diagrams" (78 : Nat) ({ cls := "DiagramHouse$Nodes", name := "sizeFrom", desc := "(I)I" } : Jvm.MethodName)) ∈ xT := xt_4 (i := 46) (by decide +kernel) rfl
theorem w_767 : (Jvm.Cond.instanceMethod ({ cls := "DiagramHouse$Nodes", name := "sizeFrom", desc := "(I)I" } : Jvm.MethodName)) ∈ xT := xt_4 (i := 47) (by decide +kernel) rfl
theorem w_768 : (Jvm.Cond.selects "DiagramHouse$Nodes" ({ cls := "DiagramHouse$Nodes", name := "sizeFrom", desc := "(I)I" } : Jvm.MethodName) ({ cls := "DiagramHouse$Nodes", name := "sizeFrom", desc := "(I)I" } : Jvm.MethodName)) ∈ xT := xt_4 (i := 48) (by decide +kernel) rfl
theorem w_769 : (Jvm.Cond.code ({ cls := "DiagramHouse$Nodes", name := "sizeFrom", desc := "(I)I" } : Jvm.MethodName) prog_5_method_15_code (2 : Nat) (Option.some Jvm.ClassFile.FieldType.int)) ∈ xT := xt_4 (i := 49) (by decide +kernel) rfl
theorem w_770 : (Jvm.Cond.methodLink "DiagramHouse$Nodes" (93 : Nat) ({ cls := "DiagramHouse$Nodes", name := "unseenFrom", desc := "(II)I" } : Jvm.MethodName)) ∈ xT := xt_4 (i := 50) (by decide +kernel) rfl
theorem w_772 : (Jvm.Cond.instanceMethod ({ cls := "DiagramHouse$Nodes", name := "unseenFrom", desc := "(II)I" } : Jvm.MethodName)) ∈ xT := xt_4 (i := 52) (by decide +kernel) rfl
theorem w_773 : (Jvm.Cond.code ({ cls := "DiagramHouse$Nodes", name := "unseenFrom", desc := "(II)I" } : Jvm.MethodName) prog_5_method_16_code (4 : Nat) (Option.some Jvm.ClassFile.FieldType.int)) ∈ xT := xt_4 (i := 53) (by decide +kernel) rfl
theorem w_774 : (Jvm.Cond.methodLink "DiagramHouseLaw" (132 : Nat) ({ cls := "DiagramHouseLaw", name := "count", desc := "(LDiagramHouse;I[J)I" } : Jvm.MethodName)) ∈ xT := xt_4 (i := 54) (by decide +kernel) rfl
theorem w_775 : (Jvm.Cond.static ({ cls := "DiagramHouseLaw", name := "count", desc := "(LDiagramHouse;I[J)I" } : Jvm.MethodName)) ∈ xT := xt_4 (i := 55) (by decide +kernel) rfl
theorem w_776 : (Jvm.Cond.codeWith ({ cls := "DiagramHouseLaw", name := "count", desc := "(LDiagramHouse;I[J)I" } : Jvm.MethodName) method_15_code (4 : Nat) (Option.some Jvm.ClassFile.FieldType.int) [((0 : Nat), (9 : Nat), (12 : Nat), (13 : Nat))]) ∈ xT := xt_4 (i := 56) (by decide +kernel) rfl
theorem w_777 : (Jvm.Cond.methodLink "DiagramHouseLaw" (54 : Nat) ({ cls := "DiagramHouse", name := "count", desc := "(I)I" } : Jvm.MethodName)) ∈ xT := xt_4 (i := 57) (by decide +kernel) rfl
theorem w_778 : (Jvm.Cond.instanceMethod ({ cls := "DiagramHouse", name := "count", desc := "(I)I" } : Jvm.MethodName)) ∈ xT := xt_4 (i := 58) (by decide +kernel) rfl
theorem w_779 : (Jvm.Cond.selects "DiagramHouse" ({ cls := "DiagramHouse", name := "count", desc := "(I)I" } : Jvm.MethodName) ({ cls := "DiagramHouse", name := "count", desc := "(I)I" } : Jvm.MethodName)) ∈ xT := xt_4 (i := 59) (by decide +kernel) rfl
theorem w_780 : (Jvm.Cond.code ({ cls := "DiagramHouse", name := "count", desc := "(I)I" } : Jvm.MethodName) prog_1_method_15_code (2 : Nat) (Option.some Jvm.ClassFile.FieldType.int)) ∈ xT := xt_4 (i := 60) (by decide +kernel) rfl
theorem w_781 : (Jvm.Cond.methodLink "DiagramHouse" (106 : Nat) ({ cls := "DiagramHouse$Functions", name := "ones", desc := "(I)I" } : Jvm.MethodName)) ∈ xT := xt_4 (i := 61) (by decide +kernel) rfl
theorem w_782 : (Jvm.Cond.instanceMethod ({ cls := "DiagramHouse$Functions", name := "ones", desc := "(I)I" } : Jvm.MethodName)) ∈ xT := xt_4 (i := 62) (by decide +kernel) rfl
theorem w_783 : (Jvm.Cond.selects "DiagramHouse$Functions" ({ cls := "DiagramHouse$Functions", name := "ones", desc := "(I)I" } : Jvm.MethodName) ({ cls := "DiagramHouse$Functions", name := "ones", desc := "(I)I" } : Jvm.MethodName)) ∈ xT := xt_4 (i := 63) (by decide +kernel) rfl
theorem w_784 : (Jvm.Cond.code ({ cls := "DiagramHouse$Functions", name := "ones", desc := "(I)I" } : Jvm.MethodName) prog_4_method_21_code (6 : Nat) (Option.some Jvm.ClassFile.FieldType.int)) ∈ xT := xt_4 (i := 64) (by decide +kernel) rfl
theorem w_785 : (Jvm.Cond.methodLink "DiagramHouse$Functions" (81 : Nat) ({ cls := "java/lang/Long", name := "bitCount", desc := "(J)I" } : Jvm.MethodName)) ∈ xT := xt_4 (i := 65) (by decide +kernel) rfl
theorem w_786 : (Jvm.Cond.static ({ cls := "java/lang/Long", name := "bitCount", desc := "(J)I" } : Jvm.MethodName)) ∈ xT := xt_4 (i := 66) (by decide +kernel) rfl
theorem w_787 : (Jvm.Cond.code ({ cls := "java/lang/Long", name := "bitCount", desc := "(J)I" } : Jvm.MethodName) prog_13_method_50_code (2 : Nat) (Option.some Jvm.ClassFile.FieldType.int)) ∈ xT := xt_4 (i := 67) (by decide +kernel) rfl
theorem w_788 : (Jvm.Cond.constantLong "java/lang/Long" (314 : Nat) (6148914691236517205 : Int64)) ∈ xT := xt_4 (i := 68) (by decide +kernel) rfl
theorem w_789 : (Jvm.Cond.constantLong "java/lang/Long" (316 : Nat) (3689348814741910323 : Int64)) ∈ xT := xt_4 (i := 69) (by decide +kernel) rfl
theorem w_790 : (Jvm.Cond.constantLong "java/lang/Long" (318 : Nat) (1085102592571150095 : Int64)) ∈ xT := xt_4 (i := 70) (by decide +kernel) rfl
theorem w_791 : (Jvm.Cond.methodLink "DiagramHouse$Functions" (87 : Nat) ({ cls := "java/lang/Integer", name := "bitCount", desc := "(I)I" } : Jvm.MethodName)) ∈ xT := xt_4 (i := 71) (by decide +kernel) rfl
theorem w_792 : (Jvm.Cond.methodLink "DiagramHouseLaw" (135 : Nat) ({ cls := "DiagramHouseLaw", name := "value", desc := "(LDiagramHouse;II[J)I" } : Jvm.MethodName)) ∈ xT := xt_4 (i := 72) (by decide +kernel) rfl
theorem w_793 : (Jvm.Cond.static ({ cls := "DiagramHouseLaw", name := "value", desc := "(LDiagramHouse;II[J)I" } : Jvm.MethodName)) ∈ xT := xt_4 (i := 73) (by decide +kernel) rfl
theorem w_794 : (Jvm.Cond.codeWith ({ cls := "DiagramHouseLaw", name := "value", desc := "(LDiagramHouse;II[J)I" } : Jvm.MethodName) method_16_code (5 : Nat) (Option.some Jvm.ClassFile.FieldType.int) [((0 : Nat), (17 : Nat), (20 : Nat), (13 : Nat)), ((0 : Nat), (17 : Nat), (24 : Nat), (15 : Nat))]) ∈ xT := xt_4 (i := 74) (by decide +kernel) rfl
theorem w_795 : (Jvm.Cond.methodLink "DiagramHouseLaw" (57 : Nat) ({ cls := "DiagramHouse", name := "value", desc := "(II)Z" } : Jvm.MethodName)) ∈ xT := xt_4 (i := 75) (by decide +kernel) rfl
theorem w_796 : (Jvm.Cond.instanceMethod ({ cls := "DiagramHouse", name := "value", desc := "(II)Z" } : Jvm.MethodName)) ∈ xT := xt_4 (i := 76) (by decide +kernel) rfl
theorem w_797 : (Jvm.Cond.selects "DiagramHouse" ({ cls := "DiagramHouse", name := "value", desc := "(II)Z" } : Jvm.MethodName) ({ cls := "DiagramHouse", name := "value", desc := "(II)Z" } : Jvm.MethodName)) ∈ xT := xt_4 (i := 77) (by decide +kernel) rfl
theorem w_798 : (Jvm.Cond.code ({ cls := "DiagramHouse", name := "value", desc := "(II)Z" } : Jvm.MethodName) prog_1_method_16_code (3 : Nat) (Option.some Jvm.ClassFile.FieldType.boolean)) ∈ xT := xt_4 (i := 78) (by decide +kernel) rfl
theorem w_799 : (Jvm.Cond.methodLink "DiagramHouse" (109 : Nat) ({ cls := "DiagramHouse$Functions", name := "bit", desc := "(II)I" } : Jvm.MethodName)) ∈ xT := xt_4 (i := 79) (by decide +kernel) rfl
theorem w_800 : (Jvm.Cond.methodLink "DiagramHouseLaw" (138 : Nat) ({ cls := "DiagramHouseLaw", name := "least", desc := "(LDiagramHouse;I[J)I" } : Jvm.MethodName)) ∈ xT := xt_4 (i := 80) (by decide +kernel) rfl
theorem w_801 : (Jvm.Cond.static ({ cls := "DiagramHouseLaw", name := "least", desc := "(LDiagramHouse;I[J)I" } : Jvm.MethodName)) ∈ xT := xt_4 (i := 81) (by decide +kernel) rfl
theorem w_802 : (Jvm.Cond.codeWith ({ cls := "DiagramHouseLaw", name := "least", desc := "(LDiagramHouse;I[J)I" } : Jvm.MethodName) method_17_code (4 : Nat) (Option.some Jvm.ClassFile.FieldType.int) [((0 : Nat), (9 : Nat), (12 : Nat), (13 : Nat))]) ∈ xT := xt_4 (i := 82) (by decide +kernel) rfl
theorem w_803 : (Jvm.Cond.methodLink "DiagramHouseLaw" (61 : Nat) ({ cls := "DiagramHouse", name := "least", desc := "(I)I" } : Jvm.MethodName)) ∈ xT := xt_4 (i := 83) (by decide +kernel) rfl
theorem w_804 : (Jvm.Cond.instanceMethod ({ cls := "DiagramHouse", name := "least", desc := "(I)I" } : Jvm.MethodName)) ∈ xT := xt_4 (i := 84) (by decide +kernel) rfl
theorem w_805 : (Jvm.Cond.selects "DiagramHouse" ({ cls := "DiagramHouse", name := "least", desc := "(I)I" } : Jvm.MethodName) ({ cls := "DiagramHouse", name := "least", desc := "(I)I" } : Jvm.MethodName)) ∈ xT := xt_4 (i := 85) (by decide +kernel) rfl
theorem w_806 : (Jvm.Cond.code ({ cls := "DiagramHouse", name := "least", desc := "(I)I" } : Jvm.MethodName) prog_1_method_17_code (2 : Nat) (Option.some Jvm.ClassFile.FieldType.int)) ∈ xT := xt_4 (i := 86) (by decide +kernel) rfl
theorem w_807 : (Jvm.Cond.methodLink "DiagramHouse" (113 : Nat) ({ cls := "DiagramHouse$Functions", name := "firstOne", desc := "(I)I" } : Jvm.MethodName)) ∈ xT := xt_4 (i := 87) (by decide +kernel) rfl
theorem w_808 : (Jvm.Cond.instanceMethod ({ cls := "DiagramHouse$Functions", name := "firstOne", desc := "(I)I" } : Jvm.MethodName)) ∈ xT := xt_4 (i := 88) (by decide +kernel) rfl
theorem w_809 : (Jvm.Cond.selects "DiagramHouse$Functions" ({ cls := "DiagramHouse$Functions", name := "firstOne", desc := "(I)I" } : Jvm.MethodName) ({ cls := "DiagramHouse$Functions", name := "firstOne", desc := "(I)I" } : Jvm.MethodName)) ∈ xT := xt_4 (i := 89) (by decide +kernel) rfl
theorem w_810 : (Jvm.Cond.code ({ cls := "DiagramHouse$Functions", name := "firstOne", desc := "(I)I" } : Jvm.MethodName) prog_4_method_22_code (5 : Nat) (Option.some Jvm.ClassFile.FieldType.int)) ∈ xT := xt_4 (i := 90) (by decide +kernel) rfl
theorem w_811 : (Jvm.Cond.methodLink "DiagramHouse$Functions" (89 : Nat) ({ cls := "java/lang/Long", name := "numberOfTrailingZeros", desc := "(J)I" } : Jvm.MethodName)) ∈ xT := xt_4 (i := 91) (by decide +kernel) rfl
theorem w_812 : (Jvm.Cond.static ({ cls := "java/lang/Long", name := "numberOfTrailingZeros", desc := "(J)I" } : Jvm.MethodName)) ∈ xT := xt_4 (i := 92) (by decide +kernel) rfl
theorem w_813 : (Jvm.Cond.code ({ cls := "java/lang/Long", name := "numberOfTrailingZeros", desc := "(J)I" } : Jvm.MethodName) prog_13_method_49_code (3 : Nat) (Option.some Jvm.ClassFile.FieldType.int)) ∈ xT := xt_4 (i := 93) (by decide +kernel) rfl
theorem w_814 : (Jvm.Cond.methodLink "java/lang/Long" (311 : Nat) ({ cls := "java/lang/Integer", name := "numberOfTrailingZeros", desc := "(I)I" } : Jvm.MethodName)) ∈ xT := xt_4 (i := 94) (by decide +kernel) rfl
theorem w_815 : (Jvm.Cond.methodLink "DiagramHouseLaw" (141 : Nat) ({ cls := "DiagramHouseLaw", name := "support", desc := "(LDiagramHouse;I[J)I" } : Jvm.MethodName)) ∈ xT := xt_4 (i := 95) (by decide +kernel) rfl
theorem w_816 : (Jvm.Cond.static ({ cls := "DiagramHouseLaw", name := "support", desc := "(LDiagramHouse;I[J)I" } : Jvm.MethodName)) ∈ xT := xt_4 (i := 96) (by decide +kernel) rfl
theorem w_817 : (Jvm.Cond.codeWith ({ cls := "DiagramHouseLaw", name := "support", desc := "(LDiagramHouse;I[J)I" } : Jvm.MethodName) method_18_code (4 : Nat) (Option.some Jvm.ClassFile.FieldType.int) [((0 : Nat), (9 : Nat), (12 : Nat), (13 : Nat))]) ∈ xT := xt_4 (i := 97) (by decide +kernel) rfl
theorem w_818 : (Jvm.Cond.methodLink "DiagramHouseLaw" (64 : Nat) ({ cls := "DiagramHouse", name := "support", desc := "(I)I" } : Jvm.MethodName)) ∈ xT := xt_4 (i := 98) (by decide +kernel) rfl
theorem w_819 : (Jvm.Cond.instanceMethod ({ cls := "DiagramHouse", name := "support", desc := "(I)I" } : Jvm.MethodName)) ∈ xT := xt_4 (i := 99) (by decide +kernel) rfl
theorem w_820 : (Jvm.Cond.selects "DiagramHouse" ({ cls := "DiagramHouse", name := "support", desc := "(I)I" } : Jvm.MethodName) ({ cls := "DiagramHouse", name := "support", desc := "(I)I" } : Jvm.MethodName)) ∈ xT := xt_4 (i := 100) (by decide +kernel) rfl
theorem w_821 : (Jvm.Cond.code ({ cls := "DiagramHouse", name := "support", desc := "(I)I" } : Jvm.MethodName) prog_1_method_18_code (2 : Nat) (Option.some Jvm.ClassFile.FieldType.int)) ∈ xT := xt_4 (i := 101) (by decide +kernel) rfl
theorem w_822 : (Jvm.Cond.methodLink "DiagramHouse" (116 : Nat) ({ cls := "DiagramHouse$Functions", name := "usedInputs", desc := "(I)I" } : Jvm.MethodName)) ∈ xT := xt_4 (i := 102) (by decide +kernel) rfl
theorem w_823 : (Jvm.Cond.methodLink "DiagramHouseLaw" (144 : Nat) ({ cls := "DiagramHouseLaw", name := "alike", desc := "(LDiagramHouse;II[J)I" } : Jvm.MethodName)) ∈ xT := xt_4 (i := 103) (by decide +kernel) rfl
theorem w_824 : (Jvm.Cond.static ({ cls := "DiagramHouseLaw", name := "alike", desc := "(LDiagramHouse;II[J)I" } : Jvm.MethodName)) ∈ xT := xt_4 (i := 104) (by decide +kernel) rfl
theorem w_825 : (Jvm.Cond.codeWith ({ cls := "DiagramHouseLaw", name := "alike", desc := "(LDiagramHouse;II[J)I" } : Jvm.MethodName) method_19_code (5 : Nat) (Option.some Jvm.ClassFile.FieldType.int) [((0 : Nat), (17 : Nat), (20 : Nat), (13 : Nat))]) ∈ xT := xt_4 (i := 105) (by decide +kernel) rfl
theorem w_826 : (Jvm.Cond.methodLink "DiagramHouseLaw" (67 : Nat) ({ cls := "DiagramHouse", name := "alike", desc := "(II)Z" } : Jvm.MethodName)) ∈ xT := xt_4 (i := 106) (by decide +kernel) rfl
theorem w_827 : (Jvm.Cond.instanceMethod ({ cls := "DiagramHouse", name := "alike", desc := "(II)Z" } : Jvm.MethodName)) ∈ xT := xt_4 (i := 107) (by decide +kernel) rfl
theorem w_828 : (Jvm.Cond.selects "DiagramHouse" ({ cls := "DiagramHouse", name := "alike", desc := "(II)Z" } : Jvm.MethodName) ({ cls := "DiagramHouse", name := "alike", desc := "(II)Z" } : Jvm.MethodName)) ∈ xT := xt_4 (i := 108) (by decide +kernel) rfl
theorem w_829 : (Jvm.Cond.code ({ cls := "DiagramHouse", name := "alike", desc := "(II)Z" } : Jvm.MethodName) prog_1_method_19_code (3 : Nat) (Option.some Jvm.ClassFile.FieldType.boolean)) ∈ xT := xt_4 (i := 109) (by decide +kernel) rfl
theorem w_830 : (Jvm.Cond.methodLink "DiagramHouse" (119 : Nat) ({ cls := "DiagramHouse$Functions", name := "areSame", desc := "(II)Z" } : Jvm.MethodName)) ∈ xT := xt_4 (i := 110) (by decide +kernel) rfl
theorem w_831 : (Jvm.Cond.instanceMethod ({ cls := "DiagramHouse$Functions", name := "areSame", desc := "(II)Z" } : Jvm.MethodName)) ∈ xT := xt_4 (i := 111) (by decide +kernel) rfl
theorem w_832 : (Jvm.Cond.selects "DiagramHouse$Functions" ({ cls := "DiagramHouse$Functions", name := "areSame", desc := "(II)Z" } : Jvm.MethodName) ({ cls := "DiagramHouse$Functions", name := "areSame", desc := "(II)Z" } : Jvm.MethodName)) ∈ xT := xt_4 (i := 112) (by decide +kernel) rfl
theorem w_833 : (Jvm.Cond.code ({ cls := "DiagramHouse$Functions", name := "areSame", desc := "(II)Z" } : Jvm.MethodName) prog_4_method_23_code (9 : Nat) (Option.some Jvm.ClassFile.FieldType.boolean)) ∈ xT := xt_4 (i := 113) (by decide +kernel) rfl
theorem w_834 : (Jvm.Cond.methodLink "DiagramHouseLaw" (147 : Nat) ({ cls := "DiagramHouseLaw", name := "asked", desc := "(LDiagramHouse;III[J)I" } : Jvm.MethodName)) ∈ xT := xt_4 (i := 114) (by decide +kernel) rfl
theorem w_835 : (Jvm.Cond.static ({ cls := "DiagramHouseLaw", name := "asked", desc := "(LDiagramHouse;III[J)I" } : Jvm.MethodName)) ∈ xT := xt_4 (i := 115) (by decide +kernel) rfl
theorem w_836 : (Jvm.Cond.codeWith ({ cls := "DiagramHouseLaw", name := "asked", desc := "(LDiagramHouse;III[J)I" } : Jvm.MethodName) method_20_code (6 : Nat) (Option.some Jvm.ClassFile.FieldType.int) [((0 : Nat), (12 : Nat), (15 : Nat), (13 : Nat)), ((0 : Nat), (12 : Nat), (19 : Nat), (15 : Nat))]) ∈ xT := xt_4 (i := 116) (by decide +kernel) rfl
theorem w_837 : (Jvm.Cond.methodLink "DiagramHouseLaw" (70 : Nat) ({ cls := "DiagramHouse", name := "asked", desc := "(III)I" } : Jvm.MethodName)) ∈ xT := xt_4 (i := 117) (by decide +kernel) rfl
theorem w_838 : (Jvm.Cond.instanceMethod ({ cls := "DiagramHouse", name := "asked", desc := "(III)I" } : Jvm.MethodName)) ∈ xT := xt_4 (i := 118) (by decide +kernel) rfl
theorem w_839 : (Jvm.Cond.selects "DiagramHouse" ({ cls := "DiagramHouse", name := "asked", desc := "(III)I" } : Jvm.MethodName) ({ cls := "DiagramHouse", name := "asked", desc := "(III)I" } : Jvm.MethodName)) ∈ xT := xt_4 (i := 119) (by decide +kernel) rfl
theorem w_840 : (Jvm.Cond.code ({ cls := "DiagramHouse", name := "asked", desc := "(III)I" } : Jvm.MethodName) prog_1_method_20_code (4 : Nat) (Option.some Jvm.ClassFile.FieldType.int)) ∈ xT := xt_4 (i := 120) (by decide +kernel) rfl
theorem w_842 : (Jvm.Cond.methodLink "DiagramHouse" (125 : Nat) ({ cls := "DiagramHouse$Diagrams", name := "questionOf", desc := "(III)I" } : Jvm.MethodName)) ∈ xT := xt_4 (i := 122) (by decide +kernel) rfl
theorem w_843 : (Jvm.Cond.instanceMethod ({ cls := "DiagramHouse$Diagrams", name := "questionOf", desc := "(III)I" } : Jvm.MethodName)) ∈ xT := xt_4 (i := 123) (by decide +kernel) rfl
theorem w_844 : (Jvm.Cond.selects "DiagramHouse$Diagrams" ({ cls := "DiagramHouse$Diagrams", name := "questionOf", desc := "(III)I" } : Jvm.MethodName) ({ cls := "DiagramHouse$Diagrams", name := "questionOf", desc := "(III)I" } : Jvm.MethodName)) ∈ xT := xt_4 (i := 124) (by decide +kernel) rfl
theorem w_845 : (Jvm.Cond.code ({ cls := "DiagramHouse$Diagrams", name := "questionOf", desc := "(III)I" } : Jvm.MethodName) prog_2_method_5_code (4 : Nat) (Option.some Jvm.ClassFile.FieldType.int)) ∈ xT := xt_4 (i := 125) (by decide +kernel) rfl
theorem w_846 : (Jvm.Cond.methodLink "DiagramHouse$Diagrams" (81 : Nat) ({ cls := "DiagramHouse$Nodes", name := "questionFrom", desc := "(III)I" } : Jvm.MethodName)) ∈ xT := xt_4 (i := 126) (by decide +kernel) rfl
theorem w_847 : (Jvm.Cond.instanceMethod ({ cls := "DiagramHouse$Nodes", name := "questionFrom", desc := "(III)I" } : Jvm.MethodName)) ∈ xT := xt_4 (i := 127) (by decide +kernel) rfl
theorem w_848 : (Jvm.Cond.selects "DiagramHouse$Nodes" ({ cls := "DiagramHouse$Nodes", name := "questionFrom", desc := "(III)I" } : Jvm.MethodName) ({ cls := "DiagramHouse$Nodes", name := "questionFrom", desc := "(III)I" } : Jvm.MethodName)) ∈ xT := xt_4 (i := 128) (by decide +kernel) rfl
theorem w_849 : (Jvm.Cond.code ({ cls := "DiagramHouse$Nodes", name := "questionFrom", desc := "(III)I" } : Jvm.MethodName) prog_5_method_17_code (8 : Nat) (Option.some Jvm.ClassFile.FieldType.int)) ∈ xT := xt_4 (i := 129) (by decide +kernel) rfl
theorem w_850 : (Jvm.Cond.methodLink "DiagramHouseLaw" (151 : Nat) ({ cls := "DiagramHouseLaw", name := "questions", desc := "(LDiagramHouse;I[J)I" } : Jvm.MethodName)) ∈ xT := xt_4 (i := 130) (by decide +kernel) rfl
theorem w_851 : (Jvm.Cond.static ({ cls := "DiagramHouseLaw", name := "questions", desc := "(LDiagramHouse;I[J)I" } : Jvm.MethodName)) ∈ xT := xt_4 (i := 131) (by decide +kernel) rfl
theorem w_852 : (Jvm.Cond.codeWith ({ cls := "DiagramHouseLaw", name := "questions", desc := "(LDiagramHouse;I[J)I" } : Jvm.MethodName) method_21_code (4 : Nat) (Option.some Jvm.ClassFile.FieldType.int) [((0 : Nat), (9 : Nat), (12 : Nat), (15 : Nat))]) ∈ xT := xt_4 (i := 132) (by decide +kernel) rfl
theorem w_853 : (Jvm.Cond.methodLink "DiagramHouseLaw" (74 : Nat) ({ cls := "DiagramHouse", name := "questions", desc := "(I)I" } : Jvm.MethodName)) ∈ xT := xt_4 (i := 133) (by decide +kernel) rfl
theorem w_854 : (Jvm.Cond.instanceMethod ({ cls := "DiagramHouse", name := "questions", desc := "(I)I" } : Jvm.MethodName)) ∈ xT := xt_4 (i := 134) (by decide +kernel) rfl
theorem w_855 : (Jvm.Cond.selects "DiagramHouse" ({ cls := "DiagramHouse", name := "questions", desc := "(I)I" } : Jvm.MethodName) ({ cls := "DiagramHouse", name := "questions", desc := "(I)I" } : Jvm.MethodName)) ∈ xT := xt_4 (i := 135) (by decide +kernel) rfl
theorem w_856 : (Jvm.Cond.code ({ cls := "DiagramHouse", name := "questions", desc := "(I)I" } : Jvm.MethodName) prog_1_method_21_code (2 : Nat) (Option.some Jvm.ClassFile.FieldType.int)) ∈ xT := xt_4 (i := 136) (by decide +kernel) rfl
theorem w_857 : (Jvm.Cond.methodLink "DiagramHouse" (129 : Nat) ({ cls := "DiagramHouse$Diagrams", name := "questionsFor", desc := "(I)I" } : Jvm.MethodName)) ∈ xT := xt_4 (i := 137) (by decide +kernel) rfl
theorem w_858 : (Jvm.Cond.instanceMethod ({ cls := "DiagramHouse$Diagrams", name := "questionsFor", desc := "(I)I" } : Jvm.MethodName)) ∈ xT := xt_4 (i := 138) (by decide +kernel) rfl
theorem w_859 : (Jvm.Cond.selects "DiagramHouse$Diagrams" ({ cls := "DiagramHouse$Diagrams", name := "questionsFor", desc := "(I)I" } : Jvm.MethodName) ({ cls := "DiagramHouse$Diagrams", name := "questionsFor", desc := "(I)I" } : Jvm.MethodName)) ∈ xT := xt_4 (i := 139) (by decide +kernel) rfl
theorem w_860 : (Jvm.Cond.code ({ cls := "DiagramHouse$Diagrams", name := "questionsFor", desc := "(I)I" } : Jvm.MethodName) prog_2_method_8_code (2 : Nat) (Option.some Jvm.ClassFile.FieldType.int)) ∈ xT := xt_4 (i := 140) (by decide +kernel) rfl
theorem w_861 : (Jvm.Cond.classLink "DiagramHouseLaw" (78 : Nat) "DiagramHouseModel") ∈ xT := xt_4 (i := 141) (by decide +kernel) rfl
theorem w_862 : (Jvm.Cond.instantiable "DiagramHouseModel" (14 : Nat)) ∈ xT := xt_4 (i := 142) (by decide +kernel) rfl
theorem w_863 : (Jvm.Cond.methodLink "DiagramHouseLaw" (80 : Nat) ({ cls := "DiagramHouseModel", name := "<init>", desc := "()V" } : Jvm.MethodName)) ∈ xT := xt_4 (i := 143) (by decide +kernel) rfl
theorem w_864 : (Jvm.Cond.instanceMethod ({ cls := "DiagramHouseModel", name := "<init>", desc := "()V" } : Jvm.MethodName)) ∈ xT := xt_4 (i := 144) (by decide +kernel) rfl
theorem w_865 : (Jvm.Cond.code ({ cls := "DiagramHouseModel", name := "<init>", desc := "()V" } : Jvm.MethodName) prog_8_method_1_code (2 : Nat) (Option.none : Option Jvm.ClassFile.FieldType)) ∈ xT := xt_4 (i := 145) (by decide +kernel) rfl
theorem w_866 : (Jvm.Cond.methodLink "DiagramHouseModel" (1 : Nat) ({ cls := "java/lang/Object", name := "<init>", desc := "()V" } : Jvm.MethodName)) ∈ xT := xt_4 (i := 146) (by decide +kernel) rfl
theorem w_867 : (Jvm.Cond.constant "DiagramHouseModel" (29 : Nat) (65536 : Int32)) ∈ xT := xt_4 (i := 147) (by decide +kernel) rfl
theorem w_868 : (Jvm.Cond.fieldLink "DiagramHouseModel" (45 : Nat) "DiagramHouseModel" "thrown" "I") ∈ xT := xt_4 (i := 148) (by decide +kernel) rfl
theorem w_869 : (Jvm.Cond.fieldLink "DiagramHouseModel" (7 : Nat) "DiagramHouseModel" "tables" "[Z") ∈ xT := xt_4 (i := 149) (by decide +kernel) rfl
theorem w_870 : (Jvm.Cond.fieldLink "DiagramHouseModel" (13 : Nat) "DiagramHouseModel" "made" "[Z") ∈ xT := xt_4 (i := 150) (by decide +kernel) rfl
theorem w_871 : (Jvm.Cond.fieldLink "DiagramHouseModel" (16 : Nat) "DiagramHouseModel" "order" "[I") ∈ xT := xt_4 (i := 151) (by decide +kernel) rfl
theorem w_872 : (Jvm.Cond.fieldLink "DiagramHouseModel" (20 : Nat) "DiagramHouseModel" "left" "[I") ∈ xT := xt_4 (i := 152) (by decide +kernel) rfl
theorem w_873 : (Jvm.Cond.fieldLink "DiagramHouseModel" (84 : Nat) "DiagramHouseModel" "pairs" "I") ∈ xT := xt_4 (i := 153) (by decide +kernel) rfl
theorem w_874 : (Jvm.Cond.fieldLink "DiagramHouseModel" (23 : Nat) "DiagramHouseModel" "lows" "[I") ∈ xT := xt_4 (i := 154) (by decide +kernel) rfl
theorem w_875 : (Jvm.Cond.fieldLink "DiagramHouseModel" (26 : Nat) "DiagramHouseModel" "highs" "[I") ∈ xT := xt_4 (i := 155) (by decide +kernel) rfl
theorem w_876 : (Jvm.Cond.fieldLink "DiagramHouseModel" (30 : Nat) "DiagramHouseModel" "slots" "[I") ∈ xT := xt_4 (i := 156) (by decide +kernel) rfl
theorem w_877 : (Jvm.Cond.fieldLink "DiagramHouseModel" (33 : Nat) "DiagramHouseModel" "stamps" "[I") ∈ xT := xt_4 (i := 157) (by decide +kernel) rfl
theorem w_878 : (Jvm.Cond.fieldLink "DiagramHouseModel" (81 : Nat) "DiagramHouseModel" "stamp" "I") ∈ xT := xt_4 (i := 158) (by decide +kernel) rfl
theorem w_879 : (Jvm.Cond.fieldLink "DiagramHouseModel" (36 : Nat) "DiagramHouseModel" "questions" "[I") ∈ xT := xt_4 (i := 159) (by decide +kernel) rfl
theorem w_880 : (Jvm.Cond.fieldLink "DiagramHouseModel" (39 : Nat) "DiagramHouseModel" "kept" "[I") ∈ xT := xt_4 (i := 160) (by decide +kernel) rfl
theorem w_881 : (Jvm.Cond.fieldLink "DiagramHouseModel" (42 : Nat) "DiagramHouseModel" "done" "[Z") ∈ xT := xt_4 (i := 161) (by decide +kernel) rfl
theorem w_882 : (Jvm.Cond.lays "DiagramHouseModel" "DiagramHouseModel" "thrown" "I") ∈ xT := xt_4 (i := 162) (by decide +kernel) rfl
theorem w_883 : (Jvm.Cond.soleField "DiagramHouseModel" "thrown") ∈ xT := xt_4 (i := 163) (by decide +kernel) rfl
theorem w_884 : (Jvm.Cond.laysFinal "DiagramHouseModel" "DiagramHouseModel" "tables" "[Z") ∈ xT := xt_4 (i := 164) (by decide +kernel) rfl
theorem w_885 : (Jvm.Cond.soleField "DiagramHouseModel" "tables") ∈ xT := xt_4 (i := 165) (by decide +kernel) rfl
theorem w_886 : (Jvm.Cond.laysFinal "DiagramHouseModel" "DiagramHouseModel" "made" "[Z") ∈ xT := xt_4 (i := 166) (by decide +kernel) rfl
theorem w_887 : (Jvm.Cond.soleField "DiagramHouseModel" "made") ∈ xT := xt_4 (i := 167) (by decide +kernel) rfl
theorem w_888 : (Jvm.Cond.laysFinal "DiagramHouseModel" "DiagramHouseModel" "order" "[I") ∈ xT := xt_4 (i := 168) (by decide +kernel) rfl
theorem w_889 : (Jvm.Cond.soleField "DiagramHouseModel" "order") ∈ xT := xt_4 (i := 169) (by decide +kernel) rfl
theorem w_890 : (Jvm.Cond.laysFinal "DiagramHouseModel" "DiagramHouseModel" "left" "[I") ∈ xT := xt_4 (i := 170) (by decide +kernel) rfl
theorem w_891 : (Jvm.Cond.soleField "DiagramHouseModel" "left") ∈ xT := xt_4 (i := 171) (by decide +kernel) rfl
theorem w_892 : (Jvm.Cond.lays "DiagramHouseModel" "DiagramHouseModel" "pairs" "I") ∈ xT := xt_4 (i := 172) (by decide +kernel) rfl
theorem w_893 : (Jvm.Cond.soleField "DiagramHouseModel" "pairs") ∈ xT := xt_4 (i := 173) (by decide +kernel) rfl
theorem w_894 : (Jvm.Cond.laysFinal "DiagramHouseModel" "DiagramHouseModel" "lows" "[I") ∈ xT := xt_4 (i := 174) (by decide +kernel) rfl
theorem w_895 : (Jvm.Cond.soleField "DiagramHouseModel" "lows") ∈ xT := xt_4 (i := 175) (by decide +kernel) rfl
theorem w_896 : (Jvm.Cond.laysFinal "DiagramHouseModel" "DiagramHouseModel" "highs" "[I") ∈ xT := xt_4 (i := 176) (by decide +kernel) rfl
theorem w_897 : (Jvm.Cond.soleField "DiagramHouseModel" "highs") ∈ xT := xt_4 (i := 177) (by decide +kernel) rfl
theorem w_898 : (Jvm.Cond.laysFinal "DiagramHouseModel" "DiagramHouseModel" "slots" "[I") ∈ xT := xt_4 (i := 178) (by decide +kernel) rfl
theorem w_899 : (Jvm.Cond.soleField "DiagramHouseModel" "slots") ∈ xT := xt_4 (i := 179) (by decide +kernel) rfl
theorem w_900 : (Jvm.Cond.laysFinal "DiagramHouseModel" "DiagramHouseModel" "stamps" "[I") ∈ xT := xt_4 (i := 180) (by decide +kernel) rfl
theorem w_901 : (Jvm.Cond.soleField "DiagramHouseModel" "stamps") ∈ xT := xt_4 (i := 181) (by decide +kernel) rfl
theorem w_902 : (Jvm.Cond.lays "DiagramHouseModel" "DiagramHouseModel" "stamp" "I") ∈ xT := xt_4 (i := 182) (by decide +kernel) rfl
theorem w_903 : (Jvm.Cond.soleField "DiagramHouseModel" "stamp") ∈ xT := xt_4 (i := 183) (by decide +kernel) rfl
theorem w_904 : (Jvm.Cond.laysFinal "DiagramHouseModel" "DiagramHouseModel" "questions" "[I") ∈ xT := xt_4 (i := 184) (by decide +kernel) rfl
theorem w_905 : (Jvm.Cond.soleField "DiagramHouseModel" "questions") ∈ xT := xt_4 (i := 185) (by decide +kernel) rfl
theorem w_906 : (Jvm.Cond.laysFinal "DiagramHouseModel" "DiagramHouseModel" "kept" "[I") ∈ xT := xt_4 (i := 186) (by decide +kernel) rfl
theorem w_907 : (Jvm.Cond.soleField "DiagramHouseModel" "kept") ∈ xT := xt_4 (i := 187) (by decide +kernel) rfl
theorem w_908 : (Jvm.Cond.laysFinal "DiagramHouseModel" "DiagramHouseModel" "done" "[Z") ∈ xT := xt_4 (i := 188) (by decide +kernel) rfl
theorem w_909 : (Jvm.Cond.soleField "DiagramHouseModel" "done") ∈ xT := xt_4 (i := 189) (by decide +kernel) rfl
theorem w_910 : (Jvm.Cond.superclass "DiagramHouseModel" "java/lang/Object") ∈ xT := xt_4 (i := 190) (by decide +kernel) rfl
theorem w_911 : (Jvm.Cond.arrayClass Jvm.ClassFile.FieldType.boolean) ∈ xT := xt_4 (i := 191) (by decide +kernel) rfl
theorem w_912 : (Jvm.Cond.methodLink "DiagramHouseLaw" (87 : Nat) ({ cls := "DiagramHouseModel", name := "thrown", desc := "()I" } : Jvm.MethodName)) ∈ xT := xt_4 (i := 192) (by decide +kernel) rfl
theorem w_913 : (Jvm.Cond.instanceMethod ({ cls := "DiagramHouseModel", name := "thrown", desc := "()I" } : Jvm.MethodName)) ∈ xT := xt_4 (i := 193) (by decide +kernel) rfl
theorem w_914 : (Jvm.Cond.selects "DiagramHouseModel" ({ cls := "DiagramHouseModel", name := "thrown", desc := "()I" } : Jvm.MethodName) ({ cls := "DiagramHouseModel", name := "thrown", desc := "()I" } : Jvm.MethodName)) ∈ xT := xt_4 (i := 194) (by decide +kernel) rfl
theorem w_915 : (Jvm.Cond.code ({ cls := "DiagramHouseModel", name := "thrown", desc := "()I" } : Jvm.MethodName) prog_8_method_2_code (1 : Nat) (Option.some Jvm.ClassFile.FieldType.int)) ∈ xT := xt_4 (i := 195) (by decide +kernel) rfl
theorem w_916 : (Jvm.Cond.methodLink "DiagramHouseLaw" (86 : Nat) ({ cls := "DiagramHouseModel", name := "constant", desc := "(II)V" } : Jvm.MethodName)) ∈ xT := xt_4 (i := 196) (by decide +kernel) rfl
theorem w_917 : (Jvm.Cond.instanceMethod ({ cls := "DiagramHouseModel", name := "constant", desc := "(II)V" } : Jvm.MethodName)) ∈ xT := xt_4 (i := 197) (by decide +kernel) rfl
theorem w_918 : (Jvm.Cond.selects "DiagramHouseModel" ({ cls := "DiagramHouseModel", name := "constant", desc := "(II)V" } : Jvm.MethodName) ({ cls := "DiagramHouseModel", name := "constant", desc := "(II)V" } : Jvm.MethodName)) ∈ xT := xt_4 (i := 198) (by decide +kernel) rfl
theorem w_919 : (Jvm.Cond.code ({ cls := "DiagramHouseModel", name := "constant", desc := "(II)V" } : Jvm.MethodName) prog_8_method_9_code (4 : Nat) (Option.none : Option Jvm.ClassFile.FieldType)) ∈ xT := xt_4 (i := 199) (by decide +kernel) rfl
theorem w_920 : (Jvm.Cond.methodLink "DiagramHouseModel" (53 : Nat) ({ cls := "DiagramHouseModel", name := "isPlace", desc := "(I)Z" } : Jvm.MethodName)) ∈ xT := xt_4 (i := 200) (by decide +kernel) rfl
theorem w_921 : (Jvm.Cond.static ({ cls := "DiagramHouseModel", name := "isPlace", desc := "(I)Z" } : Jvm.MethodName)) ∈ xT := xt_4 (i := 201) (by decide +kernel) rfl
theorem w_922 : (Jvm.Cond.code ({ cls := "DiagramHouseModel", name := "isPlace", desc := "(I)Z" } : Jvm.MethodName) prog_8_method_5_code (1 : Nat) (Option.some Jvm.ClassFile.FieldType.boolean)) ∈ xT := xt_4 (i := 202) (by decide +kernel) rfl
theorem w_923 : (Jvm.Cond.methodLink "DiagramHouseModel" (49 : Nat) ({ cls := "DiagramHouseModel", name := "in", desc := "(III)Z" } : Jvm.MethodName)) ∈ xT := xt_4 (i := 203) (by decide +kernel) rfl
theorem w_924 : (Jvm.Cond.static ({ cls := "DiagramHouseModel", name := "in", desc := "(III)Z" } : Jvm.MethodName)) ∈ xT := xt_4 (i := 204) (by decide +kernel) rfl
theorem w_925 : (Jvm.Cond.code ({ cls := "DiagramHouseModel", name := "in", desc := "(III)Z" } : Jvm.MethodName) prog_8_method_4_code (3 : Nat) (Option.some Jvm.ClassFile.FieldType.boolean)) ∈ xT := xt_4 (i := 205) (by decide +kernel) rfl
theorem w_926 : (Jvm.Cond.methodLink "DiagramHouseModel" (57 : Nat) ({ cls := "DiagramHouseModel", name := "refuse", desc := "(ZZ)Z" } : Jvm.MethodName)) ∈ xT := xt_4 (i := 206) (by decide +kernel) rfl
theorem w_928 : (Jvm.Cond.instanceMethod ({ cls := "DiagramHouseModel", name := "refuse", desc := "(ZZ)Z" } : Jvm.MethodName)) ∈ xT := xt_4 (i := 208) (by decide +kernel) rfl
theorem w_929 : (Jvm.Cond.code ({ cls := "DiagramHouseModel", name := "refuse", desc := "(ZZ)Z" } : Jvm.MethodName) prog_8_method_3_code (3 : Nat) (Option.some Jvm.ClassFile.FieldType.boolean)) ∈ xT := xt_4 (i := 209) (by decide +kernel) rfl
theorem w_930 : (Jvm.Cond.methodLink "DiagramHouseLaw" (93 : Nat) ({ cls := "DiagramHouseModel", name := "input", desc := "(II)V" } : Jvm.MethodName)) ∈ xT := xt_4 (i := 210) (by decide +kernel) rfl
theorem w_931 : (Jvm.Cond.instanceMethod ({ cls := "DiagramHouseModel", name := "input", desc := "(II)V" } : Jvm.MethodName)) ∈ xT := xt_4 (i := 211) (by decide +kernel) rfl
theorem w_932 : (Jvm.Cond.selects "DiagramHouseModel" ({ cls := "DiagramHouseModel", name := "input", desc := "(II)V" } : Jvm.MethodName) ({ cls := "DiagramHouseModel", name := "input", desc := "(II)V" } : Jvm.MethodName)) ∈ xT := xt_4 (i := 212) (by decide +kernel) rfl
theorem w_933 : (Jvm.Cond.code ({ cls := "DiagramHouseModel", name := "input", desc := "(II)V" } : Jvm.MethodName) prog_8_method_10_code (4 : Nat) (Option.none : Option Jvm.ClassFile.FieldType)) ∈ xT := xt_4 (i := 213) (by decide +kernel) rfl
theorem w_934 : (Jvm.Cond.methodLink "DiagramHouseModel" (61 : Nat) ({ cls := "DiagramHouseModel", name := "isInput", desc := "(I)Z" } : Jvm.MethodName)) ∈ xT := xt_4 (i := 214) (by decide +kernel) rfl
theorem w_935 : (Jvm.Cond.static ({ cls := "DiagramHouseModel", name := "isInput", desc := "(I)Z" } : Jvm.MethodName)) ∈ xT := xt_4 (i := 215) (by decide +kernel) rfl
theorem w_936 : (Jvm.Cond.code ({ cls := "DiagramHouseModel", name := "isInput", desc := "(I)Z" } : Jvm.MethodName) prog_8_method_6_code (1 : Nat) (Option.some Jvm.ClassFile.FieldType.boolean)) ∈ xT := xt_4 (i := 216) (by decide +kernel) rfl
theorem w_937 : (Jvm.Cond.methodLink "DiagramHouseLaw" (97 : Nat) ({ cls := "DiagramHouseModel", name := "make", desc := "(IIII)V" } : Jvm.MethodName)) ∈ xT := xt_4 (i := 217) (by decide +kernel) rfl
theorem w_938 : (Jvm.Cond.instanceMethod ({ cls := "DiagramHouseModel", name := "make", desc := "(IIII)V" } : Jvm.MethodName)) ∈ xT := xt_4 (i := 218) (by decide +kernel) rfl
theorem w_939 : (Jvm.Cond.selects "DiagramHouseModel" ({ cls := "DiagramHouseModel", name := "make", desc := "(IIII)V" } : Jvm.MethodName) ({ cls := "DiagramHouseModel", name := "make", desc := "(IIII)V" } : Jvm.MethodName)) ∈ xT := xt_4 (i := 219) (by decide +kernel) rfl
theorem w_940 : (Jvm.Cond.code ({ cls := "DiagramHouseModel", name := "make", desc := "(IIII)V" } : Jvm.MethodName) prog_8_method_12_code (7 : Nat) (Option.none : Option Jvm.ClassFile.FieldType)) ∈ xT := xt_4 (i := 220) (by decide +kernel) rfl
theorem w_941 : (Jvm.Cond.methodLink "DiagramHouseModel" (64 : Nat) ({ cls := "DiagramHouseModel", name := "is", desc := "(II)Z" } : Jvm.MethodName)) ∈ xT := xt_4 (i := 221) (by decide +kernel) rfl
theorem w_943 : (Jvm.Cond.instanceMethod ({ cls := "DiagramHouseModel", name := "is", desc := "(II)Z" } : Jvm.MethodName)) ∈ xT := xt_4 (i := 223) (by decide +kernel) rfl
theorem w_944 : (Jvm.Cond.code ({ cls := "DiagramHouseModel", name := "is", desc := "(II)Z" } : Jvm.MethodName) prog_8_method_7_code (3 : Nat) (Option.some Jvm.ClassFile.FieldType.boolean)) ∈ xT := xt_4 (i := 224) (by decide +kernel) rfl
theorem w_945 : (Jvm.Cond.methodLink "DiagramHouseModel" (68 : Nat) ({ cls := "DiagramHouseModel", name := "two", desc := "(IZZ)Z" } : Jvm.MethodName)) ∈ xT := xt_4 (i := 225) (by decide +kernel) rfl
theorem w_946 : (Jvm.Cond.static ({ cls := "DiagramHouseModel", name := "two", desc := "(IZZ)Z" } : Jvm.MethodName)) ∈ xT := xt_4 (i := 226) (by decide +kernel) rfl
theorem w_947 : (Jvm.Cond.code ({ cls := "DiagramHouseModel", name := "two", desc := "(IZZ)Z" } : Jvm.MethodName) prog_8_method_11_code (3 : Nat) (Option.some Jvm.ClassFile.FieldType.boolean)) ∈ xT := xt_4 (i := 227) (by decide +kernel) rfl
theorem w_948 : (Jvm.Cond.methodLink "DiagramHouseModel" (72 : Nat) ({ cls := "DiagramHouseModel", name := "take", desc := "(I)V" } : Jvm.MethodName)) ∈ xT := xt_4 (i := 228) (by decide +kernel) rfl
theorem w_950 : (Jvm.Cond.instanceMethod ({ cls := "DiagramHouseModel", name := "take", desc := "(I)V" } : Jvm.MethodName)) ∈ xT := xt_4 (i := 230) (by decide +kernel) rfl
theorem w_951 : (Jvm.Cond.code ({ cls := "DiagramHouseModel", name := "take", desc := "(I)V" } : Jvm.MethodName) prog_8_method_8_code (3 : Nat) (Option.none : Option Jvm.ClassFile.FieldType)) ∈ xT := xt_4 (i := 231) (by decide +kernel) rfl
theorem w_952 : (Jvm.Cond.methodLink "DiagramHouseLaw" (100 : Nat) ({ cls := "DiagramHouseModel", name := "choose", desc := "(IIII)V" } : Jvm.MethodName)) ∈ xT := xt_4 (i := 232) (by decide +kernel) rfl
theorem w_953 : (Jvm.Cond.instanceMethod ({ cls := "DiagramHouseModel", name := "choose", desc := "(IIII)V" } : Jvm.MethodName)) ∈ xT := xt_4 (i := 233) (by decide +kernel) rfl
theorem w_954 : (Jvm.Cond.selects "DiagramHouseModel" ({ cls := "DiagramHouseModel", name := "choose", desc := "(IIII)V" } : Jvm.MethodName) ({ cls := "DiagramHouseModel", name := "choose", desc := "(IIII)V" } : Jvm.MethodName)) ∈ xT := xt_4 (i := 234) (by decide +kernel) rfl
theorem w_955 : (Jvm.Cond.code ({ cls := "DiagramHouseModel", name := "choose", desc := "(IIII)V" } : Jvm.MethodName) prog_8_method_13_code (6 : Nat) (Option.none : Option Jvm.ClassFile.FieldType)) ∈ xT := xt_4 (i := 235) (by decide +kernel) rfl
theorem w_956 : (Jvm.Cond.methodLink "DiagramHouseLaw" (103 : Nat) ({ cls := "DiagramHouseModel", name := "fix", desc := "(IIII)V" } : Jvm.MethodName)) ∈ xT := xt_4 (i := 236) (by decide +kernel) rfl
theorem w_957 : (Jvm.Cond.instanceMethod ({ cls := "DiagramHouseModel", name := "fix", desc := "(IIII)V" } : Jvm.MethodName)) ∈ xT := xt_4 (i := 237) (by decide +kernel) rfl
theorem w_958 : (Jvm.Cond.selects "DiagramHouseModel" ({ cls := "DiagramHouseModel", name := "fix", desc := "(IIII)V" } : Jvm.MethodName) ({ cls := "DiagramHouseModel", name := "fix", desc := "(IIII)V" } : Jvm.MethodName)) ∈ xT := xt_4 (i := 238) (by decide +kernel) rfl
theorem w_959 : (Jvm.Cond.code ({ cls := "DiagramHouseModel", name := "fix", desc := "(IIII)V" } : Jvm.MethodName) prog_8_method_14_code (7 : Nat) (Option.none : Option Jvm.ClassFile.FieldType)) ∈ xT := xt_4 (i := 239) (by decide +kernel) rfl
theorem w_960 : (Jvm.Cond.methodLink "DiagramHouseLaw" (106 : Nat) ({ cls := "DiagramHouseModel", name := "compose", desc := "(IIII)V" } : Jvm.MethodName)) ∈ xT := xt_5 (i := 0) (by decide +kernel) rfl
theorem w_961 : (Jvm.Cond.instanceMethod ({ cls := "DiagramHouseModel", name := "compose", desc := "(IIII)V" } : Jvm.MethodName)) ∈ xT := xt_5 (i := 1) (by decide +kernel) rfl
theorem w_962 : (Jvm.Cond.selects "DiagramHouseModel" ({ cls := "DiagramHouseModel", name := "compose", desc := "(IIII)V" } : Jvm.MethodName) ({ cls := "DiagramHouseModel", name := "compose", desc := "(IIII)V" } : Jvm.MethodName)) ∈ xT := xt_5 (i := 2) (by decide +kernel) rfl
theorem w_963 : (Jvm.Cond.code ({ cls := "DiagramHouseModel", name := "compose", desc := "(IIII)V" } : Jvm.MethodName) prog_8_method_15_code (7 : Nat) (Option.none : Option Jvm.ClassFile.FieldType)) ∈ xT := xt_5 (i := 3) (by decide +kernel) rfl
theorem w_964 : (Jvm.Cond.methodLink "DiagramHouseLaw" (110 : Nat) ({ cls := "DiagramHouseModel", name := "quantify", desc := "(IIIZ)V" } : Jvm.MethodName)) ∈ xT := xt_5 (i := 4) (by decide +kernel) rfl
theorem w_965 : (Jvm.Cond.instanceMethod ({ cls := "DiagramHouseModel", name := "quantify", desc := "(IIIZ)V" } : Jvm.MethodName)) ∈ xT := xt_5 (i := 5) (by decide +kernel) rfl
theorem w_966 : (Jvm.Cond.selects "DiagramHouseModel" ({ cls := "DiagramHouseModel", name := "quantify", desc := "(IIIZ)V" } : Jvm.MethodName) ({ cls := "DiagramHouseModel", name := "quantify", desc := "(IIIZ)V" } : Jvm.MethodName)) ∈ xT := xt_5 (i := 6) (by decide +kernel) rfl
theorem w_967 : (Jvm.Cond.code ({ cls := "DiagramHouseModel", name := "quantify", desc := "(IIIZ)V" } : Jvm.MethodName) prog_8_method_17_code (7 : Nat) (Option.none : Option Jvm.ClassFile.FieldType)) ∈ xT := xt_5 (i := 7) (by decide +kernel) rfl
theorem w_968 : (Jvm.Cond.methodLink "DiagramHouseModel" (76 : Nat) ({ cls := "DiagramHouseModel", name := "quantifyMade", desc := "(IZ)V" } : Jvm.MethodName)) ∈ xT := xt_5 (i := 8) (by decide +kernel) rfl
theorem w_970 : (Jvm.Cond.instanceMethod ({ cls := "DiagramHouseModel", name := "quantifyMade", desc := "(IZ)V" } : Jvm.MethodName)) ∈ xT := xt_5 (i := 10) (by decide +kernel) rfl
theorem w_971 : (Jvm.Cond.code ({ cls := "DiagramHouseModel", name := "quantifyMade", desc := "(IZ)V" } : Jvm.MethodName) prog_8_method_16_code (7 : Nat) (Option.none : Option Jvm.ClassFile.FieldType)) ∈ xT := xt_5 (i := 11) (by decide +kernel) rfl
theorem w_972 : (Jvm.Cond.methodLink "DiagramHouseLaw" (113 : Nat) ({ cls := "DiagramHouseModel", name := "meet", desc := "(IIII)V" } : Jvm.MethodName)) ∈ xT := xt_5 (i := 12) (by decide +kernel) rfl
theorem w_973 : (Jvm.Cond.instanceMethod ({ cls := "DiagramHouseModel", name := "meet", desc := "(IIII)V" } : Jvm.MethodName)) ∈ xT := xt_5 (i := 13) (by decide +kernel) rfl
theorem w_974 : (Jvm.Cond.selects "DiagramHouseModel" ({ cls := "DiagramHouseModel", name := "meet", desc := "(IIII)V" } : Jvm.MethodName) ({ cls := "DiagramHouseModel", name := "meet", desc := "(IIII)V" } : Jvm.MethodName)) ∈ xT := xt_5 (i := 14) (by decide +kernel) rfl
theorem w_975 : (Jvm.Cond.code ({ cls := "DiagramHouseModel", name := "meet", desc := "(IIII)V" } : Jvm.MethodName) prog_8_method_18_code (7 : Nat) (Option.none : Option Jvm.ClassFile.FieldType)) ∈ xT := xt_5 (i := 15) (by decide +kernel) rfl
theorem w_976 : (Jvm.Cond.methodLink "DiagramHouseLaw" (131 : Nat) ({ cls := "DiagramHouseModel", name := "size", desc := "(I)I" } : Jvm.MethodName)) ∈ xT := xt_5 (i := 16) (by decide +kernel) rfl
theorem w_977 : (Jvm.Cond.instanceMethod ({ cls := "DiagramHouseModel", name := "size", desc := "(I)I" } : Jvm.MethodName)) ∈ xT := xt_5 (i := 17) (by decide +kernel) rfl
theorem w_978 : (Jvm.Cond.selects "DiagramHouseModel" ({ cls := "DiagramHouseModel", name := "size", desc := "(I)I" } : Jvm.MethodName) ({ cls := "DiagramHouseModel", name := "size", desc := "(I)I" } : Jvm.MethodName)) ∈ xT := xt_5 (i := 18) (by decide +kernel) rfl
theorem w_979 : (Jvm.Cond.code ({ cls := "DiagramHouseModel", name := "size", desc := "(I)I" } : Jvm.MethodName) prog_8_method_23_code (2 : Nat) (Option.some Jvm.ClassFile.FieldType.int)) ∈ xT := xt_5 (i := 19) (by decide +kernel) rfl
theorem w_980 : (Jvm.Cond.methodLink "DiagramHouseModel" (98 : Nat) ({ cls := "DiagramHouseModel", name := "whole", desc := "()I" } : Jvm.MethodName)) ∈ xT := xt_5 (i := 20) (by decide +kernel) rfl
theorem w_982 : (Jvm.Cond.instanceMethod ({ cls := "DiagramHouseModel", name := "whole", desc := "()I" } : Jvm.MethodName)) ∈ xT := xt_5 (i := 22) (by decide +kernel) rfl
theorem w_983 : (Jvm.Cond.code ({ cls := "DiagramHouseModel", name := "whole", desc := "()I" } : Jvm.MethodName) prog_8_method_22_code (1 : Nat) (Option.some Jvm.ClassFile.FieldType.int)) ∈ xT := xt_5 (i := 23) (by decide +kernel) rfl
theorem w_984 : (Jvm.Cond.methodLink "DiagramHouseModel" (95 : Nat) ({ cls := "DiagramHouseModel", name := "countQuestions", desc := "(II)I" } : Jvm.MethodName)) ∈ xT := xt_5 (i := 24) (by decide +kernel) rfl
theorem w_986 : (Jvm.Cond.instanceMethod ({ cls := "DiagramHouseModel", name := "countQuestions", desc := "(II)I" } : Jvm.MethodName)) ∈ xT := xt_5 (i := 26) (by decide +kernel) rfl
theorem w_987 : (Jvm.Cond.code ({ cls := "DiagramHouseModel", name := "countQuestions", desc := "(II)I" } : Jvm.MethodName) prog_8_method_21_code (9 : Nat) (Option.some Jvm.ClassFile.FieldType.int)) ∈ xT := xt_5 (i := 27) (by decide +kernel) rfl
theorem w_988 : (Jvm.Cond.methodLink "DiagramHouseModel" (87 : Nat) ({ cls := "DiagramHouseModel", name := "inputsOf", desc := "(I)I" } : Jvm.MethodName)) ∈ xT := xt_5 (i := 28) (by decide +kernel) rfl
theorem w_990 : (Jvm.Cond.instanceMethod ({ cls := "DiagramHouseModel", name := "inputsOf", desc := "(I)I" } : Jvm.MethodName)) ∈ xT := xt_5 (i := 30) (by decide +kernel) rfl
theorem w_991 : (Jvm.Cond.code ({ cls := "DiagramHouseModel", name := "inputsOf", desc := "(I)I" } : Jvm.MethodName) prog_8_method_19_code (4 : Nat) (Option.some Jvm.ClassFile.FieldType.int)) ∈ xT := xt_5 (i := 31) (by decide +kernel) rfl
theorem w_992 : (Jvm.Cond.methodLink "DiagramHouseModel" (91 : Nat) ({ cls := "DiagramHouseModel", name := "pair", desc := "(II)I" } : Jvm.MethodName)) ∈ xT := xt_5 (i := 32) (by decide +kernel) rfl
theorem w_994 : (Jvm.Cond.instanceMethod ({ cls := "DiagramHouseModel", name := "pair", desc := "(II)I" } : Jvm.MethodName)) ∈ xT := xt_5 (i := 34) (by decide +kernel) rfl
theorem w_995 : (Jvm.Cond.code ({ cls := "DiagramHouseModel", name := "pair", desc := "(II)I" } : Jvm.MethodName) prog_8_method_20_code (5 : Nat) (Option.some Jvm.ClassFile.FieldType.int)) ∈ xT := xt_5 (i := 35) (by decide +kernel) rfl
theorem w_996 : (Jvm.Cond.constant "DiagramHouseModel" (80 : Nat) (65535 : Int32)) ∈ xT := xt_5 (i := 36) (by decide +kernel) rfl
theorem w_997 : (Jvm.Cond.methodLink "DiagramHouseLaw" (153 : Nat) ({ cls := "DiagramHouseModel", name := "questions", desc := "(I)I" } : Jvm.MethodName)) ∈ xT := xt_5 (i := 37) (by decide +kernel) rfl
theorem w_998 : (Jvm.Cond.instanceMethod ({ cls := "DiagramHouseModel", name := "questions", desc := "(I)I" } : Jvm.MethodName)) ∈ xT := xt_5 (i := 38) (by decide +kernel) rfl
theorem w_999 : (Jvm.Cond.selects "DiagramHouseModel" ({ cls := "DiagramHouseModel", name := "questions", desc := "(I)I" } : Jvm.MethodName) ({ cls := "DiagramHouseModel", name := "questions", desc := "(I)I" } : Jvm.MethodName)) ∈ xT := xt_5 (i := 39) (by decide +kernel) rfl
theorem w_1000 : (Jvm.Cond.code ({ cls := "DiagramHouseModel", name := "questions", desc := "(I)I" } : Jvm.MethodName) prog_8_method_24_code (2 : Nat) (Option.some Jvm.ClassFile.FieldType.int)) ∈ xT := xt_5 (i := 40) (by decide +kernel) rfl
theorem w_1001 : (Jvm.Cond.methodLink "DiagramHouseLaw" (117 : Nat) ({ cls := "DiagramHouseModel", name := "move", desc := "(II)I" } : Jvm.MethodName)) ∈ xT := xt_5 (i := 41) (by decide +kernel) rfl
theorem w_1002 : (Jvm.Cond.instanceMethod ({ cls := "DiagramHouseModel", name := "move", desc := "(II)I" } : Jvm.MethodName)) ∈ xT := xt_5 (i := 42) (by decide +kernel) rfl
theorem w_1003 : (Jvm.Cond.selects "DiagramHouseModel" ({ cls := "DiagramHouseModel", name := "move", desc := "(II)I" } : Jvm.MethodName) ({ cls := "DiagramHouseModel", name := "move", desc := "(II)I" } : Jvm.MethodName)) ∈ xT := xt_5 (i := 43) (by decide +kernel) rfl
theorem w_1004 : (Jvm.Cond.code ({ cls := "DiagramHouseModel", name := "move", desc := "(II)I" } : Jvm.MethodName) prog_8_method_27_code (3 : Nat) (Option.some Jvm.ClassFile.FieldType.int)) ∈ xT := xt_5 (i := 44) (by decide +kernel) rfl
theorem w_1005 : (Jvm.Cond.methodLink "DiagramHouseModel" (105 : Nat) ({ cls := "DiagramHouseModel", name := "moveTo", desc := "(II)V" } : Jvm.MethodName)) ∈ xT := xt_5 (i := 45) (by decide +kernel) rfl
theorem w_1007 : (Jvm.Cond.instanceMethod ({ cls := "DiagramHouseModel", name := "moveTo", desc := "(II)V" } : Jvm.MethodName)) ∈ xT := xt_5 (i := 47) (by decide +kernel) rfl
theorem w_1008 : (Jvm.Cond.code ({ cls := "DiagramHouseModel", name := "moveTo", desc := "(II)V" } : Jvm.MethodName) prog_8_method_26_code (5 : Nat) (Option.none : Option Jvm.ClassFile.FieldType)) ∈ xT := xt_5 (i := 48) (by decide +kernel) rfl
theorem w_1009 : (Jvm.Cond.methodLink "DiagramHouseModel" (102 : Nat) ({ cls := "DiagramHouseModel", name := "placeOf", desc := "(I)I" } : Jvm.MethodName)) ∈ xT := xt_5 (i := 49) (by decide +kernel) rfl
theorem w_1011 : (Jvm.Cond.instanceMethod ({ cls := "DiagramHouseModel", name := "placeOf", desc := "(I)I" } : Jvm.MethodName)) ∈ xT := xt_5 (i := 51) (by decide +kernel) rfl
theorem w_1012 : (Jvm.Cond.code ({ cls := "DiagramHouseModel", name := "placeOf", desc := "(I)I" } : Jvm.MethodName) prog_8_method_25_code (3 : Nat) (Option.some Jvm.ClassFile.FieldType.int)) ∈ xT := xt_5 (i := 52) (by decide +kernel) rfl
theorem w_1013 : (Jvm.Cond.methodLink "DiagramHouseLaw" (121 : Nat) ({ cls := "DiagramHouseModel", name := "sift", desc := "(I)I" } : Jvm.MethodName)) ∈ xT := xt_5 (i := 53) (by decide +kernel) rfl
theorem w_1014 : (Jvm.Cond.instanceMethod ({ cls := "DiagramHouseModel", name := "sift", desc := "(I)I" } : Jvm.MethodName)) ∈ xT := xt_5 (i := 54) (by decide +kernel) rfl
theorem w_1015 : (Jvm.Cond.selects "DiagramHouseModel" ({ cls := "DiagramHouseModel", name := "sift", desc := "(I)I" } : Jvm.MethodName) ({ cls := "DiagramHouseModel", name := "sift", desc := "(I)I" } : Jvm.MethodName)) ∈ xT := xt_5 (i := 55) (by decide +kernel) rfl
theorem w_1016 : (Jvm.Cond.code ({ cls := "DiagramHouseModel", name := "sift", desc := "(I)I" } : Jvm.MethodName) prog_8_method_29_code (2 : Nat) (Option.some Jvm.ClassFile.FieldType.int)) ∈ xT := xt_5 (i := 56) (by decide +kernel) rfl
theorem w_1017 : (Jvm.Cond.methodLink "DiagramHouseModel" (109 : Nat) ({ cls := "DiagramHouseModel", name := "siftInput", desc := "(I)I" } : Jvm.MethodName)) ∈ xT := xt_5 (i := 57) (by decide +kernel) rfl
theorem w_1019 : (Jvm.Cond.instanceMethod ({ cls := "DiagramHouseModel", name := "siftInput", desc := "(I)I" } : Jvm.MethodName)) ∈ xT := xt_5 (i := 59) (by decide +kernel) rfl
theorem w_1020 : (Jvm.Cond.code ({ cls := "DiagramHouseModel", name := "siftInput", desc := "(I)I" } : Jvm.MethodName) prog_8_method_28_code (6 : Nat) (Option.some Jvm.ClassFile.FieldType.int)) ∈ xT := xt_5 (i := 60) (by decide +kernel) rfl
theorem w_1021 : (Jvm.Cond.methodLink "DiagramHouseLaw" (125 : Nat) ({ cls := "DiagramHouseModel", name := "siftAll", desc := "()I" } : Jvm.MethodName)) ∈ xT := xt_5 (i := 61) (by decide +kernel) rfl
theorem w_1022 : (Jvm.Cond.instanceMethod ({ cls := "DiagramHouseModel", name := "siftAll", desc := "()I" } : Jvm.MethodName)) ∈ xT := xt_5 (i := 62) (by decide +kernel) rfl
theorem w_1023 : (Jvm.Cond.selects "DiagramHouseModel" ({ cls := "DiagramHouseModel", name := "siftAll", desc := "()I" } : Jvm.MethodName) ({ cls := "DiagramHouseModel", name := "siftAll", desc := "()I" } : Jvm.MethodName)) ∈ xT := xt_5 (i := 63) (by decide +kernel) rfl
theorem w_1024 : (Jvm.Cond.code ({ cls := "DiagramHouseModel", name := "siftAll", desc := "()I" } : Jvm.MethodName) prog_8_method_30_code (4 : Nat) (Option.some Jvm.ClassFile.FieldType.int)) ∈ xT := xt_5 (i := 64) (by decide +kernel) rfl
theorem w_1025 : (Jvm.Cond.methodLink "DiagramHouseLaw" (128 : Nat) ({ cls := "DiagramHouseModel", name := "order", desc := "(I)I" } : Jvm.MethodName)) ∈ xT := xt_5 (i := 65) (by decide +kernel) rfl
theorem w_1026 : (Jvm.Cond.instanceMethod ({ cls := "DiagramHouseModel", name := "order", desc := "(I)I" } : Jvm.MethodName)) ∈ xT := xt_5 (i := 66) (by decide +kernel) rfl
theorem w_1027 : (Jvm.Cond.selects "DiagramHouseModel" ({ cls := "DiagramHouseModel", name := "order", desc := "(I)I" } : Jvm.MethodName) ({ cls := "DiagramHouseModel", name := "order", desc := "(I)I" } : Jvm.MethodName)) ∈ xT := xt_5 (i := 67) (by decide +kernel) rfl
theorem w_1028 : (Jvm.Cond.code ({ cls := "DiagramHouseModel", name := "order", desc := "(I)I" } : Jvm.MethodName) prog_8_method_31_code (2 : Nat) (Option.some Jvm.ClassFile.FieldType.int)) ∈ xT := xt_5 (i := 68) (by decide +kernel) rfl
theorem w_1029 : (Jvm.Cond.methodLink "DiagramHouseLaw" (134 : Nat) ({ cls := "DiagramHouseModel", name := "count", desc := "(I)I" } : Jvm.MethodName)) ∈ xT := xt_5 (i := 69) (by decide +kernel) rfl
theorem w_1030 : (Jvm.Cond.instanceMethod ({ cls := "DiagramHouseModel", name := "count", desc := "(I)I" } : Jvm.MethodName)) ∈ xT := xt_5 (i := 70) (by decide +kernel) rfl
theorem w_1031 : (Jvm.Cond.selects "DiagramHouseModel" ({ cls := "DiagramHouseModel", name := "count", desc := "(I)I" } : Jvm.MethodName) ({ cls := "DiagramHouseModel", name := "count", desc := "(I)I" } : Jvm.MethodName)) ∈ xT := xt_5 (i := 71) (by decide +kernel) rfl
theorem w_1032 : (Jvm.Cond.code ({ cls := "DiagramHouseModel", name := "count", desc := "(I)I" } : Jvm.MethodName) prog_8_method_32_code (4 : Nat) (Option.some Jvm.ClassFile.FieldType.int)) ∈ xT := xt_5 (i := 72) (by decide +kernel) rfl
theorem w_1033 : (Jvm.Cond.methodLink "DiagramHouseLaw" (137 : Nat) ({ cls := "DiagramHouseModel", name := "value", desc := "(II)Z" } : Jvm.MethodName)) ∈ xT := xt_5 (i := 73) (by decide +kernel) rfl
theorem w_1034 : (Jvm.Cond.instanceMethod ({ cls := "DiagramHouseModel", name := "value", desc := "(II)Z" } : Jvm.MethodName)) ∈ xT := xt_5 (i := 74) (by decide +kernel) rfl
theorem w_1035 : (Jvm.Cond.selects "DiagramHouseModel" ({ cls := "DiagramHouseModel", name := "value", desc := "(II)Z" } : Jvm.MethodName) ({ cls := "DiagramHouseModel", name := "value", desc := "(II)Z" } : Jvm.MethodName)) ∈ xT := xt_5 (i := 75) (by decide +kernel) rfl
theorem w_1036 : (Jvm.Cond.code ({ cls := "DiagramHouseModel", name := "value", desc := "(II)Z" } : Jvm.MethodName) prog_8_method_33_code (3 : Nat) (Option.some Jvm.ClassFile.FieldType.boolean)) ∈ xT := xt_5 (i := 76) (by decide +kernel) rfl
theorem w_1037 : (Jvm.Cond.methodLink "DiagramHouseLaw" (140 : Nat) ({ cls := "DiagramHouseModel", name := "least", desc := "(I)I" } : Jvm.MethodName)) ∈ xT := xt_5 (i := 77) (by decide +kernel) rfl
theorem w_1038 : (Jvm.Cond.instanceMethod ({ cls := "DiagramHouseModel", name := "least", desc := "(I)I" } : Jvm.MethodName)) ∈ xT := xt_5 (i := 78) (by decide +kernel) rfl
theorem w_1039 : (Jvm.Cond.selects "DiagramHouseModel" ({ cls := "DiagramHouseModel", name := "least", desc := "(I)I" } : Jvm.MethodName) ({ cls := "DiagramHouseModel", name := "least", desc := "(I)I" } : Jvm.MethodName)) ∈ xT := xt_5 (i := 79) (by decide +kernel) rfl
theorem w_1040 : (Jvm.Cond.code ({ cls := "DiagramHouseModel", name := "least", desc := "(I)I" } : Jvm.MethodName) prog_8_method_34_code (4 : Nat) (Option.some Jvm.ClassFile.FieldType.int)) ∈ xT := xt_5 (i := 80) (by decide +kernel) rfl
theorem w_1041 : (Jvm.Cond.methodLink "DiagramHouseLaw" (143 : Nat) ({ cls := "DiagramHouseModel", name := "support", desc := "(I)I" } : Jvm.MethodName)) ∈ xT := xt_5 (i := 81) (by decide +kernel) rfl
theorem w_1042 : (Jvm.Cond.instanceMethod ({ cls := "DiagramHouseModel", name := "support", desc := "(I)I" } : Jvm.MethodName)) ∈ xT := xt_5 (i := 82) (by decide +kernel) rfl
theorem w_1043 : (Jvm.Cond.selects "DiagramHouseModel" ({ cls := "DiagramHouseModel", name := "support", desc := "(I)I" } : Jvm.MethodName) ({ cls := "DiagramHouseModel", name := "support", desc := "(I)I" } : Jvm.MethodName)) ∈ xT := xt_5 (i := 83) (by decide +kernel) rfl
theorem w_1044 : (Jvm.Cond.code ({ cls := "DiagramHouseModel", name := "support", desc := "(I)I" } : Jvm.MethodName) prog_8_method_35_code (5 : Nat) (Option.some Jvm.ClassFile.FieldType.int)) ∈ xT := xt_5 (i := 84) (by decide +kernel) rfl
theorem w_1045 : (Jvm.Cond.methodLink "DiagramHouseLaw" (146 : Nat) ({ cls := "DiagramHouseModel", name := "alike", desc := "(II)Z" } : Jvm.MethodName)) ∈ xT := xt_5 (i := 85) (by decide +kernel) rfl
theorem w_1046 : (Jvm.Cond.instanceMethod ({ cls := "DiagramHouseModel", name := "alike", desc := "(II)Z" } : Jvm.MethodName)) ∈ xT := xt_5 (i := 86) (by decide +kernel) rfl
theorem w_1047 : (Jvm.Cond.selects "DiagramHouseModel" ({ cls := "DiagramHouseModel", name := "alike", desc := "(II)Z" } : Jvm.MethodName) ({ cls := "DiagramHouseModel", name := "alike", desc := "(II)Z" } : Jvm.MethodName)) ∈ xT := xt_5 (i := 87) (by decide +kernel) rfl
theorem w_1048 : (Jvm.Cond.code ({ cls := "DiagramHouseModel", name := "alike", desc := "(II)Z" } : Jvm.MethodName) prog_8_method_36_code (5 : Nat) (Option.some Jvm.ClassFile.FieldType.boolean)) ∈ xT := xt_5 (i := 88) (by decide +kernel) rfl
theorem w_1049 : (Jvm.Cond.methodLink "DiagramHouseLaw" (150 : Nat) ({ cls := "DiagramHouseModel", name := "asked", desc := "(III)I" } : Jvm.MethodName)) ∈ xT := xt_5 (i := 89) (by decide +kernel) rfl
theorem w_1050 : (Jvm.Cond.instanceMethod ({ cls := "DiagramHouseModel", name := "asked", desc := "(III)I" } : Jvm.MethodName)) ∈ xT := xt_5 (i := 90) (by decide +kernel) rfl
theorem w_1051 : (Jvm.Cond.selects "DiagramHouseModel" ({ cls := "DiagramHouseModel", name := "asked", desc := "(III)I" } : Jvm.MethodName) ({ cls := "DiagramHouseModel", name := "asked", desc := "(III)I" } : Jvm.MethodName)) ∈ xT := xt_5 (i := 91) (by decide +kernel) rfl
theorem w_1052 : (Jvm.Cond.code ({ cls := "DiagramHouseModel", name := "asked", desc := "(III)I" } : Jvm.MethodName) prog_8_method_38_code (7 : Nat) (Option.some Jvm.ClassFile.FieldType.int)) ∈ xT := xt_5 (i := 92) (by decide +kernel) rfl
theorem w_1053 : (Jvm.Cond.methodLink "DiagramHouseModel" (112 : Nat) ({ cls := "DiagramHouseModel", name := "isAsked", desc := "(III)Z" } : Jvm.MethodName)) ∈ xT := xt_5 (i := 93) (by decide +kernel) rfl
theorem w_1055 : (Jvm.Cond.instanceMethod ({ cls := "DiagramHouseModel", name := "isAsked", desc := "(III)Z" } : Jvm.MethodName)) ∈ xT := xt_5 (i := 95) (by decide +kernel) rfl
theorem w_1056 : (Jvm.Cond.code ({ cls := "DiagramHouseModel", name := "isAsked", desc := "(III)Z" } : Jvm.MethodName) prog_8_method_37_code (7 : Nat) (Option.some Jvm.ClassFile.FieldType.boolean)) ∈ xT := xt_5 (i := 96) (by decide +kernel) rfl
theorem w_1057 : (Jvm.Cond.sameMethod "java/lang/Throwable" "java/lang/Throwable" "fillInStackTrace" "(I)Ljava/lang/Throwable;") ∈ xT := xt_5 (i := 97) (by decide +kernel) rfl
theorem wp_0 : Cond.selects "DiagramHouse$Functions" (⟨"DiagramHouse$Functions", "depends", "(II)Z"⟩ : MethodName) (⟨"DiagramHouse$Functions", "depends", "(II)Z"⟩ : MethodName) ∈ xT := xtp (i := 0) (by decide +kernel) (by decide +kernel)
theorem wp_1 : Cond.selects "DiagramHouse$Functions" (⟨"DiagramHouse$Functions", "keptWords", "(I)I"⟩ : MethodName) (⟨"DiagramHouse$Functions", "keptWords", "(I)I"⟩ : MethodName) ∈ xT := xtp (i := 1) (by decide +kernel) (by decide +kernel)
theorem wp_2 : Cond.selects "DiagramHouse$Functions" (⟨"DiagramHouse$Functions", "beSure", "(II)V"⟩ : MethodName) (⟨"DiagramHouse$Functions", "beSure", "(II)V"⟩ : MethodName) ∈ xT := xtp (i := 2) (by decide +kernel) (by decide +kernel)
theorem wp_3 : Cond.selects "DiagramHouse$Nodes" (⟨"DiagramHouse$Nodes", "link", "(I)V"⟩ : MethodName) (⟨"DiagramHouse$Nodes", "link", "(I)V"⟩ : MethodName) ∈ xT := xtp (i := 3) (by decide +kernel) (by decide +kernel)
theorem wp_4 : Cond.selects "DiagramHouse$Nodes" (⟨"DiagramHouse$Nodes", "found", "(I)I"⟩ : MethodName) (⟨"DiagramHouse$Nodes", "found", "(I)I"⟩ : MethodName) ∈ xT := xtp (i := 4) (by decide +kernel) (by decide +kernel)
theorem wp_5 : Cond.selects "DiagramHouse$Nodes" (⟨"DiagramHouse$Nodes", "enlist", "(II)V"⟩ : MethodName) (⟨"DiagramHouse$Nodes", "enlist", "(II)V"⟩ : MethodName) ∈ xT := xtp (i := 5) (by decide +kernel) (by decide +kernel)
theorem wp_6 : Cond.selects "DiagramHouse$Drawing" (⟨"DiagramHouse$Drawing", "ofBits", "(II)I"⟩ : MethodName) (⟨"DiagramHouse$Drawing", "ofBits", "(II)I"⟩ : MethodName) ∈ xT := xtp (i := 6) (by decide +kernel) (by decide +kernel)
theorem wp_7 : Cond.selects "DiagramHouse$Drawing" (⟨"DiagramHouse$Drawing", "folded", "([III)I"⟩ : MethodName) (⟨"DiagramHouse$Drawing", "folded", "([III)I"⟩ : MethodName) ∈ xT := xtp (i := 7) (by decide +kernel) (by decide +kernel)
theorem wp_8 : Cond.selects "DiagramHouse$Drawing" (⟨"DiagramHouse$Drawing", "ofWords", "(II)I"⟩ : MethodName) (⟨"DiagramHouse$Drawing", "ofWords", "(II)I"⟩ : MethodName) ∈ xT := xtp (i := 8) (by decide +kernel) (by decide +kernel)
theorem wp_9 : Cond.selects "DiagramHouse$Drawing" (⟨"DiagramHouse$Drawing", "arrange", "(I)V"⟩ : MethodName) (⟨"DiagramHouse$Drawing", "arrange", "(I)V"⟩ : MethodName) ∈ xT := xtp (i := 9) (by decide +kernel) (by decide +kernel)
theorem wp_10 : Cond.selects "DiagramHouse$Drawing" (⟨"DiagramHouse$Drawing", "exchange", "(II)V"⟩ : MethodName) (⟨"DiagramHouse$Drawing", "exchange", "(II)V"⟩ : MethodName) ∈ xT := xtp (i := 10) (by decide +kernel) (by decide +kernel)
theorem wp_11 : Cond.selects "DiagramHouse$Drawing" (⟨"DiagramHouse$Drawing", "exchangeWithinWords", "(II)V"⟩ : MethodName) (⟨"DiagramHouse$Drawing", "exchangeWithinWords", "(II)V"⟩ : MethodName) ∈ xT := xtp (i := 11) (by decide +kernel) (by decide +kernel)
theorem wp_12 : Cond.selects "DiagramHouse$Drawing" (⟨"DiagramHouse$Drawing", "exchangeAcrossWords", "(II)V"⟩ : MethodName) (⟨"DiagramHouse$Drawing", "exchangeAcrossWords", "(II)V"⟩ : MethodName) ∈ xT := xtp (i := 12) (by decide +kernel) (by decide +kernel)
theorem wp_13 : Cond.selects "DiagramHouse$Drawing" (⟨"DiagramHouse$Drawing", "exchangeWords", "(II)V"⟩ : MethodName) (⟨"DiagramHouse$Drawing", "exchangeWords", "(II)V"⟩ : MethodName) ∈ xT := xtp (i := 13) (by decide +kernel) (by decide +kernel)
theorem wp_14 : Cond.selects "DiagramHouse$Drawing" (⟨"DiagramHouse$Drawing", "ofFour", "(I)I"⟩ : MethodName) (⟨"DiagramHouse$Drawing", "ofFour", "(I)I"⟩ : MethodName) ∈ xT := xtp (i := 14) (by decide +kernel) (by decide +kernel)
theorem wp_15 : Cond.selects "DiagramHouse$Nodes" (⟨"DiagramHouse$Nodes", "leave", "(II)V"⟩ : MethodName) (⟨"DiagramHouse$Nodes", "leave", "(II)V"⟩ : MethodName) ∈ xT := xtp (i := 15) (by decide +kernel) (by decide +kernel)
theorem wp_16 : Cond.selects "DiagramHouse$Nodes" (⟨"DiagramHouse$Nodes", "forget", "(I)V"⟩ : MethodName) (⟨"DiagramHouse$Nodes", "forget", "(I)V"⟩ : MethodName) ∈ xT := xtp (i := 16) (by decide +kernel) (by decide +kernel)
theorem wp_17 : Cond.selects "DiagramHouse$Nodes" (⟨"DiagramHouse$Nodes", "unlink", "(I)V"⟩ : MethodName) (⟨"DiagramHouse$Nodes", "unlink", "(I)V"⟩ : MethodName) ∈ xT := xtp (i := 17) (by decide +kernel) (by decide +kernel)
theorem wp_18 : Cond.selects "DiagramHouse$Diagrams" (⟨"DiagramHouse$Diagrams", "takeOut", "(I)V"⟩ : MethodName) (⟨"DiagramHouse$Diagrams", "takeOut", "(I)V"⟩ : MethodName) ∈ xT := xtp (i := 18) (by decide +kernel) (by decide +kernel)
theorem wp_19 : Cond.selects "DiagramHouse$Diagrams" (⟨"DiagramHouse$Diagrams", "matesOf", "(I)I"⟩ : MethodName) (⟨"DiagramHouse$Diagrams", "matesOf", "(I)I"⟩ : MethodName) ∈ xT := xtp (i := 19) (by decide +kernel) (by decide +kernel)
theorem wp_20 : Cond.selects "DiagramHouse$Diagrams" (⟨"DiagramHouse$Diagrams", "rise", "(II)V"⟩ : MethodName) (⟨"DiagramHouse$Diagrams", "rise", "(II)V"⟩ : MethodName) ∈ xT := xtp (i := 20) (by decide +kernel) (by decide +kernel)
theorem wp_21 : Cond.selects "DiagramHouse$Trial" (⟨"DiagramHouse$Trial", "fitNodes", "()V"⟩ : MethodName) (⟨"DiagramHouse$Trial", "fitNodes", "()V"⟩ : MethodName) ∈ xT := xtp (i := 21) (by decide +kernel) (by decide +kernel)
theorem wp_22 : Cond.selects "DiagramHouse$Trial" (⟨"DiagramHouse$Trial", "start", "(I)V"⟩ : MethodName) (⟨"DiagramHouse$Trial", "start", "(I)V"⟩ : MethodName) ∈ xT := xtp (i := 22) (by decide +kernel) (by decide +kernel)
theorem wp_23 : Cond.selects "DiagramHouse$Diagrams" (⟨"DiagramHouse$Diagrams", "sink", "(II)V"⟩ : MethodName) (⟨"DiagramHouse$Diagrams", "sink", "(II)V"⟩ : MethodName) ∈ xT := xtp (i := 23) (by decide +kernel) (by decide +kernel)
theorem wp_24 : Cond.selects "DiagramHouse$Trial" (⟨"DiagramHouse$Trial", "link", "(III)V"⟩ : MethodName) (⟨"DiagramHouse$Trial", "link", "(III)V"⟩ : MethodName) ∈ xT := xtp (i := 24) (by decide +kernel) (by decide +kernel)
theorem wp_25 : Cond.selects "DiagramHouse$Trial" (⟨"DiagramHouse$Trial", "leadOn", "(III)V"⟩ : MethodName) (⟨"DiagramHouse$Trial", "leadOn", "(III)V"⟩ : MethodName) ∈ xT := xtp (i := 25) (by decide +kernel) (by decide +kernel)
theorem wp_26 : Cond.selects "DiagramHouse$Diagrams" (⟨"DiagramHouse$Diagrams", "pass", "(III)V"⟩ : MethodName) (⟨"DiagramHouse$Diagrams", "pass", "(III)V"⟩ : MethodName) ∈ xT := xtp (i := 26) (by decide +kernel) (by decide +kernel)
theorem wp_27 : Cond.selects "DiagramHouse$Nodes" (⟨"DiagramHouse$Nodes", "takeThoseBefore", "(II)I"⟩ : MethodName) (⟨"DiagramHouse$Nodes", "takeThoseBefore", "(II)I"⟩ : MethodName) ∈ xT := xtp (i := 27) (by decide +kernel) (by decide +kernel)
theorem wp_28 : Cond.selects "DiagramHouse$Nodes" (⟨"DiagramHouse$Nodes", "turn", "(III)V"⟩ : MethodName) (⟨"DiagramHouse$Nodes", "turn", "(III)V"⟩ : MethodName) ∈ xT := xtp (i := 28) (by decide +kernel) (by decide +kernel)
theorem wp_29 : Cond.selects "DiagramHouse$Diagrams" (⟨"DiagramHouse$Diagrams", "putIn", "(II)V"⟩ : MethodName) (⟨"DiagramHouse$Diagrams", "putIn", "(II)V"⟩ : MethodName) ∈ xT := xtp (i := 29) (by decide +kernel) (by decide +kernel)
theorem wp_30 : Cond.selects "java/lang/Throwable" (⟨"java/lang/Throwable", "fillInStackTrace", "(I)Ljava/lang/Throwable;"⟩ : MethodName) (⟨"java/lang/Throwable", "fillInStackTrace", "(I)Ljava/lang/Throwable;"⟩ : MethodName) ∈ xT := xtp (i := 30) (by decide +kernel) (by decide +kernel)
theorem wp_31 : Cond.selects "DiagramHouse$Functions" (⟨"DiagramHouse$Functions", "putSpare", "(II)V"⟩ : MethodName) (⟨"DiagramHouse$Functions", "putSpare", "(II)V"⟩ : MethodName) ∈ xT := xtp (i := 31) (by decide +kernel) (by decide +kernel)
theorem wp_32 : Cond.selects "DiagramHouse$Functions" (⟨"DiagramHouse$Functions", "restrictWithinWords", "(III)V"⟩ : MethodName) (⟨"DiagramHouse$Functions", "restrictWithinWords", "(III)V"⟩ : MethodName) ∈ xT := xtp (i := 32) (by decide +kernel) (by decide +kernel)
theorem wp_33 : Cond.selects "DiagramHouse$Functions" (⟨"DiagramHouse$Functions", "restrictWords", "(III)V"⟩ : MethodName) (⟨"DiagramHouse$Functions", "restrictWords", "(III)V"⟩ : MethodName) ∈ xT := xtp (i := 33) (by decide +kernel) (by decide +kernel)
theorem wp_34 : Cond.selects "DiagramHouse$Functions" (⟨"DiagramHouse$Functions", "replaceWithinWords", "(III)V"⟩ : MethodName) (⟨"DiagramHouse$Functions", "replaceWithinWords", "(III)V"⟩ : MethodName) ∈ xT := xtp (i := 34) (by decide +kernel) (by decide +kernel)
theorem wp_35 : Cond.selects "DiagramHouse$Functions" (⟨"DiagramHouse$Functions", "replaceWords", "(IIII)V"⟩ : MethodName) (⟨"DiagramHouse$Functions", "replaceWords", "(IIII)V"⟩ : MethodName) ∈ xT := xtp (i := 35) (by decide +kernel) (by decide +kernel)
theorem wp_36 : Cond.selects "DiagramHouse$Functions" (⟨"DiagramHouse$Functions", "someWords", "(IIIIJ)J"⟩ : MethodName) (⟨"DiagramHouse$Functions", "someWords", "(IIIIJ)J"⟩ : MethodName) ∈ xT := xtp (i := 36) (by decide +kernel) (by decide +kernel)
theorem wp_37 : Cond.selects "DiagramHouse$Nodes" (⟨"DiagramHouse$Nodes", "unseenFrom", "(II)I"⟩ : MethodName) (⟨"DiagramHouse$Nodes", "unseenFrom", "(II)I"⟩ : MethodName) ∈ xT := xtp (i := 37) (by decide +kernel) (by decide +kernel)
theorem wp_38 : Cond.selects "DiagramHouseModel" (⟨"DiagramHouseModel", "refuse", "(ZZ)Z"⟩ : MethodName) (⟨"DiagramHouseModel", "refuse", "(ZZ)Z"⟩ : MethodName) ∈ xT := xtp (i := 38) (by decide +kernel) (by decide +kernel)
theorem wp_39 : Cond.selects "DiagramHouseModel" (⟨"DiagramHouseModel", "is", "(II)Z"⟩ : MethodName) (⟨"DiagramHouseModel", "is", "(II)Z"⟩ : MethodName) ∈ xT := xtp (i := 39) (by decide +kernel) (by decide +kernel)
theorem wp_40 : Cond.selects "DiagramHouseModel" (⟨"DiagramHouseModel", "take", "(I)V"⟩ : MethodName) (⟨"DiagramHouseModel", "take", "(I)V"⟩ : MethodName) ∈ xT := xtp (i := 40) (by decide +kernel) (by decide +kernel)
theorem wp_41 : Cond.selects "DiagramHouseModel" (⟨"DiagramHouseModel", "quantifyMade", "(IZ)V"⟩ : MethodName) (⟨"DiagramHouseModel", "quantifyMade", "(IZ)V"⟩ : MethodName) ∈ xT := xtp (i := 41) (by decide +kernel) (by decide +kernel)
theorem wp_42 : Cond.selects "DiagramHouseModel" (⟨"DiagramHouseModel", "whole", "()I"⟩ : MethodName) (⟨"DiagramHouseModel", "whole", "()I"⟩ : MethodName) ∈ xT := xtp (i := 42) (by decide +kernel) (by decide +kernel)
theorem wp_43 : Cond.selects "DiagramHouseModel" (⟨"DiagramHouseModel", "countQuestions", "(II)I"⟩ : MethodName) (⟨"DiagramHouseModel", "countQuestions", "(II)I"⟩ : MethodName) ∈ xT := xtp (i := 43) (by decide +kernel) (by decide +kernel)
theorem wp_44 : Cond.selects "DiagramHouseModel" (⟨"DiagramHouseModel", "inputsOf", "(I)I"⟩ : MethodName) (⟨"DiagramHouseModel", "inputsOf", "(I)I"⟩ : MethodName) ∈ xT := xtp (i := 44) (by decide +kernel) (by decide +kernel)
theorem wp_45 : Cond.selects "DiagramHouseModel" (⟨"DiagramHouseModel", "pair", "(II)I"⟩ : MethodName) (⟨"DiagramHouseModel", "pair", "(II)I"⟩ : MethodName) ∈ xT := xtp (i := 45) (by decide +kernel) (by decide +kernel)
theorem wp_46 : Cond.selects "DiagramHouseModel" (⟨"DiagramHouseModel", "moveTo", "(II)V"⟩ : MethodName) (⟨"DiagramHouseModel", "moveTo", "(II)V"⟩ : MethodName) ∈ xT := xtp (i := 46) (by decide +kernel) (by decide +kernel)
theorem wp_47 : Cond.selects "DiagramHouseModel" (⟨"DiagramHouseModel", "placeOf", "(I)I"⟩ : MethodName) (⟨"DiagramHouseModel", "placeOf", "(I)I"⟩ : MethodName) ∈ xT := xtp (i := 47) (by decide +kernel) (by decide +kernel)
theorem wp_48 : Cond.selects "DiagramHouseModel" (⟨"DiagramHouseModel", "siftInput", "(I)I"⟩ : MethodName) (⟨"DiagramHouseModel", "siftInput", "(I)I"⟩ : MethodName) ∈ xT := xtp (i := 48) (by decide +kernel) (by decide +kernel)
theorem wp_49 : Cond.selects "DiagramHouseModel" (⟨"DiagramHouseModel", "isAsked", "(III)Z"⟩ : MethodName) (⟨"DiagramHouseModel", "isAsked", "(III)Z"⟩ : MethodName) ∈ xT := xtp (i := 49) (by decide +kernel) (by decide +kernel)
